/-! ranges, by the class and by the reference -/
section RG1
def inR (x a b : Int32) : Bool := decide (a ≤ x ∧ x ≤ b)
theorem oz_b (b : Bool) : oz (b32 b) = some (b32 b) := by cases b <;> rfl
theorem b32_0 (b : Bool) : (b32 b = 0) ↔ b = false := by cases b <;> simp [b32]
theorem x_within (x a b : Int32) : f_X10_isWithin x a b = some (b32 (inR x a b)) := by
  unfold f_X10_isWithin inR
  by_cases h1 : x < a
  · have : ¬ (a ≤ x ∧ x ≤ b) := fun h => by
      have h2 := Int32.le_iff_toInt_le.mp h.1
      have h3 := Int32.lt_iff_toInt_lt.mp h1
      omega
    rw [if_pos h1, decide_eq_false this]
    rfl
  · have ha : a ≤ x := by
      rw [Int32.le_iff_toInt_le]
      rw [Int32.lt_iff_toInt_lt] at h1
      omega
    rw [if_neg h1]
    by_cases h2 : b < x
    · have : ¬ (a ≤ x ∧ x ≤ b) := fun h => by
        have h4 := Int32.le_iff_toInt_le.mp h.2
        have h3 := Int32.lt_iff_toInt_lt.mp h2
        omega
      rw [if_pos h2, decide_eq_false this]
      rfl
    · have hb : x ≤ b := by
        rw [Int32.le_iff_toInt_le]
        rw [Int32.lt_iff_toInt_lt] at h2
        omega
      rw [if_neg h2, decide_eq_true (show a ≤ x ∧ x ≤ b from ⟨ha, hb⟩)]
      rfl
theorem lc_lt (x y : Int64) : (lg_cmp x y < 0) ↔ x < y := by
  unfold lg_cmp
  by_cases h1 : x > y
  · rw [if_pos h1]
    constructor
    · intro h; exact absurd h (by decide)
    · intro h
      have a1 := Int64.lt_iff_toInt_lt.mp h1
      have a2 := Int64.lt_iff_toInt_lt.mp h
      omega
  · rw [if_neg h1]
    by_cases h2 : x = y
    · rw [if_pos h2, h2]
      constructor
      · intro h; exact absurd h (by decide)
      · intro h
        have a2 := Int64.lt_iff_toInt_lt.mp h
        omega
    · rw [if_neg h2]
      constructor
      · intro _
        rw [Int64.lt_iff_toInt_lt]
        have a1 : ¬ y.toInt < x.toInt := fun h => h1 (Int64.lt_iff_toInt_lt.mpr h)
        have a2 : ¬ x.toInt = y.toInt := fun h => h2 (Int64.toInt_inj.mp h)
        omega
      · intro _; decide
theorem lc_gt (x y : Int64) : (0 < lg_cmp x y) ↔ y < x := by
  unfold lg_cmp
  by_cases h1 : x > y
  · rw [if_pos h1]
    exact ⟨fun _ => h1, fun _ => by decide⟩
  · rw [if_neg h1]
    by_cases h2 : x = y
    · rw [if_pos h2]
      exact ⟨fun h => absurd h (by decide), fun h => absurd h h1⟩
    · rw [if_neg h2]
      exact ⟨fun h => absurd h (by decide), fun h => absurd h h1⟩
theorem i64_lt (x y : Int32) : (x.toInt64 < y.toInt64) ↔ x < y := by
  rw [Int64.lt_iff_toInt_lt, Int32.lt_iff_toInt_lt, Int32.toInt_toInt64, Int32.toInt_toInt64]
theorem m_in (x a b : Int32) : f_X11_in x.toInt64 a.toInt64 b.toInt64 = some (b32 (inR x a b)) := by
  rw [← x_within]
  unfold f_X11_in f_X10_isWithin
  have e1 : (lg_cmp x.toInt64 a.toInt64 < 0) ↔ x < a := (lc_lt _ _).trans (i64_lt _ _)
  have e2 : (0 < lg_cmp x.toInt64 b.toInt64) ↔ b < x := (lc_gt _ _).trans (i64_lt _ _)
  by_cases h1 : x < a
  · rw [if_pos (e1.mpr h1), if_pos h1]
  · rw [if_neg (fun h => h1 (e1.mp h)), if_neg h1]
    by_cases h2 : b < x
    · rw [if_pos (e2.mpr h2), if_pos h2]
    · rw [if_neg (fun h => h2 (e2.mp h)), if_neg h2]
theorem x_seat (sx x : Int32) : f_X10_isSeat sx x = some (b32 (inR x 0 (sx - 1))) := by
  unfold f_X10_isSeat
  rw [x_within, Option.bind_some, oz_b, Option.bind_some]
theorem m_seat (sx x : Int32) : f_X11_isSeat sx x = some (b32 (inR x 0 (sx - 1))) := by
  unfold f_X11_isSeat
  rw [show ((0 : Int64)) = (0 : Int32).toInt64 from rfl, m_in, Option.bind_some, oz_b, Option.bind_some]
theorem x_habit (x : Int32) : f_X10_isHabit x = some (b32 (inR x 0 5)) := by
  unfold f_X10_isHabit
  rw [x_within, Option.bind_some, oz_b, Option.bind_some]
theorem m_habit (x : Int32) : f_X11_isHabit x = some (b32 (inR x 0 5)) := by
  unfold f_X11_isHabit
  rw [show ((0 : Int64)) = (0 : Int32).toInt64 from rfl, show ((5 : Int64)) = (5 : Int32).toInt64 from rfl, m_in, Option.bind_some, oz_b, Option.bind_some]
theorem inR_nat {x : Int32} {b : Nat} (hb : b < 2 ^ 31) : inR x 0 (nI b) = true ↔ ∃ s, s ≤ b ∧ x = nI s := by
  unfold inR
  rw [decide_eq_true_eq]
  constructor
  · intro ⟨h1, h2⟩
    exact nI_of2 (M := nI b) (nI_toInt hb) (fun h => by
      have a1 := Int32.le_iff_toInt_le.mp h1
      have a2 := Int32.lt_iff_toInt_lt.mp h
      omega) h2
  · intro ⟨s, h1, h2⟩
    subst h2
    exact ⟨nI_pos' (by omega), ps_le (by omega) (by omega) h1⟩
theorem inR_seat {x : Int32} {n : Nat} (hn1 : 1 ≤ n) (hn : n ≤ 12) : inR x 0 (nI n - 1) = true ↔ ∃ s, s < n ∧ x = nI s := by
  have e : nI n - 1 = nI (n - 1) := by
    have := nI_pred (n - 1)
    rw [show n - 1 + 1 = n by omega] at this
    exact this
  rw [e, inR_nat (by omega)]
  constructor
  · intro ⟨s, h1, h2⟩; exact ⟨s, by omega, h2⟩
  · intro ⟨s, h1, h2⟩; exact ⟨s, by omega, h2⟩
/-- the set's bits are seats' -/
theorem x_all {n : Nat} (hn : n ≤ 12) : f_X7_allSeats (nI n) = some (nI (2 ^ n - 1)) := by
  unfold f_X7_allSeats
  rw [nu_shl (by omega)]
  have h : 1 ≤ 2 ^ n := Nat.one_le_two_pow
  have := nI_pred (2 ^ n - 1)
  rw [show 2 ^ n - 1 + 1 = 2 ^ n by omega] at this
  rw [this]
theorem m_set {n : Nat} (hn : n ≤ 12) (x : Int32) : f_X11_isSet (nI n) x = some (b32 (inR x 0 (nI (2 ^ n - 1)))) := by
  unfold f_X11_isSet
  have h : 1 ≤ 2 ^ n := Nat.one_le_two_pow
  have := nI_pred (2 ^ n - 1)
  rw [show 2 ^ n - 1 + 1 = 2 ^ n by omega] at this
  rw [nu_shl (by omega), this, show ((0 : Int64)) = (0 : Int32).toInt64 from rfl, m_in, Option.bind_some, oz_b, Option.bind_some]
theorem inR_set {x : Int32} {n : Nat} (hn : n ≤ 12) : inR x 0 (nI (2 ^ n - 1)) = true ↔ ∃ S, S < 2 ^ n ∧ x = nI S := by
  have h : 1 ≤ 2 ^ n := Nat.one_le_two_pow
  have hp : 2 ^ n ≤ 2 ^ 12 := Nat.pow_le_pow_right (by omega) hn
  rw [inR_nat (by omega)]
  constructor
  · intro ⟨s, h1, h2⟩; exact ⟨s, by omega, h2⟩
  · intro ⟨s, h1, h2⟩; exact ⟨s, by omega, h2⟩
theorem x_bits {x : Int32} {n : Nat} (hn : n ≤ 12) : (x &&& (nI (2 ^ n - 1) ^^^ (-1)) = 0) ↔ ∃ S, S < 2 ^ n ∧ x = nI S := by
  have hp : 2 ^ n ≤ 2 ^ 12 := Nat.pow_le_pow_right (by omega) hn
  have h1 : 1 ≤ 2 ^ n := Nat.one_le_two_pow
  have em : (-1 : Int32).toBitVec = BitVec.allOnes 32 := by decide
  have eb : (x &&& (nI (2 ^ n - 1) ^^^ (-1))).toBitVec = x.toBitVec &&& ~~~ (nI (2 ^ n - 1)).toBitVec := by
    show x.toBitVec &&& ((nI (2 ^ n - 1)).toBitVec ^^^ (-1 : Int32).toBitVec) = _
    rw [em, BitVec.xor_allOnes]
  have hbit : ∀ i, i < 32 → (x &&& (nI (2 ^ n - 1) ^^^ (-1))).toBitVec.getLsbD i = (x.toBitVec.getLsbD i && !decide (i < n)) := by
    intro i hi
    rw [eb, BitVec.getLsbD_and, BitVec.getLsbD_not]
    have : (nI (2 ^ n - 1)).toBitVec.getLsbD i = decide (i < n) := by
      rw [BitVec.getLsbD, pk_tn (by omega), Nat.testBit_two_pow_sub_one]
    rw [this]
    simp [hi]
  constructor
  · intro h
    refine ⟨x.toBitVec.toNat, ?_, ?_⟩
    · apply Nat.lt_pow_two_of_testBit
      intro i hi
      by_cases h32 : i < 32
      · have := hbit i h32
        rw [h] at this
        have e0 : (0 : Int32).toBitVec.getLsbD i = false := by
          show (0#32).getLsbD i = false
          simp
        rw [e0] at this
        have hni : ¬ i < n := by omega
        simp only [hni, decide_false, Bool.not_false, Bool.and_true] at this
        exact this.symm
      · exact Nat.testBit_lt_two_pow (Nat.lt_of_lt_of_le x.toBitVec.isLt (Nat.pow_le_pow_right (by omega) (by omega)))
    · apply Int32.toBitVec_inj.mp
      apply BitVec.eq_of_toNat_eq
      rw [pk_tn x.toBitVec.isLt]
  · intro ⟨S, hS, hx⟩
    subst hx
    apply Int32.toBitVec_inj.mp
    apply BitVec.eq_of_getLsbD_eq
    intro i hi
    rw [hbit i hi]
    have : (nI S).toBitVec.getLsbD i = S.testBit i := by rw [BitVec.getLsbD, pk_tn (by omega)]
    rw [this]
    by_cases h : i < n
    · simp [h]
    · rw [Nat.testBit_lt_two_pow (Nat.lt_of_lt_of_le hS (Nat.pow_le_pow_right (by omega) (by omega)))]
      simp
end RG1
