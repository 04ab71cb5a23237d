/-! WHO SITS WHERE: the pictures by Nat, the class' Sitters, the reference's awayOf .. filledBy -/
section SP1
/-- AWAY of s from the set S, over the first t seats -/
def aw (Dm : Nat → Nat → Nat) (S s : Nat) : Nat → Nat
  | 0 => 99
  | t + 1 => if S.testBit t then min (aw Dm S s t) (Dm s t) else aw Dm S s t
theorem aw_le (Dm : Nat → Nat → Nat) (S s t : Nat) : aw Dm S s t ≤ 99 := by
  induction t with
  | zero => exact Nat.le_refl _
  | succ t ih => unfold aw; split <;> omega
theorem aw_zero (Dm : Nat → Nat → Nat) (s t : Nat) : aw Dm 0 s t = 99 := by
  induction t with
  | zero => rfl
  | succ t ih => unfold aw; simp [ih]
theorem aw_or (Dm : Nat → Nat → Nat) (S s x : Nat) : ∀ t, aw Dm (S ||| 2 ^ x) s t = if x < t then min (aw Dm S s t) (Dm s x) else aw Dm S s t := by
  intro t
  induction t with
  | zero => simp [aw]
  | succ t ih =>
    unfold aw
    rw [ih, Nat.testBit_or, Nat.testBit_two_pow]
    by_cases h1 : x = t
    · subst h1
      by_cases h2 : S.testBit x <;> simp [h2] <;> omega
    · by_cases h2 : S.testBit t
      · by_cases h3 : x < t
        · have : x < t + 1 := by omega
          simp [h1, h2, h3, this]; omega
        · have : ¬ x < t + 1 := by omega
          simp [h1, h2, h3, this]
      · by_cases h3 : x < t
        · have : x < t + 1 := by omega
          simp [h1, h2, h3, this]
        · have : ¬ x < t + 1 := by omega
          simp [h1, h2, h3, this]
/-- the seats that may be taken, over the first i seats, as bits -/
def opm (n : Nat) (Dm : Nat → Nat → Nat) (B S : Nat) : Nat → Nat
  | 0 => 0
  | i + 1 => if B ≤ aw Dm S i n then opm n Dm B S i ||| 2 ^ i else opm n Dm B S i
theorem opm_lt (n : Nat) (Dm : Nat → Nat → Nat) (B S : Nat) : ∀ i, opm n Dm B S i < 2 ^ i := by
  intro i
  induction i with
  | zero => simp [opm]
  | succ i ih =>
    have h : 2 ^ i < 2 ^ (i + 1) := Nat.pow_lt_pow_right (by omega) (by omega)
    unfold opm
    split
    · exact Nat.or_lt_two_pow (by omega) h
    · omega
theorem opm_bit (n : Nat) (Dm : Nat → Nat → Nat) (B S : Nat) (k : Nat) : ∀ i, (opm n Dm B S i).testBit k = decide (k < i ∧ B ≤ aw Dm S k n) := by
  intro i
  induction i with
  | zero => simp [opm]
  | succ i ih =>
    unfold opm
    by_cases h : B ≤ aw Dm S i n
    · rw [if_pos h, Nat.testBit_or, ih, Nat.testBit_two_pow]
      by_cases h2 : i = k
      · subst h2; simp [h]
      · have : (k < i + 1) ↔ k < i := by omega
        simp [h2, this]
    · rw [if_neg h, ih]
      by_cases h2 : i = k
      · subst h2; simp [h]
      · have : (k < i + 1) ↔ k < i := by omega
        simp [this]
/-- how many seats are 1 apart from s, over the first t seats -/
def nbr (Dm : Nat → Nat → Nat) (s : Nat) : Nat → Nat
  | 0 => 0
  | t + 1 => nbr Dm s t + (if Dm s t = 1 then 1 else 0)
theorem nbr_le (Dm : Nat → Nat → Nat) (s : Nat) : ∀ t, nbr Dm s t ≤ t := by
  intro t
  induction t with
  | zero => exact Nat.le_refl _
  | succ t ih => unfold nbr; split <;> omega
/-- the best of those that may be, the first of like ones -/
def bnx (R : Nat → Int) (i : Nat) : Option Nat → Option Nat
  | none => some i
  | some b => if R b < R i then some i else some b
def bst (op : Nat → Bool) (R : Nat → Int) : Nat → Option Nat
  | 0 => none
  | i + 1 => if op i then bnx R i (bst op R i) else bst op R i
theorem bst_some {op : Nat → Bool} {R : Nat → Int} : ∀ {i b : Nat}, bst op R i = some b → b < i ∧ op b = true := by
  intro i
  induction i with
  | zero => intro b h; simp [bst] at h
  | succ i ih =>
    intro b h
    unfold bst at h
    by_cases ho : op i
    · rw [if_pos ho] at h
      cases hb : bst op R i with
      | none => rw [hb] at h; simp [bnx] at h; subst h; exact ⟨by omega, ho⟩
      | some c =>
        rw [hb] at h
        simp only [bnx] at h
        split at h
        · simp at h; subst h; exact ⟨by omega, ho⟩
        · simp at h; subst h
          have := ih hb
          exact ⟨by omega, this.2⟩
    · rw [if_neg ho] at h
      have := ih h
      exact ⟨by omega, this.2⟩
theorem bst_congr {op op' : Nat → Bool} {R R' : Nat → Int} {n : Nat} (ho : ∀ i, i < n → op i = op' i) (hR : ∀ b i, b < i → i < n → op b = true → op i = true → (R b < R i ↔ R' b < R' i)) : ∀ i, i ≤ n → bst op R i = bst op' R' i := by
  intro i
  induction i with
  | zero => intro _; rfl
  | succ i ih =>
    intro hi
    unfold bst
    rw [← ih (by omega), ← ho i (by omega)]
    by_cases h : op i
    · rw [if_pos h, if_pos h]
      cases hb : bst op R i with
      | none => rfl
      | some b =>
        have hbs := bst_some hb
        have := hR b i hbs.1 (by omega) hbs.2 h
        simp only [bnx, this]
    · rw [if_neg h, if_neg h]
theorem bst_none {op : Nat → Bool} {R : Nat → Int} : ∀ {i : Nat}, bst op R i = none → ∀ k, k < i → op k = false := by
  intro i
  induction i with
  | zero => intro _ k hk; omega
  | succ i ih =>
    intro h k hk
    unfold bst at h
    by_cases ho : op i
    · rw [if_pos ho] at h
      cases hb : bst op R i with
      | none => rw [hb] at h; simp [bnx] at h
      | some c => rw [hb] at h; simp only [bnx] at h; split at h <;> simp at h
    · rw [if_neg ho] at h
      by_cases hk2 : k = i
      · subst hk2; simpa using ho
      · exact ih h k (by omega)
/-- a seat or NONE, as an int -/
def eO32 (o : Option Nat) : Int32 := match o with
  | none => -6
  | some s => nI s
def iI (z : Int) : Int32 := Int32.ofInt z
theorem iI_toInt {z : Int} (h1 : -2147483648 ≤ z) (h2 : z < 2147483648) : (iI z).toInt = z := Int32.toInt_ofInt_of_le (by simpa using h1) (by simpa using h2)
theorem iI_le {a b : Int} (a1 : -2147483648 ≤ a) (a2 : a < 2147483648) (b1 : -2147483648 ≤ b) (b2 : b < 2147483648) : (iI a ≤ iI b) = (a ≤ b) := by
  apply propext
  rw [Int32.le_iff_toInt_le, iI_toInt a1 a2, iI_toInt b1 b2]
theorem iI_nat (n : Nat) : iI (n : Int) = nI n := rfl
theorem eO32_neg {s : Nat} (h : s < 2 ^ 31) : ¬ (nI s = -6) := by
  intro hh
  have := congrArg Int32.toInt hh
  rw [nI_toInt h] at this
  have h6 : (-6 : Int32).toInt = -6 := by decide
  omega
/-- the wish of the class for seat s by habit h -/
def Rc (n : Nat) (Dm : Nat → Nat → Nat) (w : Nat → Nat) (S h s : Nat) : Int :=
  if h = 0 then 10 * (aw Dm S s n : Int) + w s
  else if h = 1 then 100 * (w s : Int) + aw Dm S s n
  else if h = 2 then 0
  else if h = 3 then s
  else if h = 4 then -(aw Dm S s n : Int)
  else (aw Dm S s n : Int) - 100 * nbr Dm s n
def Rm (n : Nat) (Dm : Nat → Nat → Nat) (w : Nat → Nat) (S h s : Nat) : Int :=
  if h = 0 then 100 * (aw Dm S s n : Int) + w s
  else if h = 1 then 100 * (w s : Int) + aw Dm S s n
  else if h = 2 then -(s : Int)
  else if h = 3 then s
  else if h = 4 then -(aw Dm S s n : Int)
  else (aw Dm S s n : Int) - 100 * nbr Dm s n
theorem Rc_Rm {n : Nat} {Dm : Nat → Nat → Nat} {w : Nat → Nat} {S h b i : Nat} (hb : b < i) (wb : w b ≤ 9) (wi : w i ≤ 9) : (Rc n Dm w S h b < Rc n Dm w S h i ↔ Rm n Dm w S h b < Rm n Dm w S h i) := by
  unfold Rc Rm
  split
  · omega
  · split
    · exact Iff.rfl
    · split
      · constructor <;> intro <;> omega
      · exact Iff.rfl
/-- the seat taken by a habit -/
def tak (n : Nat) (Dm : Nat → Nat → Nat) (B : Nat) (w : Nat → Nat) (S h : Nat) : Option Nat := bst (fun s => decide (B ≤ aw Dm S s n)) (Rc n Dm w S h) n
/-- filled up by a habit, at most k more -/
def flu (n : Nat) (Dm : Nat → Nat → Nat) (B : Nat) (w : Nat → Nat) (h : Nat) : Nat → Nat → Nat
  | 0, S => S
  | k + 1, S => match tak n Dm B w S h with
    | none => S
    | some s => flu n Dm B w h k (S ||| 2 ^ s)
/-- all who sit bear each other -/
def fil (n : Nat) (Dm : Nat → Nat → Nat) (B S : Nat) : Prop := ∀ s t, s < t → t < n → S.testBit s = true → S.testBit t = true → B ≤ Dm s t
theorem imin_n {a b : Nat} (ha : a < 2 ^ 31) (hb : b < 2 ^ 31) : imin (nI a) (nI b) = nI (min a b) := by
  unfold imin
  by_cases h : b < a
  · rw [if_pos ((nI_ltI hb ha).mpr h), Nat.min_eq_right (by omega)]
  · rw [if_neg (fun hh => h ((nI_ltI hb ha).mp hh)), Nat.min_eq_left (by omega)]
end SP1
