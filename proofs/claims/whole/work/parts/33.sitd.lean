/-! seatSet, fillUp -/
section SD1
def pc : Nat → Nat → Nat
  | 0, _ => 0
  | n + 1, S => pc n S + (if S.testBit n then 1 else 0)
theorem pc_le (S : Nat) : ∀ n, pc n S ≤ n := by
  intro n
  induction n with
  | zero => exact Nat.le_refl _
  | succ n ih => unfold pc; split <;> omega
theorem pc_or {S x : Nat} (hx : S.testBit x = false) : ∀ n, pc n (S ||| 2 ^ x) = pc n S + (if x < n then 1 else 0) := by
  intro n
  induction n with
  | zero => simp [pc]
  | succ n ih =>
    unfold pc
    rw [ih, Nat.testBit_or, Nat.testBit_two_pow]
    by_cases h1 : x = n
    · subst h1; simp [hx]
    · by_cases h3 : x < n
      · have : x < n + 1 := by omega
        simp [h1, h3, this]; omega
      · have : ¬ x < n + 1 := by omega
        simp [h1, h3, this]
theorem aw_ge {Dm : Nat → Nat → Nat} {S s B : Nat} (hB : B ≤ 99) : ∀ t, (B ≤ aw Dm S s t ↔ ∀ u, u < t → S.testBit u = true → B ≤ Dm s u) := by
  intro t
  induction t with
  | zero => simp [aw]; exact hB
  | succ t ih =>
    unfold aw
    by_cases h : S.testBit t
    · rw [if_pos h]
      constructor
      · intro hm u hu hb
        by_cases hut : u = t
        · subst hut; omega
        · exact ih.mp (by omega) u (by omega) hb
      · intro hm
        have h1 := ih.mpr (fun u hu hb => hm u (by omega) hb)
        have h2 := hm t (by omega) h
        omega
    · rw [if_neg h, ih]
      constructor
      · intro hm u hu hb
        by_cases hut : u = t
        · subst hut; exact absurd hb h
        · exact hm u (by omega) hb
      · intro hm u hu hb
        exact hm u (by omega) hb
theorem tb_mod (S i u : Nat) : (S % 2 ^ i).testBit u = (decide (u < i) && S.testBit u) := Nat.testBit_mod_two_pow S i u
theorem mod_succ_bit {S i : Nat} : S % 2 ^ (i + 1) = if S.testBit i then S % 2 ^ i ||| 2 ^ i else S % 2 ^ i := by
  apply Nat.eq_of_testBit_eq
  intro u
  by_cases h : S.testBit i
  · rw [if_pos h, Nat.testBit_or, tb_mod, tb_mod, Nat.testBit_two_pow]
    by_cases h1 : i = u
    · subst h1; simp [h]
    · have : (u < i + 1) ↔ u < i := by omega
      simp [h1, this]
  · rw [if_neg h, tb_mod, tb_mod]
    by_cases h1 : u = i
    · subst h1; simp at h; simp [h]
    · have : (u < i + 1) ↔ u < i := by omega
      simp [this]
theorem fil_iff {n : Nat} {Dm : Nat → Nat → Nat} {B S : Nat} (hD : Dok n Dm) (hB : B ≤ 99) : fil n Dm B S ↔ ∀ i, i < n → S.testBit i = true → B ≤ aw Dm (S % 2 ^ i) i n := by
  obtain ⟨hn, hn1, h99, hsym, h0⟩ := hD
  constructor
  · intro hf i hi hb
    rw [aw_ge hB]
    intro u hu hub
    rw [tb_mod] at hub
    simp at hub
    rw [hsym i u hi hu]
    exact hf u i hub.1 hi hub.2 hb
  · intro h s t hst ht hs htb
    have := (aw_ge hB n).mp (h t ht htb) s (by omega) (by rw [tb_mod]; simp [hst, hs])
    rw [hsym s t (by omega) ht]
    exact this
/-- the row of who is how near, as a row -/
def NF (n : Nat) (Dm : Nat → Nat → Nat) (b : Nat → Int32) (S : Nat) : Nat → Int32 := fun j => if j < n then nI (aw Dm S j n) else b j
theorem NF_nea (n : Nat) (Dm : Nat → Nat → Nat) (b : Nat → Int32) (S : Nat) : Nea n Dm S (NF n Dm b S) := fun j hj => by simp [NF, hj]
theorem x_leaveN {n : Nat} {Dm : Nat → Nat → Nat} (hD : Dok n Dm) (B : Int32) (f : Nat → Int32) : f_X9_leave B f = some (0, B, NF n Dm (fun j => if j < 12 then 99 else f j) 0) := by
  rw [x_leave]
  congr 3
  funext j
  unfold NF
  by_cases h : j < n
  · have : j < 12 := by have := hD.1; omega
    simp only [h, this, if_true, aw_zero]
    rfl
  · simp [h]
theorem x_sitN {n : Nat} {Dm : Nat → Nat → Nat} {S x : Nat} {b g : Nat → Int32} (hD : Dok n Dm) (hF : Far n Dm g) (hx : x < n) : f_X9_sit (nI S) (nI n) (NF n Dm b S) g (nI x) = some (nI (S ||| 2 ^ x), NF n Dm b (S ||| 2 ^ x)) := by
  obtain ⟨hn, hn1, h99, hsym, h0⟩ := hD
  have h : f_X9_sit_14 (nI n) g (nI x) FU 0 (NF n Dm b S) = some (NF n Dm b (S ||| 2 ^ x)) := by
    refine lp_at (fun m i z => f_X9_sit_14 (nI n) g (nI x) m (nI i) z) n (fun i j => if j < i then NF n Dm b (S ||| 2 ^ x) j else NF n Dm b S j) (by funext j; simp) (by omega) ?_ ?_
    · intro m
      rw [f_X9_sit_14_s, if_pos (ps_le (by omega) (by omega) (Nat.le_refl n))]
      congr 1
      funext j
      by_cases hj : j < n
      · simp [hj]
      · simp [hj, NF]
    · intro m i hi
      have a1 := aw_le Dm S i n
      have a2 := h99 x i
      rw [f_X9_sit_14_s, if_neg (ng_le (by omega) (by omega) hi), nu_get _ (show i < 12 by omega) (by omega), Option.bind_some, x_farness hn hF hx hi, Option.bind_some]
      simp only [Nat.lt_irrefl, if_false]
      rw [NF_nea n Dm b S i hi, imin_n (by omega) (by omega), nu_set _ _ (show i < 12 by omega) (by omega), Option.bind_some, nI_1, upd_lt]
      rw [NF_nea n Dm b (S ||| 2 ^ x) i hi, aw_or, if_pos hx, hsym x i hx hi]
  unfold f_X9_sit
  rw [h, Option.bind_some, nu_or (by omega)]
theorem x_seatSet {n : Nat} {Dm : Nat → Nat → Nat} {S B : Nat} {f g : Nat → Int32} (hD : Dok n Dm) (hB : B ≤ 99) (hF : Far n Dm g) (hS : S < 2 ^ n) :
    (fil n Dm B S → f_X9_seatSet (nI n) (nI B) f g (nI S) = some (1, nI S, nI B, NF n Dm (fun j => if j < 12 then 99 else f j) S)) ∧
    (¬ fil n Dm B S → ∃ a f', f_X9_seatSet (nI n) (nI B) f g (nI S) = some (0, a, nI B, f')) := by
  have hn := hD.1
  have hS2 : S < 2 ^ 31 := Nat.lt_of_lt_of_le hS (Nat.pow_le_pow_right (by omega) (by omega))
  generalize hb : (fun j => if j < 12 then (99 : Int32) else f j) = b
  have hgo : ∀ (k : Nat) (o : (Int32 × (Nat → Int32)) ⊕ (Int32 × Int32 × Int32 × (Nat → Int32))), k ≤ n → (∀ i, i < k → S.testBit i = true → B ≤ aw Dm (S % 2 ^ i) i n) → (∀ m, f_X9_seatSet_6 (nI n) g (nI S) (0, nI B, NF n Dm b 0) (m + 1) (nI k) (nI (S % 2 ^ k)) (NF n Dm b (S % 2 ^ k)) = some o) → f_X9_seatSet_6 (nI n) g (nI S) (0, nI B, NF n Dm b 0) FU 0 0 (NF n Dm b 0) = some o := by
    intro k o hk hok hx
    refine lp_at2 (fun m i z z' => f_X9_seatSet_6 (nI n) g (nI S) (0, nI B, NF n Dm b 0) m (nI i) z z') k (fun i => nI (S % 2 ^ i)) (fun i => NF n Dm b (S % 2 ^ i)) (by simp [Nat.mod_one]; rfl) (by simp [Nat.mod_one]) (by omega) hx ?_
    intro m i hi
    rw [f_X9_seatSet_6_s, if_neg (ng_le (by omega) (by omega) (by omega))]
    by_cases hbit : S.testBit i
    · rw [if_neg (fun hh => by rw [nu_bit0 hS2 (by omega)] at hh; rw [hbit] at hh; cases hh), x_isOpen hn (by omega) (NF_nea n Dm b (S % 2 ^ i)) (show i < n by omega), Option.bind_some, if_pos (hok i hi hbit), if_neg (by decide), x_sitN hD hF (by omega), Option.bind_some, nI_1, mod_succ_bit, if_pos hbit]
    · rw [if_pos (by rw [nu_bit0 hS2 (by omega)]; simpa using hbit), nI_1, mod_succ_bit, if_neg hbit]
  constructor
  · intro hf
    have h := hgo n (Sum.inl (nI (S % 2 ^ n), NF n Dm b (S % 2 ^ n))) (Nat.le_refl n) ((fil_iff hD hB).mp hf) (fun m => by rw [f_X9_seatSet_6_s, if_pos (ps_le (by omega) (by omega) (Nat.le_refl n))])
    rw [Nat.mod_eq_of_lt hS] at h
    unfold f_X9_seatSet
    rw [x_leaveN hD, hb, Option.bind_some]
    simp only [h, Option.bind_some, Sum.elim_inl]
  · intro hf
    have hex : ∃ i, i < n ∧ S.testBit i = true ∧ ¬ B ≤ aw Dm (S % 2 ^ i) i n := by
      apply Classical.byContradiction
      intro hno
      apply hf
      rw [fil_iff hD hB]
      intro i hi hb2
      apply Classical.byContradiction
      intro hc
      exact hno ⟨i, hi, hb2, hc⟩
    obtain ⟨k, ⟨hk1, hk2, hk3⟩, hmin⟩ := pk_least _ hex
    have h := hgo k (Sum.inr (0, nI (S % 2 ^ k), nI B, NF n Dm b (S % 2 ^ k))) (by omega) (fun i hi hb2 => Classical.byContradiction (fun hc => hmin i hi ⟨by omega, hb2, hc⟩)) (fun m => by
      rw [f_X9_seatSet_6_s, if_neg (ng_le (by omega) (by omega) hk1), if_neg (fun hh => by rw [nu_bit0 hS2 (by omega)] at hh; rw [hk2] at hh; cases hh), x_isOpen hn (by omega) (NF_nea n Dm b (S % 2 ^ k)) hk1, Option.bind_some, if_neg hk3, if_pos rfl])
    refine ⟨nI (S % 2 ^ k), NF n Dm b (S % 2 ^ k), ?_⟩
    unfold f_X9_seatSet
    rw [x_leaveN hD, hb, Option.bind_some]
    simp only [h, Option.bind_some, Sum.elim_inr]
end SD1
