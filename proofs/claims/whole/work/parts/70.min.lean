/-! minutes: what one minute does -/
section MN1
/-- those who go -/
def gs (F : Nat → Nat) (S : Nat) : Nat := if pc 12 S = 0 then 27720 * F S else sm (fun s => if S.testBit s then 27720 / pc 12 S * F (andn S (2 ^ s)) else 0) 12
def Tm (n : Nat) (Dm : Nat → Nat → Nat) (B : Nat) (w : Nat → Nat) (h : Nat) (F : Nat → Nat) (S : Nat) : Nat := 27720 * F (st1 n Dm B w h S) + gs F S
def pF (n : Nat) (Dm : Nat → Nat → Nat) (B : Nat) (w : Nat → Nat) (h : Nat) (F : Nat → Nat) : Nat → Nat → Nat
  | 0 => F
  | j + 1 => Tm n Dm B w h (pF n Dm B w h F j)
def aF (n : Nat) (Dm : Nat → Nat → Nat) (B : Nat) (w : Nat → Nat) (h : Nat) : Nat → Nat → Nat
  | 0 => fun _ => 0
  | j + 1 => fun S => (if tak n Dm B w S h = none then 55440 ^ j * 27720 else 0) + Tm n Dm B w h (aF n Dm B w h j) S
def ind (c S : Nat) : Nat := if pc 12 S = c then 1 else 0
theorem pF_s (n : Nat) (Dm : Nat → Nat → Nat) (B : Nat) (w : Nat → Nat) (h : Nat) (F : Nat → Nat) (j S : Nat) : pF n Dm B w h F (j + 1) S = 27720 * pF n Dm B w h F j (st1 n Dm B w h S) + gs (pF n Dm B w h F j) S := rfl
theorem aF_s (n : Nat) (Dm : Nat → Nat → Nat) (B : Nat) (w : Nat → Nat) (h : Nat) (j S : Nat) : aF n Dm B w h (j + 1) S = (if tak n Dm B w S h = none then 55440 ^ j * 27720 else 0) + (27720 * aF n Dm B w h j (st1 n Dm B w h S) + gs (aF n Dm B w h j) S) := rfl
theorem dv12 {p : Nat} (h1 : 1 ≤ p) (h2 : p ≤ 12) : p ∣ 27720 := by
  have h : ∀ q : Fin 13, q.val = 0 ∨ q.val ∣ 27720 := by decide
  rcases h ⟨p, by omega⟩ with h | h
  · have : p = 0 := h
    omega
  · exact h
theorem sm_mono {f g : Nat → Nat} : ∀ N, (∀ i, i < N → f i ≤ g i) → sm f N ≤ sm g N := by
  intro N
  induction N with
  | zero => intro _; exact Nat.le_refl _
  | succ N ih =>
    intro h
    have h1 := ih (fun i hi => h i (by omega))
    have h2 := h N (by omega)
    show sm f N + f N ≤ sm g N + g N
    omega
theorem gs_le {F : Nat → Nat} {c : Nat} (hF : ∀ S, F S ≤ c) (S : Nat) : gs F S ≤ 27720 * c := by
  unfold gs
  by_cases h0 : pc 12 S = 0
  · rw [if_pos h0]; exact Nat.mul_le_mul_left _ (hF S)
  · have h12 := pc_le S 12
    rw [if_neg h0]
    have h1 : sm (fun s => if S.testBit s then 27720 / pc 12 S * F (andn S (2 ^ s)) else 0) 12 ≤ sm (fun s => if S.testBit s then 27720 / pc 12 S * c else 0) 12 := by
      apply sm_mono
      intro s _
      by_cases hb : S.testBit s = true
      · rw [if_pos hb, if_pos hb]; exact Nat.mul_le_mul_left _ (hF _)
      · rw [if_neg hb]; exact Nat.zero_le _
    rw [sm_pc, ← Nat.mul_assoc, Nat.mul_div_cancel' (dv12 (by omega) h12)] at h1
    exact h1
theorem Tm_le {n : Nat} {Dm : Nat → Nat → Nat} {B : Nat} {w : Nat → Nat} {h : Nat} {F : Nat → Nat} {c : Nat} (hF : ∀ S, F S ≤ c) (S : Nat) : Tm n Dm B w h F S ≤ 55440 * c := by
  unfold Tm
  have h1 := gs_le hF S
  have h2 : 27720 * F (st1 n Dm B w h S) ≤ 27720 * c := Nat.mul_le_mul_left _ (hF _)
  omega
theorem pF_le {n : Nat} {Dm : Nat → Nat → Nat} {B : Nat} {w : Nat → Nat} {h : Nat} {F : Nat → Nat} (hF : ∀ S, F S ≤ 1) : ∀ j S, pF n Dm B w h F j S ≤ 55440 ^ j := by
  intro j
  induction j with
  | zero => intro S; exact hF S
  | succ j ih =>
    intro S
    rw [Nat.pow_succ, Nat.mul_comm]
    exact Tm_le ih S
theorem aF_le {n : Nat} {Dm : Nat → Nat → Nat} {B : Nat} {w : Nat → Nat} {h : Nat} : ∀ j S, aF n Dm B w h j S ≤ j * 55440 ^ j := by
  intro j
  induction j with
  | zero => intro S; exact Nat.zero_le _
  | succ j ih =>
    intro S
    have h1 := Tm_le (n := n) (Dm := Dm) (B := B) (w := w) (h := h) ih S
    have h2 : (if tak n Dm B w S h = none then 55440 ^ j * 27720 else 0) ≤ 55440 ^ j * 27720 := by
      by_cases e : tak n Dm B w S h = none
      · rw [if_pos e]; exact Nat.le_refl _
      · rw [if_neg e]; exact Nat.zero_le _
    show (if tak n Dm B w S h = none then 55440 ^ j * 27720 else 0) + Tm n Dm B w h (aF n Dm B w h j) S ≤ _
    rw [Nat.pow_succ, Nat.succ_mul, Nat.mul_comm (55440 ^ j) 55440, Nat.mul_left_comm j]
    omega
theorem ind_le (c S : Nat) : ind c S ≤ 1 := by
  unfold ind
  split <;> omega
theorem fil_sub {n : Nat} {Dm : Nat → Nat → Nat} {B S A : Nat} (h : fil n Dm B S) (hs : ∀ t, A.testBit t = true → S.testBit t = true) : fil n Dm B A := fun s t h1 h2 h3 h4 => h s t h1 h2 (hs s h3) (hs t h4)
theorem fil_st1 {n : Nat} {Dm : Nat → Nat → Nat} {B : Nat} {w : Nat → Nat} {h S : Nat} (hD : Dok n Dm) (hB : B ≤ 99) (hf : fil n Dm B S) : fil n Dm B (st1 n Dm B w h S) := by
  cases ht : tak n Dm B w S h with
  | none => rw [st1_none ht]; exact hf
  | some u =>
    rw [st1_some ht]
    obtain ⟨hu, ha⟩ := tak_lt ht
    have ha := (aw_ge hB n).mp ha
    intro s t h1 h2 h3 h4
    rw [Nat.testBit_or, Nat.testBit_two_pow, Bool.or_eq_true, decide_eq_true_eq] at h3 h4
    rcases h3 with h3 | h3
    · rcases h4 with h4 | h4
      · exact hf s t h1 h2 h3 h4
      · rw [← h4, hD.2.2.2.1 s u (by omega) hu]
        exact ha s (by omega) h3
    · rcases h4 with h4 | h4
      · rw [← h3]; exact ha t h2 h4
      · omega
theorem pc_z {n S : Nat} (hn : n ≤ 12) (hS : S < 2 ^ n) (h : pc 12 S = 0) : S = 0 := by
  by_cases e : S = 0
  · exact e
  · have := pc_pos e hS hn; omega
theorem pc_1 {S s : Nat} (hs : s < 12) (hb : S.testBit s = true) : 1 ≤ pc 12 S := by
  have := pc_sub (A := 0) (O := S) (s := s) (fun t ht => by rw [Nat.zero_testBit] at ht; cases ht) (Nat.zero_testBit s) hb 12
  rw [pc_0, if_pos hs] at this
  omega
theorem odv2 {P k : Nat} (h : P * 55440 * k < 2 ^ 62) : odivL (lN (P * 55440 * k)) 2 = some (lN (P * (27720 * k))) := by
  rw [show (2 : Int64) = lN 2 from rfl, div_n (by omega) (by omega) (by omega)]
  congr 2
  rw [show P * 55440 * k = 2 * (P * (27720 * k)) by rw [Nat.mul_assoc, Nat.mul_left_comm P 27720 k, Nat.mul_left_comm P 55440 k]; omega, Nat.mul_div_cancel_left _ (by omega)]
theorem odvp {P k p : Nat} (h1 : 1 ≤ p) (h2 : p ≤ 12) (h : P * (27720 * k) < 2 ^ 62) : odivL (lN (P * (27720 * k))) (nI p).toInt64 = some (lN (P * (27720 / p * k))) := by
  rw [nI_l (by omega), div_n (by omega) (by omega) (by omega)]
  congr 2
  have e : P * (27720 * k) = p * (P * (27720 / p * k)) := by
    rw [Nat.mul_left_comm p P, ← Nat.mul_assoc p, Nat.mul_div_cancel' (dv12 h1 h2)]
  rw [e, Nat.mul_div_cancel_left _ (by omega)]
end MN1
