/-! filled up, by the class and by the reference; the reference's awayOf .. takenBy -/
section FL1
def st1 (n : Nat) (Dm : Nat → Nat → Nat) (B : Nat) (w : Nat → Nat) (h S : Nat) : Nat := match tak n Dm B w S h with
  | none => S
  | some s => S ||| 2 ^ s
def flk (n : Nat) (Dm : Nat → Nat → Nat) (B : Nat) (w : Nat → Nat) (h S : Nat) : Nat → Nat
  | 0 => S
  | k + 1 => st1 n Dm B w h (flk n Dm B w h S k)
theorem st1_some {n : Nat} {Dm : Nat → Nat → Nat} {B : Nat} {w : Nat → Nat} {h S s : Nat} (hs : tak n Dm B w S h = some s) : st1 n Dm B w h S = S ||| 2 ^ s := by simp [st1, hs]
theorem st1_none {n : Nat} {Dm : Nat → Nat → Nat} {B : Nat} {w : Nat → Nat} {h S : Nat} (hs : tak n Dm B w S h = none) : st1 n Dm B w h S = S := by simp [st1, hs]
theorem tak_lt {n : Nat} {Dm : Nat → Nat → Nat} {B : Nat} {w : Nat → Nat} {h S s : Nat} (hs : tak n Dm B w S h = some s) : s < n ∧ B ≤ aw Dm S s n := by
  have := bst_some hs
  simpa using this
theorem aw_self {n : Nat} {Dm : Nat → Nat → Nat} {S s : Nat} (hD : Dok n Dm) (hs : s < n) (hb : S.testBit s = true) : aw Dm S s n = 0 := by
  apply Classical.byContradiction
  intro hne
  have h1 : 1 ≤ aw Dm S s n := by omega
  have := (aw_ge (B := 1) (by omega) n).mp h1 s hs hb
  rw [hD.2.2.2.2 s hs] at this
  omega
theorem tak_new {n : Nat} {Dm : Nat → Nat → Nat} {B : Nat} {w : Nat → Nat} {h S s : Nat} (hD : Dok n Dm) (hB : 1 ≤ B) (hs : tak n Dm B w S h = some s) : S.testBit s = false := by
  obtain ⟨h1, h2⟩ := tak_lt hs
  cases hb : S.testBit s with
  | false => rfl
  | true => rw [aw_self hD h1 hb] at h2; omega
theorem flk_stop {n : Nat} {Dm : Nat → Nat → Nat} {B : Nat} {w : Nat → Nat} {h S k : Nat} (hk : tak n Dm B w (flk n Dm B w h S k) h = none) : ∀ j, flk n Dm B w h S (k + j) = flk n Dm B w h S k := by
  intro j
  induction j with
  | zero => rfl
  | succ j ih =>
    show st1 n Dm B w h (flk n Dm B w h S (k + j)) = _
    rw [ih, st1_none hk]
theorem flk_pc {n : Nat} {Dm : Nat → Nat → Nat} {B : Nat} {w : Nat → Nat} {h S : Nat} (hD : Dok n Dm) (hB : 1 ≤ B) : ∀ k, (∀ j, j < k → tak n Dm B w (flk n Dm B w h S j) h ≠ none) → k ≤ pc n (flk n Dm B w h S k) := by
  intro k
  induction k with
  | zero => intro _; omega
  | succ k ih =>
    intro hj
    have h1 := ih (fun j hj2 => hj j (by omega))
    cases ht : tak n Dm B w (flk n Dm B w h S k) h with
    | none => exact absurd ht (hj k (by omega))
    | some s =>
      show k + 1 ≤ pc n (st1 n Dm B w h (flk n Dm B w h S k))
      rw [st1_some ht, pc_or (tak_new hD hB ht), if_pos (tak_lt ht).1]
      omega
theorem flk_end {n : Nat} {Dm : Nat → Nat → Nat} {B : Nat} {w : Nat → Nat} {h S : Nat} (hD : Dok n Dm) (hB : 1 ≤ B) : ∃ k, k ≤ 12 ∧ tak n Dm B w (flk n Dm B w h S k) h = none ∧ (∀ j, j < k → tak n Dm B w (flk n Dm B w h S j) h ≠ none) := by
  have hn := hD.1
  have hex : ∃ k, k ≤ 12 ∧ tak n Dm B w (flk n Dm B w h S k) h = none := by
    apply Classical.byContradiction
    intro hno
    have h1 := flk_pc (S := S) (h := h) (w := w) hD hB 13 (fun j hj hc => hno ⟨j, by omega, hc⟩)
    have h2 := pc_le (flk n Dm B w h S 13) n
    omega
  obtain ⟨k, ⟨h1, h2⟩, h3⟩ := pk_least _ hex
  exact ⟨k, h1, h2, fun j hj hc => h3 j hj ⟨by omega, hc⟩⟩
/-- filled up -/
def flf (n : Nat) (Dm : Nat → Nat → Nat) (B : Nat) (w : Nat → Nat) (h S : Nat) : Nat := flk n Dm B w h S 12
theorem flf_eq {n : Nat} {Dm : Nat → Nat → Nat} {B : Nat} {w : Nat → Nat} {h S k : Nat} (hk : k ≤ 12) (ht : tak n Dm B w (flk n Dm B w h S k) h = none) : flf n Dm B w h S = flk n Dm B w h S k := by
  have := flk_stop ht (12 - k)
  rw [show k + (12 - k) = 12 by omega] at this
  exact this
theorem st1_lt {n : Nat} {Dm : Nat → Nat → Nat} {B : Nat} {w : Nat → Nat} {h S : Nat} (hS : S < 2 ^ n) : st1 n Dm B w h S < 2 ^ n := by
  cases ht : tak n Dm B w S h with
  | none => rw [st1_none ht]; exact hS
  | some s =>
    rw [st1_some ht]
    exact Nat.or_lt_two_pow hS (Nat.pow_lt_pow_right (by omega) (tak_lt ht).1)
theorem flk_lt {n : Nat} {Dm : Nat → Nat → Nat} {B : Nat} {w : Nat → Nat} {h S : Nat} (hS : S < 2 ^ n) : ∀ k, flk n Dm B w h S k < 2 ^ n := by
  intro k
  induction k with
  | zero => exact hS
  | succ k ih => exact st1_lt ih
theorem x_fillUp {n : Nat} {Dm : Nat → Nat → Nat} {S B h : Nat} {w : Nat → Nat} {b g fw fb : Nat → Int32} (hD : Dok n Dm) (hB1 : 1 ≤ B) (hB : B ≤ 99) (hF : Far n Dm g) (hw : Wor n w fw) (hb : Nbs n Dm fb) (hh : h < 6) : f_X9_fillUp (nI S) (nI B) (nI n) (NF n Dm b S) fw fb g (nI h) = some (nI (flf n Dm B w h S), NF n Dm b (flf n Dm B w h S)) := by
  have hn := hD.1
  obtain ⟨k, hk, ht, hj⟩ := flk_end (S := S) (h := h) (w := w) hD hB1
  have hgo : ∃ o : (Int32 × (Nat → Int32)) ⊕ (Int32 × (Nat → Int32)), (o = Sum.inl (nI (flk n Dm B w h S k), NF n Dm b (flk n Dm B w h S k)) ∨ o = Sum.inr (nI (flk n Dm B w h S k), NF n Dm b (flk n Dm B w h S k))) ∧ f_X9_fillUp_2 (nI B) (nI n) fw fb g (nI h) FU 0 (nI S) (NF n Dm b S) = some o := by
    have hstep : ∀ m i, i < k → f_X9_fillUp_2 (nI B) (nI n) fw fb g (nI h) (m + 1) (nI i) (nI (flk n Dm B w h S i)) (NF n Dm b (flk n Dm B w h S i)) = f_X9_fillUp_2 (nI B) (nI n) fw fb g (nI h) m (nI (i + 1)) (nI (flk n Dm B w h S (i + 1))) (NF n Dm b (flk n Dm B w h S (i + 1))) := by
      intro m i hi
      cases hti : tak n Dm B w (flk n Dm B w h S i) h with
      | none => exact absurd hti (hj i hi)
      | some s =>
        have hs := (tak_lt hti).1
        rw [f_X9_fillUp_2_s, if_neg (show ¬ (12 : Int32) ≤ nI i from ng_le (a := 12) (by omega) (by omega) (by omega)), x_choice hn (by omega) (NF_nea n Dm b _) hw hb hh, Option.bind_some, hti, if_neg (show ¬ eO32 (some s) = -6 from eO32_neg (show s < 2 ^ 31 by omega))]
        show (f_X9_sit (nI (flk n Dm B w h S i)) (nI n) (NF n Dm b (flk n Dm B w h S i)) g (nI s)).bind _ = _
        rw [x_sitN hD hF hs, Option.bind_some, nI_1]
        show _ = f_X9_fillUp_2 (nI B) (nI n) fw fb g (nI h) m (nI (i + 1)) (nI (st1 n Dm B w h (flk n Dm B w h S i))) (NF n Dm b (st1 n Dm B w h (flk n Dm B w h S i)))
        rw [st1_some hti]
    by_cases hk12 : k = 12
    · refine ⟨_, Or.inl rfl, lp_at2 (fun m i z z' => f_X9_fillUp_2 (nI B) (nI n) fw fb g (nI h) m (nI i) z z') k (fun i => nI (flk n Dm B w h S i)) (fun i => NF n Dm b (flk n Dm B w h S i)) rfl rfl (by omega) ?_ hstep⟩
      intro m
      rw [f_X9_fillUp_2_s, if_pos (show (12 : Int32) ≤ nI k from ps_le (a := 12) (by omega) (by omega) (by omega))]
    · refine ⟨_, Or.inr rfl, lp_at2 (fun m i z z' => f_X9_fillUp_2 (nI B) (nI n) fw fb g (nI h) m (nI i) z z') k (fun i => nI (flk n Dm B w h S i)) (fun i => NF n Dm b (flk n Dm B w h S i)) rfl rfl (by omega) ?_ hstep⟩
      intro m
      rw [f_X9_fillUp_2_s, if_neg (show ¬ (12 : Int32) ≤ nI k from ng_le (a := 12) (by omega) (by omega) (by omega)), x_choice hn (by omega) (NF_nea n Dm b _) hw hb hh, Option.bind_some, ht, if_pos (show eO32 none = -6 from rfl)]
  obtain ⟨o, ho, hl⟩ := hgo
  rw [flf_eq hk ht]
  unfold f_X9_fillUp
  rw [hl, Option.bind_some]
  rcases ho with rfl | rfl <;> rfl
end FL1
section FL2
/-- the reference's row of how far -/
def FarM (n : Nat) (Dm : Nat → Nat → Nat) (f : Nat → Int32) : Prop := ∀ a b, a < n → b < n → f (12 * a + b) = nI (Dm a b)
theorem m_at (a b : Nat) : f_X11_at (nI a) (nI b) = some (nI (12 * a + b)) := by
  unfold f_X11_at
  rw [nu_ix']
theorem m_away {n : Nat} {Dm : Nat → Nat → Nat} {S s : Nat} {f : Nat → Int32} (hD : Dok n Dm) (hF : FarM n Dm f) (hs : s < n) (hS : S < 2 ^ 31) : f_X11_awayOf (nI n) f (nI s) (nI S) = some (nI (aw Dm S s n)) := by
  obtain ⟨hn, hn1, h99, hsym, h0⟩ := hD
  have h : f_X11_awayOf_6 (nI n) f (nI s) (nI S) FU 99 0 = some (nI (aw Dm S s n)) := by
    refine lp_at (fun m i z => f_X11_awayOf_6 (nI n) f (nI s) (nI S) m z (nI i)) n (fun i => nI (aw Dm S s i)) rfl (by omega) ?_ ?_
    · intro m
      rw [f_X11_awayOf_6_s, if_pos (ps_le (by omega) (by omega) (Nat.le_refl n))]
    · intro m i hi
      have a1 := aw_le Dm S s i
      have a2 := h99 s i
      rw [f_X11_awayOf_6_s, if_neg (ng_le (by omega) (by omega) hi)]
      by_cases hb : S.testBit i
      · rw [if_pos ((nu_bit1 hS (by omega)).mpr hb), m_at, Option.bind_some, nu_get _ (show 12 * s + i < 144 by omega) (by omega), Option.bind_some, hF s i hs hi]
        have e1 : aw Dm S s (i + 1) = min (aw Dm S s i) (Dm s i) := by simp [aw, hb]
        by_cases hle : aw Dm S s i ≤ Dm s i
        · rw [if_pos (ps_le (by omega) (by omega) hle), Option.bind_some, nI_1, e1, Nat.min_eq_left hle]
        · rw [if_neg (ng_le (by omega) (by omega) (by omega)), Option.bind_some, nu_get _ (show 12 * s + i < 144 by omega) (by omega), Option.bind_some, hF s i hs hi, Option.bind_some, nI_1, e1, Nat.min_eq_right (by omega)]
      · rw [if_neg (fun hh => hb ((nu_bit1 hS (by omega)).mp hh)), Option.bind_some, nI_1]
        have e1 : aw Dm S s (i + 1) = aw Dm S s i := by simp [aw, hb]
        rw [e1]
  unfold f_X11_awayOf
  rw [h, Option.bind_some]
theorem m_may {n : Nat} {Dm : Nat → Nat → Nat} {S B : Nat} {f : Nat → Int32} (hD : Dok n Dm) (hF : FarM n Dm f) (hB : B ≤ 99) (hS : S < 2 ^ 31) : f_X11_mayOf (nI n) (nI B) f (nI S) = some (nI (opm n Dm B S n)) := by
  have hn := hD.1
  have h : f_X11_mayOf_4 (nI n) (nI B) f (nI S) FU 0 0 = some (nI (opm n Dm B S n)) := by
    refine lp_at (fun m i z => f_X11_mayOf_4 (nI n) (nI B) f (nI S) m z (nI i)) n (fun i => nI (opm n Dm B S i)) rfl (by omega) ?_ ?_
    · intro m
      rw [f_X11_mayOf_4_s, if_pos (ps_le (by omega) (by omega) (Nat.le_refl n))]
    · intro m i hi
      have a1 := aw_le Dm S i n
      rw [f_X11_mayOf_4_s, if_neg (ng_le (by omega) (by omega) hi), m_away hD hF hi hS, Option.bind_some]
      by_cases hle : B ≤ aw Dm S i n
      · rw [if_neg (fun hh => by have := (nI_ltI (by omega) (by omega)).mp hh; omega), Option.bind_some, nu_or (by omega), nI_1]
        simp only [opm, hle, if_true]
      · rw [if_pos ((nI_ltI (by omega) (by omega)).mpr (by omega)), Option.bind_some, show (0 : Int32) = nI 0 from rfl, fa_or, Nat.or_zero, nI_1]
        simp only [opm, hle, if_false]
  unfold f_X11_mayOf
  rw [h, Option.bind_some]
end FL2
