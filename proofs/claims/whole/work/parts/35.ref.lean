/-! the reference's isFilled .. filledBy -/
section RF1
theorem nu_xor1 {k : Nat} (hk : k < 31) (S : Nat) (hS : S < 2 ^ 31) : nI S &&& (((1 : Int32) <<< (nI k &&& 31)) ^^^ (-1)) = nI (S &&& (2 ^ 31 - 1 - 2 ^ k)) := by
  rw [nu_shl hk]
  have hp : 2 ^ k < 2 ^ 31 := Nat.pow_lt_pow_right (by omega) hk
  have e : nI (2 ^ k) ^^^ (-1) = nI (2 ^ 32 - 1 - 2 ^ k) := by
    apply Int32.toBitVec_inj.mp
    apply BitVec.eq_of_toNat_eq
    have e1 : (nI (2 ^ k) ^^^ (-1 : Int32)).toBitVec = ~~~ (nI (2 ^ k)).toBitVec := by
      show (nI (2 ^ k)).toBitVec ^^^ (-1 : Int32).toBitVec = _
      have : (-1 : Int32).toBitVec = BitVec.allOnes 32 := by decide
      rw [this, BitVec.xor_allOnes]
    rw [e1, BitVec.toNat_not, pk_tn (by omega), pk_tn (Nat.lt_of_le_of_lt (Nat.sub_le (2 ^ 32 - 1) (2 ^ k)) (by decide))]
  rw [e, fa_and]
  congr 1
  apply Nat.eq_of_testBit_eq
  intro u
  rw [Nat.testBit_and, Nat.testBit_and]
  by_cases hu : u < 31
  · have e1 : 2 ^ 32 - 1 - 2 ^ k = 2 ^ 32 - (2 ^ k + 1) := by omega
    have e2 : 2 ^ 31 - 1 - 2 ^ k = 2 ^ 31 - (2 ^ k + 1) := by omega
    rw [e1, e2, Nat.testBit_two_pow_sub_succ (by omega), Nat.testBit_two_pow_sub_succ hp]
    have : u < 32 := by omega
    simp [hu, this]
  · have : S.testBit u = false := Nat.testBit_lt_two_pow (Nat.lt_of_lt_of_le hS (Nat.pow_le_pow_right (by omega) (by omega)))
    simp [this]
theorem nu_clr (S k u : Nat) (hk : k < 31) (hu : u < 31) : (S &&& (2 ^ 31 - 1 - 2 ^ k)).testBit u = (S.testBit u && !decide (u = k)) := by
  have hp : 2 ^ k < 2 ^ 31 := Nat.pow_lt_pow_right (by omega) hk
  have e2 : 2 ^ 31 - 1 - 2 ^ k = 2 ^ 31 - (2 ^ k + 1) := by omega
  rw [Nat.testBit_and, e2, Nat.testBit_two_pow_sub_succ hp, Nat.testBit_two_pow]
  by_cases h : k = u
  · subst h; simp [hu]
  · have : ¬ u = k := fun e => h e.symm
    simp [h, this, hu]
theorem fil_alt {n : Nat} {Dm : Nat → Nat → Nat} {B S : Nat} (hD : Dok n Dm) (hB : B ≤ 99) : fil n Dm B S ↔ ∀ i, i < n → S.testBit i = true → B ≤ aw Dm (S &&& (2 ^ 31 - 1 - 2 ^ i)) i n := by
  obtain ⟨hn, hn1, h99, hsym, h0⟩ := hD
  constructor
  · intro hf i hi hb
    rw [aw_ge hB]
    intro u hu hub
    rw [nu_clr S i u (by omega) (by omega)] at hub
    simp at hub
    rcases Nat.lt_trichotomy u i with h | h | h
    · rw [hsym i u hi hu]; exact hf u i h hi hub.1 hb
    · exact absurd h hub.2
    · exact hf i u h hu hb hub.1
  · intro h s t hst ht hs htb
    exact (aw_ge hB n).mp (h s (by omega) hs) t ht (by rw [nu_clr S s t (by omega) (by omega)]; simp [htb]; omega)
/-- the first i seats bear all others -/
def flb (n : Nat) (Dm : Nat → Nat → Nat) (B S : Nat) : Nat → Bool
  | 0 => true
  | i + 1 => flb n Dm B S i && (!S.testBit i || decide (B ≤ aw Dm (S &&& (2 ^ 31 - 1 - 2 ^ i)) i n))
theorem flb_iff {n : Nat} {Dm : Nat → Nat → Nat} {B S : Nat} : ∀ i, flb n Dm B S i = true ↔ ∀ k, k < i → S.testBit k = true → B ≤ aw Dm (S &&& (2 ^ 31 - 1 - 2 ^ k)) k n := by
  intro i
  induction i with
  | zero => simp [flb]
  | succ i ih =>
    unfold flb
    rw [Bool.and_eq_true, ih]
    constructor
    · intro h k hk hb
      by_cases hki : k = i
      · subst hki
        have := h.2
        rw [hb] at this
        simpa using this
      · exact h.1 k (by omega) hb
    · intro h
      refine ⟨fun k hk => h k (by omega), ?_⟩
      cases hb : S.testBit i with
      | false => rfl
      | true => simpa using h i (by omega) hb
def b32 (b : Bool) : Int32 := if b then 1 else 0
theorem m_filledB {n : Nat} {Dm : Nat → Nat → Nat} {S B : Nat} {f : Nat → Int32} (hD : Dok n Dm) (hF : FarM n Dm f) (hB : B ≤ 99) (hS : S < 2 ^ 31) : f_X11_isFilled (nI n) (nI B) f (nI S) = some (b32 (flb n Dm B S n)) := by
  have hn := hD.1
  have key : f_X11_isFilled_4 (nI n) (nI B) f (nI S) FU 1 0 = some (b32 (flb n Dm B S n)) := by
    refine lp_at (fun m i z => f_X11_isFilled_4 (nI n) (nI B) f (nI S) m z (nI i)) n (fun i => b32 (flb n Dm B S i)) rfl (by omega) ?_ ?_
    · intro m
      rw [f_X11_isFilled_4_s, if_pos (ps_le (by omega) (by omega) (Nat.le_refl n))]
    · intro m i hi
      rw [f_X11_isFilled_4_s, if_neg (ng_le (by omega) (by omega) hi)]
      cases hq : flb n Dm B S i with
      | false =>
        rw [if_pos (show b32 false = 0 from rfl), Option.bind_some, nI_1]
        simp [flb, hq, b32]
      | true =>
        rw [if_neg (show ¬ b32 true = 0 from by decide)]
        by_cases hb : S.testBit i
        · have a1 := aw_le Dm (S &&& (2 ^ 31 - 1 - 2 ^ i)) i n
          have hlt : S &&& (2 ^ 31 - 1 - 2 ^ i) < 2 ^ 31 := by
            have : S &&& (2 ^ 31 - 1 - 2 ^ i) ≤ S := Nat.and_le_left
            omega
          rw [if_neg (fun hh => by rw [nu_bit0 hS (by omega)] at hh; rw [hb] at hh; cases hh), nu_xor1 (by omega) S hS, m_away hD hF hi hlt, Option.bind_some]
          by_cases hle : B ≤ aw Dm (S &&& (2 ^ 31 - 1 - 2 ^ i)) i n
          · rw [if_neg (fun hh => by have := (nI_ltI (by omega) (by omega)).mp hh; omega), Option.bind_some, nI_1]
            simp [flb, hq, hb, hle, b32]
          · rw [if_pos ((nI_ltI (by omega) (by omega)).mpr (by omega)), Option.bind_some, nI_1]
            simp [flb, hq, hb, hle, b32]
        · rw [if_pos (by rw [nu_bit0 hS (by omega)]; simpa using hb), Option.bind_some, nI_1]
          simp [flb, hq, hb, b32]
  unfold f_X11_isFilled
  rw [key, Option.bind_some]
  cases flb n Dm B S n <;> rfl
theorem m_filled {n : Nat} {Dm : Nat → Nat → Nat} {S B : Nat} {f : Nat → Int32} (hD : Dok n Dm) (hF : FarM n Dm f) (hB : B ≤ 99) (hS : S < 2 ^ 31) : (fil n Dm B S → f_X11_isFilled (nI n) (nI B) f (nI S) = some 1) ∧ (¬ fil n Dm B S → f_X11_isFilled (nI n) (nI B) f (nI S) = some 0) := by
  rw [m_filledB hD hF hB hS]
  have h := (fil_alt (S := S) hD hB).trans (flb_iff n).symm
  constructor
  · intro hf
    rw [h.mp hf]
    rfl
  · intro hf
    cases hq : flb n Dm B S n with
    | true => exact absurd (h.mpr hq) hf
    | false => rfl
theorem m_near {n : Nat} {Dm : Nat → Nat → Nat} {s : Nat} {f : Nat → Int32} (hD : Dok n Dm) (hF : FarM n Dm f) (hs : s < n) : f_X11_nearOnes (nI n) f (nI s) = some (nI (nbr Dm s n)) := by
  obtain ⟨hn, hn1, h99, hsym, h0⟩ := hD
  have h : f_X11_nearOnes_4 (nI n) f (nI s) FU 0 0 = some (nI (nbr Dm s n)) := by
    refine lp_at (fun m i z => f_X11_nearOnes_4 (nI n) f (nI s) m z (nI i)) n (fun i => nI (nbr Dm s i)) rfl (by omega) ?_ ?_
    · intro m
      rw [f_X11_nearOnes_4_s, if_pos (ps_le (by omega) (by omega) (Nat.le_refl n))]
    · intro m i hi
      have a2 := h99 s i
      rw [f_X11_nearOnes_4_s, if_neg (ng_le (by omega) (by omega) hi), m_at, Option.bind_some, nu_get _ (show 12 * s + i < 144 by omega) (by omega), Option.bind_some, hF s i hs hi]
      by_cases h1 : Dm s i = 1
      · rw [if_pos (show nI (Dm s i) = 1 by rw [h1]; rfl), Option.bind_some, nI_1, nI_1]
        simp [nbr, h1]
      · rw [if_neg (show ¬ nI (Dm s i) = 1 from fun hh => h1 ((nI_eq (by omega) (by omega)).mp (show nI (Dm s i) = nI 1 from hh))), Option.bind_some, show (0 : Int32) = nI 0 from rfl, nI_add, nI_1]
        simp [nbr, h1]
  unfold f_X11_nearOnes
  rw [h, Option.bind_some]
theorem Rm_b {n : Nat} {Dm : Nat → Nat → Nat} {w : Nat → Nat} {S h s : Nat} (hn : n ≤ 12) (hs : s < n) (hw : w s ≤ 9) : -20000 ≤ Rm n Dm w S h s ∧ Rm n Dm w S h s ≤ 20000 := by
  have h1 := aw_le Dm S s n
  have h2 := nbr_le Dm s n
  unfold Rm
  repeat' split
  all_goals omega
theorem m_rank {n : Nat} {Dm : Nat → Nat → Nat} {S h s : Nat} {w : Nat → Nat} {f fw : Nat → Int32} (hD : Dok n Dm) (hF : FarM n Dm f) (hw : Wor n w fw) (hs : s < n) (hh : h < 6) (hS : S < 2 ^ 31) : f_X11_rankOf (nI n) f fw (nI s) (nI S) (nI h) = some (iI (Rm n Dm w S h s)) := by
  have hn := hD.1
  have hs12 : s < 12 := by omega
  have g2 := nu_get fw hs12 (by omega)
  rw [(hw s hs).1] at g2
  unfold f_X11_rankOf
  rw [m_away hD hF hs hS, Option.bind_some]
  rcases (show h = 0 ∨ h = 1 ∨ h = 2 ∨ h = 3 ∨ h = 4 ∨ h = 5 by omega) with rfl | rfl | rfl | rfl | rfl | rfl
  · rw [if_pos (by decide), g2, Option.bind_some]
    rw [show (100 : Int32) = nI 100 from rfl, pk_mul, nI_add, ← iI_nat]
    congr 2
  · rw [if_neg (by decide), if_pos (by decide), g2, Option.bind_some]
    rw [show (100 : Int32) = nI 100 from rfl, pk_mul, nI_add, ← iI_nat]
    congr 2
  · rw [if_neg (by decide), if_neg (by decide), if_pos (by decide)]
    show some (-nI s) = some (iI (-(s : Int)))
    unfold iI
    rw [Int32.ofInt_neg]
    rfl
  · rw [if_neg (by decide), if_neg (by decide), if_neg (by decide), if_pos (by decide)]
    rfl
  · rw [if_neg (by decide), if_neg (by decide), if_neg (by decide), if_neg (by decide), if_pos (by decide)]
    show some (-nI (aw Dm S s n)) = some (iI (-(aw Dm S s n : Int)))
    unfold iI
    rw [Int32.ofInt_neg]
    rfl
  · rw [if_neg (by decide), if_neg (by decide), if_neg (by decide), if_neg (by decide), if_neg (by decide), m_near hD hF hs, Option.bind_some]
    show some (nI (aw Dm S s n) - 100 * nI (nbr Dm s n)) = some (iI ((aw Dm S s n : Int) - 100 * (nbr Dm s n : Int)))
    unfold iI
    rw [Int32.ofInt_sub, Int32.ofInt_mul]
    rfl
theorem eO_neg {o : Option Nat} (h : ∀ b, o = some b → b < 2 ^ 31) : eO32 o < 0 ↔ o = none := by
  cases o with
  | none => simp [eO32]
  | some b =>
    have := h b rfl
    constructor
    · intro hh
      exact absurd hh (nI_pos this)
    · intro hh; cases hh
theorem m_taken {n : Nat} {Dm : Nat → Nat → Nat} {S B h : Nat} {w : Nat → Nat} {f fw : Nat → Int32} (hD : Dok n Dm) (hF : FarM n Dm f) (hB : B ≤ 99) (hw : Wor n w fw) (hh : h < 6) (hS : S < 2 ^ 31) : f_X11_takenBy (nI n) (nI B) f fw (nI S) (nI h) = some (eO32 (tak n Dm B w S h)) := by
  have hn := hD.1
  have etak : tak n Dm B w S h = bst (fun s => decide (B ≤ aw Dm S s n)) (Rm n Dm w S h) n := bst_congr (n := n) (fun _ _ => rfl) (fun b i hb hi _ _ => Rc_Rm hb (hw b (by omega)).2 (hw i hi).2) n (Nat.le_refl n)
  have hop := opm_lt n Dm B S n
  have hop2 : opm n Dm B S n < 2 ^ 31 := Nat.lt_of_lt_of_le hop (Nat.pow_le_pow_right (by omega) (by omega))
  have hl : f_X11_takenBy_16 (nI n) f fw (nI S) (nI h) (nI (opm n Dm B S n)) FU (-6) 0 0 = some (eO32 (tak n Dm B w S h)) := by
    rw [etak]
    refine lp_at2 (fun m i z z' => f_X11_takenBy_16 (nI n) f fw (nI S) (nI h) (nI (opm n Dm B S n)) m z z' (nI i)) n (fun i => eO32 (bst (fun s => decide (B ≤ aw Dm S s n)) (Rm n Dm w S h) i)) (fun i => bw (Rm n Dm w S h) (bst (fun s => decide (B ≤ aw Dm S s n)) (Rm n Dm w S h) i)) rfl rfl (by omega) ?_ ?_
    · intro m
      rw [f_X11_takenBy_16_s, if_pos (ps_le (by omega) (by omega) (Nat.le_refl n))]
    · intro m i hi
      rw [f_X11_takenBy_16_s, if_neg (ng_le (by omega) (by omega) hi)]
      generalize hbi : bst (fun s => decide (B ≤ aw Dm S s n)) (Rm n Dm w S h) i = o
      have hnext : bst (fun s => decide (B ≤ aw Dm S s n)) (Rm n Dm w S h) (i + 1) = if B ≤ aw Dm S i n then bnx (Rm n Dm w S h) i o else o := by
        simp only [bst, hbi, decide_eq_true_eq]
      rw [hnext]
      by_cases ho : B ≤ aw Dm S i n
      · rw [if_pos ((nu_bit1 hop2 (by omega)).mpr (by rw [opm_bit]; simp [hi, ho])), m_rank hD hF hw hi hh hS, Option.bind_some, if_pos ho]
        cases o with
        | none =>
          rw [if_pos (show eO32 none < 0 by decide), Option.bind_some, nI_1]
          rfl
        | some b =>
          have hbs := bst_some hbi
          have r1 := Rm_b (S := S) (h := h) (Dm := Dm) (w := w) hn (show b < n by omega) (hw b (by omega)).2
          have r2 := Rm_b (S := S) (h := h) (Dm := Dm) (w := w) hn hi (hw i hi).2
          have hle : (iI (Rm n Dm w S h i) ≤ bw (Rm n Dm w S h) (some b)) ↔ Rm n Dm w S h i ≤ Rm n Dm w S h b := by
            show (iI (Rm n Dm w S h i) ≤ iI (Rm n Dm w S h b)) ↔ _
            rw [iI_le (by omega) (by omega) (by omega) (by omega)]
          rw [if_neg (show ¬ eO32 (some b) < 0 from nI_pos (show b < 2 ^ 31 by omega))]
          by_cases hc : Rm n Dm w S h b < Rm n Dm w S h i
          · rw [if_neg (fun hx => by have := hle.mp hx; omega), Option.bind_some, nI_1]
            simp only [bnx, hc, if_true]
            rfl
          · rw [if_pos (hle.mpr (by omega)), Option.bind_some, nI_1]
            simp only [bnx, hc, if_false]
      · rw [if_neg (fun hx => by rw [nu_bit1 hop2 (by omega), opm_bit] at hx; simp at hx; omega), Option.bind_some, if_neg ho, nI_1]
  unfold f_X11_takenBy
  rw [m_may hD hF hB hS, Option.bind_some, hl, Option.bind_some]
theorem m_filledBy {n : Nat} {Dm : Nat → Nat → Nat} {S B h : Nat} {w : Nat → Nat} {f fw : Nat → Int32} (hD : Dok n Dm) (hF : FarM n Dm f) (hB1 : 1 ≤ B) (hB : B ≤ 99) (hw : Wor n w fw) (hh : h < 6) (hS : S < 2 ^ n) : f_X11_filledBy (nI n) (nI B) f fw (nI S) (nI h) = some (nI (flf n Dm B w h S)) := by
  have hn := hD.1
  have hpow : 2 ^ n ≤ 2 ^ 12 := Nat.pow_le_pow_right (by omega) hn
  obtain ⟨k, hk, ht, hj⟩ := flk_end (S := S) (h := h) (w := w) hD hB1
  have hlt := flk_lt (Dm := Dm) (B := B) (w := w) (h := h) hS
  have hl : f_X11_filledBy_10 (nI n) (nI B) f fw (nI h) FU (nI S) (eO32 (tak n Dm B w S h)) = some (nI (flk n Dm B w h S k)) := by
    refine lp_at2 (fun m i z z' => f_X11_filledBy_10 (nI n) (nI B) f fw (nI h) m z z') k (fun i => nI (flk n Dm B w h S i)) (fun i => eO32 (tak n Dm B w (flk n Dm B w h S i) h)) rfl rfl (by omega) ?_ ?_
    · intro m
      rw [f_X11_filledBy_10_s, ht, if_pos (show eO32 none < 0 by decide)]
    · intro m i hi
      cases hti : tak n Dm B w (flk n Dm B w h S i) h with
      | none => exact absurd hti (hj i hi)
      | some s =>
        have hs := (tak_lt hti).1
        have hl2 := hlt (i + 1)
        have e1 : flk n Dm B w h S (i + 1) = flk n Dm B w h S i ||| 2 ^ s := st1_some hti
        rw [e1] at hl2
        rw [f_X11_filledBy_10_s, if_neg (show ¬ eO32 (some s) < 0 from nI_pos (show s < 2 ^ 31 by omega))]
        show (f_X11_takenBy (nI n) (nI B) f fw (nI (flk n Dm B w h S i) ||| ((1 : Int32) <<< (nI s &&& 31))) (nI h)).bind _ = _
        rw [nu_or (by omega), m_taken hD hF hB hw hh (by omega), Option.bind_some, e1]
        show f_X11_filledBy_10 (nI n) (nI B) f fw (nI h) m (nI (flk n Dm B w h S i) ||| ((1 : Int32) <<< (nI s &&& 31))) _ = _
        rw [nu_or (by omega)]
  unfold f_X11_filledBy
  rw [m_taken hD hF hB hw hh (by omega), Option.bind_some, hl, Option.bind_some, flf_eq hk ht]
end RF1
