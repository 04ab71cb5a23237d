/-! the class' list hands chances on -/
section SP1
theorem ifc {α : Type} {c d : Prop} [Decidable c] [Decidable d] {a b : α} (h : c ↔ d) : (if c then a else b) = (if d then a else b) := by
  by_cases hc : c
  · rw [if_pos hc, if_pos (h.mp hc)]
  · rw [if_neg hc, if_neg (fun e => hc (h.mpr e))]
theorem fac12 : fac 12 = 479001600 := by decide
theorem T12 (O : Nat) : fac (pc 12 O) ∣ 479001600 := by
  rw [← fac12]; exact fac_dvd 12 (pc_le O 12)
def Csy (p : Nat) (cl : Nat → Nat) (O : Nat) : Prop := p ≤ 12 ∧ O < 2 ^ p ∧ (∀ s t, s < p → t < p → (cl s).testBit t = (cl t).testBit s) ∧ ∀ s, s < p → (cl s).testBit s = true
theorem gG_iff {p : Nat} {cl : Nat → Nat} {O S : Nat} (hc : Csy p cl O) (hS : S < 2 ^ p) : gG cl O S = true ↔ (∀ t, S.testBit t = true → O.testBit t = true) ∧ ∀ s t, s < t → S.testBit s = true → S.testBit t = true → (cl s).testBit t = false := by
  unfold gG
  have hp := hc.1
  have hlt : ∀ t, S.testBit t = true → t < p := fun t ht => Nat.lt_of_not_le (fun e => by rw [tb_hi hS e] at ht; cases ht)
  rw [gdn_iff]
  constructor
  · intro h
    constructor
    · intro t ht
      exact ((opn_bit _ _ _ _ _).mp (h t (by have := hlt t ht; omega) ht)).1
    · intro s t hst hs ht
      exact ((opn_bit _ _ _ _ _).mp (h t (by have := hlt t ht; omega) ht)).2 s (by have := hlt s hs; omega) (by rw [tb_mod, hs]; simp [hst])
  · intro ⟨h1, h2⟩ t ht12 ht
    rw [opn_bit]
    refine ⟨h1 t ht, fun s hs hb => ?_⟩
    rw [tb_mod] at hb
    simp at hb
    exact h2 s t hb.1 hb.2 ht
theorem Csy_Sys {p : Nat} {cl : Nat → Nat} {O : Nat} (hc : Csy p cl O) : Sys p (gG cl O) (oG cl O) := by
  have hp := hc.1
  refine ⟨hp, gG_0 cl O, fun S hS => oG_lt hc.2.1, ?_⟩
  intro S s hS hg hb
  have hs : s < p := Nat.lt_of_not_le (fun e => by rw [tb_hi (oG_lt hc.2.1) e] at hb; cases hb)
  have hlt : ∀ t, S.testBit t = true → t < p := fun t ht => Nat.lt_of_not_le (fun e => by rw [tb_hi hS e] at ht; cases ht)
  obtain ⟨b1, b2⟩ := (opn_bit _ _ _ _ _).mp hb
  have hout : S.testBit s = false := by
    cases hx : S.testBit s with
    | false => rfl
    | true =>
      have := b2 s (by omega) hx
      rw [hc.2.2.2 s hs] at this
      cases this
  refine ⟨hout, ?_, ?_, ?_⟩
  · rw [gG_iff hc (Nat.or_lt_two_pow hS (Nat.pow_lt_pow_right (by omega) hs))]
    obtain ⟨g1, g2⟩ := (gG_iff hc hS).mp hg
    constructor
    · intro t ht
      rw [Nat.testBit_or, Nat.testBit_two_pow, Bool.or_eq_true] at ht
      rcases ht with ht | ht
      · exact g1 t ht
      · have : s = t := by simpa using ht
        rw [← this]; exact b1
    · intro u t hut hu ht
      rw [Nat.testBit_or, Nat.testBit_two_pow, Bool.or_eq_true] at hu ht
      rcases hu with hu | hu
      · rcases ht with ht | ht
        · exact g2 u t hut hu ht
        · have : s = t := by simpa using ht
          rw [← this]; exact b2 u (by have := hlt u hu; omega) hu
      · have : s = u := by simpa using hu
        subst this
        rcases ht with ht | ht
        · rw [hc.2.2.1 s t hs (hlt t ht)]
          exact b2 t (by have := hlt t ht; omega) ht
        · have : s = t := by simpa using ht
          omega
  · rw [oG_add (by omega), andn_bit, hc.2.2.2 s hs]; simp
  · intro t ht
    rw [oG_add (by omega), andn_bit, Bool.and_eq_true] at ht
    exact ht.1
theorem clm_bit (Dm : Nat → Nat → Nat) (B a t : Nat) : ∀ i, (clm Dm B a i).testBit t = decide (t < i ∧ Dm a t < B) := by
  intro i
  induction i with
  | zero => simp [clm]
  | succ i ih =>
    unfold clm
    by_cases h : B ≤ Dm a i
    · rw [if_pos h, ih]
      by_cases h2 : t = i
      · subst h2
        have : ¬ Dm a t < B := by omega
        simp [this]
      · have : (t < i + 1) ↔ t < i := by omega
        simp [this]
    · rw [if_neg h, Nat.testBit_or, ih, Nat.testBit_two_pow]
      by_cases h2 : i = t
      · subst h2
        have : Dm a i < B := by omega
        simp [this]
      · have : (t < i + 1) ↔ t < i := by omega
        simp [h2, this]
theorem clm_lt (Dm : Nat → Nat → Nat) (B a : Nat) : ∀ i, clm Dm B a i < 2 ^ i := by
  intro i
  induction i with
  | zero => exact Nat.one_pos
  | succ i ih =>
    unfold clm
    have : 2 ^ i < 2 ^ (i + 1) := Nat.pow_lt_pow_right (by omega) (by omega)
    by_cases h : B ≤ Dm a i
    · rw [if_pos h]; omega
    · rw [if_neg h]; exact Nat.or_lt_two_pow (by omega) this
/-- the clashes of a bench -/
def cB (n : Nat) (Dm : Nat → Nat → Nat) (B : Nat) (i : Nat) : Nat := clm Dm B i n
theorem Csy_bench {n : Nat} {Dm : Nat → Nat → Nat} {B O : Nat} (hD : Dok n Dm) (hB : 1 ≤ B) (hO : O < 2 ^ n) : Csy n (cB n Dm B) O := by
  obtain ⟨hn, hn1, h99, hsym, h0⟩ := hD
  refine ⟨hn, hO, fun s t hs ht => ?_, fun s hs => ?_⟩
  · unfold cB
    rw [clm_bit, clm_bit, hsym s t hs ht]
    simp [hs, ht]
  · unfold cB
    rw [clm_bit, h0 s hs]
    simp [hs]; omega
theorem oG_opm {n : Nat} {Dm : Nat → Nat → Nat} {B S : Nat} (hD : Dok n Dm) (hB : B ≤ 99) (hS : S < 2 ^ n) : oG (cB n Dm B) (2 ^ n - 1) S = opm n Dm B S n := by
  obtain ⟨hn, hn1, h99, hsym, h0⟩ := hD
  apply Nat.eq_of_testBit_eq
  intro t
  apply Bool.eq_iff_iff.mpr
  unfold oG
  rw [opn_bit, opm_bit, decide_eq_true_eq, Nat.testBit_two_pow_sub_one, decide_eq_true_eq, aw_ge hB]
  constructor
  · intro ⟨h1, h2⟩
    refine ⟨h1, fun u hu hb => ?_⟩
    have := h2 u (by omega) hb
    unfold cB at this
    rw [clm_bit] at this
    simp [h1] at this
    rw [hsym t u h1 hu]
    exact this
  · intro ⟨h1, h2⟩
    refine ⟨h1, fun u hu hb => ?_⟩
    have hun : u < n := Nat.lt_of_not_le (fun e => by rw [tb_hi hS e] at hb; cases hb)
    have := h2 u hun hb
    unfold cB
    rw [clm_bit]
    rw [hsym t u h1 hun] at this
    simp; omega
theorem gG_flb {n : Nat} {Dm : Nat → Nat → Nat} {B S : Nat} (hD : Dok n Dm) (hB : B ≤ 99) (hS : S < 2 ^ n) : gG (cB n Dm B) (2 ^ n - 1) S = flb n Dm B S n := by
  apply Bool.eq_iff_iff.mpr
  rw [flb_iff, ← fil_alt hD hB, fil_iff hD hB]
  have hn := hD.1
  show gdn (cB n Dm B) (2 ^ n - 1) S 12 = true ↔ _
  rw [gdn_iff]
  have hm : ∀ t, S % 2 ^ t < 2 ^ n := fun t => Nat.lt_of_le_of_lt (Nat.mod_le _ _) hS
  constructor
  · intro h t ht hb
    have := h t (by omega) hb
    rw [show opn (cB n Dm B) (2 ^ n - 1) (S % 2 ^ t) 12 = _ from oG_opm hD hB (hm t), opm_bit, decide_eq_true_eq] at this
    exact this.2
  · intro h t ht hb
    have htn : t < n := Nat.lt_of_not_le (fun e => by rw [tb_hi hS e] at hb; cases hb)
    rw [show opn (cB n Dm B) (2 ^ n - 1) (S % 2 ^ t) 12 = _ from oG_opm hD hB (hm t), opm_bit, decide_eq_true_eq]
    exact ⟨htn, h t htn hb⟩
theorem x_spread {p : Nat} {gd : Nat → Bool} {op : Nat → Nat} {fl fo vch : Nat → Int32} (hy : Sys p gd op) (hL : Lst gd op (2 ^ p) fl fo) : ∃ ch, f_X8_spreadChances (nI (fa_cnt gd (2 ^ p))) (nI p) fl vch fo = some ch ∧ ∀ S, S < 2 ^ p → gd S = true → ch S = nI (cg p gd op 479001600 (2 ^ p) S) := by
  have hp := hy.1
  have hp12 : 2 ^ p ≤ 2 ^ 12 := Nat.pow_le_pow_right (by omega) hp
  have hpos : 0 < 2 ^ p := Nat.pos_of_ne_zero (by simp [Nat.pow_eq_zero])
  have hcE := fa_cnt_le gd (2 ^ p)
  have h1 : ∃ z, f_X8_spreadChances_2 (nI (fa_cnt gd (2 ^ p))) fl FU 0 vch = some z ∧ ∀ S, S < 2 ^ p → gd S = true → z S = 0 := by
    obtain ⟨s', m, e1, e2, e3⟩ := lp_cnt gd (fun m i z => f_X8_spreadChances_2 (nI (fa_cnt gd (2 ^ p))) fl m (nI i) z) (2 ^ p) (fun E z => ∀ S, S < E → gd S = true → z S = 0)
      (fun m S z hS hg hI => by
        have hless := fa_less (p := gd) hg hS
        refine ⟨upd z S 0, ?_, ?_⟩
        · intro S' hS' hg'
          by_cases e : S' = S
          · rw [e]; exact pk_us
          · rw [pk_un e]; exact hI S' (by omega) hg'
        · rw [f_X8_spreadChances_2_s, if_neg (ng_le (by omega) (by omega) hless), nu_get _ (show fa_cnt gd S < 4096 by omega) (by omega), Option.bind_some, (hL S hS hg).1, nu_set _ _ (show S < 4096 by omega) (by omega), Option.bind_some, nI_1])
      (fun S z hS hg hI => by
        intro S' hS' hg'
        by_cases e : S' = S
        · subst e; rw [hg] at hg'; cases hg'
        · exact hI S' (by omega) hg') (2 ^ p) (Nat.le_refl _) FU vch (by rw [FU_eq]; omega) (fun S hS => by omega)
    obtain ⟨m', rfl⟩ : ∃ m', m = m' + 1 := ⟨m - 1, by rw [FU_eq] at e1; omega⟩
    refine ⟨s', ?_, e2⟩
    have e3' : f_X8_spreadChances_2 (nI (fa_cnt gd (2 ^ p))) fl FU 0 vch = _ := e3
    rw [e3', f_X8_spreadChances_2_s, if_pos (ps_le (by omega) (by omega) (Nat.le_refl _))]
  obtain ⟨z0, hz0, hz1⟩ := h1
  have inner : ∀ (i d : Nat) (z : Nat → Int32) (f : Nat → Nat), i < 2 ^ p → gd i = true → (∀ S, S < 2 ^ p → gd S = true → z S = nI (f S)) → ∃ z', f_X8_spreadChances_80 (nI p) fl fo (nI d) (nI (fa_cnt gd i)) FU 0 z = some z' ∧ ∀ S, S < 2 ^ p → gd S = true → z' S = nI (f S + (if ∃ s, s < p ∧ (op i).testBit s = true ∧ S = i ||| 2 ^ s then d else 0)) := by
    intro i d z f hi hg hz
    have hless := fa_less (p := gd) hg hi
    obtain ⟨l1, l2⟩ := hL i hi hg
    have hop := hy.2.2.1 i hi
    obtain ⟨z', m, k1, k2⟩ := lp_inv (fun m y z => f_X8_spreadChances_80 (nI p) fl fo (nI d) (nI (fa_cnt gd i)) m (nI y) z) p (fun y z => ∀ S, S < 2 ^ p → gd S = true → z S = nI (f S + (if ∃ s, s < y ∧ (op i).testBit s = true ∧ S = i ||| 2 ^ s then d else 0))) (fun m y z hy' hI => by
      cases hb : (op i).testBit y with
      | false =>
        refine ⟨z, ?_, ?_⟩
        · intro S hS hgS
          rw [hI S hS hgS]
          congr 2
          refine ifc ?_
          constructor
          · intro ⟨s, a, b, c⟩; exact ⟨s, by omega, b, c⟩
          · intro ⟨s, a, b, c⟩
            by_cases e : s = y
            · subst e; rw [hb] at b; cases b
            · exact ⟨s, by omega, b, c⟩
        · rw [f_X8_spreadChances_80_s, if_neg (ng_le (by omega) (by omega) hy'), nu_get _ (show fa_cnt gd i < 4096 by omega) (by omega), Option.bind_some, l2, if_pos ((nu_bit0 (by omega) (by omega)).mpr hb), Option.bind_some, nI_1]
      | true =>
        obtain ⟨a1, a2, a3, a4⟩ := hy.2.2.2 i y hi hg hb
        have hlt := Sys_lt hy hi hb
        refine ⟨upd z (i ||| 2 ^ y) (nI (f (i ||| 2 ^ y) + d)), ?_, ?_⟩
        · intro S hS hgS
          by_cases e : S = i ||| 2 ^ y
          · subst e
            rw [pk_us, if_pos ⟨y, by omega, hb, rfl⟩]
          · rw [pk_un e, hI S hS hgS]
            congr 2
            refine ifc ?_
            constructor
            · intro ⟨s, a, b, c⟩; exact ⟨s, by omega, b, c⟩
            · intro ⟨s, a, b, c⟩
              by_cases e2 : s = y
              · subst e2; exact absurd c e
              · exact ⟨s, by omega, b, c⟩
        · rw [f_X8_spreadChances_80_s, if_neg (ng_le (by omega) (by omega) hy'), nu_get _ (show fa_cnt gd i < 4096 by omega) (by omega), Option.bind_some, l2, if_neg (fun e => by rw [(nu_bit0 (by omega) (by omega)).mp e] at hb; cases hb), nu_get _ (show fa_cnt gd i < 4096 by omega) (by omega), Option.bind_some, l1, nu_or (by omega), nu_get _ (show i ||| 2 ^ y < 4096 by omega) (by omega), Option.bind_some, hI _ hlt a2, nI_add, if_neg (fun ⟨s, b1, b2, b3⟩ => by have := or_inj a1 b3; omega), Nat.add_zero, nu_set _ _ (show i ||| 2 ^ y < 4096 by omega) (by omega), Option.bind_some, Option.bind_some, nI_1]) FU 0 z (by omega) (by rw [FU_eq]; omega) (by
      intro S hS hgS
      rw [hz S hS hgS, if_neg (fun ⟨s, b1, _⟩ => by omega), Nat.add_zero])
    refine ⟨z', ?_, k1⟩
    have k2' : f_X8_spreadChances_80 (nI p) fl fo (nI d) (nI (fa_cnt gd i)) FU 0 z = _ := k2
    rw [k2', f_X8_spreadChances_80_s, if_pos (ps_le (by omega) (by omega) (Nat.le_refl p))]
  obtain ⟨s', m, e1, e2, e3⟩ := lp_cnt gd (fun m i z => f_X8_spreadChances_38 (nI (fa_cnt gd (2 ^ p))) (nI p) fl fo m (nI i) z) (2 ^ p) (fun i z => ∀ S, S < 2 ^ p → gd S = true → z S = nI (cg p gd op 479001600 i S))
    (fun m i z hi hg hI => by
      have hless := fa_less (p := gd) hg hi
      obtain ⟨l1, l2⟩ := hL i hi hg
      have hop := hy.2.2.1 i hi
      have hpc : pc 12 (op i) ≤ 12 := pc_le _ 12
      by_cases h0 : op i = 0
      · refine ⟨z, ?_, ?_⟩
        · intro S hS hgS
          rw [hI S hS hgS, cg_s, if_neg, Nat.add_zero]
          intro ⟨_, s, _, hb, _⟩
          rw [h0, Nat.zero_testBit] at hb
          cases hb
        · rw [f_X8_spreadChances_38_s, if_neg (ng_le (by omega) (by omega) hless), nu_get _ (show fa_cnt gd i < 4096 by omega) (by omega), Option.bind_some, l2, x_bc _ (by omega), Option.bind_some, h0, pc_0, if_pos (show nI 0 = 0 from rfl), Option.bind_some, nI_1]
      · have hk := pc_pos h0 hop hp
        have hle := cg_le (T := 479001600) hy (T12 _) hi hg
        obtain ⟨z', k1, k2⟩ := inner i (cg p gd op 479001600 i i / pc 12 (op i)) z (cg p gd op 479001600 i) hi hg hI
        refine ⟨z', ?_, ?_⟩
        · intro S hS hgS
          rw [k2 S hS hgS, cg_s]
          congr 2
          refine ifc ?_
          exact ⟨fun h => ⟨hg, h⟩, fun h => h.2⟩
        · rw [f_X8_spreadChances_38_s, if_neg (ng_le (by omega) (by omega) hless), nu_get _ (show fa_cnt gd i < 4096 by omega) (by omega), Option.bind_some, l2, x_bc _ (by omega), Option.bind_some, if_neg (nI_ne0 (by omega) (by omega)), nu_get _ (show fa_cnt gd i < 4096 by omega) (by omega), Option.bind_some, l1, nu_get _ (show i < 4096 by omega) (by omega), Option.bind_some, hI i hi hg]
          have ed : odivI (nI (cg p gd op 479001600 i i)) (nI (pc 12 (op i))) = some (nI (cg p gd op 479001600 i i / pc 12 (op i))) := by
            unfold odivI
            rw [if_neg (nI_ne0 (by omega) (by omega)), pk_div (by omega) (by omega) (by omega)]
          rw [ed, Option.bind_some, k1, Option.bind_some, Option.bind_some, nI_1])
    (fun i z hi hg hI => by
      intro S hS hgS
      rw [hI S hS hgS, cg_s, if_neg, Nat.add_zero]
      intro ⟨h, _⟩
      rw [hg] at h
      cases h) (2 ^ p) (Nat.le_refl _) FU (upd z0 0 479001600) (by rw [FU_eq]; omega) (by
      intro S hS hgS
      show _ = nI (if S = 0 then 479001600 else 0)
      by_cases e : S = 0
      · subst e; rw [if_pos rfl]; exact pk_us
      · rw [if_neg e, pk_un e]; exact hz1 S hS hgS)
  obtain ⟨m', rfl⟩ : ∃ m', m = m' + 1 := ⟨m - 1, by rw [FU_eq] at e1; omega⟩
  refine ⟨s', ?_, e2⟩
  have e3' : f_X8_spreadChances_38 (nI (fa_cnt gd (2 ^ p))) (nI p) fl fo FU 0 (upd z0 0 479001600) = _ := e3
  unfold f_X8_spreadChances
  rw [hz0, Option.bind_some, show asetI 4096 z0 0 479001600 = _ from nu_set z0 479001600 (show 0 < 4096 by omega) (by omega), Option.bind_some, e3', f_X8_spreadChances_38_s, if_pos (ps_le (by omega) (by omega) (Nat.le_refl _)), Option.bind_some]
end SP1
