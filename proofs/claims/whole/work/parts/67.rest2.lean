/-! arms by ANY: the class' groups, the reference's loop -/
section RS2
def grw (cl : Nat → Nat) (G : Nat) : Nat → Nat
  | 0 => G
  | i + 1 => if G.testBit i then grw cl G i ||| cl i else grw cl G i
theorem grw_bit (cl : Nat → Nat) (G t : Nat) : ∀ i, (grw cl G i).testBit t = true ↔ G.testBit t = true ∨ ∃ s, s < i ∧ G.testBit s = true ∧ (cl s).testBit t = true := by
  intro i
  induction i with
  | zero =>
    constructor
    · intro h; left; exact h
    · intro h
      rcases h with h | ⟨s, h, _⟩
      · exact h
      · omega
  | succ i ih =>
    unfold grw
    by_cases hb : G.testBit i = true
    · rw [if_pos hb, Nat.testBit_or, Bool.or_eq_true, ih]
      constructor
      · rintro ((h | ⟨s, a, b, c⟩) | h)
        · left; exact h
        · right; exact ⟨s, by omega, b, c⟩
        · right; exact ⟨i, by omega, hb, h⟩
      · rintro (h | ⟨s, a, b, c⟩)
        · left; left; exact h
        · by_cases e : s = i
          · subst e; right; exact c
          · left; right; exact ⟨s, by omega, b, c⟩
    · rw [if_neg hb, ih]
      constructor
      · rintro (h | ⟨s, a, b, c⟩)
        · left; exact h
        · right; exact ⟨s, by omega, b, c⟩
      · rintro (h | ⟨s, a, b, c⟩)
        · left; exact h
        · by_cases e : s = i
          · subst e; exact absurd b hb
          · right; exact ⟨s, by omega, b, c⟩
theorem bits_lt {G L n : Nat} (hL : L < 2 ^ n) (h : ∀ t, G.testBit t = true → L.testBit t = true) : G < 2 ^ n := by
  apply Nat.lt_of_not_le
  intro e
  obtain ⟨t, ht, hb⟩ := Nat.exists_ge_and_testBit_of_ge_two_pow e
  have := h t hb
  rw [tb_hi hL ht] at this
  cases this
theorem x_grow {n : Nat} {cl : Nat → Nat} {fc : Nat → Int32} {G : Nat} (hn : n ≤ 12) (hcl : ∀ i, i < n → fc i = nI (cl i)) (hG : G < 2 ^ n) : f_X8_groupOf_18 (nI n) fc (nI G) FU (nI G) 0 = some (nI (grw cl G n)) := by
  have hp12 : 2 ^ n ≤ 2 ^ 12 := Nat.pow_le_pow_right (by omega) hn
  refine lp_at (fun m i y => f_X8_groupOf_18 (nI n) fc (nI G) m y (nI i)) n (fun i => nI (grw cl G i)) rfl (by omega) ?_ ?_
  · intro m
    rw [f_X8_groupOf_18_s, if_pos (ps_le (by omega) (by omega) (Nat.le_refl _))]
  · intro m i hi
    rw [f_X8_groupOf_18_s, if_neg (ng_le (by omega) (by omega) hi), nu_get _ (show i < 12 by omega) (by omega), hcl i hi, nI_1]
    show _ = f_X8_groupOf_18 (nI n) fc (nI G) m (nI (if G.testBit i then grw cl G i ||| cl i else grw cl G i)) (nI (i + 1))
    cases hb : G.testBit i with
    | false => rw [if_pos ((nu_bit0 (by omega) (by omega)).mpr hb), Option.bind_some, if_neg (by decide)]
    | true => rw [if_neg (fun e => by rw [(nu_bit0 (by omega) (by omega)).mp e] at hb; cases hb), Option.bind_some, Option.bind_some, if_pos rfl, fa_or]
theorem x_grp6 {n : Nat} {cl : Nat → Nat} {fc : Nat → Int32} {a L : Nat} (hn : n ≤ 12) (hcl : ∀ i, i < n → fc i = nI (cl i)) (hL : L < 2 ^ n) (hLc : ∀ s t, L.testBit s = true → (cl s).testBit t = true → L.testBit t = true) : ∀ m i G, i ≤ 12 → 12 < i + m → i + 1 ≤ pc 12 G → G.testBit a = true → (∀ t, G.testBit t = true → L.testBit t = true) → ∃ G', f_X8_groupOf_6 (nI n) fc m (nI G) (nI i) = some (nI G') ∧ G'.testBit a = true ∧ (∀ t, G'.testBit t = true → L.testBit t = true) ∧ ∀ s t, G'.testBit s = true → (cl s).testBit t = true → G'.testBit t = true := by
  have hp12 : 2 ^ n ≤ 2 ^ 12 := Nat.pow_le_pow_right (by omega) hn
  intro m
  induction m with
  | zero => intro i G h1 h2; omega
  | succ m ih =>
    intro i G hi him hpc ha hsub
    have hpl := pc_le G 12
    have hG := bits_lt hL hsub
    have hsub' : ∀ t, (grw cl G n).testBit t = true → L.testBit t = true := by
      intro t ht
      rcases (grw_bit cl G t n).mp ht with h | ⟨s, _, h2, h3⟩
      · exact hsub t h
      · exact hLc s t (hsub s h2) h3
    have hG' := bits_lt hL hsub'
    rw [f_X8_groupOf_6_s, if_neg (show ¬ (12 : Int32) ≤ nI i from ng_le (a := 12) (by omega) (by omega) (by omega)), x_grow hn hcl hG, Option.bind_some]
    by_cases e : grw cl G n = G
    · rw [if_pos (by rw [e])]
      refine ⟨G, rfl, ha, hsub, fun s t hs ht => ?_⟩
      rw [← e]
      have hsn : s < n := Nat.lt_of_not_le (fun h => by rw [tb_hi hG h] at hs; cases hs)
      exact (grw_bit cl G t n).mpr (Or.inr ⟨s, hsn, hs, ht⟩)
    · rw [if_neg (fun h => e ((nI_eq (by omega) (by omega)).mp h)), nI_1]
      have hup : ∀ t, G.testBit t = true → (grw cl G n).testBit t = true := fun t ht => (grw_bit cl G t n).mpr (Or.inl ht)
      obtain ⟨u, hu⟩ : ∃ u, (grw cl G n).testBit u ≠ G.testBit u := Nat.exists_testBit_ne_of_ne e
      have hu1 : (grw cl G n).testBit u = true := by
        cases h1 : (grw cl G n).testBit u with
        | true => rfl
        | false =>
          cases h2 : G.testBit u with
          | true => rw [hup u h2] at h1; cases h1
          | false => rw [h1, h2] at hu; exact absurd rfl hu
      have hu2 : G.testBit u = false := by
        cases h2 : G.testBit u with
        | false => rfl
        | true => rw [hu1, h2] at hu; exact absurd rfl hu
      have hun : u < n := Nat.lt_of_not_le (fun h => by rw [tb_hi hG' h] at hu1; cases hu1)
      have := pc_sub hup hu2 hu1 12
      rw [if_pos (by omega)] at this
      have hp2 := pc_le (grw cl G n) 12
      exact ih (i + 1) (grw cl G n) (by omega) (by omega) (by omega) (hup a ha) hsub'
theorem x_group {n : Nat} {cl : Nat → Nat} {fc : Nat → Int32} {a L : Nat} (hn : n ≤ 12) (hcl : ∀ i, i < n → fc i = nI (cl i)) (hL : L < 2 ^ n) (hLc : ∀ s t, L.testBit s = true → (cl s).testBit t = true → L.testBit t = true) (ha : L.testBit a = true) : ∃ G, f_X8_groupOf (nI n) fc (nI a) = some (nI G) ∧ G.testBit a = true ∧ (∀ t, G.testBit t = true → L.testBit t = true) ∧ ∀ s t, G.testBit s = true → (cl s).testBit t = true → G.testBit t = true := by
  have han : a < n := Nat.lt_of_not_le (fun h => by rw [tb_hi hL h] at ha; cases ha)
  have h1 : pc 12 (2 ^ a) = 1 := by
    have := pc_or (S := 0) (x := a) (Nat.zero_testBit a) 12
    rw [Nat.zero_or, pc_0, if_pos (by omega)] at this
    exact this
  obtain ⟨G, g1, g2⟩ := x_grp6 (a := a) hn hcl hL hLc FU 0 (2 ^ a) (by omega) (by rw [FU_eq]; omega) (by omega) (by rw [Nat.testBit_two_pow]; simp) (fun t ht => by
    rw [Nat.testBit_two_pow] at ht
    have : a = t := by simpa using ht
    rw [← this]; exact ha)
  refine ⟨G, ?_, g2⟩
  unfold f_X8_groupOf
  rw [nu_shl (by omega), show f_X8_groupOf_6 (nI n) fc FU (nI (2 ^ a)) 0 = _ from g1, Option.bind_some]
/-- the sum within a group -/
theorem x_sumW {n : Nat} {cl : Nat → Nat} {O : Nat} {fc vfl vfo vch : Nat → Int32} (hc : Csy n cl O) (hcl : ∀ i, i < n → fc i = nI (cl i)) : ∃ sz pl fl fo ch, f_X8_sumWithin (nI n) vfl vfo fc vch (nI O) = some (lN (eF n cl 13 479001600 O), sz, pl, fl, fo, ch) := by
  have hn := hc.1
  have hp12 : 2 ^ n ≤ 2 ^ 12 := Nat.pow_le_pow_right (by omega) hn
  have hy := Csy_Sys hc
  have hO := hc.2.1
  obtain ⟨fl, fo, h1, hL⟩ := x_list (cl := cl) (O := O) (v_filled := vfl) (v_open := vfo) (fp := fc) hn (by omega) hcl
  obtain ⟨ch, h2, hch⟩ := x_spread (vch := vch) hy hL
  have hcE := fa_cnt_le (gG cl O) (2 ^ n)
  obtain ⟨s', m, e1, e2, e3⟩ := lp_cnt (gG cl O) (fun m i (z : Int64) => f_X8_sumWithin_25 (nI (fa_cnt (gG cl O) (2 ^ n)), nI n, fl, fo) ch m z (nI i)) (2 ^ n) (fun S z => z = lN (sm (fun S => if gG cl O S then (if oG cl O S = 0 then pc 12 S * cg n (gG cl O) (oG cl O) 479001600 (2 ^ n) S else 0) else 0) S))
    (fun m S z hS hg hI => by
      have hless := fa_less (p := gG cl O) hg hS
      obtain ⟨l1, l2⟩ := hL S hS hg
      have hop : oG cl O S < 2 ^ n := hy.2.2.1 S hS
      have hpS := pc_le S 12
      have hle := cg_le (T := 479001600) hy (T12 _) hS hg
      have hst := cg_stay (T := 479001600) hy (S := S) (2 ^ n) (by omega) (Nat.le_refl _)
      refine ⟨_, rfl, ?_⟩
      show _ = f_X8_sumWithin_25 (nI (fa_cnt (gG cl O) (2 ^ n)), nI n, fl, fo) ch m (lN (sm (fun S => if gG cl O S then (if oG cl O S = 0 then pc 12 S * cg n (gG cl O) (oG cl O) 479001600 (2 ^ n) S else 0) else 0) S + (if gG cl O S then (if oG cl O S = 0 then pc 12 S * cg n (gG cl O) (oG cl O) 479001600 (2 ^ n) S else 0) else 0))) (nI (fa_cnt (gG cl O) S + 1))
      rw [hI, f_X8_sumWithin_25_s]
      dsimp only
      rw [if_neg (ng_le (by omega) (by omega) hless), nu_get _ (show fa_cnt (gG cl O) S < 4096 by omega) (by omega), Option.bind_some, l2, if_pos hg]
      by_cases h0 : oG cl O S = 0
      · rw [h0, if_pos (show nI 0 = 0 from rfl), if_pos rfl, nu_get _ (show fa_cnt (gG cl O) S < 4096 by omega) (by omega), Option.bind_some, l1, x_bc S (by omega), Option.bind_some, Option.bind_some, nu_get _ (show S < 4096 by omega) (by omega), Option.bind_some, hch S hS hg, nI_l (by omega), nI_l (by omega), lN_mul, lN_add, Option.bind_some, nI_1]
      · rw [if_neg (nI_ne0 (by omega) (by omega)), if_neg h0, Nat.add_zero, Option.bind_some, nI_1])
    (fun S z hS hg hI => by
      show z = lN (sm (fun S => if gG cl O S then (if oG cl O S = 0 then pc 12 S * cg n (gG cl O) (oG cl O) 479001600 (2 ^ n) S else 0) else 0) S + (if gG cl O S then (if oG cl O S = 0 then pc 12 S * cg n (gG cl O) (oG cl O) 479001600 (2 ^ n) S else 0) else 0))
      rw [if_neg (fun h => by rw [hg] at h; cases h), Nat.add_zero]
      exact hI) (2 ^ n) (Nat.le_refl _) FU 0 (by rw [FU_eq]; omega) rfl
  obtain ⟨m', rfl⟩ : ∃ m', m = m' + 1 := ⟨m - 1, by rw [FU_eq] at e1; omega⟩
  rw [sum_eF hc (T12 _)] at e2
  refine ⟨nI (fa_cnt (gG cl O) (2 ^ n)), nI n, fl, fo, ch, ?_⟩
  have e3' : f_X8_sumWithin_25 (nI (fa_cnt (gG cl O) (2 ^ n)), nI n, fl, fo) ch FU 0 0 = _ := e3
  unfold f_X8_sumWithin
  rw [h1, Option.bind_some]
  dsimp only
  rw [h2, Option.bind_some, e3', f_X8_sumWithin_25_s, if_pos (ps_le (by omega) (by omega) (Nat.le_refl _)), Option.bind_some, e2]
theorem x_sumOS {n : Nat} {Dm : Nat → Nat → Nat} {B : Nat} {fc : Nat → Int32} (hD : Dok n Dm) (hB1 : 1 ≤ B) (hcl : ∀ i, i < n → fc i = nI (clm Dm B i n)) (vsz vpl : Int32) (vfl vfo vch : Nat → Int32) : ∃ sz pl fl fo ch, f_X8_sumOfSitters (nI n) fc vsz vpl vfl vfo vch = some (lN (eF n (cB n Dm B) 13 479001600 (2 ^ n - 1)), sz, pl, fl, fo, ch) := by
  have hn := hD.1
  have hp12 : 2 ^ n ≤ 2 ^ 12 := Nat.pow_le_pow_right (by omega) hn
  have hpos : 0 < 2 ^ n := Nat.pos_of_ne_zero (by simp [Nat.pow_eq_zero])
  have hall := Csy_bench (O := 2 ^ n - 1) hD hB1 (by omega)
  have hslf : Slf n (cB n Dm B) := ⟨hn, hall.2.2.2⟩
  have hsym := hall.2.2.1
  have hcl' : ∀ i, i < n → fc i = nI (cB n Dm B i) := hcl
  have hclt : ∀ i, cB n Dm B i < 2 ^ n := fun i => clm_lt Dm B i n
  obtain ⟨s', m, k1, k2⟩ := lp_inv (fun m i (z : Int64 × Int32 × Int32 × Int32 × (Nat → Int32) × (Nat → Int32) × (Nat → Int32)) => f_X8_sumOfSitters_14 (nI n) fc m z.1 z.2.1 (nI i) z.2.2.1 z.2.2.2.1 z.2.2.2.2.1 z.2.2.2.2.2.1 z.2.2.2.2.2.2) n (fun i z => ∃ a L, z.1 = lN a ∧ z.2.1 = nI L ∧ L < 2 ^ n ∧ (∀ s t, L.testBit s = true → (cB n Dm B s).testBit t = true → L.testBit t = true) ∧ (∀ t, t < i → L.testBit t = false) ∧ a + eF n (cB n Dm B) 13 479001600 L = eF n (cB n Dm B) 13 479001600 (2 ^ n - 1)) (fun m i z hi hI => by
    obtain ⟨a, L, i1, i2, i3, i4, i5, i6⟩ := hI
    cases hb : L.testBit i with
    | false =>
      refine ⟨z, ⟨a, L, i1, i2, i3, i4, fun t ht => ?_, i6⟩, ?_⟩
      · by_cases e : t = i
        · rw [e]; exact hb
        · exact i5 t (by omega)
      · try dsimp only
        rw [f_X8_sumOfSitters_14_s, if_neg (ng_le (by omega) (by omega) hi), i2, if_pos ((nu_bit0 (by omega) (by omega)).mpr hb), Option.bind_some, nI_1]
    | true =>
      obtain ⟨G, g1, g2, g3, g4⟩ := x_group hn hcl' i3 i4 hb
      have hG := bits_lt i3 g3
      obtain ⟨sz, pl, fl, fo, ch, w⟩ := x_sumW (vfl := z.2.2.2.2.1) (vfo := z.2.2.2.2.2.1) (vch := z.2.2.2.2.2.2) (Csy_bench (O := G) hD hB1 hG) hcl'
      have hsn : ∀ t, L.testBit t = true → t < n := fun t ht => Nat.lt_of_not_le (fun h => by rw [tb_hi i3 h] at ht; cases ht)
      have hLG : G ||| andn L G = L := by
        apply Nat.eq_of_testBit_eq
        intro t
        rw [Nat.testBit_or, andn_bit]
        cases hg : G.testBit t with
        | true => rw [g3 t hg]; rfl
        | false => simp
      have hno : ∀ s t, G.testBit s = true → (andn L G).testBit t = true → (cB n Dm B s).testBit t = false ∧ (cB n Dm B t).testBit s = false := by
        intro s t hs ht
        rw [andn_bit, Bool.and_eq_true] at ht
        have h1 : (cB n Dm B s).testBit t = false := by
          cases hx : (cB n Dm B s).testBit t with
          | false => rfl
          | true => rw [g4 s t hs hx] at ht; cases ht.2
        refine ⟨h1, ?_⟩
        rw [hsym t s (hsn t ht.1) (hsn s (g3 s hs))]
        exact h1
      have hu := eF_union hslf (fac12 ▸ Nat.dvd_refl _ : fac 12 ∣ 479001600) _ G (andn L G) (Nat.le_refl _) hG (andn_lt i3) (fun t ht => by rw [andn_bit, ht]; simp) hno
      rw [hLG] at hu
      refine ⟨(lN (a + eF n (cB n Dm B) 13 479001600 G), nI (andn L G), sz, pl, fl, fo, ch), ⟨a + eF n (cB n Dm B) 13 479001600 G, andn L G, rfl, rfl, andn_lt i3, ?_, ?_, by omega⟩, ?_⟩
      · intro s t hs ht
        rw [andn_bit, Bool.and_eq_true] at hs
        have hLt := i4 s t hs.1 ht
        rw [andn_bit, hLt]
        cases hg : G.testBit t with
        | false => rfl
        | true =>
          have h2 := g4 t s hg (by rw [hsym t s (hsn t hLt) (hsn s hs.1)]; exact ht)
          rw [h2] at hs
          cases hs.2
      · intro t ht
        rw [andn_bit]
        by_cases e : t = i
        · rw [e, g2]; simp
        · rw [i5 t (by omega)]; rfl
      · try dsimp only
        rw [f_X8_sumOfSitters_14_s, if_neg (ng_le (by omega) (by omega) hi), i2, if_neg (fun e => by rw [(nu_bit0 (by omega) (by omega)).mp e] at hb; cases hb), g1, Option.bind_some, w, Option.bind_some, Option.bind_some, i1, lN_add, nu_andn, nI_1]) FU 0 (0, nI (2 ^ n - 1), vsz, vpl, vfl, vfo, vch) (Nat.zero_le _) (by rw [FU_eq]; omega) ⟨0, 2 ^ n - 1, rfl, rfl, by omega, fun s t _ ht => by
      rw [Nat.testBit_two_pow_sub_one, decide_eq_true_eq]
      exact Nat.lt_of_not_le (fun h => by rw [tb_hi (hclt s) h] at ht; cases ht), fun t ht => by omega, by omega⟩
  obtain ⟨a, L, i1, i2, i3, i4, i5, i6⟩ := k1
  have hL0 : L = 0 := by
    apply Nat.eq_of_testBit_eq
    intro t
    rw [Nat.zero_testBit]
    by_cases h : t < n
    · exact i5 t h
    · exact tb_hi i3 (by omega)
  rw [hL0, eF_O, Nat.add_zero] at i6
  refine ⟨s'.2.2.1, s'.2.2.2.1, s'.2.2.2.2.1, s'.2.2.2.2.2.1, s'.2.2.2.2.2.2, ?_⟩
  have k2' : f_X8_sumOfSitters_14 (nI n) fc FU 0 (nI (2 ^ n - 1)) 0 vsz vpl vfl vfo vch = _ := k2
  unfold f_X8_sumOfSitters
  rw [x_all hn, Option.bind_some, k2', f_X8_sumOfSitters_14_s, if_pos (ps_le (by omega) (by omega) (Nat.le_refl _)), Option.bind_some, i1, i6]
/-- the reference's worth of arms by ANY -/
def anyV (n B : Nat) (st : Nat → Nat) (T m : Nat) : Nat := eF n (cB n (Dd n (Ef n st m)) B) 13 T (2 ^ n - 1)
theorem pc_all {n : Nat} (hn : n ≤ 12) : pc 12 (2 ^ n - 1) ≤ n := by
  have hpos : 0 < 2 ^ n := Nat.pos_of_ne_zero (by simp [Nat.pow_eq_zero])
  rw [pc_bits (show 2 ^ n - 1 < 2 ^ n by omega) 12 hn]
  exact pc_le _ n
theorem anyV_b {n B T m : Nat} {st : Nat → Nat} (hn1 : 1 ≤ n) (hn : n ≤ 12) (hB1 : 1 ≤ B) (hB : B ≤ 99) (hT : fac n ∣ T) (hT2 : T ≤ 479001600) : anyV n B st T m ≤ 13 * (12 * (4096 * 479001600)) := by
  have hD := Dd_ok (Ef n st m) hn1 hn
  unfold anyV
  rw [← orc_eF hD hB1 hB (Nat.dvd_trans (fac_dvd n (pc_all hn)) hT)]
  exact sum_b (fun c => odd_b hD hB1 hB (Nat.dvd_trans (fac_dvd n (oB_pc0 n _ B)) hT) hT2)
theorem anyV_q {n B q m : Nat} {st : Nat → Nat} (hn1 : 1 ≤ n) (hn : n ≤ 12) (hB1 : 1 ≤ B) : anyV n B st (q * fac n) m = q * anyV n B st (fac n) m := by
  have hD := Dd_ok (Ef n st m) hn1 hn
  have hpos : 0 < 2 ^ n := Nat.pos_of_ne_zero (by simp [Nat.pow_eq_zero])
  have hall := Csy_bench (O := 2 ^ n - 1) hD hB1 (by omega)
  exact eF_mul ⟨hn, hall.2.2.2⟩ (by omega) (fac_dvd n (pc_all hn)) q
theorem any_bst {n B k : Nat} {st : Nat → Nat} (hn1 : 1 ≤ n) (hn : n ≤ 12) (hB1 : 1 ≤ B) (N : Nat) : bst (opk k) (RV (anyV n B st (fac n))) N = bst (opk k) (RV (anyV n B st 479001600)) N := by
  obtain ⟨q, hq, hqe⟩ := fac_q hn
  refine bst_congr (n := N) (fun _ _ => rfl) (fun b i _ _ _ _ => ?_) N (Nat.le_refl _)
  have e : ∀ m, anyV n B st 479001600 m = q * anyV n B st (fac n) m := fun m => by rw [hqe]; exact anyV_q hn1 hn hB1
  rw [RV_lt, RV_lt, e, e]
  have h1 : q * anyV n B st (fac n) b < q * anyV n B st (fac n) i ↔ anyV n B st (fac n) b < anyV n B st (fac n) i := Nat.mul_lt_mul_left hq
  have h2 : q * anyV n B st (fac n) b = q * anyV n B st (fac n) i ↔ anyV n B st (fac n) b = anyV n B st (fac n) i := ⟨fun h => Nat.eq_of_mul_eq_mul_left hq h, fun h => by rw [h]⟩
  rw [h1, h2]
theorem m_rests {n B k : Nat} {st : Nat → Nat} {fs f vm : Nat → Int32} {ve vr : Nat → Int64} {ra : Int64} (hn1 : 1 ≤ n) (hn : n ≤ 12) (hB1 : 1 ≤ B) (hB : B ≤ 99) (hst : ∀ i, i < n → fs i = nI (st i) ∧ st i ≤ 98) (hk : k ≤ 3) : ∃ z1 z2 z3 z4 z5, f_X11_rests_23 (nI n) (nI B) fs (nI k) FU (-6) 0 0 ra f vm ve vr = some (eO32 (bst (opk k) (RV (anyV n B st (fac n))) (2 ^ (n - 1))), z1, z2, z3, z4, z5) := by
  have hp11 : 2 ^ (n - 1) ≤ 2 ^ 11 := Nat.pow_le_pow_right (by omega) (by omega)
  have hVb : ∀ m, anyV n B st (fac n) m < 2 ^ 62 := fun m => by
    have := anyV_b (m := m) (st := st) hn1 hn hB1 hB (Nat.dvd_refl (fac n)) (fac_le hn).2
    omega
  obtain ⟨s', m, k1, k2⟩ := lp_inv (fun m i (z : Int32 × Int64 × Int64 × (Nat → Int32) × (Nat → Int32) × (Nat → Int64) × (Nat → Int64)) => f_X11_rests_23 (nI n) (nI B) fs (nI k) m z.1 z.2.1 (nI i) z.2.2.1 z.2.2.2.1 z.2.2.2.2.1 z.2.2.2.2.2.1 z.2.2.2.2.2.2) (2 ^ (n - 1)) (fun i z => z.1 = eO32 (bst (opk k) (RV (anyV n B st (fac n))) i) ∧ z.2.1 = lN (ov (anyV n B st (fac n)) 0 (bst (opk k) (RV (anyV n B st (fac n))) i))) (fun m i z hi hI => by
    obtain ⟨i1, i2⟩ := hI
    have hpi := pc_le i 12
    by_cases h1 : pc 12 i ≤ k
    · have ho : opk k i = true := decide_eq_true h1
      have hD := Dd_ok (Ef n st i) hn1 hn
      obtain ⟨zf, f1, f2⟩ := m_findFar (f := z.2.2.2.1) (m := i) hn1 hn hst (by omega)
      obtain ⟨a1, a2, a3, a4, a5⟩ := m_any (vm := z.2.2.2.2.1) (ve := z.2.2.2.2.2.1) (vr := z.2.2.2.2.2.2) hD f2 hB1 hB
      have a6 := m_sum a5
      rw [orc_eF hD hB1 hB (fac_dvd n (pc_all hn))] at a6
      have a6 : f_X11_meanUpper a2 = some (lN (anyV n B st (fac n) i)) := a6
      have hVi := hVb i
      refine ⟨(eO32 (bst (opk k) (RV (anyV n B st (fac n))) (i + 1)), lN (ov (anyV n B st (fac n)) 0 (bst (opk k) (RV (anyV n B st (fac n))) (i + 1))), lN (fac n), zf, a1, a2, a3), ⟨rfl, rfl⟩, ?_⟩
      try dsimp only
      rw [f_X11_rests_23_s, nI_p hn1, nu_shl (by omega), if_neg (ng_le (by omega) (by omega) hi), m_ones (by omega), Option.bind_some, if_neg (fun e => by have := (nI_ltI (by omega) (by omega)).mp e; omega), f1, Option.bind_some, a4, Option.bind_some]
      dsimp only
      rw [a6, Option.bind_some, Option.bind_some, nI_1, i1, i2, bst_yes ho]
      cases hb : bst (opk k) (RV (anyV n B st (fac n))) i with
      | none =>
        rw [if_pos (show eO32 none < 0 by decide), Option.bind_some]
        rfl
      | some b =>
        have hbi := (bst_some hb).1
        have hpb := pc_le b 12
        have hVbb := hVb b
        rw [if_neg (show ¬ eO32 (some b) < 0 from nI_pos (by omega)), show ov (anyV n B st (fac n)) 0 (some b) = anyV n B st (fac n) b from rfl]
        show _ = f_X11_rests_23 (nI n) (nI B) fs (nI k) m (eO32 (if RV (anyV n B st (fac n)) b < RV (anyV n B st (fac n)) i then some i else some b)) (lN (ov (anyV n B st (fac n)) 0 (if RV (anyV n B st (fac n)) b < RV (anyV n B st (fac n)) i then some i else some b))) (nI (i + 1)) (lN (fac n)) zf a1 a2 a3
        by_cases hr : RV (anyV n B st (fac n)) b < RV (anyV n B st (fac n)) i
        · rw [if_pos hr]
          rcases RV_lt.mp hr with hv | ⟨hv, hp⟩
          · rw [if_pos ((lc_gt _ _).mpr ((pk_lLT (by omega) (by omega)).mpr hv)), Option.bind_some]; rfl
          · rw [if_neg (fun e => by have := (pk_lLT (by omega) (by omega)).mp ((lc_gt _ _).mp e); omega), if_pos ((lc_eq _ _).mpr (by rw [hv])), show f_X11_ones (eO32 (some b)) = _ from m_ones (S := b) (by omega), Option.bind_some, if_neg (ng_le (by omega) (by omega) hp), Option.bind_some]; rfl
        · rw [if_neg hr]
          have hr' := fun e => hr (RV_lt.mpr e)
          rw [if_neg (fun e => hr' (Or.inl ((pk_lLT (by omega) (by omega)).mp ((lc_gt _ _).mp e))))]
          by_cases hv : anyV n B st (fac n) i = anyV n B st (fac n) b
          · rw [if_pos ((lc_eq _ _).mpr (by rw [hv])), show f_X11_ones (eO32 (some b)) = _ from m_ones (S := b) (by omega), Option.bind_some, if_pos (ps_le (by omega) (by omega) (by
              rcases Nat.lt_or_ge (pc 12 i) (pc 12 b) with h | h
              · exact absurd (Or.inr ⟨hv.symm, h⟩) hr'
              · exact h)), Option.bind_some]
            rfl
          · rw [if_neg (fun e => hv ((pk_lEQ (by omega) (by omega)).mp ((lc_eq _ _).mp e))), Option.bind_some]
            rfl
    · have ho : opk k i = false := decide_eq_false h1
      refine ⟨z, ⟨by rw [bst_no ho]; exact i1, by rw [bst_no ho]; exact i2⟩, ?_⟩
      try dsimp only
      rw [f_X11_rests_23_s, nI_p hn1, nu_shl (by omega), if_neg (ng_le (by omega) (by omega) hi), m_ones (by omega), Option.bind_some, if_pos ((nI_ltI (by omega) (by omega)).mpr (by omega)), Option.bind_some, nI_1]) FU 0 (-6, 0, ra, f, vm, ve, vr) (Nat.zero_le _) (by rw [FU_eq]; omega) ⟨rfl, rfl⟩
  refine ⟨s'.2.2.1, s'.2.2.2.1, s'.2.2.2.2.1, s'.2.2.2.2.2.1, s'.2.2.2.2.2.2, ?_⟩
  have k2' : f_X11_rests_23 (nI n) (nI B) fs (nI k) FU (-6) 0 0 ra f vm ve vr = _ := k2
  rw [k2', f_X11_rests_23_s, nI_p hn1, nu_shl (by omega), if_pos (ps_le (by omega) (by omega) (Nat.le_refl _)), k1.1]
end RS2
