/-! the game -/
section GM1
theorem gmx_s (n : Nat) (Dm : Nat → Nat → Nat) (B f t S : Nat) : gmx n Dm B (f + 1) t S = if opm n Dm B S n = 0 then pc 12 S else match bst (fun s => (opm n Dm B S n).testBit s) (fun s => if t = 0 then (gmx n Dm B f 1 (S ||| 2 ^ s) : Int) else -(gmx n Dm B f 0 (S ||| 2 ^ s) : Int)) n with
    | none => 0
    | some s => gmx n Dm B f (1 - t) (S ||| 2 ^ s) := rfl
theorem gmx_le (n : Nat) (Dm : Nat → Nat → Nat) (B : Nat) : ∀ f t S, gmx n Dm B f t S ≤ 12 := by
  intro f
  induction f with
  | zero => intro t S; exact pc_le S 12
  | succ f ih =>
    intro t S
    rw [gmx_s]
    split
    · exact pc_le S 12
    · split
      · exact Nat.zero_le _
      · exact ih _ _
theorem gmx_fu {n : Nat} {Dm : Nat → Nat → Nat} {B : Nat} (hy : Sys n (gB n Dm B) (oB n Dm B)) : ∀ f f' t S, S < 2 ^ n → gB n Dm B S = true → pc 12 (oB n Dm B S) < f → pc 12 (oB n Dm B S) < f' → gmx n Dm B f t S = gmx n Dm B f' t S := by
  intro f
  induction f with
  | zero => intro f' t S _ _ h; omega
  | succ f ih =>
    intro f' t S hS hg h1 h2
    obtain ⟨g, rfl⟩ : ∃ g, f' = g + 1 := ⟨f' - 1, by omega⟩
    have key : ∀ s t, (opm n Dm B S n).testBit s = true → gmx n Dm B f t (S ||| 2 ^ s) = gmx n Dm B g t (S ||| 2 ^ s) := by
      intro s t hs
      have k := Sys_pc hy hS hg hs
      exact ih g t (S ||| 2 ^ s) (Sys_lt hy hS hs) (hy.2.2.2 S s hS hg hs).2.1 (by omega) (by omega)
    rw [gmx_s, gmx_s]
    have e : bst (fun s => (opm n Dm B S n).testBit s) (fun s => if t = 0 then (gmx n Dm B f 1 (S ||| 2 ^ s) : Int) else -(gmx n Dm B f 0 (S ||| 2 ^ s) : Int)) n = bst (fun s => (opm n Dm B S n).testBit s) (fun s => if t = 0 then (gmx n Dm B g 1 (S ||| 2 ^ s) : Int) else -(gmx n Dm B g 0 (S ||| 2 ^ s) : Int)) n := by
      refine bst_congr (n := n) (fun _ _ => rfl) (fun b i _ _ hb hi => ?_) n (Nat.le_refl n)
      try dsimp only
      rw [key b 1 hb, key b 0 hb, key i 1 hi, key i 0 hi]
    rw [e]
    by_cases h0 : opm n Dm B S n = 0
    · rw [if_pos h0, if_pos h0]
    · rw [if_neg h0, if_neg h0]
      cases hb : bst (fun s => (opm n Dm B S n).testBit s) (fun s => if t = 0 then (gmx n Dm B g 1 (S ||| 2 ^ s) : Int) else -(gmx n Dm B g 0 (S ||| 2 ^ s) : Int)) n with
      | none => rfl
      | some s => exact key s (1 - t) (bst_some hb).2
def gv (n : Nat) (Dm : Nat → Nat → Nat) (B t S : Nat) : Nat := gmx n Dm B 13 t S
theorem gv_le (n : Nat) (Dm : Nat → Nat → Nat) (B t S : Nat) : gv n Dm B t S ≤ 12 := gmx_le n Dm B 13 t S
/-- whose turn it is wants most of this -/
def gR (n : Nat) (Dm : Nat → Nat → Nat) (B t S s : Nat) : Int := if t = 0 then (gv n Dm B 1 (S ||| 2 ^ s) : Int) else -(gv n Dm B 0 (S ||| 2 ^ s) : Int)
def ov (g : Nat → Nat) (d : Nat) (o : Option Nat) : Nat := match o with
  | none => d
  | some b => g b
theorem gv_0 {n : Nat} {Dm : Nat → Nat → Nat} {B t S : Nat} (hy : Sys n (gB n Dm B) (oB n Dm B)) (hS : S < 2 ^ n) (hg : gB n Dm B S = true) (h0 : oB n Dm B S = 0) : gv n Dm B t S = pc 12 S := by
  unfold gv
  rw [gmx_s, if_pos (show opm n Dm B S n = 0 from h0)]
theorem gv_1 {n : Nat} {Dm : Nat → Nat → Nat} {B t S : Nat} (d : Nat) (hy : Sys n (gB n Dm B) (oB n Dm B)) (hS : S < 2 ^ n) (hg : gB n Dm B S = true) (h0 : oB n Dm B S ≠ 0) : gv n Dm B t S = ov (fun s => gv n Dm B (1 - t) (S ||| 2 ^ s)) d (bst (fun s => (oB n Dm B S).testBit s) (gR n Dm B t S) n) := by
  have hp := pc_le (oB n Dm B S) 12
  have e : gv n Dm B t S = gmx n Dm B 14 t S := gmx_fu hy 13 14 t S hS hg (by omega) (by omega)
  rw [e, gmx_s, if_neg (show ¬ opm n Dm B S n = 0 from h0)]
  show (match bst (fun s => (oB n Dm B S).testBit s) (gR n Dm B t S) n with
    | none => 0
    | some s => gv n Dm B (1 - t) (S ||| 2 ^ s)) = _
  obtain ⟨k, hk⟩ := Nat.exists_testBit_of_ne_zero h0
  obtain ⟨b, hb⟩ := bst_ex (op := fun s => (oB n Dm B S).testBit s) (R := gR n Dm B t S) (Sys_s hy hS hk) hk
  rw [hb]
  rfl
theorem imax_n {a b : Nat} (ha : a < 2 ^ 31) (hb : b < 2 ^ 31) : imax (nI a) (nI b) = nI (max a b) := by
  unfold imax
  by_cases h : a < b
  · rw [if_pos ((nI_ltI ha hb).mpr h), Nat.max_eq_right (by omega)]
  · rw [if_neg (fun hh => h ((nI_ltI ha hb).mp hh)), Nat.max_eq_left (by omega)]
theorem ov_max (g : Nat → Nat) (R : Nat → Int) (hR : ∀ s, R s = (g s : Int)) (i : Nat) (o : Option Nat) : max (ov g 0 o) (g i) = ov g 0 (bnx R i o) := by
  cases o with
  | none => show max 0 (g i) = g i; omega
  | some b =>
    show max (g b) (g i) = ov g 0 (if R b < R i then some i else some b)
    rw [hR, hR]
    by_cases h : (g b : Int) < (g i : Int)
    · rw [if_pos h]; show _ = g i; omega
    · rw [if_neg h]; show _ = g b; omega
theorem ov_min (g : Nat → Nat) (R : Nat → Int) (hR : ∀ s, R s = -(g s : Int)) (i : Nat) (hi : g i ≤ 12) (o : Option Nat) : min (ov g 12 o) (g i) = ov g 12 (bnx R i o) := by
  cases o with
  | none => show min 12 (g i) = g i; omega
  | some b =>
    show min (g b) (g i) = ov g 12 (if R b < R i then some i else some b)
    rw [hR, hR]
    by_cases h : -(g b : Int) < -(g i : Int)
    · rw [if_pos h]; show _ = g i; omega
    · rw [if_neg h]; show _ = g b; omega
theorem ov_le {g : Nat → Nat} (hg : ∀ s, g s ≤ 12) {d : Nat} (hd : d ≤ 12) (o : Option Nat) : ov g d o ≤ 12 := by
  cases o with
  | none => exact hd
  | some b => exact hg b
theorem x_settle0 {n S : Nat} (hn : n ≤ 12) (vw vk : Nat → Int32) (x y : Int32) : f_X4_settle_34 vw vk (nI S) (nI 0) (nI n) FU x y 0 = some (x, y) := by
  refine lp_at2 (fun m i x y => f_X4_settle_34 vw vk (nI S) (nI 0) (nI n) m x y (nI i)) n (fun _ => x) (fun _ => y) rfl rfl (by omega) ?_ ?_
  · intro m
    rw [f_X4_settle_34_s, if_pos (ps_le (by omega) (by omega) (Nat.le_refl _))]
  · intro m i hi
    rw [f_X4_settle_34_s, if_neg (ng_le (by omega) (by omega) hi), if_pos ((nu_bit0 (by omega) (by omega)).mpr (Nat.zero_testBit i)), Option.bind_some, nI_1]
theorem x_settle {n : Nat} {Dm : Nat → Nat → Nat} {B S : Nat} {vw vk : Nat → Int32} (hy : Sys n (gB n Dm B) (oB n Dm B)) (hS : S < 2 ^ n) (hg : gB n Dm B S = true) (hv : ∀ s, (oB n Dm B S).testBit s = true → vw (S ||| 2 ^ s) = nI (gv n Dm B 1 (S ||| 2 ^ s)) ∧ vk (S ||| 2 ^ s) = nI (gv n Dm B 0 (S ||| 2 ^ s))) : f_X4_settle vw vk (nI S) (nI (oB n Dm B S)) (nI n) = some (upd vw S (nI (gv n Dm B 1 S)), upd vk S (nI (gv n Dm B 0 S))) := by
  have hn := hy.1
  have hp12 : 2 ^ n ≤ 2 ^ 12 := Nat.pow_le_pow_right (by omega) hn
  have hop := hy.2.2.1 S hS
  unfold f_X4_settle
  by_cases h0 : oB n Dm B S = 0
  · rw [x_bc S (by omega), Option.bind_some, h0, if_pos (show nI 0 = 0 from rfl), Option.bind_some, if_pos (show nI 0 = 0 from rfl), Option.bind_some, x_settle0 hn, Option.bind_some, nu_set _ _ (show S < 4096 by omega) (by omega), Option.bind_some, nu_set _ _ (show S < 4096 by omega) (by omega), Option.bind_some, gv_0 hy hS hg h0, gv_0 hy hS hg h0]
  · have hl : f_X4_settle_34 vw vk (nI S) (nI (oB n Dm B S)) (nI n) FU 0 12 0 = some (nI (gv n Dm B 0 S), nI (gv n Dm B 1 S)) := by
      rw [gv_1 0 hy hS hg h0 (t := 0), gv_1 12 hy hS hg h0 (t := 1)]
      refine lp_at2 (fun m i x y => f_X4_settle_34 vw vk (nI S) (nI (oB n Dm B S)) (nI n) m x y (nI i)) n (fun i => nI (ov (fun s => gv n Dm B (1 - 0) (S ||| 2 ^ s)) 0 (bst (fun s => (oB n Dm B S).testBit s) (gR n Dm B 0 S) i))) (fun i => nI (ov (fun s => gv n Dm B (1 - 1) (S ||| 2 ^ s)) 12 (bst (fun s => (oB n Dm B S).testBit s) (gR n Dm B 1 S) i))) rfl rfl (by omega) ?_ ?_
      · intro m
        rw [f_X4_settle_34_s, if_pos (ps_le (by omega) (by omega) (Nat.le_refl _))]
      · intro m i hi
        rw [f_X4_settle_34_s, if_neg (ng_le (by omega) (by omega) hi)]
        cases hb : (oB n Dm B S).testBit i with
        | false =>
          rw [if_pos ((nu_bit0 (by omega) (by omega)).mpr hb), Option.bind_some, nI_1, bst_no (op := fun s => (oB n Dm B S).testBit s) hb, bst_no (op := fun s => (oB n Dm B S).testBit s) hb]
        | true =>
          obtain ⟨v1, v2⟩ := hv i hb
          have hlt := Sys_lt hy hS hb
          have q1 := gv_le n Dm B 1 (S ||| 2 ^ i)
          have q0 := gv_le n Dm B 0 (S ||| 2 ^ i)
          have o1 := ov_le (g := fun s => gv n Dm B (1 - 0) (S ||| 2 ^ s)) (fun s => gv_le _ _ _ _ _) (show 0 ≤ 12 by omega) (bst (fun s => (oB n Dm B S).testBit s) (gR n Dm B 0 S) i)
          have o2 := ov_le (g := fun s => gv n Dm B (1 - 1) (S ||| 2 ^ s)) (fun s => gv_le _ _ _ _ _) (show 12 ≤ 12 by omega) (bst (fun s => (oB n Dm B S).testBit s) (gR n Dm B 1 S) i)
          rw [if_neg (fun e => by rw [(nu_bit0 (by omega) (by omega)).mp e] at hb; cases hb), nu_or (by omega), nu_get _ (show S ||| 2 ^ i < 4096 by omega) (by omega), Option.bind_some, nu_get _ (show S ||| 2 ^ i < 4096 by omega) (by omega), Option.bind_some, v1, v2, imax_n (by omega) (by omega), imin_n (by omega) (by omega), Option.bind_some, nI_1, bst_yes (op := fun s => (oB n Dm B S).testBit s) hb, bst_yes (op := fun s => (oB n Dm B S).testBit s) hb]
          have m1 := ov_max (fun s => gv n Dm B (1 - 0) (S ||| 2 ^ s)) (gR n Dm B 0 S) (fun s => if_pos rfl) i (bst (fun s => (oB n Dm B S).testBit s) (gR n Dm B 0 S) i)
          have m2 := ov_min (fun s => gv n Dm B (1 - 1) (S ||| 2 ^ s)) (gR n Dm B 1 S) (fun s => if_neg (by decide)) i (gv_le _ _ _ _ _) (bst (fun s => (oB n Dm B S).testBit s) (gR n Dm B 1 S) i)
          rw [← m1, ← m2]
    rw [x_bc S (by omega), Option.bind_some, if_neg (nI_ne0 (by omega) (by omega)), Option.bind_some, if_neg (nI_ne0 (by omega) (by omega)), Option.bind_some, hl, Option.bind_some, nu_set _ _ (show S < 4096 by omega) (by omega), Option.bind_some, nu_set _ _ (show S < 4096 by omega) (by omega), Option.bind_some]
theorem nI_m1 (k : Nat) : nI k + -1 = nI k - 1 := (Int32.sub_eq_add_neg (nI k) 1).symm
theorem x_play37 {n : Nat} {Dm : Nat → Nat → Nat} {B : Nat} {sz pl : Int32} {fl fo : Nat → Int32} (hy : Sys n (gB n Dm B) (oB n Dm B)) (hL : Lst (gB n Dm B) (oB n Dm B) (2 ^ n) fl fo) : ∀ E, E ≤ 2 ^ n → ∀ m vw vk, fa_cnt (gB n Dm B) E < m → (∀ S, E ≤ S → S < 2 ^ n → gB n Dm B S = true → vw S = nI (gv n Dm B 1 S) ∧ vk S = nI (gv n Dm B 0 S)) → ∃ vw' vk', f_X4_play_37 (sz, nI n, fl, fo) m (nI (fa_cnt (gB n Dm B) E) - 1) vw vk = some (vw', vk') ∧ ∀ S, S < 2 ^ n → gB n Dm B S = true → vw' S = nI (gv n Dm B 1 S) ∧ vk' S = nI (gv n Dm B 0 S) := by
  have hn := hy.1
  have hp12 : 2 ^ n ≤ 2 ^ 12 := Nat.pow_le_pow_right (by omega) hn
  intro E
  induction E with
  | zero =>
    intro _ m vw vk hm hI
    obtain ⟨m', rfl⟩ : ∃ m', m = m' + 1 := ⟨m - 1, by omega⟩
    refine ⟨vw, vk, ?_, fun S hS hg => hI S (Nat.zero_le _) hS hg⟩
    rw [f_X4_play_37_s, if_pos (show nI (fa_cnt (gB n Dm B) 0) - 1 < 0 by show nI 0 - 1 < 0; decide)]
  | succ E ih =>
    intro hE m vw vk hm hI
    cases hg : gB n Dm B E with
    | false =>
      rw [fa_cnt_no hg] at hm ⊢
      refine ih (by omega) m vw vk hm (fun S h1 h2 h3 => ?_)
      by_cases e : S = E
      · subst e; rw [hg] at h3; cases h3
      · exact hI S (by omega) h2 h3
    | true =>
      have hc := fa_cnt_le (gB n Dm B) E
      obtain ⟨l1, l2⟩ := hL E (by omega) hg
      rw [fa_cnt_yes hg] at hm ⊢
      obtain ⟨m', rfl⟩ : ∃ m', m = m' + 1 := ⟨m - 1, by omega⟩
      rw [nI_pred, f_X4_play_37_s, if_neg (nI_pos (by omega))]
      dsimp only
      rw [nu_get _ (show fa_cnt (gB n Dm B) E < 4096 by omega) (by omega), Option.bind_some, nu_get _ (show fa_cnt (gB n Dm B) E < 4096 by omega) (by omega), Option.bind_some, l1, l2, x_settle hy (by omega) hg (fun s hs => by
        obtain ⟨a, b, c, d⟩ := hy.2.2.2 E s (by omega) hg hs
        have := or_gt a
        exact hI _ (by omega) (Sys_lt hy (by omega) hs) b), Option.bind_some, nI_m1]
      refine ih (by omega) m' _ _ (by omega) (fun S h1 h2 h3 => ?_)
      by_cases e : S = E
      · subst e; exact ⟨pk_us, pk_us⟩
      · dsimp only
        rw [pk_un e, pk_un e]
        exact hI S (by omega) h2 h3
theorem g_fil {n : Nat} {Dm : Nat → Nat → Nat} {B S : Nat} (hD : Dok n Dm) (hB : B ≤ 99) : gB n Dm B S = true ↔ fil n Dm B S := by
  unfold gB
  rw [flb_iff, ← fil_alt hD hB]
theorem x_play {n : Nat} {Dm : Nat → Nat → Nat} {B : Nat} {vsz vpl vk : Int32} {vfl vfo vcl vwi vki : Nat → Int32} (hD : Dok n Dm) (hB1 : 1 ≤ B) (hB : B ≤ 99) (hcl : ∀ j, j < n → vcl j = nI (clm Dm B j n)) (hk : vk = 0 ∨ vk = 1 ∧ MatOK n B Dm vki vwi) : ∃ sz pl fl fo wi ki, f_X4_play vk (nI n) vsz vpl vfl vfo vcl vwi vki = some (1, sz, pl, fl, fo, wi, ki) ∧ MatOK n B Dm ki wi := by
  rcases hk with rfl | ⟨rfl, hk⟩
  · have hn := hD.1
    have hp12 : 2 ^ n ≤ 2 ^ 12 := Nat.pow_le_pow_right (by omega) hn
    have hpos : 0 < 2 ^ n := Nat.pos_of_ne_zero (by simp [Nat.pow_eq_zero])
    have hy := Sys_bench hD hB1 hB
    have eg : ∀ S, S < 2 ^ n → gG (cB n Dm B) (2 ^ n - 1) S = gB n Dm B S := fun S hS => gG_flb hD hB hS
    have eo : ∀ S, S < 2 ^ n → oG (cB n Dm B) (2 ^ n - 1) S = oB n Dm B S := fun S hS => oG_opm hD hB hS
    obtain ⟨fl, fo, h1, hL⟩ := x_list (cl := cB n Dm B) (O := 2 ^ n - 1) (v_filled := vfl) (v_open := vfo) (fp := vcl) hn (by omega) (fun i hi => hcl i hi)
    have ec : ∀ E, E ≤ 2 ^ n → fa_cnt (gG (cB n Dm B) (2 ^ n - 1)) E = fa_cnt (gB n Dm B) E := fun E hE => fa_cnt_cong (fun k hk => eg k (by omega))
    have hL' : Lst (gB n Dm B) (oB n Dm B) (2 ^ n) fl fo := by
      intro S hS hg
      have := hL S hS ((eg S hS).trans hg)
      rw [ec S (by omega), eo S hS] at this
      exact this
    have hcE := fa_cnt_le (gB n Dm B) (2 ^ n)
    obtain ⟨wi, ki, p1, p2⟩ := x_play37 (sz := nI (fa_cnt (gB n Dm B) (2 ^ n))) (pl := nI n) hy hL' (2 ^ n) (Nat.le_refl _) FU vwi vki (by rw [FU_eq]; omega) (fun S h1 h2 => by omega)
    rw [ec _ (Nat.le_refl _)] at h1
    refine ⟨nI (fa_cnt (gB n Dm B) (2 ^ n)), nI n, fl, fo, wi, ki, ?_, fun S hS hf => ⟨(p2 S hS ((g_fil hD hB).mpr hf)).2, (p2 S hS ((g_fil hD hB).mpr hf)).1⟩⟩
    · unfold f_X4_play
      rw [if_pos rfl, x_all hn, Option.bind_some, h1, Option.bind_some]
      dsimp only
      rw [p1, Option.bind_some]
  · refine ⟨vsz, vpl, vfl, vfo, vwi, vki, ?_, hk⟩
    unfold f_X4_play
    rw [if_neg (by decide)]
/-- the reference's table of ends -/
def End (n : Nat) (Dm : Nat → Nat → Nat) (B E : Nat) (e : Nat → Int32) : Prop := ∀ t S, t ≤ 1 → E ≤ S → S < 2 ^ n → gB n Dm B S = true → e (4096 * t + S) = nI (gv n Dm B t S)
def eV (g : Nat → Nat) (o : Option Nat) : Int32 := match o with
  | none => -6
  | some b => nI (g b)
theorem t_ix {t : Nat} (ht : t ≤ 1) (k : Nat) : (4096 : Int32) * (1 - nI t) + nI k = nI (4096 * (1 - t) + k) := by
  have e : (4096 : Int32) * (1 - nI t) = nI (4096 * (1 - t)) := by
    rcases (show t = 0 ∨ t = 1 by omega) with rfl | rfl <;> decide
  rw [e, nI_add]
theorem t_ix2 {t : Nat} (k : Nat) : (4096 : Int32) * nI t + nI k = nI (4096 * t + k) := by
  rw [show (4096 : Int32) = nI 4096 from rfl, pk_mul, nI_add]
theorem m_ends27 {n : Nat} {Dm : Nat → Nat → Nat} {B S t : Nat} {z e : Nat → Int32} (hy : Sys n (gB n Dm B) (oB n Dm B)) (hS : S < 2 ^ n) (hg : gB n Dm B S = true) (h0 : oB n Dm B S ≠ 0) (ht : t ≤ 1) (hz : z S = nI (oB n Dm B S)) (hE : ∀ s, (oB n Dm B S).testBit s = true → e (4096 * (1 - t) + (S ||| 2 ^ s)) = nI (gv n Dm B (1 - t) (S ||| 2 ^ s))) : f_X11_findEnds_27 (nI n) (nI (2 ^ n), z) (nI S) (nI t) e FU (-6) 0 = some (nI (gv n Dm B t S)) := by
  have hn := hy.1
  have hp12 : 2 ^ n ≤ 2 ^ 12 := Nat.pow_le_pow_right (by omega) hn
  have hop := hy.2.2.1 S hS
  have hfin : eV (fun s => gv n Dm B (1 - t) (S ||| 2 ^ s)) (bst (fun s => (oB n Dm B S).testBit s) (gR n Dm B t S) n) = nI (gv n Dm B t S) := by
    rw [gv_1 0 hy hS hg h0 (t := t)]
    obtain ⟨k, hk⟩ := Nat.exists_testBit_of_ne_zero h0
    obtain ⟨b, hb⟩ := bst_ex (op := fun s => (oB n Dm B S).testBit s) (R := gR n Dm B t S) (Sys_s hy hS hk) hk
    rw [hb]
    rfl
  rw [← hfin]
  refine lp_at (fun m i y => f_X11_findEnds_27 (nI n) (nI (2 ^ n), z) (nI S) (nI t) e m y (nI i)) n (fun i => eV (fun s => gv n Dm B (1 - t) (S ||| 2 ^ s)) (bst (fun s => (oB n Dm B S).testBit s) (gR n Dm B t S) i)) rfl (by omega) ?_ ?_
  · intro m
    rw [f_X11_findEnds_27_s, if_pos (ps_le (by omega) (by omega) (Nat.le_refl _))]
  · intro m i hi
    rw [f_X11_findEnds_27_s, if_neg (ng_le (by omega) (by omega) hi)]
    dsimp only
    rw [nu_get _ (show S < 4096 by omega) (by omega), Option.bind_some, hz, if_neg (nI_nle (by omega) (by omega)), Option.bind_some]
    cases hb : (oB n Dm B S).testBit i with
    | false =>
      rw [if_neg (fun e => by rw [(nu_bit1 (by omega) (by omega)).mp e] at hb; cases hb), Option.bind_some, nI_1, bst_no (op := fun s => (oB n Dm B S).testBit s) hb]
    | true =>
      have hlt := Sys_lt hy hS hb
      have q1 := gv_le n Dm B (1 - t) (S ||| 2 ^ i)
      rw [if_pos ((nu_bit1 (by omega) (by omega)).mpr hb), nu_or (by omega), t_ix ht, nu_get _ (show 4096 * (1 - t) + (S ||| 2 ^ i) < 8192 by omega) (by omega), Option.bind_some, hE i hb, nI_1, bst_yes (op := fun s => (oB n Dm B S).testBit s) hb]
      cases hbs : bst (fun s => (oB n Dm B S).testBit s) (gR n Dm B t S) i with
      | none =>
        rw [if_pos (show eV (fun s => gv n Dm B (1 - t) (S ||| 2 ^ s)) none < 0 by show (-6 : Int32) < 0; decide), Option.bind_some, Option.bind_some]
        rfl
      | some b =>
        have q2 := gv_le n Dm B (1 - t) (S ||| 2 ^ b)
        have ek : eV (fun s => gv n Dm B (1 - t) (S ||| 2 ^ s)) (some b) = nI (gv n Dm B (1 - t) (S ||| 2 ^ b)) := rfl
        rw [ek, if_neg (nI_pos (by omega))]
        show _ = f_X11_findEnds_27 (nI n) (nI (2 ^ n), z) (nI S) (nI t) e m (eV (fun s => gv n Dm B (1 - t) (S ||| 2 ^ s)) (if gR n Dm B t S b < gR n Dm B t S i then some i else some b)) (nI (i + 1))
        rcases (show t = 0 ∨ t = 1 by omega) with rfl | rfl
        · have er : (gR n Dm B 0 S b < gR n Dm B 0 S i) ↔ gv n Dm B (1 - 0) (S ||| 2 ^ b) < gv n Dm B (1 - 0) (S ||| 2 ^ i) := Int.ofNat_lt
          rw [if_pos (show nI 0 = 0 from rfl)]
          by_cases hc : gv n Dm B (1 - 0) (S ||| 2 ^ i) ≤ gv n Dm B (1 - 0) (S ||| 2 ^ b)
          · rw [if_pos (ps_le (by omega) (by omega) hc), if_neg (fun h => by have := er.mp h; omega), Option.bind_some, Option.bind_some]
            rfl
          · rw [if_neg (ng_le (by omega) (by omega) (by omega)), if_pos (er.mpr (by omega)), Option.bind_some, Option.bind_some]
            rfl
        · have er : (gR n Dm B 1 S b < gR n Dm B 1 S i) ↔ gv n Dm B (1 - 1) (S ||| 2 ^ i) < gv n Dm B (1 - 1) (S ||| 2 ^ b) := by
            show (-(gv n Dm B (1 - 1) (S ||| 2 ^ b) : Int) < -(gv n Dm B (1 - 1) (S ||| 2 ^ i) : Int)) ↔ _
            omega
          rw [if_neg (show ¬ nI 1 = 0 by decide)]
          by_cases hc : gv n Dm B (1 - 1) (S ||| 2 ^ b) ≤ gv n Dm B (1 - 1) (S ||| 2 ^ i)
          · rw [if_pos (ps_le (by omega) (by omega) hc), if_neg (fun h => by have := er.mp h; omega), Option.bind_some, Option.bind_some]
            rfl
          · rw [if_neg (ng_le (by omega) (by omega) (by omega)), if_pos (er.mpr (by omega)), Option.bind_some, Option.bind_some]
            rfl
theorem m_turn {n : Nat} {Dm : Nat → Nat → Nat} {B S t : Nat} {z e : Nat → Int32} (hy : Sys n (gB n Dm B) (oB n Dm B)) (hn1 : 1 ≤ n) (hS : S < 2 ^ n) (ht : t ≤ 1) (hz : z S = if gB n Dm B S then nI (oB n Dm B S) else -6) (hE : gB n Dm B S = true → ∀ s, (oB n Dm B S).testBit s = true → e (4096 * (1 - t) + (S ||| 2 ^ s)) = nI (gv n Dm B (1 - t) (S ||| 2 ^ s))) : ∃ u a, f_X11_findEnds_27 (nI n) (nI (2 ^ n), z) (nI S) (nI t) e FU (-6) 0 = some u ∧ (if z S = 0 then (f_X11_ones (nI S)).bind (fun u27 => some u27) else some u) = some a ∧ (gB n Dm B S = true → a = nI (gv n Dm B t S)) := by
  have hn := hy.1
  have hp12 : 2 ^ n ≤ 2 ^ 12 := Nat.pow_le_pow_right (by omega) hn
  have hop := hy.2.2.1 S hS
  cases hg : gB n Dm B S with
  | false =>
    rw [hg, if_neg (by decide)] at hz
    refine ⟨-6, -6, ?_, ?_, fun h => by cases h⟩
    · show f_X11_findEnds_27 (nI n) (nI (2 ^ n), z) (nI S) (nI t) e (4999 + 1) (-6) 0 = some (-6)
      rw [f_X11_findEnds_27_s, if_neg (nI_nle (by omega) (by omega))]
      dsimp only
      rw [nu_get _ (show S < 4096 by omega) (by omega), Option.bind_some, hz, if_pos (by decide)]
    · rw [hz, if_neg (by decide)]
  | true =>
    rw [hg, if_pos rfl] at hz
    by_cases h0 : oB n Dm B S = 0
    · refine ⟨-6, nI (pc 12 S), ?_, ?_, fun _ => by rw [gv_0 hy hS hg h0]⟩
      · show f_X11_findEnds_27 (nI n) (nI (2 ^ n), z) (nI S) (nI t) e (4999 + 1) (-6) 0 = some (-6)
        rw [f_X11_findEnds_27_s, if_neg (nI_nle (by omega) (by omega))]
        dsimp only
        rw [nu_get _ (show S < 4096 by omega) (by omega), Option.bind_some, hz, h0, if_pos (by decide)]
      · rw [hz, h0, if_pos (show nI 0 = 0 from rfl), m_ones (by omega), Option.bind_some]
    · refine ⟨_, nI (gv n Dm B t S), m_ends27 hy hS hg h0 ht hz (hE hg), ?_, fun _ => rfl⟩
      rw [hz, if_neg (nI_ne0 (by omega) (by omega))]
theorem m_ends15 {n : Nat} {Dm : Nat → Nat → Nat} {B S : Nat} {z e : Nat → Int32} (hy : Sys n (gB n Dm B) (oB n Dm B)) (hn1 : 1 ≤ n) (hS : S < 2 ^ n) (hz : z S = if gB n Dm B S then nI (oB n Dm B S) else -6) (hE : End n Dm B (S + 1) e) : ∃ e', f_X11_findEnds_15 (nI n) (nI (2 ^ n), z) (nI S) FU 0 e = some e' ∧ End n Dm B S e' := by
  have hn := hy.1
  have hp12 : 2 ^ n ≤ 2 ^ 12 := Nat.pow_le_pow_right (by omega) hn
  have hnx : gB n Dm B S = true → ∀ s, (oB n Dm B S).testBit s = true → S < S ||| 2 ^ s ∧ S ||| 2 ^ s < 2 ^ n ∧ gB n Dm B (S ||| 2 ^ s) = true := fun hg s hs => ⟨or_gt (hy.2.2.2 S s hS hg hs).1, Sys_lt hy hS hs, (hy.2.2.2 S s hS hg hs).2.1⟩
  obtain ⟨u0, a0, k1, k2, k3⟩ := m_turn (t := 0) (e := e) hy hn1 hS (by omega) hz (fun hg s hs => by
    obtain ⟨q1, q2, q3⟩ := hnx hg s hs
    exact hE 1 _ (by omega) q1 q2 q3)
  obtain ⟨u1, a1, j1, j2, j3⟩ := m_turn (t := 1) (e := upd e S a0) hy hn1 hS (by omega) hz (fun hg s hs => by
    obtain ⟨q1, q2, q3⟩ := hnx hg s hs
    rw [pk_un (show 4096 * (1 - 1) + (S ||| 2 ^ s) ≠ S by omega)]
    exact hE 0 _ (by omega) q1 q2 q3)
  refine ⟨upd (upd e S a0) (4096 + S) a1, ?_, ?_⟩
  · show f_X11_findEnds_15 (nI n) (nI (2 ^ n), z) (nI S) (4997 + 1 + 1 + 1) 0 e = _
    rw [f_X11_findEnds_15_s, if_neg (by decide), show f_X11_findEnds_27 (nI n) (nI (2 ^ n), z) (nI S) 0 e FU (-6) 0 = _ from k1, Option.bind_some]
    dsimp only
    rw [nu_get _ (show S < 4096 by omega) (by omega), Option.bind_some, k2, Option.bind_some, show (4096 : Int32) * 0 + nI S = nI S by rw [show (4096 : Int32) * 0 = nI 0 by decide, nI_add, Nat.zero_add], nu_set _ _ (show S < 8192 by omega) (by omega), Option.bind_some, show (0 : Int32) + 1 = nI 1 from rfl, f_X11_findEnds_15_s, if_neg (by decide), j1, Option.bind_some]
    dsimp only
    rw [nu_get _ (show S < 4096 by omega) (by omega), Option.bind_some, j2, Option.bind_some, t_ix2, Nat.mul_one, nu_set _ _ (show 4096 + S < 8192 by omega) (by omega), Option.bind_some, f_X11_findEnds_15_s, if_pos (by decide)]
  · intro t S' ht h1 h2 h3
    by_cases e1 : S' = S
    · subst e1
      rcases (show t = 0 ∨ t = 1 by omega) with rfl | rfl
      · rw [pk_un (show 4096 * 0 + S' ≠ 4096 + S' by omega), show 4096 * 0 + S' = S' by omega, pk_us, k3 h3]
      · rw [show 4096 * 1 + S' = 4096 + S' by omega, pk_us, j3 h3]
    · rw [pk_un (show 4096 * t + S' ≠ 4096 + S by omega), pk_un (show 4096 * t + S' ≠ S by omega)]
      exact hE t S' ht (by omega) h2 h3
theorem m_ends9 {n : Nat} {Dm : Nat → Nat → Nat} {B : Nat} {z : Nat → Int32} (hy : Sys n (gB n Dm B) (oB n Dm B)) (hn1 : 1 ≤ n) (hz : ∀ S, S < 2 ^ n → z S = if gB n Dm B S then nI (oB n Dm B S) else -6) : ∀ E, E ≤ 2 ^ n → ∀ m e, E < m → End n Dm B E e → ∃ e', f_X11_findEnds_9 (nI n) (nI (2 ^ n), z) m (nI E - 1) e = some e' ∧ End n Dm B 0 e' := by
  have hn := hy.1
  have hp12 : 2 ^ n ≤ 2 ^ 12 := Nat.pow_le_pow_right (by omega) hn
  intro E
  induction E with
  | zero =>
    intro _ m e hm hI
    obtain ⟨m', rfl⟩ : ∃ m', m = m' + 1 := ⟨m - 1, by omega⟩
    refine ⟨e, ?_, hI⟩
    rw [f_X11_findEnds_9_s, if_pos (by decide)]
  | succ E ih =>
    intro hE m e hm hI
    obtain ⟨m', rfl⟩ : ∃ m', m = m' + 1 := ⟨m - 1, by omega⟩
    obtain ⟨e1, h1, h2⟩ := m_ends15 hy hn1 (show E < 2 ^ n by omega) (hz E (by omega)) hI
    rw [nI_pred, f_X11_findEnds_9_s, if_neg (nI_pos (by omega)), h1, Option.bind_some, nI_m1]
    exact ih (by omega) m' e1 (by omega) h2
theorem m_ends {n : Nat} {Dm : Nat → Nat → Nat} {B : Nat} {f vm ve : Nat → Int32} (hD : Dok n Dm) (hF : FarM n Dm f) (hB1 : 1 ≤ B) (hB : B ≤ 99) : ∃ z e, f_X11_findEnds (nI n) (nI B) f vm ve = some (z, e) ∧ (∀ S, S < 2 ^ n → z S = if gB n Dm B S then nI (oB n Dm B S) else -6) ∧ End n Dm B 0 e := by
  have hn := hD.1
  have hp12 : 2 ^ n ≤ 2 ^ 12 := Nat.pow_le_pow_right (by omega) hn
  obtain ⟨z, z1, z2⟩ := m_mays (vm := vm) hD hF hB
  obtain ⟨e, e1, e2⟩ := m_ends9 (Sys_bench hD hB1 hB) hD.2.1 z2 (2 ^ n) (Nat.le_refl _) FU ve (by rw [FU_eq]; omega) (fun t S _ h1 h2 => by omega)
  refine ⟨z, e, ?_, z2, e2⟩
  unfold f_X11_findEnds
  rw [z1, Option.bind_some]
  dsimp only
  rw [e1, Option.bind_some]
/-- the first seat by which it comes so -/
def gp1 (n : Nat) (Dm : Nat → Nat → Nat) (B t S s : Nat) : Bool := (oB n Dm B S).testBit s && decide (gv n Dm B (1 - t) (S ||| 2 ^ s) = gv n Dm B t S)
theorem fa_ext {p : Nat → Bool} {n : Nat} : ∀ N, n ≤ N → (∀ k, n ≤ k → p k = false) → (fa_first p n < n → fa_first p N = fa_first p n) ∧ (¬ fa_first p n < n → fa_first p N = N) := by
  intro N
  induction N with
  | zero => intro h _; rw [show n = 0 by omega]; exact ⟨fun _ => rfl, fun _ => rfl⟩
  | succ N ih =>
    intro h hp
    have hl := fa_first_le p n
    by_cases e : n = N + 1
    · subst e
      exact ⟨fun _ => rfl, fun h' => by omega⟩
    · obtain ⟨i1, i2⟩ := ih (by omega) hp
      constructor
      · intro h1
        have := i1 h1
        show (if fa_first p N < N then fa_first p N else if p N then N else N + 1) = _
        rw [if_pos (by omega), this]
      · intro h1
        have := i2 h1
        show (if fa_first p N < N then fa_first p N else if p N then N else N + 1) = _
        rw [if_neg (by omega), if_neg (by rw [hp N (by omega)]; decide)]
theorem x_result {n : Nat} {Dm : Nat → Nat → Nat} {B t S : Nat} {vw vk : Nat → Int32} (hn : n ≤ 12) (ht : t ≤ 1) (hS : S < 2 ^ n) (h1 : vw S = nI (gv n Dm B 1 S)) (h0 : vk S = nI (gv n Dm B 0 S)) : f_X4_result vw vk (nI S) (nI t) = some (nI (gv n Dm B t S)) := by
  have hp12 : 2 ^ n ≤ 2 ^ 12 := Nat.pow_le_pow_right (by omega) hn
  unfold f_X4_result
  rcases (show t = 0 ∨ t = 1 by omega) with rfl | rfl
  · rw [if_pos (show nI 0 = 0 from rfl), nu_get _ (show S < 4096 by omega) (by omega), Option.bind_some, Option.bind_some, h0]
  · rw [if_neg (show ¬ nI 1 = 0 by decide), nu_get _ (show S < 4096 by omega) (by omega), Option.bind_some, Option.bind_some, h1]
theorem t_sub {t : Nat} (ht : t ≤ 1) : (1 : Int32) - nI t = nI (1 - t) := by
  rcases (show t = 0 ∨ t = 1 by omega) with rfl | rfl <;> decide
theorem x_best {n : Nat} {Dm : Nat → Nat → Nat} {B t S : Nat} {vw vk : Nat → Int32} (hD : Dok n Dm) (hB1 : 1 ≤ B) (hB : B ≤ 99) (ht : t ≤ 1) (hS : S < 2 ^ n) (hf : fil n Dm B S) (hM : MatOK n B Dm vk vw) : f_X4_bestSeat vw vk (nI S) (nI (oB n Dm B S)) (nI t) = some (if fa_first (gp1 n Dm B t S) n < n then nI (fa_first (gp1 n Dm B t S) n) else -6) := by
  have hn := hD.1
  have hp12 : 2 ^ n ≤ 2 ^ 12 := Nat.pow_le_pow_right (by omega) hn
  have hy := Sys_bench hD hB1 hB
  have hg := (g_fil hD hB).mpr hf
  have hop := hy.2.2.1 S hS
  have hout : ∀ k, n ≤ k → gp1 n Dm B t S k = false := by
    intro k hk
    unfold gp1
    rw [tb_hi hop hk, Bool.false_and]
  have hl : ∀ m i, i ≤ fa_first (gp1 n Dm B t S) 12 → 12 < i + m → f_X4_bestSeat_11 vw vk (nI S) (nI (oB n Dm B S)) (nI t) (nI (gv n Dm B t S)) m (nI i) = some (if fa_first (gp1 n Dm B t S) 12 < 12 then Sum.inr (nI (fa_first (gp1 n Dm B t S) 12)) else Sum.inl ()) := by
    intro m
    induction m with
    | zero => intro i h1 h2; have := fa_first_le (gp1 n Dm B t S) 12; omega
    | succ m ih =>
      intro i h1 h2
      have hle := fa_first_le (gp1 n Dm B t S) 12
      rw [f_X4_bestSeat_11_s]
      by_cases h12 : i = 12
      · subst h12
        rw [if_pos (by decide), if_neg (by omega)]
      · rw [if_neg (show ¬ (12 : Int32) ≤ nI i from ng_le (a := 12) (by omega) (by omega) (by omega))]
        have hnext : gp1 n Dm B t S i = false → i + 1 ≤ fa_first (gp1 n Dm B t S) 12 := by
          intro hp
          rcases Nat.lt_or_ge i (fa_first (gp1 n Dm B t S) 12) with h | h
          · exact h
          · have e : fa_first (gp1 n Dm B t S) 12 = i := by omega
            have := fa_first_yes (gp1 n Dm B t S) 12 (by omega)
            rw [e, hp] at this
            cases this
        cases hb : (oB n Dm B S).testBit i with
        | false =>
          rw [if_pos ((nu_bit0 (by omega) (by omega)).mpr hb), nI_1]
          exact ih (i + 1) (hnext (by unfold gp1; rw [hb, Bool.false_and])) (by omega)
        | true =>
          have hlt := Sys_lt hy hS hb
          have hgs := (hy.2.2.2 S i hS hg hb).2.1
          obtain ⟨v0, v1⟩ := hM _ hlt ((g_fil hD hB).mp hgs)
          have q1 := gv_le n Dm B (1 - t) (S ||| 2 ^ i)
          have q2 := gv_le n Dm B t S
          rw [if_neg (fun e => by rw [(nu_bit0 (by omega) (by omega)).mp e] at hb; cases hb), nu_or (by omega), t_sub ht, x_result hn (by omega) hlt v1 v0, Option.bind_some]
          by_cases hc : gv n Dm B (1 - t) (S ||| 2 ^ i) = gv n Dm B t S
          · have hp : gp1 n Dm B t S i = true := by unfold gp1; rw [hb, Bool.true_and, decide_eq_true_eq]; exact hc
            have e : fa_first (gp1 n Dm B t S) 12 = i := by
              rcases Nat.lt_or_ge i (fa_first (gp1 n Dm B t S) 12) with h | h
              · rw [fa_first_no _ 12 i h] at hp; cases hp
              · omega
            rw [if_pos (by rw [hc]), e, if_pos (by omega)]
          · rw [if_neg (fun e => hc ((nI_eq (by omega) (by omega)).mp e)), nI_1]
            refine ih (i + 1) (hnext ?_) (by omega)
            unfold gp1
            rw [hb, Bool.true_and, decide_eq_false_iff_not]
            exact hc
  obtain ⟨v0, v1⟩ := hM S hS hf
  unfold f_X4_bestSeat
  rw [x_result hn ht hS v1 v0, Option.bind_some, show f_X4_bestSeat_11 vw vk (nI S) (nI (oB n Dm B S)) (nI t) (nI (gv n Dm B t S)) FU 0 = _ from hl FU 0 (Nat.zero_le _) (by rw [FU_eq]; omega), Option.bind_some]
  obtain ⟨i1, i2⟩ := fa_ext (p := gp1 n Dm B t S) 12 hn hout
  by_cases hc : fa_first (gp1 n Dm B t S) n < n
  · rw [i1 hc, if_pos (by omega), if_pos hc]; rfl
  · rw [i2 hc, if_neg (by omega), if_neg hc]; rfl
theorem m_best {n : Nat} {Dm : Nat → Nat → Nat} {B t S : Nat} {z e : Nat → Int32} (hD : Dok n Dm) (hB1 : 1 ≤ B) (hB : B ≤ 99) (ht : t ≤ 1) (hS : S < 2 ^ n) (hf : fil n Dm B S) (hz : z S = if gB n Dm B S then nI (oB n Dm B S) else -6) (hE : End n Dm B 0 e) : ∀ j, j ≤ n → ∀ m acc, j < m → f_X11_game_79 (nI S) (nI t) (z, e) (nI (gv n Dm B t S)) m acc (nI j - 1) = some (if fa_first (gp1 n Dm B t S) j < j then nI (fa_first (gp1 n Dm B t S) j) else acc) := by
  have hn := hD.1
  have hp12 : 2 ^ n ≤ 2 ^ 12 := Nat.pow_le_pow_right (by omega) hn
  have hy := Sys_bench hD hB1 hB
  have hg := (g_fil hD hB).mpr hf
  have hop := hy.2.2.1 S hS
  rw [hg, if_pos rfl] at hz
  intro j
  induction j with
  | zero =>
    intro _ m acc hm
    obtain ⟨m', rfl⟩ : ∃ m', m = m' + 1 := ⟨m - 1, by omega⟩
    rw [f_X11_game_79_s, if_pos (by decide), if_neg (Nat.not_lt_zero _)]
  | succ j ih =>
    intro hj m acc hm
    obtain ⟨m', rfl⟩ : ∃ m', m = m' + 1 := ⟨m - 1, by omega⟩
    have hle := fa_first_le (gp1 n Dm B t S) j
    have efa : fa_first (gp1 n Dm B t S) (j + 1) = if fa_first (gp1 n Dm B t S) j < j then fa_first (gp1 n Dm B t S) j else if gp1 n Dm B t S j then j else j + 1 := rfl
    rw [nI_pred, f_X11_game_79_s, if_neg (nI_pos (by omega))]
    dsimp only
    rw [nu_get _ (show S < 4096 by omega) (by omega), Option.bind_some, hz]
    have ew : (if (nI (oB n Dm B S) >>> (nI j &&& 31)) &&& 1 = 1 then (aget 8192 e (((4096 : Int32) * (1 - nI t)) + (nI S ||| ((1 : Int32) <<< (nI j &&& 31))))).bind (fun u21 => if u21 = nI (gv n Dm B t S) then some 1 else some 0) else some 0) = some (b32 (gp1 n Dm B t S j)) := by
      cases hb : (oB n Dm B S).testBit j with
      | false =>
        rw [if_neg (fun e => by rw [(nu_bit1 (by omega) (by omega)).mp e] at hb; cases hb)]
        unfold gp1
        rw [hb, Bool.false_and]
        rfl
      | true =>
        have hlt := Sys_lt hy hS hb
        have hgs := (hy.2.2.2 S j hS hg hb).2.1
        have q1 := gv_le n Dm B (1 - t) (S ||| 2 ^ j)
        have q2 := gv_le n Dm B t S
        rw [if_pos ((nu_bit1 (by omega) (by omega)).mpr hb), nu_or (by omega), t_ix ht, nu_get _ (show 4096 * (1 - t) + (S ||| 2 ^ j) < 8192 by omega) (by omega), Option.bind_some, hE (1 - t) _ (by omega) (Nat.zero_le _) hlt hgs]
        unfold gp1
        rw [hb, Bool.true_and]
        by_cases hc : gv n Dm B (1 - t) (S ||| 2 ^ j) = gv n Dm B t S
        · rw [if_pos (by rw [hc]), show decide (gv n Dm B (1 - t) (S ||| 2 ^ j) = gv n Dm B t S) = true from decide_eq_true hc]; rfl
        · rw [if_neg (fun e => hc ((nI_eq (by omega) (by omega)).mp e)), show decide (gv n Dm B (1 - t) (S ||| 2 ^ j) = gv n Dm B t S) = false from decide_eq_false hc]; rfl
    rw [ew, Option.bind_some]
    cases hp : gp1 n Dm B t S j with
    | false =>
      rw [if_pos (show b32 false = 0 from rfl), Option.bind_some, nI_m1, ih (by omega) m' acc (by omega), efa, hp]
      by_cases hc : fa_first (gp1 n Dm B t S) j < j
      · rw [if_pos hc, if_pos hc, if_pos (by omega)]
      · rw [if_neg hc, if_neg hc, if_neg (show ¬ false = true by decide), if_neg (by omega)]
    | true =>
      rw [if_neg (show ¬ b32 true = 0 by decide), Option.bind_some, nI_m1, ih (by omega) m' (nI j) (by omega), efa, hp]
      by_cases hc : fa_first (gp1 n Dm B t S) j < j
      · rw [if_pos hc, if_pos hc, if_pos (by omega)]
      · rw [if_neg hc, if_neg hc, if_pos rfl, if_pos (by omega)]
end GM1
