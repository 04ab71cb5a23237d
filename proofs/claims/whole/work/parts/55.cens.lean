/-! the census of the class; fractions in lowest terms -/
section CE1
theorem x_fillL (N : Nat) (hN : N < 5000) (f : Nat → Int64) (x : Int64) : f_J7_fill_d0a16 N f x = some (fun j => if j < N then x else f j) := by
  have h : f_J7_fill_d0a16_6 N x FU 0 f = some (fun j => if j < N then x else f j) := by
    refine lp_at (fun m i z => f_J7_fill_d0a16_6 N x m (nI i) z) N (fun i j => if j < i then x else f j) (by funext j; simp) hN ?_ ?_
    · intro n
      rw [f_J7_fill_d0a16_6_s, if_pos (show Int32.ofNat N ≤ nI N from ps_le (by omega) (by omega) (Nat.le_refl N))]
    · intro n i hi
      rw [f_J7_fill_d0a16_6_s, if_neg (show ¬ Int32.ofNat N ≤ nI i from ng_le (by omega) (by omega) hi), nu_setL _ _ hi (by omega), Option.bind_some, nI_1, updL_lt (f := fun _ => x) rfl]
  unfold f_J7_fill_d0a16
  rw [h, Option.bind_some]
theorem x_note {n : Nat} {Dm : Nat → Nat → Nat} {B S ch : Nat} {ws : Nat → Int32} {od : Nat → Int64} {wf oF : Nat → Nat} (hS : S < 4096) (hch : ch < 2 ^ 31) (hw : ∀ c, c ≤ 12 → ws c = nI (wf c)) (ho : ∀ c, c ≤ 12 → od c = lN (oF c)) : ∃ ws' od', f_X1_note (eO32 (bst (whB n Dm B) (fun S => -(pc 12 S : Int)) S)) (eO32 (bst (whB n Dm B) (fun S => (pc 12 S : Int)) S)) ws od (nI S) (nI ch) = some (eO32 (bnx (fun S => -(pc 12 S : Int)) S (bst (whB n Dm B) (fun S => -(pc 12 S : Int)) S)), eO32 (bnx (fun S => (pc 12 S : Int)) S (bst (whB n Dm B) (fun S => (pc 12 S : Int)) S)), ws', od') ∧ (∀ c, c ≤ 12 → ws' c = nI (wf c + if pc 12 S = c then 1 else 0)) ∧ ∀ c, c ≤ 12 → od' c = lN (oF c + if pc 12 S = c then ch else 0) := by
  have p2 := pc_le S 12
  have a1 : (if eO32 (bst (whB n Dm B) (fun S => -(pc 12 S : Int)) S) = -6 then some (nI S) else (f_J6_bitCount_0f7a4 (eO32 (bst (whB n Dm B) (fun S => -(pc 12 S : Int)) S))).bind (fun u14 => if u14 ≤ nI (pc 12 S) then some (eO32 (bst (whB n Dm B) (fun S => -(pc 12 S : Int)) S)) else some (nI S))) = some (eO32 (bnx (fun S => -(pc 12 S : Int)) S (bst (whB n Dm B) (fun S => -(pc 12 S : Int)) S))) := by
    cases hb : bst (whB n Dm B) (fun S => -(pc 12 S : Int)) S with
    | none => rw [if_pos (show eO32 none = -6 from rfl)]; rfl
    | some b =>
      have hbi := (bst_some hb).1
      have p1 := pc_le b 12
      rw [if_neg (show ¬ eO32 (some b) = -6 from eO32_neg (by omega)), show f_J6_bitCount_0f7a4 (eO32 (some b)) = _ from x_bc b (by omega), Option.bind_some]
      show _ = some (eO32 (if -(pc 12 b : Int) < -(pc 12 S : Int) then some S else some b))
      by_cases hc : pc 12 b ≤ pc 12 S
      · rw [if_pos (ps_le (by omega) (by omega) hc), if_neg (by omega)]
      · rw [if_neg (ng_le (by omega) (by omega) (by omega)), if_pos (by omega)]; rfl
  have a2 : (if eO32 (bst (whB n Dm B) (fun S => (pc 12 S : Int)) S) = -6 then some (nI S) else (f_J6_bitCount_0f7a4 (eO32 (bst (whB n Dm B) (fun S => (pc 12 S : Int)) S))).bind (fun u11 => if nI (pc 12 S) ≤ u11 then some (eO32 (bst (whB n Dm B) (fun S => (pc 12 S : Int)) S)) else some (nI S))) = some (eO32 (bnx (fun S => (pc 12 S : Int)) S (bst (whB n Dm B) (fun S => (pc 12 S : Int)) S))) := by
    cases hb : bst (whB n Dm B) (fun S => (pc 12 S : Int)) S with
    | none => rw [if_pos (show eO32 none = -6 from rfl)]; rfl
    | some b =>
      have hbi := (bst_some hb).1
      have p1 := pc_le b 12
      rw [if_neg (show ¬ eO32 (some b) = -6 from eO32_neg (by omega)), show f_J6_bitCount_0f7a4 (eO32 (some b)) = _ from x_bc b (by omega), Option.bind_some]
      show _ = some (eO32 (if (pc 12 b : Int) < (pc 12 S : Int) then some S else some b))
      by_cases hc : pc 12 S ≤ pc 12 b
      · rw [if_pos (ps_le (by omega) (by omega) hc), if_neg (by omega)]
      · rw [if_neg (ng_le (by omega) (by omega) (by omega)), if_pos (by omega)]; rfl
  refine ⟨upd ws (pc 12 S) (ws (pc 12 S) + 1), vp_updL od (pc 12 S) (od (pc 12 S) + lN ch), ?_, ?_, ?_⟩
  · unfold f_X1_note
    rw [x_bc S hS, Option.bind_some, nu_get _ (show pc 12 S < 13 by omega) (by omega), Option.bind_some, nu_set _ _ (show pc 12 S < 13 by omega) (by omega), Option.bind_some, nu_get _ (show pc 12 S < 13 by omega) (by omega), Option.bind_some, nI_l hch, nu_setL _ _ (show pc 12 S < 13 by omega) (by omega), Option.bind_some, a1, Option.bind_some, a2, Option.bind_some]
  · intro c hc
    by_cases e : c = pc 12 S
    · subst e; rw [pk_us, hw _ hc, nI_1, if_pos rfl]
    · rw [pk_un e, hw c hc, if_neg (fun h => e h.symm), Nat.add_zero]
  · intro c hc
    by_cases e : c = pc 12 S
    · subst e; rw [pk_uLs, ho _ hc, lN_add, if_pos rfl]
    · rw [pk_uLn e, ho c hc, if_neg (fun h => e h.symm), Nat.add_zero]
theorem x_take {n : Nat} {Dm : Nat → Nat → Nat} {B : Nat} {vl vm vsz vpl : Int32} {vfl vfo vcl vch vws : Nat → Int32} {vod : Nat → Int64} (hD : Dok n Dm) (hB1 : 1 ≤ B) (hB : B ≤ 99) (hcl : ∀ j, j < n → vcl j = nI (clm Dm B j n)) : ∃ l m sz pl fl fo ch ws od, f_X1_take vl vm 0 (nI n) vsz vpl vfl vfo vcl vch vws vod = some (l, m, 1, sz, pl, fl, fo, ch, ws, od) ∧ CenOK n B Dm l m ws od := by
  have hn := hD.1
  have hp12 : 2 ^ n ≤ 2 ^ 12 := Nat.pow_le_pow_right (by omega) hn
  have hpos : 0 < 2 ^ n := Nat.pos_of_ne_zero (by simp [Nat.pow_eq_zero])
  have hy := Csy_Sys (Csy_bench (O := 2 ^ n - 1) hD hB1 (by omega))
  have eg : ∀ S, S < 2 ^ n → gG (cB n Dm B) (2 ^ n - 1) S = gB n Dm B S := fun S hS => gG_flb hD hB hS
  have eo : ∀ S, S < 2 ^ n → oG (cB n Dm B) (2 ^ n - 1) S = oB n Dm B S := fun S hS => oG_opm hD hB hS
  obtain ⟨fl, fo, h1, hL⟩ := x_list (cl := cB n Dm B) (O := 2 ^ n - 1) (v_filled := vfl) (v_open := vfo) (fp := vcl) hn (by omega) (fun i hi => hcl i hi)
  obtain ⟨ch, h2, hch⟩ := x_spread (vch := vch) hy hL
  have hcE := fa_cnt_le (gG (cB n Dm B) (2 ^ n - 1)) (2 ^ n)
  have hcg : ∀ S, S < 2 ^ n → gG (cB n Dm B) (2 ^ n - 1) S = true → ch S = nI (chT n Dm B 479001600 (2 ^ n) S) ∧ chT n Dm B 479001600 (2 ^ n) S < 2 ^ 31 := by
    intro S hS hg
    have e : chT n Dm B 479001600 (2 ^ n) S = cg n (gG (cB n Dm B) (2 ^ n - 1)) (oG (cB n Dm B) (2 ^ n - 1)) 479001600 (2 ^ n) S := by
      rw [chT_B]
      exact (cg_congr (E := 2 ^ n) (fun i hi => ⟨eg i hi, eo i hi⟩) (2 ^ n) (Nat.le_refl _) S).symm
    have hle := cg_le (T := 479001600) hy (T12 _) hS hg
    rw [e]
    refine ⟨hch S hS hg, ?_⟩
    rw [cg_stay hy (2 ^ n) (by omega) (Nat.le_refl _)]
    omega
  obtain ⟨s', m, e1, e2, e3⟩ := lp_cnt (gG (cB n Dm B) (2 ^ n - 1)) (fun m i (z : Int32 × Int32 × (Nat → Int32) × (Nat → Int64)) => f_X1_take_64 (nI (fa_cnt (gG (cB n Dm B) (2 ^ n - 1)) (2 ^ n)), nI n, fl, fo) ch m (nI i) z.1 z.2.1 z.2.2.1 z.2.2.2) (2 ^ n) (fun S z => z.1 = eO32 (bst (whB n Dm B) (fun S => -(pc 12 S : Int)) S) ∧ z.2.1 = eO32 (bst (whB n Dm B) (fun S => (pc 12 S : Int)) S) ∧ (∀ c, c ≤ 12 → z.2.2.1 c = nI (wyc n Dm B c S)) ∧ ∀ c, c ≤ 12 → z.2.2.2 c = lN (orc n Dm B 479001600 c S))
    (fun m S z hS hg hI => by
      obtain ⟨i1, i2, i3, i4⟩ := hI
      have hless := fa_less (p := gG (cB n Dm B) (2 ^ n - 1)) hg hS
      obtain ⟨l1, l2⟩ := hL S hS hg
      have hop : oG (cB n Dm B) (2 ^ n - 1) S < 2 ^ n := hy.2.2.1 S hS
      by_cases h0 : oG (cB n Dm B) (2 ^ n - 1) S = 0
      · have hw : whB n Dm B S = true := by
          unfold whB
          rw [show flb n Dm B S n = true from (eg S hS).symm.trans hg, show opm n Dm B S n = 0 from (eo S hS).symm.trans h0]
          rfl
        obtain ⟨ws', od', q1, q2, q3⟩ := x_note (n := n) (Dm := Dm) (B := B) (S := S) (ch := chT n Dm B 479001600 (2 ^ n) S) (by omega) (hcg S hS hg).2 i3 i4
        refine ⟨(eO32 (bst (whB n Dm B) (fun S => -(pc 12 S : Int)) (S + 1)), eO32 (bst (whB n Dm B) (fun S => (pc 12 S : Int)) (S + 1)), ws', od'), ⟨rfl, rfl, ?_, ?_⟩, ?_⟩
        · intro c hc
          show ws' c = nI (wyc n Dm B c S + (if whB n Dm B S = true ∧ pc 12 S = c then 1 else 0))
          rw [q2 c hc, hw]
          congr 2
          exact ifc ⟨fun h => ⟨rfl, h⟩, fun h => h.2⟩
        · intro c hc
          show od' c = lN (orc n Dm B 479001600 c S + (if whB n Dm B S = true ∧ pc 12 S = c then chT n Dm B 479001600 (2 ^ n) S else 0))
          rw [q3 c hc, hw]
          congr 2
          exact ifc ⟨fun h => ⟨rfl, h⟩, fun h => h.2⟩
        · try dsimp only
          rw [f_X1_take_64_s]
          dsimp only
          rw [if_neg (ng_le (by omega) (by omega) hless), nu_get _ (show fa_cnt (gG (cB n Dm B) (2 ^ n - 1)) S < 4096 by omega) (by omega), Option.bind_some, l2, h0, if_pos (show nI 0 = 0 from rfl), nu_get _ (show fa_cnt (gG (cB n Dm B) (2 ^ n - 1)) S < 4096 by omega) (by omega), Option.bind_some, Option.bind_some, l1, nu_get _ (show S < 4096 by omega) (by omega), Option.bind_some, (hcg S hS hg).1, i1, i2, q1, Option.bind_some, Option.bind_some, nI_1, bst_yes hw, bst_yes hw]
      · have hw : whB n Dm B S = false := by
          cases hx : whB n Dm B S with
          | false => rfl
          | true =>
            unfold whB at hx
            rw [Bool.and_eq_true, decide_eq_true_eq] at hx
            exact absurd ((eo S hS).trans hx.2) h0
        refine ⟨z, ⟨?_, ?_, ?_, ?_⟩, ?_⟩
        · rw [bst_no hw]; exact i1
        · rw [bst_no hw]; exact i2
        · intro c hc
          show z.2.2.1 c = nI (wyc n Dm B c S + (if whB n Dm B S = true ∧ pc 12 S = c then 1 else 0))
          rw [i3 c hc, if_neg (fun e => by rw [hw] at e; cases e.1), Nat.add_zero]
        · intro c hc
          rw [i4 c hc, orc_s, if_neg (fun e => by rw [hw] at e; cases e.1), Nat.add_zero]
        · try dsimp only
          rw [f_X1_take_64_s]
          dsimp only
          rw [if_neg (ng_le (by omega) (by omega) hless), nu_get _ (show fa_cnt (gG (cB n Dm B) (2 ^ n - 1)) S < 4096 by omega) (by omega), Option.bind_some, l2, if_neg (nI_ne0 (by omega) (by omega)), Option.bind_some, nI_1])
    (fun S z hS hg hI => by
      obtain ⟨i1, i2, i3, i4⟩ := hI
      have hw : whB n Dm B S = false := whB_no ((eg S hS).symm.trans hg)
      refine ⟨?_, ?_, ?_, ?_⟩
      · rw [bst_no hw]; exact i1
      · rw [bst_no hw]; exact i2
      · intro c hc
        show z.2.2.1 c = nI (wyc n Dm B c S + (if whB n Dm B S = true ∧ pc 12 S = c then 1 else 0))
        rw [i3 c hc, if_neg (fun e => by rw [hw] at e; cases e.1), Nat.add_zero]
      · intro c hc
        rw [i4 c hc, orc_s, if_neg (fun e => by rw [hw] at e; cases e.1), Nat.add_zero]) (2 ^ n) (Nat.le_refl _) FU (-6, -6, (fun j => if j < 13 then 0 else vws j), (fun j => if j < 13 then 0 else vod j)) (by rw [FU_eq]; omega) ⟨rfl, rfl, fun c hc => by show (if c < 13 then (0 : Int32) else vws c) = _; rw [if_pos (by omega)]; rfl, fun c hc => by show (if c < 13 then (0 : Int64) else vod c) = _; rw [if_pos (by omega)]; rfl⟩
  obtain ⟨m', rfl⟩ : ∃ m', m = m' + 1 := ⟨m - 1, by rw [FU_eq] at e1; omega⟩
  refine ⟨s'.1, s'.2.1, nI (fa_cnt (gG (cB n Dm B) (2 ^ n - 1)) (2 ^ n)), nI n, fl, fo, ch, s'.2.2.1, s'.2.2.2, ?_, e2⟩
  have e3' : f_X1_take_64 (nI (fa_cnt (gG (cB n Dm B) (2 ^ n - 1)) (2 ^ n)), nI n, fl, fo) ch FU 0 (-6) (-6) (fun j => if j < 13 then 0 else vws j) (fun j => if j < 13 then 0 else vod j) = _ := e3
  unfold f_X1_take
  rw [if_pos rfl, x_all hn, Option.bind_some, h1, Option.bind_some]
  dsimp only
  rw [h2, Option.bind_some, x_fill 13 (by omega), Option.bind_some, x_fillL 13 (by omega), Option.bind_some, e3', f_X1_take_64_s, if_pos (ps_le (by omega) (by omega) (Nat.le_refl _)), Option.bind_some]
theorem x_cen {n : Nat} {Dm : Nat → Nat → Nat} {B : Nat} {vl vm vk vsz vpl : Int32} {vfl vfo vcl vch vws : Nat → Int32} {vod : Nat → Int64} (hD : Dok n Dm) (hB1 : 1 ≤ B) (hB : B ≤ 99) (hcl : ∀ j, j < n → vcl j = nI (clm Dm B j n)) (hk : vk = 0 ∨ vk = 1 ∧ CenOK n B Dm vl vm vws vod) : ∃ l m sz pl fl fo ch ws od, f_X1_take vl vm vk (nI n) vsz vpl vfl vfo vcl vch vws vod = some (l, m, 1, sz, pl, fl, fo, ch, ws, od) ∧ CenOK n B Dm l m ws od := by
  rcases hk with rfl | ⟨rfl, hk⟩
  · exact x_take hD hB1 hB hcl
  · refine ⟨vl, vm, vsz, vpl, vfl, vfo, vch, vws, vod, ?_, hk⟩
    unfold f_X1_take
    rw [if_neg (by decide)]
/-- there is a whole set -/
theorem mx_ex (p : Nat → Bool) (h0 : p 0 = true) : ∀ N, 1 ≤ N → ∃ S, S < N ∧ p S = true ∧ ∀ S', S < S' → S' < N → p S' = false := by
  intro N
  induction N with
  | zero => intro h; omega
  | succ N ih =>
    intro _
    by_cases hN : N = 0
    · subst hN
      exact ⟨0, by omega, h0, fun S' h1 h2 => by omega⟩
    · cases hp : p N with
      | true => exact ⟨N, by omega, hp, fun S' h1 h2 => by omega⟩
      | false =>
        obtain ⟨S, a, b, c⟩ := ih (by omega)
        refine ⟨S, by omega, b, fun S' h1 h2 => ?_⟩
        by_cases e : S' = N
        · rw [e]; exact hp
        · exact c S' h1 (by omega)
theorem wh_ex {n : Nat} {Dm : Nat → Nat → Nat} {B : Nat} (hD : Dok n Dm) (hB1 : 1 ≤ B) (hB : B ≤ 99) : ∃ S, S < 2 ^ n ∧ whB n Dm B S = true := by
  have hpos : 0 < 2 ^ n := Nat.pos_of_ne_zero (by simp [Nat.pow_eq_zero])
  have hys := Sys_bench hD hB1 hB
  obtain ⟨S, h1, h2, h3⟩ := mx_ex (gB n Dm B) hys.2.1 (2 ^ n) hpos
  refine ⟨S, h1, ?_⟩
  unfold whB
  rw [show flb n Dm B S n = true from h2, Bool.true_and, decide_eq_true_eq]
  show oB n Dm B S = 0
  by_cases h0 : oB n Dm B S = 0
  · exact h0
  · obtain ⟨s, hs⟩ := Nat.exists_testBit_of_ne_zero h0
    obtain ⟨a, b, c, d⟩ := hys.2.2.2 S s h1 h2 hs
    have := h3 _ (or_gt a) (Sys_lt hys h1 hs)
    rw [b] at this
    cases this
theorem bst_ex {op : Nat → Bool} {R : Nat → Int} {i k : Nat} (hk : k < i) (h : op k = true) : ∃ b, bst op R i = some b := by
  cases hb : bst op R i with
  | none => rw [bst_none hb k hk] at h; cases h
  | some b => exact ⟨b, rfl⟩
theorem lc_eq (x y : Int64) : (lg_cmp x y = 0) ↔ x = y := by
  unfold lg_cmp
  by_cases h1 : x > y
  · rw [if_pos h1]
    constructor
    · intro h; exact absurd h (by decide)
    · intro h
      subst h
      have := Int64.lt_iff_toInt_lt.mp h1
      omega
  · rw [if_neg h1]
    by_cases h2 : x = y
    · rw [if_pos h2]; exact ⟨fun _ => h2, fun _ => rfl⟩
    · rw [if_neg h2]; exact ⟨fun h => absurd h (by decide), fun h => absurd h h2⟩
theorem lc_0 {a : Nat} (ha : a < 2 ^ 63) : (lg_cmp (lN a) 0 = 0) ↔ a = 0 := by
  rw [lc_eq]
  exact pk_lEQ (b := 0) ha (by omega)
theorem rem_n {a b : Nat} (ha : a < 2 ^ 63) (h0 : 0 < b) (hb : b < 2 ^ 63) : oremL (lN a) (lN b) = some (lN (a % b)) := by
  unfold oremL
  rw [if_neg (fun e => by have := (pk_lEQ (b := 0) hb (by omega)).mp e; omega), pk_lRem ha h0 hb]
theorem div_n {a b : Nat} (ha : a < 2 ^ 63) (h0 : 0 < b) (hb : b < 2 ^ 63) : odivL (lN a) (lN b) = some (lN (a / b)) := by
  unfold odivL
  rw [if_neg (fun e => by have := (pk_lEQ (b := 0) hb (by omega)).mp e; omega), pk_lDiv ha h0 hb]
theorem gcd_st (a b : Nat) : Nat.gcd a b = Nat.gcd b (a % b) := by
  rw [Nat.gcd_comm a b, Nat.gcd_rec b a]
  exact Nat.gcd_comm _ _
theorem mod_half {b r : Nat} (h0 : 0 < r) (h : r < b) : 2 * (b % r) < b := by
  have h1 := Nat.div_add_mod b r
  have h2 := Nat.mod_lt b h0
  have h3 : 1 ≤ b / r := (Nat.one_le_div_iff h0).mpr (by omega)
  have h4 : r * 1 ≤ r * (b / r) := Nat.mul_le_mul_left r h3
  omega
theorem x_gcd : ∀ (k m i a b : Nat), a < 2 ^ 62 → b < 2 ^ k → k ≤ 62 → i + 2 * k ≤ 100 → 2 * k < m → f_X10_commonDivisor_9 m (lN a) (lN b) (nI i) = some (lN (Nat.gcd a b)) := by
  intro k
  induction k with
  | zero =>
    intro m i a b ha hb _ hi hm
    have hb0 : b = 0 := by omega
    subst hb0
    obtain ⟨m', rfl⟩ : ∃ m', m = m' + 1 := ⟨m - 1, by omega⟩
    rw [f_X10_commonDivisor_9_s, Nat.gcd_zero_right, if_pos ((lc_0 (by omega)).mpr rfl)]
    split <;> rfl
  | succ k ih =>
    intro m i a b ha hb hk hi hm
    have hpk : 2 ^ (k + 1) ≤ 2 ^ 62 := Nat.pow_le_pow_right (by omega) hk
    have hp2 : 2 ^ (k + 1) = 2 * 2 ^ k := by rw [Nat.pow_succ, Nat.mul_comm]
    obtain ⟨m', rfl⟩ : ∃ m', m = m' + 1 := ⟨m - 1, by omega⟩
    by_cases h0 : b = 0
    · subst h0
      rw [f_X10_commonDivisor_9_s, Nat.gcd_zero_right, if_pos ((lc_0 (by omega)).mpr rfl)]
      split <;> rfl
    · have hr := Nat.mod_lt a (show b > 0 by omega)
      rw [f_X10_commonDivisor_9_s, if_neg (show ¬ (100 : Int32) ≤ nI i from ng_le (a := 100) (by omega) (by omega) (by omega)), if_neg (fun e => h0 ((lc_0 (by omega)).mp e)), rem_n (by omega) (by omega) (by omega), Option.bind_some, nI_1, gcd_st a b]
      obtain ⟨m'', rfl⟩ : ∃ m'', m' = m'' + 1 := ⟨m' - 1, by omega⟩
      by_cases h1 : a % b = 0
      · rw [h1, f_X10_commonDivisor_9_s, Nat.gcd_zero_right, if_pos ((lc_0 (by omega)).mpr rfl)]
        split <;> rfl
      · have hh := mod_half (show 0 < a % b by omega) hr
        rw [f_X10_commonDivisor_9_s, if_neg (show ¬ (100 : Int32) ≤ nI (i + 1) from ng_le (a := 100) (by omega) (by omega) (by omega)), if_neg (fun e => h1 ((lc_0 (by omega)).mp e)), rem_n (by omega) (by omega) (by omega), Option.bind_some, nI_1, gcd_st b (a % b)]
        exact ih m'' (i + 1 + 1) (a % b) (b % (a % b)) (by omega) (by omega) (by omega) (by omega) (by omega)
theorem m_gcd : ∀ (k m a b : Nat), a < 2 ^ 62 → b < 2 ^ k → k ≤ 62 → 2 * k < m → f_X11_lowest_6 m (lN a) (lN b) = some (lN (Nat.gcd a b)) := by
  intro k
  induction k with
  | zero =>
    intro m a b ha hb _ hm
    have hb0 : b = 0 := by omega
    subst hb0
    obtain ⟨m', rfl⟩ : ∃ m', m = m' + 1 := ⟨m - 1, by omega⟩
    rw [f_X11_lowest_6_s, Nat.gcd_zero_right, if_pos ((lc_0 (by omega)).mpr rfl)]
  | succ k ih =>
    intro m a b ha hb hk hm
    have hpk : 2 ^ (k + 1) ≤ 2 ^ 62 := Nat.pow_le_pow_right (by omega) hk
    have hp2 : 2 ^ (k + 1) = 2 * 2 ^ k := by rw [Nat.pow_succ, Nat.mul_comm]
    obtain ⟨m', rfl⟩ : ∃ m', m = m' + 1 := ⟨m - 1, by omega⟩
    by_cases h0 : b = 0
    · subst h0
      rw [f_X11_lowest_6_s, Nat.gcd_zero_right, if_pos ((lc_0 (by omega)).mpr rfl)]
    · have hr := Nat.mod_lt a (show b > 0 by omega)
      rw [f_X11_lowest_6_s, if_neg (fun e => h0 ((lc_0 (by omega)).mp e)), rem_n (by omega) (by omega) (by omega), Option.bind_some, gcd_st a b]
      obtain ⟨m'', rfl⟩ : ∃ m'', m' = m'' + 1 := ⟨m' - 1, by omega⟩
      by_cases h1 : a % b = 0
      · rw [h1, f_X11_lowest_6_s, Nat.gcd_zero_right, if_pos ((lc_0 (by omega)).mpr rfl)]
      · have hh := mod_half (show 0 < a % b by omega) hr
        rw [f_X11_lowest_6_s, if_neg (fun e => h1 ((lc_0 (by omega)).mp e)), rem_n (by omega) (by omega) (by omega), Option.bind_some, gcd_st b (a % b)]
        exact ih m'' (a % b) (b % (a % b)) (by omega) (by omega) (by omega) (by omega)
/-- a fraction's part, in lowest terms -/
def lowN (u l : Nat) (x : Int32) : Nat := if x = 0 then u / Nat.gcd u l else l / Nat.gcd u l
theorem x_low {u l : Nat} (x : Int32) (hu : u < 2 ^ 62) (h0 : 0 < l) (hl : l < 2 ^ 48) : f_X10_lowestPart (lN u) (lN l) x = some (lN (lowN u l x)) := by
  have hg : 0 < Nat.gcd u l := Nat.gcd_pos_of_pos_right u h0
  have hgl : Nat.gcd u l ≤ l := Nat.le_of_dvd h0 (Nat.gcd_dvd_right u l)
  unfold f_X10_lowestPart f_X10_commonDivisor lowN
  rw [show f_X10_commonDivisor_9 FU (lN u) (lN l) 0 = _ from x_gcd 48 FU 0 u l hu hl (by omega) (by omega) (by rw [FU_eq]; omega), Option.bind_some, Option.bind_some, if_neg (fun e => by have := (lc_0 (by omega)).mp e; omega)]
  by_cases hx : x = 0
  · rw [if_pos hx, if_pos hx, Option.bind_some, div_n (by omega) hg (by omega), Option.bind_some]
  · rw [if_neg hx, if_neg hx, Option.bind_some, div_n (by omega) hg (by omega), Option.bind_some]
theorem m_low {u l : Nat} (x : Int32) (hu : u < 2 ^ 62) (h0 : 0 < l) (hl : l < 2 ^ 48) : f_X11_lowest (lN u) (lN l) x = some (lN (lowN u l x)) := by
  have hg : 0 < Nat.gcd u l := Nat.gcd_pos_of_pos_right u h0
  have hgl : Nat.gcd u l ≤ l := Nat.le_of_dvd h0 (Nat.gcd_dvd_right u l)
  unfold f_X11_lowest lowN
  rw [m_gcd 48 FU u l hu hl (by omega) (by rw [FU_eq]; omega), Option.bind_some]
  by_cases hx : x = 0
  · rw [if_pos hx, if_pos hx, div_n (by omega) hg (by omega), Option.bind_some, Option.bind_some]
  · rw [if_neg hx, if_neg hx, div_n (by omega) hg (by omega), Option.bind_some, Option.bind_some]
theorem low_mul {c : Nat} (u l : Nat) (x : Int32) (hc : 0 < c) : lowN (c * u) (c * l) x = lowN u l x := by
  unfold lowN
  rw [Nat.gcd_mul_left, Nat.mul_div_mul_left _ _ hc, Nat.mul_div_mul_left _ _ hc]
theorem x_sum {od : Nat → Int64} {f : Nat → Nat} (h : ∀ c, c ≤ 12 → od c = lN (f c)) : f_X1_sumOfSitters od = some (lN (sm (fun c => c * f c) 13)) := by
  have hl : f_X1_sumOfSitters_4 od FU 0 0 = some (lN (sm (fun c => c * f c) 13)) := by
    refine lp_at (fun m i y => f_X1_sumOfSitters_4 od m y (nI i)) 13 (fun i => lN (sm (fun c => c * f c) i)) rfl (by omega) ?_ ?_
    · intro m
      rw [f_X1_sumOfSitters_4_s, if_pos (by decide)]
    · intro m i hi
      rw [f_X1_sumOfSitters_4_s, if_neg (show ¬ (12 : Int32) < nI i from fun e => by have := (nI_ltI (a := 12) (by omega) (by omega)).mp e; omega), nu_get _ (show i < 13 by omega) (by omega), Option.bind_some, h i (by omega), nI_l (by omega), lN_mul, lN_add, nI_1]
      rfl
  unfold f_X1_sumOfSitters
  rw [hl, Option.bind_some]
theorem m_sum {od : Nat → Int64} {f : Nat → Nat} (h : ∀ c, c ≤ 12 → od c = lN (f c)) : f_X11_meanUpper od = some (lN (sm (fun c => c * f c) 13)) := by
  have hl : f_X11_meanUpper_4 od FU 0 0 = some (lN (sm (fun c => c * f c) 13)) := by
    refine lp_at (fun m i y => f_X11_meanUpper_4 od m y (nI i)) 13 (fun i => lN (sm (fun c => c * f c) i)) rfl (by omega) ?_ ?_
    · intro m
      rw [f_X11_meanUpper_4_s, if_pos (by decide)]
    · intro m i hi
      rw [f_X11_meanUpper_4_s, if_neg (show ¬ (12 : Int32) < nI i from fun e => by have := (nI_ltI (a := 12) (by omega) (by omega)).mp e; omega), nu_get _ (show i < 13 by omega) (by omega), Option.bind_some, h i (by omega), nI_l (by omega), lN_mul, lN_add, nI_1]
      rfl
  unfold f_X11_meanUpper
  rw [hl, Option.bind_some]
theorem wh_g {n : Nat} {Dm : Nat → Nat → Nat} {B S : Nat} (h : whB n Dm B S = true) : gB n Dm B S = true := by
  unfold whB at h
  rw [Bool.and_eq_true] at h
  exact h.1
theorem orc_le {n : Nat} {Dm : Nat → Nat → Nat} {B T c : Nat} (hD : Dok n Dm) (hB1 : 1 ≤ B) (hB : B ≤ 99) (hT : fac (pc 12 (oB n Dm B 0)) ∣ T) : ∀ S, S ≤ 2 ^ n → orc n Dm B T c S ≤ S * T := by
  have hys := Sys_bench hD hB1 hB
  intro S
  induction S with
  | zero => intro _; exact Nat.zero_le _
  | succ S ih =>
    intro h
    have h1 := ih (by omega)
    rw [orc_s, Nat.succ_mul]
    by_cases hc : whB n Dm B S = true ∧ pc 12 S = c
    · have h2 := cg_le hys hT (show S < 2 ^ n by omega) (wh_g hc.1)
      rw [if_pos hc, chT_B, cg_stay hys (2 ^ n) (by omega) (Nat.le_refl _)]
      omega
    · rw [if_neg hc]; omega
theorem orc_sc {n : Nat} {Dm : Nat → Nat → Nat} {B T c : Nat} (k : Nat) (hD : Dok n Dm) (hB1 : 1 ≤ B) (hB : B ≤ 99) (hT : fac (pc 12 (oB n Dm B 0)) ∣ T) : ∀ S, orc n Dm B (k * T) c S = k * orc n Dm B T c S := by
  have hys := Sys_bench hD hB1 hB
  intro S
  induction S with
  | zero => rfl
  | succ S ih =>
    rw [orc_s, orc_s, ih, Nat.mul_add]
    congr 1
    by_cases hc : whB n Dm B S = true ∧ pc 12 S = c
    · rw [if_pos hc, if_pos hc, chT_B, chT_B, cg_scale k hys hT (2 ^ n) (Nat.le_refl _)]
    · rw [if_neg hc, if_neg hc]; rfl
/-- 12! in parts of n! -/
theorem fac_q {n : Nat} (h : n ≤ 12) : ∃ q, 0 < q ∧ 479001600 = q * fac n := by
  obtain ⟨q, hq⟩ := fac12 ▸ fac_dvd 12 h
  have := fac_le h
  refine ⟨q, Nat.pos_of_ne_zero (fun e => ?_), by rw [Nat.mul_comm]; exact hq⟩
  subst e
  omega
theorem m_part (x : Int32) : f_X11_isPart x = some (b32 (inR x 0 1)) := by
  unfold f_X11_isPart
  rw [show f_X11_in x.toInt64 0 1 = _ from m_in x 0 1, Option.bind_some, oz_b, Option.bind_some]
theorem odd_b {n : Nat} {Dm : Nat → Nat → Nat} {B T c : Nat} (hD : Dok n Dm) (hB1 : 1 ≤ B) (hB : B ≤ 99) (hT : fac (pc 12 (oB n Dm B 0)) ∣ T) (hT2 : T ≤ 479001600) : orc n Dm B T c (2 ^ n) ≤ 4096 * 479001600 := by
  have hp12 : 2 ^ n ≤ 2 ^ 12 := Nat.pow_le_pow_right (by omega) hD.1
  exact Nat.le_trans (orc_le hD hB1 hB hT (2 ^ n) (Nat.le_refl _)) (Nat.mul_le_mul (by omega) hT2)
theorem sum_b {f : Nat → Nat} (h : ∀ c, f c ≤ 4096 * 479001600) : sm (fun c => c * f c) 13 ≤ 13 * (12 * (4096 * 479001600)) :=
  sm_le 13 (fun c hc => Nat.mul_le_mul (by omega) (h c))
end CE1
