/-! steps: late, first, sits -/
section ST4
theorem inR_cnt {x : Int32} {k : Nat} (hk : k ≤ 12) : inR x 0 (nI k - 1) = true ↔ ∃ c, c < k ∧ x = nI c := by
  by_cases h0 : k = 0
  · subst h0
    constructor
    · intro h
      unfold inR at h
      rw [decide_eq_true_eq] at h
      have a1 := Int32.le_iff_toInt_le.mp h.1
      have a2 := Int32.le_iff_toInt_le.mp h.2
      have e1 : (nI 0 - 1).toInt = -1 := by decide
      have e0 : (0 : Int32).toInt = 0 := by decide
      omega
    · intro ⟨c, hc, _⟩; omega
  · exact inR_seat (by omega) hk
/-- filled up at less and less BEAR, i times -/
def ltk (n : Nat) (Dm : Nat → Nat → Nat) (B : Nat) (w : Nat → Nat) (h : Nat) : Nat → Nat
  | 0 => 0
  | i + 1 => flf n Dm (B - i) w h (ltk n Dm B w h i)
theorem ltk_lt {n : Nat} {Dm : Nat → Nat → Nat} {B : Nat} {w : Nat → Nat} {h : Nat} : ∀ i, ltk n Dm B w h i < 2 ^ n := by
  intro i
  induction i with
  | zero => exact Nat.pos_of_ne_zero (by simp [Nat.pow_eq_zero])
  | succ i ih => exact flk_lt ih 12
theorem x_late {n : Nat} {Dm : Nat → Nat → Nat} {B h v : Nat} {w : Nat → Nat} {b g fw fb : Nat → Int32} (hD : Dok n Dm) (hv : 1 ≤ v) (hvB : v ≤ B) (hB : B ≤ 4) (hF : Far n Dm g) (hw : Wor n w fw) (hb : Nbs n Dm fb) (hh : h < 6) : ∃ z, f_X10_late_40 (nI n) fw fb g (nI h) (nI v) FU (nI B) 0 (nI B) (NF n Dm b 0) = some (nI (ltk n Dm B w h (B - v + 1)), z, NF n Dm b (ltk n Dm B w h (B - v + 1))) := by
  refine ⟨if B - v + 1 = 0 then nI B else nI (B - (B - v + 1) + 1), ?_⟩
  refine lp_at3 (fun m i z z' z'' => f_X10_late_40 (nI n) fw fb g (nI h) (nI v) m (nI (B - i)) z z' z'') (B - v + 1) (fun i => nI (ltk n Dm B w h i)) (fun i => if i = 0 then nI B else nI (B - i + 1)) (fun i => NF n Dm b (ltk n Dm B w h i)) rfl rfl rfl (by omega) ?_ ?_
  · intro m
    rw [f_X10_late_40_s, if_pos ((nI_ltI (by omega) (by omega)).mpr (by omega))]
  · intro m i hi
    have e1 : nI (B - i) + -1 = nI (B - (i + 1)) := by
      have := pk_m1 (B - (i + 1))
      rw [show B - (i + 1) + 1 = B - i by omega] at this
      exact this
    rw [f_X10_late_40_s, if_neg (fun hx => by have := (nI_ltI (by omega) (by omega)).mp hx; omega), x_fillUp hD (by omega) (by omega) hF hw hb hh, Option.bind_some, e1]
    simp only [Nat.succ_ne_zero, if_false]
    rw [show B - (i + 1) + 1 = B - i by omega]
    rfl
theorem m_late {n : Nat} {Dm : Nat → Nat → Nat} {B h v : Nat} {w : Nat → Nat} {g fw : Nat → Int32} (hD : Dok n Dm) (hv : 1 ≤ v) (hvB : v ≤ B) (hB : B ≤ 4) (hF : FarM n Dm g) (hw : Wor n w fw) (hh : h < 6) : f_X11_late_32 (nI n) g fw (nI h) (nI v) FU 0 (nI B) = some (nI (ltk n Dm B w h (B - v + 1)), nI (v - 1)) := by
  refine lp_at2 (fun m i z z' => f_X11_late_32 (nI n) g fw (nI h) (nI v) m z z') (B - v + 1) (fun i => nI (ltk n Dm B w h i)) (fun i => nI (B - i)) rfl rfl (by omega) ?_ ?_
  · intro m
    rw [f_X11_late_32_s, if_pos ((nI_ltI (by omega) (by omega)).mpr (by omega)), show B - (B - v + 1) = v - 1 by omega]
  · intro m i hi
    have e1 : nI (B - i) - 1 = nI (B - (i + 1)) := by
      have := nI_pred (B - (i + 1))
      rw [show B - (i + 1) + 1 = B - i by omega] at this
      exact this
    rw [f_X11_late_32_s, if_neg (fun hx => by have := (nI_ltI (by omega) (by omega)).mp hx; omega), m_filledBy hD hF (by omega) (by omega) hw hh (ltk_lt i), Option.bind_some, e1]
    rfl
/-- who has come, and sits -/
def csS (n : Nat) (Dm : Nat → Nat → Nat) (B : Nat) (w hb : Nat → Nat) : Nat → Nat
  | 0 => 0
  | i + 1 => st1 n Dm B w (hb i) (csS n Dm B w hb i)
def csT (n : Nat) (Dm : Nat → Nat → Nat) (B : Nat) (w hb : Nat → Nat) : Nat → Int32
  | 0 => -6
  | i + 1 => eO32 (tak n Dm B w (csS n Dm B w hb i) (hb i))
theorem csS_lt {n : Nat} {Dm : Nat → Nat → Nat} {B : Nat} {w hb : Nat → Nat} : ∀ i, csS n Dm B w hb i < 2 ^ n := by
  intro i
  induction i with
  | zero => exact Nat.pos_of_ne_zero (by simp [Nat.pow_eq_zero])
  | succ i ih => exact st1_lt ih
theorem x_sits {n : Nat} {Dm : Nat → Nat → Nat} {B k c : Nat} {w hb : Nat → Nat} {b g fw fb fc : Nat → Int32} {u : Int32} {un : Nat → Int32} (hD : Dok n Dm) (hB : B ≤ 99) (hF : Far n Dm g) (hw : Wor n w fw) (hnb : Nbs n Dm fb) (hk : k ≤ 12) (hcm : ∀ i, i < k → fc i = nI (hb i) ∧ hb i < 6) (hc : c < k) : f_X10_sits_31 (nI n) fc fw fb g (nI c) (u, nI B, un) FU (-6) 0 0 (NF n Dm b 0) = some (csT n Dm B w hb (c + 1), nI (csS n Dm B w hb (c + 1)), NF n Dm b (csS n Dm B w hb (c + 1))) := by
  have hn := hD.1
  refine lp_at3 (fun m i z z' z'' => f_X10_sits_31 (nI n) fc fw fb g (nI c) (u, nI B, un) m z (nI i) z' z'') (c + 1) (fun i => csT n Dm B w hb i) (fun i => nI (csS n Dm B w hb i)) (fun i => NF n Dm b (csS n Dm B w hb i)) rfl rfl rfl (by omega) ?_ ?_
  · intro m
    rw [f_X10_sits_31_s, if_pos ((nI_ltI (by omega) (by omega)).mpr (by omega))]
  · intro m i hi
    obtain ⟨e1, e2⟩ := hcm i (by omega)
    rw [f_X10_sits_31_s, if_neg (fun hx => by have := (nI_ltI (by omega) (by omega)).mp hx; omega), nu_get _ (show i < 12 by omega) (by omega), Option.bind_some, e1, x_choice hn (by omega) (NF_nea _ _ _ _) hw hnb e2, Option.bind_some, nI_1]
    cases ht : tak n Dm B w (csS n Dm B w hb i) (hb i) with
    | none =>
      rw [if_pos (show eO32 none = -6 from rfl), Option.bind_some]
      show _ = f_X10_sits_31 (nI n) fc fw fb g (nI c) (u, nI B, un) m (eO32 (tak n Dm B w (csS n Dm B w hb i) (hb i))) (nI (i + 1)) (nI (st1 n Dm B w (hb i) (csS n Dm B w hb i))) (NF n Dm b (st1 n Dm B w (hb i) (csS n Dm B w hb i)))
      rw [st1_none ht, ht]
    | some s =>
      have hs := (tak_lt ht).1
      rw [if_neg (show ¬ eO32 (some s) = -6 from eO32_neg (show s < 2 ^ 31 by omega))]
      show ((f_X9_sit (nI (csS n Dm B w hb i)) (nI n) (NF n Dm b (csS n Dm B w hb i)) g (nI s)).bind _).bind _ = f_X10_sits_31 (nI n) fc fw fb g (nI c) (u, nI B, un) m (eO32 (tak n Dm B w (csS n Dm B w hb i) (hb i))) (nI (i + 1)) (nI (st1 n Dm B w (hb i) (csS n Dm B w hb i))) (NF n Dm b (st1 n Dm B w (hb i) (csS n Dm B w hb i)))
      rw [x_sitN hD hF hs, Option.bind_some, Option.bind_some, st1_some ht, ht]
theorem m_sits {n : Nat} {Dm : Nat → Nat → Nat} {B k c : Nat} {w hb : Nat → Nat} {g fw fc : Nat → Int32} (hD : Dok n Dm) (hB : B ≤ 99) (hF : FarM n Dm g) (hw : Wor n w fw) (hk : k ≤ 12) (hcm : ∀ i, i < k → fc i = nI (hb i) ∧ hb i < 6) (hc : c < k) : f_X11_sits_26 (nI n) (nI B) fc g fw (nI c) FU 0 (-6) 0 = some (csT n Dm B w hb (c + 1)) := by
  have hn := hD.1
  have hp12 : 2 ^ n ≤ 2 ^ 12 := Nat.pow_le_pow_right (by omega) hn
  refine lp_at2 (fun m i z z' => f_X11_sits_26 (nI n) (nI B) fc g fw (nI c) m z z' (nI i)) (c + 1) (fun i => nI (csS n Dm B w hb i)) (fun i => csT n Dm B w hb i) rfl rfl (by omega) ?_ ?_
  · intro m
    rw [f_X11_sits_26_s, if_pos ((nI_ltI (by omega) (by omega)).mpr (by omega))]
  · intro m i hi
    obtain ⟨e1, e2⟩ := hcm i (by omega)
    have hl := csS_lt (Dm := Dm) (B := B) (w := w) (hb := hb) (n := n) i
    rw [f_X11_sits_26_s, if_neg (fun hx => by have := (nI_ltI (by omega) (by omega)).mp hx; omega), nu_get _ (show i < 12 by omega) (by omega), Option.bind_some, e1, m_taken hD hF hB hw e2 (by omega), Option.bind_some, nI_1]
    cases ht : tak n Dm B w (csS n Dm B w hb i) (hb i) with
    | none =>
      rw [if_neg (show ¬ (0 : Int32) ≤ eO32 none by decide), Option.bind_some, show (0 : Int32) = nI 0 from rfl, fa_or, Nat.or_zero]
      show _ = f_X11_sits_26 (nI n) (nI B) fc g fw (nI c) m (nI (st1 n Dm B w (hb i) (csS n Dm B w hb i))) (eO32 (tak n Dm B w (csS n Dm B w hb i) (hb i))) (nI (i + 1))
      rw [st1_none ht, ht]
    | some s =>
      have hs := (tak_lt ht).1
      rw [if_pos (show (0 : Int32) ≤ eO32 (some s) from nI_pos' (show s < 2 ^ 31 by omega)), Option.bind_some]
      show f_X11_sits_26 (nI n) (nI B) fc g fw (nI c) m (nI (csS n Dm B w hb i) ||| (1 : Int32) <<< (nI s &&& 31)) (nI s) (nI (i + 1)) = f_X11_sits_26 (nI n) (nI B) fc g fw (nI c) m (nI (st1 n Dm B w (hb i) (csS n Dm B w hb i))) (eO32 (tak n Dm B w (csS n Dm B w hb i) (hb i))) (nI (i + 1))
      rw [nu_or (by omega), st1_some ht, ht]
      rfl
end ST4
set_option maxHeartbeats 1000000 in
theorem s_late : St_late Inv := by
  intro v_pad_count v_pad_signs v_scene_seats v_scene_bear v_scene_comerCount v_scene_seenRows v_scene_steps v_scene_worths v_scene_comers v_scene_seen v_scene_seenLengths v_bench_apart v_bench_clash v_bench_neighbours v_trial_apart v_trial_clash v_trial_neighbours v_sitters_set v_sitters_bear v_sitters_nearest v_trialSitters_set v_trialSitters_bear v_trialSitters_nearest v_sets_size v_sets_places v_sets_filled v_sets_open v_sets_chance v_census_least v_census_most v_census_known v_census_wholeSets v_census_orders v_match_known v_match_kind v_match_wicked v_couples_count v_couples_lesser v_couples_greater v_couples_tooNear v_couples_clash v_passing_turnedAway v_passing_parts v_passing_habit v_passing_odds v_longRows_between v_signMany v_seats v_bearIs v_rowsAll v_awayUpper v_lower v_comerMany v_seenRows v_place v_isWriting v_signs v_links v_worths v_far v_mays v_rowsTo v_endIn v_ends v_pairSets v_awayIn v_now v_then v_comers v_seen v_seenMany v_kept v_isKept d0 d1 hI x1 x2
  obtain ⟨n, B, k, r, st, w, hb, sn, ln, cnt, hp, hs, he, hbn, hce, hma, hlr, hi0, hi1⟩ := hI
  obtain ⟨rfl, hcnt, rfl, rfl⟩ := hp
  obtain ⟨rfl, rfl, rfl, rfl, rfl, rfl, rfl, rfl, rfl⟩ := he
  obtain ⟨rfl, hn1, hn, rfl, hB1, hB4, rfl, hk, rfl, hr8, hst, hw, hcm, hsn⟩ := hs
  obtain ⟨hF, hFM, hcl, hnb⟩ := hbn
  have hD := Dd_ok (Ef n st 0) hn1 hn
  have hp12 : 2 ^ n ≤ 2 ^ 12 := Nat.pow_le_pow_right (by omega) hn
  by_cases h1 : inR x1 0 5 = true
  · obtain ⟨h, hh, rfl⟩ := (inR_nat (b := 5) (by omega)).mp h1
    by_cases h2 : inR x2 1 (nI B) = true
    · have hv : ∃ v, 1 ≤ v ∧ v ≤ B ∧ x2 = nI v := by
        have h1' := h2
        unfold inR at h1'
        rw [decide_eq_true_eq] at h1'
        obtain ⟨v, hv, rfl⟩ := (inR_nat (x := x2) (b := B) (by omega)).mp (by
          unfold inR
          rw [decide_eq_true_eq]
          refine ⟨?_, h1'.2⟩
          have a1 := Int32.le_iff_toInt_le.mp h1'.1
          apply Int32.le_iff_toInt_le.mpr
          have e1 : (1 : Int32).toInt = 1 := by decide
          have e0 : (0 : Int32).toInt = 0 := by decide
          omega)
        have := (nI_leI (a := 1) (b := v) (by omega) (by omega)).mp h1'.1
        exact ⟨v, this, hv, rfl⟩
      obtain ⟨v, hv1, hvB, rfl⟩ := hv
      have hlt := ltk_lt (n := n) (Dm := Dd n (Ef n st 0)) (B := B) (w := w) (h := h) (B - v + 1)
      obtain ⟨z, e1⟩ := x_late (b := fun j => if j < 12 then 99 else v_sitters_nearest j) hD hv1 hvB hB4 hF hw hnb (show h < 6 by omega)
      refine ⟨(nI (pc 12 (ltk n (Dd n (Ef n st 0)) B w h (B - v + 1))), nI (ltk n (Dd n (Ef n st 0)) B w h (B - v + 1)), z, NF n (Dd n (Ef n st 0)) (fun j => if j < 12 then 99 else v_sitters_nearest j) (ltk n (Dd n (Ef n st 0)) B w h (B - v + 1))), (nI (pc 12 (ltk n (Dd n (Ef n st 0)) B w h (B - v + 1))), nI B), ?_, ?_, rfl, n, B, k, r, st, w, hb, sn, ln, cnt, ⟨rfl, hcnt, rfl, rfl⟩, ⟨rfl, hn1, hn, rfl, hB1, hB4, rfl, hk, rfl, hr8, hst, hw, hcm, hsn⟩, ⟨rfl, rfl, rfl, rfl, rfl, rfl, rfl, rfl, rfl⟩, ⟨hF, hFM, hcl, hnb⟩, hce, hma, hlr, hi0, hi1⟩
      · unfold f_X10_late
        rw [x_habit, h1, Option.bind_some, if_neg (by decide), x_within, h2, Option.bind_some, if_neg (by decide), x_leaveN hD, Option.bind_some]
        show (f_X10_late_40 (nI n) v_worths v_bench_neighbours v_bench_apart (nI h) (nI v) FU (nI B) 0 (nI B) (NF n (Dd n (Ef n st 0)) (fun j => if j < 12 then 99 else v_sitters_nearest j) 0)).bind _ = _
        rw [e1, Option.bind_some, x_number (by omega), Option.bind_some]
      · unfold f_X11_late
        rw [m_habit, h1, Option.bind_some, if_neg (by decide), show ((1 : Int64)) = (1 : Int32).toInt64 from rfl, m_in, h2, Option.bind_some, if_neg (by decide), m_late hD hv1 hvB hB4 hFM hw (by omega), Option.bind_some, m_ones (by omega), Option.bind_some]
    · have h2 : inR x2 1 (nI B) = false := by simpa using h2
      refine ⟨(-2, v_sitters_set, v_sitters_bear, v_sitters_nearest), (-2, nI B), ?_, ?_, rfl, n, B, k, r, st, w, hb, sn, ln, cnt, ⟨rfl, hcnt, rfl, rfl⟩, ⟨rfl, hn1, hn, rfl, hB1, hB4, rfl, hk, rfl, hr8, hst, hw, hcm, hsn⟩, ⟨rfl, rfl, rfl, rfl, rfl, rfl, rfl, rfl, rfl⟩, ⟨hF, hFM, hcl, hnb⟩, hce, hma, hlr, hi0, hi1⟩
      · unfold f_X10_late
        rw [x_habit, h1, Option.bind_some, if_neg (by decide), x_within, h2, Option.bind_some, if_pos (by decide)]
      · unfold f_X11_late
        rw [m_habit, h1, Option.bind_some, if_neg (by decide), show ((1 : Int64)) = (1 : Int32).toInt64 from rfl, m_in, h2, Option.bind_some, if_pos (by decide)]
  · have h1 : inR x1 0 5 = false := by simpa using h1
    refine ⟨(-2, v_sitters_set, v_sitters_bear, v_sitters_nearest), (-2, nI B), ?_, ?_, rfl, n, B, k, r, st, w, hb, sn, ln, cnt, ⟨rfl, hcnt, rfl, rfl⟩, ⟨rfl, hn1, hn, rfl, hB1, hB4, rfl, hk, rfl, hr8, hst, hw, hcm, hsn⟩, ⟨rfl, rfl, rfl, rfl, rfl, rfl, rfl, rfl, rfl⟩, ⟨hF, hFM, hcl, hnb⟩, hce, hma, hlr, hi0, hi1⟩
    · unfold f_X10_late
      rw [x_habit, h1, Option.bind_some, if_pos (by decide)]
    · unfold f_X11_late
      rw [m_habit, h1, Option.bind_some, if_pos (by decide)]
set_option maxHeartbeats 1000000 in
theorem s_sits : St_sits Inv := by
  intro v_pad_count v_pad_signs v_scene_seats v_scene_bear v_scene_comerCount v_scene_seenRows v_scene_steps v_scene_worths v_scene_comers v_scene_seen v_scene_seenLengths v_bench_apart v_bench_clash v_bench_neighbours v_trial_apart v_trial_clash v_trial_neighbours v_sitters_set v_sitters_bear v_sitters_nearest v_trialSitters_set v_trialSitters_bear v_trialSitters_nearest v_sets_size v_sets_places v_sets_filled v_sets_open v_sets_chance v_census_least v_census_most v_census_known v_census_wholeSets v_census_orders v_match_known v_match_kind v_match_wicked v_couples_count v_couples_lesser v_couples_greater v_couples_tooNear v_couples_clash v_passing_turnedAway v_passing_parts v_passing_habit v_passing_odds v_longRows_between v_signMany v_seats v_bearIs v_rowsAll v_awayUpper v_lower v_comerMany v_seenRows v_place v_isWriting v_signs v_links v_worths v_far v_mays v_rowsTo v_endIn v_ends v_pairSets v_awayIn v_now v_then v_comers v_seen v_seenMany v_kept v_isKept d0 d1 hI x1
  obtain ⟨n, B, k, r, st, w, hb, sn, ln, cnt, hp, hs, he, hbn, hce, hma, hlr, hi0, hi1⟩ := hI
  obtain ⟨rfl, hcnt, rfl, rfl⟩ := hp
  obtain ⟨rfl, rfl, rfl, rfl, rfl, rfl, rfl, rfl, rfl⟩ := he
  obtain ⟨rfl, hn1, hn, rfl, hB1, hB4, rfl, hk, rfl, hr8, hst, hw, hcm, hsn⟩ := hs
  obtain ⟨hF, hFM, hcl, hnb⟩ := hbn
  have hD := Dd_ok (Ef n st 0) hn1 hn
  have hp12 : 2 ^ n ≤ 2 ^ 12 := Nat.pow_le_pow_right (by omega) hn
  by_cases h1 : inR x1 0 (nI k - 1) = true
  · obtain ⟨c, hc, rfl⟩ := (inR_cnt hk).mp h1
    refine ⟨(csT n (Dd n (Ef n st 0)) B w hb (c + 1), nI (csS n (Dd n (Ef n st 0)) B w hb (c + 1)), nI B, NF n (Dd n (Ef n st 0)) (fun j => if j < 12 then 99 else v_sitters_nearest j) (csS n (Dd n (Ef n st 0)) B w hb (c + 1))), csT n (Dd n (Ef n st 0)) B w hb (c + 1), ?_, ?_, rfl, n, B, k, r, st, w, hb, sn, ln, cnt, ⟨rfl, hcnt, rfl, rfl⟩, ⟨rfl, hn1, hn, rfl, hB1, hB4, rfl, hk, rfl, hr8, hst, hw, hcm, hsn⟩, ⟨rfl, rfl, rfl, rfl, rfl, rfl, rfl, rfl, rfl⟩, ⟨hF, hFM, hcl, hnb⟩, hce, hma, hlr, hi0, hi1⟩
    · unfold f_X10_sits
      rw [x_within, h1, Option.bind_some, if_neg (by decide), x_leaveN hD, Option.bind_some]
      show (f_X10_sits_31 (nI n) v_comers v_worths v_bench_neighbours v_bench_apart (nI c) (0, nI B, NF n (Dd n (Ef n st 0)) (fun j => if j < 12 then 99 else v_sitters_nearest j) 0) FU (-6) 0 0 (NF n (Dd n (Ef n st 0)) (fun j => if j < 12 then 99 else v_sitters_nearest j) 0)).bind _ = _
      rw [x_sits hD (by omega) hF hw hnb hk hcm hc, Option.bind_some]
    · unfold f_X11_sits
      rw [show ((0 : Int64)) = (0 : Int32).toInt64 from rfl, m_in, h1, Option.bind_some, if_neg (by decide), m_sits hD (by omega) hFM hw hk hcm hc, Option.bind_some]
  · have h1 : inR x1 0 (nI k - 1) = false := by simpa using h1
    refine ⟨(-1, v_sitters_set, v_sitters_bear, v_sitters_nearest), -1, ?_, ?_, rfl, n, B, k, r, st, w, hb, sn, ln, cnt, ⟨rfl, hcnt, rfl, rfl⟩, ⟨rfl, hn1, hn, rfl, hB1, hB4, rfl, hk, rfl, hr8, hst, hw, hcm, hsn⟩, ⟨rfl, rfl, rfl, rfl, rfl, rfl, rfl, rfl, rfl⟩, ⟨hF, hFM, hcl, hnb⟩, hce, hma, hlr, hi0, hi1⟩
    · unfold f_X10_sits
      rw [x_within, h1, Option.bind_some, if_pos (by decide)]
    · unfold f_X11_sits
      rw [show ((0 : Int64)) = (0 : Int32).toInt64 from rfl, m_in, h1, Option.bind_some, if_pos (by decide)]
