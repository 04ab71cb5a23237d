/-! steps: whole, ways, mean, odds -/
section ST10
set_option maxHeartbeats 1000000 in
theorem s_whole : St_whole Inv := by
  intro v_pad_count v_pad_signs v_scene_seats v_scene_bear v_scene_comerCount v_scene_seenRows v_scene_steps v_scene_worths v_scene_comers v_scene_seen v_scene_seenLengths v_bench_apart v_bench_clash v_bench_neighbours v_trial_apart v_trial_clash v_trial_neighbours v_sitters_set v_sitters_bear v_sitters_nearest v_trialSitters_set v_trialSitters_bear v_trialSitters_nearest v_sets_size v_sets_places v_sets_filled v_sets_open v_sets_chance v_census_least v_census_most v_census_known v_census_wholeSets v_census_orders v_match_known v_match_kind v_match_wicked v_couples_count v_couples_lesser v_couples_greater v_couples_tooNear v_couples_clash v_passing_turnedAway v_passing_parts v_passing_habit v_passing_odds v_longRows_between v_signMany v_seats v_bearIs v_rowsAll v_awayUpper v_lower v_comerMany v_seenRows v_place v_isWriting v_signs v_links v_worths v_far v_mays v_rowsTo v_endIn v_ends v_pairSets v_awayIn v_now v_then v_comers v_seen v_seenMany v_kept v_isKept d0 d1 hI x1
  obtain ⟨n, B, k, r, st, w, hb, sn, ln, cnt, hp, hs, he, hbn, hce, hma, hlr, hi0, hi1⟩ := hI
  obtain ⟨rfl, hcnt, rfl, rfl⟩ := hp
  obtain ⟨rfl, rfl, rfl, rfl, rfl, rfl, rfl, rfl, rfl⟩ := he
  obtain ⟨rfl, hn1, hn, rfl, hB1, hB4, rfl, hk, rfl, hr8, hst, hw, hcm, hsn⟩ := hs
  obtain ⟨hF, hFM, hcl, hnb⟩ := hbn
  have hD := Dd_ok (Ef n st 0) hn1 hn
  have hp12 : 2 ^ n ≤ 2 ^ 12 := Nat.pow_le_pow_right (by omega) hn
  obtain ⟨l, m, sz, pl, fl, fo, ch, ws, od, e1, hcen⟩ := x_cen (vl := v_census_least) (vm := v_census_most) (vsz := v_sets_size) (vpl := v_sets_places) (vfl := v_sets_filled) (vfo := v_sets_open) (vch := v_sets_chance) (vws := v_census_wholeSets) (vod := v_census_orders) hD hB1 (show B ≤ 99 by omega) hcl hce
  have hcen' := hcen
  obtain ⟨hl, hm, hws, hod⟩ := hcen'
  by_cases h1 : inR x1 0 3 = true
  · obtain ⟨v, hv, rfl⟩ := (inR_nat (b := 3) (by omega)).mp h1
    obtain ⟨W, hW, hww⟩ := wh_ex hD hB1 (show B ≤ 99 by omega)
    obtain ⟨bl, hbl⟩ := bst_ex (R := fun S => -(pc 12 S : Int)) hW hww
    obtain ⟨bm, hbm⟩ := bst_ex (R := fun S => (pc 12 S : Int)) hW hww
    have hl1 := (bst_some hbl).1
    have hm1 := (bst_some hbm).1
    obtain ⟨z, z1, z2⟩ := m_mays (vm := v_mays) hD hFM (show B ≤ 99 by omega)
    have mw := m_whole30 hn z2
    rw [hbl, hbm] at mw
    rw [hbl] at hl
    rw [hbm] at hm
    subst hl
    subst hm
    rcases (show v = 0 ∨ v = 1 ∨ v = 2 ∨ v = 3 by omega) with rfl | rfl | rfl | rfl
    · refine ⟨(nI bl, eO32 (some bl), eO32 (some bm), 1, sz, pl, fl, fo, ch, ws, od), (nI bl, z), ?_, ?_, rfl, n, B, k, r, st, w, hb, sn, ln, cnt, ⟨rfl, hcnt, rfl, rfl⟩, ⟨rfl, hn1, hn, rfl, hB1, hB4, rfl, hk, rfl, hr8, hst, hw, hcm, hsn⟩, ⟨rfl, rfl, rfl, rfl, rfl, rfl, rfl, rfl, rfl⟩, ⟨hF, hFM, hcl, hnb⟩, Or.inr ⟨rfl, hcen⟩, hma, hlr, hi0, hi1⟩
      · unfold f_X10_whole
        rw [x_within, h1, Option.bind_some, if_neg (by decide), e1, Option.bind_some]
        dsimp only
        rw [if_pos (show nI 0 = 0 from rfl), Option.bind_some, if_neg (show ¬ (2 : Int32) ≤ nI 0 by decide), Option.bind_some]
        try rfl
      · unfold f_X11_whole
        rw [show f_X11_in (nI 0).toInt64 0 3 = _ from m_in (nI 0) 0 3, h1, Option.bind_some, if_neg (by decide), z1, Option.bind_some, mw, Option.bind_some]
        dsimp only
        rw [if_pos (show nI 0 = 0 from rfl), Option.bind_some]
        try rfl
    · refine ⟨(nI bm, eO32 (some bl), eO32 (some bm), 1, sz, pl, fl, fo, ch, ws, od), (nI bm, z), ?_, ?_, rfl, n, B, k, r, st, w, hb, sn, ln, cnt, ⟨rfl, hcnt, rfl, rfl⟩, ⟨rfl, hn1, hn, rfl, hB1, hB4, rfl, hk, rfl, hr8, hst, hw, hcm, hsn⟩, ⟨rfl, rfl, rfl, rfl, rfl, rfl, rfl, rfl, rfl⟩, ⟨hF, hFM, hcl, hnb⟩, Or.inr ⟨rfl, hcen⟩, hma, hlr, hi0, hi1⟩
      · unfold f_X10_whole
        rw [x_within, h1, Option.bind_some, if_neg (by decide), e1, Option.bind_some]
        dsimp only
        rw [if_neg (show ¬ nI 1 = 0 by decide), if_neg (show ¬ nI 1 = 2 by decide), Option.bind_some, if_neg (show ¬ (2 : Int32) ≤ nI 1 by decide), Option.bind_some]
        try rfl
      · unfold f_X11_whole
        rw [show f_X11_in (nI 1).toInt64 0 3 = _ from m_in (nI 1) 0 3, h1, Option.bind_some, if_neg (by decide), z1, Option.bind_some, mw, Option.bind_some]
        dsimp only
        rw [if_neg (show ¬ nI 1 = 0 by decide), if_pos (show nI 1 = 1 from rfl), Option.bind_some]
        try rfl
    · refine ⟨(nI (pc 12 bl), eO32 (some bl), eO32 (some bm), 1, sz, pl, fl, fo, ch, ws, od), (nI (pc 12 bl), z), ?_, ?_, rfl, n, B, k, r, st, w, hb, sn, ln, cnt, ⟨rfl, hcnt, rfl, rfl⟩, ⟨rfl, hn1, hn, rfl, hB1, hB4, rfl, hk, rfl, hr8, hst, hw, hcm, hsn⟩, ⟨rfl, rfl, rfl, rfl, rfl, rfl, rfl, rfl, rfl⟩, ⟨hF, hFM, hcl, hnb⟩, Or.inr ⟨rfl, hcen⟩, hma, hlr, hi0, hi1⟩
      · unfold f_X10_whole
        rw [x_within, h1, Option.bind_some, if_neg (by decide), e1, Option.bind_some]
        dsimp only
        rw [if_neg (show ¬ nI 2 = 0 by decide), if_pos (show nI 2 = 2 from rfl), Option.bind_some, if_pos (show (2 : Int32) ≤ nI 2 by decide), show f_J6_bitCount_0f7a4 (eO32 (some bl)) = _ from x_bc bl (by omega), Option.bind_some, Option.bind_some]
        try rfl
      · unfold f_X11_whole
        rw [show f_X11_in (nI 2).toInt64 0 3 = _ from m_in (nI 2) 0 3, h1, Option.bind_some, if_neg (by decide), z1, Option.bind_some, mw, Option.bind_some]
        dsimp only
        rw [if_neg (show ¬ nI 2 = 0 by decide), if_neg (show ¬ nI 2 = 1 by decide), if_pos (show nI 2 = 2 from rfl), show f_X11_ones (eO32 (some bl)) = _ from m_ones (by omega), Option.bind_some, Option.bind_some]
        try rfl
    · refine ⟨(nI (pc 12 bm), eO32 (some bl), eO32 (some bm), 1, sz, pl, fl, fo, ch, ws, od), (nI (pc 12 bm), z), ?_, ?_, rfl, n, B, k, r, st, w, hb, sn, ln, cnt, ⟨rfl, hcnt, rfl, rfl⟩, ⟨rfl, hn1, hn, rfl, hB1, hB4, rfl, hk, rfl, hr8, hst, hw, hcm, hsn⟩, ⟨rfl, rfl, rfl, rfl, rfl, rfl, rfl, rfl, rfl⟩, ⟨hF, hFM, hcl, hnb⟩, Or.inr ⟨rfl, hcen⟩, hma, hlr, hi0, hi1⟩
      · unfold f_X10_whole
        rw [x_within, h1, Option.bind_some, if_neg (by decide), e1, Option.bind_some]
        dsimp only
        rw [if_neg (show ¬ nI 3 = 0 by decide), if_neg (show ¬ nI 3 = 2 by decide), Option.bind_some, if_pos (show (2 : Int32) ≤ nI 3 by decide), show f_J6_bitCount_0f7a4 (eO32 (some bm)) = _ from x_bc bm (by omega), Option.bind_some, Option.bind_some]
        try rfl
      · unfold f_X11_whole
        rw [show f_X11_in (nI 3).toInt64 0 3 = _ from m_in (nI 3) 0 3, h1, Option.bind_some, if_neg (by decide), z1, Option.bind_some, mw, Option.bind_some]
        dsimp only
        rw [if_neg (show ¬ nI 3 = 0 by decide), if_neg (show ¬ nI 3 = 1 by decide), if_neg (show ¬ nI 3 = 2 by decide), show f_X11_ones (eO32 (some bm)) = _ from m_ones (by omega), Option.bind_some, Option.bind_some]
        try rfl
  · have h1 : inR x1 0 3 = false := by simpa using h1
    refine ⟨(-2, v_census_least, v_census_most, v_census_known, v_sets_size, v_sets_places, v_sets_filled, v_sets_open, v_sets_chance, v_census_wholeSets, v_census_orders), (-2, v_mays), ?_, ?_, rfl, n, B, k, r, st, w, hb, sn, ln, cnt, ⟨rfl, hcnt, rfl, rfl⟩, ⟨rfl, hn1, hn, rfl, hB1, hB4, rfl, hk, rfl, hr8, hst, hw, hcm, hsn⟩, ⟨rfl, rfl, rfl, rfl, rfl, rfl, rfl, rfl, rfl⟩, ⟨hF, hFM, hcl, hnb⟩, hce, hma, hlr, hi0, hi1⟩
    · unfold f_X10_whole
      rw [x_within, h1, Option.bind_some, if_pos (by decide)]
    · unfold f_X11_whole
      rw [show f_X11_in x1.toInt64 0 3 = _ from m_in x1 0 3, h1, Option.bind_some, if_pos (by decide)]
set_option maxHeartbeats 1000000 in
theorem s_ways : St_ways Inv := by
  intro v_pad_count v_pad_signs v_scene_seats v_scene_bear v_scene_comerCount v_scene_seenRows v_scene_steps v_scene_worths v_scene_comers v_scene_seen v_scene_seenLengths v_bench_apart v_bench_clash v_bench_neighbours v_trial_apart v_trial_clash v_trial_neighbours v_sitters_set v_sitters_bear v_sitters_nearest v_trialSitters_set v_trialSitters_bear v_trialSitters_nearest v_sets_size v_sets_places v_sets_filled v_sets_open v_sets_chance v_census_least v_census_most v_census_known v_census_wholeSets v_census_orders v_match_known v_match_kind v_match_wicked v_couples_count v_couples_lesser v_couples_greater v_couples_tooNear v_couples_clash v_passing_turnedAway v_passing_parts v_passing_habit v_passing_odds v_longRows_between v_signMany v_seats v_bearIs v_rowsAll v_awayUpper v_lower v_comerMany v_seenRows v_place v_isWriting v_signs v_links v_worths v_far v_mays v_rowsTo v_endIn v_ends v_pairSets v_awayIn v_now v_then v_comers v_seen v_seenMany v_kept v_isKept d0 d1 hI x1
  obtain ⟨n, B, k, r, st, w, hb, sn, ln, cnt, hp, hs, he, hbn, hce, hma, hlr, hi0, hi1⟩ := hI
  obtain ⟨rfl, hcnt, rfl, rfl⟩ := hp
  obtain ⟨rfl, rfl, rfl, rfl, rfl, rfl, rfl, rfl, rfl⟩ := he
  obtain ⟨rfl, hn1, hn, rfl, hB1, hB4, rfl, hk, rfl, hr8, hst, hw, hcm, hsn⟩ := hs
  obtain ⟨hF, hFM, hcl, hnb⟩ := hbn
  have hD := Dd_ok (Ef n st 0) hn1 hn
  have hp12 : 2 ^ n ≤ 2 ^ 12 := Nat.pow_le_pow_right (by omega) hn
  obtain ⟨l, m, sz, pl, fl, fo, ch, ws, od, e1, hcen⟩ := x_cen (vl := v_census_least) (vm := v_census_most) (vsz := v_sets_size) (vpl := v_sets_places) (vfl := v_sets_filled) (vfo := v_sets_open) (vch := v_sets_chance) (vws := v_census_wholeSets) (vod := v_census_orders) hD hB1 (show B ≤ 99 by omega) hcl hce
  have hcen' := hcen
  obtain ⟨hl, hm, hws, hod⟩ := hcen'
  by_cases h1 : inR x1 0 12 = true
  · obtain ⟨v, hv, rfl⟩ := (inR_nat (b := 12) (by omega)).mp h1
    obtain ⟨z, z1, z2⟩ := m_mays (vm := v_mays) hD hFM (show B ≤ 99 by omega)
    refine ⟨(nI (wyc n (Dd n (Ef n st 0)) B v (2 ^ n)), l, m, 1, sz, pl, fl, fo, ch, ws, od), (nI (wyc n (Dd n (Ef n st 0)) B v (2 ^ n)), z), ?_, ?_, rfl, n, B, k, r, st, w, hb, sn, ln, cnt, ⟨rfl, hcnt, rfl, rfl⟩, ⟨rfl, hn1, hn, rfl, hB1, hB4, rfl, hk, rfl, hr8, hst, hw, hcm, hsn⟩, ⟨rfl, rfl, rfl, rfl, rfl, rfl, rfl, rfl, rfl⟩, ⟨hF, hFM, hcl, hnb⟩, Or.inr ⟨rfl, hcen⟩, hma, hlr, hi0, hi1⟩
    · unfold f_X10_ways
      rw [x_within, h1, Option.bind_some, if_neg (by decide), e1, Option.bind_some]
      dsimp only
      rw [nu_get _ (show v < 13 by omega) (by omega), Option.bind_some, hws v hv]
    · unfold f_X11_ways
      rw [show f_X11_in (nI v).toInt64 0 12 = _ from m_in (nI v) 0 12, h1, Option.bind_some, if_neg (by decide), z1, Option.bind_some, m_ways25 hn hv z2, Option.bind_some]
  · have h1 : inR x1 0 12 = false := by simpa using h1
    refine ⟨(-2, v_census_least, v_census_most, v_census_known, v_sets_size, v_sets_places, v_sets_filled, v_sets_open, v_sets_chance, v_census_wholeSets, v_census_orders), (-2, v_mays), ?_, ?_, rfl, n, B, k, r, st, w, hb, sn, ln, cnt, ⟨rfl, hcnt, rfl, rfl⟩, ⟨rfl, hn1, hn, rfl, hB1, hB4, rfl, hk, rfl, hr8, hst, hw, hcm, hsn⟩, ⟨rfl, rfl, rfl, rfl, rfl, rfl, rfl, rfl, rfl⟩, ⟨hF, hFM, hcl, hnb⟩, hce, hma, hlr, hi0, hi1⟩
    · unfold f_X10_ways
      rw [x_within, h1, Option.bind_some, if_pos (by decide)]
    · unfold f_X11_ways
      rw [show f_X11_in x1.toInt64 0 12 = _ from m_in x1 0 12, h1, Option.bind_some, if_pos (by decide)]
set_option maxHeartbeats 1000000 in
theorem s_mean : St_mean Inv := by
  intro v_pad_count v_pad_signs v_scene_seats v_scene_bear v_scene_comerCount v_scene_seenRows v_scene_steps v_scene_worths v_scene_comers v_scene_seen v_scene_seenLengths v_bench_apart v_bench_clash v_bench_neighbours v_trial_apart v_trial_clash v_trial_neighbours v_sitters_set v_sitters_bear v_sitters_nearest v_trialSitters_set v_trialSitters_bear v_trialSitters_nearest v_sets_size v_sets_places v_sets_filled v_sets_open v_sets_chance v_census_least v_census_most v_census_known v_census_wholeSets v_census_orders v_match_known v_match_kind v_match_wicked v_couples_count v_couples_lesser v_couples_greater v_couples_tooNear v_couples_clash v_passing_turnedAway v_passing_parts v_passing_habit v_passing_odds v_longRows_between v_signMany v_seats v_bearIs v_rowsAll v_awayUpper v_lower v_comerMany v_seenRows v_place v_isWriting v_signs v_links v_worths v_far v_mays v_rowsTo v_endIn v_ends v_pairSets v_awayIn v_now v_then v_comers v_seen v_seenMany v_kept v_isKept d0 d1 hI x1
  obtain ⟨n, B, k, r, st, w, hb, sn, ln, cnt, hp, hs, he, hbn, hce, hma, hlr, hi0, hi1⟩ := hI
  obtain ⟨rfl, hcnt, rfl, rfl⟩ := hp
  obtain ⟨rfl, rfl, rfl, rfl, rfl, rfl, rfl, rfl, rfl⟩ := he
  obtain ⟨rfl, hn1, hn, rfl, hB1, hB4, rfl, hk, rfl, hr8, hst, hw, hcm, hsn⟩ := hs
  obtain ⟨hF, hFM, hcl, hnb⟩ := hbn
  have hD := Dd_ok (Ef n st 0) hn1 hn
  have hp12 : 2 ^ n ≤ 2 ^ 12 := Nat.pow_le_pow_right (by omega) hn
  obtain ⟨l, m, sz, pl, fl, fo, ch, ws, od, e1, hcen⟩ := x_cen (vl := v_census_least) (vm := v_census_most) (vsz := v_sets_size) (vpl := v_sets_places) (vfl := v_sets_filled) (vfo := v_sets_open) (vch := v_sets_chance) (vws := v_census_wholeSets) (vod := v_census_orders) hD hB1 (show B ≤ 99 by omega) hcl hce
  have hcen' := hcen
  obtain ⟨hl, hm, hws, hod⟩ := hcen'
  by_cases h1 : inR x1 0 1 = true
  · have hfn := fac_le hn
    have hdv : fac (pc 12 (oB n (Dd n (Ef n st 0)) B 0)) ∣ fac n := fac_dvd n (oB_pc0 n (Dd n (Ef n st 0)) B)
    have hdT : fac (pc 12 (oB n (Dd n (Ef n st 0)) B 0)) ∣ 479001600 := T12 _
    obtain ⟨q, hq0, hq⟩ := fac_q hn
    obtain ⟨z, e, y, a1, a2⟩ := m_any (vm := v_mays) (ve := v_endIn) (vr := v_rowsTo) hD hFM hB1 (show B ≤ 99 by omega)
    have b1 := sum_b (f := fun c => orc n (Dd n (Ef n st 0)) B 479001600 c (2 ^ n)) (fun c => odd_b hD hB1 (by omega) hdT (Nat.le_refl _))
    have b2 := sum_b (f := fun c => orc n (Dd n (Ef n st 0)) B (fac n) c (2 ^ n)) (fun c => odd_b hD hB1 (by omega) hdv hfn.2)
    have es : sm (fun c => c * orc n (Dd n (Ef n st 0)) B 479001600 c (2 ^ n)) 13 = q * sm (fun c => c * orc n (Dd n (Ef n st 0)) B (fac n) c (2 ^ n)) 13 := by
      rw [← sm_mul]
      apply sm_congr
      intro c _
      show c * orc n (Dd n (Ef n st 0)) B 479001600 c (2 ^ n) = q * (c * orc n (Dd n (Ef n st 0)) B (fac n) c (2 ^ n))
      rw [hq, orc_sc q hD hB1 (by omega) hdv, Nat.mul_left_comm]
    refine ⟨(lN (lowN (sm (fun c => c * orc n (Dd n (Ef n st 0)) B (fac n) c (2 ^ n)) 13) (fac n) x1), l, m, 1, sz, pl, fl, fo, ch, ws, od), (lN (lowN (sm (fun c => c * orc n (Dd n (Ef n st 0)) B (fac n) c (2 ^ n)) 13) (fac n) x1), lN (fac n), z, e, y), ?_, ?_, rfl, n, B, k, r, st, w, hb, sn, ln, cnt, ⟨rfl, hcnt, rfl, rfl⟩, ⟨rfl, hn1, hn, rfl, hB1, hB4, rfl, hk, rfl, hr8, hst, hw, hcm, hsn⟩, ⟨rfl, rfl, rfl, rfl, rfl, rfl, rfl, rfl, rfl⟩, ⟨hF, hFM, hcl, hnb⟩, Or.inr ⟨rfl, hcen⟩, hma, hlr, hi0, hi1⟩
    · unfold f_X10_mean
      rw [x_within, h1, Option.bind_some, if_neg (by decide), e1, Option.bind_some]
      dsimp only
      rw [x_sum hod, Option.bind_some, show (479001600 : Int64) = lN 479001600 from rfl, x_low x1 (by omega) (by omega) (by omega), Option.bind_some, es]
      congr 3
      rw [hq, low_mul _ _ _ hq0]
    · unfold f_X11_mean
      rw [m_part, h1, Option.bind_some, if_neg (by decide), a1, Option.bind_some]
      dsimp only
      rw [m_sum a2, Option.bind_some, m_low x1 (by omega) (by omega) (by omega), Option.bind_some]
  · have h1 : inR x1 0 1 = false := by simpa using h1
    refine ⟨(-1000000000000000002, v_census_least, v_census_most, v_census_known, v_sets_size, v_sets_places, v_sets_filled, v_sets_open, v_sets_chance, v_census_wholeSets, v_census_orders), (-1000000000000000002, v_rowsAll, v_mays, v_endIn, v_rowsTo), ?_, ?_, rfl, n, B, k, r, st, w, hb, sn, ln, cnt, ⟨rfl, hcnt, rfl, rfl⟩, ⟨rfl, hn1, hn, rfl, hB1, hB4, rfl, hk, rfl, hr8, hst, hw, hcm, hsn⟩, ⟨rfl, rfl, rfl, rfl, rfl, rfl, rfl, rfl, rfl⟩, ⟨hF, hFM, hcl, hnb⟩, hce, hma, hlr, hi0, hi1⟩
    · unfold f_X10_mean
      rw [x_within, h1, Option.bind_some, if_pos (by decide)]
    · unfold f_X11_mean
      rw [m_part, h1, Option.bind_some, if_pos (by decide)]
set_option maxHeartbeats 1000000 in
theorem s_odds : St_odds Inv := by
  intro v_pad_count v_pad_signs v_scene_seats v_scene_bear v_scene_comerCount v_scene_seenRows v_scene_steps v_scene_worths v_scene_comers v_scene_seen v_scene_seenLengths v_bench_apart v_bench_clash v_bench_neighbours v_trial_apart v_trial_clash v_trial_neighbours v_sitters_set v_sitters_bear v_sitters_nearest v_trialSitters_set v_trialSitters_bear v_trialSitters_nearest v_sets_size v_sets_places v_sets_filled v_sets_open v_sets_chance v_census_least v_census_most v_census_known v_census_wholeSets v_census_orders v_match_known v_match_kind v_match_wicked v_couples_count v_couples_lesser v_couples_greater v_couples_tooNear v_couples_clash v_passing_turnedAway v_passing_parts v_passing_habit v_passing_odds v_longRows_between v_signMany v_seats v_bearIs v_rowsAll v_awayUpper v_lower v_comerMany v_seenRows v_place v_isWriting v_signs v_links v_worths v_far v_mays v_rowsTo v_endIn v_ends v_pairSets v_awayIn v_now v_then v_comers v_seen v_seenMany v_kept v_isKept d0 d1 hI x1 x2
  obtain ⟨n, B, k, r, st, w, hb, sn, ln, cnt, hp, hs, he, hbn, hce, hma, hlr, hi0, hi1⟩ := hI
  obtain ⟨rfl, hcnt, rfl, rfl⟩ := hp
  obtain ⟨rfl, rfl, rfl, rfl, rfl, rfl, rfl, rfl, rfl⟩ := he
  obtain ⟨rfl, hn1, hn, rfl, hB1, hB4, rfl, hk, rfl, hr8, hst, hw, hcm, hsn⟩ := hs
  obtain ⟨hF, hFM, hcl, hnb⟩ := hbn
  have hD := Dd_ok (Ef n st 0) hn1 hn
  have hp12 : 2 ^ n ≤ 2 ^ 12 := Nat.pow_le_pow_right (by omega) hn
  obtain ⟨l, m, sz, pl, fl, fo, ch, ws, od, e1, hcen⟩ := x_cen (vl := v_census_least) (vm := v_census_most) (vsz := v_sets_size) (vpl := v_sets_places) (vfl := v_sets_filled) (vfo := v_sets_open) (vch := v_sets_chance) (vws := v_census_wholeSets) (vod := v_census_orders) hD hB1 (show B ≤ 99 by omega) hcl hce
  have hcen' := hcen
  obtain ⟨hl, hm, hws, hod⟩ := hcen'
  by_cases h1 : inR x1 0 12 = true
  · by_cases h2 : inR x2 0 1 = true
    · obtain ⟨v, hv, rfl⟩ := (inR_nat (b := 12) (by omega)).mp h1
      have hfn := fac_le hn
      have hdv : fac (pc 12 (oB n (Dd n (Ef n st 0)) B 0)) ∣ fac n := fac_dvd n (oB_pc0 n (Dd n (Ef n st 0)) B)
      have hdT : fac (pc 12 (oB n (Dd n (Ef n st 0)) B 0)) ∣ 479001600 := T12 _
      obtain ⟨q, hq0, hq⟩ := fac_q hn
      obtain ⟨z, e, y, a1, a2⟩ := m_any (vm := v_mays) (ve := v_endIn) (vr := v_rowsTo) hD hFM hB1 (show B ≤ 99 by omega)
      have b1 := odd_b (c := v) hD hB1 (show B ≤ 99 by omega) hdT (Nat.le_refl _)
      have b2 := odd_b (c := v) hD hB1 (show B ≤ 99 by omega) hdv hfn.2
      refine ⟨(lN (lowN (orc n (Dd n (Ef n st 0)) B (fac n) v (2 ^ n)) (fac n) x2), l, m, 1, sz, pl, fl, fo, ch, ws, od), (lN (lowN (orc n (Dd n (Ef n st 0)) B (fac n) v (2 ^ n)) (fac n) x2), lN (fac n), z, e, y), ?_, ?_, rfl, n, B, k, r, st, w, hb, sn, ln, cnt, ⟨rfl, hcnt, rfl, rfl⟩, ⟨rfl, hn1, hn, rfl, hB1, hB4, rfl, hk, rfl, hr8, hst, hw, hcm, hsn⟩, ⟨rfl, rfl, rfl, rfl, rfl, rfl, rfl, rfl, rfl⟩, ⟨hF, hFM, hcl, hnb⟩, Or.inr ⟨rfl, hcen⟩, hma, hlr, hi0, hi1⟩
      · unfold f_X10_odds
        rw [x_within, h1, Option.bind_some, if_neg (by decide), x_within, h2, Option.bind_some, if_neg (by decide), e1, Option.bind_some]
        dsimp only
        rw [nu_get _ (show v < 13 by omega) (by omega), Option.bind_some, hod v hv, show (479001600 : Int64) = lN 479001600 from rfl, x_low x2 (by omega) (by omega) (by omega), Option.bind_some]
        congr 3
        rw [hq, orc_sc q hD hB1 (by omega) hdv, low_mul _ _ _ hq0]
      · unfold f_X11_odds
        rw [show f_X11_in (nI v).toInt64 0 12 = _ from m_in (nI v) 0 12, h1, Option.bind_some, if_neg (by decide), m_part, h2, Option.bind_some, if_neg (by decide), a1, Option.bind_some]
        dsimp only
        rw [nu_get _ (show v < 13 by omega) (by omega), Option.bind_some, a2 v hv, m_low x2 (by omega) (by omega) (by omega), Option.bind_some]
    · have h2 : inR x2 0 1 = false := by simpa using h2
      refine ⟨(-1000000000000000002, v_census_least, v_census_most, v_census_known, v_sets_size, v_sets_places, v_sets_filled, v_sets_open, v_sets_chance, v_census_wholeSets, v_census_orders), (-1000000000000000002, v_rowsAll, v_mays, v_endIn, v_rowsTo), ?_, ?_, rfl, n, B, k, r, st, w, hb, sn, ln, cnt, ⟨rfl, hcnt, rfl, rfl⟩, ⟨rfl, hn1, hn, rfl, hB1, hB4, rfl, hk, rfl, hr8, hst, hw, hcm, hsn⟩, ⟨rfl, rfl, rfl, rfl, rfl, rfl, rfl, rfl, rfl⟩, ⟨hF, hFM, hcl, hnb⟩, hce, hma, hlr, hi0, hi1⟩
      · unfold f_X10_odds
        rw [x_within, h1, Option.bind_some, if_neg (by decide), x_within, h2, Option.bind_some, if_pos (by decide)]
      · unfold f_X11_odds
        rw [show f_X11_in x1.toInt64 0 12 = _ from m_in x1 0 12, h1, Option.bind_some, if_neg (by decide), m_part, h2, Option.bind_some, if_pos (by decide)]
  · have h1 : inR x1 0 12 = false := by simpa using h1
    refine ⟨(-1000000000000000002, v_census_least, v_census_most, v_census_known, v_sets_size, v_sets_places, v_sets_filled, v_sets_open, v_sets_chance, v_census_wholeSets, v_census_orders), (-1000000000000000002, v_rowsAll, v_mays, v_endIn, v_rowsTo), ?_, ?_, rfl, n, B, k, r, st, w, hb, sn, ln, cnt, ⟨rfl, hcnt, rfl, rfl⟩, ⟨rfl, hn1, hn, rfl, hB1, hB4, rfl, hk, rfl, hr8, hst, hw, hcm, hsn⟩, ⟨rfl, rfl, rfl, rfl, rfl, rfl, rfl, rfl, rfl⟩, ⟨hF, hFM, hcl, hnb⟩, hce, hma, hlr, hi0, hi1⟩
    · unfold f_X10_odds
      rw [x_within, h1, Option.bind_some, if_pos (by decide)]
    · unfold f_X11_odds
      rw [show f_X11_in x1.toInt64 0 12 = _ from m_in x1 0 12, h1, Option.bind_some, if_pos (by decide)]
end ST10
