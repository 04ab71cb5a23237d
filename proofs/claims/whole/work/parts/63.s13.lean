/-! step: pairs -/
section ST13
set_option maxHeartbeats 1000000 in
theorem s_pairs : St_pairs Inv := by
  intro v_pad_count v_pad_signs v_scene_seats v_scene_bear v_scene_comerCount v_scene_seenRows v_scene_steps v_scene_worths v_scene_comers v_scene_seen v_scene_seenLengths v_bench_apart v_bench_clash v_bench_neighbours v_trial_apart v_trial_clash v_trial_neighbours v_sitters_set v_sitters_bear v_sitters_nearest v_trialSitters_set v_trialSitters_bear v_trialSitters_nearest v_sets_size v_sets_places v_sets_filled v_sets_open v_sets_chance v_census_least v_census_most v_census_known v_census_wholeSets v_census_orders v_match_known v_match_kind v_match_wicked v_couples_count v_couples_lesser v_couples_greater v_couples_tooNear v_couples_clash v_passing_turnedAway v_passing_parts v_passing_habit v_passing_odds v_longRows_between v_signMany v_seats v_bearIs v_rowsAll v_awayUpper v_lower v_comerMany v_seenRows v_place v_isWriting v_signs v_links v_worths v_far v_mays v_rowsTo v_endIn v_ends v_pairSets v_awayIn v_now v_then v_comers v_seen v_seenMany v_kept v_isKept d0 d1 hI x1
  obtain ⟨n, B, k, r, st, w, hb, sn, ln, cnt, hp, hs, he, hbn, hce, hma, hlr, hi0, hi1⟩ := hI
  obtain ⟨rfl, hcnt, rfl, rfl⟩ := hp
  obtain ⟨rfl, rfl, rfl, rfl, rfl, rfl, rfl, rfl, rfl⟩ := he
  obtain ⟨rfl, hn1, hn, rfl, hB1, hB4, rfl, hk, rfl, hr8, hst, hw, hcm, hsn⟩ := hs
  obtain ⟨hF, hFM, hcl, hnb⟩ := hbn
  have hD := Dd_ok (Ef n st 0) hn1 hn
  have hp12 : 2 ^ n ≤ 2 ^ 12 := Nat.pow_le_pow_right (by omega) hn
  have hA : Adj n (Dd n (Ef n st 0)) := fun a b h1 h2 h3 => Dd_adj (Ef_1 n st 0) h1 h2 h3
  have hcc := outS_le hA hn1
  by_cases h1 : inR x1 0 1 = true
  · obtain ⟨l, g, t, e1, hL⟩ := x_plist (B := B) (vl := v_couples_lesser) (vg := v_couples_greater) (vt := v_couples_tooNear) hD hA hF hcl
    by_cases hx : x1 = 0
    · obtain ⟨S, f, e2⟩ := x_turn (vn := v_sitters_nearest) hD hA hF (show B ≤ 99 by omega) hL
      refine ⟨(nI (pT n (Dd n (Ef n st 0)) B (outS n (Dd n (Ef n st 0)) n) (outS n (Dd n (Ef n st 0)) n).1).2, nI (outS n (Dd n (Ef n st 0)) n).1, l, g, t, v_couples_clash, v_sets_size, v_sets_places, v_sets_filled, v_sets_open, S, nI B, f), (nI (pT n (Dd n (Ef n st 0)) B (outS n (Dd n (Ef n st 0)) n) (outS n (Dd n (Ef n st 0)) n).1).2, v_pairSets), ?_, ?_, rfl, n, B, k, r, st, w, hb, sn, ln, cnt, ⟨rfl, hcnt, rfl, rfl⟩, ⟨rfl, hn1, hn, rfl, hB1, hB4, rfl, hk, rfl, hr8, hst, hw, hcm, hsn⟩, ⟨rfl, rfl, rfl, rfl, rfl, rfl, rfl, rfl, rfl⟩, ⟨hF, hFM, hcl, hnb⟩, hce, hma, hlr, hi0, hi1⟩
      · unfold f_X10_pairs
        rw [x_within, h1, Option.bind_some, if_neg (by decide), e1, Option.bind_some, if_pos hx]
        dsimp only
        rw [e2, Option.bind_some, Option.bind_some]
      · unfold f_X11_pairs
        rw [show f_X11_in x1.toInt64 0 1 = _ from m_in x1 0 1, h1, Option.bind_some, if_neg (by decide), if_pos hx, m_pturn hD hA hFM hB1 (by omega), Option.bind_some, Option.bind_some]
    · obtain ⟨c', sz, pl, fl, fo, e2⟩ := x_once (vc := v_couples_clash) (vfl := v_sets_filled) (vfo := v_sets_open) hn (PL_out n (Dd n (Ef n st 0)) n) (by omega) hL
      obtain ⟨p, e3⟩ := m_mostPairs (vp := v_pairSets) hD hA hFM hB1 (show B ≤ 99 by omega)
      refine ⟨(nI (mxg (gG (pC n (Dd n (Ef n st 0)) B (outS n (Dd n (Ef n st 0)) n)) (2 ^ (outS n (Dd n (Ef n st 0)) n).1 - 1)) (2 ^ (outS n (Dd n (Ef n st 0)) n).1)), nI (outS n (Dd n (Ef n st 0)) n).1, l, g, t, c', sz, pl, fl, fo, v_sitters_set, v_sitters_bear, v_sitters_nearest), (nI (mxg (gG (pC n (Dd n (Ef n st 0)) B (outS n (Dd n (Ef n st 0)) n)) (2 ^ (outS n (Dd n (Ef n st 0)) n).1 - 1)) (2 ^ (outS n (Dd n (Ef n st 0)) n).1)), p), ?_, ?_, rfl, n, B, k, r, st, w, hb, sn, ln, cnt, ⟨rfl, hcnt, rfl, rfl⟩, ⟨rfl, hn1, hn, rfl, hB1, hB4, rfl, hk, rfl, hr8, hst, hw, hcm, hsn⟩, ⟨rfl, rfl, rfl, rfl, rfl, rfl, rfl, rfl, rfl⟩, ⟨hF, hFM, hcl, hnb⟩, hce, hma, hlr, hi0, hi1⟩
      · unfold f_X10_pairs
        rw [x_within, h1, Option.bind_some, if_neg (by decide), e1, Option.bind_some, if_neg hx]
        dsimp only
        rw [e2, Option.bind_some, Option.bind_some]
      · unfold f_X11_pairs
        rw [show f_X11_in x1.toInt64 0 1 = _ from m_in x1 0 1, h1, Option.bind_some, if_neg (by decide), if_neg hx, e3, Option.bind_some, Option.bind_some]
  · have h1 : inR x1 0 1 = false := by simpa using h1
    refine ⟨(-2, v_couples_count, v_couples_lesser, v_couples_greater, v_couples_tooNear, v_couples_clash, v_sets_size, v_sets_places, v_sets_filled, v_sets_open, v_sitters_set, v_sitters_bear, v_sitters_nearest), (-2, v_pairSets), ?_, ?_, rfl, n, B, k, r, st, w, hb, sn, ln, cnt, ⟨rfl, hcnt, rfl, rfl⟩, ⟨rfl, hn1, hn, rfl, hB1, hB4, rfl, hk, rfl, hr8, hst, hw, hcm, hsn⟩, ⟨rfl, rfl, rfl, rfl, rfl, rfl, rfl, rfl, rfl⟩, ⟨hF, hFM, hcl, hnb⟩, hce, hma, hlr, hi0, hi1⟩
    · unfold f_X10_pairs
      rw [x_within, h1, Option.bind_some, if_pos (by decide)]
    · unfold f_X11_pairs
      rw [show f_X11_in x1.toInt64 0 1 = _ from m_in x1 0 1, h1, Option.bind_some, if_pos (by decide)]
end ST13
