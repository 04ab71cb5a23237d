/-! steps: the simple calls -/
set_option maxHeartbeats 1000000 in
theorem s_say : St_say Inv := by
  intro v_pad_count v_pad_signs v_scene_seats v_scene_bear v_scene_comerCount v_scene_seenRows v_scene_steps v_scene_worths v_scene_comers v_scene_seen v_scene_seenLengths v_bench_apart v_bench_clash v_bench_neighbours v_trial_apart v_trial_clash v_trial_neighbours v_sitters_set v_sitters_bear v_sitters_nearest v_trialSitters_set v_trialSitters_bear v_trialSitters_nearest v_sets_size v_sets_places v_sets_filled v_sets_open v_sets_chance v_census_least v_census_most v_census_known v_census_wholeSets v_census_orders v_match_known v_match_kind v_match_wicked v_couples_count v_couples_lesser v_couples_greater v_couples_tooNear v_couples_clash v_passing_turnedAway v_passing_parts v_passing_habit v_passing_odds v_longRows_between v_signMany v_seats v_bearIs v_rowsAll v_awayUpper v_lower v_comerMany v_seenRows v_place v_isWriting v_signs v_links v_worths v_far v_mays v_rowsTo v_endIn v_ends v_pairSets v_awayIn v_now v_then v_comers v_seen v_seenMany v_kept v_isKept d0 d1 hI x1
  obtain ⟨n, B, k, r, st, w, hb, sn, ln, cnt, hp, hs, he, hbn, hce, hma, hlr, hi0, hi1⟩ := hI
  obtain ⟨rfl, hcnt, rfl, rfl⟩ := hp
  obtain ⟨rfl, rfl, rfl, rfl, rfl, rfl, rfl, rfl, rfl⟩ := he
  by_cases hr : inR x1 33 126 = true
  · by_cases hc : cnt < 30
    · refine ⟨(nI (cnt + 1), nI (cnt + 1), upd v_signs cnt x1), (nI (cnt + 1), nI (cnt + 1), upd v_signs cnt x1), ?_, ?_, rfl, n, B, k, r, st, w, hb, sn, ln, cnt + 1, ⟨rfl, by omega, rfl, rfl⟩, hs, ⟨rfl, rfl, rfl, rfl, rfl, rfl, rfl, rfl, rfl⟩, hbn, hce, hma, hlr, hi0, hi1⟩
      · unfold f_X10_say
        rw [x_within, hr, Option.bind_some, if_neg (by decide)]
        unfold f_X5_add
        rw [if_pos (show nI cnt < 30 from (nI_ltI (b := 30) (by omega) (by omega)).mpr hc), nu_set _ _ hc (by omega), Option.bind_some, Option.bind_some, if_neg (show ¬ (1 : Int32) = 0 by decide), Option.bind_some, nI_1]
      · unfold f_X11_say
        rw [show ((33 : Int64)) = (33 : Int32).toInt64 from rfl, show ((126 : Int64)) = (126 : Int32).toInt64 from rfl, m_in, hr, Option.bind_some, if_neg (by decide), if_neg (show ¬ nI cnt = 30 from fun h => by have := (nI_eq (b := 30) (by omega) (by omega)).mp h; omega), nu_set _ _ hc (by omega), Option.bind_some, nI_1]
    · have e30 : cnt = 30 := by omega
      subst e30
      refine ⟨(-4, nI 30, v_signs), (-4, nI 30, v_signs), ?_, ?_, rfl, n, B, k, r, st, w, hb, sn, ln, 30, ⟨rfl, by omega, rfl, rfl⟩, hs, ⟨rfl, rfl, rfl, rfl, rfl, rfl, rfl, rfl, rfl⟩, hbn, hce, hma, hlr, hi0, hi1⟩
      · unfold f_X10_say
        rw [x_within, hr, Option.bind_some, if_neg (by decide)]
        rfl
      · unfold f_X11_say
        rw [show ((33 : Int64)) = (33 : Int32).toInt64 from rfl, show ((126 : Int64)) = (126 : Int32).toInt64 from rfl, m_in, hr, Option.bind_some, if_neg (by decide), if_pos (by decide)]
  · have hr : inR x1 33 126 = false := by simpa using hr
    refine ⟨(-2, nI cnt, v_signs), (-2, nI cnt, v_signs), ?_, ?_, rfl, n, B, k, r, st, w, hb, sn, ln, cnt, ⟨rfl, hcnt, rfl, rfl⟩, hs, ⟨rfl, rfl, rfl, rfl, rfl, rfl, rfl, rfl, rfl⟩, hbn, hce, hma, hlr, hi0, hi1⟩
    · unfold f_X10_say
      rw [x_within, hr, Option.bind_some, if_pos (by decide)]
    · unfold f_X11_say
      rw [show ((33 : Int64)) = (33 : Int32).toInt64 from rfl, show ((126 : Int64)) = (126 : Int32).toInt64 from rfl, m_in, hr, Option.bind_some, if_pos (by decide)]
set_option maxHeartbeats 1000000 in
theorem s_wipe : St_wipe Inv := by
  intro v_pad_count v_pad_signs v_scene_seats v_scene_bear v_scene_comerCount v_scene_seenRows v_scene_steps v_scene_worths v_scene_comers v_scene_seen v_scene_seenLengths v_bench_apart v_bench_clash v_bench_neighbours v_trial_apart v_trial_clash v_trial_neighbours v_sitters_set v_sitters_bear v_sitters_nearest v_trialSitters_set v_trialSitters_bear v_trialSitters_nearest v_sets_size v_sets_places v_sets_filled v_sets_open v_sets_chance v_census_least v_census_most v_census_known v_census_wholeSets v_census_orders v_match_known v_match_kind v_match_wicked v_couples_count v_couples_lesser v_couples_greater v_couples_tooNear v_couples_clash v_passing_turnedAway v_passing_parts v_passing_habit v_passing_odds v_longRows_between v_signMany v_seats v_bearIs v_rowsAll v_awayUpper v_lower v_comerMany v_seenRows v_place v_isWriting v_signs v_links v_worths v_far v_mays v_rowsTo v_endIn v_ends v_pairSets v_awayIn v_now v_then v_comers v_seen v_seenMany v_kept v_isKept d0 d1 hI 
  obtain ⟨n, B, k, r, st, w, hb, sn, ln, cnt, hp, hs, he, hbn, hce, hma, hlr, hi0, hi1⟩ := hI
  obtain ⟨rfl, hcnt, rfl, rfl⟩ := hp
  obtain ⟨rfl, rfl, rfl, rfl, rfl, rfl, rfl, rfl, rfl⟩ := he
  exact ⟨(nI cnt, 0), (nI cnt, 0), rfl, rfl, rfl, n, B, k, r, st, w, hb, sn, ln, 0, ⟨rfl, by omega, rfl, rfl⟩, hs, ⟨rfl, rfl, rfl, rfl, rfl, rfl, rfl, rfl, rfl⟩, hbn, hce, hma, hlr, hi0, hi1⟩
