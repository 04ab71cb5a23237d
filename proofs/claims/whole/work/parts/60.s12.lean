/-! steps: rows, longer -/
section ST12
set_option maxHeartbeats 1000000 in
theorem s_rows : St_rows Inv := by
  intro v_pad_count v_pad_signs v_scene_seats v_scene_bear v_scene_comerCount v_scene_seenRows v_scene_steps v_scene_worths v_scene_comers v_scene_seen v_scene_seenLengths v_bench_apart v_bench_clash v_bench_neighbours v_trial_apart v_trial_clash v_trial_neighbours v_sitters_set v_sitters_bear v_sitters_nearest v_trialSitters_set v_trialSitters_bear v_trialSitters_nearest v_sets_size v_sets_places v_sets_filled v_sets_open v_sets_chance v_census_least v_census_most v_census_known v_census_wholeSets v_census_orders v_match_known v_match_kind v_match_wicked v_couples_count v_couples_lesser v_couples_greater v_couples_tooNear v_couples_clash v_passing_turnedAway v_passing_parts v_passing_habit v_passing_odds v_longRows_between v_signMany v_seats v_bearIs v_rowsAll v_awayUpper v_lower v_comerMany v_seenRows v_place v_isWriting v_signs v_links v_worths v_far v_mays v_rowsTo v_endIn v_ends v_pairSets v_awayIn v_now v_then v_comers v_seen v_seenMany v_kept v_isKept d0 d1 hI x1 x2
  obtain ⟨n, B, k, r, st, w, hb, sn, ln, cnt, hp, hs, he, hbn, hce, hma, hlr, hi0, hi1⟩ := hI
  obtain ⟨rfl, hcnt, rfl, rfl⟩ := hp
  obtain ⟨rfl, rfl, rfl, rfl, rfl, rfl, rfl, rfl, rfl⟩ := he
  have hs0 := hs
  clear hs
  by_cases h1 : inR x1 1 200 = true
  · obtain ⟨N, hN1, hN2, rfl⟩ := (inR_n1 (b := 200) (by omega)).mp h1
    have em : nI N - 1 = nI (N - 1) := pk_sub (a := N) (b := 1) (by omega)
    by_cases h2 : inR x2 0 (nI N - 1) = true
    · have h2' := h2
      rw [em] at h2'
      obtain ⟨s, hs, rfl⟩ := (inR_nat (b := N - 1) (by omega)).mp h2'
      obtain ⟨z', k1⟩ := m_rowsOf (n := N) (seat := s) (by omega) (by omega) v_awayIn
      refine ⟨nI (1 + endp s + endp (N - 1 - s)), (nI (1 + endp s + endp (N - 1 - s)), z'), ?_, ?_, rfl, n, B, k, r, st, w, hb, sn, ln, cnt, ⟨rfl, hcnt, rfl, rfl⟩, hs0, ⟨rfl, rfl, rfl, rfl, rfl, rfl, rfl, rfl, rfl⟩, hbn, hce, hma, hlr, hi0, hi1⟩
      · unfold f_X10_rows
        rw [x_within, h1, Option.bind_some, if_neg (by decide), x_within, h2, Option.bind_some, if_neg (by decide), x_comeIn hlr (by omega) (by omega), Option.bind_some]
      · unfold f_X11_rows
        rw [show f_X11_in (nI N).toInt64 1 200 = _ from m_in (nI N) 1 200, h1, Option.bind_some, if_neg (by decide), show f_X11_in (nI s).toInt64 0 (nI N - 1).toInt64 = _ from m_in (nI s) 0 (nI N - 1), h2, Option.bind_some, if_neg (by decide), k1, Option.bind_some, Option.bind_some]
    · have h2 : inR x2 0 (nI N - 1) = false := by simpa using h2
      refine ⟨-1, (-1, v_awayIn), ?_, ?_, rfl, n, B, k, r, st, w, hb, sn, ln, cnt, ⟨rfl, hcnt, rfl, rfl⟩, hs0, ⟨rfl, rfl, rfl, rfl, rfl, rfl, rfl, rfl, rfl⟩, hbn, hce, hma, hlr, hi0, hi1⟩
      · unfold f_X10_rows
        rw [x_within, h1, Option.bind_some, if_neg (by decide), x_within, h2, Option.bind_some, if_pos (by decide)]
      · unfold f_X11_rows
        rw [show f_X11_in (nI N).toInt64 1 200 = _ from m_in (nI N) 1 200, h1, Option.bind_some, if_neg (by decide), show f_X11_in x2.toInt64 0 (nI N - 1).toInt64 = _ from m_in x2 0 (nI N - 1), h2, Option.bind_some, if_pos (by decide), Option.bind_some]
  · have h1 : inR x1 1 200 = false := by simpa using h1
    refine ⟨-2, (-2, v_awayIn), ?_, ?_, rfl, n, B, k, r, st, w, hb, sn, ln, cnt, ⟨rfl, hcnt, rfl, rfl⟩, hs0, ⟨rfl, rfl, rfl, rfl, rfl, rfl, rfl, rfl, rfl⟩, hbn, hce, hma, hlr, hi0, hi1⟩
    · unfold f_X10_rows
      rw [x_within, h1, Option.bind_some, if_pos (by decide)]
    · unfold f_X11_rows
      rw [show f_X11_in x1.toInt64 1 200 = _ from m_in x1 1 200, h1, Option.bind_some, if_pos (by decide)]
set_option maxHeartbeats 1000000 in
theorem s_longer : St_longer Inv := by
  intro v_pad_count v_pad_signs v_scene_seats v_scene_bear v_scene_comerCount v_scene_seenRows v_scene_steps v_scene_worths v_scene_comers v_scene_seen v_scene_seenLengths v_bench_apart v_bench_clash v_bench_neighbours v_trial_apart v_trial_clash v_trial_neighbours v_sitters_set v_sitters_bear v_sitters_nearest v_trialSitters_set v_trialSitters_bear v_trialSitters_nearest v_sets_size v_sets_places v_sets_filled v_sets_open v_sets_chance v_census_least v_census_most v_census_known v_census_wholeSets v_census_orders v_match_known v_match_kind v_match_wicked v_couples_count v_couples_lesser v_couples_greater v_couples_tooNear v_couples_clash v_passing_turnedAway v_passing_parts v_passing_habit v_passing_odds v_longRows_between v_signMany v_seats v_bearIs v_rowsAll v_awayUpper v_lower v_comerMany v_seenRows v_place v_isWriting v_signs v_links v_worths v_far v_mays v_rowsTo v_endIn v_ends v_pairSets v_awayIn v_now v_then v_comers v_seen v_seenMany v_kept v_isKept d0 d1 hI x1
  obtain ⟨n, B, k, r, st, w, hb, sn, ln, cnt, hp, hs, he, hbn, hce, hma, hlr, hi0, hi1⟩ := hI
  obtain ⟨rfl, hcnt, rfl, rfl⟩ := hp
  obtain ⟨rfl, rfl, rfl, rfl, rfl, rfl, rfl, rfl, rfl⟩ := he
  have hs0 := hs
  clear hs
  by_cases h1 : inR x1 1 100 = true
  · obtain ⟨a, z', k1, k2⟩ := long2 hlr x1 FU 1 v_awayIn (Nat.le_refl _) (by omega) (by rw [FU_eq]; omega)
    refine ⟨(match a with | none => -6 | some v => v), ((match a with | none => -6 | some v => v), z'), ?_, ?_, rfl, n, B, k, r, st, w, hb, sn, ln, cnt, ⟨rfl, hcnt, rfl, rfl⟩, hs0, ⟨rfl, rfl, rfl, rfl, rfl, rfl, rfl, rfl, rfl⟩, hbn, hce, hma, hlr, hi0, hi1⟩
    · unfold f_X10_longer
      rw [x_within, h1, Option.bind_some, if_neg (by decide), show f_X10_longer_15 v_longRows_between x1 FU 1 = _ from k1, Option.bind_some]
      cases a <;> rfl
    · unfold f_X11_longer
      rw [show f_X11_in x1.toInt64 1 100 = _ from m_in x1 1 100, h1, Option.bind_some, if_neg (by decide), show f_X11_longer_17 x1 FU 1 v_awayIn = _ from k2, Option.bind_some]
      cases a <;> rfl
  · have h1 : inR x1 1 100 = false := by simpa using h1
    refine ⟨-2, (-2, v_awayIn), ?_, ?_, rfl, n, B, k, r, st, w, hb, sn, ln, cnt, ⟨rfl, hcnt, rfl, rfl⟩, hs0, ⟨rfl, rfl, rfl, rfl, rfl, rfl, rfl, rfl, rfl⟩, hbn, hce, hma, hlr, hi0, hi1⟩
    · unfold f_X10_longer
      rw [x_within, h1, Option.bind_some, if_pos (by decide)]
    · unfold f_X11_longer
      rw [show f_X11_in x1.toInt64 1 100 = _ from m_in x1 1 100, h1, Option.bind_some, if_pos (by decide)]
end ST12
