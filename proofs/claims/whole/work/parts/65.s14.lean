/-! step: arms -/
section ST14
set_option maxHeartbeats 1000000 in
theorem s_arms : St_arms Inv := by
  intro v_pad_count v_pad_signs v_scene_seats v_scene_bear v_scene_comerCount v_scene_seenRows v_scene_steps v_scene_worths v_scene_comers v_scene_seen v_scene_seenLengths v_bench_apart v_bench_clash v_bench_neighbours v_trial_apart v_trial_clash v_trial_neighbours v_sitters_set v_sitters_bear v_sitters_nearest v_trialSitters_set v_trialSitters_bear v_trialSitters_nearest v_sets_size v_sets_places v_sets_filled v_sets_open v_sets_chance v_census_least v_census_most v_census_known v_census_wholeSets v_census_orders v_match_known v_match_kind v_match_wicked v_couples_count v_couples_lesser v_couples_greater v_couples_tooNear v_couples_clash v_passing_turnedAway v_passing_parts v_passing_habit v_passing_odds v_longRows_between v_signMany v_seats v_bearIs v_rowsAll v_awayUpper v_lower v_comerMany v_seenRows v_place v_isWriting v_signs v_links v_worths v_far v_mays v_rowsTo v_endIn v_ends v_pairSets v_awayIn v_now v_then v_comers v_seen v_seenMany v_kept v_isKept d0 d1 hI x1 x2 x3
  obtain ⟨n, B, k, r, st, w, hb, sn, ln, cnt, hp, hs, he, hbn, hce, hma, hlr, hi0, hi1⟩ := hI
  obtain ⟨rfl, hcnt, rfl, rfl⟩ := hp
  obtain ⟨rfl, rfl, rfl, rfl, rfl, rfl, rfl, rfl, rfl⟩ := he
  obtain ⟨rfl, hn1, hn, rfl, hB1, hB4, rfl, hk, rfl, hr8, hst, hw, hcm, hsn⟩ := hs
  obtain ⟨hF, hFM, hcl, hnb⟩ := hbn
  have hD := Dd_ok (Ef n st 0) hn1 hn
  have hp12 : 2 ^ n ≤ 2 ^ 12 := Nat.pow_le_pow_right (by omega) hn
  have hq11 : 2 ^ (n - 1) ≤ 2 ^ 11 := Nat.pow_le_pow_right (by omega) (by omega)
  by_cases h1 : inR x1 0 5 = true
  · obtain ⟨h, hh, rfl⟩ := (inR_nat (b := 5) (by omega)).mp h1
    by_cases h2 : inR x2 0 3 = true
    · obtain ⟨q, hq, rfl⟩ := (inR_nat (b := 3) (by omega)).mp h2
      by_cases h3 : inR x3 0 1 = true
      · have hVb : ∀ m, armV n B st w h m ≤ 12 := fun m => pc_le _ 12
        obtain ⟨b, ta, tc, tn, sz, pl, fl, fo, ch, ss, sb, sN, b1, b2⟩ := x_places (B := B) (k := q) (V := armV n B st w h) (w := v_worths) (x1 := nI h) hn1 hn hq (ctm_lt st (n - 1)) (x_cut hn1 hn hst) (fun m _ => by have := hVb m; omega) (fun m hm ta tc tn sz pl fl fo ch ss sb sn' => by
          obtain ⟨ta', tc', tn', ss', sb', sn'', e⟩ := x_arm (ta := ta) (tc := tc) (tn := tn) (tsn := sn') hn1 hn hB1 (show B ≤ 99 by omega) hst hw (show h < 6 by omega) hm
          refine ⟨ta', tc', tn', sz, pl, fl, fo, ch, ss', sb', sn'', ?_⟩
          unfold f_X10_worthOfArms
          have := hVb m
          rw [if_neg (show ¬ nI h = 6 from fun e => by have := (nI_eq (b := 6) (by omega) (by omega)).mp e; omega), e, Option.bind_some, nI_l (by omega)]) v_trial_apart v_trial_clash v_trial_neighbours v_sets_size v_sets_places v_sets_filled v_sets_open v_sets_chance v_trialSitters_set v_trialSitters_bear v_trialSitters_nearest
        obtain ⟨zf, m1⟩ := m_arms (k := q) (f := v_far) hn1 hn hB1 (show B ≤ 99 by omega) hst hw (show h < 6 by omega) hq
        rw [opc_bst hn (fun S => by unfold armV; rw [Ef_cut]), b1] at m1
        obtain ⟨zf', m2, m3⟩ := m_findFar (f := zf) (m := 0) hn1 hn hst (by omega)
        have hbl := (bst_some b1).1
        by_cases hx : x3 = 0
        · refine ⟨(nI b, ta, tc, tn, sz, pl, fl, fo, ch, ss, sb, sN), (nI b, zf'), ?_, ?_, rfl, n, B, k, r, st, w, hb, sn, ln, cnt, ⟨rfl, hcnt, rfl, rfl⟩, ⟨rfl, hn1, hn, rfl, hB1, hB4, rfl, hk, rfl, hr8, hst, hw, hcm, hsn⟩, ⟨rfl, rfl, rfl, rfl, rfl, rfl, rfl, rfl, rfl⟩, ⟨hF, m3, hcl, hnb⟩, hce, hma, hlr, hi0, hi1⟩
          · unfold f_X10_arms
            rw [x_habit, h1, Option.bind_some, if_neg (by decide), x_within, h2, Option.bind_some, if_neg (by decide), x_within, h3, Option.bind_some, if_neg (by decide), b2, Option.bind_some, if_pos hx, Option.bind_some]
          · unfold f_X11_arms
            rw [m_habit, h1, Option.bind_some, if_neg (by decide), show f_X11_in (nI q).toInt64 0 3 = _ from m_in (nI q) 0 3, h2, Option.bind_some, if_neg (by decide), show f_X11_in x3.toInt64 0 1 = _ from m_in x3 0 1, h3, Option.bind_some, if_neg (by decide), m1, Option.bind_some]
            dsimp only
            rw [show f_X11_findFar (nI n) zf v_links 0 = _ from m2, Option.bind_some, if_pos hx, Option.bind_some]
            rfl
        · obtain ⟨ta', tc', tn', ss', sb', sn', e⟩ := x_arm (ta := ta) (tc := tc) (tn := tn) (tsn := sN) hn1 hn hB1 (show B ≤ 99 by omega) hst hw (show h < 6 by omega) hbl
          refine ⟨(nI (armV n B st w h b), ta', tc', tn', sz, pl, fl, fo, ch, ss', sb', sn'), (nI (armV n B st w h b), zf'), ?_, ?_, rfl, n, B, k, r, st, w, hb, sn, ln, cnt, ⟨rfl, hcnt, rfl, rfl⟩, ⟨rfl, hn1, hn, rfl, hB1, hB4, rfl, hk, rfl, hr8, hst, hw, hcm, hsn⟩, ⟨rfl, rfl, rfl, rfl, rfl, rfl, rfl, rfl, rfl⟩, ⟨hF, m3, hcl, hnb⟩, hce, hma, hlr, hi0, hi1⟩
          · unfold f_X10_arms
            rw [x_habit, h1, Option.bind_some, if_neg (by decide), x_within, h2, Option.bind_some, if_neg (by decide), x_within, h3, Option.bind_some, if_neg (by decide), b2, Option.bind_some, if_neg hx]
            dsimp only
            rw [e, Option.bind_some, Option.bind_some]
          · unfold f_X11_arms
            rw [m_habit, h1, Option.bind_some, if_neg (by decide), show f_X11_in (nI q).toInt64 0 3 = _ from m_in (nI q) 0 3, h2, Option.bind_some, if_neg (by decide), show f_X11_in x3.toInt64 0 1 = _ from m_in x3 0 1, h3, Option.bind_some, if_neg (by decide), m1, Option.bind_some]
            dsimp only
            rw [show f_X11_findFar (nI n) zf v_links 0 = _ from m2, Option.bind_some, if_neg hx, Option.bind_some]
            rfl
      · have h3 : inR x3 0 1 = false := by simpa using h3
        refine ⟨(-2, v_trial_apart, v_trial_clash, v_trial_neighbours, v_sets_size, v_sets_places, v_sets_filled, v_sets_open, v_sets_chance, v_trialSitters_set, v_trialSitters_bear, v_trialSitters_nearest), (-2, v_far), ?_, ?_, rfl, n, B, k, r, st, w, hb, sn, ln, cnt, ⟨rfl, hcnt, rfl, rfl⟩, ⟨rfl, hn1, hn, rfl, hB1, hB4, rfl, hk, rfl, hr8, hst, hw, hcm, hsn⟩, ⟨rfl, rfl, rfl, rfl, rfl, rfl, rfl, rfl, rfl⟩, ⟨hF, hFM, hcl, hnb⟩, hce, hma, hlr, hi0, hi1⟩
        · unfold f_X10_arms
          rw [x_habit, h1, Option.bind_some, if_neg (by decide), x_within, h2, Option.bind_some, if_neg (by decide), x_within, h3, Option.bind_some, if_pos (by decide)]
        · unfold f_X11_arms
          rw [m_habit, h1, Option.bind_some, if_neg (by decide), show f_X11_in (nI q).toInt64 0 3 = _ from m_in (nI q) 0 3, h2, Option.bind_some, if_neg (by decide), show f_X11_in x3.toInt64 0 1 = _ from m_in x3 0 1, h3, Option.bind_some, if_pos (by decide)]
    · have h2 : inR x2 0 3 = false := by simpa using h2
      refine ⟨(-2, v_trial_apart, v_trial_clash, v_trial_neighbours, v_sets_size, v_sets_places, v_sets_filled, v_sets_open, v_sets_chance, v_trialSitters_set, v_trialSitters_bear, v_trialSitters_nearest), (-2, v_far), ?_, ?_, rfl, n, B, k, r, st, w, hb, sn, ln, cnt, ⟨rfl, hcnt, rfl, rfl⟩, ⟨rfl, hn1, hn, rfl, hB1, hB4, rfl, hk, rfl, hr8, hst, hw, hcm, hsn⟩, ⟨rfl, rfl, rfl, rfl, rfl, rfl, rfl, rfl, rfl⟩, ⟨hF, hFM, hcl, hnb⟩, hce, hma, hlr, hi0, hi1⟩
      · unfold f_X10_arms
        rw [x_habit, h1, Option.bind_some, if_neg (by decide), x_within, h2, Option.bind_some, if_pos (by decide)]
      · unfold f_X11_arms
        rw [m_habit, h1, Option.bind_some, if_neg (by decide), show f_X11_in x2.toInt64 0 3 = _ from m_in x2 0 3, h2, Option.bind_some, if_pos (by decide)]
  · have h1 : inR x1 0 5 = false := by simpa using h1
    refine ⟨(-2, v_trial_apart, v_trial_clash, v_trial_neighbours, v_sets_size, v_sets_places, v_sets_filled, v_sets_open, v_sets_chance, v_trialSitters_set, v_trialSitters_bear, v_trialSitters_nearest), (-2, v_far), ?_, ?_, rfl, n, B, k, r, st, w, hb, sn, ln, cnt, ⟨rfl, hcnt, rfl, rfl⟩, ⟨rfl, hn1, hn, rfl, hB1, hB4, rfl, hk, rfl, hr8, hst, hw, hcm, hsn⟩, ⟨rfl, rfl, rfl, rfl, rfl, rfl, rfl, rfl, rfl⟩, ⟨hF, hFM, hcl, hnb⟩, hce, hma, hlr, hi0, hi1⟩
    · unfold f_X10_arms
      rw [x_habit, h1, Option.bind_some, if_pos (by decide)]
    · unfold f_X11_arms
      rw [m_habit, h1, Option.bind_some, if_pos (by decide)]
end ST14
