/-! steps: WORTHS, BEAR, FARNESS, COMERS .. -/
section ST2
theorem upd_at {f : Nat → Int32} {i : Nat} {x : Int32} {P : Nat → Int32 → Prop} {n : Nat} (h : ∀ j, j < n → j ≠ i → P j (f j)) (hi : P i x) : ∀ j, j < n → P j (upd f i x j) := by
  intro j hj
  unfold upd
  by_cases e : j = i
  · subst e; simpa using hi
  · simpa [e] using h j hj e
end ST2
set_option maxHeartbeats 1000000 in
theorem s_worth : St_worth Inv := by
  intro v_pad_count v_pad_signs v_scene_seats v_scene_bear v_scene_comerCount v_scene_seenRows v_scene_steps v_scene_worths v_scene_comers v_scene_seen v_scene_seenLengths v_bench_apart v_bench_clash v_bench_neighbours v_trial_apart v_trial_clash v_trial_neighbours v_sitters_set v_sitters_bear v_sitters_nearest v_trialSitters_set v_trialSitters_bear v_trialSitters_nearest v_sets_size v_sets_places v_sets_filled v_sets_open v_sets_chance v_census_least v_census_most v_census_known v_census_wholeSets v_census_orders v_match_known v_match_kind v_match_wicked v_couples_count v_couples_lesser v_couples_greater v_couples_tooNear v_couples_clash v_passing_turnedAway v_passing_parts v_passing_habit v_passing_odds v_longRows_between v_signMany v_seats v_bearIs v_rowsAll v_awayUpper v_lower v_comerMany v_seenRows v_place v_isWriting v_signs v_links v_worths v_far v_mays v_rowsTo v_endIn v_ends v_pairSets v_awayIn v_now v_then v_comers v_seen v_seenMany v_kept v_isKept d0 d1 hI x1 x2
  obtain ⟨n, B, k, r, st, w, hb, sn, ln, cnt, hp, hs, he, hbn, hce, hma, hlr, hi0, hi1⟩ := hI
  obtain ⟨rfl, hcnt, rfl, rfl⟩ := hp
  obtain ⟨rfl, rfl, rfl, rfl, rfl, rfl, rfl, rfl, rfl⟩ := he
  obtain ⟨rfl, hn1, hn, rfl, hB1, hB4, rfl, hk, rfl, hr8, hst, hw, hcm, hsn⟩ := hs
  by_cases h1 : inR x1 0 (nI n - 1) = true
  · obtain ⟨s, hs, rfl⟩ := (inR_seat hn1 hn).mp h1
    by_cases h2 : inR x2 0 9 = true
    · obtain ⟨v, hv, rfl⟩ := (inR_nat (b := 9) (by omega)).mp h2
      have hw2 : Wor n (fun j => if j = s then v else w j) (upd v_worths s (nI v)) := upd_at (P := fun j z => z = nI (if j = s then v else w j) ∧ (if j = s then v else w j) ≤ 9) (fun j hj e => by simp only [e, if_false]; exact hw j hj) (by simp only [if_true]; exact ⟨trivial, hv⟩)
      refine ⟨(v_worths s, upd v_worths s (nI v)), (v_worths s, upd v_worths s (nI v)), ?_, ?_, rfl, n, B, k, r, st, (fun j => if j = s then v else w j), hb, sn, ln, cnt, ⟨rfl, hcnt, rfl, rfl⟩, ⟨rfl, hn1, hn, rfl, hB1, hB4, rfl, hk, rfl, hr8, hst, hw2, hcm, hsn⟩, ⟨rfl, rfl, rfl, rfl, rfl, rfl, rfl, rfl, rfl⟩, hbn, hce, hma, hlr, hi0, hi1⟩
      · unfold f_X10_worth
        rw [x_seat, h1, Option.bind_some, if_neg (by decide), x_within, h2, Option.bind_some, if_neg (by decide), nu_get _ (show s < 12 by omega) (by omega), Option.bind_some, nu_set _ _ (show s < 12 by omega) (by omega), Option.bind_some]
      · unfold f_X11_worth
        rw [m_seat, h1, Option.bind_some, if_neg (by decide), show ((0 : Int64)) = (0 : Int32).toInt64 from rfl, show ((9 : Int64)) = (9 : Int32).toInt64 from rfl, m_in, h2, Option.bind_some, if_neg (by decide), nu_get _ (show s < 12 by omega) (by omega), Option.bind_some, nu_set _ _ (show s < 12 by omega) (by omega), Option.bind_some]
    · have h2 : inR x2 0 9 = false := by simpa using h2
      refine ⟨(-2, v_worths), (-2, v_worths), ?_, ?_, rfl, n, B, k, r, st, w, hb, sn, ln, cnt, ⟨rfl, hcnt, rfl, rfl⟩, ⟨rfl, hn1, hn, rfl, hB1, hB4, rfl, hk, rfl, hr8, hst, hw, hcm, hsn⟩, ⟨rfl, rfl, rfl, rfl, rfl, rfl, rfl, rfl, rfl⟩, hbn, hce, hma, hlr, hi0, hi1⟩
      · unfold f_X10_worth
        rw [x_seat, h1, Option.bind_some, if_neg (by decide), x_within, h2, Option.bind_some, if_pos (by decide)]
      · unfold f_X11_worth
        rw [m_seat, h1, Option.bind_some, if_neg (by decide), show ((0 : Int64)) = (0 : Int32).toInt64 from rfl, show ((9 : Int64)) = (9 : Int32).toInt64 from rfl, m_in, h2, Option.bind_some, if_pos (by decide)]
  · have h1 : inR x1 0 (nI n - 1) = false := by simpa using h1
    refine ⟨(-1, v_worths), (-1, v_worths), ?_, ?_, rfl, n, B, k, r, st, w, hb, sn, ln, cnt, ⟨rfl, hcnt, rfl, rfl⟩, ⟨rfl, hn1, hn, rfl, hB1, hB4, rfl, hk, rfl, hr8, hst, hw, hcm, hsn⟩, ⟨rfl, rfl, rfl, rfl, rfl, rfl, rfl, rfl, rfl⟩, hbn, hce, hma, hlr, hi0, hi1⟩
    · unfold f_X10_worth
      rw [x_seat, h1, Option.bind_some, if_pos (by decide)]
    · unfold f_X11_worth
      rw [m_seat, h1, Option.bind_some, if_pos (by decide)]
set_option maxHeartbeats 1000000 in
theorem s_far : St_far Inv := by
  intro v_pad_count v_pad_signs v_scene_seats v_scene_bear v_scene_comerCount v_scene_seenRows v_scene_steps v_scene_worths v_scene_comers v_scene_seen v_scene_seenLengths v_bench_apart v_bench_clash v_bench_neighbours v_trial_apart v_trial_clash v_trial_neighbours v_sitters_set v_sitters_bear v_sitters_nearest v_trialSitters_set v_trialSitters_bear v_trialSitters_nearest v_sets_size v_sets_places v_sets_filled v_sets_open v_sets_chance v_census_least v_census_most v_census_known v_census_wholeSets v_census_orders v_match_known v_match_kind v_match_wicked v_couples_count v_couples_lesser v_couples_greater v_couples_tooNear v_couples_clash v_passing_turnedAway v_passing_parts v_passing_habit v_passing_odds v_longRows_between v_signMany v_seats v_bearIs v_rowsAll v_awayUpper v_lower v_comerMany v_seenRows v_place v_isWriting v_signs v_links v_worths v_far v_mays v_rowsTo v_endIn v_ends v_pairSets v_awayIn v_now v_then v_comers v_seen v_seenMany v_kept v_isKept d0 d1 hI x1 x2
  obtain ⟨n, B, k, r, st, w, hb, sn, ln, cnt, hp, hs, he, hbn, hce, hma, hlr, hi0, hi1⟩ := hI
  obtain ⟨rfl, hcnt, rfl, rfl⟩ := hp
  obtain ⟨rfl, rfl, rfl, rfl, rfl, rfl, rfl, rfl, rfl⟩ := he
  obtain ⟨rfl, hn1, hn, rfl, hB1, hB4, rfl, hk, rfl, hr8, hst, hw, hcm, hsn⟩ := hs
  obtain ⟨hF, hFM, hcl, hnb⟩ := hbn
  by_cases h1 : inR x1 0 (nI n - 1) = true
  · obtain ⟨a, ha, rfl⟩ := (inR_seat hn1 hn).mp h1
    by_cases h2 : inR x2 0 (nI n - 1) = true
    · obtain ⟨b, hb', rfl⟩ := (inR_seat hn1 hn).mp h2
      refine ⟨nI (Dd n (Ef n st 0) a b), nI (Dd n (Ef n st 0) a b), ?_, ?_, rfl, n, B, k, r, st, w, hb, sn, ln, cnt, ⟨rfl, hcnt, rfl, rfl⟩, ⟨rfl, hn1, hn, rfl, hB1, hB4, rfl, hk, rfl, hr8, hst, hw, hcm, hsn⟩, ⟨rfl, rfl, rfl, rfl, rfl, rfl, rfl, rfl, rfl⟩, ⟨hF, hFM, hcl, hnb⟩, hce, hma, hlr, hi0, hi1⟩
      · unfold f_X10_far
        rw [x_seat, h1, Option.bind_some, if_neg (by decide), x_seat, h2, Option.bind_some, if_neg (by decide), x_farness hn hF ha hb', Option.bind_some]
      · unfold f_X11_far
        rw [m_seat, h1, Option.bind_some, if_neg (by decide), m_seat, h2, Option.bind_some, if_neg (by decide), m_at, Option.bind_some, nu_get _ (show 12 * a + b < 144 by omega) (by omega), Option.bind_some, hFM a b ha hb', Option.bind_some]
    · have h2 : inR x2 0 (nI n - 1) = false := by simpa using h2
      refine ⟨-1, -1, ?_, ?_, rfl, n, B, k, r, st, w, hb, sn, ln, cnt, ⟨rfl, hcnt, rfl, rfl⟩, ⟨rfl, hn1, hn, rfl, hB1, hB4, rfl, hk, rfl, hr8, hst, hw, hcm, hsn⟩, ⟨rfl, rfl, rfl, rfl, rfl, rfl, rfl, rfl, rfl⟩, ⟨hF, hFM, hcl, hnb⟩, hce, hma, hlr, hi0, hi1⟩
      · unfold f_X10_far
        rw [x_seat, h1, Option.bind_some, if_neg (by decide), x_seat, h2, Option.bind_some, if_pos (by decide)]
      · unfold f_X11_far
        rw [m_seat, h1, Option.bind_some, if_neg (by decide), m_seat, h2, Option.bind_some, if_pos (by decide), Option.bind_some]
  · have h1 : inR x1 0 (nI n - 1) = false := by simpa using h1
    refine ⟨-1, -1, ?_, ?_, rfl, n, B, k, r, st, w, hb, sn, ln, cnt, ⟨rfl, hcnt, rfl, rfl⟩, ⟨rfl, hn1, hn, rfl, hB1, hB4, rfl, hk, rfl, hr8, hst, hw, hcm, hsn⟩, ⟨rfl, rfl, rfl, rfl, rfl, rfl, rfl, rfl, rfl⟩, ⟨hF, hFM, hcl, hnb⟩, hce, hma, hlr, hi0, hi1⟩
    · unfold f_X10_far
      rw [x_seat, h1, Option.bind_some, if_pos (by decide)]
    · unfold f_X11_far
      rw [m_seat, h1, Option.bind_some, if_pos (by decide), Option.bind_some]
set_option maxHeartbeats 1000000 in
theorem s_come : St_come Inv := by
  intro v_pad_count v_pad_signs v_scene_seats v_scene_bear v_scene_comerCount v_scene_seenRows v_scene_steps v_scene_worths v_scene_comers v_scene_seen v_scene_seenLengths v_bench_apart v_bench_clash v_bench_neighbours v_trial_apart v_trial_clash v_trial_neighbours v_sitters_set v_sitters_bear v_sitters_nearest v_trialSitters_set v_trialSitters_bear v_trialSitters_nearest v_sets_size v_sets_places v_sets_filled v_sets_open v_sets_chance v_census_least v_census_most v_census_known v_census_wholeSets v_census_orders v_match_known v_match_kind v_match_wicked v_couples_count v_couples_lesser v_couples_greater v_couples_tooNear v_couples_clash v_passing_turnedAway v_passing_parts v_passing_habit v_passing_odds v_longRows_between v_signMany v_seats v_bearIs v_rowsAll v_awayUpper v_lower v_comerMany v_seenRows v_place v_isWriting v_signs v_links v_worths v_far v_mays v_rowsTo v_endIn v_ends v_pairSets v_awayIn v_now v_then v_comers v_seen v_seenMany v_kept v_isKept d0 d1 hI x1
  obtain ⟨n, B, k, r, st, w, hb, sn, ln, cnt, hp, hs, he, hbn, hce, hma, hlr, hi0, hi1⟩ := hI
  obtain ⟨rfl, hcnt, rfl, rfl⟩ := hp
  obtain ⟨rfl, rfl, rfl, rfl, rfl, rfl, rfl, rfl, rfl⟩ := he
  obtain ⟨rfl, hn1, hn, rfl, hB1, hB4, rfl, hk, rfl, hr8, hst, hw, hcm, hsn⟩ := hs
  by_cases h1 : inR x1 0 5 = true
  · obtain ⟨h, hh, rfl⟩ := (inR_nat (b := 5) (by omega)).mp h1
    have em : nI (k + 1) - 1 = nI k := nI_pred k
    by_cases hc : k < 12
    · have hcm2 : ∀ i, i < k + 1 → upd v_comers k (nI h) i = nI (if i = k then h else hb i) ∧ (if i = k then h else hb i) < 6 := upd_at (P := fun i z => z = nI (if i = k then h else hb i) ∧ (if i = k then h else hb i) < 6) (fun j hj e => by simp only [e, if_false]; exact hcm j (by omega)) (by simp only [if_true]; exact ⟨trivial, by omega⟩)
      refine ⟨(nI k, nI (k + 1), upd v_comers k (nI h)), (nI k, nI (k + 1), upd v_comers k (nI h)), ?_, ?_, rfl, n, B, k + 1, r, st, w, (fun i => if i = k then h else hb i), sn, ln, cnt, ⟨rfl, hcnt, rfl, rfl⟩, ⟨rfl, hn1, hn, rfl, hB1, hB4, rfl, by omega, rfl, hr8, hst, hw, hcm2, hsn⟩, ⟨rfl, rfl, rfl, rfl, rfl, rfl, rfl, rfl, rfl⟩, hbn, hce, hma, hlr, hi0, hi1⟩
      · unfold f_X10_come
        rw [x_habit, h1, Option.bind_some, if_neg (by decide), if_pos (show nI k < 12 from (nI_ltI (b := 12) (by omega) (by omega)).mpr hc), nu_set _ _ hc (by omega), Option.bind_some, nI_1, em]
      · unfold f_X11_come
        rw [m_habit, h1, Option.bind_some, if_neg (by decide), if_neg (show ¬ nI k = 12 from fun e => by have := (nI_eq (b := 12) (by omega) (by omega)).mp e; omega), nu_set _ _ hc (by omega), Option.bind_some, nI_1, em]
    · have e12 : k = 12 := by omega
      subst e12
      refine ⟨(-4, nI 12, v_comers), (-4, nI 12, v_comers), ?_, ?_, rfl, n, B, 12, r, st, w, hb, sn, ln, cnt, ⟨rfl, hcnt, rfl, rfl⟩, ⟨rfl, hn1, hn, rfl, hB1, hB4, rfl, hk, rfl, hr8, hst, hw, hcm, hsn⟩, ⟨rfl, rfl, rfl, rfl, rfl, rfl, rfl, rfl, rfl⟩, hbn, hce, hma, hlr, hi0, hi1⟩
      · unfold f_X10_come
        rw [x_habit, h1, Option.bind_some, if_neg (by decide), if_neg (by decide)]
      · unfold f_X11_come
        rw [m_habit, h1, Option.bind_some, if_neg (by decide), if_pos (by decide)]
  · have h1 : inR x1 0 5 = false := by simpa using h1
    refine ⟨(-2, nI k, v_comers), (-2, nI k, v_comers), ?_, ?_, rfl, n, B, k, r, st, w, hb, sn, ln, cnt, ⟨rfl, hcnt, rfl, rfl⟩, ⟨rfl, hn1, hn, rfl, hB1, hB4, rfl, hk, rfl, hr8, hst, hw, hcm, hsn⟩, ⟨rfl, rfl, rfl, rfl, rfl, rfl, rfl, rfl, rfl⟩, hbn, hce, hma, hlr, hi0, hi1⟩
    · unfold f_X10_come
      rw [x_habit, h1, Option.bind_some, if_pos (by decide)]
    · unfold f_X11_come
      rw [m_habit, h1, Option.bind_some, if_pos (by decide)]
set_option maxHeartbeats 1000000 in
theorem s_forget : St_forget Inv := by
  intro v_pad_count v_pad_signs v_scene_seats v_scene_bear v_scene_comerCount v_scene_seenRows v_scene_steps v_scene_worths v_scene_comers v_scene_seen v_scene_seenLengths v_bench_apart v_bench_clash v_bench_neighbours v_trial_apart v_trial_clash v_trial_neighbours v_sitters_set v_sitters_bear v_sitters_nearest v_trialSitters_set v_trialSitters_bear v_trialSitters_nearest v_sets_size v_sets_places v_sets_filled v_sets_open v_sets_chance v_census_least v_census_most v_census_known v_census_wholeSets v_census_orders v_match_known v_match_kind v_match_wicked v_couples_count v_couples_lesser v_couples_greater v_couples_tooNear v_couples_clash v_passing_turnedAway v_passing_parts v_passing_habit v_passing_odds v_longRows_between v_signMany v_seats v_bearIs v_rowsAll v_awayUpper v_lower v_comerMany v_seenRows v_place v_isWriting v_signs v_links v_worths v_far v_mays v_rowsTo v_endIn v_ends v_pairSets v_awayIn v_now v_then v_comers v_seen v_seenMany v_kept v_isKept d0 d1 hI 
  obtain ⟨n, B, k, r, st, w, hb, sn, ln, cnt, hp, hs, he, hbn, hce, hma, hlr, hi0, hi1⟩ := hI
  obtain ⟨rfl, hcnt, rfl, rfl⟩ := hp
  obtain ⟨rfl, rfl, rfl, rfl, rfl, rfl, rfl, rfl, rfl⟩ := he
  obtain ⟨rfl, hn1, hn, rfl, hB1, hB4, rfl, hk, rfl, hr8, hst, hw, hcm, hsn⟩ := hs
  exact ⟨(nI k, 0), (nI k, 0), rfl, rfl, rfl, n, B, 0, r, st, w, hb, sn, ln, cnt, ⟨rfl, hcnt, rfl, rfl⟩, ⟨rfl, hn1, hn, rfl, hB1, hB4, rfl, by omega, rfl, hr8, hst, hw, fun i hi => by omega, hsn⟩, ⟨rfl, rfl, rfl, rfl, rfl, rfl, rfl, rfl, rfl⟩, hbn, hce, hma, hlr, hi0, hi1⟩
set_option maxHeartbeats 1000000 in
theorem s_begin : St_begin Inv := by
  intro v_pad_count v_pad_signs v_scene_seats v_scene_bear v_scene_comerCount v_scene_seenRows v_scene_steps v_scene_worths v_scene_comers v_scene_seen v_scene_seenLengths v_bench_apart v_bench_clash v_bench_neighbours v_trial_apart v_trial_clash v_trial_neighbours v_sitters_set v_sitters_bear v_sitters_nearest v_trialSitters_set v_trialSitters_bear v_trialSitters_nearest v_sets_size v_sets_places v_sets_filled v_sets_open v_sets_chance v_census_least v_census_most v_census_known v_census_wholeSets v_census_orders v_match_known v_match_kind v_match_wicked v_couples_count v_couples_lesser v_couples_greater v_couples_tooNear v_couples_clash v_passing_turnedAway v_passing_parts v_passing_habit v_passing_odds v_longRows_between v_signMany v_seats v_bearIs v_rowsAll v_awayUpper v_lower v_comerMany v_seenRows v_place v_isWriting v_signs v_links v_worths v_far v_mays v_rowsTo v_endIn v_ends v_pairSets v_awayIn v_now v_then v_comers v_seen v_seenMany v_kept v_isKept d0 d1 hI 
  obtain ⟨n, B, k, r, st, w, hb, sn, ln, cnt, hp, hs, he, hbn, hce, hma, hlr, hi0, hi1⟩ := hI
  obtain ⟨rfl, hcnt, rfl, rfl⟩ := hp
  obtain ⟨rfl, rfl, rfl, rfl, rfl, rfl, rfl, rfl, rfl⟩ := he
  obtain ⟨rfl, hn1, hn, rfl, hB1, hB4, rfl, hk, rfl, hr8, hst, hw, hcm, hsn⟩ := hs
  have em : nI (r + 1) - 1 = nI r := nI_pred r
  by_cases hc : r < 8
  · have hsn2 : ∀ q, q < r + 1 → upd v_seenMany r 0 q = nI (if q = r then 0 else ln q) ∧ SeenOK n (Dd n (Ef n st 0)) B (fun j => sn (12 * q + j)) (if q = r then 0 else ln q) ∧ ∀ j, j < (if q = r then 0 else ln q) → v_seen (12 * q + j) = nI (sn (12 * q + j)) := upd_at (P := fun q z => z = nI (if q = r then 0 else ln q) ∧ SeenOK n (Dd n (Ef n st 0)) B (fun j => sn (12 * q + j)) (if q = r then 0 else ln q) ∧ ∀ j, j < (if q = r then 0 else ln q) → v_seen (12 * q + j) = nI (sn (12 * q + j))) (fun q hq e => by simp only [e, if_false]; exact hsn q (by omega)) (by
        simp only [if_true]
        exact ⟨rfl, ⟨by omega, fun j hj => by omega⟩, fun j hj => by omega⟩)
    refine ⟨(nI r, nI (r + 1), upd v_seenMany r 0), (nI r, nI (r + 1), upd v_seenMany r 0), ?_, ?_, rfl, n, B, k, r + 1, st, w, hb, sn, (fun q => if q = r then 0 else ln q), cnt, ⟨rfl, hcnt, rfl, rfl⟩, ⟨rfl, hn1, hn, rfl, hB1, hB4, rfl, hk, rfl, by omega, hst, hw, hcm, hsn2⟩, ⟨rfl, rfl, rfl, rfl, rfl, rfl, rfl, rfl, rfl⟩, hbn, hce, hma, hlr, hi0, hi1⟩
    · unfold f_X10_begin
      rw [if_pos (show nI r < 8 from (nI_ltI (b := 8) (by omega) (by omega)).mpr hc), nu_set _ _ hc (by omega), Option.bind_some, nI_1, em]
    · unfold f_X11_begin
      rw [if_neg (show ¬ nI r = 8 from fun e => by have := (nI_eq (b := 8) (by omega) (by omega)).mp e; omega), nu_set _ _ hc (by omega), Option.bind_some, nI_1, em]
  · have e8 : r = 8 := by omega
    subst e8
    refine ⟨(-4, nI 8, v_seenMany), (-4, nI 8, v_seenMany), ?_, ?_, rfl, n, B, k, 8, st, w, hb, sn, ln, cnt, ⟨rfl, hcnt, rfl, rfl⟩, ⟨rfl, hn1, hn, rfl, hB1, hB4, rfl, hk, rfl, hr8, hst, hw, hcm, hsn⟩, ⟨rfl, rfl, rfl, rfl, rfl, rfl, rfl, rfl, rfl⟩, hbn, hce, hma, hlr, hi0, hi1⟩
    · unfold f_X10_begin
      rw [if_neg (by decide)]
    · unfold f_X11_begin
      rw [if_pos (by decide)]
set_option maxHeartbeats 1000000 in
theorem s_told : St_told Inv := by
  intro v_pad_count v_pad_signs v_scene_seats v_scene_bear v_scene_comerCount v_scene_seenRows v_scene_steps v_scene_worths v_scene_comers v_scene_seen v_scene_seenLengths v_bench_apart v_bench_clash v_bench_neighbours v_trial_apart v_trial_clash v_trial_neighbours v_sitters_set v_sitters_bear v_sitters_nearest v_trialSitters_set v_trialSitters_bear v_trialSitters_nearest v_sets_size v_sets_places v_sets_filled v_sets_open v_sets_chance v_census_least v_census_most v_census_known v_census_wholeSets v_census_orders v_match_known v_match_kind v_match_wicked v_couples_count v_couples_lesser v_couples_greater v_couples_tooNear v_couples_clash v_passing_turnedAway v_passing_parts v_passing_habit v_passing_odds v_longRows_between v_signMany v_seats v_bearIs v_rowsAll v_awayUpper v_lower v_comerMany v_seenRows v_place v_isWriting v_signs v_links v_worths v_far v_mays v_rowsTo v_endIn v_ends v_pairSets v_awayIn v_now v_then v_comers v_seen v_seenMany v_kept v_isKept d0 d1 hI x1
  obtain ⟨n, B, k, r, st, w, hb, sn, ln, cnt, hp, hs, he, hbn, hce, hma, hlr, hi0, hi1⟩ := hI
  obtain ⟨rfl, hcnt, rfl, rfl⟩ := hp
  obtain ⟨rfl, rfl, rfl, rfl, rfl, rfl, rfl, rfl, rfl⟩ := he
  obtain ⟨rfl, hn1, hn, rfl, hB1, hB4, rfl, hk, rfl, hr8, hst, hw, hcm, hsn⟩ := hs
  have hI : Inv (nI cnt) v_signs (nI n) (nI B) (nI k) (nI r) v_links v_worths v_comers v_seen v_seenMany v_bench_apart v_bench_clash v_bench_neighbours v_trial_apart v_trial_clash v_trial_neighbours v_sitters_set v_sitters_bear v_sitters_nearest v_trialSitters_set v_trialSitters_bear v_trialSitters_nearest v_sets_size v_sets_places v_sets_filled v_sets_open v_sets_chance v_census_least v_census_most v_census_known v_census_wholeSets v_census_orders v_match_known v_match_kind v_match_wicked v_couples_count v_couples_lesser v_couples_greater v_couples_tooNear v_couples_clash v_passing_turnedAway v_passing_parts v_passing_habit v_passing_odds v_longRows_between (nI cnt) (nI n) (nI B) v_rowsAll v_awayUpper v_lower (nI k) (nI r) v_place v_isWriting v_signs v_links v_worths v_far v_mays v_rowsTo v_endIn v_ends v_pairSets v_awayIn v_now v_then v_comers v_seen v_seenMany v_kept v_isKept d0 d1 := ⟨n, B, k, r, st, w, hb, sn, ln, cnt, ⟨rfl, hcnt, rfl, rfl⟩, ⟨rfl, hn1, hn, rfl, hB1, hB4, rfl, hk, rfl, hr8, hst, hw, hcm, hsn⟩, ⟨rfl, rfl, rfl, rfl, rfl, rfl, rfl, rfl, rfl⟩, hbn, hce, hma, hlr, hi0, hi1⟩
  by_cases c0 : x1 = 0
  · subst c0; exact ⟨nI n, nI n, rfl, rfl, rfl, hI⟩
  by_cases c1 : x1 = 1
  · subst c1; exact ⟨nI B, nI B, rfl, rfl, rfl, hI⟩
  by_cases c2 : x1 = 2
  · subst c2; exact ⟨nI cnt, nI cnt, rfl, rfl, rfl, hI⟩
  by_cases c3 : x1 = 3
  · subst c3; exact ⟨nI k, nI k, rfl, rfl, rfl, hI⟩
  by_cases c4 : x1 = 4
  · subst c4; exact ⟨nI r, nI r, rfl, rfl, rfl, hI⟩
  by_cases h1 : inR x1 10 21 = true
  · by_cases h2 : inR (x1 - 10) 0 (nI n - 1) = true
    · obtain ⟨s, hs, es⟩ := (inR_seat hn1 hn).mp h2
      refine ⟨v_worths s, v_worths s, ?_, ?_, rfl, hI⟩
      · unfold f_X10_told f_X10_worthTold
        rw [if_neg c0, if_neg c1, if_neg c2, if_neg c3, if_neg c4, x_within, h1, Option.bind_some, if_neg (by decide), x_seat, h2, Option.bind_some, if_neg (by decide), es, nu_get _ (show s < 12 by omega) (by omega), Option.bind_some, Option.bind_some, Option.bind_some]
      · unfold f_X11_told
        rw [show ((10 : Int64)) = (10 : Int32).toInt64 from rfl, show ((21 : Int64)) = (21 : Int32).toInt64 from rfl, m_in, h1, Option.bind_some, if_neg (by decide), m_seat, h2, Option.bind_some, if_neg (by decide), es, nu_get _ (show s < 12 by omega) (by omega), Option.bind_some, Option.bind_some]
    · have h2 : inR (x1 - 10) 0 (nI n - 1) = false := by simpa using h2
      refine ⟨-6, -6, ?_, ?_, rfl, hI⟩
      · unfold f_X10_told f_X10_worthTold
        rw [if_neg c0, if_neg c1, if_neg c2, if_neg c3, if_neg c4, x_within, h1, Option.bind_some, if_neg (by decide), x_seat, h2, Option.bind_some, if_pos (by decide), Option.bind_some, Option.bind_some]
      · unfold f_X11_told
        rw [show ((10 : Int64)) = (10 : Int32).toInt64 from rfl, show ((21 : Int64)) = (21 : Int32).toInt64 from rfl, m_in, h1, Option.bind_some, if_neg (by decide), m_seat, h2, Option.bind_some, if_pos (by decide), Option.bind_some]
  · have h1 : inR x1 10 21 = false := by simpa using h1
    refine ⟨-2, -2, ?_, ?_, rfl, hI⟩
    · unfold f_X10_told f_X10_worthTold
      rw [if_neg c0, if_neg c1, if_neg c2, if_neg c3, if_neg c4, x_within, h1, Option.bind_some, if_pos (by decide), Option.bind_some]
    · unfold f_X11_told
      rw [show ((10 : Int64)) = (10 : Int32).toInt64 from rfl, show ((21 : Int64)) = (21 : Int32).toInt64 from rfl, m_in, h1, Option.bind_some, if_pos (by decide), if_neg c0, if_neg c1, if_neg c2, if_neg c3, if_neg c4]
