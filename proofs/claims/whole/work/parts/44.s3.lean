/-! steps: may, takes, fill, bear -/
section ST3
theorem x_sa1 {n B S : Nat} {Dm : Nat → Nat → Nat} {vs vb : Int32} {vn ap : Nat → Int32} (hD : Dok n Dm) (hB : B ≤ 99) (hF : Far n Dm ap) (hS : S < 2 ^ n) (hf : fil n Dm B S) : f_X10_seatAll (nI n) (nI B) vs vb vn ap (nI S) = some (0, nI S, nI B, NF n Dm (fun j => if j < 12 then 99 else vn j) S) := by
  unfold f_X10_seatAll
  rw [x_all hD.1, Option.bind_some, if_pos ((x_bits hD.1).mpr ⟨S, hS, rfl⟩), (x_seatSet hD hB hF hS).1 hf, Option.bind_some, if_neg (show ¬ (1 : Int32) = 0 by decide), Option.bind_some]
theorem x_sa2 {n B S : Nat} {Dm : Nat → Nat → Nat} {vs vb : Int32} {vn ap : Nat → Int32} (hD : Dok n Dm) (hB : B ≤ 99) (hF : Far n Dm ap) (hS : S < 2 ^ n) (hf : ¬ fil n Dm B S) : ∃ a f', f_X10_seatAll (nI n) (nI B) vs vb vn ap (nI S) = some (-3, a, nI B, f') := by
  obtain ⟨a, f', h⟩ := (x_seatSet (f := vn) hD hB hF hS).2 hf
  refine ⟨a, f', ?_⟩
  unfold f_X10_seatAll
  rw [x_all hD.1, Option.bind_some, if_pos ((x_bits hD.1).mpr ⟨S, hS, rfl⟩), h, Option.bind_some, if_pos (show (0 : Int32) = 0 from rfl), Option.bind_some]
theorem x_sa3 {n B : Nat} {x : Int32} {vs vb : Int32} {vn ap : Nat → Int32} (hn : n ≤ 12) (hx : inR x 0 (nI (2 ^ n - 1)) = false) : f_X10_seatAll (nI n) (nI B) vs vb vn ap x = some (-2, vs, vb, vn) := by
  unfold f_X10_seatAll
  rw [x_all hn, Option.bind_some, if_neg (fun h => by
    have := (inR_set hn).mpr ((x_bits hn).mp h)
    rw [hx] at this
    cases this)]
end ST3
set_option maxHeartbeats 1000000 in
theorem s_may : St_may Inv := by
  intro v_pad_count v_pad_signs v_scene_seats v_scene_bear v_scene_comerCount v_scene_seenRows v_scene_steps v_scene_worths v_scene_comers v_scene_seen v_scene_seenLengths v_bench_apart v_bench_clash v_bench_neighbours v_trial_apart v_trial_clash v_trial_neighbours v_sitters_set v_sitters_bear v_sitters_nearest v_trialSitters_set v_trialSitters_bear v_trialSitters_nearest v_sets_size v_sets_places v_sets_filled v_sets_open v_sets_chance v_census_least v_census_most v_census_known v_census_wholeSets v_census_orders v_match_known v_match_kind v_match_wicked v_couples_count v_couples_lesser v_couples_greater v_couples_tooNear v_couples_clash v_passing_turnedAway v_passing_parts v_passing_habit v_passing_odds v_longRows_between v_signMany v_seats v_bearIs v_rowsAll v_awayUpper v_lower v_comerMany v_seenRows v_place v_isWriting v_signs v_links v_worths v_far v_mays v_rowsTo v_endIn v_ends v_pairSets v_awayIn v_now v_then v_comers v_seen v_seenMany v_kept v_isKept d0 d1 hI x1
  obtain ⟨n, B, k, r, st, w, hb, sn, ln, cnt, hp, hs, he, hbn, hce, hma, hlr, hi0, hi1⟩ := hI
  obtain ⟨rfl, hcnt, rfl, rfl⟩ := hp
  obtain ⟨rfl, rfl, rfl, rfl, rfl, rfl, rfl, rfl, rfl⟩ := he
  obtain ⟨rfl, hn1, hn, rfl, hB1, hB4, rfl, hk, rfl, hr8, hst, hw, hcm, hsn⟩ := hs
  obtain ⟨hF, hFM, hcl, hnb⟩ := hbn
  have hD := Dd_ok (Ef n st 0) hn1 hn
  have hp12 : 2 ^ n ≤ 2 ^ 12 := Nat.pow_le_pow_right (by omega) hn
  by_cases h1 : inR x1 0 (nI (2 ^ n - 1)) = true
  · obtain ⟨S, hS, rfl⟩ := (inR_set hn).mp h1
    rcases Classical.em (fil n (Dd n (Ef n st 0)) B S) with hf | hf
    · refine ⟨(nI (opm n (Dd n (Ef n st 0)) B S n), nI S, nI B, NF n (Dd n (Ef n st 0)) (fun j => if j < 12 then 99 else v_sitters_nearest j) S), nI (opm n (Dd n (Ef n st 0)) B S n), ?_, ?_, rfl, n, B, k, r, st, w, hb, sn, ln, cnt, ⟨rfl, hcnt, rfl, rfl⟩, ⟨rfl, hn1, hn, rfl, hB1, hB4, rfl, hk, rfl, hr8, hst, hw, hcm, hsn⟩, ⟨rfl, rfl, rfl, rfl, rfl, rfl, rfl, rfl, rfl⟩, ⟨hF, hFM, hcl, hnb⟩, hce, hma, hlr, hi0, hi1⟩
      · unfold f_X10_may
        rw [x_sa1 hD (by omega) hF hS hf, Option.bind_some, if_pos (show (0 : Int32) = 0 from rfl), x_open hn (by omega) (NF_nea _ _ _ _), Option.bind_some, Option.bind_some]
      · unfold f_X11_may
        rw [m_set hn, h1, Option.bind_some, if_neg (by decide), (m_filled hD hFM (by omega) (by omega)).1 hf, Option.bind_some, if_neg (by decide), m_may hD hFM (by omega) (by omega), Option.bind_some, Option.bind_some]
    · obtain ⟨a, f', h⟩ := x_sa2 (vs := v_sitters_set) (vb := v_sitters_bear) (vn := v_sitters_nearest) hD (show B ≤ 99 by omega) hF hS hf
      refine ⟨(-3, a, nI B, f'), -3, ?_, ?_, rfl, n, B, k, r, st, w, hb, sn, ln, cnt, ⟨rfl, hcnt, rfl, rfl⟩, ⟨rfl, hn1, hn, rfl, hB1, hB4, rfl, hk, rfl, hr8, hst, hw, hcm, hsn⟩, ⟨rfl, rfl, rfl, rfl, rfl, rfl, rfl, rfl, rfl⟩, ⟨hF, hFM, hcl, hnb⟩, hce, hma, hlr, hi0, hi1⟩
      · unfold f_X10_may
        rw [h, Option.bind_some, if_neg (show ¬ (-3 : Int32) = 0 by decide), Option.bind_some]
      · unfold f_X11_may
        rw [m_set hn, h1, Option.bind_some, if_neg (by decide), (m_filled hD hFM (by omega) (by omega)).2 hf, Option.bind_some, if_pos rfl, Option.bind_some]
  · have h1 : inR x1 0 (nI (2 ^ n - 1)) = false := by simpa using h1
    refine ⟨(-2, v_sitters_set, v_sitters_bear, v_sitters_nearest), -2, ?_, ?_, rfl, n, B, k, r, st, w, hb, sn, ln, cnt, ⟨rfl, hcnt, rfl, rfl⟩, ⟨rfl, hn1, hn, rfl, hB1, hB4, rfl, hk, rfl, hr8, hst, hw, hcm, hsn⟩, ⟨rfl, rfl, rfl, rfl, rfl, rfl, rfl, rfl, rfl⟩, ⟨hF, hFM, hcl, hnb⟩, hce, hma, hlr, hi0, hi1⟩
    · unfold f_X10_may
      rw [x_sa3 hn h1, Option.bind_some, if_neg (show ¬ (-2 : Int32) = 0 by decide), Option.bind_some]
    · unfold f_X11_may
      rw [m_set hn, h1, Option.bind_some, if_pos (by decide)]
set_option maxHeartbeats 1000000 in
theorem s_takes : St_takes Inv := by
  intro v_pad_count v_pad_signs v_scene_seats v_scene_bear v_scene_comerCount v_scene_seenRows v_scene_steps v_scene_worths v_scene_comers v_scene_seen v_scene_seenLengths v_bench_apart v_bench_clash v_bench_neighbours v_trial_apart v_trial_clash v_trial_neighbours v_sitters_set v_sitters_bear v_sitters_nearest v_trialSitters_set v_trialSitters_bear v_trialSitters_nearest v_sets_size v_sets_places v_sets_filled v_sets_open v_sets_chance v_census_least v_census_most v_census_known v_census_wholeSets v_census_orders v_match_known v_match_kind v_match_wicked v_couples_count v_couples_lesser v_couples_greater v_couples_tooNear v_couples_clash v_passing_turnedAway v_passing_parts v_passing_habit v_passing_odds v_longRows_between v_signMany v_seats v_bearIs v_rowsAll v_awayUpper v_lower v_comerMany v_seenRows v_place v_isWriting v_signs v_links v_worths v_far v_mays v_rowsTo v_endIn v_ends v_pairSets v_awayIn v_now v_then v_comers v_seen v_seenMany v_kept v_isKept d0 d1 hI x1 x2
  obtain ⟨n, B, k, r, st, w, hb, sn, ln, cnt, hp, hs, he, hbn, hce, hma, hlr, hi0, hi1⟩ := hI
  obtain ⟨rfl, hcnt, rfl, rfl⟩ := hp
  obtain ⟨rfl, rfl, rfl, rfl, rfl, rfl, rfl, rfl, rfl⟩ := he
  obtain ⟨rfl, hn1, hn, rfl, hB1, hB4, rfl, hk, rfl, hr8, hst, hw, hcm, hsn⟩ := hs
  obtain ⟨hF, hFM, hcl, hnb⟩ := hbn
  have hD := Dd_ok (Ef n st 0) hn1 hn
  have hp12 : 2 ^ n ≤ 2 ^ 12 := Nat.pow_le_pow_right (by omega) hn
  by_cases h2 : inR x2 0 5 = true
  · obtain ⟨h, hh, rfl⟩ := (inR_nat (b := 5) (by omega)).mp h2
    by_cases h1 : inR x1 0 (nI (2 ^ n - 1)) = true
    · obtain ⟨S, hS, rfl⟩ := (inR_set hn).mp h1
      rcases Classical.em (fil n (Dd n (Ef n st 0)) B S) with hf | hf
      · refine ⟨(eO32 (tak n (Dd n (Ef n st 0)) B w S h), nI S, nI B, NF n (Dd n (Ef n st 0)) (fun j => if j < 12 then 99 else v_sitters_nearest j) S), eO32 (tak n (Dd n (Ef n st 0)) B w S h), ?_, ?_, rfl, n, B, k, r, st, w, hb, sn, ln, cnt, ⟨rfl, hcnt, rfl, rfl⟩, ⟨rfl, hn1, hn, rfl, hB1, hB4, rfl, hk, rfl, hr8, hst, hw, hcm, hsn⟩, ⟨rfl, rfl, rfl, rfl, rfl, rfl, rfl, rfl, rfl⟩, ⟨hF, hFM, hcl, hnb⟩, hce, hma, hlr, hi0, hi1⟩
        · unfold f_X10_takes
          rw [x_habit, h2, Option.bind_some, if_neg (by decide), x_sa1 hD (by omega) hF hS hf, Option.bind_some, if_pos (show (0 : Int32) = 0 from rfl), x_choice hn (by omega) (NF_nea _ _ _ _) hw hnb (by omega), Option.bind_some, Option.bind_some]
        · unfold f_X11_takes
          rw [m_set hn, h1, Option.bind_some, if_neg (by decide), m_habit, h2, Option.bind_some, if_neg (by decide), (m_filled hD hFM (by omega) (by omega)).1 hf, Option.bind_some, if_neg (by decide), m_taken hD hFM (by omega) hw (by omega) (by omega), Option.bind_some, Option.bind_some]
      · obtain ⟨a, f', h'⟩ := x_sa2 (vs := v_sitters_set) (vb := v_sitters_bear) (vn := v_sitters_nearest) hD (show B ≤ 99 by omega) hF hS hf
        refine ⟨(-3, a, nI B, f'), -3, ?_, ?_, rfl, n, B, k, r, st, w, hb, sn, ln, cnt, ⟨rfl, hcnt, rfl, rfl⟩, ⟨rfl, hn1, hn, rfl, hB1, hB4, rfl, hk, rfl, hr8, hst, hw, hcm, hsn⟩, ⟨rfl, rfl, rfl, rfl, rfl, rfl, rfl, rfl, rfl⟩, ⟨hF, hFM, hcl, hnb⟩, hce, hma, hlr, hi0, hi1⟩
        · unfold f_X10_takes
          rw [x_habit, h2, Option.bind_some, if_neg (by decide), h', Option.bind_some, if_neg (show ¬ (-3 : Int32) = 0 by decide), Option.bind_some]
        · unfold f_X11_takes
          rw [m_set hn, h1, Option.bind_some, if_neg (by decide), m_habit, h2, Option.bind_some, if_neg (by decide), (m_filled hD hFM (by omega) (by omega)).2 hf, Option.bind_some, if_pos rfl, Option.bind_some]
    · have h1 : inR x1 0 (nI (2 ^ n - 1)) = false := by simpa using h1
      refine ⟨(-2, v_sitters_set, v_sitters_bear, v_sitters_nearest), -2, ?_, ?_, rfl, n, B, k, r, st, w, hb, sn, ln, cnt, ⟨rfl, hcnt, rfl, rfl⟩, ⟨rfl, hn1, hn, rfl, hB1, hB4, rfl, hk, rfl, hr8, hst, hw, hcm, hsn⟩, ⟨rfl, rfl, rfl, rfl, rfl, rfl, rfl, rfl, rfl⟩, ⟨hF, hFM, hcl, hnb⟩, hce, hma, hlr, hi0, hi1⟩
      · unfold f_X10_takes
        rw [x_habit, h2, Option.bind_some, if_neg (by decide), x_sa3 hn h1, Option.bind_some, if_neg (show ¬ (-2 : Int32) = 0 by decide), Option.bind_some]
      · unfold f_X11_takes
        rw [m_set hn, h1, Option.bind_some, if_pos (by decide)]
  · have h2 : inR x2 0 5 = false := by simpa using h2
    refine ⟨(-2, v_sitters_set, v_sitters_bear, v_sitters_nearest), -2, ?_, ?_, rfl, n, B, k, r, st, w, hb, sn, ln, cnt, ⟨rfl, hcnt, rfl, rfl⟩, ⟨rfl, hn1, hn, rfl, hB1, hB4, rfl, hk, rfl, hr8, hst, hw, hcm, hsn⟩, ⟨rfl, rfl, rfl, rfl, rfl, rfl, rfl, rfl, rfl⟩, ⟨hF, hFM, hcl, hnb⟩, hce, hma, hlr, hi0, hi1⟩
    · unfold f_X10_takes
      rw [x_habit, h2, Option.bind_some, if_pos (by decide)]
    · unfold f_X11_takes
      rw [m_set hn, Option.bind_some]
      cases hq : inR x1 0 (nI (2 ^ n - 1)) with
      | false => rfl
      | true => rw [if_neg (by decide), m_habit, h2, Option.bind_some, if_pos (by decide)]
set_option maxHeartbeats 1000000 in
theorem s_fill : St_fill Inv := by
  intro v_pad_count v_pad_signs v_scene_seats v_scene_bear v_scene_comerCount v_scene_seenRows v_scene_steps v_scene_worths v_scene_comers v_scene_seen v_scene_seenLengths v_bench_apart v_bench_clash v_bench_neighbours v_trial_apart v_trial_clash v_trial_neighbours v_sitters_set v_sitters_bear v_sitters_nearest v_trialSitters_set v_trialSitters_bear v_trialSitters_nearest v_sets_size v_sets_places v_sets_filled v_sets_open v_sets_chance v_census_least v_census_most v_census_known v_census_wholeSets v_census_orders v_match_known v_match_kind v_match_wicked v_couples_count v_couples_lesser v_couples_greater v_couples_tooNear v_couples_clash v_passing_turnedAway v_passing_parts v_passing_habit v_passing_odds v_longRows_between v_signMany v_seats v_bearIs v_rowsAll v_awayUpper v_lower v_comerMany v_seenRows v_place v_isWriting v_signs v_links v_worths v_far v_mays v_rowsTo v_endIn v_ends v_pairSets v_awayIn v_now v_then v_comers v_seen v_seenMany v_kept v_isKept d0 d1 hI x1 x2
  obtain ⟨n, B, k, r, st, w, hb, sn, ln, cnt, hp, hs, he, hbn, hce, hma, hlr, hi0, hi1⟩ := hI
  obtain ⟨rfl, hcnt, rfl, rfl⟩ := hp
  obtain ⟨rfl, rfl, rfl, rfl, rfl, rfl, rfl, rfl, rfl⟩ := he
  obtain ⟨rfl, hn1, hn, rfl, hB1, hB4, rfl, hk, rfl, hr8, hst, hw, hcm, hsn⟩ := hs
  obtain ⟨hF, hFM, hcl, hnb⟩ := hbn
  have hD := Dd_ok (Ef n st 0) hn1 hn
  have hp12 : 2 ^ n ≤ 2 ^ 12 := Nat.pow_le_pow_right (by omega) hn
  by_cases h2 : inR x2 0 5 = true
  · obtain ⟨h, hh, rfl⟩ := (inR_nat (b := 5) (by omega)).mp h2
    by_cases h1 : inR x1 0 (nI (2 ^ n - 1)) = true
    · obtain ⟨S, hS, rfl⟩ := (inR_set hn).mp h1
      rcases Classical.em (fil n (Dd n (Ef n st 0)) B S) with hf | hf
      · refine ⟨(nI (flf n (Dd n (Ef n st 0)) B w h S), nI (flf n (Dd n (Ef n st 0)) B w h S), nI B, NF n (Dd n (Ef n st 0)) (fun j => if j < 12 then 99 else v_sitters_nearest j) (flf n (Dd n (Ef n st 0)) B w h S)), nI (flf n (Dd n (Ef n st 0)) B w h S), ?_, ?_, rfl, n, B, k, r, st, w, hb, sn, ln, cnt, ⟨rfl, hcnt, rfl, rfl⟩, ⟨rfl, hn1, hn, rfl, hB1, hB4, rfl, hk, rfl, hr8, hst, hw, hcm, hsn⟩, ⟨rfl, rfl, rfl, rfl, rfl, rfl, rfl, rfl, rfl⟩, ⟨hF, hFM, hcl, hnb⟩, hce, hma, hlr, hi0, hi1⟩
        · unfold f_X10_fill
          rw [x_habit, h2, Option.bind_some, if_neg (by decide), x_sa1 hD (by omega) hF hS hf, Option.bind_some, if_pos (show (0 : Int32) = 0 from rfl), x_fillUp hD hB1 (by omega) hF hw hnb (by omega), Option.bind_some]
        · unfold f_X11_fill
          rw [m_set hn, h1, Option.bind_some, if_neg (by decide), m_habit, h2, Option.bind_some, if_neg (by decide), (m_filled hD hFM (by omega) (by omega)).1 hf, Option.bind_some, if_neg (by decide), m_filledBy hD hFM hB1 (by omega) hw (by omega) hS, Option.bind_some, Option.bind_some]
      · obtain ⟨a, f', h'⟩ := x_sa2 (vs := v_sitters_set) (vb := v_sitters_bear) (vn := v_sitters_nearest) hD (show B ≤ 99 by omega) hF hS hf
        refine ⟨(-3, a, nI B, f'), -3, ?_, ?_, rfl, n, B, k, r, st, w, hb, sn, ln, cnt, ⟨rfl, hcnt, rfl, rfl⟩, ⟨rfl, hn1, hn, rfl, hB1, hB4, rfl, hk, rfl, hr8, hst, hw, hcm, hsn⟩, ⟨rfl, rfl, rfl, rfl, rfl, rfl, rfl, rfl, rfl⟩, ⟨hF, hFM, hcl, hnb⟩, hce, hma, hlr, hi0, hi1⟩
        · unfold f_X10_fill
          rw [x_habit, h2, Option.bind_some, if_neg (by decide), h', Option.bind_some, if_neg (show ¬ (-3 : Int32) = 0 by decide)]
        · unfold f_X11_fill
          rw [m_set hn, h1, Option.bind_some, if_neg (by decide), m_habit, h2, Option.bind_some, if_neg (by decide), (m_filled hD hFM (by omega) (by omega)).2 hf, Option.bind_some, if_pos rfl, Option.bind_some]
    · have h1 : inR x1 0 (nI (2 ^ n - 1)) = false := by simpa using h1
      refine ⟨(-2, v_sitters_set, v_sitters_bear, v_sitters_nearest), -2, ?_, ?_, rfl, n, B, k, r, st, w, hb, sn, ln, cnt, ⟨rfl, hcnt, rfl, rfl⟩, ⟨rfl, hn1, hn, rfl, hB1, hB4, rfl, hk, rfl, hr8, hst, hw, hcm, hsn⟩, ⟨rfl, rfl, rfl, rfl, rfl, rfl, rfl, rfl, rfl⟩, ⟨hF, hFM, hcl, hnb⟩, hce, hma, hlr, hi0, hi1⟩
      · unfold f_X10_fill
        rw [x_habit, h2, Option.bind_some, if_neg (by decide), x_sa3 hn h1, Option.bind_some, if_neg (show ¬ (-2 : Int32) = 0 by decide)]
      · unfold f_X11_fill
        rw [m_set hn, h1, Option.bind_some, if_pos (by decide)]
  · have h2 : inR x2 0 5 = false := by simpa using h2
    refine ⟨(-2, v_sitters_set, v_sitters_bear, v_sitters_nearest), -2, ?_, ?_, rfl, n, B, k, r, st, w, hb, sn, ln, cnt, ⟨rfl, hcnt, rfl, rfl⟩, ⟨rfl, hn1, hn, rfl, hB1, hB4, rfl, hk, rfl, hr8, hst, hw, hcm, hsn⟩, ⟨rfl, rfl, rfl, rfl, rfl, rfl, rfl, rfl, rfl⟩, ⟨hF, hFM, hcl, hnb⟩, hce, hma, hlr, hi0, hi1⟩
    · unfold f_X10_fill
      rw [x_habit, h2, Option.bind_some, if_pos (by decide)]
    · unfold f_X11_fill
      rw [m_set hn, Option.bind_some]
      cases hq : inR x1 0 (nI (2 ^ n - 1)) with
      | false => rfl
      | true => rw [if_neg (by decide), m_habit, h2, Option.bind_some, if_pos (by decide)]
set_option maxHeartbeats 1000000 in
theorem s_bear : St_bear Inv := by
  intro v_pad_count v_pad_signs v_scene_seats v_scene_bear v_scene_comerCount v_scene_seenRows v_scene_steps v_scene_worths v_scene_comers v_scene_seen v_scene_seenLengths v_bench_apart v_bench_clash v_bench_neighbours v_trial_apart v_trial_clash v_trial_neighbours v_sitters_set v_sitters_bear v_sitters_nearest v_trialSitters_set v_trialSitters_bear v_trialSitters_nearest v_sets_size v_sets_places v_sets_filled v_sets_open v_sets_chance v_census_least v_census_most v_census_known v_census_wholeSets v_census_orders v_match_known v_match_kind v_match_wicked v_couples_count v_couples_lesser v_couples_greater v_couples_tooNear v_couples_clash v_passing_turnedAway v_passing_parts v_passing_habit v_passing_odds v_longRows_between v_signMany v_seats v_bearIs v_rowsAll v_awayUpper v_lower v_comerMany v_seenRows v_place v_isWriting v_signs v_links v_worths v_far v_mays v_rowsTo v_endIn v_ends v_pairSets v_awayIn v_now v_then v_comers v_seen v_seenMany v_kept v_isKept d0 d1 hI x1
  obtain ⟨n, B, k, r, st, w, hb, sn, ln, cnt, hp, hs, he, hbn, hce, hma, hlr, hi0, hi1⟩ := hI
  obtain ⟨rfl, hcnt, rfl, rfl⟩ := hp
  obtain ⟨rfl, rfl, rfl, rfl, rfl, rfl, rfl, rfl, rfl⟩ := he
  obtain ⟨rfl, hn1, hn, rfl, hB1, hB4, rfl, hk, rfl, hr8, hst, hw, hcm, hsn⟩ := hs
  by_cases h1 : inR x1 1 4 = true
  · have hv : ∃ v, 1 ≤ v ∧ v ≤ 4 ∧ x1 = nI v := by
      have h1' := h1
      unfold inR at h1'
      rw [decide_eq_true_eq] at h1'
      obtain ⟨v, hv, rfl⟩ := (inR_nat (x := x1) (b := 4) (by omega)).mp (by
        unfold inR
        rw [decide_eq_true_eq]
        refine ⟨?_, h1'.2⟩
        have a1 := Int32.le_iff_toInt_le.mp h1'.1
        apply Int32.le_iff_toInt_le.mpr
        have e1 : (1 : Int32).toInt = 1 := by decide
        have e0 : (0 : Int32).toInt = 0 := by decide
        omega)
      have := (nI_leI (a := 1) (b := v) (by omega) (by omega)).mp h1'.1
      exact ⟨v, this, hv, rfl⟩
    obtain ⟨v, hv1, hv4, rfl⟩ := hv
    by_cases hBv : B = v
    · subst hBv
      refine ⟨(nI B, nI B, nI r, v_bench_apart, v_bench_clash, v_bench_neighbours, v_census_known, v_match_known), (nI B, nI B, nI r), ?_, ?_, rfl, n, B, k, r, st, w, hb, sn, ln, cnt, ⟨rfl, hcnt, rfl, rfl⟩, ⟨rfl, hn1, hn, rfl, hB1, hB4, rfl, hk, rfl, hr8, hst, hw, hcm, hsn⟩, ⟨rfl, rfl, rfl, rfl, rfl, rfl, rfl, rfl, rfl⟩, hbn, hce, hma, hlr, hi0, hi1⟩
      · unfold f_X10_bear
        rw [x_within, h1, Option.bind_some, if_neg (by decide), if_pos rfl, Option.bind_some]
      · unfold f_X11_bear
        rw [show ((1 : Int64)) = (1 : Int32).toInt64 from rfl, show ((4 : Int64)) = (4 : Int32).toInt64 from rfl, m_in, h1, Option.bind_some, if_neg (by decide), if_pos rfl, Option.bind_some]
    · obtain ⟨hF, hFM, hcl, hnb⟩ := hbn
      obtain ⟨g', e1, e2⟩ := x_measure (B := v) (g := v_bench_apart) (fc := v_bench_clash) (fb := v_bench_neighbours) (m := 0) hn1 hn (by omega) hst (Nat.pos_of_ne_zero (by simp))
      refine ⟨(nI B, nI v, 0, g', (fun j => if j < n then nI (clm (Dd n (Ef n st 0)) v j n) else v_bench_clash j), (fun j => if j < n then nI (nbr (Dd n (Ef n st 0)) j n) else v_bench_neighbours j), 0, 0), (nI B, nI v, 0), ?_, ?_, rfl, n, v, k, 0, st, w, hb, sn, ln, cnt, ⟨rfl, hcnt, rfl, rfl⟩, ⟨rfl, hn1, hn, rfl, hv1, hv4, rfl, hk, rfl, by omega, hst, hw, hcm, fun q hq => by omega⟩, ⟨rfl, rfl, rfl, rfl, rfl, rfl, rfl, rfl, rfl⟩, ⟨e2, hFM, fun j hj => by simp [hj], fun j hj => by simp [hj]⟩, Or.inl rfl, Or.inl rfl, hlr, hi0, hi1⟩
      · unfold f_X10_bear f_X10_renew
        rw [x_within, h1, Option.bind_some, if_neg (by decide), if_neg (fun e => hBv ((nI_eq (by omega) (by omega)).mp e)), show (0 : Int32) = nI 0 from rfl, e1, Option.bind_some, Option.bind_some, Option.bind_some]
      · unfold f_X11_bear
        rw [show ((1 : Int64)) = (1 : Int32).toInt64 from rfl, show ((4 : Int64)) = (4 : Int32).toInt64 from rfl, m_in, h1, Option.bind_some, if_neg (by decide), if_neg (fun e => hBv ((nI_eq (by omega) (by omega)).mp e).symm), Option.bind_some]
  · have h1 : inR x1 1 4 = false := by simpa using h1
    refine ⟨(-2, nI B, nI r, v_bench_apart, v_bench_clash, v_bench_neighbours, v_census_known, v_match_known), (-2, nI B, nI r), ?_, ?_, rfl, n, B, k, r, st, w, hb, sn, ln, cnt, ⟨rfl, hcnt, rfl, rfl⟩, ⟨rfl, hn1, hn, rfl, hB1, hB4, rfl, hk, rfl, hr8, hst, hw, hcm, hsn⟩, ⟨rfl, rfl, rfl, rfl, rfl, rfl, rfl, rfl, rfl⟩, hbn, hce, hma, hlr, hi0, hi1⟩
    · unfold f_X10_bear
      rw [x_within, h1, Option.bind_some, if_pos (by decide)]
    · unfold f_X11_bear
      rw [show ((1 : Int64)) = (1 : Int32).toInt64 from rfl, show ((4 : Int64)) = (4 : Int32).toInt64 from rfl, m_in, h1, Option.bind_some, if_pos (by decide)]
