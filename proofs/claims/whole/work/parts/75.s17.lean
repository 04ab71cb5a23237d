/-! steps: image, restore -/
section ST17
set_option maxHeartbeats 1000000 in
theorem s_image : St_image Inv := by
  intro v_pad_count v_pad_signs v_scene_seats v_scene_bear v_scene_comerCount v_scene_seenRows v_scene_steps v_scene_worths v_scene_comers v_scene_seen v_scene_seenLengths v_bench_apart v_bench_clash v_bench_neighbours v_trial_apart v_trial_clash v_trial_neighbours v_sitters_set v_sitters_bear v_sitters_nearest v_trialSitters_set v_trialSitters_bear v_trialSitters_nearest v_sets_size v_sets_places v_sets_filled v_sets_open v_sets_chance v_census_least v_census_most v_census_known v_census_wholeSets v_census_orders v_match_known v_match_kind v_match_wicked v_couples_count v_couples_lesser v_couples_greater v_couples_tooNear v_couples_clash v_passing_turnedAway v_passing_parts v_passing_habit v_passing_odds v_longRows_between v_signMany v_seats v_bearIs v_rowsAll v_awayUpper v_lower v_comerMany v_seenRows v_place v_isWriting v_signs v_links v_worths v_far v_mays v_rowsTo v_endIn v_ends v_pairSets v_awayIn v_now v_then v_comers v_seen v_seenMany v_kept v_isKept d0 d1 hI x1
  obtain ⟨n, B, k, r, st, w, hb, sn, ln, cnt, hp, hs, he, hbn, hce, hma, hlr, hi0, hi1⟩ := hI
  obtain ⟨rfl, hcnt, rfl, rfl⟩ := hp
  obtain ⟨rfl, rfl, rfl, rfl, rfl, rfl, rfl, rfl, rfl⟩ := he
  obtain ⟨rfl, hn1, hn, rfl, hB1, hB4, rfl, hk, rfl, hr8, hst, hw, hcm, hsn⟩ := hs
  obtain ⟨hF, hFM, hcl, hnb⟩ := hbn
  have hD := Dd_ok (Ef n st 0) hn1 hn
  have hp12 : 2 ^ n ≤ 2 ^ 12 := Nat.pow_le_pow_right (by omega) hn
  have hSC : SC n B k r st w hb sn ln (nI n) (nI B) (nI k) (nI r) v_links v_worths v_comers v_seen v_seenMany := ⟨rfl, hn1, hn, rfl, hB1, hB4, rfl, hk, rfl, hr8, hst, hw, hcm, hsn⟩
  refine ⟨?_, ?_, ?_⟩
  · intro h0
    have h1 : inR x1 0 1 = false := by
      rw [x_within] at h0
      cases hx : inR x1 0 1 with
      | false => rfl
      | true =>
        rw [hx] at h0
        exact absurd (Option.some.inj h0) (by decide)
    refine ⟨(-2, nI n, nI B, nI k, nI r, v_place, v_isWriting, v_kept, v_links, v_worths, v_comers, v_seenMany, v_seen, v_isKept), ?_, rfl, n, B, k, r, st, w, hb, sn, ln, cnt, ⟨rfl, hcnt, rfl, rfl⟩, ⟨rfl, hn1, hn, rfl, hB1, hB4, rfl, hk, rfl, hr8, hst, hw, hcm, hsn⟩, ⟨rfl, rfl, rfl, rfl, rfl, rfl, rfl, rfl, rfl⟩, ⟨hF, hFM, hcl, hnb⟩, hce, hma, hlr, hi0, hi1⟩
    unfold f_X11_image
    rw [show f_X11_in x1.toInt64 0 1 = _ from m_in x1 0 1, h1, Option.bind_some, if_pos (by decide)]
  · intro hx
    subst hx
    refine ⟨(1, nI n, nI B, nI k, nI r, nI (200 * 0 + 144), 1, (kpt (200 * 0) (200 * 0 + 144) (tgt (200 * 0) (nI n) (nI B) (nI k) (nI r) v_links v_worths v_comers v_seenMany v_seen) v_kept), v_links, v_worths, v_comers, v_seenMany, v_seen, upd v_isKept 0 1), ?_, rfl, fun d => ?_, ?_⟩
    · unfold f_X11_image
      rw [show f_X11_in (0 : Int32).toInt64 0 1 = _ from m_in 0 0 1, show inR (0 : Int32) 0 1 = true by decide, Option.bind_some, if_neg (by decide), show (200 : Int32) * 0 = nI (200 * 0) from rfl, m_allW (by omega), Option.bind_some, show asetI 2 v_isKept 0 1 = _ from nu_set v_isKept 1 (show 0 < 2 by omega) (by omega), Option.bind_some]
    · refine ⟨(1, nI n, nI B, nI k, nI r, cpF 12 v_links d.2.2.2.2.1, cpF 12 v_worths d.2.2.2.2.2.1, cpF 12 v_comers d.2.2.2.2.2.2.1, cpF 96 v_seen d.2.2.2.2.2.2.2.1, cpF 8 v_seenMany d.2.2.2.2.2.2.2.2), ?_, rfl, n, B, k, r, st, w, hb, sn, ln, cnt, ⟨rfl, hcnt, rfl, rfl⟩, ⟨rfl, hn1, hn, rfl, hB1, hB4, rfl, hk, rfl, hr8, hst, hw, hcm, hsn⟩, ⟨rfl, rfl, rfl, rfl, rfl, rfl, rfl, rfl, rfl⟩, ⟨hF, hFM, hcl, hnb⟩, hce, hma, hlr, img_new d.2.2.2.2.1 d.2.2.2.2.2.1 d.2.2.2.2.2.2.1 d.2.2.2.2.2.2.2.1 d.2.2.2.2.2.2.2.2 hSC, img_out hi1 (fun x h1 h2 => if_neg (by omega)) (show upd v_isKept 0 1 1 = v_isKept 1 from pk_un (by omega))⟩
      unfold f_X10_image_some
      rw [x_within, show inR (0 : Int32) 0 1 = true by decide, Option.bind_some, if_neg (by decide), x_copy, Option.bind_some]
    · refine ⟨(nI n, nI B, nI k, nI r, cpF 12 v_links (fun _ => 0), cpF 12 v_worths (fun _ => 0), cpF 12 v_comers (fun _ => 0), cpF 96 v_seen (fun _ => 0), cpF 8 v_seenMany (fun _ => 0)), ?_, n, B, k, r, st, w, hb, sn, ln, cnt, ⟨rfl, hcnt, rfl, rfl⟩, ⟨rfl, hn1, hn, rfl, hB1, hB4, rfl, hk, rfl, hr8, hst, hw, hcm, hsn⟩, ⟨rfl, rfl, rfl, rfl, rfl, rfl, rfl, rfl, rfl⟩, ⟨hF, hFM, hcl, hnb⟩, hce, hma, hlr, img_new (fun _ => 0) (fun _ => 0) (fun _ => 0) (fun _ => 0) (fun _ => 0) hSC, img_out hi1 (fun x h1 h2 => if_neg (by omega)) (show upd v_isKept 0 1 1 = v_isKept 1 from pk_un (by omega))⟩
      unfold f_X10_image_new f_X7_init
      rw [x_within, Option.bind_some, Option.bind_some, x_copy, Option.bind_some]
  · intro hx
    subst hx
    refine ⟨(1, nI n, nI B, nI k, nI r, nI (200 * 1 + 144), 1, (kpt (200 * 1) (200 * 1 + 144) (tgt (200 * 1) (nI n) (nI B) (nI k) (nI r) v_links v_worths v_comers v_seenMany v_seen) v_kept), v_links, v_worths, v_comers, v_seenMany, v_seen, upd v_isKept 1 1), ?_, rfl, fun d => ?_, ?_⟩
    · unfold f_X11_image
      rw [show f_X11_in (1 : Int32).toInt64 0 1 = _ from m_in 1 0 1, show inR (1 : Int32) 0 1 = true by decide, Option.bind_some, if_neg (by decide), show (200 : Int32) * 1 = nI (200 * 1) from rfl, m_allW (by omega), Option.bind_some, show asetI 2 v_isKept 1 1 = _ from nu_set v_isKept 1 (show 1 < 2 by omega) (by omega), Option.bind_some]
    · refine ⟨(1, nI n, nI B, nI k, nI r, cpF 12 v_links d.2.2.2.2.1, cpF 12 v_worths d.2.2.2.2.2.1, cpF 12 v_comers d.2.2.2.2.2.2.1, cpF 96 v_seen d.2.2.2.2.2.2.2.1, cpF 8 v_seenMany d.2.2.2.2.2.2.2.2), ?_, rfl, n, B, k, r, st, w, hb, sn, ln, cnt, ⟨rfl, hcnt, rfl, rfl⟩, ⟨rfl, hn1, hn, rfl, hB1, hB4, rfl, hk, rfl, hr8, hst, hw, hcm, hsn⟩, ⟨rfl, rfl, rfl, rfl, rfl, rfl, rfl, rfl, rfl⟩, ⟨hF, hFM, hcl, hnb⟩, hce, hma, hlr, img_out hi0 (fun x h1 h2 => if_neg (by omega)) (show upd v_isKept 1 1 0 = v_isKept 0 from pk_un (by omega)), img_new d.2.2.2.2.1 d.2.2.2.2.2.1 d.2.2.2.2.2.2.1 d.2.2.2.2.2.2.2.1 d.2.2.2.2.2.2.2.2 hSC⟩
      unfold f_X10_image_some
      rw [x_within, show inR (1 : Int32) 0 1 = true by decide, Option.bind_some, if_neg (by decide), x_copy, Option.bind_some]
    · refine ⟨(nI n, nI B, nI k, nI r, cpF 12 v_links (fun _ => 0), cpF 12 v_worths (fun _ => 0), cpF 12 v_comers (fun _ => 0), cpF 96 v_seen (fun _ => 0), cpF 8 v_seenMany (fun _ => 0)), ?_, n, B, k, r, st, w, hb, sn, ln, cnt, ⟨rfl, hcnt, rfl, rfl⟩, ⟨rfl, hn1, hn, rfl, hB1, hB4, rfl, hk, rfl, hr8, hst, hw, hcm, hsn⟩, ⟨rfl, rfl, rfl, rfl, rfl, rfl, rfl, rfl, rfl⟩, ⟨hF, hFM, hcl, hnb⟩, hce, hma, hlr, img_out hi0 (fun x h1 h2 => if_neg (by omega)) (show upd v_isKept 1 1 0 = v_isKept 0 from pk_un (by omega)), img_new (fun _ => 0) (fun _ => 0) (fun _ => 0) (fun _ => 0) (fun _ => 0) hSC⟩
      unfold f_X10_image_new f_X7_init
      rw [x_within, Option.bind_some, Option.bind_some, x_copy, Option.bind_some]
theorem cpF_eq {N : Nat} {f g h : Nat → Int32} {j : Nat} (e : j < N → f j = g j) : cpF N f h j = cpF N g h j := by
  unfold cpF
  by_cases hj : j < N
  · rw [if_pos hj, if_pos hj, e hj]
  · rw [if_neg hj, if_neg hj]
set_option maxHeartbeats 1000000 in
theorem s_restore : St_restore Inv := by
  intro v_pad_count v_pad_signs v_scene_seats v_scene_bear v_scene_comerCount v_scene_seenRows v_scene_steps v_scene_worths v_scene_comers v_scene_seen v_scene_seenLengths v_bench_apart v_bench_clash v_bench_neighbours v_trial_apart v_trial_clash v_trial_neighbours v_sitters_set v_sitters_bear v_sitters_nearest v_trialSitters_set v_trialSitters_bear v_trialSitters_nearest v_sets_size v_sets_places v_sets_filled v_sets_open v_sets_chance v_census_least v_census_most v_census_known v_census_wholeSets v_census_orders v_match_known v_match_kind v_match_wicked v_couples_count v_couples_lesser v_couples_greater v_couples_tooNear v_couples_clash v_passing_turnedAway v_passing_parts v_passing_habit v_passing_odds v_longRows_between v_signMany v_seats v_bearIs v_rowsAll v_awayUpper v_lower v_comerMany v_seenRows v_place v_isWriting v_signs v_links v_worths v_far v_mays v_rowsTo v_endIn v_ends v_pairSets v_awayIn v_now v_then v_comers v_seen v_seenMany v_kept v_isKept d0 d1 hI x1
  obtain ⟨n, B, k, r, st, w, hb, sn, ln, cnt, hp, hs, he, hbn, hce, hma, hlr, hi0, hi1⟩ := hI
  obtain ⟨rfl, hcnt, rfl, rfl⟩ := hp
  obtain ⟨rfl, rfl, rfl, rfl, rfl, rfl, rfl, rfl, rfl⟩ := he
  obtain ⟨rfl, hn1, hn, rfl, hB1, hB4, rfl, hk, rfl, hr8, hst, hw, hcm, hsn⟩ := hs
  obtain ⟨hF, hFM, hcl, hnb⟩ := hbn
  have hD := Dd_ok (Ef n st 0) hn1 hn
  have hp12 : 2 ^ n ≤ 2 ^ 12 := Nat.pow_le_pow_right (by omega) hn
  refine ⟨?_, ?_, ?_⟩
  · intro h0
    have h1 : inR x1 0 1 = false := by
      rw [x_within] at h0
      cases hx : inR x1 0 1 with
      | false => rfl
      | true =>
        rw [hx] at h0
        exact absurd (Option.some.inj h0) (by decide)
    refine ⟨(-2, nI n, nI B, nI k, nI r, v_place, v_isWriting, v_kept, v_links, v_worths, v_comers, v_seenMany, v_seen, v_far), ?_, rfl, n, B, k, r, st, w, hb, sn, ln, cnt, ⟨rfl, hcnt, rfl, rfl⟩, ⟨rfl, hn1, hn, rfl, hB1, hB4, rfl, hk, rfl, hr8, hst, hw, hcm, hsn⟩, ⟨rfl, rfl, rfl, rfl, rfl, rfl, rfl, rfl, rfl⟩, ⟨hF, hFM, hcl, hnb⟩, hce, hma, hlr, hi0, hi1⟩
    unfold f_X11_restore
    rw [show f_X11_in x1.toInt64 0 1 = _ from m_in x1 0 1, h1, Option.bind_some, if_pos (by decide)]
  · intro hh
    rcases hh with ⟨hx, hd⟩ | ⟨hx, hd⟩
    · subst hx
      subst hd
      have hk1 : v_isKept 0 = 0 := hi0
      refine ⟨(-3, nI n, nI B, nI k, nI r, v_place, v_isWriting, v_kept, v_links, v_worths, v_comers, v_seenMany, v_seen, v_far), ?_, rfl, n, B, k, r, st, w, hb, sn, ln, cnt, ⟨rfl, hcnt, rfl, rfl⟩, ⟨rfl, hn1, hn, rfl, hB1, hB4, rfl, hk, rfl, hr8, hst, hw, hcm, hsn⟩, ⟨rfl, rfl, rfl, rfl, rfl, rfl, rfl, rfl, rfl⟩, ⟨hF, hFM, hcl, hnb⟩, hce, hma, hlr, hi0, hi1⟩
      unfold f_X11_restore
      rw [show f_X11_in (0 : Int32).toInt64 0 1 = _ from m_in 0 0 1, show inR (0 : Int32) 0 1 = true by decide, Option.bind_some, if_neg (by decide), show aget 2 v_isKept 0 = _ from nu_get v_isKept (show 0 < 2 by omega) (by omega), Option.bind_some, hk1, if_pos rfl]
    · subst hx
      subst hd
      have hk1 : v_isKept 1 = 0 := hi1
      refine ⟨(-3, nI n, nI B, nI k, nI r, v_place, v_isWriting, v_kept, v_links, v_worths, v_comers, v_seenMany, v_seen, v_far), ?_, rfl, n, B, k, r, st, w, hb, sn, ln, cnt, ⟨rfl, hcnt, rfl, rfl⟩, ⟨rfl, hn1, hn, rfl, hB1, hB4, rfl, hk, rfl, hr8, hst, hw, hcm, hsn⟩, ⟨rfl, rfl, rfl, rfl, rfl, rfl, rfl, rfl, rfl⟩, ⟨hF, hFM, hcl, hnb⟩, hce, hma, hlr, hi0, hi1⟩
      unfold f_X11_restore
      rw [show f_X11_in (1 : Int32).toInt64 0 1 = _ from m_in 1 0 1, show inR (1 : Int32) 0 1 = true by decide, Option.bind_some, if_neg (by decide), show aget 2 v_isKept 1 = _ from nu_get v_isKept (show 1 < 2 by omega) (by omega), Option.bind_some, hk1, if_pos rfl]
  · intro d hh
    obtain ⟨ds, db, dc, dr, dst, dw, dco, dse, dsl⟩ := d
    rcases hh with ⟨hx, hd⟩ | ⟨hx, hd⟩
    · subst hx
      subst hd
      obtain ⟨hk1, ⟨n', B', k', r', st', w', hb', sn', ln', hsc⟩, p0, p1, p2, p3, p4, p5, p6⟩ := id hi0
      obtain ⟨a1, a2, a3, a4, a5, a6, a7, a8, a9, a10, a11, a12, a13, a14⟩ := id hsc
      dsimp only at a1 a4 a7 a9 p0 p1 p2 p3 p4 p5 p6
      subst a1; subst a4; subst a7; subst a9
      have hsc' : SC n' B' k' r' st' w' hb' sn' ln' (nI n') (nI B') (nI k') (nI r') (cpF 12 dst v_links) (cpF 12 dw v_worths) (cpF 12 dco v_comers) (cpF 96 dse v_seen) (cpF 8 dsl v_seenMany) := SC_cp hsc (fun i hi => cpF_lt hi) (fun i hi => cpF_lt hi) (fun i hi => cpF_lt hi) (fun i hi => cpF_lt hi) (fun i hi => cpF_lt hi)
      have hst' := hsc'.2.2.2.2.2.2.2.2.2.2.1
      obtain ⟨g', g1, g2⟩ := x_measure (B := B') (g := v_bench_apart) (fc := v_bench_clash) (fb := v_bench_neighbours) (m := 0) a2 a3 (by omega) hst' (Nat.pos_of_ne_zero (by simp))
      obtain ⟨far', m1, m2⟩ := m_findFar (f := v_far) (m := 0) a2 a3 hst' (by omega)
      have e1 : cpF 12 (fun j => v_kept (200 * 0 + 4 + 3 * j)) v_links = cpF 12 dst v_links := by
        funext j
        exact cpF_eq (fun hj => (p4 j hj).1)
      have e2 : cpF 12 (fun j => v_kept (200 * 0 + 5 + 3 * j)) v_worths = cpF 12 dw v_worths := by
        funext j
        exact cpF_eq (fun hj => (p4 j hj).2.1)
      have e3 : cpF 12 (fun j => v_kept (200 * 0 + 6 + 3 * j)) v_comers = cpF 12 dco v_comers := by
        funext j
        exact cpF_eq (fun hj => (p4 j hj).2.2)
      have e4 : cpF 8 (fun j => v_kept (200 * 0 + 40 + j)) v_seenMany = cpF 8 dsl v_seenMany := by
        funext j
        exact cpF_eq (fun hj => p5 j hj)
      have e5 : cpF 96 (fun j => v_kept (200 * 0 + 48 + j)) v_seen = cpF 96 dse v_seen := by
        funext j
        exact cpF_eq (fun hj => p6 j hj)
      refine ⟨(1, nI n', nI B', nI k', nI r', cpF 12 dst v_links, cpF 12 dw v_worths, cpF 12 dco v_comers, cpF 96 dse v_seen, cpF 8 dsl v_seenMany, g', (fun j => if j < n' then nI (clm (Dd n' (Ef n' st' 0)) B' j n') else v_bench_clash j), (fun j => if j < n' then nI (nbr (Dd n' (Ef n' st' 0)) j n') else v_bench_neighbours j), 0, 0), (1, nI n', nI B', nI k', nI r', nI (200 * 0 + 144), 0, v_kept, cpF 12 dst v_links, cpF 12 dw v_worths, cpF 12 dco v_comers, cpF 8 dsl v_seenMany, cpF 96 dse v_seen, far'), ?_, ?_, rfl, n', B', k', r', st', w', hb', sn', ln', cnt, ⟨rfl, hcnt, rfl, rfl⟩, hsc', ⟨rfl, rfl, rfl, rfl, rfl, rfl, rfl, rfl, rfl⟩, ⟨g2, m2, fun j hj => by simp [hj], fun j hj => by simp [hj]⟩, Or.inl rfl, Or.inl rfl, hlr, hi0, hi1⟩
      · unfold f_X10_restore_some f_X10_renew
        rw [x_within, show inR (0 : Int32) 0 1 = true by decide, Option.bind_some, if_neg (by decide), x_copy, Option.bind_some]
        dsimp only
        rw [show f_X0_measure (nI n') (nI B') v_bench_apart (cpF 12 dst v_links) v_bench_clash v_bench_neighbours 0 = _ from g1, Option.bind_some, Option.bind_some]
      · unfold f_X11_restore
        rw [show f_X11_in (0 : Int32).toInt64 0 1 = _ from m_in 0 0 1, show inR (0 : Int32) 0 1 = true by decide, Option.bind_some, if_neg (by decide), show aget 2 v_isKept 0 = _ from nu_get v_isKept (show 0 < 2 by omega) (by omega), Option.bind_some, hk1, if_neg (by decide), show (200 : Int32) * 0 = nI (200 * 0) from rfl, m_allR (by omega), Option.bind_some]
        dsimp only
        rw [e1, e2, e3, e4, e5, p0, p1, p2, p3, show f_X11_findFar (nI n') v_far (cpF 12 dst v_links) 0 = _ from m1, Option.bind_some]
    · subst hx
      subst hd
      obtain ⟨hk1, ⟨n', B', k', r', st', w', hb', sn', ln', hsc⟩, p0, p1, p2, p3, p4, p5, p6⟩ := id hi1
      obtain ⟨a1, a2, a3, a4, a5, a6, a7, a8, a9, a10, a11, a12, a13, a14⟩ := id hsc
      dsimp only at a1 a4 a7 a9 p0 p1 p2 p3 p4 p5 p6
      subst a1; subst a4; subst a7; subst a9
      have hsc' : SC n' B' k' r' st' w' hb' sn' ln' (nI n') (nI B') (nI k') (nI r') (cpF 12 dst v_links) (cpF 12 dw v_worths) (cpF 12 dco v_comers) (cpF 96 dse v_seen) (cpF 8 dsl v_seenMany) := SC_cp hsc (fun i hi => cpF_lt hi) (fun i hi => cpF_lt hi) (fun i hi => cpF_lt hi) (fun i hi => cpF_lt hi) (fun i hi => cpF_lt hi)
      have hst' := hsc'.2.2.2.2.2.2.2.2.2.2.1
      obtain ⟨g', g1, g2⟩ := x_measure (B := B') (g := v_bench_apart) (fc := v_bench_clash) (fb := v_bench_neighbours) (m := 0) a2 a3 (by omega) hst' (Nat.pos_of_ne_zero (by simp))
      obtain ⟨far', m1, m2⟩ := m_findFar (f := v_far) (m := 0) a2 a3 hst' (by omega)
      have e1 : cpF 12 (fun j => v_kept (200 * 1 + 4 + 3 * j)) v_links = cpF 12 dst v_links := by
        funext j
        exact cpF_eq (fun hj => (p4 j hj).1)
      have e2 : cpF 12 (fun j => v_kept (200 * 1 + 5 + 3 * j)) v_worths = cpF 12 dw v_worths := by
        funext j
        exact cpF_eq (fun hj => (p4 j hj).2.1)
      have e3 : cpF 12 (fun j => v_kept (200 * 1 + 6 + 3 * j)) v_comers = cpF 12 dco v_comers := by
        funext j
        exact cpF_eq (fun hj => (p4 j hj).2.2)
      have e4 : cpF 8 (fun j => v_kept (200 * 1 + 40 + j)) v_seenMany = cpF 8 dsl v_seenMany := by
        funext j
        exact cpF_eq (fun hj => p5 j hj)
      have e5 : cpF 96 (fun j => v_kept (200 * 1 + 48 + j)) v_seen = cpF 96 dse v_seen := by
        funext j
        exact cpF_eq (fun hj => p6 j hj)
      refine ⟨(1, nI n', nI B', nI k', nI r', cpF 12 dst v_links, cpF 12 dw v_worths, cpF 12 dco v_comers, cpF 96 dse v_seen, cpF 8 dsl v_seenMany, g', (fun j => if j < n' then nI (clm (Dd n' (Ef n' st' 0)) B' j n') else v_bench_clash j), (fun j => if j < n' then nI (nbr (Dd n' (Ef n' st' 0)) j n') else v_bench_neighbours j), 0, 0), (1, nI n', nI B', nI k', nI r', nI (200 * 1 + 144), 0, v_kept, cpF 12 dst v_links, cpF 12 dw v_worths, cpF 12 dco v_comers, cpF 8 dsl v_seenMany, cpF 96 dse v_seen, far'), ?_, ?_, rfl, n', B', k', r', st', w', hb', sn', ln', cnt, ⟨rfl, hcnt, rfl, rfl⟩, hsc', ⟨rfl, rfl, rfl, rfl, rfl, rfl, rfl, rfl, rfl⟩, ⟨g2, m2, fun j hj => by simp [hj], fun j hj => by simp [hj]⟩, Or.inl rfl, Or.inl rfl, hlr, hi0, hi1⟩
      · unfold f_X10_restore_some f_X10_renew
        rw [x_within, show inR (1 : Int32) 0 1 = true by decide, Option.bind_some, if_neg (by decide), x_copy, Option.bind_some]
        dsimp only
        rw [show f_X0_measure (nI n') (nI B') v_bench_apart (cpF 12 dst v_links) v_bench_clash v_bench_neighbours 0 = _ from g1, Option.bind_some, Option.bind_some]
      · unfold f_X11_restore
        rw [show f_X11_in (1 : Int32).toInt64 0 1 = _ from m_in 1 0 1, show inR (1 : Int32) 0 1 = true by decide, Option.bind_some, if_neg (by decide), show aget 2 v_isKept 1 = _ from nu_get v_isKept (show 1 < 2 by omega) (by omega), Option.bind_some, hk1, if_neg (by decide), show (200 : Int32) * 1 = nI (200 * 1) from rfl, m_allR (by omega), Option.bind_some]
        dsimp only
        rw [e1, e2, e3, e4, e5, p0, p1, p2, p3, show f_X11_findFar (nI n') v_far (cpF 12 dst v_links) 0 = _ from m1, Option.bind_some]
end ST17
