/-! step: rests -/
section ST15
set_option maxHeartbeats 1000000 in
theorem s_rests : St_rests Inv := by
  intro v_pad_count v_pad_signs v_scene_seats v_scene_bear v_scene_comerCount v_scene_seenRows v_scene_steps v_scene_worths v_scene_comers v_scene_seen v_scene_seenLengths v_bench_apart v_bench_clash v_bench_neighbours v_trial_apart v_trial_clash v_trial_neighbours v_sitters_set v_sitters_bear v_sitters_nearest v_trialSitters_set v_trialSitters_bear v_trialSitters_nearest v_sets_size v_sets_places v_sets_filled v_sets_open v_sets_chance v_census_least v_census_most v_census_known v_census_wholeSets v_census_orders v_match_known v_match_kind v_match_wicked v_couples_count v_couples_lesser v_couples_greater v_couples_tooNear v_couples_clash v_passing_turnedAway v_passing_parts v_passing_habit v_passing_odds v_longRows_between v_signMany v_seats v_bearIs v_rowsAll v_awayUpper v_lower v_comerMany v_seenRows v_place v_isWriting v_signs v_links v_worths v_far v_mays v_rowsTo v_endIn v_ends v_pairSets v_awayIn v_now v_then v_comers v_seen v_seenMany v_kept v_isKept d0 d1 hI x1
  obtain ⟨n, B, k, r, st, w, hb, sn, ln, cnt, hp, hs, he, hbn, hce, hma, hlr, hi0, hi1⟩ := hI
  obtain ⟨rfl, hcnt, rfl, rfl⟩ := hp
  obtain ⟨rfl, rfl, rfl, rfl, rfl, rfl, rfl, rfl, rfl⟩ := he
  obtain ⟨rfl, hn1, hn, rfl, hB1, hB4, rfl, hk, rfl, hr8, hst, hw, hcm, hsn⟩ := hs
  obtain ⟨hF, hFM, hcl, hnb⟩ := hbn
  have hD := Dd_ok (Ef n st 0) hn1 hn
  have hp12 : 2 ^ n ≤ 2 ^ 12 := Nat.pow_le_pow_right (by omega) hn
  have hq11 : 2 ^ (n - 1) ≤ 2 ^ 11 := Nat.pow_le_pow_right (by omega) (by omega)
  by_cases h2 : inR x1 0 3 = true
  · obtain ⟨q, hq, rfl⟩ := (inR_nat (b := 3) (by omega)).mp h2
    have hVb : ∀ m, anyV n B st 479001600 m < 2 ^ 62 := fun m => by
      have := anyV_b (m := m) (st := st) hn1 hn hB1 (show B ≤ 99 by omega) (fac12 ▸ fac_dvd 12 hn) (Nat.le_refl 479001600)
      omega
    obtain ⟨b, ta, tc, tn, sz, pl, fl, fo, ch, ss, sb, sN, b1, b2⟩ := x_places (B := B) (k := q) (V := anyV n B st 479001600) (w := v_worths) (x1 := 6) hn1 hn hq (ctm_lt st (n - 1)) (x_cut hn1 hn hst) (fun m _ => hVb m) (fun m hm ta tc tn sz pl fl fo ch ss sb sn' => by
      obtain ⟨g', g1, g2⟩ := x_measure (B := B) (g := ta) (fc := tc) (fb := tn) (m := m) hn1 hn (show B ≤ 99 by omega) hst hm
      obtain ⟨sz', pl', fl', fo', ch', e⟩ := x_sumOS (fc := fun j => if j < n then nI (clm (Dd n (Ef n st m)) B j n) else tc j) (Dd_ok (Ef n st m) hn1 hn) hB1 (fun i hi => if_pos hi) sz pl fl fo ch
      refine ⟨g', (fun j => if j < n then nI (clm (Dd n (Ef n st m)) B j n) else tc j), (fun j => if j < n then nI (nbr (Dd n (Ef n st m)) j n) else tn j), sz', pl', fl', fo', ch', ss, sb, sn', ?_⟩
      unfold f_X10_worthOfArms
      rw [if_pos rfl, g1, Option.bind_some]
      dsimp only
      rw [e, Option.bind_some]
      rfl) v_trial_apart v_trial_clash v_trial_neighbours v_sets_size v_sets_places v_sets_filled v_sets_open v_sets_chance v_trialSitters_set v_trialSitters_bear v_trialSitters_nearest
    obtain ⟨z1, z2, z3, z4, z5, m1⟩ := m_rests (k := q) (f := v_far) (vm := v_mays) (ve := v_endIn) (vr := v_rowsTo) (ra := v_rowsAll) hn1 hn hB1 (show B ≤ 99 by omega) hst hq
    rw [any_bst hn1 hn hB1, opc_bst hn (fun S => by unfold anyV; rw [Ef_cut]), b1] at m1
    obtain ⟨zf', m2, m3⟩ := m_findFar (f := z2) (m := 0) hn1 hn hst (by omega)
    refine ⟨(nI b, ta, tc, tn, sz, pl, fl, fo, ch, ss, sb, sN), (nI b, z1, zf', z3, z4, z5), ?_, ?_, rfl, n, B, k, r, st, w, hb, sn, ln, cnt, ⟨rfl, hcnt, rfl, rfl⟩, ⟨rfl, hn1, hn, rfl, hB1, hB4, rfl, hk, rfl, hr8, hst, hw, hcm, hsn⟩, ⟨rfl, rfl, rfl, rfl, rfl, rfl, rfl, rfl, rfl⟩, ⟨hF, m3, hcl, hnb⟩, hce, hma, hlr, hi0, hi1⟩
    · unfold f_X10_rests
      rw [x_within, h2, Option.bind_some, if_neg (by decide), b2, Option.bind_some]
    · unfold f_X11_rests
      rw [show f_X11_in (nI q).toInt64 0 3 = _ from m_in (nI q) 0 3, h2, Option.bind_some, if_neg (by decide), m1, Option.bind_some]
      dsimp only
      rw [show f_X11_findFar (nI n) z2 v_links 0 = _ from m2, Option.bind_some]
      rfl
  · have h2 : inR x1 0 3 = false := by simpa using h2
    refine ⟨(-2, v_trial_apart, v_trial_clash, v_trial_neighbours, v_sets_size, v_sets_places, v_sets_filled, v_sets_open, v_sets_chance, v_trialSitters_set, v_trialSitters_bear, v_trialSitters_nearest), (-2, v_rowsAll, v_far, v_mays, v_endIn, v_rowsTo), ?_, ?_, rfl, n, B, k, r, st, w, hb, sn, ln, cnt, ⟨rfl, hcnt, rfl, rfl⟩, ⟨rfl, hn1, hn, rfl, hB1, hB4, rfl, hk, rfl, hr8, hst, hw, hcm, hsn⟩, ⟨rfl, rfl, rfl, rfl, rfl, rfl, rfl, rfl, rfl⟩, ⟨hF, hFM, hcl, hnb⟩, hce, hma, hlr, hi0, hi1⟩
    · unfold f_X10_rests
      rw [x_within, h2, Option.bind_some, if_pos (by decide)]
    · unfold f_X11_rests
      rw [show f_X11_in x1.toInt64 0 3 = _ from m_in x1 0 3, h2, Option.bind_some, if_pos (by decide)]
end ST15
