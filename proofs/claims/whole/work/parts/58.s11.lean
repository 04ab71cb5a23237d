/-! step: game -/
section ST11
set_option maxHeartbeats 1000000 in
theorem s_game : St_game Inv := by
  intro v_pad_count v_pad_signs v_scene_seats v_scene_bear v_scene_comerCount v_scene_seenRows v_scene_steps v_scene_worths v_scene_comers v_scene_seen v_scene_seenLengths v_bench_apart v_bench_clash v_bench_neighbours v_trial_apart v_trial_clash v_trial_neighbours v_sitters_set v_sitters_bear v_sitters_nearest v_trialSitters_set v_trialSitters_bear v_trialSitters_nearest v_sets_size v_sets_places v_sets_filled v_sets_open v_sets_chance v_census_least v_census_most v_census_known v_census_wholeSets v_census_orders v_match_known v_match_kind v_match_wicked v_couples_count v_couples_lesser v_couples_greater v_couples_tooNear v_couples_clash v_passing_turnedAway v_passing_parts v_passing_habit v_passing_odds v_longRows_between v_signMany v_seats v_bearIs v_rowsAll v_awayUpper v_lower v_comerMany v_seenRows v_place v_isWriting v_signs v_links v_worths v_far v_mays v_rowsTo v_endIn v_ends v_pairSets v_awayIn v_now v_then v_comers v_seen v_seenMany v_kept v_isKept d0 d1 hI x1 x2 x3
  obtain ⟨n, B, k, r, st, w, hb, sn, ln, cnt, hp, hs, he, hbn, hce, hma, hlr, hi0, hi1⟩ := hI
  obtain ⟨rfl, hcnt, rfl, rfl⟩ := hp
  obtain ⟨rfl, rfl, rfl, rfl, rfl, rfl, rfl, rfl, rfl⟩ := he
  obtain ⟨rfl, hn1, hn, rfl, hB1, hB4, rfl, hk, rfl, hr8, hst, hw, hcm, hsn⟩ := hs
  obtain ⟨hF, hFM, hcl, hnb⟩ := hbn
  have hD := Dd_ok (Ef n st 0) hn1 hn
  have hp12 : 2 ^ n ≤ 2 ^ 12 := Nat.pow_le_pow_right (by omega) hn
  by_cases h2 : inR x2 0 1 = true
  · by_cases h3 : inR x3 0 1 = true
    · by_cases h1 : inR x1 0 (nI (2 ^ n - 1)) = true
      · obtain ⟨S, hS, rfl⟩ := (inR_set hn).mp h1
        obtain ⟨t, ht, rfl⟩ := (inR_nat (b := 1) (by omega)).mp h2
        rcases Classical.em (fil n (Dd n (Ef n st 0)) B S) with hf | hf
        · obtain ⟨sz, pl, fl, fo, wi, ki, e1, hM⟩ := x_play (vsz := v_sets_size) (vpl := v_sets_places) (vfl := v_sets_filled) (vfo := v_sets_open) hD hB1 (show B ≤ 99 by omega) hcl hma
          obtain ⟨z, e, a1, a2, a3⟩ := m_ends (vm := v_mays) (ve := v_ends) hD hFM hB1 (show B ≤ 99 by omega)
          obtain ⟨v0, v1⟩ := hM S hS hf
          have hgS := (g_fil hD (show B ≤ 99 by omega)).mpr hf
          have ee := a3 t S ht (Nat.zero_le _) hS hgS
          by_cases hx : x3 = 0
          · refine ⟨(nI (gv n (Dd n (Ef n st 0)) B t S), nI S, nI B, NF n (Dd n (Ef n st 0)) (fun j => if j < 12 then 99 else v_sitters_nearest j) S, 1, sz, pl, fl, fo, wi, ki), (nI (gv n (Dd n (Ef n st 0)) B t S), z, e), ?_, ?_, rfl, n, B, k, r, st, w, hb, sn, ln, cnt, ⟨rfl, hcnt, rfl, rfl⟩, ⟨rfl, hn1, hn, rfl, hB1, hB4, rfl, hk, rfl, hr8, hst, hw, hcm, hsn⟩, ⟨rfl, rfl, rfl, rfl, rfl, rfl, rfl, rfl, rfl⟩, ⟨hF, hFM, hcl, hnb⟩, hce, Or.inr ⟨rfl, hM⟩, hlr, hi0, hi1⟩
            · unfold f_X10_game
              rw [x_within, h2, Option.bind_some, if_neg (by decide), x_within, h3, Option.bind_some, if_neg (by decide), x_sa1 hD (by omega) hF hS hf, Option.bind_some, if_pos rfl, e1, Option.bind_some, if_pos hx, x_result hn ht hS v1 v0, Option.bind_some, Option.bind_some]
            · unfold f_X11_game
              rw [m_set hn, h1, Option.bind_some, if_neg (by decide), show f_X11_in (nI t).toInt64 0 1 = _ from m_in (nI t) 0 1, h2, Option.bind_some, if_neg (by decide), show f_X11_in x3.toInt64 0 1 = _ from m_in x3 0 1, h3, Option.bind_some, if_neg (by decide), (m_filled hD hFM (by omega) (by omega)).1 hf, Option.bind_some, if_neg (by decide), a1, Option.bind_some, t_ix2, nu_get _ (show 4096 * t + S < 8192 by omega) (by omega), Option.bind_some, if_pos hx]
              dsimp only
              rw [ee]
          · refine ⟨((if fa_first (gp1 n (Dd n (Ef n st 0)) B t S) n < n then nI (fa_first (gp1 n (Dd n (Ef n st 0)) B t S) n) else -6), nI S, nI B, NF n (Dd n (Ef n st 0)) (fun j => if j < 12 then 99 else v_sitters_nearest j) S, 1, sz, pl, fl, fo, wi, ki), ((if fa_first (gp1 n (Dd n (Ef n st 0)) B t S) n < n then nI (fa_first (gp1 n (Dd n (Ef n st 0)) B t S) n) else -6), z, e), ?_, ?_, rfl, n, B, k, r, st, w, hb, sn, ln, cnt, ⟨rfl, hcnt, rfl, rfl⟩, ⟨rfl, hn1, hn, rfl, hB1, hB4, rfl, hk, rfl, hr8, hst, hw, hcm, hsn⟩, ⟨rfl, rfl, rfl, rfl, rfl, rfl, rfl, rfl, rfl⟩, ⟨hF, hFM, hcl, hnb⟩, hce, Or.inr ⟨rfl, hM⟩, hlr, hi0, hi1⟩
            · unfold f_X10_game
              rw [x_within, h2, Option.bind_some, if_neg (by decide), x_within, h3, Option.bind_some, if_neg (by decide), x_sa1 hD (by omega) hF hS hf, Option.bind_some, if_pos rfl, e1, Option.bind_some, if_neg hx, x_open hn (by omega) (NF_nea _ _ _ _), Option.bind_some, show f_X4_bestSeat wi ki (nI S) (nI (opm n (Dd n (Ef n st 0)) B S n)) (nI t) = _ from x_best hD hB1 (by omega) ht hS hf hM, Option.bind_some, Option.bind_some]
            · unfold f_X11_game
              rw [m_set hn, h1, Option.bind_some, if_neg (by decide), show f_X11_in (nI t).toInt64 0 1 = _ from m_in (nI t) 0 1, h2, Option.bind_some, if_neg (by decide), show f_X11_in x3.toInt64 0 1 = _ from m_in x3 0 1, h3, Option.bind_some, if_neg (by decide), (m_filled hD hFM (by omega) (by omega)).1 hf, Option.bind_some, if_neg (by decide), a1, Option.bind_some, t_ix2, nu_get _ (show 4096 * t + S < 8192 by omega) (by omega), Option.bind_some, if_neg hx]
              dsimp only
              rw [ee, m_best hD hB1 (by omega) ht hS hf (a2 S hS) a3 n (Nat.le_refl n) FU (-6) (by rw [FU_eq]; omega), Option.bind_some]
        · obtain ⟨a, f', h'⟩ := x_sa2 (vs := v_sitters_set) (vb := v_sitters_bear) (vn := v_sitters_nearest) hD (show B ≤ 99 by omega) hF hS hf
          refine ⟨(-3, a, nI B, f', v_match_known, v_sets_size, v_sets_places, v_sets_filled, v_sets_open, v_match_wicked, v_match_kind), (-3, v_mays, v_ends), ?_, ?_, rfl, n, B, k, r, st, w, hb, sn, ln, cnt, ⟨rfl, hcnt, rfl, rfl⟩, ⟨rfl, hn1, hn, rfl, hB1, hB4, rfl, hk, rfl, hr8, hst, hw, hcm, hsn⟩, ⟨rfl, rfl, rfl, rfl, rfl, rfl, rfl, rfl, rfl⟩, ⟨hF, hFM, hcl, hnb⟩, hce, hma, hlr, hi0, hi1⟩
          · unfold f_X10_game
            rw [x_within, h2, Option.bind_some, if_neg (by decide), x_within, h3, Option.bind_some, if_neg (by decide), h', Option.bind_some, if_neg (show ¬ (-3 : Int32) = 0 by decide)]
          · unfold f_X11_game
            rw [m_set hn, h1, Option.bind_some, if_neg (by decide), show f_X11_in (nI t).toInt64 0 1 = _ from m_in (nI t) 0 1, h2, Option.bind_some, if_neg (by decide), show f_X11_in x3.toInt64 0 1 = _ from m_in x3 0 1, h3, Option.bind_some, if_neg (by decide), (m_filled hD hFM (by omega) (by omega)).2 hf, Option.bind_some, if_pos rfl]
      · have h1 : inR x1 0 (nI (2 ^ n - 1)) = false := by simpa using h1
        refine ⟨(-2, v_sitters_set, v_sitters_bear, v_sitters_nearest, v_match_known, v_sets_size, v_sets_places, v_sets_filled, v_sets_open, v_match_wicked, v_match_kind), (-2, v_mays, v_ends), ?_, ?_, rfl, n, B, k, r, st, w, hb, sn, ln, cnt, ⟨rfl, hcnt, rfl, rfl⟩, ⟨rfl, hn1, hn, rfl, hB1, hB4, rfl, hk, rfl, hr8, hst, hw, hcm, hsn⟩, ⟨rfl, rfl, rfl, rfl, rfl, rfl, rfl, rfl, rfl⟩, ⟨hF, hFM, hcl, hnb⟩, hce, hma, hlr, hi0, hi1⟩
        · unfold f_X10_game
          rw [x_within, h2, Option.bind_some, if_neg (by decide), x_within, h3, Option.bind_some, if_neg (by decide), x_sa3 hn h1, Option.bind_some, if_neg (show ¬ (-2 : Int32) = 0 by decide)]
        · unfold f_X11_game
          rw [m_set hn, h1, Option.bind_some, if_pos (by decide)]
    · have h3 : inR x3 0 1 = false := by simpa using h3
      refine ⟨(-2, v_sitters_set, v_sitters_bear, v_sitters_nearest, v_match_known, v_sets_size, v_sets_places, v_sets_filled, v_sets_open, v_match_wicked, v_match_kind), (-2, v_mays, v_ends), ?_, ?_, rfl, n, B, k, r, st, w, hb, sn, ln, cnt, ⟨rfl, hcnt, rfl, rfl⟩, ⟨rfl, hn1, hn, rfl, hB1, hB4, rfl, hk, rfl, hr8, hst, hw, hcm, hsn⟩, ⟨rfl, rfl, rfl, rfl, rfl, rfl, rfl, rfl, rfl⟩, ⟨hF, hFM, hcl, hnb⟩, hce, hma, hlr, hi0, hi1⟩
      · unfold f_X10_game
        rw [x_within, h2, Option.bind_some, if_neg (by decide), x_within, h3, Option.bind_some, if_pos (by decide)]
      · unfold f_X11_game
        rw [m_set hn, Option.bind_some]
        cases hq : inR x1 0 (nI (2 ^ n - 1)) with
        | false => rfl
        | true => rw [if_neg (by decide), show f_X11_in x2.toInt64 0 1 = _ from m_in x2 0 1, h2, Option.bind_some, if_neg (by decide), show f_X11_in x3.toInt64 0 1 = _ from m_in x3 0 1, h3, Option.bind_some, if_pos (by decide)]
  · have h2 : inR x2 0 1 = false := by simpa using h2
    refine ⟨(-2, v_sitters_set, v_sitters_bear, v_sitters_nearest, v_match_known, v_sets_size, v_sets_places, v_sets_filled, v_sets_open, v_match_wicked, v_match_kind), (-2, v_mays, v_ends), ?_, ?_, rfl, n, B, k, r, st, w, hb, sn, ln, cnt, ⟨rfl, hcnt, rfl, rfl⟩, ⟨rfl, hn1, hn, rfl, hB1, hB4, rfl, hk, rfl, hr8, hst, hw, hcm, hsn⟩, ⟨rfl, rfl, rfl, rfl, rfl, rfl, rfl, rfl, rfl⟩, ⟨hF, hFM, hcl, hnb⟩, hce, hma, hlr, hi0, hi1⟩
    · unfold f_X10_game
      rw [x_within, h2, Option.bind_some, if_pos (by decide)]
    · unfold f_X11_game
      rw [m_set hn, Option.bind_some]
      cases hq : inR x1 0 (nI (2 ^ n - 1)) with
      | false => rfl
      | true => rw [if_neg (by decide), show f_X11_in x2.toInt64 0 1 = _ from m_in x2 0 1, h2, Option.bind_some, if_pos (by decide)]
end ST11
