/-! step: see -/
set_option maxHeartbeats 1000000 in
theorem s_see : St_see Inv := by
  intro v_pad_count v_pad_signs v_scene_seats v_scene_bear v_scene_comerCount v_scene_seenRows v_scene_steps v_scene_worths v_scene_comers v_scene_seen v_scene_seenLengths v_bench_apart v_bench_clash v_bench_neighbours v_trial_apart v_trial_clash v_trial_neighbours v_sitters_set v_sitters_bear v_sitters_nearest v_trialSitters_set v_trialSitters_bear v_trialSitters_nearest v_sets_size v_sets_places v_sets_filled v_sets_open v_sets_chance v_census_least v_census_most v_census_known v_census_wholeSets v_census_orders v_match_known v_match_kind v_match_wicked v_couples_count v_couples_lesser v_couples_greater v_couples_tooNear v_couples_clash v_passing_turnedAway v_passing_parts v_passing_habit v_passing_odds v_longRows_between v_signMany v_seats v_bearIs v_rowsAll v_awayUpper v_lower v_comerMany v_seenRows v_place v_isWriting v_signs v_links v_worths v_far v_mays v_rowsTo v_endIn v_ends v_pairSets v_awayIn v_now v_then v_comers v_seen v_seenMany v_kept v_isKept d0 d1 hI x1
  obtain ⟨n, B, k, r, st, w, hb, sn, ln, cnt, hp, hs, he, hbn, hce, hma, hlr, hi0, hi1⟩ := hI
  obtain ⟨rfl, hcnt, rfl, rfl⟩ := hp
  obtain ⟨rfl, rfl, rfl, rfl, rfl, rfl, rfl, rfl, rfl⟩ := he
  obtain ⟨rfl, hn1, hn, rfl, hB1, hB4, rfl, hk, rfl, hr8, hst, hw, hcm, hsn⟩ := hs
  obtain ⟨hF, hFM, hcl, hnb⟩ := hbn
  have hD := Dd_ok (Ef n st 0) hn1 hn
  have hp12 : 2 ^ n ≤ 2 ^ 12 := Nat.pow_le_pow_right (by omega) hn
  by_cases h1 : inR x1 0 (nI n - 1) = true
  · obtain ⟨s, hs, rfl⟩ := (inR_seat hn1 hn).mp h1
    by_cases h0 : r = 0
    · subst h0
      refine ⟨(-3, v_sitters_set, v_sitters_bear, v_sitters_nearest, v_seenMany, v_seen), (-3, v_seenMany, v_seen), ?_, ?_, rfl, n, B, k, 0, st, w, hb, sn, ln, cnt, ⟨rfl, hcnt, rfl, rfl⟩, ⟨rfl, hn1, hn, rfl, hB1, hB4, rfl, hk, rfl, hr8, hst, hw, hcm, hsn⟩, ⟨rfl, rfl, rfl, rfl, rfl, rfl, rfl, rfl, rfl⟩, ⟨hF, hFM, hcl, hnb⟩, hce, hma, hlr, hi0, hi1⟩
      · unfold f_X10_see
        rw [x_seat, h1, Option.bind_some, if_neg (show ¬ b32 true = 0 by decide), if_pos (show nI 0 = 0 from rfl)]
      · unfold f_X11_see
        rw [m_seat, h1, Option.bind_some, if_neg (show ¬ b32 true = 0 by decide), if_pos (show nI 0 = 0 from rfl)]
    · obtain ⟨q, rfl⟩ : ∃ q, r = q + 1 := ⟨r - 1, by omega⟩
      have hq8 : q < 8 := by omega
      obtain ⟨e1, e2, e3⟩ := hsn q (by omega)
      have hrow : ∀ j, j < ln q → sn (12 * q + j) < n ∧ v_seen (12 * q + j) = nI (sn (12 * q + j)) := fun j hj => ⟨(e2.2 j hj).1, e3 j hj⟩
      have em : nI (q + 1) - 1 = nI q := nI_pred q
      have hq0 : ¬ nI (q + 1) = 0 := fun e => by have := (nI_eq (b := 0) (by omega) (by omega)).mp e; omega
      have hx : f_X10_seatSeenRow (nI n) (nI B) v_sitters_nearest v_seenMany v_seen v_bench_apart (nI q) = some (nI (rset (fun j => sn (12 * q + j)) (ln q)), nI B, NF n (Dd n (Ef n st 0)) (fun j => if j < 12 then 99 else v_sitters_nearest j) (rset (fun j => sn (12 * q + j)) (ln q))) := by
        unfold f_X10_seatSeenRow
        rw [x_leaveN hD, Option.bind_some]
        dsimp only
        rw [x_seenrow (row := fun j => sn (12 * q + j)) hD hF hq8 e2.1 e1 hrow, Option.bind_some]
      have hm := m_seenset (row := fun j => sn (12 * q + j)) hq8 e2.1 hn hrow
      have hlt : rset (fun j => sn (12 * q + j)) (ln q) < 2 ^ n := rset_lt (ln q) (fun j hj => (hrow j hj).1)
      by_cases ho : B ≤ aw (Dd n (Ef n st 0)) (rset (fun j => sn (12 * q + j)) (ln q)) s n
      · have hl : ln q < 12 := by
          have a1 := rset_pc hD hB1 e2 (ln q) (Nat.le_refl _)
          have a2 := pc_or (aw_out hD hB1 hs ho) n
          rw [a1, if_pos hs] at a2
          have a3 := pc_le (rset (fun j => sn (12 * q + j)) (ln q) ||| 2 ^ s) n
          omega
        have hsn2 : ∀ p, p < q + 1 → upd v_seenMany q (nI (ln q + 1)) p = nI (if p = q then ln q + 1 else ln p) ∧ SeenOK n (Dd n (Ef n st 0)) B (fun j => (fun j => if j = 12 * q + ln q then s else sn j) (12 * p + j)) (if p = q then ln q + 1 else ln p) ∧ ∀ j, j < (if p = q then ln q + 1 else ln p) → upd v_seen (12 * q + ln q) (nI s) (12 * p + j) = nI ((fun j => if j = 12 * q + ln q then s else sn j) (12 * p + j)) := by
          intro p hp
          by_cases hpq : p = q
          · subst hpq
            have hc : ∀ m, m ≤ ln p → rset (fun j => if 12 * p + j = 12 * p + ln p then s else sn (12 * p + j)) m = rset (fun j => sn (12 * p + j)) m := fun m hm => rset_congr m (fun j hj => by rw [if_neg (by omega)])
            simp only [if_true]
            refine ⟨by simp [upd], ⟨by omega, fun j hj => ?_⟩, fun j hj => ?_⟩
            · dsimp only
              rw [hc j (by omega)]
              by_cases hj2 : j = ln p
              · subst hj2
                rw [if_pos rfl]
                exact ⟨hs, ho⟩
              · rw [if_neg (by omega)]
                exact e2.2 j (by omega)
            · by_cases hj2 : j = ln p
              · subst hj2
                simp [upd]
              · rw [if_neg (by omega)]
                unfold upd
                rw [if_neg (by omega)]
                exact e3 j (by omega)
          · obtain ⟨b1, b2, b3⟩ := hsn p (by omega)
            have hne : ∀ j, j < ln p → 12 * p + j ≠ 12 * q + ln q := fun j hj => by have := b2.1; omega
            have hc : ∀ m, m ≤ ln p → rset (fun j => if 12 * p + j = 12 * q + ln q then s else sn (12 * p + j)) m = rset (fun j => sn (12 * p + j)) m := fun m hm => rset_congr m (fun j hj => by rw [if_neg (hne j (by omega))])
            simp only [hpq, if_false]
            refine ⟨?_, ⟨b2.1, fun j hj => ?_⟩, fun j hj => ?_⟩
            · unfold upd; rw [if_neg hpq]; exact b1
            · dsimp only
              rw [hc j (by omega), if_neg (hne j hj)]; exact b2.2 j hj
            · rw [if_neg (hne j hj)]
              unfold upd
              rw [if_neg (hne j hj)]
              exact b3 j hj
        refine ⟨(nI (ln q + 1), nI (rset (fun j => sn (12 * q + j)) (ln q)), nI B, NF n (Dd n (Ef n st 0)) (fun j => if j < 12 then 99 else v_sitters_nearest j) (rset (fun j => sn (12 * q + j)) (ln q)), upd v_seenMany q (nI (ln q + 1)), upd v_seen (12 * q + ln q) (nI s)), (nI (ln q + 1), upd v_seenMany q (nI (ln q + 1)), upd v_seen (12 * q + ln q) (nI s)), ?_, ?_, rfl, n, B, k, q + 1, st, w, hb, (fun j => if j = 12 * q + ln q then s else sn j), (fun p => if p = q then ln q + 1 else ln p), cnt, ⟨rfl, hcnt, rfl, rfl⟩, ⟨rfl, hn1, hn, rfl, hB1, hB4, rfl, hk, rfl, hr8, hst, hw, hcm, hsn2⟩, ⟨rfl, rfl, rfl, rfl, rfl, rfl, rfl, rfl, rfl⟩, ⟨hF, hFM, hcl, hnb⟩, hce, hma, hlr, hi0, hi1⟩
        · unfold f_X10_see
          rw [x_seat, h1, Option.bind_some, if_neg (show ¬ b32 true = 0 by decide), if_neg hq0, em, hx, Option.bind_some]
          dsimp only
          rw [x_isOpen hn (by omega) (NF_nea _ _ _ _) hs, Option.bind_some, if_pos ho, if_neg (show ¬ (1 : Int32) = 0 by decide)]
          unfold f_X7_noteSeen
          rw [nu_get _ hq8 (by omega), Option.bind_some, e1, if_pos (show nI (ln q) < 12 from (nI_ltI (b := 12) (by omega) (by omega)).mpr hl), nu_ix, nu_set _ _ (show q * 12 + ln q < 96 by omega) (by omega), Option.bind_some, nI_1, nu_set _ _ hq8 (by omega), Option.bind_some, Option.bind_some]
          dsimp only
          rw [if_neg (show ¬ (1 : Int32) = 0 by decide), nu_get _ hq8 (by omega), Option.bind_some, Option.bind_some, show q * 12 + ln q = 12 * q + ln q by omega, show upd v_seenMany q (nI (ln q + 1)) q = nI (ln q + 1) by simp [upd]]
        · unfold f_X11_see
          rw [m_seat, h1, Option.bind_some, if_neg (show ¬ b32 true = 0 by decide), if_neg hq0, em, nu_get _ hq8 (by omega), Option.bind_some, e1, hm, Option.bind_some, m_may hD hFM (by omega) (by omega), Option.bind_some]
          rw [if_neg (show ¬ (nI (opm n (Dd n (Ef n st 0)) B (rset (fun j => sn (12 * q + j)) (ln q)) n) >>> (nI s &&& 31)) &&& 1 = 0 from fun e => by
            have := (nu_bit0 (by have := opm_lt n (Dd n (Ef n st 0)) B (rset (fun j => sn (12 * q + j)) (ln q)) n; omega) (by omega)).mp e
            rw [opm_bit] at this
            simp [hs, ho] at this)]
          rw [Option.bind_some, nu_ix', nu_set _ _ (show 12 * q + ln q < 96 by omega) (by omega), Option.bind_some, Option.bind_some, nI_1, nu_set _ _ hq8 (by omega), Option.bind_some, nu_get _ hq8 (by omega), Option.bind_some, show upd v_seenMany q (nI (ln q + 1)) q = nI (ln q + 1) by simp [upd]]
      · refine ⟨(-5, nI (rset (fun j => sn (12 * q + j)) (ln q)), nI B, NF n (Dd n (Ef n st 0)) (fun j => if j < 12 then 99 else v_sitters_nearest j) (rset (fun j => sn (12 * q + j)) (ln q)), v_seenMany, v_seen), (-5, v_seenMany, v_seen), ?_, ?_, rfl, n, B, k, q + 1, st, w, hb, sn, ln, cnt, ⟨rfl, hcnt, rfl, rfl⟩, ⟨rfl, hn1, hn, rfl, hB1, hB4, rfl, hk, rfl, hr8, hst, hw, hcm, hsn⟩, ⟨rfl, rfl, rfl, rfl, rfl, rfl, rfl, rfl, rfl⟩, ⟨hF, hFM, hcl, hnb⟩, hce, hma, hlr, hi0, hi1⟩
        · unfold f_X10_see
          rw [x_seat, h1, Option.bind_some, if_neg (show ¬ b32 true = 0 by decide), if_neg hq0, em, hx, Option.bind_some]
          dsimp only
          rw [x_isOpen hn (by omega) (NF_nea _ _ _ _) hs, Option.bind_some, if_neg ho, if_pos (show (0 : Int32) = 0 from rfl)]
        · unfold f_X11_see
          rw [m_seat, h1, Option.bind_some, if_neg (show ¬ b32 true = 0 by decide), if_neg hq0, em, nu_get _ hq8 (by omega), Option.bind_some, e1, hm, Option.bind_some, m_may hD hFM (by omega) (by omega), Option.bind_some]
          rw [if_pos (show (nI (opm n (Dd n (Ef n st 0)) B (rset (fun j => sn (12 * q + j)) (ln q)) n) >>> (nI s &&& 31)) &&& 1 = 0 from (nu_bit0 (by have := opm_lt n (Dd n (Ef n st 0)) B (rset (fun j => sn (12 * q + j)) (ln q)) n; omega) (by omega)).mpr (by rw [opm_bit]; simp [ho]))]
  · have h1 : inR x1 0 (nI n - 1) = false := by simpa using h1
    refine ⟨(-1, v_sitters_set, v_sitters_bear, v_sitters_nearest, v_seenMany, v_seen), (-1, v_seenMany, v_seen), ?_, ?_, rfl, n, B, k, r, st, w, hb, sn, ln, cnt, ⟨rfl, hcnt, rfl, rfl⟩, ⟨rfl, hn1, hn, rfl, hB1, hB4, rfl, hk, rfl, hr8, hst, hw, hcm, hsn⟩, ⟨rfl, rfl, rfl, rfl, rfl, rfl, rfl, rfl, rfl⟩, ⟨hF, hFM, hcl, hnb⟩, hce, hma, hlr, hi0, hi1⟩
    · unfold f_X10_see
      rw [x_seat, h1, Option.bind_some, if_pos (show b32 false = 0 by decide)]
    · unfold f_X11_see
      rw [m_seat, h1, Option.bind_some, if_pos (show b32 false = 0 by decide)]
