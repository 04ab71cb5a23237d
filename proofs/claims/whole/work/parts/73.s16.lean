/-! steps: minutes, away -/
section ST16
theorem x_let2 {n B : Nat} {vs vb ha : Int32} {vn ap wo ne : Nat → Int32} {ta pa : Int64} {od : Nat → Int64} {x1 x2 x3 x4 : Int32} (hn : n ≤ 12) (hg : inR x2 0 5 = true → inR x3 1 3 = true → inR x4 0 1 = true → inR x1 0 (nI (2 ^ n - 1)) = false) : f_X10_letPass (nI n) (nI B) vs vb vn ap ta pa ha od wo ne x1 x2 x3 x4 = some (-2, vs, vb, vn, ta, pa, ha, od) := by
  unfold f_X10_letPass
  rw [x_habit, Option.bind_some]
  cases h2 : inR x2 0 5 with
  | false => rw [if_pos (by decide)]
  | true =>
    rw [if_neg (by decide), x_within, Option.bind_some]
    cases h3 : inR x3 1 3 with
    | false => rw [if_pos (by decide)]
    | true =>
      rw [if_neg (by decide), x_within, Option.bind_some]
      cases h4 : inR x4 0 1 with
      | false => rw [if_pos (by decide)]
      | true => rw [if_neg (by decide), x_sa3 hn (hg h2 h3 h4), Option.bind_some, if_neg (show ¬ (-2 : Int32) = 0 by decide), Option.bind_some]
theorem x_let3 {n B S : Nat} {Dm : Nat → Nat → Nat} {vs vb ha : Int32} {vn ap wo ne : Nat → Int32} {ta pa : Int64} {od : Nat → Int64} {x2 x3 x4 : Int32} (hD : Dok n Dm) (hB : B ≤ 99) (hF : Far n Dm ap) (hS : S < 2 ^ n) (hf : ¬ fil n Dm B S) (h2 : inR x2 0 5 = true) (h3 : inR x3 1 3 = true) (h4 : inR x4 0 1 = true) : ∃ a f', f_X10_letPass (nI n) (nI B) vs vb vn ap ta pa ha od wo ne (nI S) x2 x3 x4 = some (-3, a, nI B, f', ta, pa, ha, od) := by
  obtain ⟨a, f', h'⟩ := x_sa2 (vs := vs) (vb := vb) (vn := vn) hD hB hF hS hf
  refine ⟨a, f', ?_⟩
  unfold f_X10_letPass
  rw [x_habit, h2, Option.bind_some, if_neg (by decide), x_within, h3, Option.bind_some, if_neg (by decide), x_within, h4, Option.bind_some, if_neg (by decide), h', Option.bind_some, if_neg (show ¬ (-3 : Int32) = 0 by decide), Option.bind_some]
theorem x_let0 {n B S h M : Nat} {Dm : Nat → Nat → Nat} {w : Nat → Nat} {vs vb ha : Int32} {vn ap wo ne : Nat → Int32} {ta pa : Int64} {od : Nat → Int64} {x4 : Int32} (hD : Dok n Dm) (hB : B ≤ 99) (hF : Far n Dm ap) (hw : Wor n w wo) (hnb : Nbs n Dm ne) (hS : S < 2 ^ n) (hf : fil n Dm B S) (hh : h < 6) (hM : M ≤ 3) (h2 : inR (nI h) 0 5 = true) (h3 : inR (nI M) 1 3 = true) (h4 : inR x4 0 1 = true) : ∃ a b f' od', f_X10_letPass (nI n) (nI B) vs vb vn ap ta pa ha od wo ne (nI S) (nI h) (nI M) x4 = some (0, a, b, f', lN (aF n Dm B w h M S), lN (55440 ^ M), nI h, od') ∧ ∀ c, c ≤ 12 → od' c = lN (pF n Dm B w h (ind c) M S) := by
  obtain ⟨ss', sb', sn', vo', e1, e2⟩ := x_start (w := w) hD hB hF hw hnb hh hS hf hM od (nI S) (nI B) (NF n Dm (fun j => if j < 12 then 99 else vn j) S)
  refine ⟨ss', sb', sn', vo', ?_, e2⟩
  unfold f_X10_letPass
  rw [x_habit, h2, Option.bind_some, if_neg (by decide), x_within, h3, Option.bind_some, if_neg (by decide), x_within, h4, Option.bind_some, if_neg (by decide), x_sa1 hD hB hF hS hf, Option.bind_some, if_pos rfl, e1, Option.bind_some, Option.bind_some]
theorem m_ref2 {n B : Nat} {f : Nat → Int32} {x1 x2 x3 x4 x5 : Int32} (hn : n ≤ 12) (hg : inR x1 0 (nI (2 ^ n - 1)) = true → inR x2 0 5 = true → inR x3 1 3 = true → inR x4 0 12 = true → inR x5 0 1 = false) : f_X11_refuseMinutes (nI n) (nI B) f x1 x2 x3 x4 x5 = some (-2) := by
  unfold f_X11_refuseMinutes
  rw [m_set hn, Option.bind_some]
  cases h1 : inR x1 0 (nI (2 ^ n - 1)) with
  | false => rw [if_pos (by decide)]
  | true =>
    rw [if_neg (by decide), m_habit, Option.bind_some]
    cases h2 : inR x2 0 5 with
    | false => rw [if_pos (by decide)]
    | true =>
      rw [if_neg (by decide), show f_X11_in x3.toInt64 1 3 = _ from m_in x3 1 3, Option.bind_some]
      cases h3 : inR x3 1 3 with
      | false => rw [if_pos (by decide)]
      | true =>
        rw [if_neg (by decide), show f_X11_in x4.toInt64 0 12 = _ from m_in x4 0 12, Option.bind_some]
        cases h4 : inR x4 0 12 with
        | false => rw [if_pos (by decide)]
        | true => rw [if_neg (by decide), m_part, hg h1 h2 h3 h4, Option.bind_some, if_pos (by decide)]
theorem m_ref1 {n B S : Nat} {Dm : Nat → Nat → Nat} {f : Nat → Int32} {x2 x3 x4 x5 : Int32} (hD : Dok n Dm) (hF : FarM n Dm f) (hB : B ≤ 99) (hS : S < 2 ^ n) (h2 : inR x2 0 5 = true) (h3 : inR x3 1 3 = true) (h4 : inR x4 0 12 = true) (h5 : inR x5 0 1 = true) : (fil n Dm B S → f_X11_refuseMinutes (nI n) (nI B) f (nI S) x2 x3 x4 x5 = some 0) ∧ (¬ fil n Dm B S → f_X11_refuseMinutes (nI n) (nI B) f (nI S) x2 x3 x4 x5 = some (-3)) := by
  have hn := hD.1
  have hp12 : 2 ^ n ≤ 2 ^ 12 := Nat.pow_le_pow_right (by omega) hn
  have h1 : inR (nI S) 0 (nI (2 ^ n - 1)) = true := (inR_set hn).mpr ⟨S, hS, rfl⟩
  constructor
  · intro hf
    unfold f_X11_refuseMinutes
    rw [m_set hn, h1, Option.bind_some, if_neg (by decide), m_habit, h2, Option.bind_some, if_neg (by decide), show f_X11_in x3.toInt64 1 3 = _ from m_in x3 1 3, h3, Option.bind_some, if_neg (by decide), show f_X11_in x4.toInt64 0 12 = _ from m_in x4 0 12, h4, Option.bind_some, if_neg (by decide), m_part, h5, Option.bind_some, if_neg (by decide), (m_filled hD hF hB (by omega)).1 hf, Option.bind_some, if_neg (by decide), Option.bind_some]
  · intro hf
    unfold f_X11_refuseMinutes
    rw [m_set hn, h1, Option.bind_some, if_neg (by decide), m_habit, h2, Option.bind_some, if_neg (by decide), show f_X11_in x3.toInt64 1 3 = _ from m_in x3 1 3, h3, Option.bind_some, if_neg (by decide), show f_X11_in x4.toInt64 0 12 = _ from m_in x4 0 12, h4, Option.bind_some, if_neg (by decide), m_part, h5, Option.bind_some, if_neg (by decide), (m_filled hD hF hB (by omega)).2 hf, Option.bind_some, if_pos rfl, Option.bind_some]
end ST16
set_option maxHeartbeats 1000000 in
theorem s_minutes : St_minutes Inv := by
  intro v_pad_count v_pad_signs v_scene_seats v_scene_bear v_scene_comerCount v_scene_seenRows v_scene_steps v_scene_worths v_scene_comers v_scene_seen v_scene_seenLengths v_bench_apart v_bench_clash v_bench_neighbours v_trial_apart v_trial_clash v_trial_neighbours v_sitters_set v_sitters_bear v_sitters_nearest v_trialSitters_set v_trialSitters_bear v_trialSitters_nearest v_sets_size v_sets_places v_sets_filled v_sets_open v_sets_chance v_census_least v_census_most v_census_known v_census_wholeSets v_census_orders v_match_known v_match_kind v_match_wicked v_couples_count v_couples_lesser v_couples_greater v_couples_tooNear v_couples_clash v_passing_turnedAway v_passing_parts v_passing_habit v_passing_odds v_longRows_between v_signMany v_seats v_bearIs v_rowsAll v_awayUpper v_lower v_comerMany v_seenRows v_place v_isWriting v_signs v_links v_worths v_far v_mays v_rowsTo v_endIn v_ends v_pairSets v_awayIn v_now v_then v_comers v_seen v_seenMany v_kept v_isKept d0 d1 hI x1 x2 x3 x4 x5
  obtain ⟨n, B, k, r, st, w, hb, sn, ln, cnt, hp, hs, he, hbn, hce, hma, hlr, hi0, hi1⟩ := hI
  obtain ⟨rfl, hcnt, rfl, rfl⟩ := hp
  obtain ⟨rfl, rfl, rfl, rfl, rfl, rfl, rfl, rfl, rfl⟩ := he
  obtain ⟨rfl, hn1, hn, rfl, hB1, hB4, rfl, hk, rfl, hr8, hst, hw, hcm, hsn⟩ := hs
  obtain ⟨hF, hFM, hcl, hnb⟩ := hbn
  have hD := Dd_ok (Ef n st 0) hn1 hn
  have hp12 : 2 ^ n ≤ 2 ^ 12 := Nat.pow_le_pow_right (by omega) hn
  by_cases h4 : inR x4 0 12 = true
  · by_cases hg : inR x1 0 (nI (2 ^ n - 1)) = true ∧ inR x2 0 5 = true ∧ inR x3 1 3 = true ∧ inR x5 0 1 = true
    · obtain ⟨h1, h2, h3, h5⟩ := hg
      obtain ⟨S, hS, rfl⟩ := (inR_set hn).mp h1
      obtain ⟨h, hh, rfl⟩ := (inR_nat (b := 5) (by omega)).mp h2
      obtain ⟨M, hM1, hM, rfl⟩ := (inR_n1 (b := 3) (by omega)).mp h3
      obtain ⟨c, hc, rfl⟩ := (inR_nat (b := 12) (by omega)).mp h4
      have hpw : 55440 ^ M ≤ 55440 ^ 3 := Nat.pow_le_pow_right (by omega) hM
      have hpos : 0 < 55440 ^ M := Nat.pow_pos (by omega)
      rcases Classical.em (fil n (Dd n (Ef n st 0)) B S) with hf | hf
      · obtain ⟨a, b, f', od', e1, e2⟩ := x_let0 (w := w) (vs := v_sitters_set) (vb := v_sitters_bear) (ha := v_passing_habit) (vn := v_sitters_nearest) (ta := v_passing_turnedAway) (pa := v_passing_parts) (od := v_passing_odds) hD (show B ≤ 99 by omega) hF hw hnb hS hf (show h < 6 by omega) hM h2 h3 h5
        obtain ⟨y1, y2, f, m1, m2, m3⟩ := m_minutes (w := w) (vn := v_now) (vt := v_then) hD hFM (show B ≤ 99 by omega) hw (show h < 6 by omega) hS hM
        have hle := pF_le (n := n) (Dm := (Dd n (Ef n st 0))) (B := B) (w := w) (h := h) (ind_le c) M S
        refine ⟨(lN (lowN (pF n (Dd n (Ef n st 0)) B w h (ind c) M S) (55440 ^ M) x5), a, b, f', lN (aF n (Dd n (Ef n st 0)) B w h M S), lN (55440 ^ M), nI h, od'), (lN (lowN (pF n (Dd n (Ef n st 0)) B w h (ind c) M S) (55440 ^ M) x5), lN (aF n (Dd n (Ef n st 0)) B w h M S), lN (55440 ^ M), y1, y2), ?_, ?_, rfl, n, B, k, r, st, w, hb, sn, ln, cnt, ⟨rfl, hcnt, rfl, rfl⟩, ⟨rfl, hn1, hn, rfl, hB1, hB4, rfl, hk, rfl, hr8, hst, hw, hcm, hsn⟩, ⟨rfl, rfl, rfl, rfl, rfl, rfl, rfl, rfl, rfl⟩, ⟨hF, hFM, hcl, hnb⟩, hce, hma, hlr, hi0, hi1⟩
        · unfold f_X10_minutes
          rw [x_within, h4, Option.bind_some, if_neg (by decide), e1, Option.bind_some, if_pos rfl, nu_get _ (show c < 13 by omega) (by omega), Option.bind_some]
          dsimp only
          rw [e2 c hc, x_low x5 (by omega) hpos (by omega), Option.bind_some, Option.bind_some]
        · unfold f_X11_minutes
          rw [(m_ref1 hD hFM (by omega) hS h2 h3 h4 h5).1 hf, Option.bind_some, if_pos (by decide), m1, Option.bind_some, m_min39 hn hc m2, Option.bind_some, m3]
          dsimp only
          rw [m_low x5 (by omega) hpos (by omega), Option.bind_some]
      · obtain ⟨a, f', e1⟩ := x_let3 (vs := v_sitters_set) (vb := v_sitters_bear) (ha := v_passing_habit) (vn := v_sitters_nearest) (wo := v_worths) (ne := v_bench_neighbours) (ta := v_passing_turnedAway) (pa := v_passing_parts) (od := v_passing_odds) hD (show B ≤ 99 by omega) hF hS hf h2 h3 h5
        refine ⟨(-1000000000000000000 + (-3 : Int32).toInt64, a, nI B, f', v_passing_turnedAway, v_passing_parts, v_passing_habit, v_passing_odds), (-1000000000000000000 + (-3 : Int32).toInt64, v_awayUpper, v_lower, v_now, v_then), ?_, ?_, rfl, n, B, k, r, st, w, hb, sn, ln, cnt, ⟨rfl, hcnt, rfl, rfl⟩, ⟨rfl, hn1, hn, rfl, hB1, hB4, rfl, hk, rfl, hr8, hst, hw, hcm, hsn⟩, ⟨rfl, rfl, rfl, rfl, rfl, rfl, rfl, rfl, rfl⟩, ⟨hF, hFM, hcl, hnb⟩, hce, hma, hlr, hi0, hi1⟩
        · unfold f_X10_minutes
          rw [x_within, h4, Option.bind_some, if_neg (by decide), e1, Option.bind_some, if_neg (show ¬ (-3 : Int32) = 0 by decide), Option.bind_some]
        · unfold f_X11_minutes
          rw [(m_ref1 hD hFM (by omega) hS h2 h3 h4 h5).2 hf, Option.bind_some, if_neg (by decide)]
    · refine ⟨(-1000000000000000000 + (-2 : Int32).toInt64, v_sitters_set, v_sitters_bear, v_sitters_nearest, v_passing_turnedAway, v_passing_parts, v_passing_habit, v_passing_odds), (-1000000000000000000 + (-2 : Int32).toInt64, v_awayUpper, v_lower, v_now, v_then), ?_, ?_, rfl, n, B, k, r, st, w, hb, sn, ln, cnt, ⟨rfl, hcnt, rfl, rfl⟩, ⟨rfl, hn1, hn, rfl, hB1, hB4, rfl, hk, rfl, hr8, hst, hw, hcm, hsn⟩, ⟨rfl, rfl, rfl, rfl, rfl, rfl, rfl, rfl, rfl⟩, ⟨hF, hFM, hcl, hnb⟩, hce, hma, hlr, hi0, hi1⟩
      · unfold f_X10_minutes
        rw [x_within, h4, Option.bind_some, if_neg (by decide), x_let2 hn (fun a2 a3 a5 => by
          cases h1 : inR x1 0 (nI (2 ^ n - 1)) with
          | false => rfl
          | true => exact absurd ⟨h1, a2, a3, a5⟩ hg), Option.bind_some, if_neg (show ¬ (-2 : Int32) = 0 by decide), Option.bind_some]
      · unfold f_X11_minutes
        rw [m_ref2 hn (fun a1 a2 a3 _ => by
          cases h5 : inR x5 0 1 with
          | false => rfl
          | true => exact absurd ⟨a1, a2, a3, h5⟩ hg), Option.bind_some, if_neg (by decide)]
  · have h4 : inR x4 0 12 = false := by simpa using h4
    refine ⟨(-1000000000000000002, v_sitters_set, v_sitters_bear, v_sitters_nearest, v_passing_turnedAway, v_passing_parts, v_passing_habit, v_passing_odds), (-1000000000000000000 + (-2 : Int32).toInt64, v_awayUpper, v_lower, v_now, v_then), ?_, ?_, (by show (-1000000000000000002 : Int64) = -1000000000000000000 + (-2 : Int32).toInt64; decide), n, B, k, r, st, w, hb, sn, ln, cnt, ⟨rfl, hcnt, rfl, rfl⟩, ⟨rfl, hn1, hn, rfl, hB1, hB4, rfl, hk, rfl, hr8, hst, hw, hcm, hsn⟩, ⟨rfl, rfl, rfl, rfl, rfl, rfl, rfl, rfl, rfl⟩, ⟨hF, hFM, hcl, hnb⟩, hce, hma, hlr, hi0, hi1⟩
    · unfold f_X10_minutes
      rw [x_within, h4, Option.bind_some, if_pos (by decide)]
    · unfold f_X11_minutes
      rw [m_ref2 hn (fun _ _ _ a4 => by rw [h4] at a4; cases a4), Option.bind_some, if_neg (by decide)]
set_option maxHeartbeats 1000000 in
theorem s_away : St_away Inv := by
  intro v_pad_count v_pad_signs v_scene_seats v_scene_bear v_scene_comerCount v_scene_seenRows v_scene_steps v_scene_worths v_scene_comers v_scene_seen v_scene_seenLengths v_bench_apart v_bench_clash v_bench_neighbours v_trial_apart v_trial_clash v_trial_neighbours v_sitters_set v_sitters_bear v_sitters_nearest v_trialSitters_set v_trialSitters_bear v_trialSitters_nearest v_sets_size v_sets_places v_sets_filled v_sets_open v_sets_chance v_census_least v_census_most v_census_known v_census_wholeSets v_census_orders v_match_known v_match_kind v_match_wicked v_couples_count v_couples_lesser v_couples_greater v_couples_tooNear v_couples_clash v_passing_turnedAway v_passing_parts v_passing_habit v_passing_odds v_longRows_between v_signMany v_seats v_bearIs v_rowsAll v_awayUpper v_lower v_comerMany v_seenRows v_place v_isWriting v_signs v_links v_worths v_far v_mays v_rowsTo v_endIn v_ends v_pairSets v_awayIn v_now v_then v_comers v_seen v_seenMany v_kept v_isKept d0 d1 hI x1 x2 x3 x4
  obtain ⟨n, B, k, r, st, w, hb, sn, ln, cnt, hp, hs, he, hbn, hce, hma, hlr, hi0, hi1⟩ := hI
  obtain ⟨rfl, hcnt, rfl, rfl⟩ := hp
  obtain ⟨rfl, rfl, rfl, rfl, rfl, rfl, rfl, rfl, rfl⟩ := he
  obtain ⟨rfl, hn1, hn, rfl, hB1, hB4, rfl, hk, rfl, hr8, hst, hw, hcm, hsn⟩ := hs
  obtain ⟨hF, hFM, hcl, hnb⟩ := hbn
  have hD := Dd_ok (Ef n st 0) hn1 hn
  have hp12 : 2 ^ n ≤ 2 ^ 12 := Nat.pow_le_pow_right (by omega) hn
  have h4 : inR 0 0 12 = true := by decide
  by_cases hg : inR x1 0 (nI (2 ^ n - 1)) = true ∧ inR x2 0 5 = true ∧ inR x3 1 3 = true ∧ inR x4 0 1 = true
  · obtain ⟨h1, h2, h3, h5⟩ := hg
    obtain ⟨S, hS, rfl⟩ := (inR_set hn).mp h1
    obtain ⟨h, hh, rfl⟩ := (inR_nat (b := 5) (by omega)).mp h2
    obtain ⟨M, hM1, hM, rfl⟩ := (inR_n1 (b := 3) (by omega)).mp h3
    have hpw : 55440 ^ M ≤ 55440 ^ 3 := Nat.pow_le_pow_right (by omega) hM
    have hpos : 0 < 55440 ^ M := Nat.pow_pos (by omega)
    rcases Classical.em (fil n (Dd n (Ef n st 0)) B S) with hf | hf
    · obtain ⟨a, b, f', od', e1, e2⟩ := x_let0 (w := w) (vs := v_sitters_set) (vb := v_sitters_bear) (ha := v_passing_habit) (vn := v_sitters_nearest) (ta := v_passing_turnedAway) (pa := v_passing_parts) (od := v_passing_odds) hD (show B ≤ 99 by omega) hF hw hnb hS hf (show h < 6 by omega) hM h2 h3 h5
      obtain ⟨y1, y2, f, m1, m2, m3⟩ := m_minutes (w := w) (vn := v_now) (vt := v_then) hD hFM (show B ≤ 99 by omega) hw (show h < 6 by omega) hS hM
      have hle := aF_le (n := n) (Dm := (Dd n (Ef n st 0))) (B := B) (w := w) (h := h) M S
      have hle2 : M * 55440 ^ M ≤ 3 * 55440 ^ 3 := Nat.mul_le_mul hM hpw
      refine ⟨(lN (lowN (aF n (Dd n (Ef n st 0)) B w h M S) (55440 ^ M) x4), a, b, f', lN (aF n (Dd n (Ef n st 0)) B w h M S), lN (55440 ^ M), nI h, od'), (lN (lowN (aF n (Dd n (Ef n st 0)) B w h M S) (55440 ^ M) x4), lN (aF n (Dd n (Ef n st 0)) B w h M S), lN (55440 ^ M), y1, y2), ?_, ?_, rfl, n, B, k, r, st, w, hb, sn, ln, cnt, ⟨rfl, hcnt, rfl, rfl⟩, ⟨rfl, hn1, hn, rfl, hB1, hB4, rfl, hk, rfl, hr8, hst, hw, hcm, hsn⟩, ⟨rfl, rfl, rfl, rfl, rfl, rfl, rfl, rfl, rfl⟩, ⟨hF, hFM, hcl, hnb⟩, hce, hma, hlr, hi0, hi1⟩
      · unfold f_X10_away
        rw [e1, Option.bind_some, if_pos rfl]
        dsimp only
        rw [x_low x4 (by omega) hpos (by omega), Option.bind_some, Option.bind_some]
      · unfold f_X11_away
        rw [(m_ref1 hD hFM (by omega) hS h2 h3 h4 h5).1 hf, Option.bind_some, if_pos (by decide), m1, Option.bind_some]
        dsimp only
        rw [m_low x4 (by omega) hpos (by omega), Option.bind_some]
    · obtain ⟨a, f', e1⟩ := x_let3 (vs := v_sitters_set) (vb := v_sitters_bear) (ha := v_passing_habit) (vn := v_sitters_nearest) (wo := v_worths) (ne := v_bench_neighbours) (ta := v_passing_turnedAway) (pa := v_passing_parts) (od := v_passing_odds) hD (show B ≤ 99 by omega) hF hS hf h2 h3 h5
      refine ⟨(-1000000000000000000 + (-3 : Int32).toInt64, a, nI B, f', v_passing_turnedAway, v_passing_parts, v_passing_habit, v_passing_odds), (-1000000000000000000 + (-3 : Int32).toInt64, v_awayUpper, v_lower, v_now, v_then), ?_, ?_, rfl, n, B, k, r, st, w, hb, sn, ln, cnt, ⟨rfl, hcnt, rfl, rfl⟩, ⟨rfl, hn1, hn, rfl, hB1, hB4, rfl, hk, rfl, hr8, hst, hw, hcm, hsn⟩, ⟨rfl, rfl, rfl, rfl, rfl, rfl, rfl, rfl, rfl⟩, ⟨hF, hFM, hcl, hnb⟩, hce, hma, hlr, hi0, hi1⟩
      · unfold f_X10_away
        rw [e1, Option.bind_some, if_neg (show ¬ (-3 : Int32) = 0 by decide), Option.bind_some]
      · unfold f_X11_away
        rw [(m_ref1 hD hFM (by omega) hS h2 h3 h4 h5).2 hf, Option.bind_some, if_neg (by decide)]
  · refine ⟨(-1000000000000000000 + (-2 : Int32).toInt64, v_sitters_set, v_sitters_bear, v_sitters_nearest, v_passing_turnedAway, v_passing_parts, v_passing_habit, v_passing_odds), (-1000000000000000000 + (-2 : Int32).toInt64, v_awayUpper, v_lower, v_now, v_then), ?_, ?_, rfl, n, B, k, r, st, w, hb, sn, ln, cnt, ⟨rfl, hcnt, rfl, rfl⟩, ⟨rfl, hn1, hn, rfl, hB1, hB4, rfl, hk, rfl, hr8, hst, hw, hcm, hsn⟩, ⟨rfl, rfl, rfl, rfl, rfl, rfl, rfl, rfl, rfl⟩, ⟨hF, hFM, hcl, hnb⟩, hce, hma, hlr, hi0, hi1⟩
    · unfold f_X10_away
      rw [x_let2 hn (fun a2 a3 a5 => by
        cases h1 : inR x1 0 (nI (2 ^ n - 1)) with
        | false => rfl
        | true => exact absurd ⟨h1, a2, a3, a5⟩ hg), Option.bind_some, if_neg (show ¬ (-2 : Int32) = 0 by decide), Option.bind_some]
    · unfold f_X11_away
      rw [m_ref2 hn (fun a1 a2 a3 _ => by
        cases h5 : inR x4 0 1 with
        | false => rfl
        | true => exact absurd ⟨a1, a2, a3, h5⟩ hg), Option.bind_some, if_neg (by decide)]
