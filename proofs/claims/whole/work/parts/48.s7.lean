/-! steps: judge, fits, see -/
section ST7
theorem mis_cases {n : Nat} {Dm : Nat → Nat → Nat} {B : Nat} {w : Nat → Nat} {h : Nat} {sn ln : Nat → Nat} {r : Nat} : (misV n Dm B w h sn ln r = -6 ∧ ∀ q, q < r → misQ n Dm B w h sn ln q = none) ∨ ∃ q k, q < r ∧ misQ n Dm B w h sn ln q = some k ∧ misV n Dm B w h sn ln r = nI (100 * q + k) ∧ ∀ p, p < q → misQ n Dm B w h sn ln p = none := by
  unfold misV
  cases hm : fmi (fun q => (misQ n Dm B w h sn ln q).isNone) r with
  | none =>
    left
    refine ⟨rfl, fun q hq => ?_⟩
    have := fmi_none hm q hq
    simpa using this
  | some q =>
    right
    obtain ⟨h1, h2, h3⟩ := fmi_some hm
    cases hk : misQ n Dm B w h sn ln q with
    | none => simp [hk] at h2
    | some k =>
      refine ⟨q, k, h1, hk, by simp [hk], fun p hp => ?_⟩
      have := h3 p hp
      simpa using this
theorem x_mis {n : Nat} {Dm : Nat → Nat → Nat} {B r h : Nat} {w sn ln : Nat → Nat} {sl seen g fw fb vn : Nat → Int32} {vs vb : Int32} (hD : Dok n Dm) (hB : B ≤ 99) (hF : Far n Dm g) (hw : Wor n w fw) (hnb : Nbs n Dm fb) (hh : h < 6) (hr : r ≤ 8) (hsn : ∀ q, q < r → sl q = nI (ln q) ∧ SeenOK n Dm B (fun j => sn (12 * q + j)) (ln q) ∧ ∀ j, j < ln q → seen (12 * q + j) = nI (sn (12 * q + j))) : ∃ a b f', f_X10_firstMisfit (nI n) (nI B) (nI r) vs vb vn sl seen fw fb g (nI h) = some (misV n Dm B w h sn ln r, a, b, f') := by
  have row : ∀ q, q < r → ∀ (b un : Nat → Int32) (u : Int32), (misQ n Dm B w h sn ln q = none → ∃ z, f_X10_firstMisfit_22 (nI n) sl seen fw fb g (nI h) (nI q) (u, nI B, un) FU 0 0 (NF n Dm b 0) = some (Sum.inl z)) ∧ (∀ k, misQ n Dm B w h sn ln q = some k → ∃ z, f_X10_firstMisfit_22 (nI n) sl seen fw fb g (nI h) (nI q) (u, nI B, un) FU 0 0 (NF n Dm b 0) = some (Sum.inr (nI (100 * q + k), z))) := by
    intro q hq b un u
    obtain ⟨e1, e2, e3⟩ := hsn q hq
    exact x_row (row := fun j => sn (12 * q + j)) hD hB hF hw hnb hh (by omega) e2.1 e1 (fun j hj => ⟨(e2.2 j hj).1, e3 j hj⟩)
  have hstep : ∀ m q (z : Int32 × Int32 × (Nat → Int32)), q < r → misQ n Dm B w h sn ln q = none → ∃ z' : Int32 × Int32 × (Nat → Int32), f_X10_firstMisfit_2 (nI n) (nI B) (nI r) sl seen fw fb g (nI h) (m + 1) (nI q) z.1 z.2.1 z.2.2 = f_X10_firstMisfit_2 (nI n) (nI B) (nI r) sl seen fw fb g (nI h) m (nI (q + 1)) z'.1 z'.2.1 z'.2.2 := by
    intro m q z hq hno
    obtain ⟨y, hy⟩ := (row q hq (fun j => if j < 12 then 99 else z.2.2 j) (NF n Dm (fun j => if j < 12 then 99 else z.2.2 j) 0) 0).1 hno
    refine ⟨(y.1, nI B, y.2), ?_⟩
    rw [f_X10_firstMisfit_2_s, if_neg (ng_le (by omega) (by omega) hq), x_leaveN hD, Option.bind_some]
    show (f_X10_firstMisfit_22 (nI n) sl seen fw fb g (nI h) (nI q) (0, nI B, NF n Dm (fun j => if j < 12 then 99 else z.2.2 j) 0) FU 0 0 (NF n Dm (fun j => if j < 12 then 99 else z.2.2 j) 0)).bind _ = _
    rw [hy, Option.bind_some, nI_1]
    rfl
  rcases mis_cases (n := n) (Dm := Dm) (B := B) (w := w) (h := h) (sn := sn) (ln := ln) (r := r) with ⟨hv, hall⟩ | ⟨q, k, hq, hk, hv, hall⟩
  · obtain ⟨z', m, -, t⟩ := lp_inv (fun m i (z : Int32 × Int32 × (Nat → Int32)) => f_X10_firstMisfit_2 (nI n) (nI B) (nI r) sl seen fw fb g (nI h) m (nI i) z.1 z.2.1 z.2.2) r (fun _ _ => True) (fun m i z hi _ => by
      obtain ⟨z', e⟩ := hstep m i z hi (hall i hi)
      exact ⟨z', trivial, e⟩) FU 0 (vs, vb, vn) (by omega) (by rw [FU_eq]; omega) trivial
    refine ⟨z'.1, z'.2.1, z'.2.2, ?_⟩
    have t' : f_X10_firstMisfit_2 (nI n) (nI B) (nI r) sl seen fw fb g (nI h) FU 0 vs vb vn = _ := t
    unfold f_X10_firstMisfit
    rw [t', f_X10_firstMisfit_2_s, if_pos (ps_le (by omega) (by omega) (Nat.le_refl r)), Option.bind_some, hv]
    rfl
  · obtain ⟨z', m, -, t⟩ := lp_inv (fun m i (z : Int32 × Int32 × (Nat → Int32)) => f_X10_firstMisfit_2 (nI n) (nI B) (nI r) sl seen fw fb g (nI h) m (nI i) z.1 z.2.1 z.2.2) q (fun _ _ => True) (fun m i z hi _ => by
      obtain ⟨z', e⟩ := hstep m i z (by omega) (hall i hi)
      exact ⟨z', trivial, e⟩) FU 0 (vs, vb, vn) (by omega) (by rw [FU_eq]; omega) trivial
    obtain ⟨y, hy⟩ := (row q hq (fun j => if j < 12 then 99 else z'.2.2 j) (NF n Dm (fun j => if j < 12 then 99 else z'.2.2 j) 0) 0).2 k hk
    refine ⟨y.1, y.2.1, y.2.2, ?_⟩
    have t' : f_X10_firstMisfit_2 (nI n) (nI B) (nI r) sl seen fw fb g (nI h) FU 0 vs vb vn = _ := t
    unfold f_X10_firstMisfit
    rw [t', f_X10_firstMisfit_2_s, if_neg (ng_le (by omega) (by omega) hq), x_leaveN hD, Option.bind_some]
    show ((f_X10_firstMisfit_22 (nI n) sl seen fw fb g (nI h) (nI q) (0, nI B, NF n Dm (fun j => if j < 12 then 99 else z'.2.2 j) 0) FU 0 0 (NF n Dm (fun j => if j < 12 then 99 else z'.2.2 j) 0)).bind _).bind _ = _
    rw [hy, Option.bind_some, hv]
    rfl
theorem m_mis {n : Nat} {Dm : Nat → Nat → Nat} {B r h : Nat} {w sn ln : Nat → Nat} {sl seen g fw : Nat → Int32} (hD : Dok n Dm) (hB : B ≤ 99) (hF : FarM n Dm g) (hw : Wor n w fw) (hh : h < 6) (hr : r ≤ 8) (hsn : ∀ q, q < r → sl q = nI (ln q) ∧ SeenOK n Dm B (fun j => sn (12 * q + j)) (ln q) ∧ ∀ j, j < ln q → seen (12 * q + j) = nI (sn (12 * q + j))) : f_X11_judged (nI n) (nI B) (nI r) sl seen g fw (nI h) = some (misV n Dm B w h sn ln r) := by
  have row : ∀ q, q < r → (misQ n Dm B w h sn ln q = none → f_X11_judged_12 (nI n) (nI B) sl seen g fw (nI h) (nI q) FU 0 = some (Sum.inl ())) ∧ (∀ k, misQ n Dm B w h sn ln q = some k → f_X11_judged_12 (nI n) (nI B) sl seen g fw (nI h) (nI q) FU 0 = some (Sum.inr (nI (100 * q + k)))) := by
    intro q hq
    obtain ⟨e1, e2, e3⟩ := hsn q hq
    exact m_row (row := fun j => sn (12 * q + j)) hD hB hF hw hh (by omega) e2.1 e1 (fun j hj => ⟨(e2.2 j hj).1, e3 j hj⟩)
  have hgo : ∀ (e : Nat) (o : Unit ⊕ Int32), e ≤ r → (∀ q, q < e → misQ n Dm B w h sn ln q = none) → (∀ m, f_X11_judged_2 (nI n) (nI B) (nI r) sl seen g fw (nI h) (m + 1) (nI e) = some o) → f_X11_judged_2 (nI n) (nI B) (nI r) sl seen g fw (nI h) FU 0 = some o := by
    intro e o he hall hx
    refine lp_at (fun m i (_ : Unit) => f_X11_judged_2 (nI n) (nI B) (nI r) sl seen g fw (nI h) m (nI i)) e (fun _ => ()) (s0 := ()) rfl (by omega) hx ?_
    intro m i hi
    rw [f_X11_judged_2_s, if_neg (ng_le (by omega) (by omega) (by omega)), (row i (by omega)).1 (hall i hi), Option.bind_some, nI_1]
    rfl
  unfold f_X11_judged
  rcases mis_cases (n := n) (Dm := Dm) (B := B) (w := w) (h := h) (sn := sn) (ln := ln) (r := r) with ⟨hv, hall⟩ | ⟨q, k, hq, hk, hv, hall⟩
  · rw [hgo r (Sum.inl ()) (Nat.le_refl r) hall (fun m => by rw [f_X11_judged_2_s, if_pos (ps_le (by omega) (by omega) (Nat.le_refl r))]), Option.bind_some, hv]
    rfl
  · rw [hgo q (Sum.inr (nI (100 * q + k))) (by omega) hall (fun m => by
      rw [f_X11_judged_2_s, if_neg (ng_le (by omega) (by omega) hq), (row q hq).2 k hk, Option.bind_some]
      rfl), Option.bind_some, hv]
    rfl
theorem mis_sign {n : Nat} {Dm : Nat → Nat → Nat} {B : Nat} {w : Nat → Nat} {h : Nat} {sn ln : Nat → Nat} {r : Nat} (hr : r ≤ 8) (hln : ∀ q, q < r → ln q ≤ 12) : (misV n Dm B w h sn ln r = -6) ↔ ¬ (0 : Int32) ≤ misV n Dm B w h sn ln r := by
  rcases mis_cases (n := n) (Dm := Dm) (B := B) (w := w) (h := h) (sn := sn) (ln := ln) (r := r) with ⟨hv, _⟩ | ⟨q, k, hq, hk, hv, _⟩
  · rw [hv]
    exact ⟨fun _ => by decide, fun _ => rfl⟩
  · rw [hv]
    have h1 := (fmi_some hk).1
    have h2 := hln q hq
    constructor
    · intro e; exact absurd e (eO32_neg (by omega))
    · intro e; exact absurd (nI_pos' (show 100 * q + k < 2 ^ 31 by omega)) e
/-- the habits that fit, over the first i -/
def ftm (V : Nat → Int32) : Nat → Nat
  | 0 => 0
  | i + 1 => if V i = -6 then ftm V i ||| 2 ^ i else ftm V i
end ST7
set_option maxHeartbeats 1000000 in
theorem s_judge : St_judge Inv := by
  intro v_pad_count v_pad_signs v_scene_seats v_scene_bear v_scene_comerCount v_scene_seenRows v_scene_steps v_scene_worths v_scene_comers v_scene_seen v_scene_seenLengths v_bench_apart v_bench_clash v_bench_neighbours v_trial_apart v_trial_clash v_trial_neighbours v_sitters_set v_sitters_bear v_sitters_nearest v_trialSitters_set v_trialSitters_bear v_trialSitters_nearest v_sets_size v_sets_places v_sets_filled v_sets_open v_sets_chance v_census_least v_census_most v_census_known v_census_wholeSets v_census_orders v_match_known v_match_kind v_match_wicked v_couples_count v_couples_lesser v_couples_greater v_couples_tooNear v_couples_clash v_passing_turnedAway v_passing_parts v_passing_habit v_passing_odds v_longRows_between v_signMany v_seats v_bearIs v_rowsAll v_awayUpper v_lower v_comerMany v_seenRows v_place v_isWriting v_signs v_links v_worths v_far v_mays v_rowsTo v_endIn v_ends v_pairSets v_awayIn v_now v_then v_comers v_seen v_seenMany v_kept v_isKept d0 d1 hI x1
  obtain ⟨n, B, k, r, st, w, hb, sn, ln, cnt, hp, hs, he, hbn, hce, hma, hlr, hi0, hi1⟩ := hI
  obtain ⟨rfl, hcnt, rfl, rfl⟩ := hp
  obtain ⟨rfl, rfl, rfl, rfl, rfl, rfl, rfl, rfl, rfl⟩ := he
  obtain ⟨rfl, hn1, hn, rfl, hB1, hB4, rfl, hk, rfl, hr8, hst, hw, hcm, hsn⟩ := hs
  obtain ⟨hF, hFM, hcl, hnb⟩ := hbn
  have hD := Dd_ok (Ef n st 0) hn1 hn
  have hp12 : 2 ^ n ≤ 2 ^ 12 := Nat.pow_le_pow_right (by omega) hn
  by_cases h1 : inR x1 0 5 = true
  · obtain ⟨h, hh, rfl⟩ := (inR_nat (b := 5) (by omega)).mp h1
    obtain ⟨a, b', f', e1⟩ := x_mis (vs := v_sitters_set) (vb := v_sitters_bear) (vn := v_sitters_nearest) (h := h) hD (show B ≤ 99 by omega) hF hw hnb (by omega) hr8 hsn
    refine ⟨(misV n (Dd n (Ef n st 0)) B w h sn ln r, a, b', f'), misV n (Dd n (Ef n st 0)) B w h sn ln r, ?_, ?_, rfl, n, B, k, r, st, w, hb, sn, ln, cnt, ⟨rfl, hcnt, rfl, rfl⟩, ⟨rfl, hn1, hn, rfl, hB1, hB4, rfl, hk, rfl, hr8, hst, hw, hcm, hsn⟩, ⟨rfl, rfl, rfl, rfl, rfl, rfl, rfl, rfl, rfl⟩, ⟨hF, hFM, hcl, hnb⟩, hce, hma, hlr, hi0, hi1⟩
    · unfold f_X10_judge
      rw [x_habit, h1, Option.bind_some, if_neg (by decide), e1, Option.bind_some, Option.bind_some]
    · unfold f_X11_judge
      rw [m_habit, h1, Option.bind_some, if_neg (by decide), m_mis hD (by omega) hFM hw (by omega) hr8 hsn, Option.bind_some, Option.bind_some]
  · have h1 : inR x1 0 5 = false := by simpa using h1
    refine ⟨(-2, v_sitters_set, v_sitters_bear, v_sitters_nearest), -2, ?_, ?_, rfl, n, B, k, r, st, w, hb, sn, ln, cnt, ⟨rfl, hcnt, rfl, rfl⟩, ⟨rfl, hn1, hn, rfl, hB1, hB4, rfl, hk, rfl, hr8, hst, hw, hcm, hsn⟩, ⟨rfl, rfl, rfl, rfl, rfl, rfl, rfl, rfl, rfl⟩, ⟨hF, hFM, hcl, hnb⟩, hce, hma, hlr, hi0, hi1⟩
    · unfold f_X10_judge
      rw [x_habit, h1, Option.bind_some, if_pos (by decide), Option.bind_some]
    · unfold f_X11_judge
      rw [m_habit, h1, Option.bind_some, if_pos (by decide), Option.bind_some]
set_option maxHeartbeats 1000000 in
theorem s_fits : St_fits Inv := by
  intro v_pad_count v_pad_signs v_scene_seats v_scene_bear v_scene_comerCount v_scene_seenRows v_scene_steps v_scene_worths v_scene_comers v_scene_seen v_scene_seenLengths v_bench_apart v_bench_clash v_bench_neighbours v_trial_apart v_trial_clash v_trial_neighbours v_sitters_set v_sitters_bear v_sitters_nearest v_trialSitters_set v_trialSitters_bear v_trialSitters_nearest v_sets_size v_sets_places v_sets_filled v_sets_open v_sets_chance v_census_least v_census_most v_census_known v_census_wholeSets v_census_orders v_match_known v_match_kind v_match_wicked v_couples_count v_couples_lesser v_couples_greater v_couples_tooNear v_couples_clash v_passing_turnedAway v_passing_parts v_passing_habit v_passing_odds v_longRows_between v_signMany v_seats v_bearIs v_rowsAll v_awayUpper v_lower v_comerMany v_seenRows v_place v_isWriting v_signs v_links v_worths v_far v_mays v_rowsTo v_endIn v_ends v_pairSets v_awayIn v_now v_then v_comers v_seen v_seenMany v_kept v_isKept d0 d1 hI 
  obtain ⟨n, B, k, r, st, w, hb, sn, ln, cnt, hp, hs, he, hbn, hce, hma, hlr, hi0, hi1⟩ := hI
  obtain ⟨rfl, hcnt, rfl, rfl⟩ := hp
  obtain ⟨rfl, rfl, rfl, rfl, rfl, rfl, rfl, rfl, rfl⟩ := he
  obtain ⟨rfl, hn1, hn, rfl, hB1, hB4, rfl, hk, rfl, hr8, hst, hw, hcm, hsn⟩ := hs
  obtain ⟨hF, hFM, hcl, hnb⟩ := hbn
  have hD := Dd_ok (Ef n st 0) hn1 hn
  have hp12 : 2 ^ n ≤ 2 ^ 12 := Nat.pow_le_pow_right (by omega) hn
  have hln : ∀ q, q < r → ln q ≤ 12 := fun q hq => (hsn q hq).2.1.1
  have hx : ∃ a b' f', f_X10_fits_4 (nI n) (nI B) (nI r) v_seenMany v_seen v_worths v_bench_neighbours v_bench_apart FU 0 0 v_sitters_set v_sitters_bear v_sitters_nearest = some (nI (ftm (fun h => misV n (Dd n (Ef n st 0)) B w h sn ln r) 6), a, b', f') := by
    obtain ⟨z', m, hz, t⟩ := lp_inv (fun m i (z : Int32 × Int32 × Int32 × (Nat → Int32)) => f_X10_fits_4 (nI n) (nI B) (nI r) v_seenMany v_seen v_worths v_bench_neighbours v_bench_apart m z.1 (nI i) z.2.1 z.2.2.1 z.2.2.2) 6 (fun i z => z.1 = nI (ftm (fun h => misV n (Dd n (Ef n st 0)) B w h sn ln r) i)) (fun m i z hi hz => by
      obtain ⟨a, b', f', e1⟩ := x_mis (vs := z.2.1) (vb := z.2.2.1) (vn := z.2.2.2) (h := i) hD (show B ≤ 99 by omega) hF hw hnb (by omega) hr8 hsn
      refine ⟨(nI (ftm (fun h => misV n (Dd n (Ef n st 0)) B w h sn ln r) (i + 1)), a, b', f'), rfl, ?_⟩
      rw [f_X10_fits_4_s, if_neg (show ¬ (6 : Int32) ≤ nI i from ng_le (a := 6) (by omega) (by omega) hi), e1, Option.bind_some, hz, nI_1]
      by_cases hc : misV n (Dd n (Ef n st 0)) B w i sn ln r = -6
      · rw [if_pos hc, Option.bind_some, nu_or (by omega)]
        simp only [ftm, hc, if_true]
      · rw [if_neg hc, Option.bind_some]
        simp only [ftm, hc, if_false]) FU 0 (0, v_sitters_set, v_sitters_bear, v_sitters_nearest) (by omega) (by rw [FU_eq]; omega) rfl
    refine ⟨z'.2.1, z'.2.2.1, z'.2.2.2, ?_⟩
    have t' : f_X10_fits_4 (nI n) (nI B) (nI r) v_seenMany v_seen v_worths v_bench_neighbours v_bench_apart FU 0 0 v_sitters_set v_sitters_bear v_sitters_nearest = _ := t
    rw [t', f_X10_fits_4_s, if_pos (by decide), hz]
  have hm : f_X11_fits_4 (nI n) (nI B) (nI r) v_seenMany v_seen v_far v_worths FU 0 0 = some (nI (ftm (fun h => misV n (Dd n (Ef n st 0)) B w h sn ln r) 6)) := by
    refine lp_at (fun m i z => f_X11_fits_4 (nI n) (nI B) (nI r) v_seenMany v_seen v_far v_worths m z (nI i)) 6 (fun i => nI (ftm (fun h => misV n (Dd n (Ef n st 0)) B w h sn ln r) i)) rfl (by omega) ?_ ?_
    · intro m
      rw [f_X11_fits_4_s, if_pos (by decide)]
    · intro m i hi
      rw [f_X11_fits_4_s, if_neg (show ¬ (6 : Int32) ≤ nI i from ng_le (a := 6) (by omega) (by omega) hi), m_mis hD (by omega) hFM hw (by omega) hr8 hsn, Option.bind_some, nI_1]
      by_cases hc : misV n (Dd n (Ef n st 0)) B w i sn ln r = -6
      · rw [if_neg ((mis_sign hr8 hln).mp hc), Option.bind_some, nu_or (by omega)]
        simp only [ftm, hc, if_true]
      · have hp : (0 : Int32) ≤ misV n (Dd n (Ef n st 0)) B w i sn ln r := Classical.byContradiction (fun h => hc ((mis_sign hr8 hln).mpr h))
        rw [if_pos hp, Option.bind_some, show (0 : Int32) = nI 0 from rfl, fa_or, Nat.or_zero]
        simp only [ftm, hc, if_false]
  obtain ⟨a, b', f', hx⟩ := hx
  refine ⟨(nI (ftm (fun h => misV n (Dd n (Ef n st 0)) B w h sn ln r) 6), a, b', f'), nI (ftm (fun h => misV n (Dd n (Ef n st 0)) B w h sn ln r) 6), ?_, ?_, rfl, n, B, k, r, st, w, hb, sn, ln, cnt, ⟨rfl, hcnt, rfl, rfl⟩, ⟨rfl, hn1, hn, rfl, hB1, hB4, rfl, hk, rfl, hr8, hst, hw, hcm, hsn⟩, ⟨rfl, rfl, rfl, rfl, rfl, rfl, rfl, rfl, rfl⟩, ⟨hF, hFM, hcl, hnb⟩, hce, hma, hlr, hi0, hi1⟩
  · unfold f_X10_fits
    rw [hx, Option.bind_some]
  · unfold f_X11_fits
    rw [hm, Option.bind_some]
