/-! step: room -/
section ST9
/-- a gap of d signs -, cut or not -/
def gp (cut : Bool) (d : Nat) : Int32 := if cut then 0 else nI (1 + d)
def GZ (c : Nat) (z : Nat → Int32) : Prop := ∀ j, j + 1 < c → ∃ v, v ≤ 98 ∧ z j = nI v
theorem gp_v (cut : Bool) {d : Nat} (h : d ≤ 30) : ∃ v, v ≤ 98 ∧ gp cut d = nI v := by
  cases cut with
  | true => exact ⟨0, by omega, rfl⟩
  | false => exact ⟨1 + d, by omega, rfl⟩
theorem gp_0 (cut : Bool) {d : Nat} (h : d ≤ 30) : (gp cut d = 0) ↔ cut = true := by
  cases cut with
  | true => exact ⟨fun _ => rfl, fun _ => rfl⟩
  | false =>
    constructor
    · intro e
      have := (nI_eq (a := 1 + d) (b := 0) (by omega) (by omega)).mp e
      omega
    · intro e; cases e
theorem GZ_up {c : Nat} {z : Nat → Int32} {x : Int32} (h : GZ c z) (hx : ∃ v, v ≤ 98 ∧ x = nI v) (hc : 1 ≤ c) : GZ (c + 1) (upd z (c - 1) x) := by
  intro j hj
  unfold upd
  by_cases e : j = c - 1
  · rw [if_pos e]; exact hx
  · rw [if_neg e]; exact h j (by omega)
theorem steps2 {cnt : Nat} (hc : cnt ≤ 30) (f : Nat → Int32) : ∀ (m i c d fd : Nat) (cut fcut ring : Bool) (y : Int32) (z : Nat → Int32) (o : Int32), c ≤ 12 → i ≤ cnt → d ≤ i → fd ≤ i → cnt < i + m → GZ c z → f_X5_firstFault_6 (nI cnt) f m (nI c) y (nI i) = some (Sum.inl o) →
    ∃ (c' d' fd' : Nat) (cut' fcut' ring' : Bool) (z' : Nat → Int32), o = nI c' ∧ c' ≤ 12 ∧ d' ≤ 30 ∧ fd' ≤ 30 ∧ GZ c' z' ∧ f_X5_writeSteps_13 (nI cnt) f m (nI c) (gp fcut fd) (gp cut d) (b32 ring) (nI i) z = some (nI c', gp fcut' fd', gp cut' d', b32 ring', z') ∧ f_X11_room_30 (nI cnt) f m (nI d) (b32 cut) (nI fd) (b32 fcut) (b32 ring) (nI i) (nI c) z = some (nI d', b32 cut', nI fd', b32 fcut', b32 ring', nI c', z') := by
  intro m
  induction m with
  | zero => intro i c d fd cut fcut ring y z o h1 h2 h3 h4 h5; omega
  | succ m ih =>
    intro i c d fd cut fcut ring y z o h1 h2 h3 h4 h5 hz hf
    rw [f_X5_firstFault_6_s] at hf
    by_cases he : cnt ≤ i
    · rw [if_pos (ps_le (by omega) (by omega) he)] at hf
      cases hf
      refine ⟨c, d, fd, cut, fcut, ring, z, rfl, h1, by omega, by omega, hz, ?_, ?_⟩
      · rw [f_X5_writeSteps_13_s, if_pos (ps_le (by omega) (by omega) he)]
      · rw [f_X11_room_30_s, if_pos (ps_le (by omega) (by omega) he)]
    · rw [if_neg (ng_le (by omega) (by omega) (by omega)), nu_get _ (show i < 30 by omega) (by omega), Option.bind_some] at hf
      by_cases hy : y = 0
      · rw [if_pos hy, x_stand] at hf
        by_cases ho : f i = 111
        · rw [ho, if_pos rfl] at hf
          by_cases h12 : c < 12
          · rw [if_pos (show nI c < 12 from (nI_ltI (b := 12) (by omega) (by omega)).mpr h12), Option.bind_some, if_neg (show ¬ (1 : Int32) = 0 by decide), if_pos (show (111 : Int32) = 111 from rfl), Option.bind_some, if_neg (show ¬ (111 : Int32) = 64 by decide), Option.bind_some, nI_1, nI_1] at hf
            by_cases hc0 : c = 0
            · subst hc0
              obtain ⟨c', d', fd', cut', fcut', ring', z', k1, k2, k3, k4, k5, k6, k7⟩ := ih (i + 1) (0 + 1) 0 d false cut ring 0 z o (by omega) (by omega) (by omega) (by omega) (by omega) (fun j hj => by omega) hf
              refine ⟨c', d', fd', cut', fcut', ring', z', k1, k2, k3, k4, k5, ?_, ?_⟩
              · rw [f_X5_writeSteps_13_s, if_neg (ng_le (by omega) (by omega) (by omega)), nu_get _ (show i < 30 by omega) (by omega), Option.bind_some, ho, if_pos (show (111 : Int32) = 111 from rfl), if_neg (show ¬ (12 : Int32) ≤ nI 0 by decide), if_pos (show nI 0 = 0 from rfl), Option.bind_some, Option.bind_some, nI_1, nI_1]
                exact k6
              · rw [f_X11_room_30_s, if_neg (ng_le (by omega) (by omega) (by omega)), nu_get _ (show i < 30 by omega) (by omega), Option.bind_some, ho, if_pos (show (111 : Int32) = 111 from rfl), if_pos (show nI 0 = 0 from rfl), Option.bind_some, Option.bind_some, nI_1, nI_1]
                exact k7
            · have e0 : ¬ nI c = 0 := nI_ne0 (by omega) (by omega)
              have em : nI c - 1 = nI (c - 1) := by
                have := nI_pred (c - 1)
                rw [show c - 1 + 1 = c by omega] at this
                exact this
              obtain ⟨c', d', fd', cut', fcut', ring', z', k1, k2, k3, k4, k5, k6, k7⟩ := ih (i + 1) (c + 1) 0 fd false fcut ring 0 (upd z (c - 1) (gp cut d)) o (by omega) (by omega) (by omega) (by omega) (by omega) (GZ_up hz (gp_v cut (by omega)) (by omega)) hf
              refine ⟨c', d', fd', cut', fcut', ring', z', k1, k2, k3, k4, k5, ?_, ?_⟩
              · rw [f_X5_writeSteps_13_s, if_neg (ng_le (by omega) (by omega) (by omega)), nu_get _ (show i < 30 by omega) (by omega), Option.bind_some, ho, if_pos (show (111 : Int32) = 111 from rfl), if_neg (show ¬ (12 : Int32) ≤ nI c from ng_le (a := 12) (by omega) (by omega) h12), if_neg e0, em, nu_set _ _ (show c - 1 < 12 by omega) (by omega), Option.bind_some, Option.bind_some, Option.bind_some, nI_1, nI_1]
                exact k6
              · rw [f_X11_room_30_s, if_neg (ng_le (by omega) (by omega) (by omega)), nu_get _ (show i < 30 by omega) (by omega), Option.bind_some, ho, if_pos (show (111 : Int32) = 111 from rfl), if_neg e0, em]
                have eg : (if b32 cut = 0 then some ((1 : Int32) + nI d) else some 0) = some (gp cut d) := by
                  cases cut with
                  | true => rfl
                  | false => rw [if_pos (show b32 false = 0 from rfl), show (1 : Int32) = nI 1 from rfl, nI_add]; rfl
                rw [eg, Option.bind_some, nu_set _ _ (show c - 1 < 12 by omega) (by omega), Option.bind_some, Option.bind_some, Option.bind_some, nI_1, nI_1]
                exact k7
          · rw [if_neg (show ¬ nI c < 12 from fun e => h12 ((nI_ltI (b := 12) (by omega) (by omega)).mp e)), if_neg (show ¬ (111 : Int32) = 45 by decide), if_neg (show ¬ (111 : Int32) = 124 by decide), if_neg (show ¬ (111 : Int32) = 64 by decide), Option.bind_some, if_pos rfl] at hf
            cases hf
        · rw [if_neg ho] at hf
          by_cases h45 : f i = 45
          · rw [h45, if_pos rfl, Option.bind_some, if_neg (show ¬ (1 : Int32) = 0 by decide), if_neg (show ¬ (45 : Int32) = 111 by decide), Option.bind_some, if_neg (show ¬ (45 : Int32) = 64 by decide), Option.bind_some, nI_1] at hf
            obtain ⟨c', d', fd', cut', fcut', ring', z', k1, k2, k3, k4, k5, k6, k7⟩ := ih (i + 1) c (d + 1) fd cut fcut ring 0 z o (by omega) (by omega) (by omega) (by omega) (by omega) hz hf
            refine ⟨c', d', fd', cut', fcut', ring', z', k1, k2, k3, k4, k5, ?_, ?_⟩
            · rw [f_X5_writeSteps_13_s, if_neg (ng_le (by omega) (by omega) (by omega)), nu_get _ (show i < 30 by omega) (by omega), Option.bind_some, h45, if_neg (show ¬ (45 : Int32) = 111 by decide), if_neg (show ¬ (45 : Int32) = 124 by decide), if_pos (show (45 : Int32) = 45 from rfl)]
              cases cut with
              | true =>
                rw [if_pos (show gp true d = 0 from rfl), if_neg (show ¬ (45 : Int32) = 64 by decide), Option.bind_some, nI_1]
                exact k6
              | false =>
                rw [if_neg (show ¬ gp false d = 0 from fun e => by have := (gp_0 false (by omega)).mp e; cases this), Option.bind_some, nI_1]
                rw [show gp false d + 1 = gp false (d + 1) from nI_1 (1 + d)]
                exact k6
            · rw [f_X11_room_30_s, if_neg (ng_le (by omega) (by omega) (by omega)), nu_get _ (show i < 30 by omega) (by omega), Option.bind_some, h45, if_neg (show ¬ (45 : Int32) = 111 by decide), if_pos (show (45 : Int32) = 45 from rfl), Option.bind_some, nI_1, nI_1]
              exact k7
          · rw [if_neg h45] at hf
            by_cases h124 : f i = 124
            · rw [h124, if_pos rfl, Option.bind_some, if_neg (show ¬ (1 : Int32) = 0 by decide), if_neg (show ¬ (124 : Int32) = 111 by decide), Option.bind_some, if_neg (show ¬ (124 : Int32) = 64 by decide), Option.bind_some, nI_1] at hf
              obtain ⟨c', d', fd', cut', fcut', ring', z', k1, k2, k3, k4, k5, k6, k7⟩ := ih (i + 1) c d fd true fcut ring 0 z o (by omega) (by omega) (by omega) (by omega) (by omega) hz hf
              refine ⟨c', d', fd', cut', fcut', ring', z', k1, k2, k3, k4, k5, ?_, ?_⟩
              · rw [f_X5_writeSteps_13_s, if_neg (ng_le (by omega) (by omega) (by omega)), nu_get _ (show i < 30 by omega) (by omega), Option.bind_some, h124, if_neg (show ¬ (124 : Int32) = 111 by decide), if_pos (show (124 : Int32) = 124 from rfl), Option.bind_some, nI_1]
                exact k6
              · rw [f_X11_room_30_s, if_neg (ng_le (by omega) (by omega) (by omega)), nu_get _ (show i < 30 by omega) (by omega), Option.bind_some, h124, if_neg (show ¬ (124 : Int32) = 111 by decide), if_neg (show ¬ (124 : Int32) = 45 by decide), if_pos (show (124 : Int32) = 124 from rfl), Option.bind_some, nI_1]
                exact k7
            · rw [if_neg h124] at hf
              by_cases h64 : f i = 64
              · rw [h64, if_pos rfl] at hf
                by_cases hc0 : nI c ≤ 0
                · rw [if_pos hc0, Option.bind_some, if_pos rfl] at hf
                  cases hf
                · rw [if_neg hc0, Option.bind_some, if_neg (show ¬ (1 : Int32) = 0 by decide), if_neg (show ¬ (64 : Int32) = 111 by decide), Option.bind_some, if_pos (show (64 : Int32) = 64 from rfl), Option.bind_some, nI_1] at hf
                  obtain ⟨c', d', fd', cut', fcut', ring', z', k1, k2, k3, k4, k5, k6, k7⟩ := ih (i + 1) c d fd cut fcut true 1 z o (by omega) (by omega) (by omega) (by omega) (by omega) hz hf
                  refine ⟨c', d', fd', cut', fcut', ring', z', k1, k2, k3, k4, k5, ?_, ?_⟩
                  · rw [f_X5_writeSteps_13_s, if_neg (ng_le (by omega) (by omega) (by omega)), nu_get _ (show i < 30 by omega) (by omega), Option.bind_some, h64, if_neg (show ¬ (64 : Int32) = 111 by decide), if_neg (show ¬ (64 : Int32) = 124 by decide), if_neg (show ¬ (64 : Int32) = 45 by decide), if_pos (show (64 : Int32) = 64 from rfl), Option.bind_some, nI_1]
                    exact k6
                  · rw [f_X11_room_30_s, if_neg (ng_le (by omega) (by omega) (by omega)), nu_get _ (show i < 30 by omega) (by omega), Option.bind_some, h64, if_neg (show ¬ (64 : Int32) = 111 by decide), if_neg (show ¬ (64 : Int32) = 45 by decide), if_neg (show ¬ (64 : Int32) = 124 by decide), Option.bind_some, nI_1]
                    exact k7
              · rw [if_neg h64, Option.bind_some, if_pos rfl] at hf
                cases hf
      · rw [if_neg hy] at hf
        cases hf
/-- THE ROOM, written by both -/
theorem room2 {cnt : Nat} (hc : cnt ≤ 30) (f z : Nat → Int32) (h : f_X5_firstFault (nI cnt) f = some (-6)) : ∃ (n : Nat) (st : Nat → Nat) (z' : Nat → Int32), 1 ≤ n ∧ n ≤ 12 ∧ (∀ i, i < n → z' i = nI (st i) ∧ st i ≤ 98) ∧ f_X5_writeSteps (nI cnt) f z = some (nI n, z') ∧ ∃ (d cut fd fcut ring : Int32) (z'' : Nat → Int32) (w : Int32), f_X11_room_30 (nI cnt) f FU 0 0 0 0 0 0 0 z = some (d, cut, fd, fcut, ring, nI n, z'') ∧ (if ring = 0 then some 0 else if nI n ≤ 1 then some 0 else if cut = 0 then if fcut = 0 then some ((1 + d) + fd) else some 0 else some 0) = some w ∧ asetI 12 z'' (nI n - 1) w = some z' := by
  unfold f_X5_firstFault at h
  cases hl : f_X5_firstFault_6 (nI cnt) f FU 0 0 0 with
  | none => rw [hl] at h; cases h
  | some o =>
    rw [hl, Option.bind_some] at h
    cases o with
    | inr p =>
      obtain ⟨o', e1, e2, e3⟩ := faults hc f FU 0 0 0 (by omega) (by omega) (by rw [FU_eq]; omega)
      have e1' : f_X5_firstFault_6 (nI cnt) f FU 0 0 0 = some o' := e1
      rw [hl] at e1'
      cases e1'
      rcases e3 with ⟨c', _, hx⟩ | ⟨p', hp', hx⟩
      · cases hx
      · cases hx
        exact absurd (Option.some.inj h) (eO32_neg (by omega))
    | inl o =>
      obtain ⟨c', d', fd', cut', fcut', ring', z', k1, k2, k3, k4, k5, k6, k7⟩ := steps2 hc f FU 0 0 0 0 false false false 0 z o (by omega) (by omega) (by omega) (by omega) (by rw [FU_eq]; omega) (fun j hj => by omega) hl
      subst k1
      have hc1 : 1 ≤ c' := by
        rcases Nat.eq_zero_or_pos c' with e | e
        · subst e
          have h' : (if nI 0 = 0 then some (nI cnt) else some (-6)).bind (fun w15 => some w15) = some (-6 : Int32) := h
          rw [if_pos (show nI 0 = 0 from rfl)] at h'
          exact absurd (Option.some.inj h') (eO32_neg (by omega))
        · exact e
      have em : nI c' - 1 = nI (c' - 1) := by
        have := nI_pred (c' - 1)
        rw [show c' - 1 + 1 = c' by omega] at this
        exact this
      obtain ⟨wv, hwv, hw1, hw2⟩ : ∃ wv, wv ≤ 98 ∧ (if b32 ring' = 0 then some 0 else if nI c' ≤ 1 then some 0 else if b32 cut' = 0 then if b32 fcut' = 0 then some (((1 : Int32) + nI d') + nI fd') else some 0 else some 0) = some (nI wv) ∧ ((if b32 ring' = 0 then some (0 : Int32) else if nI c' ≤ 1 then some 0 else if gp cut' d' = 0 then some 0 else if gp fcut' fd' = 0 then some 0 else some 1).bind (fun w26 => (if w26 = 0 then some 0 else some ((gp cut' d' + gp fcut' fd') - 1)))) = some (nI wv) := by
        cases ring' with
        | false => exact ⟨0, by omega, rfl, rfl⟩
        | true =>
          rw [if_neg (show ¬ b32 true = 0 by decide), if_neg (show ¬ b32 true = 0 by decide)]
          by_cases h1 : nI c' ≤ 1
          · rw [if_pos h1, if_pos h1]; exact ⟨0, by omega, rfl, rfl⟩
          · rw [if_neg h1, if_neg h1]
            cases cut' with
            | true => exact ⟨0, by omega, rfl, rfl⟩
            | false =>
              rw [if_pos (show b32 false = 0 from rfl), if_neg (show ¬ gp false d' = 0 from fun e => by have := (gp_0 false k3).mp e; cases this)]
              cases fcut' with
              | true => exact ⟨0, by omega, rfl, rfl⟩
              | false =>
                rw [if_pos (show b32 false = 0 from rfl), if_neg (show ¬ gp false fd' = 0 from fun e => by have := (gp_0 false k4).mp e; cases this), Option.bind_some, if_neg (show ¬ (1 : Int32) = 0 by decide)]
                refine ⟨1 + d' + fd', by omega, ?_, ?_⟩
                · rw [show (1 : Int32) = nI 1 from rfl, nI_add, nI_add]
                · show some (nI (1 + d') + nI (1 + fd') - 1) = _
                  rw [nI_add, show 1 + d' + (1 + fd') = 1 + d' + fd' + 1 by omega, nI_pred]
      have hall : ∀ j, ∃ v, j < c' → upd z' (c' - 1) (nI wv) j = nI v ∧ v ≤ 98 := by
        intro j
        by_cases hj : j < c'
        · by_cases e : j = c' - 1
          · exact ⟨wv, fun _ => ⟨by unfold upd; rw [if_pos e], hwv⟩⟩
          · obtain ⟨v, v1, v2⟩ := k5 j (by omega)
            exact ⟨v, fun _ => ⟨by unfold upd; rw [if_neg e]; exact v2, v1⟩⟩
        · exact ⟨0, fun e => absurd e hj⟩
      obtain ⟨st, hst⟩ := Classical.axiomOfChoice hall
      refine ⟨c', st, upd z' (c' - 1) (nI wv), hc1, k2, hst, ?_, nI d', b32 cut', nI fd', b32 fcut', b32 ring', z', nI wv, k7, hw1, ?_⟩
      · unfold f_X5_writeSteps
        rw [show f_X5_writeSteps_13 (nI cnt) f FU 0 1 1 0 0 z = _ from k6, Option.bind_some]
        dsimp only
        rw [if_neg (nI_nle (by omega) (by omega))]
        rw [← Option.bind_assoc, hw2, Option.bind_some, em, nu_set _ _ (show c' - 1 < 12 by omega) (by omega), Option.bind_some, Option.bind_some]
      · rw [em, nu_set _ _ (show c' - 1 < 12 by omega) (by omega)]
theorem m_room0 (f : Nat → Int32) : f_X11_room_188 FU 0 f = some (fun j => if j < 12 then 0 else f j) := by
  refine lp_at (fun m i z => f_X11_room_188 m (nI i) z) 12 (fun i => fun j => if j < i then 0 else f j) (by funext j; rfl) (by omega) ?_ ?_
  · intro m
    rw [f_X11_room_188_s, if_pos (by decide)]
  · intro m i hi
    rw [f_X11_room_188_s, if_neg (show ¬ (12 : Int32) ≤ nI i from ng_le (a := 12) (by omega) (by omega) hi), nu_set _ _ hi (by omega), Option.bind_some, nI_1, upd_lt (f := fun _ => 0) rfl]
end ST9
set_option maxHeartbeats 1000000 in
theorem s_room : St_room Inv := by
  intro v_pad_count v_pad_signs v_scene_seats v_scene_bear v_scene_comerCount v_scene_seenRows v_scene_steps v_scene_worths v_scene_comers v_scene_seen v_scene_seenLengths v_bench_apart v_bench_clash v_bench_neighbours v_trial_apart v_trial_clash v_trial_neighbours v_sitters_set v_sitters_bear v_sitters_nearest v_trialSitters_set v_trialSitters_bear v_trialSitters_nearest v_sets_size v_sets_places v_sets_filled v_sets_open v_sets_chance v_census_least v_census_most v_census_known v_census_wholeSets v_census_orders v_match_known v_match_kind v_match_wicked v_couples_count v_couples_lesser v_couples_greater v_couples_tooNear v_couples_clash v_passing_turnedAway v_passing_parts v_passing_habit v_passing_odds v_longRows_between v_signMany v_seats v_bearIs v_rowsAll v_awayUpper v_lower v_comerMany v_seenRows v_place v_isWriting v_signs v_links v_worths v_far v_mays v_rowsTo v_endIn v_ends v_pairSets v_awayIn v_now v_then v_comers v_seen v_seenMany v_kept v_isKept d0 d1 hI 
  obtain ⟨n, B, k, r, st, w, hb, sn, ln, cnt, hp, hs, he, hbn, hce, hma, hlr, hi0, hi1⟩ := hI
  obtain ⟨rfl, hcnt, rfl, rfl⟩ := hp
  obtain ⟨rfl, rfl, rfl, rfl, rfl, rfl, rfl, rfl, rfl⟩ := he
  obtain ⟨rfl, hn1, hn, rfl, hB1, hB4, rfl, hk, rfl, hr8, hst, hw, hcm, hsn⟩ := hs
  obtain ⟨z, e1, e2, e3⟩ := fault2 hcnt v_signs
  rcases e3 with rfl | ⟨p, hp, rfl⟩
  · obtain ⟨n', st', z', a1, a2, a3, a4, d, cut, fd, fcut, ring, z'', wv, a5, a6, a7⟩ := room2 hcnt v_signs v_links e1
    obtain ⟨g', g1, g2⟩ := x_measure (B := B) (g := v_bench_apart) (fc := v_bench_clash) (fb := v_bench_neighbours) (m := 0) a1 a2 (by omega) a3 (Nat.pos_of_ne_zero (by simp))
    obtain ⟨far', m1, m2⟩ := m_findFar (f := v_far) (m := 0) a1 a2 a3 (by omega)
    refine ⟨(nI n', 0, nI n', 0, z', (fun j => if j < 12 then 0 else v_worths j), g', (fun j => if j < n' then nI (clm (Dd n' (Ef n' st' 0)) B j n') else v_bench_clash j), (fun j => if j < n' then nI (nbr (Dd n' (Ef n' st' 0)) j n') else v_bench_neighbours j), 0, 0), (nI n', 0, nI n', 0, z', (fun j => if j < 12 then 0 else v_worths j), far'), ?_, ?_, rfl, n', B, k, 0, st', (fun _ => 0), hb, sn, ln, 0, ⟨rfl, by omega, rfl, rfl⟩, ⟨rfl, a1, a2, rfl, hB1, hB4, rfl, hk, rfl, by omega, a3, (fun j hj => ⟨by dsimp only; rw [if_pos (by omega)]; rfl, Nat.zero_le _⟩), hcm, fun q hq => by omega⟩, ⟨rfl, rfl, rfl, rfl, rfl, rfl, rfl, rfl, rfl⟩, ⟨g2, m2, fun j hj => by simp [hj], fun j hj => by simp [hj]⟩, Or.inl rfl, Or.inl rfl, hlr, hi0, hi1⟩
    · unfold f_X10_room f_X10_renew
      rw [e1, Option.bind_some, if_pos rfl, a4, Option.bind_some, x_fill 12 (by omega), Option.bind_some]
      dsimp only
      rw [show (0 : Int32) = nI 0 from rfl, g1, Option.bind_some, Option.bind_some]
    · unfold f_X11_room
      rw [e2, Option.bind_some, if_pos (by decide), a5, Option.bind_some]
      dsimp only
      rw [a6, Option.bind_some, a7, Option.bind_some, m_room0, Option.bind_some]
      rw [show (0 : Int32) = nI 0 from rfl, m1, Option.bind_some]
  · refine ⟨(-5, nI cnt, nI n, nI r, v_links, v_worths, v_bench_apart, v_bench_clash, v_bench_neighbours, v_census_known, v_match_known), (-5, nI cnt, nI n, nI r, v_links, v_worths, v_far), ?_, ?_, rfl, n, B, k, r, st, w, hb, sn, ln, cnt, ⟨rfl, hcnt, rfl, rfl⟩, ⟨rfl, hn1, hn, rfl, hB1, hB4, rfl, hk, rfl, hr8, hst, hw, hcm, hsn⟩, ⟨rfl, rfl, rfl, rfl, rfl, rfl, rfl, rfl, rfl⟩, hbn, hce, hma, hlr, hi0, hi1⟩
    · unfold f_X10_room
      rw [e1, Option.bind_some, if_neg (eO32_neg (by omega))]
    · unfold f_X11_room
      rw [e2, Option.bind_some, if_neg (nI_pos (by omega))]
