def f_X10_pairs (v_couples_count : Int32) (v_scene_seats : Int32) (v_scene_bear : Int32) (v_bench_apart : Nat → Int32) (v_couples_lesser : Nat → Int32) (v_couples_greater : Nat → Int32) (v_bench_clash : Nat → Int32) (v_couples_tooNear : Nat → Int32) (v_couples_clash : Nat → Int32) (v_sets_size : Int32) (v_sets_places : Int32) (v_sets_filled : Nat → Int32) (v_sets_open : Nat → Int32) (v_sitters_set : Int32) (v_sitters_bear : Int32) (v_sitters_nearest : Nat → Int32) (x1 : Int32) : Option (Int32 × Int32 × (Nat → Int32) × (Nat → Int32) × (Nat → Int32) × (Nat → Int32) × Int32 × Int32 × (Nat → Int32) × (Nat → Int32) × Int32 × Int32 × (Nat → Int32)) :=
  (f_X10_isWithin x1 (0 : Int32) (1 : Int32)).bind (fun u1 =>
  if u1 = 0 then
  some ((-2 : Int32), v_couples_count, v_couples_lesser, v_couples_greater, v_couples_tooNear, v_couples_clash, v_sets_size, v_sets_places, v_sets_filled, v_sets_open, v_sitters_set, v_sitters_bear, v_sitters_nearest)
  else
  (f_X2_list v_scene_seats v_bench_apart v_couples_lesser v_couples_greater v_bench_clash v_couples_tooNear).bind (fun u3 =>
  (if x1 = 0 then
  (f_X2_sitInTurn v_scene_seats v_scene_bear v_sitters_nearest u3.1 u3.2.1 u3.2.2.1 v_bench_apart).bind (fun u8 =>
  some (u8.1, v_couples_clash, v_sets_size, v_sets_places, v_sets_filled, v_sets_open, u8.2.1, u8.2.2.1, u8.2.2.2))
  else
  (f_X2_mostAtOnce u3.1 v_couples_clash u3.2.1 u3.2.2.1 u3.2.2.2 v_sets_filled v_sets_open).bind (fun u7 =>
  some (u7.1, u7.2.1, u7.2.2.1, u7.2.2.2.1, u7.2.2.2.2.1, u7.2.2.2.2.2, v_sitters_set, v_sitters_bear, v_sitters_nearest))).bind (fun w4 =>
  some (w4.1, u3.1, u3.2.1, u3.2.2.1, u3.2.2.2, w4.2.1, w4.2.2.1, w4.2.2.2.1, w4.2.2.2.2.1, w4.2.2.2.2.2.1, w4.2.2.2.2.2.2.1, w4.2.2.2.2.2.2.2.1, w4.2.2.2.2.2.2.2.2))))
set_option maxHeartbeats 4000000 in
set_option maxRecDepth 100000 in
theorem c_X10_pairs (l : Launch) (D : va_G) (cI cJ cZ cO : ClassId) (a_t a_pad a_scene a_images a_bench a_trial a_sitters a_trialSitters a_sets a_census a_match a_couples a_passing a_longRows a_couples_lesser a_couples_greater a_couples_tooNear a_couples_clash a_bench_apart a_bench_clash a_bench_neighbours a_scene_steps a_scene_worths a_scene_comers a_scene_seen a_scene_seenLengths a_sets_filled a_sets_open a_sets_chance a_sitters_nearest : Nat) (v_couples_count : Int32) (v_scene_seats : Int32) (v_scene_bear : Int32) (v_scene_comerCount : Int32) (v_scene_seenRows : Int32) (v_bench_apart : Nat → Int32) (v_couples_lesser : Nat → Int32) (v_couples_greater : Nat → Int32) (v_bench_clash : Nat → Int32) (v_couples_tooNear : Nat → Int32) (v_couples_clash : Nat → Int32) (v_sets_size : Int32) (v_sets_places : Int32) (v_sets_filled : Nat → Int32) (v_sets_open : Nat → Int32) (v_sitters_set : Int32) (v_sitters_bear : Int32) (v_sitters_nearest : Nat → Int32) (x1 : Int32) (out : Int32 × Int32 × (Nat → Int32) × (Nat → Int32) × (Nat → Int32) × (Nat → Int32) × Int32 × Int32 × (Nat → Int32) × (Nat → Int32) × Int32 × Int32 × (Nat → Int32)) (hf : f_X10_pairs v_couples_count v_scene_seats v_scene_bear v_bench_apart v_couples_lesser v_couples_greater v_bench_clash v_couples_tooNear v_couples_clash v_sets_size v_sets_places v_sets_filled v_sets_open v_sitters_set v_sitters_bear v_sitters_nearest x1 = some out) : MetR l yX10_pairs (Cond.code yX10_pairs cX10_pairs 2 (some .int) :: tbG) { frames := 3, cells := 0, slots := 0, locals := 67 } D (tyL cI cJ cZ cO) [.ref a_t, .int x1] [(a_t, .inr (10, [.ref a_pad, .ref a_scene, .ref a_images, .ref a_bench, .ref a_trial, .ref a_sitters, .ref a_trialSitters, .ref a_sets, .ref a_census, .ref a_match, .ref a_couples, .ref a_passing, .ref a_longRows])), (a_couples, .inr (2, [.ref a_couples_lesser, .ref a_couples_greater, .ref a_couples_tooNear, .ref a_couples_clash, .int v_couples_count])), (a_bench, .inr (0, [.ref a_scene, .ref a_bench_apart, .ref a_bench_clash, .ref a_bench_neighbours])), (a_scene, .inr (7, [.ref a_scene_steps, .ref a_scene_worths, .ref a_scene_comers, .ref a_scene_seen, .ref a_scene_seenLengths, .int v_scene_seats, .int v_scene_bear, .int v_scene_comerCount, .int v_scene_seenRows])), (a_bench_apart, eI cI 144 v_bench_apart), (a_couples_lesser, eI cI 12 v_couples_lesser), (a_couples_greater, eI cI 12 v_couples_greater), (a_bench_clash, eI cI 12 v_bench_clash), (a_couples_tooNear, eI cI 12 v_couples_tooNear), (a_couples_clash, eI cI 12 v_couples_clash), (a_sets, .inr (8, [.ref a_sets_filled, .ref a_sets_open, .ref a_sets_chance, .int v_sets_size, .int v_sets_places])), (a_sets_filled, eI cI 4096 v_sets_filled), (a_sets_open, eI cI 4096 v_sets_open), (a_sitters, .inr (9, [.ref a_bench, .ref a_sitters_nearest, .int v_sitters_set, .int v_sitters_bear])), (a_sitters_nearest, eI cI 12 v_sitters_nearest)] (some (.int out.1)) [(a_t, .inr (10, [.ref a_pad, .ref a_scene, .ref a_images, .ref a_bench, .ref a_trial, .ref a_sitters, .ref a_trialSitters, .ref a_sets, .ref a_census, .ref a_match, .ref a_couples, .ref a_passing, .ref a_longRows])), (a_couples, .inr (2, [.ref a_couples_lesser, .ref a_couples_greater, .ref a_couples_tooNear, .ref a_couples_clash, .int out.2.1])), (a_bench, .inr (0, [.ref a_scene, .ref a_bench_apart, .ref a_bench_clash, .ref a_bench_neighbours])), (a_scene, .inr (7, [.ref a_scene_steps, .ref a_scene_worths, .ref a_scene_comers, .ref a_scene_seen, .ref a_scene_seenLengths, .int v_scene_seats, .int v_scene_bear, .int v_scene_comerCount, .int v_scene_seenRows])), (a_bench_apart, eI cI 144 v_bench_apart), (a_couples_lesser, eI cI 12 out.2.2.1), (a_couples_greater, eI cI 12 out.2.2.2.1), (a_bench_clash, eI cI 12 v_bench_clash), (a_couples_tooNear, eI cI 12 out.2.2.2.2.1), (a_couples_clash, eI cI 12 out.2.2.2.2.2.1), (a_sets, .inr (8, [.ref a_sets_filled, .ref a_sets_open, .ref a_sets_chance, .int out.2.2.2.2.2.2.1, .int out.2.2.2.2.2.2.2.1])), (a_sets_filled, eI cI 4096 out.2.2.2.2.2.2.2.2.1), (a_sets_open, eI cI 4096 out.2.2.2.2.2.2.2.2.2.1), (a_sitters, .inr (9, [.ref a_bench, .ref a_sitters_nearest, .int out.2.2.2.2.2.2.2.2.2.2.1, .int out.2.2.2.2.2.2.2.2.2.2.2.1])), (a_sitters_nearest, eI cI 12 out.2.2.2.2.2.2.2.2.2.2.2.2)] := by
  refine ba_ofI RX10 [(0, .ref a_t), (1, .int x1)] (by decide +kernel) rfl (Nat.le_of_ble_eq_true rfl) rfl ?_
  intro p e s m args below meth c Q A Cx hP ret ls hl
  obtain ⟨⟨hx, hb, hml, hown, hts⟩, hK, hD, hA⟩ := id Cx
  have hS : va_S A s.heap s.heap [] := va_S.rf
  unfold f_X10_pairs at hf
  refine lv_iload_n hx hb dX10_pairs_0 rfl (lv_at hl 1 rfl) ?_
  refine lv_iconst (v := 0) hx hb dX10_pairs_1 (by decide) ?_
  refine lv_iconst (v := 1) hx hb dX10_pairs_2 (by decide) ?_
  obtain ⟨u1, hu1, hf⟩ := ob_b hf
  refine iv_X10_99 (As := [.int x1, .int (0 : Int32), .int (1 : Int32)]) (rest := []) (is := []) (X' := [(a_t, .inr (10, [.ref a_pad, .ref a_scene, .ref a_images, .ref a_bench, .ref a_trial, .ref a_sitters, .ref a_trialSitters, .ref a_sets, .ref a_census, .ref a_match, .ref a_couples, .ref a_passing, .ref a_longRows])), (a_couples, .inr (2, [.ref a_couples_lesser, .ref a_couples_greater, .ref a_couples_tooNear, .ref a_couples_clash, .int v_couples_count])), (a_bench, .inr (0, [.ref a_scene, .ref a_bench_apart, .ref a_bench_clash, .ref a_bench_neighbours])), (a_scene, .inr (7, [.ref a_scene_steps, .ref a_scene_worths, .ref a_scene_comers, .ref a_scene_seen, .ref a_scene_seenLengths, .int v_scene_seats, .int v_scene_bear, .int v_scene_comerCount, .int v_scene_seenRows])), (a_bench_apart, eI cI 144 v_bench_apart), (a_couples_lesser, eI cI 12 v_couples_lesser), (a_couples_greater, eI cI 12 v_couples_greater), (a_bench_clash, eI cI 12 v_bench_clash), (a_couples_tooNear, eI cI 12 v_couples_tooNear), (a_couples_clash, eI cI 12 v_couples_clash), (a_sets, .inr (8, [.ref a_sets_filled, .ref a_sets_open, .ref a_sets_chance, .int v_sets_size, .int v_sets_places])), (a_sets_filled, eI cI 4096 v_sets_filled), (a_sets_open, eI cI 4096 v_sets_open), (a_sitters, .inr (9, [.ref a_bench, .ref a_sitters_nearest, .int v_sitters_set, .int v_sitters_bear])), (a_sitters_nearest, eI cI 12 v_sitters_nearest)]) Cx (c_X10_isWithin l D cI cJ cZ cO  x1 (0 : Int32) (1 : Int32) u1 hu1) hP hS rfl rfl rfl rfl rfl rfl hl.1 (Nat.le_of_ble_eq_true rfl) dX10_pairs_3 rfl rfl ⟨Nat.le_of_ble_eq_true rfl, Nat.le_of_ble_eq_true rfl⟩ ⟨Nat.zero_le _, Nat.zero_le _⟩ rfl (fun H locs hP hS => ?_)
  refine lv_if_ne (tgt := 12) hx hb dX10_pairs_6 (by decide) (fun c2 => ?_) (fun c2 => ?_)
  · have hf := ob_f c2 hf
    refine lv_aload_n hx hb dX10_pairs_12 rfl (lv_at hl 0 rfl) ?_
    refine gf_X10_75 Cx hP 0 rfl rfl dX10_pairs_13 ?_
    refine lv_aload_n hx hb dX10_pairs_16 rfl (lv_at hl 0 rfl) ?_
    refine gf_X10_32 Cx hP 0 rfl rfl dX10_pairs_17 ?_
    obtain ⟨u3, hu3, hf⟩ := ob_b hf
    refine iv_X10_217 (As := [.ref a_bench]) (rest := []) (is := [1, 2, 3, 4, 5, 6, 7, 8]) (q0 := 1) (X' := [(a_t, .inr (10, [.ref a_pad, .ref a_scene, .ref a_images, .ref a_bench, .ref a_trial, .ref a_sitters, .ref a_trialSitters, .ref a_sets, .ref a_census, .ref a_match, .ref a_couples, .ref a_passing, .ref a_longRows])), (a_couples, .inr (2, [.ref a_couples_lesser, .ref a_couples_greater, .ref a_couples_tooNear, .ref a_couples_clash, .int u3.1])), (a_bench, .inr (0, [.ref a_scene, .ref a_bench_apart, .ref a_bench_clash, .ref a_bench_neighbours])), (a_scene, .inr (7, [.ref a_scene_steps, .ref a_scene_worths, .ref a_scene_comers, .ref a_scene_seen, .ref a_scene_seenLengths, .int v_scene_seats, .int v_scene_bear, .int v_scene_comerCount, .int v_scene_seenRows])), (a_bench_apart, eI cI 144 v_bench_apart), (a_couples_lesser, eI cI 12 u3.2.1), (a_couples_greater, eI cI 12 u3.2.2.1), (a_bench_clash, eI cI 12 v_bench_clash), (a_couples_tooNear, eI cI 12 u3.2.2.2), (a_couples_clash, eI cI 12 v_couples_clash), (a_sets, .inr (8, [.ref a_sets_filled, .ref a_sets_open, .ref a_sets_chance, .int v_sets_size, .int v_sets_places])), (a_sets_filled, eI cI 4096 v_sets_filled), (a_sets_open, eI cI 4096 v_sets_open), (a_sitters, .inr (9, [.ref a_bench, .ref a_sitters_nearest, .int v_sitters_set, .int v_sitters_bear])), (a_sitters_nearest, eI cI 12 v_sitters_nearest)]) Cx (c_X2_list l D cI cJ cZ cO a_couples a_couples_lesser a_couples_greater a_couples_tooNear a_couples_clash a_bench a_scene a_bench_apart a_bench_clash a_bench_neighbours a_scene_steps a_scene_worths a_scene_comers a_scene_seen a_scene_seenLengths v_couples_count v_scene_seats v_scene_bear v_scene_comerCount v_scene_seenRows v_bench_apart v_couples_lesser v_couples_greater v_bench_clash v_couples_tooNear u3 hu3) hP hS rfl rfl rfl rfl rfl rfl rfl hl.1 (Nat.le_of_ble_eq_true rfl) dX10_pairs_20 rfl rfl ⟨Nat.le_of_ble_eq_true rfl, Nat.le_of_ble_eq_true rfl⟩ ⟨Nat.zero_le _, Nat.zero_le _⟩ rfl (fun H locs hP hS => ?_)
    refine lv_iload_n hx hb dX10_pairs_23 rfl (lv_at hl 1 rfl) ?_
    refine ob_J (P := fun w4 => ∀ (H : Heap) (locs : List Loc) (ls : Array Slot), va_P D vwCl [(a_t, .inr (10, [.ref a_pad, .ref a_scene, .ref a_images, .ref a_bench, .ref a_trial, .ref a_sitters, .ref a_trialSitters, .ref a_sets, .ref a_census, .ref a_match, .ref a_couples, .ref a_passing, .ref a_longRows])), (a_couples, .inr (2, [.ref a_couples_lesser, .ref a_couples_greater, .ref a_couples_tooNear, .ref a_couples_clash, .int u3.1])), (a_bench, .inr (0, [.ref a_scene, .ref a_bench_apart, .ref a_bench_clash, .ref a_bench_neighbours])), (a_scene, .inr (7, [.ref a_scene_steps, .ref a_scene_worths, .ref a_scene_comers, .ref a_scene_seen, .ref a_scene_seenLengths, .int v_scene_seats, .int v_scene_bear, .int v_scene_comerCount, .int v_scene_seenRows])), (a_bench_apart, eI cI 144 v_bench_apart), (a_couples_lesser, eI cI 12 u3.2.1), (a_couples_greater, eI cI 12 u3.2.2.1), (a_bench_clash, eI cI 12 v_bench_clash), (a_couples_tooNear, eI cI 12 u3.2.2.2), (a_couples_clash, eI cI 12 w4.2.1), (a_sets, .inr (8, [.ref a_sets_filled, .ref a_sets_open, .ref a_sets_chance, .int w4.2.2.1, .int w4.2.2.2.1])), (a_sets_filled, eI cI 4096 w4.2.2.2.2.1), (a_sets_open, eI cI 4096 w4.2.2.2.2.2.1), (a_sitters, .inr (9, [.ref a_bench, .ref a_sitters_nearest, .int w4.2.2.2.2.2.2.1, .int w4.2.2.2.2.2.2.2.1])), (a_sitters_nearest, eI cI 12 w4.2.2.2.2.2.2.2.2)] H → va_S A s.heap H locs → lv_has ls 2 [] → W p l e { frames := 3, cells := 0, slots := 0, locals := 67 } s m args below meth c H locs 0 0 Q (F0 m 52 ls [.int w4.1])) hf ?_ ?_
    · intro w4 hf H locs ls hP hS hl
      obtain rfl := Option.some.inj hf
      exact ret _ _ _ _ dX10_pairs_52 hP hS
    · intro J52_5 hf
      refine lv_if_ne (tgt := 41) hx hb dX10_pairs_24 (by decide) (fun c6 => ?_) (fun c6 => ?_)
      · have hf := ob_fk c6 hf
        refine lv_aload_n hx hb dX10_pairs_41 rfl (lv_at hl 0 rfl) ?_
        refine gf_X10_75 Cx hP 0 rfl rfl dX10_pairs_42 ?_
        refine lv_aload_n hx hb dX10_pairs_45 rfl (lv_at hl 0 rfl) ?_
        refine gf_X10_54 Cx hP 0 rfl rfl dX10_pairs_46 ?_
        obtain ⟨u7, hu7, hf⟩ := ob_bk hf
        refine iv_X10_224 (As := [.ref a_sets]) (rest := []) (is := [1, 9, 5, 6, 8, 10, 11, 12]) (q0 := 1) (X' := [(a_t, .inr (10, [.ref a_pad, .ref a_scene, .ref a_images, .ref a_bench, .ref a_trial, .ref a_sitters, .ref a_trialSitters, .ref a_sets, .ref a_census, .ref a_match, .ref a_couples, .ref a_passing, .ref a_longRows])), (a_couples, .inr (2, [.ref a_couples_lesser, .ref a_couples_greater, .ref a_couples_tooNear, .ref a_couples_clash, .int u3.1])), (a_bench, .inr (0, [.ref a_scene, .ref a_bench_apart, .ref a_bench_clash, .ref a_bench_neighbours])), (a_scene, .inr (7, [.ref a_scene_steps, .ref a_scene_worths, .ref a_scene_comers, .ref a_scene_seen, .ref a_scene_seenLengths, .int v_scene_seats, .int v_scene_bear, .int v_scene_comerCount, .int v_scene_seenRows])), (a_bench_apart, eI cI 144 v_bench_apart), (a_couples_lesser, eI cI 12 u3.2.1), (a_couples_greater, eI cI 12 u3.2.2.1), (a_bench_clash, eI cI 12 v_bench_clash), (a_couples_tooNear, eI cI 12 u3.2.2.2), (a_couples_clash, eI cI 12 u7.2.1), (a_sets, .inr (8, [.ref a_sets_filled, .ref a_sets_open, .ref a_sets_chance, .int u7.2.2.1, .int u7.2.2.2.1])), (a_sets_filled, eI cI 4096 u7.2.2.2.2.1), (a_sets_open, eI cI 4096 u7.2.2.2.2.2), (a_sitters, .inr (9, [.ref a_bench, .ref a_sitters_nearest, .int v_sitters_set, .int v_sitters_bear])), (a_sitters_nearest, eI cI 12 v_sitters_nearest)]) Cx (c_X2_mostAtOnce l D cI cJ cZ cO a_couples a_couples_lesser a_couples_greater a_couples_tooNear a_couples_clash a_sets a_sets_filled a_sets_open a_sets_chance u3.1 v_couples_clash u3.2.1 u3.2.2.1 u3.2.2.2 v_sets_size v_sets_places v_sets_filled v_sets_open u7 hu7) hP hS rfl rfl rfl rfl rfl rfl rfl hl.1 (Nat.le_of_ble_eq_true rfl) dX10_pairs_49 rfl rfl ⟨Nat.le_of_ble_eq_true rfl, Nat.le_of_ble_eq_true rfl⟩ ⟨Nat.zero_le _, Nat.zero_le _⟩ rfl (fun H locs hP hS => ?_)
        exact J52_5 (u7.1, u7.2.1, u7.2.2.1, u7.2.2.2.1, u7.2.2.2.2.1, u7.2.2.2.2.2, v_sitters_set, v_sitters_bear, v_sitters_nearest) hf _ _ _ hP hS (lv_sub hl [] rfl)
      · have hf := ob_tk c6 hf
        refine lv_aload_n hx hb dX10_pairs_27 rfl (lv_at hl 0 rfl) ?_
        refine gf_X10_75 Cx hP 0 rfl rfl dX10_pairs_28 ?_
        refine lv_aload_n hx hb dX10_pairs_31 rfl (lv_at hl 0 rfl) ?_
        refine gf_X10_44 Cx hP 0 rfl rfl dX10_pairs_32 ?_
        obtain ⟨u8, hu8, hf⟩ := ob_bk hf
        refine iv_X10_220 (As := [.ref a_sitters]) (rest := []) (is := [13, 2, 3, 14, 1, 5, 6, 4]) (q0 := 1) (X' := [(a_t, .inr (10, [.ref a_pad, .ref a_scene, .ref a_images, .ref a_bench, .ref a_trial, .ref a_sitters, .ref a_trialSitters, .ref a_sets, .ref a_census, .ref a_match, .ref a_couples, .ref a_passing, .ref a_longRows])), (a_couples, .inr (2, [.ref a_couples_lesser, .ref a_couples_greater, .ref a_couples_tooNear, .ref a_couples_clash, .int u3.1])), (a_bench, .inr (0, [.ref a_scene, .ref a_bench_apart, .ref a_bench_clash, .ref a_bench_neighbours])), (a_scene, .inr (7, [.ref a_scene_steps, .ref a_scene_worths, .ref a_scene_comers, .ref a_scene_seen, .ref a_scene_seenLengths, .int v_scene_seats, .int v_scene_bear, .int v_scene_comerCount, .int v_scene_seenRows])), (a_bench_apart, eI cI 144 v_bench_apart), (a_couples_lesser, eI cI 12 u3.2.1), (a_couples_greater, eI cI 12 u3.2.2.1), (a_bench_clash, eI cI 12 v_bench_clash), (a_couples_tooNear, eI cI 12 u3.2.2.2), (a_couples_clash, eI cI 12 v_couples_clash), (a_sets, .inr (8, [.ref a_sets_filled, .ref a_sets_open, .ref a_sets_chance, .int v_sets_size, .int v_sets_places])), (a_sets_filled, eI cI 4096 v_sets_filled), (a_sets_open, eI cI 4096 v_sets_open), (a_sitters, .inr (9, [.ref a_bench, .ref a_sitters_nearest, .int u8.2.1, .int u8.2.2.1])), (a_sitters_nearest, eI cI 12 u8.2.2.2)]) Cx (c_X2_sitInTurn l D cI cJ cZ cO a_sitters a_bench a_sitters_nearest a_scene a_bench_apart a_bench_clash a_bench_neighbours a_scene_steps a_scene_worths a_scene_comers a_scene_seen a_scene_seenLengths a_couples a_couples_lesser a_couples_greater a_couples_tooNear a_couples_clash v_sitters_set v_sitters_bear v_scene_seats v_scene_bear v_scene_comerCount v_scene_seenRows v_sitters_nearest u3.1 u3.2.1 u3.2.2.1 v_bench_apart u8 hu8) hP hS rfl rfl rfl rfl rfl rfl rfl hl.1 (Nat.le_of_ble_eq_true rfl) dX10_pairs_35 rfl rfl ⟨Nat.le_of_ble_eq_true rfl, Nat.le_of_ble_eq_true rfl⟩ ⟨Nat.zero_le _, Nat.zero_le _⟩ rfl (fun H locs hP hS => ?_)
        refine lv_goto (tgt := 52) hx hb dX10_pairs_38 (by decide) ?_
        exact J52_5 (u8.1, v_couples_clash, v_sets_size, v_sets_places, v_sets_filled, v_sets_open, u8.2.1, u8.2.2.1, u8.2.2.2) hf _ _ _ hP hS (lv_sub hl [] rfl)
  · have hf := ob_t c2 hf
    refine lv_bipush (v := (-2)) hx hb dX10_pairs_9 (by decide) ?_
    obtain rfl := Option.some.inj hf
    exact ret _ _ _ _ dX10_pairs_11 hP hS

def f_X10_late_40 (v_scene_seats : Int32) (v_scene_worths : Nat → Int32) (v_bench_neighbours : Nat → Int32) (v_bench_apart : Nat → Int32) (x1 : Int32) (x2 : Int32) : Nat → Int32 → Int32 → Int32 → (Nat → Int32) → Option (Int32 × Int32 × (Nat → Int32))
  | 0, _, _, _, _ => none
  | n + 1, y3_40, z_sitters_set_40, z_sitters_bear_40, z_sitters_nearest_40 =>
  if y3_40 < x2 then
  some (z_sitters_set_40, z_sitters_bear_40, z_sitters_nearest_40)
  else
  (f_X9_fillUp z_sitters_set_40 y3_40 v_scene_seats z_sitters_nearest_40 v_scene_worths v_bench_neighbours v_bench_apart x1).bind (fun u8 =>
  f_X10_late_40 v_scene_seats v_scene_worths v_bench_neighbours v_bench_apart x1 x2 n (y3_40 + (-1)) u8.1 y3_40 u8.2)
theorem f_X10_late_40_s (v_scene_seats : Int32) (v_scene_worths : Nat → Int32) (v_bench_neighbours : Nat → Int32) (v_bench_apart : Nat → Int32) (x1 : Int32) (x2 : Int32) (n : Nat) (y3_40 : Int32) (z_sitters_set_40 : Int32) (z_sitters_bear_40 : Int32) (z_sitters_nearest_40 : Nat → Int32) : f_X10_late_40 v_scene_seats v_scene_worths v_bench_neighbours v_bench_apart x1 x2 (n + 1) y3_40 z_sitters_set_40 z_sitters_bear_40 z_sitters_nearest_40 =
  (if y3_40 < x2 then
  some (z_sitters_set_40, z_sitters_bear_40, z_sitters_nearest_40)
  else
  (f_X9_fillUp z_sitters_set_40 y3_40 v_scene_seats z_sitters_nearest_40 v_scene_worths v_bench_neighbours v_bench_apart x1).bind (fun u8 =>
  f_X10_late_40 v_scene_seats v_scene_worths v_bench_neighbours v_bench_apart x1 x2 n (y3_40 + (-1)) u8.1 y3_40 u8.2)) := rfl
def f_X10_late (v_scene_seats : Int32) (v_scene_bear : Int32) (v_sitters_set : Int32) (v_sitters_bear : Int32) (v_sitters_nearest : Nat → Int32) (v_scene_worths : Nat → Int32) (v_bench_neighbours : Nat → Int32) (v_bench_apart : Nat → Int32) (x1 : Int32) (x2 : Int32) : Option (Int32 × Int32 × Int32 × (Nat → Int32)) :=
  (f_X10_isHabit x1).bind (fun u1 =>
  if u1 = 0 then
  some ((-2 : Int32), v_sitters_set, v_sitters_bear, v_sitters_nearest)
  else
  (f_X10_isWithin x2 (1 : Int32) v_scene_bear).bind (fun u3 =>
  if u3 = 0 then
  some ((-2 : Int32), v_sitters_set, v_sitters_bear, v_sitters_nearest)
  else
  (f_X9_leave v_scene_bear v_sitters_nearest).bind (fun u5 =>
  (f_X10_late_40 v_scene_seats v_scene_worths v_bench_neighbours v_bench_apart x1 x2 FU v_scene_bear u5.1 u5.2.1 u5.2.2).bind (fun u9 =>
  (f_X9_number u9.1).bind (fun u10 =>
  some (u10, u9.1, u9.2.1, u9.2.2))))))
set_option maxHeartbeats 4000000 in
set_option maxRecDepth 100000 in
theorem c_X10_late (l : Launch) (D : va_G) (cI cJ cZ cO : ClassId) (a_t a_pad a_scene a_images a_bench a_trial a_sitters a_trialSitters a_sets a_census a_match a_couples a_passing a_longRows a_scene_steps a_scene_worths a_scene_comers a_scene_seen a_scene_seenLengths a_sitters_nearest a_bench_apart a_bench_clash a_bench_neighbours : Nat) (v_scene_seats : Int32) (v_scene_bear : Int32) (v_scene_comerCount : Int32) (v_scene_seenRows : Int32) (v_sitters_set : Int32) (v_sitters_bear : Int32) (v_sitters_nearest : Nat → Int32) (v_scene_worths : Nat → Int32) (v_bench_neighbours : Nat → Int32) (v_bench_apart : Nat → Int32) (x1 : Int32) (x2 : Int32) (out : Int32 × Int32 × Int32 × (Nat → Int32)) (hf : f_X10_late v_scene_seats v_scene_bear v_sitters_set v_sitters_bear v_sitters_nearest v_scene_worths v_bench_neighbours v_bench_apart x1 x2 = some out) : MetR l yX10_late (Cond.code yX10_late cX10_late 4 (some .int) :: tbG) { frames := 3, cells := 0, slots := 0, locals := 70 } D (tyL cI cJ cZ cO) [.ref a_t, .int x1, .int x2] [(a_t, .inr (10, [.ref a_pad, .ref a_scene, .ref a_images, .ref a_bench, .ref a_trial, .ref a_sitters, .ref a_trialSitters, .ref a_sets, .ref a_census, .ref a_match, .ref a_couples, .ref a_passing, .ref a_longRows])), (a_scene, .inr (7, [.ref a_scene_steps, .ref a_scene_worths, .ref a_scene_comers, .ref a_scene_seen, .ref a_scene_seenLengths, .int v_scene_seats, .int v_scene_bear, .int v_scene_comerCount, .int v_scene_seenRows])), (a_sitters, .inr (9, [.ref a_bench, .ref a_sitters_nearest, .int v_sitters_set, .int v_sitters_bear])), (a_bench, .inr (0, [.ref a_scene, .ref a_bench_apart, .ref a_bench_clash, .ref a_bench_neighbours])), (a_sitters_nearest, eI cI 12 v_sitters_nearest), (a_scene_worths, eI cI 12 v_scene_worths), (a_bench_neighbours, eI cI 12 v_bench_neighbours), (a_bench_apart, eI cI 144 v_bench_apart)] (some (.int out.1)) [(a_t, .inr (10, [.ref a_pad, .ref a_scene, .ref a_images, .ref a_bench, .ref a_trial, .ref a_sitters, .ref a_trialSitters, .ref a_sets, .ref a_census, .ref a_match, .ref a_couples, .ref a_passing, .ref a_longRows])), (a_scene, .inr (7, [.ref a_scene_steps, .ref a_scene_worths, .ref a_scene_comers, .ref a_scene_seen, .ref a_scene_seenLengths, .int v_scene_seats, .int v_scene_bear, .int v_scene_comerCount, .int v_scene_seenRows])), (a_sitters, .inr (9, [.ref a_bench, .ref a_sitters_nearest, .int out.2.1, .int out.2.2.1])), (a_bench, .inr (0, [.ref a_scene, .ref a_bench_apart, .ref a_bench_clash, .ref a_bench_neighbours])), (a_sitters_nearest, eI cI 12 out.2.2.2), (a_scene_worths, eI cI 12 v_scene_worths), (a_bench_neighbours, eI cI 12 v_bench_neighbours), (a_bench_apart, eI cI 144 v_bench_apart)] := by
  refine ba_ofI RX10 [(0, .ref a_t), (1, .int x1), (2, .int x2)] (by decide +kernel) rfl (Nat.le_of_ble_eq_true rfl) rfl ?_
  intro p e s m args below meth c Q A Cx hP ret ls hl
  obtain ⟨⟨hx, hb, hml, hown, hts⟩, hK, hD, hA⟩ := id Cx
  have hS : va_S A s.heap s.heap [] := va_S.rf
  unfold f_X10_late at hf
  refine lv_iload_n hx hb dX10_late_0 rfl (lv_at hl 1 rfl) ?_
  obtain ⟨u1, hu1, hf⟩ := ob_b hf
  refine iv_X10_158 (As := [.int x1]) (rest := []) (is := []) (X' := [(a_t, .inr (10, [.ref a_pad, .ref a_scene, .ref a_images, .ref a_bench, .ref a_trial, .ref a_sitters, .ref a_trialSitters, .ref a_sets, .ref a_census, .ref a_match, .ref a_couples, .ref a_passing, .ref a_longRows])), (a_scene, .inr (7, [.ref a_scene_steps, .ref a_scene_worths, .ref a_scene_comers, .ref a_scene_seen, .ref a_scene_seenLengths, .int v_scene_seats, .int v_scene_bear, .int v_scene_comerCount, .int v_scene_seenRows])), (a_sitters, .inr (9, [.ref a_bench, .ref a_sitters_nearest, .int v_sitters_set, .int v_sitters_bear])), (a_bench, .inr (0, [.ref a_scene, .ref a_bench_apart, .ref a_bench_clash, .ref a_bench_neighbours])), (a_sitters_nearest, eI cI 12 v_sitters_nearest), (a_scene_worths, eI cI 12 v_scene_worths), (a_bench_neighbours, eI cI 12 v_bench_neighbours), (a_bench_apart, eI cI 144 v_bench_apart)]) Cx (c_X10_isHabit l D cI cJ cZ cO  x1 u1 hu1) hP hS rfl rfl rfl rfl rfl rfl hl.1 (Nat.le_of_ble_eq_true rfl) dX10_late_1 rfl rfl ⟨Nat.le_of_ble_eq_true rfl, Nat.le_of_ble_eq_true rfl⟩ ⟨Nat.zero_le _, Nat.zero_le _⟩ rfl (fun H locs hP hS => ?_)
  refine lv_if_eq (tgt := 22) hx hb dX10_late_4 (by decide) (fun c2 => ?_) (fun c2 => ?_)
  · have hf := ob_t c2 hf
    refine lv_bipush (v := (-2)) hx hb dX10_late_22 (by decide) ?_
    obtain rfl := Option.some.inj hf
    exact ret _ _ _ _ dX10_late_24 hP hS
  · have hf := ob_f c2 hf
    refine lv_iload_n hx hb dX10_late_7 rfl (lv_at hl 2 rfl) ?_
    refine lv_iconst (v := 1) hx hb dX10_late_8 (by decide) ?_
    refine lv_aload_n hx hb dX10_late_9 rfl (lv_at hl 0 rfl) ?_
    refine gf_X10_19 Cx hP 0 rfl rfl dX10_late_10 ?_
    refine gf_X10_144 Cx hP 1 rfl rfl dX10_late_13 ?_
    obtain ⟨u3, hu3, hf⟩ := ob_b hf
    refine iv_X10_99 (As := [.int x2, .int (1 : Int32), .int v_scene_bear]) (rest := []) (is := []) (X' := [(a_t, .inr (10, [.ref a_pad, .ref a_scene, .ref a_images, .ref a_bench, .ref a_trial, .ref a_sitters, .ref a_trialSitters, .ref a_sets, .ref a_census, .ref a_match, .ref a_couples, .ref a_passing, .ref a_longRows])), (a_scene, .inr (7, [.ref a_scene_steps, .ref a_scene_worths, .ref a_scene_comers, .ref a_scene_seen, .ref a_scene_seenLengths, .int v_scene_seats, .int v_scene_bear, .int v_scene_comerCount, .int v_scene_seenRows])), (a_sitters, .inr (9, [.ref a_bench, .ref a_sitters_nearest, .int v_sitters_set, .int v_sitters_bear])), (a_bench, .inr (0, [.ref a_scene, .ref a_bench_apart, .ref a_bench_clash, .ref a_bench_neighbours])), (a_sitters_nearest, eI cI 12 v_sitters_nearest), (a_scene_worths, eI cI 12 v_scene_worths), (a_bench_neighbours, eI cI 12 v_bench_neighbours), (a_bench_apart, eI cI 144 v_bench_apart)]) Cx (c_X10_isWithin l D cI cJ cZ cO  x2 (1 : Int32) v_scene_bear u3 hu3) hP hS rfl rfl rfl rfl rfl rfl hl.1 (Nat.le_of_ble_eq_true rfl) dX10_late_16 rfl rfl ⟨Nat.le_of_ble_eq_true rfl, Nat.le_of_ble_eq_true rfl⟩ ⟨Nat.zero_le _, Nat.zero_le _⟩ rfl (fun H locs hP hS => ?_)
    refine lv_if_ne (tgt := 25) hx hb dX10_late_19 (by decide) (fun c4 => ?_) (fun c4 => ?_)
    · have hf := ob_f c4 hf
      refine lv_aload_n hx hb dX10_late_25 rfl (lv_at hl 0 rfl) ?_
      refine gf_X10_44 Cx hP 0 rfl rfl dX10_late_26 ?_
      obtain ⟨u5, hu5, hf⟩ := ob_b hf
      refine iv_X10_228 (As := []) (rest := []) (is := [2, 3, 1, 4]) (q0 := 2) (X' := [(a_t, .inr (10, [.ref a_pad, .ref a_scene, .ref a_images, .ref a_bench, .ref a_trial, .ref a_sitters, .ref a_trialSitters, .ref a_sets, .ref a_census, .ref a_match, .ref a_couples, .ref a_passing, .ref a_longRows])), (a_scene, .inr (7, [.ref a_scene_steps, .ref a_scene_worths, .ref a_scene_comers, .ref a_scene_seen, .ref a_scene_seenLengths, .int v_scene_seats, .int v_scene_bear, .int v_scene_comerCount, .int v_scene_seenRows])), (a_sitters, .inr (9, [.ref a_bench, .ref a_sitters_nearest, .int u5.1, .int u5.2.1])), (a_bench, .inr (0, [.ref a_scene, .ref a_bench_apart, .ref a_bench_clash, .ref a_bench_neighbours])), (a_sitters_nearest, eI cI 12 u5.2.2), (a_scene_worths, eI cI 12 v_scene_worths), (a_bench_neighbours, eI cI 12 v_bench_neighbours), (a_bench_apart, eI cI 144 v_bench_apart)]) Cx (c_X9_leave l D cI cJ cZ cO a_sitters a_bench a_sitters_nearest a_scene a_bench_apart a_bench_clash a_bench_neighbours a_scene_steps a_scene_worths a_scene_comers a_scene_seen a_scene_seenLengths v_sitters_set v_sitters_bear v_scene_seats v_scene_bear v_scene_comerCount v_scene_seenRows v_sitters_nearest u5 hu5) hP hS rfl rfl rfl rfl rfl rfl rfl hl.1 (Nat.le_of_ble_eq_true rfl) dX10_late_29 rfl rfl ⟨Nat.le_of_ble_eq_true rfl, Nat.le_of_ble_eq_true rfl⟩ ⟨Nat.zero_le _, Nat.zero_le _⟩ rfl (fun H locs hP hS => ?_)
      refine lv_aload_n hx hb dX10_late_32 rfl (lv_at hl 0 rfl) ?_
      refine gf_X10_19 Cx hP 0 rfl rfl dX10_late_33 ?_
      refine gf_X10_144 Cx hP 1 rfl rfl dX10_late_36 ?_
      refine lv_istore_n (lv' := [(3, .int v_scene_bear), (0, .ref a_t), (1, .int x1), (2, .int x2)]) hx hb dX10_late_39 rfl hl (by decide) rfl (fun ls hl => ?_)
      have L40_6 : ∀ (n : Nat) (y3_40 : Int32) (z_sitters_set_40 : Int32) (z_sitters_bear_40 : Int32) (z_sitters_nearest_40 : Nat → Int32) (o : Int32 × Int32 × (Nat → Int32)) (H : Heap) (locs : List Loc) (ls : Array Slot), f_X10_late_40 v_scene_seats v_scene_worths v_bench_neighbours v_bench_apart x1 x2 n y3_40 z_sitters_set_40 z_sitters_bear_40 z_sitters_nearest_40 = some o → va_P D vwCl [(a_t, .inr (10, [.ref a_pad, .ref a_scene, .ref a_images, .ref a_bench, .ref a_trial, .ref a_sitters, .ref a_trialSitters, .ref a_sets, .ref a_census, .ref a_match, .ref a_couples, .ref a_passing, .ref a_longRows])), (a_scene, .inr (7, [.ref a_scene_steps, .ref a_scene_worths, .ref a_scene_comers, .ref a_scene_seen, .ref a_scene_seenLengths, .int v_scene_seats, .int v_scene_bear, .int v_scene_comerCount, .int v_scene_seenRows])), (a_sitters, .inr (9, [.ref a_bench, .ref a_sitters_nearest, .int z_sitters_set_40, .int z_sitters_bear_40])), (a_bench, .inr (0, [.ref a_scene, .ref a_bench_apart, .ref a_bench_clash, .ref a_bench_neighbours])), (a_sitters_nearest, eI cI 12 z_sitters_nearest_40), (a_scene_worths, eI cI 12 v_scene_worths), (a_bench_neighbours, eI cI 12 v_bench_neighbours), (a_bench_apart, eI cI 144 v_bench_apart)] H → va_S A s.heap H locs → lv_has ls 4 [(0, .ref a_t), (1, .int x1), (2, .int x2), (3, .int y3_40)] → (∀ (H : Heap) (locs : List Loc) (ls : Array Slot), va_P D vwCl [(a_t, .inr (10, [.ref a_pad, .ref a_scene, .ref a_images, .ref a_bench, .ref a_trial, .ref a_sitters, .ref a_trialSitters, .ref a_sets, .ref a_census, .ref a_match, .ref a_couples, .ref a_passing, .ref a_longRows])), (a_scene, .inr (7, [.ref a_scene_steps, .ref a_scene_worths, .ref a_scene_comers, .ref a_scene_seen, .ref a_scene_seenLengths, .int v_scene_seats, .int v_scene_bear, .int v_scene_comerCount, .int v_scene_seenRows])), (a_sitters, .inr (9, [.ref a_bench, .ref a_sitters_nearest, .int o.1, .int o.2.1])), (a_bench, .inr (0, [.ref a_scene, .ref a_bench_apart, .ref a_bench_clash, .ref a_bench_neighbours])), (a_sitters_nearest, eI cI 12 o.2.2), (a_scene_worths, eI cI 12 v_scene_worths), (a_bench_neighbours, eI cI 12 v_bench_neighbours), (a_bench_apart, eI cI 144 v_bench_apart)] H → va_S A s.heap H locs → lv_has ls 4 [(0, .ref a_t)] → W p l e { frames := 3, cells := 0, slots := 0, locals := 70 } s m args below meth c H locs 0 0 Q (F0 m 67 ls [])) → W p l e { frames := 3, cells := 0, slots := 0, locals := 70 } s m args below meth c H locs 0 0 Q (F0 m 40 ls []) := by
        intro n
        induction n with
        | zero => intro y3_40 z_sitters_set_40 z_sitters_bear_40 z_sitters_nearest_40 o H locs ls hf; exact (ob_n hf).elim
        | succ n ih =>
          intro y3_40 z_sitters_set_40 z_sitters_bear_40 z_sitters_nearest_40 o H locs ls hf hP hS hl kk
          rw [f_X10_late_40_s] at hf
          refine lv_iload_n hx hb dX10_late_40 rfl (lv_at hl 3 rfl) ?_
          refine lv_iload_n hx hb dX10_late_41 rfl (lv_at hl 2 rfl) ?_
          refine lv_icmp_lt (tgt := 67) hx hb dX10_late_42 (by decide) (fun c7 => ?_) (fun c7 => ?_)
          · have hf := ob_t c7 hf
            obtain rfl := Option.some.inj hf
            exact kk _ _ _ hP hS (lv_sub hl [0] rfl)
          · have hf := ob_f c7 hf
            refine lv_aload_n hx hb dX10_late_45 rfl (lv_at hl 0 rfl) ?_
            refine gf_X10_44 Cx hP 0 rfl rfl dX10_late_46 ?_
            refine lv_iload_n hx hb dX10_late_49 rfl (lv_at hl 3 rfl) ?_
            refine pf_X10_231 (X' := [(a_t, .inr (10, [.ref a_pad, .ref a_scene, .ref a_images, .ref a_bench, .ref a_trial, .ref a_sitters, .ref a_trialSitters, .ref a_sets, .ref a_census, .ref a_match, .ref a_couples, .ref a_passing, .ref a_longRows])), (a_scene, .inr (7, [.ref a_scene_steps, .ref a_scene_worths, .ref a_scene_comers, .ref a_scene_seen, .ref a_scene_seenLengths, .int v_scene_seats, .int v_scene_bear, .int v_scene_comerCount, .int v_scene_seenRows])), (a_sitters, .inr (9, [.ref a_bench, .ref a_sitters_nearest, .int z_sitters_set_40, .int y3_40])), (a_bench, .inr (0, [.ref a_scene, .ref a_bench_apart, .ref a_bench_clash, .ref a_bench_neighbours])), (a_sitters_nearest, eI cI 12 z_sitters_nearest_40), (a_scene_worths, eI cI 12 v_scene_worths), (a_bench_neighbours, eI cI 12 v_bench_neighbours), (a_bench_apart, eI cI 144 v_bench_apart)]) Cx hP hS rfl 2 rfl rfl (Nat.le_of_ble_eq_true rfl) dX10_late_50 (fun H locs hP hS => ?_)
            refine lv_aload_n hx hb dX10_late_53 rfl (lv_at hl 0 rfl) ?_
            refine gf_X10_44 Cx hP 0 rfl rfl dX10_late_54 ?_
            refine lv_iload_n hx hb dX10_late_57 rfl (lv_at hl 1 rfl) ?_
            obtain ⟨u8, hu8, hf⟩ := ob_b hf
            refine iv_X10_164 (As := [.int x1]) (rest := []) (is := [2, 3, 1, 4, 5, 6, 7]) (q0 := 2) (X' := [(a_t, .inr (10, [.ref a_pad, .ref a_scene, .ref a_images, .ref a_bench, .ref a_trial, .ref a_sitters, .ref a_trialSitters, .ref a_sets, .ref a_census, .ref a_match, .ref a_couples, .ref a_passing, .ref a_longRows])), (a_scene, .inr (7, [.ref a_scene_steps, .ref a_scene_worths, .ref a_scene_comers, .ref a_scene_seen, .ref a_scene_seenLengths, .int v_scene_seats, .int v_scene_bear, .int v_scene_comerCount, .int v_scene_seenRows])), (a_sitters, .inr (9, [.ref a_bench, .ref a_sitters_nearest, .int u8.1, .int y3_40])), (a_bench, .inr (0, [.ref a_scene, .ref a_bench_apart, .ref a_bench_clash, .ref a_bench_neighbours])), (a_sitters_nearest, eI cI 12 u8.2), (a_scene_worths, eI cI 12 v_scene_worths), (a_bench_neighbours, eI cI 12 v_bench_neighbours), (a_bench_apart, eI cI 144 v_bench_apart)]) Cx (c_X9_fillUp l D cI cJ cZ cO a_sitters a_bench a_sitters_nearest a_scene a_bench_apart a_bench_clash a_bench_neighbours a_scene_steps a_scene_worths a_scene_comers a_scene_seen a_scene_seenLengths z_sitters_set_40 y3_40 v_scene_seats v_scene_bear v_scene_comerCount v_scene_seenRows z_sitters_nearest_40 v_scene_worths v_bench_neighbours v_bench_apart x1 u8 hu8) hP hS rfl rfl rfl rfl rfl rfl rfl hl.1 (Nat.le_of_ble_eq_true rfl) dX10_late_58 rfl rfl ⟨Nat.le_of_ble_eq_true rfl, Nat.le_of_ble_eq_true rfl⟩ ⟨Nat.zero_le _, Nat.zero_le _⟩ rfl (fun H locs hP hS => ?_)
            refine lv_iinc (v := (y3_40 + (-1))) (lv' := [(3, .int (y3_40 + (-1))), (0, .ref a_t), (1, .int x1), (2, .int x2)]) hx hb dX10_late_61 hl (k := 3) rfl rfl (by decide) rfl (fun ls hl => ?_)
            refine lv_goto (tgt := 40) hx hb dX10_late_64 (by decide) ?_
            exact ih (y3_40 + (-1)) u8.1 y3_40 u8.2 _ _ _ _ hf hP hS (lv_sub hl [1, 2, 3, 0] rfl) kk
      obtain ⟨u9, hu9, hf⟩ := ob_b hf
      refine L40_6 FU v_scene_bear u5.1 u5.2.1 u5.2.2 u9 _ _ _ hu9 hP hS (lv_sub hl [1, 2, 3, 0] rfl) ?_
      intro H locs ls hP hS hl
      refine lv_aload_n hx hb dX10_late_67 rfl (lv_at hl 0 rfl) ?_
      refine gf_X10_44 Cx hP 0 rfl rfl dX10_late_68 ?_
      obtain ⟨u10, hu10, hf⟩ := ob_b hf
      refine iv_X10_232 (As := []) (rest := []) (is := [2]) (q0 := 2) (X' := [(a_t, .inr (10, [.ref a_pad, .ref a_scene, .ref a_images, .ref a_bench, .ref a_trial, .ref a_sitters, .ref a_trialSitters, .ref a_sets, .ref a_census, .ref a_match, .ref a_couples, .ref a_passing, .ref a_longRows])), (a_scene, .inr (7, [.ref a_scene_steps, .ref a_scene_worths, .ref a_scene_comers, .ref a_scene_seen, .ref a_scene_seenLengths, .int v_scene_seats, .int v_scene_bear, .int v_scene_comerCount, .int v_scene_seenRows])), (a_sitters, .inr (9, [.ref a_bench, .ref a_sitters_nearest, .int u9.1, .int u9.2.1])), (a_bench, .inr (0, [.ref a_scene, .ref a_bench_apart, .ref a_bench_clash, .ref a_bench_neighbours])), (a_sitters_nearest, eI cI 12 u9.2.2), (a_scene_worths, eI cI 12 v_scene_worths), (a_bench_neighbours, eI cI 12 v_bench_neighbours), (a_bench_apart, eI cI 144 v_bench_apart)]) Cx (c_X9_number l D cI cJ cZ cO a_sitters a_bench a_sitters_nearest u9.1 u9.2.1 u10 hu10) hP hS rfl rfl rfl rfl rfl rfl rfl hl.1 (Nat.le_of_ble_eq_true rfl) dX10_late_71 rfl rfl ⟨Nat.le_of_ble_eq_true rfl, Nat.le_of_ble_eq_true rfl⟩ ⟨Nat.zero_le _, Nat.zero_le _⟩ rfl (fun H locs hP hS => ?_)
      obtain rfl := Option.some.inj hf
      exact ret _ _ _ _ dX10_late_74 hP hS
    · have hf := ob_t c4 hf
      refine lv_bipush (v := (-2)) hx hb dX10_late_22 (by decide) ?_
      obtain rfl := Option.some.inj hf
      exact ret _ _ _ _ dX10_late_24 hP hS

def f_X10_rows (v_longRows_between : Nat → Int32) (x1 : Int32) (x2 : Int32) : Option (Int32) :=
  (f_X10_isWithin x1 (1 : Int32) (200 : Int32)).bind (fun u1 =>
  if u1 = 0 then
  some (-2 : Int32)
  else
  (f_X10_isWithin x2 (0 : Int32) (x1 - (1 : Int32))).bind (fun u3 =>
  if u3 = 0 then
  some (-1 : Int32)
  else
  (f_X3_comeIn v_longRows_between x1 x2).bind (fun u5 =>
  some (u5))))
set_option maxHeartbeats 4000000 in
set_option maxRecDepth 100000 in
theorem c_X10_rows (l : Launch) (D : va_G) (cI cJ cZ cO : ClassId) (a_t a_pad a_scene a_images a_bench a_trial a_sitters a_trialSitters a_sets a_census a_match a_couples a_passing a_longRows a_longRows_between : Nat) (v_longRows_between : Nat → Int32) (x1 : Int32) (x2 : Int32) (out : Int32) (hf : f_X10_rows v_longRows_between x1 x2 = some out) : MetR l yX10_rows (Cond.code yX10_rows cX10_rows 3 (some .int) :: tbG) { frames := 2, cells := 0, slots := 0, locals := 43 } D (tyL cI cJ cZ cO) [.ref a_t, .int x1, .int x2] [(a_t, .inr (10, [.ref a_pad, .ref a_scene, .ref a_images, .ref a_bench, .ref a_trial, .ref a_sitters, .ref a_trialSitters, .ref a_sets, .ref a_census, .ref a_match, .ref a_couples, .ref a_passing, .ref a_longRows])), (a_longRows, .inr (3, [.ref a_longRows_between])), (a_longRows_between, eI cI 201 v_longRows_between)] (some (.int out)) [(a_t, .inr (10, [.ref a_pad, .ref a_scene, .ref a_images, .ref a_bench, .ref a_trial, .ref a_sitters, .ref a_trialSitters, .ref a_sets, .ref a_census, .ref a_match, .ref a_couples, .ref a_passing, .ref a_longRows])), (a_longRows, .inr (3, [.ref a_longRows_between])), (a_longRows_between, eI cI 201 v_longRows_between)] := by
  refine ba_ofI RX10 [(0, .ref a_t), (1, .int x1), (2, .int x2)] (by decide +kernel) rfl (Nat.le_of_ble_eq_true rfl) rfl ?_
  intro p e s m args below meth c Q A Cx hP ret ls hl
  obtain ⟨⟨hx, hb, hml, hown, hts⟩, hK, hD, hA⟩ := id Cx
  have hS : va_S A s.heap s.heap [] := va_S.rf
  unfold f_X10_rows at hf
  refine lv_iload_n hx hb dX10_rows_0 rfl (lv_at hl 1 rfl) ?_
  refine lv_iconst (v := 1) hx hb dX10_rows_1 (by decide) ?_
  refine lv_sipush (v := 200) hx hb dX10_rows_2 (by decide) ?_
  obtain ⟨u1, hu1, hf⟩ := ob_b hf
  refine iv_X10_99 (As := [.int x1, .int (1 : Int32), .int (200 : Int32)]) (rest := []) (is := []) (X' := [(a_t, .inr (10, [.ref a_pad, .ref a_scene, .ref a_images, .ref a_bench, .ref a_trial, .ref a_sitters, .ref a_trialSitters, .ref a_sets, .ref a_census, .ref a_match, .ref a_couples, .ref a_passing, .ref a_longRows])), (a_longRows, .inr (3, [.ref a_longRows_between])), (a_longRows_between, eI cI 201 v_longRows_between)]) Cx (c_X10_isWithin l D cI cJ cZ cO  x1 (1 : Int32) (200 : Int32) u1 hu1) hP hS rfl rfl rfl rfl rfl rfl hl.1 (Nat.le_of_ble_eq_true rfl) dX10_rows_5 rfl rfl ⟨Nat.le_of_ble_eq_true rfl, Nat.le_of_ble_eq_true rfl⟩ ⟨Nat.zero_le _, Nat.zero_le _⟩ rfl (fun H locs hP hS => ?_)
  refine lv_if_ne (tgt := 14) hx hb dX10_rows_8 (by decide) (fun c2 => ?_) (fun c2 => ?_)
  · have hf := ob_f c2 hf
    refine lv_iload_n hx hb dX10_rows_14 rfl (lv_at hl 2 rfl) ?_
    refine lv_iconst (v := 0) hx hb dX10_rows_15 (by decide) ?_
    refine lv_iload_n hx hb dX10_rows_16 rfl (lv_at hl 1 rfl) ?_
    refine lv_iconst (v := 1) hx hb dX10_rows_17 (by decide) ?_
    refine lv_isub hx hb dX10_rows_18 ?_
    obtain ⟨u3, hu3, hf⟩ := ob_b hf
    refine iv_X10_99 (As := [.int x2, .int (0 : Int32), .int (x1 - (1 : Int32))]) (rest := []) (is := []) (X' := [(a_t, .inr (10, [.ref a_pad, .ref a_scene, .ref a_images, .ref a_bench, .ref a_trial, .ref a_sitters, .ref a_trialSitters, .ref a_sets, .ref a_census, .ref a_match, .ref a_couples, .ref a_passing, .ref a_longRows])), (a_longRows, .inr (3, [.ref a_longRows_between])), (a_longRows_between, eI cI 201 v_longRows_between)]) Cx (c_X10_isWithin l D cI cJ cZ cO  x2 (0 : Int32) (x1 - (1 : Int32)) u3 hu3) hP hS rfl rfl rfl rfl rfl rfl hl.1 (Nat.le_of_ble_eq_true rfl) dX10_rows_19 rfl rfl ⟨Nat.le_of_ble_eq_true rfl, Nat.le_of_ble_eq_true rfl⟩ ⟨Nat.zero_le _, Nat.zero_le _⟩ rfl (fun H locs hP hS => ?_)
    refine lv_if_ne (tgt := 27) hx hb dX10_rows_22 (by decide) (fun c4 => ?_) (fun c4 => ?_)
    · have hf := ob_f c4 hf
      refine lv_aload_n hx hb dX10_rows_27 rfl (lv_at hl 0 rfl) ?_
      refine gf_X10_91 Cx hP 0 rfl rfl dX10_rows_28 ?_
      refine lv_iload_n hx hb dX10_rows_31 rfl (lv_at hl 1 rfl) ?_
      refine lv_iload_n hx hb dX10_rows_32 rfl (lv_at hl 2 rfl) ?_
      obtain ⟨u5, hu5, hf⟩ := ob_b hf
      refine iv_X10_235 (As := [.int x1, .int x2]) (rest := []) (is := [1, 2]) (q0 := 1) (X' := [(a_t, .inr (10, [.ref a_pad, .ref a_scene, .ref a_images, .ref a_bench, .ref a_trial, .ref a_sitters, .ref a_trialSitters, .ref a_sets, .ref a_census, .ref a_match, .ref a_couples, .ref a_passing, .ref a_longRows])), (a_longRows, .inr (3, [.ref a_longRows_between])), (a_longRows_between, eI cI 201 v_longRows_between)]) Cx (c_X3_comeIn l D cI cJ cZ cO a_longRows a_longRows_between v_longRows_between x1 x2 u5 hu5) hP hS rfl rfl rfl rfl rfl rfl rfl hl.1 (Nat.le_of_ble_eq_true rfl) dX10_rows_33 rfl rfl ⟨Nat.le_of_ble_eq_true rfl, Nat.le_of_ble_eq_true rfl⟩ ⟨Nat.zero_le _, Nat.zero_le _⟩ rfl (fun H locs hP hS => ?_)
      obtain rfl := Option.some.inj hf
      exact ret _ _ _ _ dX10_rows_36 hP hS
    · have hf := ob_t c4 hf
      refine lv_iconst (v := (-1)) hx hb dX10_rows_25 (by decide) ?_
      obtain rfl := Option.some.inj hf
      exact ret _ _ _ _ dX10_rows_26 hP hS
  · have hf := ob_t c2 hf
    refine lv_bipush (v := (-2)) hx hb dX10_rows_11 (by decide) ?_
    obtain rfl := Option.some.inj hf
    exact ret _ _ _ _ dX10_rows_13 hP hS

def f_X10_longer_15 (v_longRows_between : Nat → Int32) (x1 : Int32) : Nat → Int32 → Option ((Unit) ⊕ (Int32))
  | 0, _ => none
  | n + 1, y2_15 =>
  if (200 : Int32) < y2_15 then
  some (Sum.inl ())
  else
  (f_X3_comeIn v_longRows_between y2_15 (0 : Int32)).bind (fun u5 =>
  if u5 < x1 then
  f_X10_longer_15 v_longRows_between x1 n (y2_15 + 1)
  else
  some (Sum.inr (y2_15)))
theorem f_X10_longer_15_s (v_longRows_between : Nat → Int32) (x1 : Int32) (n : Nat) (y2_15 : Int32) : f_X10_longer_15 v_longRows_between x1 (n + 1) y2_15 =
  (if (200 : Int32) < y2_15 then
  some (Sum.inl ())
  else
  (f_X3_comeIn v_longRows_between y2_15 (0 : Int32)).bind (fun u5 =>
  if u5 < x1 then
  f_X10_longer_15 v_longRows_between x1 n (y2_15 + 1)
  else
  some (Sum.inr (y2_15)))) := rfl
def f_X10_longer (v_longRows_between : Nat → Int32) (x1 : Int32) : Option (Int32) :=
  (f_X10_isWithin x1 (1 : Int32) (100 : Int32)).bind (fun u1 =>
  if u1 = 0 then
  some (-2 : Int32)
  else
  (f_X10_longer_15 v_longRows_between x1 FU (1 : Int32)).bind (fun u7 => Sum.elim (fun w8 =>
  some (-6 : Int32)) (fun r => some r) u7))
set_option maxHeartbeats 4000000 in
set_option maxRecDepth 100000 in
theorem c_X10_longer (l : Launch) (D : va_G) (cI cJ cZ cO : ClassId) (a_t a_pad a_scene a_images a_bench a_trial a_sitters a_trialSitters a_sets a_census a_match a_couples a_passing a_longRows a_longRows_between : Nat) (v_longRows_between : Nat → Int32) (x1 : Int32) (out : Int32) (hf : f_X10_longer v_longRows_between x1 = some out) : MetR l yX10_longer (Cond.code yX10_longer cX10_longer 3 (some .int) :: tbG) { frames := 2, cells := 0, slots := 0, locals := 43 } D (tyL cI cJ cZ cO) [.ref a_t, .int x1] [(a_t, .inr (10, [.ref a_pad, .ref a_scene, .ref a_images, .ref a_bench, .ref a_trial, .ref a_sitters, .ref a_trialSitters, .ref a_sets, .ref a_census, .ref a_match, .ref a_couples, .ref a_passing, .ref a_longRows])), (a_longRows, .inr (3, [.ref a_longRows_between])), (a_longRows_between, eI cI 201 v_longRows_between)] (some (.int out)) [(a_t, .inr (10, [.ref a_pad, .ref a_scene, .ref a_images, .ref a_bench, .ref a_trial, .ref a_sitters, .ref a_trialSitters, .ref a_sets, .ref a_census, .ref a_match, .ref a_couples, .ref a_passing, .ref a_longRows])), (a_longRows, .inr (3, [.ref a_longRows_between])), (a_longRows_between, eI cI 201 v_longRows_between)] := by
  refine ba_ofI RX10 [(0, .ref a_t), (1, .int x1)] (by decide +kernel) rfl (Nat.le_of_ble_eq_true rfl) rfl ?_
  intro p e s m args below meth c Q A Cx hP ret ls hl
  obtain ⟨⟨hx, hb, hml, hown, hts⟩, hK, hD, hA⟩ := id Cx
  have hS : va_S A s.heap s.heap [] := va_S.rf
  unfold f_X10_longer at hf
  refine lv_iload_n hx hb dX10_longer_0 rfl (lv_at hl 1 rfl) ?_
  refine lv_iconst (v := 1) hx hb dX10_longer_1 (by decide) ?_
  refine lv_bipush (v := 100) hx hb dX10_longer_2 (by decide) ?_
  obtain ⟨u1, hu1, hf⟩ := ob_b hf
  refine iv_X10_99 (As := [.int x1, .int (1 : Int32), .int (100 : Int32)]) (rest := []) (is := []) (X' := [(a_t, .inr (10, [.ref a_pad, .ref a_scene, .ref a_images, .ref a_bench, .ref a_trial, .ref a_sitters, .ref a_trialSitters, .ref a_sets, .ref a_census, .ref a_match, .ref a_couples, .ref a_passing, .ref a_longRows])), (a_longRows, .inr (3, [.ref a_longRows_between])), (a_longRows_between, eI cI 201 v_longRows_between)]) Cx (c_X10_isWithin l D cI cJ cZ cO  x1 (1 : Int32) (100 : Int32) u1 hu1) hP hS rfl rfl rfl rfl rfl rfl hl.1 (Nat.le_of_ble_eq_true rfl) dX10_longer_4 rfl rfl ⟨Nat.le_of_ble_eq_true rfl, Nat.le_of_ble_eq_true rfl⟩ ⟨Nat.zero_le _, Nat.zero_le _⟩ rfl (fun H locs hP hS => ?_)
  refine lv_if_ne (tgt := 13) hx hb dX10_longer_7 (by decide) (fun c2 => ?_) (fun c2 => ?_)
  · have hf := ob_f c2 hf
    refine lv_iconst (v := 1) hx hb dX10_longer_13 (by decide) ?_
    refine lv_istore_n (lv' := [(2, .int (1 : Int32)), (0, .ref a_t), (1, .int x1)]) hx hb dX10_longer_14 rfl hl (by decide) rfl (fun ls hl => ?_)
    have L15_3 : ∀ (n : Nat) (y2_15 : Int32) (o : (Unit) ⊕ (Int32)) (H : Heap) (locs : List Loc) (ls : Array Slot), f_X10_longer_15 v_longRows_between x1 n y2_15 = some o → va_P D vwCl [(a_t, .inr (10, [.ref a_pad, .ref a_scene, .ref a_images, .ref a_bench, .ref a_trial, .ref a_sitters, .ref a_trialSitters, .ref a_sets, .ref a_census, .ref a_match, .ref a_couples, .ref a_passing, .ref a_longRows])), (a_longRows, .inr (3, [.ref a_longRows_between])), (a_longRows_between, eI cI 201 v_longRows_between)] H → va_S A s.heap H locs → lv_has ls 3 [(0, .ref a_t), (1, .int x1), (2, .int y2_15)] → (∀ w, o = Sum.inl w → ∀ (H : Heap) (locs : List Loc) (ls : Array Slot), va_P D vwCl [(a_t, .inr (10, [.ref a_pad, .ref a_scene, .ref a_images, .ref a_bench, .ref a_trial, .ref a_sitters, .ref a_trialSitters, .ref a_sets, .ref a_census, .ref a_match, .ref a_couples, .ref a_passing, .ref a_longRows])), (a_longRows, .inr (3, [.ref a_longRows_between])), (a_longRows_between, eI cI 201 v_longRows_between)] H → va_S A s.heap H locs → lv_has ls 3 [] → W p l e { frames := 2, cells := 0, slots := 0, locals := 43 } s m args below meth c H locs 0 0 Q (F0 m 43 ls [])) → (∀ r, o = Sum.inr r → ∀ (pc : Nat) (H : Heap) (locs : List Loc) (ls : Array Slot), decode cX10_longer pc = .ok (.ireturn, 1) → va_P D vwCl [(a_t, .inr (10, [.ref a_pad, .ref a_scene, .ref a_images, .ref a_bench, .ref a_trial, .ref a_sitters, .ref a_trialSitters, .ref a_sets, .ref a_census, .ref a_match, .ref a_couples, .ref a_passing, .ref a_longRows])), (a_longRows, .inr (3, [.ref a_longRows_between])), (a_longRows_between, eI cI 201 v_longRows_between)] H → va_S A s.heap H locs → W p l e { frames := 2, cells := 0, slots := 0, locals := 43 } s m args below meth c H locs 0 0 Q (F0 m pc ls [.int r])) → W p l e { frames := 2, cells := 0, slots := 0, locals := 43 } s m args below meth c H locs 0 0 Q (F0 m 15 ls []) := by
      intro n
      induction n with
      | zero => intro y2_15 o H locs ls hf; exact (ob_n hf).elim
      | succ n ih =>
        intro y2_15 o H locs ls hf hP hS hl kk kr
        rw [f_X10_longer_15_s] at hf
        refine lv_iload_n hx hb dX10_longer_15 rfl (lv_at hl 2 rfl) ?_
        refine lv_sipush (v := 200) hx hb dX10_longer_16 (by decide) ?_
        refine lv_icmp_gt (tgt := 43) hx hb dX10_longer_19 (by decide) (fun c4 => ?_) (fun c4 => ?_)
        · have hf := ob_t c4 hf
          obtain rfl := Option.some.inj hf
          exact kk _ rfl _ _ _ hP hS (lv_sub hl [] rfl)
        · have hf := ob_f c4 hf
          refine lv_aload_n hx hb dX10_longer_22 rfl (lv_at hl 0 rfl) ?_
          refine gf_X10_91 Cx hP 0 rfl rfl dX10_longer_23 ?_
          refine lv_iload_n hx hb dX10_longer_26 rfl (lv_at hl 2 rfl) ?_
          refine lv_iconst (v := 0) hx hb dX10_longer_27 (by decide) ?_
          obtain ⟨u5, hu5, hf⟩ := ob_b hf
          refine iv_X10_235 (As := [.int y2_15, .int (0 : Int32)]) (rest := []) (is := [1, 2]) (q0 := 1) (X' := [(a_t, .inr (10, [.ref a_pad, .ref a_scene, .ref a_images, .ref a_bench, .ref a_trial, .ref a_sitters, .ref a_trialSitters, .ref a_sets, .ref a_census, .ref a_match, .ref a_couples, .ref a_passing, .ref a_longRows])), (a_longRows, .inr (3, [.ref a_longRows_between])), (a_longRows_between, eI cI 201 v_longRows_between)]) Cx (c_X3_comeIn l D cI cJ cZ cO a_longRows a_longRows_between v_longRows_between y2_15 (0 : Int32) u5 hu5) hP hS rfl rfl rfl rfl rfl rfl rfl hl.1 (Nat.le_of_ble_eq_true rfl) dX10_longer_28 rfl rfl ⟨Nat.le_of_ble_eq_true rfl, Nat.le_of_ble_eq_true rfl⟩ ⟨Nat.zero_le _, Nat.zero_le _⟩ rfl (fun H locs hP hS => ?_)
          refine lv_iload_n hx hb dX10_longer_31 rfl (lv_at hl 1 rfl) ?_
          refine lv_icmp_lt (tgt := 37) hx hb dX10_longer_32 (by decide) (fun c6 => ?_) (fun c6 => ?_)
          · have hf := ob_t c6 hf
            refine lv_iinc (v := (y2_15 + 1)) (lv' := [(2, .int (y2_15 + 1)), (0, .ref a_t), (1, .int x1)]) hx hb dX10_longer_37 hl (k := 2) rfl rfl (by decide) rfl (fun ls hl => ?_)
            refine lv_goto (tgt := 15) hx hb dX10_longer_40 (by decide) ?_
            exact ih (y2_15 + 1) _ _ _ _ hf hP hS (lv_sub hl [1, 2, 0] rfl) kk kr
          · have hf := ob_f c6 hf
            refine lv_iload_n hx hb dX10_longer_35 rfl (lv_at hl 2 rfl) ?_
            obtain rfl := Option.some.inj hf
            exact kr _ rfl _ _ _ _ dX10_longer_36 hP hS
    obtain ⟨u7, hu7, hf⟩ := ob_b hf
    refine L15_3 FU (1 : Int32) u7 _ _ _ hu7 hP hS (lv_sub hl [1, 2, 0] rfl) ?_ ?_
    · intro w8 hw H locs ls hP hS hl
      rw [hw] at hf
      have hf := ob_l hf
      refine lv_bipush (v := (-6)) hx hb dX10_longer_43 (by decide) ?_
      obtain rfl := Option.some.inj hf
      exact ret _ _ _ _ dX10_longer_45 hP hS
    · intro r hr pc H locs ls hd hP hS
      rw [hr] at hf
      have hf := ob_r hf
      obtain rfl := Option.some.inj hf
      exact ret _ _ _ _ hd hP hS
  · have hf := ob_t c2 hf
    refine lv_bipush (v := (-2)) hx hb dX10_longer_10 (by decide) ?_
    obtain rfl := Option.some.inj hf
    exact ret _ _ _ _ dX10_longer_12 hP hS

def f_X10_comeInWithArms (v_scene_seats : Int32) (v_scene_bear : Int32) (v_trial_apart : Nat → Int32) (v_scene_steps : Nat → Int32) (v_trial_clash : Nat → Int32) (v_trial_neighbours : Nat → Int32) (v_trialSitters_nearest : Nat → Int32) (v_scene_worths : Nat → Int32) (x1 : Int32) (x2 : Int32) : Option (Int32 × (Nat → Int32) × (Nat → Int32) × (Nat → Int32) × Int32 × Int32 × (Nat → Int32)) :=
  (f_X0_measure v_scene_seats v_scene_bear v_trial_apart v_scene_steps v_trial_clash v_trial_neighbours x1).bind (fun u1 =>
  (f_X9_leave v_scene_bear v_trialSitters_nearest).bind (fun u2 =>
  (f_X9_fillUp u2.1 u2.2.1 v_scene_seats u2.2.2 v_scene_worths u1.2.2 u1.1 x2).bind (fun u3 =>
  (f_X9_number u3.1).bind (fun u4 =>
  some (u4, u1.1, u1.2.1, u1.2.2, u3.1, u2.2.1, u3.2)))))
set_option maxHeartbeats 4000000 in
set_option maxRecDepth 100000 in
theorem c_X10_comeInWithArms (l : Launch) (D : va_G) (cI cJ cZ cO : ClassId) (a_t a_pad a_scene a_images a_bench a_trial a_sitters a_trialSitters a_sets a_census a_match a_couples a_passing a_longRows a_trial_apart a_trial_clash a_trial_neighbours a_scene_steps a_scene_worths a_scene_comers a_scene_seen a_scene_seenLengths a_trialSitters_nearest : Nat) (v_scene_seats : Int32) (v_scene_bear : Int32) (v_scene_comerCount : Int32) (v_scene_seenRows : Int32) (v_trial_apart : Nat → Int32) (v_scene_steps : Nat → Int32) (v_trial_clash : Nat → Int32) (v_trial_neighbours : Nat → Int32) (v_trialSitters_set : Int32) (v_trialSitters_bear : Int32) (v_trialSitters_nearest : Nat → Int32) (v_scene_worths : Nat → Int32) (x1 : Int32) (x2 : Int32) (out : Int32 × (Nat → Int32) × (Nat → Int32) × (Nat → Int32) × Int32 × Int32 × (Nat → Int32)) (hf : f_X10_comeInWithArms v_scene_seats v_scene_bear v_trial_apart v_scene_steps v_trial_clash v_trial_neighbours v_trialSitters_nearest v_scene_worths x1 x2 = some out) : MetR l yX10_comeInWithArms (Cond.code yX10_comeInWithArms cX10_comeInWithArms 3 (some .int) :: tbG) { frames := 3, cells := 0, slots := 0, locals := 70 } D (tyL cI cJ cZ cO) [.ref a_t, .int x1, .int x2] [(a_t, .inr (10, [.ref a_pad, .ref a_scene, .ref a_images, .ref a_bench, .ref a_trial, .ref a_sitters, .ref a_trialSitters, .ref a_sets, .ref a_census, .ref a_match, .ref a_couples, .ref a_passing, .ref a_longRows])), (a_trial, .inr (0, [.ref a_scene, .ref a_trial_apart, .ref a_trial_clash, .ref a_trial_neighbours])), (a_scene, .inr (7, [.ref a_scene_steps, .ref a_scene_worths, .ref a_scene_comers, .ref a_scene_seen, .ref a_scene_seenLengths, .int v_scene_seats, .int v_scene_bear, .int v_scene_comerCount, .int v_scene_seenRows])), (a_trial_apart, eI cI 144 v_trial_apart), (a_scene_steps, eI cI 12 v_scene_steps), (a_trial_clash, eI cI 12 v_trial_clash), (a_trial_neighbours, eI cI 12 v_trial_neighbours), (a_trialSitters, .inr (9, [.ref a_trial, .ref a_trialSitters_nearest, .int v_trialSitters_set, .int v_trialSitters_bear])), (a_trialSitters_nearest, eI cI 12 v_trialSitters_nearest), (a_scene_worths, eI cI 12 v_scene_worths)] (some (.int out.1)) [(a_t, .inr (10, [.ref a_pad, .ref a_scene, .ref a_images, .ref a_bench, .ref a_trial, .ref a_sitters, .ref a_trialSitters, .ref a_sets, .ref a_census, .ref a_match, .ref a_couples, .ref a_passing, .ref a_longRows])), (a_trial, .inr (0, [.ref a_scene, .ref a_trial_apart, .ref a_trial_clash, .ref a_trial_neighbours])), (a_scene, .inr (7, [.ref a_scene_steps, .ref a_scene_worths, .ref a_scene_comers, .ref a_scene_seen, .ref a_scene_seenLengths, .int v_scene_seats, .int v_scene_bear, .int v_scene_comerCount, .int v_scene_seenRows])), (a_trial_apart, eI cI 144 out.2.1), (a_scene_steps, eI cI 12 v_scene_steps), (a_trial_clash, eI cI 12 out.2.2.1), (a_trial_neighbours, eI cI 12 out.2.2.2.1), (a_trialSitters, .inr (9, [.ref a_trial, .ref a_trialSitters_nearest, .int out.2.2.2.2.1, .int out.2.2.2.2.2.1])), (a_trialSitters_nearest, eI cI 12 out.2.2.2.2.2.2), (a_scene_worths, eI cI 12 v_scene_worths)] := by
  refine ba_ofI RX10 [(0, .ref a_t), (1, .int x1), (2, .int x2)] (by decide +kernel) rfl (Nat.le_of_ble_eq_true rfl) rfl ?_
  intro p e s m args below meth c Q A Cx hP ret ls hl
  obtain ⟨⟨hx, hb, hml, hown, hts⟩, hK, hD, hA⟩ := id Cx
  have hS : va_S A s.heap s.heap [] := va_S.rf
  unfold f_X10_comeInWithArms at hf
  refine lv_aload_n hx hb dX10_comeInWithArms_0 rfl (lv_at hl 0 rfl) ?_
  refine gf_X10_36 Cx hP 0 rfl rfl dX10_comeInWithArms_1 ?_
  refine lv_iload_n hx hb dX10_comeInWithArms_4 rfl (lv_at hl 1 rfl) ?_
  obtain ⟨u1, hu1, hf⟩ := ob_b hf
  refine iv_X10_95 (As := [.int x1]) (rest := []) (is := [1, 2, 3, 4, 5, 6]) (q0 := 1) (X' := [(a_t, .inr (10, [.ref a_pad, .ref a_scene, .ref a_images, .ref a_bench, .ref a_trial, .ref a_sitters, .ref a_trialSitters, .ref a_sets, .ref a_census, .ref a_match, .ref a_couples, .ref a_passing, .ref a_longRows])), (a_trial, .inr (0, [.ref a_scene, .ref a_trial_apart, .ref a_trial_clash, .ref a_trial_neighbours])), (a_scene, .inr (7, [.ref a_scene_steps, .ref a_scene_worths, .ref a_scene_comers, .ref a_scene_seen, .ref a_scene_seenLengths, .int v_scene_seats, .int v_scene_bear, .int v_scene_comerCount, .int v_scene_seenRows])), (a_trial_apart, eI cI 144 u1.1), (a_scene_steps, eI cI 12 v_scene_steps), (a_trial_clash, eI cI 12 u1.2.1), (a_trial_neighbours, eI cI 12 u1.2.2), (a_trialSitters, .inr (9, [.ref a_trial, .ref a_trialSitters_nearest, .int v_trialSitters_set, .int v_trialSitters_bear])), (a_trialSitters_nearest, eI cI 12 v_trialSitters_nearest), (a_scene_worths, eI cI 12 v_scene_worths)]) Cx (c_X0_measure l D cI cJ cZ cO a_trial a_scene a_trial_apart a_trial_clash a_trial_neighbours a_scene_steps a_scene_worths a_scene_comers a_scene_seen a_scene_seenLengths v_scene_seats v_scene_bear v_scene_comerCount v_scene_seenRows v_trial_apart v_scene_steps v_trial_clash v_trial_neighbours x1 u1 hu1) hP hS rfl rfl rfl rfl rfl rfl rfl hl.1 (Nat.le_of_ble_eq_true rfl) dX10_comeInWithArms_5 rfl rfl ⟨Nat.le_of_ble_eq_true rfl, Nat.le_of_ble_eq_true rfl⟩ ⟨Nat.zero_le _, Nat.zero_le _⟩ rfl (fun H locs hP hS => ?_)
  refine lv_aload_n hx hb dX10_comeInWithArms_8 rfl (lv_at hl 0 rfl) ?_
  refine gf_X10_48 Cx hP 0 rfl rfl dX10_comeInWithArms_9 ?_
  obtain ⟨u2, hu2, hf⟩ := ob_b hf
  refine iv_X10_228 (As := []) (rest := []) (is := [7, 1, 2, 8]) (q0 := 7) (X' := [(a_t, .inr (10, [.ref a_pad, .ref a_scene, .ref a_images, .ref a_bench, .ref a_trial, .ref a_sitters, .ref a_trialSitters, .ref a_sets, .ref a_census, .ref a_match, .ref a_couples, .ref a_passing, .ref a_longRows])), (a_trial, .inr (0, [.ref a_scene, .ref a_trial_apart, .ref a_trial_clash, .ref a_trial_neighbours])), (a_scene, .inr (7, [.ref a_scene_steps, .ref a_scene_worths, .ref a_scene_comers, .ref a_scene_seen, .ref a_scene_seenLengths, .int v_scene_seats, .int v_scene_bear, .int v_scene_comerCount, .int v_scene_seenRows])), (a_trial_apart, eI cI 144 u1.1), (a_scene_steps, eI cI 12 v_scene_steps), (a_trial_clash, eI cI 12 u1.2.1), (a_trial_neighbours, eI cI 12 u1.2.2), (a_trialSitters, .inr (9, [.ref a_trial, .ref a_trialSitters_nearest, .int u2.1, .int u2.2.1])), (a_trialSitters_nearest, eI cI 12 u2.2.2), (a_scene_worths, eI cI 12 v_scene_worths)]) Cx (c_X9_leave l D cI cJ cZ cO a_trialSitters a_trial a_trialSitters_nearest a_scene a_trial_apart a_trial_clash a_trial_neighbours a_scene_steps a_scene_worths a_scene_comers a_scene_seen a_scene_seenLengths v_trialSitters_set v_trialSitters_bear v_scene_seats v_scene_bear v_scene_comerCount v_scene_seenRows v_trialSitters_nearest u2 hu2) hP hS rfl rfl rfl rfl rfl rfl rfl hl.1 (Nat.le_of_ble_eq_true rfl) dX10_comeInWithArms_12 rfl rfl ⟨Nat.le_of_ble_eq_true rfl, Nat.le_of_ble_eq_true rfl⟩ ⟨Nat.zero_le _, Nat.zero_le _⟩ rfl (fun H locs hP hS => ?_)
  refine lv_aload_n hx hb dX10_comeInWithArms_15 rfl (lv_at hl 0 rfl) ?_
  refine gf_X10_48 Cx hP 0 rfl rfl dX10_comeInWithArms_16 ?_
  refine lv_iload_n hx hb dX10_comeInWithArms_19 rfl (lv_at hl 2 rfl) ?_
  obtain ⟨u3, hu3, hf⟩ := ob_b hf
  refine iv_X10_164 (As := [.int x2]) (rest := []) (is := [7, 1, 2, 8, 9, 6, 3]) (q0 := 7) (X' := [(a_t, .inr (10, [.ref a_pad, .ref a_scene, .ref a_images, .ref a_bench, .ref a_trial, .ref a_sitters, .ref a_trialSitters, .ref a_sets, .ref a_census, .ref a_match, .ref a_couples, .ref a_passing, .ref a_longRows])), (a_trial, .inr (0, [.ref a_scene, .ref a_trial_apart, .ref a_trial_clash, .ref a_trial_neighbours])), (a_scene, .inr (7, [.ref a_scene_steps, .ref a_scene_worths, .ref a_scene_comers, .ref a_scene_seen, .ref a_scene_seenLengths, .int v_scene_seats, .int v_scene_bear, .int v_scene_comerCount, .int v_scene_seenRows])), (a_trial_apart, eI cI 144 u1.1), (a_scene_steps, eI cI 12 v_scene_steps), (a_trial_clash, eI cI 12 u1.2.1), (a_trial_neighbours, eI cI 12 u1.2.2), (a_trialSitters, .inr (9, [.ref a_trial, .ref a_trialSitters_nearest, .int u3.1, .int u2.2.1])), (a_trialSitters_nearest, eI cI 12 u3.2), (a_scene_worths, eI cI 12 v_scene_worths)]) Cx (c_X9_fillUp l D cI cJ cZ cO a_trialSitters a_trial a_trialSitters_nearest a_scene a_trial_apart a_trial_clash a_trial_neighbours a_scene_steps a_scene_worths a_scene_comers a_scene_seen a_scene_seenLengths u2.1 u2.2.1 v_scene_seats v_scene_bear v_scene_comerCount v_scene_seenRows u2.2.2 v_scene_worths u1.2.2 u1.1 x2 u3 hu3) hP hS rfl rfl rfl rfl rfl rfl rfl hl.1 (Nat.le_of_ble_eq_true rfl) dX10_comeInWithArms_20 rfl rfl ⟨Nat.le_of_ble_eq_true rfl, Nat.le_of_ble_eq_true rfl⟩ ⟨Nat.zero_le _, Nat.zero_le _⟩ rfl (fun H locs hP hS => ?_)
  refine lv_aload_n hx hb dX10_comeInWithArms_23 rfl (lv_at hl 0 rfl) ?_
  refine gf_X10_48 Cx hP 0 rfl rfl dX10_comeInWithArms_24 ?_
  obtain ⟨u4, hu4, hf⟩ := ob_b hf
  refine iv_X10_232 (As := []) (rest := []) (is := [7]) (q0 := 7) (X' := [(a_t, .inr (10, [.ref a_pad, .ref a_scene, .ref a_images, .ref a_bench, .ref a_trial, .ref a_sitters, .ref a_trialSitters, .ref a_sets, .ref a_census, .ref a_match, .ref a_couples, .ref a_passing, .ref a_longRows])), (a_trial, .inr (0, [.ref a_scene, .ref a_trial_apart, .ref a_trial_clash, .ref a_trial_neighbours])), (a_scene, .inr (7, [.ref a_scene_steps, .ref a_scene_worths, .ref a_scene_comers, .ref a_scene_seen, .ref a_scene_seenLengths, .int v_scene_seats, .int v_scene_bear, .int v_scene_comerCount, .int v_scene_seenRows])), (a_trial_apart, eI cI 144 u1.1), (a_scene_steps, eI cI 12 v_scene_steps), (a_trial_clash, eI cI 12 u1.2.1), (a_trial_neighbours, eI cI 12 u1.2.2), (a_trialSitters, .inr (9, [.ref a_trial, .ref a_trialSitters_nearest, .int u3.1, .int u2.2.1])), (a_trialSitters_nearest, eI cI 12 u3.2), (a_scene_worths, eI cI 12 v_scene_worths)]) Cx (c_X9_number l D cI cJ cZ cO a_trialSitters a_trial a_trialSitters_nearest u3.1 u2.2.1 u4 hu4) hP hS rfl rfl rfl rfl rfl rfl rfl hl.1 (Nat.le_of_ble_eq_true rfl) dX10_comeInWithArms_27 rfl rfl ⟨Nat.le_of_ble_eq_true rfl, Nat.le_of_ble_eq_true rfl⟩ ⟨Nat.zero_le _, Nat.zero_le _⟩ rfl (fun H locs hP hS => ?_)
  obtain rfl := Option.some.inj hf
  exact ret _ _ _ _ dX10_comeInWithArms_30 hP hS

def f_X10_worthOfArms (v_scene_seats : Int32) (v_scene_bear : Int32) (v_trial_apart : Nat → Int32) (v_scene_steps : Nat → Int32) (v_trial_clash : Nat → Int32) (v_trial_neighbours : Nat → Int32) (v_sets_size : Int32) (v_sets_places : Int32) (v_sets_filled : Nat → Int32) (v_sets_open : Nat → Int32) (v_sets_chance : Nat → Int32) (v_trialSitters_set : Int32) (v_trialSitters_bear : Int32) (v_trialSitters_nearest : Nat → Int32) (v_scene_worths : Nat → Int32) (x1 : Int32) (x2 : Int32) : Option (Int64 × (Nat → Int32) × (Nat → Int32) × (Nat → Int32) × Int32 × Int32 × (Nat → Int32) × (Nat → Int32) × (Nat → Int32) × Int32 × Int32 × (Nat → Int32)) :=
  if x2 = (6 : Int32) then
  (f_X0_measure v_scene_seats v_scene_bear v_trial_apart v_scene_steps v_trial_clash v_trial_neighbours x1).bind (fun u2 =>
  (f_X8_sumOfSitters v_scene_seats u2.2.1 v_sets_size v_sets_places v_sets_filled v_sets_open v_sets_chance).bind (fun u3 =>
  some (u3.1, u2.1, u2.2.1, u2.2.2, u3.2.1, u3.2.2.1, u3.2.2.2.1, u3.2.2.2.2.1, u3.2.2.2.2.2, v_trialSitters_set, v_trialSitters_bear, v_trialSitters_nearest)))
  else
  (f_X10_comeInWithArms v_scene_seats v_scene_bear v_trial_apart v_scene_steps v_trial_clash v_trial_neighbours v_trialSitters_nearest v_scene_worths x1 x2).bind (fun u4 =>
  some ((u4.1).toInt64, u4.2.1, u4.2.2.1, u4.2.2.2.1, v_sets_size, v_sets_places, v_sets_filled, v_sets_open, v_sets_chance, u4.2.2.2.2.1, u4.2.2.2.2.2.1, u4.2.2.2.2.2.2))
set_option maxHeartbeats 4000000 in
set_option maxRecDepth 100000 in
theorem c_X10_worthOfArms (l : Launch) (D : va_G) (cI cJ cZ cO : ClassId) (a_t a_pad a_scene a_images a_bench a_trial a_sitters a_trialSitters a_sets a_census a_match a_couples a_passing a_longRows a_trial_apart a_trial_clash a_trial_neighbours a_scene_steps a_scene_worths a_scene_comers a_scene_seen a_scene_seenLengths a_sets_filled a_sets_open a_sets_chance a_trialSitters_nearest : Nat) (v_scene_seats : Int32) (v_scene_bear : Int32) (v_scene_comerCount : Int32) (v_scene_seenRows : Int32) (v_trial_apart : Nat → Int32) (v_scene_steps : Nat → Int32) (v_trial_clash : Nat → Int32) (v_trial_neighbours : Nat → Int32) (v_sets_size : Int32) (v_sets_places : Int32) (v_sets_filled : Nat → Int32) (v_sets_open : Nat → Int32) (v_sets_chance : Nat → Int32) (v_trialSitters_set : Int32) (v_trialSitters_bear : Int32) (v_trialSitters_nearest : Nat → Int32) (v_scene_worths : Nat → Int32) (x1 : Int32) (x2 : Int32) (out : Int64 × (Nat → Int32) × (Nat → Int32) × (Nat → Int32) × Int32 × Int32 × (Nat → Int32) × (Nat → Int32) × (Nat → Int32) × Int32 × Int32 × (Nat → Int32)) (hf : f_X10_worthOfArms v_scene_seats v_scene_bear v_trial_apart v_scene_steps v_trial_clash v_trial_neighbours v_sets_size v_sets_places v_sets_filled v_sets_open v_sets_chance v_trialSitters_set v_trialSitters_bear v_trialSitters_nearest v_scene_worths x1 x2 = some out) : MetR l yX10_worthOfArms (Cond.code yX10_worthOfArms cX10_worthOfArms 3 (some .long) :: tbG) { frames := 4, cells := 0, slots := 0, locals := 95 } D (tyL cI cJ cZ cO) [.ref a_t, .int x1, .int x2] [(a_t, .inr (10, [.ref a_pad, .ref a_scene, .ref a_images, .ref a_bench, .ref a_trial, .ref a_sitters, .ref a_trialSitters, .ref a_sets, .ref a_census, .ref a_match, .ref a_couples, .ref a_passing, .ref a_longRows])), (a_trial, .inr (0, [.ref a_scene, .ref a_trial_apart, .ref a_trial_clash, .ref a_trial_neighbours])), (a_scene, .inr (7, [.ref a_scene_steps, .ref a_scene_worths, .ref a_scene_comers, .ref a_scene_seen, .ref a_scene_seenLengths, .int v_scene_seats, .int v_scene_bear, .int v_scene_comerCount, .int v_scene_seenRows])), (a_trial_apart, eI cI 144 v_trial_apart), (a_scene_steps, eI cI 12 v_scene_steps), (a_trial_clash, eI cI 12 v_trial_clash), (a_trial_neighbours, eI cI 12 v_trial_neighbours), (a_sets, .inr (8, [.ref a_sets_filled, .ref a_sets_open, .ref a_sets_chance, .int v_sets_size, .int v_sets_places])), (a_sets_filled, eI cI 4096 v_sets_filled), (a_sets_open, eI cI 4096 v_sets_open), (a_sets_chance, eI cI 4096 v_sets_chance), (a_trialSitters, .inr (9, [.ref a_trial, .ref a_trialSitters_nearest, .int v_trialSitters_set, .int v_trialSitters_bear])), (a_trialSitters_nearest, eI cI 12 v_trialSitters_nearest), (a_scene_worths, eI cI 12 v_scene_worths)] (some (.long out.1)) [(a_t, .inr (10, [.ref a_pad, .ref a_scene, .ref a_images, .ref a_bench, .ref a_trial, .ref a_sitters, .ref a_trialSitters, .ref a_sets, .ref a_census, .ref a_match, .ref a_couples, .ref a_passing, .ref a_longRows])), (a_trial, .inr (0, [.ref a_scene, .ref a_trial_apart, .ref a_trial_clash, .ref a_trial_neighbours])), (a_scene, .inr (7, [.ref a_scene_steps, .ref a_scene_worths, .ref a_scene_comers, .ref a_scene_seen, .ref a_scene_seenLengths, .int v_scene_seats, .int v_scene_bear, .int v_scene_comerCount, .int v_scene_seenRows])), (a_trial_apart, eI cI 144 out.2.1), (a_scene_steps, eI cI 12 v_scene_steps), (a_trial_clash, eI cI 12 out.2.2.1), (a_trial_neighbours, eI cI 12 out.2.2.2.1), (a_sets, .inr (8, [.ref a_sets_filled, .ref a_sets_open, .ref a_sets_chance, .int out.2.2.2.2.1, .int out.2.2.2.2.2.1])), (a_sets_filled, eI cI 4096 out.2.2.2.2.2.2.1), (a_sets_open, eI cI 4096 out.2.2.2.2.2.2.2.1), (a_sets_chance, eI cI 4096 out.2.2.2.2.2.2.2.2.1), (a_trialSitters, .inr (9, [.ref a_trial, .ref a_trialSitters_nearest, .int out.2.2.2.2.2.2.2.2.2.1, .int out.2.2.2.2.2.2.2.2.2.2.1])), (a_trialSitters_nearest, eI cI 12 out.2.2.2.2.2.2.2.2.2.2.2), (a_scene_worths, eI cI 12 v_scene_worths)] := by
  refine ba_ofL RX10 [(0, .ref a_t), (1, .int x1), (2, .int x2)] (by decide +kernel) rfl (Nat.le_of_ble_eq_true rfl) rfl ?_
  intro p e s m args below meth c Q A Cx hP ret ls hl
  obtain ⟨⟨hx, hb, hml, hown, hts⟩, hK, hD, hA⟩ := id Cx
  have hS : va_S A s.heap s.heap [] := va_S.rf
  unfold f_X10_worthOfArms at hf
  refine lv_iload_n hx hb dX10_worthOfArms_0 rfl (lv_at hl 2 rfl) ?_
  refine lv_bipush (v := 6) hx hb dX10_worthOfArms_1 (by decide) ?_
  refine lv_icmp_eq (tgt := 14) hx hb dX10_worthOfArms_3 (by decide) (fun c1 => ?_) (fun c1 => ?_)
  · have hf := ob_t c1 hf
    refine lv_aload_n hx hb dX10_worthOfArms_14 rfl (lv_at hl 0 rfl) ?_
    refine gf_X10_36 Cx hP 0 rfl rfl dX10_worthOfArms_15 ?_
    refine lv_iload_n hx hb dX10_worthOfArms_18 rfl (lv_at hl 1 rfl) ?_
    obtain ⟨u2, hu2, hf⟩ := ob_b hf
    refine iv_X10_95 (As := [.int x1]) (rest := []) (is := [1, 2, 3, 4, 5, 6]) (q0 := 1) (X' := [(a_t, .inr (10, [.ref a_pad, .ref a_scene, .ref a_images, .ref a_bench, .ref a_trial, .ref a_sitters, .ref a_trialSitters, .ref a_sets, .ref a_census, .ref a_match, .ref a_couples, .ref a_passing, .ref a_longRows])), (a_trial, .inr (0, [.ref a_scene, .ref a_trial_apart, .ref a_trial_clash, .ref a_trial_neighbours])), (a_scene, .inr (7, [.ref a_scene_steps, .ref a_scene_worths, .ref a_scene_comers, .ref a_scene_seen, .ref a_scene_seenLengths, .int v_scene_seats, .int v_scene_bear, .int v_scene_comerCount, .int v_scene_seenRows])), (a_trial_apart, eI cI 144 u2.1), (a_scene_steps, eI cI 12 v_scene_steps), (a_trial_clash, eI cI 12 u2.2.1), (a_trial_neighbours, eI cI 12 u2.2.2), (a_sets, .inr (8, [.ref a_sets_filled, .ref a_sets_open, .ref a_sets_chance, .int v_sets_size, .int v_sets_places])), (a_sets_filled, eI cI 4096 v_sets_filled), (a_sets_open, eI cI 4096 v_sets_open), (a_sets_chance, eI cI 4096 v_sets_chance), (a_trialSitters, .inr (9, [.ref a_trial, .ref a_trialSitters_nearest, .int v_trialSitters_set, .int v_trialSitters_bear])), (a_trialSitters_nearest, eI cI 12 v_trialSitters_nearest), (a_scene_worths, eI cI 12 v_scene_worths)]) Cx (c_X0_measure l D cI cJ cZ cO a_trial a_scene a_trial_apart a_trial_clash a_trial_neighbours a_scene_steps a_scene_worths a_scene_comers a_scene_seen a_scene_seenLengths v_scene_seats v_scene_bear v_scene_comerCount v_scene_seenRows v_trial_apart v_scene_steps v_trial_clash v_trial_neighbours x1 u2 hu2) hP hS rfl rfl rfl rfl rfl rfl rfl hl.1 (Nat.le_of_ble_eq_true rfl) dX10_worthOfArms_19 rfl rfl ⟨Nat.le_of_ble_eq_true rfl, Nat.le_of_ble_eq_true rfl⟩ ⟨Nat.zero_le _, Nat.zero_le _⟩ rfl (fun H locs hP hS => ?_)
    refine lv_aload_n hx hb dX10_worthOfArms_22 rfl (lv_at hl 0 rfl) ?_
    refine gf_X10_54 Cx hP 0 rfl rfl dX10_worthOfArms_23 ?_
    refine lv_aload_n hx hb dX10_worthOfArms_26 rfl (lv_at hl 0 rfl) ?_
    refine gf_X10_36 Cx hP 0 rfl rfl dX10_worthOfArms_27 ?_
    obtain ⟨u3, hu3, hf⟩ := ob_b hf
    refine iv_X10_309 (As := [.ref a_trial]) (rest := []) (is := [1, 2, 5, 7, 8, 9, 10]) (q0 := 7) (X' := [(a_t, .inr (10, [.ref a_pad, .ref a_scene, .ref a_images, .ref a_bench, .ref a_trial, .ref a_sitters, .ref a_trialSitters, .ref a_sets, .ref a_census, .ref a_match, .ref a_couples, .ref a_passing, .ref a_longRows])), (a_trial, .inr (0, [.ref a_scene, .ref a_trial_apart, .ref a_trial_clash, .ref a_trial_neighbours])), (a_scene, .inr (7, [.ref a_scene_steps, .ref a_scene_worths, .ref a_scene_comers, .ref a_scene_seen, .ref a_scene_seenLengths, .int v_scene_seats, .int v_scene_bear, .int v_scene_comerCount, .int v_scene_seenRows])), (a_trial_apart, eI cI 144 u2.1), (a_scene_steps, eI cI 12 v_scene_steps), (a_trial_clash, eI cI 12 u2.2.1), (a_trial_neighbours, eI cI 12 u2.2.2), (a_sets, .inr (8, [.ref a_sets_filled, .ref a_sets_open, .ref a_sets_chance, .int u3.2.1, .int u3.2.2.1])), (a_sets_filled, eI cI 4096 u3.2.2.2.1), (a_sets_open, eI cI 4096 u3.2.2.2.2.1), (a_sets_chance, eI cI 4096 u3.2.2.2.2.2), (a_trialSitters, .inr (9, [.ref a_trial, .ref a_trialSitters_nearest, .int v_trialSitters_set, .int v_trialSitters_bear])), (a_trialSitters_nearest, eI cI 12 v_trialSitters_nearest), (a_scene_worths, eI cI 12 v_scene_worths)]) Cx (c_X8_sumOfSitters l D cI cJ cZ cO a_trial a_scene a_trial_apart a_trial_clash a_trial_neighbours a_scene_steps a_scene_worths a_scene_comers a_scene_seen a_scene_seenLengths a_sets a_sets_filled a_sets_open a_sets_chance v_scene_seats v_scene_bear v_scene_comerCount v_scene_seenRows u2.2.1 v_sets_size v_sets_places v_sets_filled v_sets_open v_sets_chance u3 hu3) hP hS rfl rfl rfl rfl rfl rfl rfl hl.1 (Nat.le_of_ble_eq_true rfl) dX10_worthOfArms_30 rfl rfl ⟨Nat.le_of_ble_eq_true rfl, Nat.le_of_ble_eq_true rfl⟩ ⟨Nat.zero_le _, Nat.zero_le _⟩ rfl (fun H locs hP hS => ?_)
    obtain rfl := Option.some.inj hf
    exact ret _ _ _ _ dX10_worthOfArms_33 hP hS
  · have hf := ob_f c1 hf
    refine lv_aload_n hx hb dX10_worthOfArms_6 rfl (lv_at hl 0 rfl) ?_
    refine lv_iload_n hx hb dX10_worthOfArms_7 rfl (lv_at hl 1 rfl) ?_
    refine lv_iload_n hx hb dX10_worthOfArms_8 rfl (lv_at hl 2 rfl) ?_
    obtain ⟨u4, hu4, hf⟩ := ob_b hf
    refine iv_X10_241 (As := [.int x1, .int x2]) (rest := []) (is := [0, 1, 2, 3, 4, 5, 6, 11, 12, 13]) (q0 := 0) (X' := [(a_t, .inr (10, [.ref a_pad, .ref a_scene, .ref a_images, .ref a_bench, .ref a_trial, .ref a_sitters, .ref a_trialSitters, .ref a_sets, .ref a_census, .ref a_match, .ref a_couples, .ref a_passing, .ref a_longRows])), (a_trial, .inr (0, [.ref a_scene, .ref a_trial_apart, .ref a_trial_clash, .ref a_trial_neighbours])), (a_scene, .inr (7, [.ref a_scene_steps, .ref a_scene_worths, .ref a_scene_comers, .ref a_scene_seen, .ref a_scene_seenLengths, .int v_scene_seats, .int v_scene_bear, .int v_scene_comerCount, .int v_scene_seenRows])), (a_trial_apart, eI cI 144 u4.2.1), (a_scene_steps, eI cI 12 v_scene_steps), (a_trial_clash, eI cI 12 u4.2.2.1), (a_trial_neighbours, eI cI 12 u4.2.2.2.1), (a_sets, .inr (8, [.ref a_sets_filled, .ref a_sets_open, .ref a_sets_chance, .int v_sets_size, .int v_sets_places])), (a_sets_filled, eI cI 4096 v_sets_filled), (a_sets_open, eI cI 4096 v_sets_open), (a_sets_chance, eI cI 4096 v_sets_chance), (a_trialSitters, .inr (9, [.ref a_trial, .ref a_trialSitters_nearest, .int u4.2.2.2.2.1, .int u4.2.2.2.2.2.1])), (a_trialSitters_nearest, eI cI 12 u4.2.2.2.2.2.2), (a_scene_worths, eI cI 12 v_scene_worths)]) Cx (c_X10_comeInWithArms l D cI cJ cZ cO a_t a_pad a_scene a_images a_bench a_trial a_sitters a_trialSitters a_sets a_census a_match a_couples a_passing a_longRows a_trial_apart a_trial_clash a_trial_neighbours a_scene_steps a_scene_worths a_scene_comers a_scene_seen a_scene_seenLengths a_trialSitters_nearest v_scene_seats v_scene_bear v_scene_comerCount v_scene_seenRows v_trial_apart v_scene_steps v_trial_clash v_trial_neighbours v_trialSitters_set v_trialSitters_bear v_trialSitters_nearest v_scene_worths x1 x2 u4 hu4) hP hS rfl rfl rfl rfl rfl rfl rfl hl.1 (Nat.le_of_ble_eq_true rfl) dX10_worthOfArms_9 rfl rfl ⟨Nat.le_of_ble_eq_true rfl, Nat.le_of_ble_eq_true rfl⟩ ⟨Nat.zero_le _, Nat.zero_le _⟩ rfl (fun H locs hP hS => ?_)
    refine lv_i2l (v := (u4.1).toInt64) hx hb dX10_worthOfArms_12 rfl ?_
    obtain rfl := Option.some.inj hf
    exact ret _ _ _ _ dX10_worthOfArms_13 hP hS

def f_X10_bestPlaces_35 (v_scene_seats : Int32) (v_scene_bear : Int32) (v_scene_steps : Nat → Int32) (v_scene_worths : Nat → Int32) (x1 : Int32) (x2 : Int32) (u2 : Int32) : Nat → Int32 → Int64 → Int32 → (Nat → Int32) → (Nat → Int32) → (Nat → Int32) → Int32 → Int32 → (Nat → Int32) → (Nat → Int32) → (Nat → Int32) → Int32 → Int32 → (Nat → Int32) → Option (Int32 × (Nat → Int32) × (Nat → Int32) × (Nat → Int32) × Int32 × Int32 × (Nat → Int32) × (Nat → Int32) × (Nat → Int32) × Int32 × Int32 × (Nat → Int32))
  | 0, _, _, _, _, _, _, _, _, _, _, _, _, _, _ => none
  | n + 1, y3_35, y4_35, y8_35, z_trial_apart_35, z_trial_clash_35, z_trial_neighbours_35, z_sets_size_35, z_sets_places_35, z_sets_filled_35, z_sets_open_35, z_sets_chance_35, z_trialSitters_set_35, z_trialSitters_bear_35, z_trialSitters_nearest_35 =>
  if ((1 : Int32) <<< ((v_scene_seats - (1 : Int32)) &&& 31)) ≤ y8_35 then
  some (y3_35, z_trial_apart_35, z_trial_clash_35, z_trial_neighbours_35, z_sets_size_35, z_sets_places_35, z_sets_filled_35, z_sets_open_35, z_sets_chance_35, z_trialSitters_set_35, z_trialSitters_bear_35, z_trialSitters_nearest_35)
  else
  (f_J6_bitCount_0f7a4 y8_35).bind (fun u5 =>
  (if x2 < u5 then
  some (y3_35, y4_35, z_trial_apart_35, z_trial_clash_35, z_trial_neighbours_35, z_sets_size_35, z_sets_places_35, z_sets_filled_35, z_sets_open_35, z_sets_chance_35, z_trialSitters_set_35, z_trialSitters_bear_35, z_trialSitters_nearest_35)
  else
  if (y8_35 &&& u2) = 0 then
  (f_X10_worthOfArms v_scene_seats v_scene_bear z_trial_apart_35 v_scene_steps z_trial_clash_35 z_trial_neighbours_35 z_sets_size_35 z_sets_places_35 z_sets_filled_35 z_sets_open_35 z_sets_chance_35 z_trialSitters_set_35 z_trialSitters_bear_35 z_trialSitters_nearest_35 v_scene_worths y8_35 x1).bind (fun u10 =>
  if 0 < (lg_cmp u10.1 y4_35) then
  some (y8_35, u10.1, u10.2.1, u10.2.2.1, u10.2.2.2.1, u10.2.2.2.2.1, u10.2.2.2.2.2.1, u10.2.2.2.2.2.2.1, u10.2.2.2.2.2.2.2.1, u10.2.2.2.2.2.2.2.2.1, u10.2.2.2.2.2.2.2.2.2.1, u10.2.2.2.2.2.2.2.2.2.2.1, u10.2.2.2.2.2.2.2.2.2.2.2)
  else
  if (lg_cmp u10.1 y4_35) = 0 then
  (f_J6_bitCount_0f7a4 y3_35).bind (fun u13 =>
  if u13 ≤ u5 then
  some (y3_35, y4_35, u10.2.1, u10.2.2.1, u10.2.2.2.1, u10.2.2.2.2.1, u10.2.2.2.2.2.1, u10.2.2.2.2.2.2.1, u10.2.2.2.2.2.2.2.1, u10.2.2.2.2.2.2.2.2.1, u10.2.2.2.2.2.2.2.2.2.1, u10.2.2.2.2.2.2.2.2.2.2.1, u10.2.2.2.2.2.2.2.2.2.2.2)
  else
  some (y8_35, u10.1, u10.2.1, u10.2.2.1, u10.2.2.2.1, u10.2.2.2.2.1, u10.2.2.2.2.2.1, u10.2.2.2.2.2.2.1, u10.2.2.2.2.2.2.2.1, u10.2.2.2.2.2.2.2.2.1, u10.2.2.2.2.2.2.2.2.2.1, u10.2.2.2.2.2.2.2.2.2.2.1, u10.2.2.2.2.2.2.2.2.2.2.2))
  else
  some (y3_35, y4_35, u10.2.1, u10.2.2.1, u10.2.2.2.1, u10.2.2.2.2.1, u10.2.2.2.2.2.1, u10.2.2.2.2.2.2.1, u10.2.2.2.2.2.2.2.1, u10.2.2.2.2.2.2.2.2.1, u10.2.2.2.2.2.2.2.2.2.1, u10.2.2.2.2.2.2.2.2.2.2.1, u10.2.2.2.2.2.2.2.2.2.2.2))
  else
  some (y3_35, y4_35, z_trial_apart_35, z_trial_clash_35, z_trial_neighbours_35, z_sets_size_35, z_sets_places_35, z_sets_filled_35, z_sets_open_35, z_sets_chance_35, z_trialSitters_set_35, z_trialSitters_bear_35, z_trialSitters_nearest_35)).bind (fun w6 =>
  f_X10_bestPlaces_35 v_scene_seats v_scene_bear v_scene_steps v_scene_worths x1 x2 u2 n w6.1 w6.2.1 (y8_35 + 1) w6.2.2.1 w6.2.2.2.1 w6.2.2.2.2.1 w6.2.2.2.2.2.1 w6.2.2.2.2.2.2.1 w6.2.2.2.2.2.2.2.1 w6.2.2.2.2.2.2.2.2.1 w6.2.2.2.2.2.2.2.2.2.1 w6.2.2.2.2.2.2.2.2.2.2.1 w6.2.2.2.2.2.2.2.2.2.2.2.1 w6.2.2.2.2.2.2.2.2.2.2.2.2))
theorem f_X10_bestPlaces_35_s (v_scene_seats : Int32) (v_scene_bear : Int32) (v_scene_steps : Nat → Int32) (v_scene_worths : Nat → Int32) (x1 : Int32) (x2 : Int32) (u2 : Int32) (n : Nat) (y3_35 : Int32) (y4_35 : Int64) (y8_35 : Int32) (z_trial_apart_35 : Nat → Int32) (z_trial_clash_35 : Nat → Int32) (z_trial_neighbours_35 : Nat → Int32) (z_sets_size_35 : Int32) (z_sets_places_35 : Int32) (z_sets_filled_35 : Nat → Int32) (z_sets_open_35 : Nat → Int32) (z_sets_chance_35 : Nat → Int32) (z_trialSitters_set_35 : Int32) (z_trialSitters_bear_35 : Int32) (z_trialSitters_nearest_35 : Nat → Int32) : f_X10_bestPlaces_35 v_scene_seats v_scene_bear v_scene_steps v_scene_worths x1 x2 u2 (n + 1) y3_35 y4_35 y8_35 z_trial_apart_35 z_trial_clash_35 z_trial_neighbours_35 z_sets_size_35 z_sets_places_35 z_sets_filled_35 z_sets_open_35 z_sets_chance_35 z_trialSitters_set_35 z_trialSitters_bear_35 z_trialSitters_nearest_35 =
  (if ((1 : Int32) <<< ((v_scene_seats - (1 : Int32)) &&& 31)) ≤ y8_35 then
  some (y3_35, z_trial_apart_35, z_trial_clash_35, z_trial_neighbours_35, z_sets_size_35, z_sets_places_35, z_sets_filled_35, z_sets_open_35, z_sets_chance_35, z_trialSitters_set_35, z_trialSitters_bear_35, z_trialSitters_nearest_35)
  else
  (f_J6_bitCount_0f7a4 y8_35).bind (fun u5 =>
  (if x2 < u5 then
  some (y3_35, y4_35, z_trial_apart_35, z_trial_clash_35, z_trial_neighbours_35, z_sets_size_35, z_sets_places_35, z_sets_filled_35, z_sets_open_35, z_sets_chance_35, z_trialSitters_set_35, z_trialSitters_bear_35, z_trialSitters_nearest_35)
  else
  if (y8_35 &&& u2) = 0 then
  (f_X10_worthOfArms v_scene_seats v_scene_bear z_trial_apart_35 v_scene_steps z_trial_clash_35 z_trial_neighbours_35 z_sets_size_35 z_sets_places_35 z_sets_filled_35 z_sets_open_35 z_sets_chance_35 z_trialSitters_set_35 z_trialSitters_bear_35 z_trialSitters_nearest_35 v_scene_worths y8_35 x1).bind (fun u10 =>
  if 0 < (lg_cmp u10.1 y4_35) then
  some (y8_35, u10.1, u10.2.1, u10.2.2.1, u10.2.2.2.1, u10.2.2.2.2.1, u10.2.2.2.2.2.1, u10.2.2.2.2.2.2.1, u10.2.2.2.2.2.2.2.1, u10.2.2.2.2.2.2.2.2.1, u10.2.2.2.2.2.2.2.2.2.1, u10.2.2.2.2.2.2.2.2.2.2.1, u10.2.2.2.2.2.2.2.2.2.2.2)
  else
  if (lg_cmp u10.1 y4_35) = 0 then
  (f_J6_bitCount_0f7a4 y3_35).bind (fun u13 =>
  if u13 ≤ u5 then
  some (y3_35, y4_35, u10.2.1, u10.2.2.1, u10.2.2.2.1, u10.2.2.2.2.1, u10.2.2.2.2.2.1, u10.2.2.2.2.2.2.1, u10.2.2.2.2.2.2.2.1, u10.2.2.2.2.2.2.2.2.1, u10.2.2.2.2.2.2.2.2.2.1, u10.2.2.2.2.2.2.2.2.2.2.1, u10.2.2.2.2.2.2.2.2.2.2.2)
  else
  some (y8_35, u10.1, u10.2.1, u10.2.2.1, u10.2.2.2.1, u10.2.2.2.2.1, u10.2.2.2.2.2.1, u10.2.2.2.2.2.2.1, u10.2.2.2.2.2.2.2.1, u10.2.2.2.2.2.2.2.2.1, u10.2.2.2.2.2.2.2.2.2.1, u10.2.2.2.2.2.2.2.2.2.2.1, u10.2.2.2.2.2.2.2.2.2.2.2))
  else
  some (y3_35, y4_35, u10.2.1, u10.2.2.1, u10.2.2.2.1, u10.2.2.2.2.1, u10.2.2.2.2.2.1, u10.2.2.2.2.2.2.1, u10.2.2.2.2.2.2.2.1, u10.2.2.2.2.2.2.2.2.1, u10.2.2.2.2.2.2.2.2.2.1, u10.2.2.2.2.2.2.2.2.2.2.1, u10.2.2.2.2.2.2.2.2.2.2.2))
  else
  some (y3_35, y4_35, z_trial_apart_35, z_trial_clash_35, z_trial_neighbours_35, z_sets_size_35, z_sets_places_35, z_sets_filled_35, z_sets_open_35, z_sets_chance_35, z_trialSitters_set_35, z_trialSitters_bear_35, z_trialSitters_nearest_35)).bind (fun w6 =>
  f_X10_bestPlaces_35 v_scene_seats v_scene_bear v_scene_steps v_scene_worths x1 x2 u2 n w6.1 w6.2.1 (y8_35 + 1) w6.2.2.1 w6.2.2.2.1 w6.2.2.2.2.1 w6.2.2.2.2.2.1 w6.2.2.2.2.2.2.1 w6.2.2.2.2.2.2.2.1 w6.2.2.2.2.2.2.2.2.1 w6.2.2.2.2.2.2.2.2.2.1 w6.2.2.2.2.2.2.2.2.2.2.1 w6.2.2.2.2.2.2.2.2.2.2.2.1 w6.2.2.2.2.2.2.2.2.2.2.2.2))) := rfl
def f_X10_bestPlaces (v_scene_seats : Int32) (v_scene_bear : Int32) (v_trial_apart : Nat → Int32) (v_scene_steps : Nat → Int32) (v_trial_clash : Nat → Int32) (v_trial_neighbours : Nat → Int32) (v_sets_size : Int32) (v_sets_places : Int32) (v_sets_filled : Nat → Int32) (v_sets_open : Nat → Int32) (v_sets_chance : Nat → Int32) (v_trialSitters_set : Int32) (v_trialSitters_bear : Int32) (v_trialSitters_nearest : Nat → Int32) (v_scene_worths : Nat → Int32) (x1 : Int32) (x2 : Int32) : Option (Int32 × (Nat → Int32) × (Nat → Int32) × (Nat → Int32) × Int32 × Int32 × (Nat → Int32) × (Nat → Int32) × (Nat → Int32) × Int32 × Int32 × (Nat → Int32)) :=
  (f_X10_worthOfArms v_scene_seats v_scene_bear v_trial_apart v_scene_steps v_trial_clash v_trial_neighbours v_sets_size v_sets_places v_sets_filled v_sets_open v_sets_chance v_trialSitters_set v_trialSitters_bear v_trialSitters_nearest v_scene_worths (0 : Int32) x1).bind (fun u1 =>
  (f_X7_cutPlaces v_scene_seats v_scene_steps).bind (fun u2 =>
  (f_X10_bestPlaces_35 v_scene_seats v_scene_bear v_scene_steps v_scene_worths x1 x2 u2 FU (0 : Int32) u1.1 (1 : Int32) u1.2.1 u1.2.2.1 u1.2.2.2.1 u1.2.2.2.2.1 u1.2.2.2.2.2.1 u1.2.2.2.2.2.2.1 u1.2.2.2.2.2.2.2.1 u1.2.2.2.2.2.2.2.2.1 u1.2.2.2.2.2.2.2.2.2.1 u1.2.2.2.2.2.2.2.2.2.2.1 u1.2.2.2.2.2.2.2.2.2.2.2).bind (fun u15 =>
  some (u15.1, u15.2.1, u15.2.2.1, u15.2.2.2.1, u15.2.2.2.2.1, u15.2.2.2.2.2.1, u15.2.2.2.2.2.2.1, u15.2.2.2.2.2.2.2.1, u15.2.2.2.2.2.2.2.2.1, u15.2.2.2.2.2.2.2.2.2.1, u15.2.2.2.2.2.2.2.2.2.2.1, u15.2.2.2.2.2.2.2.2.2.2.2))))
set_option maxHeartbeats 4000000 in
set_option maxRecDepth 100000 in
theorem c_X10_bestPlaces (l : Launch) (D : va_G) (cI cJ cZ cO : ClassId) (a_t a_pad a_scene a_images a_bench a_trial a_sitters a_trialSitters a_sets a_census a_match a_couples a_passing a_longRows a_trial_apart a_trial_clash a_trial_neighbours a_scene_steps a_scene_worths a_scene_comers a_scene_seen a_scene_seenLengths a_sets_filled a_sets_open a_sets_chance a_trialSitters_nearest : Nat) (v_scene_seats : Int32) (v_scene_bear : Int32) (v_scene_comerCount : Int32) (v_scene_seenRows : Int32) (v_trial_apart : Nat → Int32) (v_scene_steps : Nat → Int32) (v_trial_clash : Nat → Int32) (v_trial_neighbours : Nat → Int32) (v_sets_size : Int32) (v_sets_places : Int32) (v_sets_filled : Nat → Int32) (v_sets_open : Nat → Int32) (v_sets_chance : Nat → Int32) (v_trialSitters_set : Int32) (v_trialSitters_bear : Int32) (v_trialSitters_nearest : Nat → Int32) (v_scene_worths : Nat → Int32) (x1 : Int32) (x2 : Int32) (out : Int32 × (Nat → Int32) × (Nat → Int32) × (Nat → Int32) × Int32 × Int32 × (Nat → Int32) × (Nat → Int32) × (Nat → Int32) × Int32 × Int32 × (Nat → Int32)) (hf : f_X10_bestPlaces v_scene_seats v_scene_bear v_trial_apart v_scene_steps v_trial_clash v_trial_neighbours v_sets_size v_sets_places v_sets_filled v_sets_open v_sets_chance v_trialSitters_set v_trialSitters_bear v_trialSitters_nearest v_scene_worths x1 x2 = some out) : MetR l yX10_bestPlaces (Cond.code yX10_bestPlaces cX10_bestPlaces 12 (some .int) :: tbG) { frames := 5, cells := 0, slots := 0, locals := 117 } D (tyL cI cJ cZ cO) [.ref a_t, .int x1, .int x2] [(a_t, .inr (10, [.ref a_pad, .ref a_scene, .ref a_images, .ref a_bench, .ref a_trial, .ref a_sitters, .ref a_trialSitters, .ref a_sets, .ref a_census, .ref a_match, .ref a_couples, .ref a_passing, .ref a_longRows])), (a_trial, .inr (0, [.ref a_scene, .ref a_trial_apart, .ref a_trial_clash, .ref a_trial_neighbours])), (a_scene, .inr (7, [.ref a_scene_steps, .ref a_scene_worths, .ref a_scene_comers, .ref a_scene_seen, .ref a_scene_seenLengths, .int v_scene_seats, .int v_scene_bear, .int v_scene_comerCount, .int v_scene_seenRows])), (a_trial_apart, eI cI 144 v_trial_apart), (a_scene_steps, eI cI 12 v_scene_steps), (a_trial_clash, eI cI 12 v_trial_clash), (a_trial_neighbours, eI cI 12 v_trial_neighbours), (a_sets, .inr (8, [.ref a_sets_filled, .ref a_sets_open, .ref a_sets_chance, .int v_sets_size, .int v_sets_places])), (a_sets_filled, eI cI 4096 v_sets_filled), (a_sets_open, eI cI 4096 v_sets_open), (a_sets_chance, eI cI 4096 v_sets_chance), (a_trialSitters, .inr (9, [.ref a_trial, .ref a_trialSitters_nearest, .int v_trialSitters_set, .int v_trialSitters_bear])), (a_trialSitters_nearest, eI cI 12 v_trialSitters_nearest), (a_scene_worths, eI cI 12 v_scene_worths)] (some (.int out.1)) [(a_t, .inr (10, [.ref a_pad, .ref a_scene, .ref a_images, .ref a_bench, .ref a_trial, .ref a_sitters, .ref a_trialSitters, .ref a_sets, .ref a_census, .ref a_match, .ref a_couples, .ref a_passing, .ref a_longRows])), (a_trial, .inr (0, [.ref a_scene, .ref a_trial_apart, .ref a_trial_clash, .ref a_trial_neighbours])), (a_scene, .inr (7, [.ref a_scene_steps, .ref a_scene_worths, .ref a_scene_comers, .ref a_scene_seen, .ref a_scene_seenLengths, .int v_scene_seats, .int v_scene_bear, .int v_scene_comerCount, .int v_scene_seenRows])), (a_trial_apart, eI cI 144 out.2.1), (a_scene_steps, eI cI 12 v_scene_steps), (a_trial_clash, eI cI 12 out.2.2.1), (a_trial_neighbours, eI cI 12 out.2.2.2.1), (a_sets, .inr (8, [.ref a_sets_filled, .ref a_sets_open, .ref a_sets_chance, .int out.2.2.2.2.1, .int out.2.2.2.2.2.1])), (a_sets_filled, eI cI 4096 out.2.2.2.2.2.2.1), (a_sets_open, eI cI 4096 out.2.2.2.2.2.2.2.1), (a_sets_chance, eI cI 4096 out.2.2.2.2.2.2.2.2.1), (a_trialSitters, .inr (9, [.ref a_trial, .ref a_trialSitters_nearest, .int out.2.2.2.2.2.2.2.2.2.1, .int out.2.2.2.2.2.2.2.2.2.2.1])), (a_trialSitters_nearest, eI cI 12 out.2.2.2.2.2.2.2.2.2.2.2), (a_scene_worths, eI cI 12 v_scene_worths)] := by
  refine ba_ofI RX10 [(0, .ref a_t), (1, .int x1), (2, .int x2)] (by decide +kernel) rfl (Nat.le_of_ble_eq_true rfl) rfl ?_
  intro p e s m args below meth c Q A Cx hP ret ls hl
  obtain ⟨⟨hx, hb, hml, hown, hts⟩, hK, hD, hA⟩ := id Cx
  have hS : va_S A s.heap s.heap [] := va_S.rf
  unfold f_X10_bestPlaces at hf
  refine lv_iconst (v := 0) hx hb dX10_bestPlaces_0 (by decide) ?_
  refine lv_istore_n (lv' := [(3, .int (0 : Int32)), (0, .ref a_t), (1, .int x1), (2, .int x2)]) hx hb dX10_bestPlaces_1 rfl hl (by decide) rfl (fun ls hl => ?_)
  refine lv_aload_n hx hb dX10_bestPlaces_2 rfl (lv_at hl 1 rfl) ?_
  refine lv_iconst (v := 0) hx hb dX10_bestPlaces_3 (by decide) ?_
  refine lv_iload_n hx hb dX10_bestPlaces_4 rfl (lv_at hl 2 rfl) ?_
  obtain ⟨u1, hu1, hf⟩ := ob_b hf
  refine iv_X10_302 (As := [.int (0 : Int32), .int x1]) (rest := []) (is := [0, 1, 2, 3, 4, 5, 6, 7, 8, 9, 10, 11, 12, 13]) (q0 := 0) (X' := [(a_t, .inr (10, [.ref a_pad, .ref a_scene, .ref a_images, .ref a_bench, .ref a_trial, .ref a_sitters, .ref a_trialSitters, .ref a_sets, .ref a_census, .ref a_match, .ref a_couples, .ref a_passing, .ref a_longRows])), (a_trial, .inr (0, [.ref a_scene, .ref a_trial_apart, .ref a_trial_clash, .ref a_trial_neighbours])), (a_scene, .inr (7, [.ref a_scene_steps, .ref a_scene_worths, .ref a_scene_comers, .ref a_scene_seen, .ref a_scene_seenLengths, .int v_scene_seats, .int v_scene_bear, .int v_scene_comerCount, .int v_scene_seenRows])), (a_trial_apart, eI cI 144 u1.2.1), (a_scene_steps, eI cI 12 v_scene_steps), (a_trial_clash, eI cI 12 u1.2.2.1), (a_trial_neighbours, eI cI 12 u1.2.2.2.1), (a_sets, .inr (8, [.ref a_sets_filled, .ref a_sets_open, .ref a_sets_chance, .int u1.2.2.2.2.1, .int u1.2.2.2.2.2.1])), (a_sets_filled, eI cI 4096 u1.2.2.2.2.2.2.1), (a_sets_open, eI cI 4096 u1.2.2.2.2.2.2.2.1), (a_sets_chance, eI cI 4096 u1.2.2.2.2.2.2.2.2.1), (a_trialSitters, .inr (9, [.ref a_trial, .ref a_trialSitters_nearest, .int u1.2.2.2.2.2.2.2.2.2.1, .int u1.2.2.2.2.2.2.2.2.2.2.1])), (a_trialSitters_nearest, eI cI 12 u1.2.2.2.2.2.2.2.2.2.2.2), (a_scene_worths, eI cI 12 v_scene_worths)]) Cx (c_X10_worthOfArms l D cI cJ cZ cO a_t a_pad a_scene a_images a_bench a_trial a_sitters a_trialSitters a_sets a_census a_match a_couples a_passing a_longRows a_trial_apart a_trial_clash a_trial_neighbours a_scene_steps a_scene_worths a_scene_comers a_scene_seen a_scene_seenLengths a_sets_filled a_sets_open a_sets_chance a_trialSitters_nearest v_scene_seats v_scene_bear v_scene_comerCount v_scene_seenRows v_trial_apart v_scene_steps v_trial_clash v_trial_neighbours v_sets_size v_sets_places v_sets_filled v_sets_open v_sets_chance v_trialSitters_set v_trialSitters_bear v_trialSitters_nearest v_scene_worths (0 : Int32) x1 u1 hu1) hP hS rfl rfl rfl rfl rfl rfl rfl hl.1 (Nat.le_of_ble_eq_true rfl) dX10_bestPlaces_5 rfl rfl ⟨Nat.le_of_ble_eq_true rfl, Nat.le_of_ble_eq_true rfl⟩ ⟨Nat.zero_le _, Nat.zero_le _⟩ rfl (fun H locs hP hS => ?_)
  refine lv_lstore (lv' := [(4, .long u1.1), (3, .int (0 : Int32)), (0, .ref a_t), (1, .int x1), (2, .int x2)]) hx hb dX10_bestPlaces_8 hl (by decide) rfl (fun ls hl => ?_)
  refine lv_aload_n hx hb dX10_bestPlaces_10 rfl (lv_at hl 2 rfl) ?_
  refine gf_X10_19 Cx hP 0 rfl rfl dX10_bestPlaces_11 ?_
  obtain ⟨u2, hu2, hf⟩ := ob_b hf
  refine iv_X10_306 (As := []) (rest := []) (is := [2, 4]) (q0 := 2) (X' := [(a_t, .inr (10, [.ref a_pad, .ref a_scene, .ref a_images, .ref a_bench, .ref a_trial, .ref a_sitters, .ref a_trialSitters, .ref a_sets, .ref a_census, .ref a_match, .ref a_couples, .ref a_passing, .ref a_longRows])), (a_trial, .inr (0, [.ref a_scene, .ref a_trial_apart, .ref a_trial_clash, .ref a_trial_neighbours])), (a_scene, .inr (7, [.ref a_scene_steps, .ref a_scene_worths, .ref a_scene_comers, .ref a_scene_seen, .ref a_scene_seenLengths, .int v_scene_seats, .int v_scene_bear, .int v_scene_comerCount, .int v_scene_seenRows])), (a_trial_apart, eI cI 144 u1.2.1), (a_scene_steps, eI cI 12 v_scene_steps), (a_trial_clash, eI cI 12 u1.2.2.1), (a_trial_neighbours, eI cI 12 u1.2.2.2.1), (a_sets, .inr (8, [.ref a_sets_filled, .ref a_sets_open, .ref a_sets_chance, .int u1.2.2.2.2.1, .int u1.2.2.2.2.2.1])), (a_sets_filled, eI cI 4096 u1.2.2.2.2.2.2.1), (a_sets_open, eI cI 4096 u1.2.2.2.2.2.2.2.1), (a_sets_chance, eI cI 4096 u1.2.2.2.2.2.2.2.2.1), (a_trialSitters, .inr (9, [.ref a_trial, .ref a_trialSitters_nearest, .int u1.2.2.2.2.2.2.2.2.2.1, .int u1.2.2.2.2.2.2.2.2.2.2.1])), (a_trialSitters_nearest, eI cI 12 u1.2.2.2.2.2.2.2.2.2.2.2), (a_scene_worths, eI cI 12 v_scene_worths)]) Cx (c_X7_cutPlaces l D cI cJ cZ cO a_scene a_scene_steps a_scene_worths a_scene_comers a_scene_seen a_scene_seenLengths v_scene_seats v_scene_bear v_scene_comerCount v_scene_seenRows v_scene_steps u2 hu2) hP hS rfl rfl rfl rfl rfl rfl rfl hl.1 (Nat.le_of_ble_eq_true rfl) dX10_bestPlaces_14 rfl rfl ⟨Nat.le_of_ble_eq_true rfl, Nat.le_of_ble_eq_true rfl⟩ ⟨Nat.zero_le _, Nat.zero_le _⟩ rfl (fun H locs hP hS => ?_)
  refine lv_istore (lv' := [(6, .int u2), (4, .long u1.1), (3, .int (0 : Int32)), (0, .ref a_t), (1, .int x1), (2, .int x2)]) hx hb dX10_bestPlaces_17 hl (by decide) rfl (fun ls hl => ?_)
  refine lv_iconst (v := 1) hx hb dX10_bestPlaces_19 (by decide) ?_
  refine lv_aload_n hx hb dX10_bestPlaces_20 rfl (lv_at hl 3 rfl) ?_
  refine gf_X10_19 Cx hP 0 rfl rfl dX10_bestPlaces_21 ?_
  refine gf_X10_123 Cx hP 2 rfl rfl dX10_bestPlaces_24 ?_
  refine lv_iconst (v := 1) hx hb dX10_bestPlaces_27 (by decide) ?_
  refine lv_isub hx hb dX10_bestPlaces_28 ?_
  refine lv_ishl hx hb dX10_bestPlaces_29 ?_
  refine lv_istore (lv' := [(7, .int ((1 : Int32) <<< ((v_scene_seats - (1 : Int32)) &&& 31))), (6, .int u2), (4, .long u1.1), (3, .int (0 : Int32)), (0, .ref a_t), (1, .int x1), (2, .int x2)]) hx hb dX10_bestPlaces_30 hl (by decide) rfl (fun ls hl => ?_)
  refine lv_iconst (v := 1) hx hb dX10_bestPlaces_32 (by decide) ?_
  refine lv_istore (lv' := [(8, .int (1 : Int32)), (7, .int ((1 : Int32) <<< ((v_scene_seats - (1 : Int32)) &&& 31))), (6, .int u2), (4, .long u1.1), (3, .int (0 : Int32)), (0, .ref a_t), (1, .int x1), (2, .int x2)]) hx hb dX10_bestPlaces_33 hl (by decide) rfl (fun ls hl => ?_)
  have L35_3 : ∀ (n : Nat) (y3_35 : Int32) (y4_35 : Int64) (y8_35 : Int32) (z_trial_apart_35 : Nat → Int32) (z_trial_clash_35 : Nat → Int32) (z_trial_neighbours_35 : Nat → Int32) (z_sets_size_35 : Int32) (z_sets_places_35 : Int32) (z_sets_filled_35 : Nat → Int32) (z_sets_open_35 : Nat → Int32) (z_sets_chance_35 : Nat → Int32) (z_trialSitters_set_35 : Int32) (z_trialSitters_bear_35 : Int32) (z_trialSitters_nearest_35 : Nat → Int32) (o : Int32 × (Nat → Int32) × (Nat → Int32) × (Nat → Int32) × Int32 × Int32 × (Nat → Int32) × (Nat → Int32) × (Nat → Int32) × Int32 × Int32 × (Nat → Int32)) (H : Heap) (locs : List Loc) (ls : Array Slot), f_X10_bestPlaces_35 v_scene_seats v_scene_bear v_scene_steps v_scene_worths x1 x2 u2 n y3_35 y4_35 y8_35 z_trial_apart_35 z_trial_clash_35 z_trial_neighbours_35 z_sets_size_35 z_sets_places_35 z_sets_filled_35 z_sets_open_35 z_sets_chance_35 z_trialSitters_set_35 z_trialSitters_bear_35 z_trialSitters_nearest_35 = some o → va_P D vwCl [(a_t, .inr (10, [.ref a_pad, .ref a_scene, .ref a_images, .ref a_bench, .ref a_trial, .ref a_sitters, .ref a_trialSitters, .ref a_sets, .ref a_census, .ref a_match, .ref a_couples, .ref a_passing, .ref a_longRows])), (a_trial, .inr (0, [.ref a_scene, .ref a_trial_apart, .ref a_trial_clash, .ref a_trial_neighbours])), (a_scene, .inr (7, [.ref a_scene_steps, .ref a_scene_worths, .ref a_scene_comers, .ref a_scene_seen, .ref a_scene_seenLengths, .int v_scene_seats, .int v_scene_bear, .int v_scene_comerCount, .int v_scene_seenRows])), (a_trial_apart, eI cI 144 z_trial_apart_35), (a_scene_steps, eI cI 12 v_scene_steps), (a_trial_clash, eI cI 12 z_trial_clash_35), (a_trial_neighbours, eI cI 12 z_trial_neighbours_35), (a_sets, .inr (8, [.ref a_sets_filled, .ref a_sets_open, .ref a_sets_chance, .int z_sets_size_35, .int z_sets_places_35])), (a_sets_filled, eI cI 4096 z_sets_filled_35), (a_sets_open, eI cI 4096 z_sets_open_35), (a_sets_chance, eI cI 4096 z_sets_chance_35), (a_trialSitters, .inr (9, [.ref a_trial, .ref a_trialSitters_nearest, .int z_trialSitters_set_35, .int z_trialSitters_bear_35])), (a_trialSitters_nearest, eI cI 12 z_trialSitters_nearest_35), (a_scene_worths, eI cI 12 v_scene_worths)] H → va_S A s.heap H locs → lv_has ls 12 [(0, .ref a_t), (1, .int x1), (2, .int x2), (3, .int y3_35), (4, .long y4_35), (6, .int u2), (7, .int ((1 : Int32) <<< ((v_scene_seats - (1 : Int32)) &&& 31))), (8, .int y8_35)] → (∀ (H : Heap) (locs : List Loc) (ls : Array Slot), va_P D vwCl [(a_t, .inr (10, [.ref a_pad, .ref a_scene, .ref a_images, .ref a_bench, .ref a_trial, .ref a_sitters, .ref a_trialSitters, .ref a_sets, .ref a_census, .ref a_match, .ref a_couples, .ref a_passing, .ref a_longRows])), (a_trial, .inr (0, [.ref a_scene, .ref a_trial_apart, .ref a_trial_clash, .ref a_trial_neighbours])), (a_scene, .inr (7, [.ref a_scene_steps, .ref a_scene_worths, .ref a_scene_comers, .ref a_scene_seen, .ref a_scene_seenLengths, .int v_scene_seats, .int v_scene_bear, .int v_scene_comerCount, .int v_scene_seenRows])), (a_trial_apart, eI cI 144 o.2.1), (a_scene_steps, eI cI 12 v_scene_steps), (a_trial_clash, eI cI 12 o.2.2.1), (a_trial_neighbours, eI cI 12 o.2.2.2.1), (a_sets, .inr (8, [.ref a_sets_filled, .ref a_sets_open, .ref a_sets_chance, .int o.2.2.2.2.1, .int o.2.2.2.2.2.1])), (a_sets_filled, eI cI 4096 o.2.2.2.2.2.2.1), (a_sets_open, eI cI 4096 o.2.2.2.2.2.2.2.1), (a_sets_chance, eI cI 4096 o.2.2.2.2.2.2.2.2.1), (a_trialSitters, .inr (9, [.ref a_trial, .ref a_trialSitters_nearest, .int o.2.2.2.2.2.2.2.2.2.1, .int o.2.2.2.2.2.2.2.2.2.2.1])), (a_trialSitters_nearest, eI cI 12 o.2.2.2.2.2.2.2.2.2.2.2), (a_scene_worths, eI cI 12 v_scene_worths)] H → va_S A s.heap H locs → lv_has ls 12 [(3, .int o.1)] → W p l e { frames := 5, cells := 0, slots := 0, locals := 117 } s m args below meth c H locs 0 0 Q (F0 m 113 ls [])) → W p l e { frames := 5, cells := 0, slots := 0, locals := 117 } s m args below meth c H locs 0 0 Q (F0 m 35 ls []) := by
    intro n
    induction n with
    | zero => intro y3_35 y4_35 y8_35 z_trial_apart_35 z_trial_clash_35 z_trial_neighbours_35 z_sets_size_35 z_sets_places_35 z_sets_filled_35 z_sets_open_35 z_sets_chance_35 z_trialSitters_set_35 z_trialSitters_bear_35 z_trialSitters_nearest_35 o H locs ls hf; exact (ob_n hf).elim
    | succ n ih =>
      intro y3_35 y4_35 y8_35 z_trial_apart_35 z_trial_clash_35 z_trial_neighbours_35 z_sets_size_35 z_sets_places_35 z_sets_filled_35 z_sets_open_35 z_sets_chance_35 z_trialSitters_set_35 z_trialSitters_bear_35 z_trialSitters_nearest_35 o H locs ls hf hP hS hl kk
      rw [f_X10_bestPlaces_35_s] at hf
      refine lv_iload hx hb dX10_bestPlaces_35 (lv_at hl 7 rfl) ?_
      refine lv_iload hx hb dX10_bestPlaces_37 (lv_at hl 6 rfl) ?_
      refine lv_icmp_ge (tgt := 113) hx hb dX10_bestPlaces_39 (by decide) (fun c4 => ?_) (fun c4 => ?_)
      · have hf := ob_t c4 hf
        obtain rfl := Option.some.inj hf
        exact kk _ _ _ hP hS (lv_sub hl [3] rfl)
      · have hf := ob_f c4 hf
        refine lv_iload hx hb dX10_bestPlaces_42 (lv_at hl 7 rfl) ?_
        obtain ⟨u5, hu5, hf⟩ := ob_b hf
        refine iv_X10_180 (As := [.int y8_35]) (rest := []) (is := []) (X' := [(a_t, .inr (10, [.ref a_pad, .ref a_scene, .ref a_images, .ref a_bench, .ref a_trial, .ref a_sitters, .ref a_trialSitters, .ref a_sets, .ref a_census, .ref a_match, .ref a_couples, .ref a_passing, .ref a_longRows])), (a_trial, .inr (0, [.ref a_scene, .ref a_trial_apart, .ref a_trial_clash, .ref a_trial_neighbours])), (a_scene, .inr (7, [.ref a_scene_steps, .ref a_scene_worths, .ref a_scene_comers, .ref a_scene_seen, .ref a_scene_seenLengths, .int v_scene_seats, .int v_scene_bear, .int v_scene_comerCount, .int v_scene_seenRows])), (a_trial_apart, eI cI 144 z_trial_apart_35), (a_scene_steps, eI cI 12 v_scene_steps), (a_trial_clash, eI cI 12 z_trial_clash_35), (a_trial_neighbours, eI cI 12 z_trial_neighbours_35), (a_sets, .inr (8, [.ref a_sets_filled, .ref a_sets_open, .ref a_sets_chance, .int z_sets_size_35, .int z_sets_places_35])), (a_sets_filled, eI cI 4096 z_sets_filled_35), (a_sets_open, eI cI 4096 z_sets_open_35), (a_sets_chance, eI cI 4096 z_sets_chance_35), (a_trialSitters, .inr (9, [.ref a_trial, .ref a_trialSitters_nearest, .int z_trialSitters_set_35, .int z_trialSitters_bear_35])), (a_trialSitters_nearest, eI cI 12 z_trialSitters_nearest_35), (a_scene_worths, eI cI 12 v_scene_worths)]) Cx (c_J6_bitCount_0f7a4 l D cI cJ cZ cO  y8_35 u5 hu5) hP hS rfl rfl rfl rfl rfl rfl hl.1 (Nat.le_of_ble_eq_true rfl) dX10_bestPlaces_44 rfl rfl ⟨Nat.le_of_ble_eq_true rfl, Nat.le_of_ble_eq_true rfl⟩ ⟨Nat.zero_le _, Nat.zero_le _⟩ rfl (fun H locs hP hS => ?_)
        refine lv_istore (lv' := [(9, .int u5), (0, .ref a_t), (1, .int x1), (2, .int x2), (3, .int y3_35), (4, .long y4_35), (6, .int u2), (7, .int ((1 : Int32) <<< ((v_scene_seats - (1 : Int32)) &&& 31))), (8, .int y8_35)]) hx hb dX10_bestPlaces_47 hl (by decide) rfl (fun ls hl => ?_)
        refine lv_iload hx hb dX10_bestPlaces_49 (lv_at hl 0 rfl) ?_
        refine lv_iload_n hx hb dX10_bestPlaces_51 rfl (lv_at hl 3 rfl) ?_
        refine ob_J (P := fun w6 => ∀ (H : Heap) (locs : List Loc) (ls : Array Slot), va_P D vwCl [(a_t, .inr (10, [.ref a_pad, .ref a_scene, .ref a_images, .ref a_bench, .ref a_trial, .ref a_sitters, .ref a_trialSitters, .ref a_sets, .ref a_census, .ref a_match, .ref a_couples, .ref a_passing, .ref a_longRows])), (a_trial, .inr (0, [.ref a_scene, .ref a_trial_apart, .ref a_trial_clash, .ref a_trial_neighbours])), (a_scene, .inr (7, [.ref a_scene_steps, .ref a_scene_worths, .ref a_scene_comers, .ref a_scene_seen, .ref a_scene_seenLengths, .int v_scene_seats, .int v_scene_bear, .int v_scene_comerCount, .int v_scene_seenRows])), (a_trial_apart, eI cI 144 w6.2.2.1), (a_scene_steps, eI cI 12 v_scene_steps), (a_trial_clash, eI cI 12 w6.2.2.2.1), (a_trial_neighbours, eI cI 12 w6.2.2.2.2.1), (a_sets, .inr (8, [.ref a_sets_filled, .ref a_sets_open, .ref a_sets_chance, .int w6.2.2.2.2.2.1, .int w6.2.2.2.2.2.2.1])), (a_sets_filled, eI cI 4096 w6.2.2.2.2.2.2.2.1), (a_sets_open, eI cI 4096 w6.2.2.2.2.2.2.2.2.1), (a_sets_chance, eI cI 4096 w6.2.2.2.2.2.2.2.2.2.1), (a_trialSitters, .inr (9, [.ref a_trial, .ref a_trialSitters_nearest, .int w6.2.2.2.2.2.2.2.2.2.2.1, .int w6.2.2.2.2.2.2.2.2.2.2.2.1])), (a_trialSitters_nearest, eI cI 12 w6.2.2.2.2.2.2.2.2.2.2.2.2), (a_scene_worths, eI cI 12 v_scene_worths)] H → va_S A s.heap H locs → lv_has ls 12 [(0, .ref a_t), (1, .int x1), (2, .int x2), (3, .int w6.1), (4, .long w6.2.1), (6, .int u2), (7, .int ((1 : Int32) <<< ((v_scene_seats - (1 : Int32)) &&& 31))), (8, .int y8_35)] → W p l e { frames := 5, cells := 0, slots := 0, locals := 117 } s m args below meth c H locs 0 0 Q (F0 m 107 ls [])) hf ?_ ?_
        · intro w6 hf H locs ls hP hS hl
          refine lv_iinc (v := (y8_35 + 1)) (lv' := [(8, .int (y8_35 + 1)), (0, .ref a_t), (1, .int x1), (2, .int x2), (3, .int w6.1), (4, .long w6.2.1), (6, .int u2), (7, .int ((1 : Int32) <<< ((v_scene_seats - (1 : Int32)) &&& 31)))]) hx hb dX10_bestPlaces_107 hl (k := 7) rfl rfl (by decide) rfl (fun ls hl => ?_)
          refine lv_goto (tgt := 35) hx hb dX10_bestPlaces_110 (by decide) ?_
          exact ih w6.1 w6.2.1 (y8_35 + 1) w6.2.2.1 w6.2.2.2.1 w6.2.2.2.2.1 w6.2.2.2.2.2.1 w6.2.2.2.2.2.2.1 w6.2.2.2.2.2.2.2.1 w6.2.2.2.2.2.2.2.2.1 w6.2.2.2.2.2.2.2.2.2.1 w6.2.2.2.2.2.2.2.2.2.2.1 w6.2.2.2.2.2.2.2.2.2.2.2.1 w6.2.2.2.2.2.2.2.2.2.2.2.2 _ _ _ _ hf hP hS (lv_sub hl [1, 2, 3, 4, 5, 6, 7, 0] rfl) kk
        · intro J107_7 hf
          refine lv_icmp_gt (tgt := 107) hx hb dX10_bestPlaces_52 (by decide) (fun c8 => ?_) (fun c8 => ?_)
          · have hf := ob_tk c8 hf
            exact J107_7 (y3_35, y4_35, z_trial_apart_35, z_trial_clash_35, z_trial_neighbours_35, z_sets_size_35, z_sets_places_35, z_sets_filled_35, z_sets_open_35, z_sets_chance_35, z_trialSitters_set_35, z_trialSitters_bear_35, z_trialSitters_nearest_35) hf _ _ _ hP hS (lv_sub hl [1, 2, 3, 4, 5, 6, 7, 8] rfl)
          · have hf := ob_fk c8 hf
            refine lv_iload hx hb dX10_bestPlaces_55 (lv_at hl 8 rfl) ?_
            refine lv_iload hx hb dX10_bestPlaces_57 (lv_at hl 6 rfl) ?_
            refine lv_iand hx hb dX10_bestPlaces_59 ?_
            refine lv_if_eq (tgt := 66) hx hb dX10_bestPlaces_60 (by decide) (fun c9 => ?_) (fun c9 => ?_)
            · have hf := ob_tk c9 hf
              refine lv_aload_n hx hb dX10_bestPlaces_66 rfl (lv_at hl 1 rfl) ?_
              refine lv_iload hx hb dX10_bestPlaces_67 (lv_at hl 8 rfl) ?_
              refine lv_iload_n hx hb dX10_bestPlaces_69 rfl (lv_at hl 2 rfl) ?_
              obtain ⟨u10, hu10, hf⟩ := ob_bk hf
              refine iv_X10_302 (As := [.int y8_35, .int x1]) (rest := []) (is := [0, 1, 2, 3, 4, 5, 6, 7, 8, 9, 10, 11, 12, 13]) (q0 := 0) (X' := [(a_t, .inr (10, [.ref a_pad, .ref a_scene, .ref a_images, .ref a_bench, .ref a_trial, .ref a_sitters, .ref a_trialSitters, .ref a_sets, .ref a_census, .ref a_match, .ref a_couples, .ref a_passing, .ref a_longRows])), (a_trial, .inr (0, [.ref a_scene, .ref a_trial_apart, .ref a_trial_clash, .ref a_trial_neighbours])), (a_scene, .inr (7, [.ref a_scene_steps, .ref a_scene_worths, .ref a_scene_comers, .ref a_scene_seen, .ref a_scene_seenLengths, .int v_scene_seats, .int v_scene_bear, .int v_scene_comerCount, .int v_scene_seenRows])), (a_trial_apart, eI cI 144 u10.2.1), (a_scene_steps, eI cI 12 v_scene_steps), (a_trial_clash, eI cI 12 u10.2.2.1), (a_trial_neighbours, eI cI 12 u10.2.2.2.1), (a_sets, .inr (8, [.ref a_sets_filled, .ref a_sets_open, .ref a_sets_chance, .int u10.2.2.2.2.1, .int u10.2.2.2.2.2.1])), (a_sets_filled, eI cI 4096 u10.2.2.2.2.2.2.1), (a_sets_open, eI cI 4096 u10.2.2.2.2.2.2.2.1), (a_sets_chance, eI cI 4096 u10.2.2.2.2.2.2.2.2.1), (a_trialSitters, .inr (9, [.ref a_trial, .ref a_trialSitters_nearest, .int u10.2.2.2.2.2.2.2.2.2.1, .int u10.2.2.2.2.2.2.2.2.2.2.1])), (a_trialSitters_nearest, eI cI 12 u10.2.2.2.2.2.2.2.2.2.2.2), (a_scene_worths, eI cI 12 v_scene_worths)]) Cx (c_X10_worthOfArms l D cI cJ cZ cO a_t a_pad a_scene a_images a_bench a_trial a_sitters a_trialSitters a_sets a_census a_match a_couples a_passing a_longRows a_trial_apart a_trial_clash a_trial_neighbours a_scene_steps a_scene_worths a_scene_comers a_scene_seen a_scene_seenLengths a_sets_filled a_sets_open a_sets_chance a_trialSitters_nearest v_scene_seats v_scene_bear v_scene_comerCount v_scene_seenRows z_trial_apart_35 v_scene_steps z_trial_clash_35 z_trial_neighbours_35 z_sets_size_35 z_sets_places_35 z_sets_filled_35 z_sets_open_35 z_sets_chance_35 z_trialSitters_set_35 z_trialSitters_bear_35 z_trialSitters_nearest_35 v_scene_worths y8_35 x1 u10 hu10) hP hS rfl rfl rfl rfl rfl rfl rfl hl.1 (Nat.le_of_ble_eq_true rfl) dX10_bestPlaces_70 rfl rfl ⟨Nat.le_of_ble_eq_true rfl, Nat.le_of_ble_eq_true rfl⟩ ⟨Nat.zero_le _, Nat.zero_le _⟩ rfl (fun H locs hP hS => ?_)
              refine lv_lstore (lv' := [(10, .long u10.1), (9, .int u5), (0, .ref a_t), (1, .int x1), (2, .int x2), (3, .int y3_35), (4, .long y4_35), (6, .int u2), (7, .int ((1 : Int32) <<< ((v_scene_seats - (1 : Int32)) &&& 31))), (8, .int y8_35)]) hx hb dX10_bestPlaces_73 hl (by decide) rfl (fun ls hl => ?_)
              refine lv_lload hx hb dX10_bestPlaces_75 (lv_at hl 0 rfl) ?_
              refine lv_lload hx hb dX10_bestPlaces_77 (lv_at hl 6 rfl) ?_
              refine W.lcmp hx hb dX10_bestPlaces_79 ?_
              refine lv_if_gt (tgt := 100) hx hb dX10_bestPlaces_80 (by decide) (fun c11 => ?_) (fun c11 => ?_)
              · have hf := ob_tk c11 hf
                refine lv_iload hx hb dX10_bestPlaces_100 (lv_at hl 9 rfl) ?_
                refine lv_istore_n (lv' := [(3, .int y8_35), (10, .long u10.1), (9, .int u5), (0, .ref a_t), (1, .int x1), (2, .int x2), (4, .long y4_35), (6, .int u2), (7, .int ((1 : Int32) <<< ((v_scene_seats - (1 : Int32)) &&& 31))), (8, .int y8_35)]) hx hb dX10_bestPlaces_102 rfl hl (by decide) rfl (fun ls hl => ?_)
                refine lv_lload hx hb dX10_bestPlaces_103 (lv_at hl 1 rfl) ?_
                refine lv_lstore (lv' := [(4, .long u10.1), (3, .int y8_35), (10, .long u10.1), (9, .int u5), (0, .ref a_t), (1, .int x1), (2, .int x2), (6, .int u2), (7, .int ((1 : Int32) <<< ((v_scene_seats - (1 : Int32)) &&& 31))), (8, .int y8_35)]) hx hb dX10_bestPlaces_105 hl (by decide) rfl (fun ls hl => ?_)
                exact J107_7 (y8_35, u10.1, u10.2.1, u10.2.2.1, u10.2.2.2.1, u10.2.2.2.2.1, u10.2.2.2.2.2.1, u10.2.2.2.2.2.2.1, u10.2.2.2.2.2.2.2.1, u10.2.2.2.2.2.2.2.2.1, u10.2.2.2.2.2.2.2.2.2.1, u10.2.2.2.2.2.2.2.2.2.2.1, u10.2.2.2.2.2.2.2.2.2.2.2) hf _ _ _ hP hS (lv_sub hl [4, 5, 6, 1, 0, 7, 8, 9] rfl)
              · have hf := ob_fk c11 hf
                refine lv_lload hx hb dX10_bestPlaces_83 (lv_at hl 0 rfl) ?_
                refine lv_lload hx hb dX10_bestPlaces_85 (lv_at hl 6 rfl) ?_
                refine W.lcmp hx hb dX10_bestPlaces_87 ?_
                refine lv_if_ne (tgt := 107) hx hb dX10_bestPlaces_88 (by decide) (fun c12 => ?_) (fun c12 => ?_)
                · have hf := ob_fk c12 hf
                  exact J107_7 (y3_35, y4_35, u10.2.1, u10.2.2.1, u10.2.2.2.1, u10.2.2.2.2.1, u10.2.2.2.2.2.1, u10.2.2.2.2.2.2.1, u10.2.2.2.2.2.2.2.1, u10.2.2.2.2.2.2.2.2.1, u10.2.2.2.2.2.2.2.2.2.1, u10.2.2.2.2.2.2.2.2.2.2.1, u10.2.2.2.2.2.2.2.2.2.2.2) hf _ _ _ hP hS (lv_sub hl [2, 3, 4, 5, 6, 7, 8, 9] rfl)
                · have hf := ob_tk c12 hf
                  refine lv_iload hx hb dX10_bestPlaces_91 (lv_at hl 1 rfl) ?_
                  refine lv_iload_n hx hb dX10_bestPlaces_93 rfl (lv_at hl 5 rfl) ?_
                  obtain ⟨u13, hu13, hf⟩ := ob_bk hf
                  refine iv_X10_180 (As := [.int y3_35]) (rest := [.int u5]) (is := []) (X' := [(a_t, .inr (10, [.ref a_pad, .ref a_scene, .ref a_images, .ref a_bench, .ref a_trial, .ref a_sitters, .ref a_trialSitters, .ref a_sets, .ref a_census, .ref a_match, .ref a_couples, .ref a_passing, .ref a_longRows])), (a_trial, .inr (0, [.ref a_scene, .ref a_trial_apart, .ref a_trial_clash, .ref a_trial_neighbours])), (a_scene, .inr (7, [.ref a_scene_steps, .ref a_scene_worths, .ref a_scene_comers, .ref a_scene_seen, .ref a_scene_seenLengths, .int v_scene_seats, .int v_scene_bear, .int v_scene_comerCount, .int v_scene_seenRows])), (a_trial_apart, eI cI 144 u10.2.1), (a_scene_steps, eI cI 12 v_scene_steps), (a_trial_clash, eI cI 12 u10.2.2.1), (a_trial_neighbours, eI cI 12 u10.2.2.2.1), (a_sets, .inr (8, [.ref a_sets_filled, .ref a_sets_open, .ref a_sets_chance, .int u10.2.2.2.2.1, .int u10.2.2.2.2.2.1])), (a_sets_filled, eI cI 4096 u10.2.2.2.2.2.2.1), (a_sets_open, eI cI 4096 u10.2.2.2.2.2.2.2.1), (a_sets_chance, eI cI 4096 u10.2.2.2.2.2.2.2.2.1), (a_trialSitters, .inr (9, [.ref a_trial, .ref a_trialSitters_nearest, .int u10.2.2.2.2.2.2.2.2.2.1, .int u10.2.2.2.2.2.2.2.2.2.2.1])), (a_trialSitters_nearest, eI cI 12 u10.2.2.2.2.2.2.2.2.2.2.2), (a_scene_worths, eI cI 12 v_scene_worths)]) Cx (c_J6_bitCount_0f7a4 l D cI cJ cZ cO  y3_35 u13 hu13) hP hS rfl rfl rfl rfl rfl rfl hl.1 (Nat.le_of_ble_eq_true rfl) dX10_bestPlaces_94 rfl rfl ⟨Nat.le_of_ble_eq_true rfl, Nat.le_of_ble_eq_true rfl⟩ ⟨Nat.zero_le _, Nat.zero_le _⟩ rfl (fun H locs hP hS => ?_)
                  refine lv_icmp_ge (tgt := 107) hx hb dX10_bestPlaces_97 (by decide) (fun c14 => ?_) (fun c14 => ?_)
                  · have hf := ob_tk c14 hf
                    exact J107_7 (y3_35, y4_35, u10.2.1, u10.2.2.1, u10.2.2.2.1, u10.2.2.2.2.1, u10.2.2.2.2.2.1, u10.2.2.2.2.2.2.1, u10.2.2.2.2.2.2.2.1, u10.2.2.2.2.2.2.2.2.1, u10.2.2.2.2.2.2.2.2.2.1, u10.2.2.2.2.2.2.2.2.2.2.1, u10.2.2.2.2.2.2.2.2.2.2.2) hf _ _ _ hP hS (lv_sub hl [2, 3, 4, 5, 6, 7, 8, 9] rfl)
                  · have hf := ob_fk c14 hf
                    refine lv_iload hx hb dX10_bestPlaces_100 (lv_at hl 9 rfl) ?_
                    refine lv_istore_n (lv' := [(3, .int y8_35), (10, .long u10.1), (9, .int u5), (0, .ref a_t), (1, .int x1), (2, .int x2), (4, .long y4_35), (6, .int u2), (7, .int ((1 : Int32) <<< ((v_scene_seats - (1 : Int32)) &&& 31))), (8, .int y8_35)]) hx hb dX10_bestPlaces_102 rfl hl (by decide) rfl (fun ls hl => ?_)
                    refine lv_lload hx hb dX10_bestPlaces_103 (lv_at hl 1 rfl) ?_
                    refine lv_lstore (lv' := [(4, .long u10.1), (3, .int y8_35), (10, .long u10.1), (9, .int u5), (0, .ref a_t), (1, .int x1), (2, .int x2), (6, .int u2), (7, .int ((1 : Int32) <<< ((v_scene_seats - (1 : Int32)) &&& 31))), (8, .int y8_35)]) hx hb dX10_bestPlaces_105 hl (by decide) rfl (fun ls hl => ?_)
                    exact J107_7 (y8_35, u10.1, u10.2.1, u10.2.2.1, u10.2.2.2.1, u10.2.2.2.2.1, u10.2.2.2.2.2.1, u10.2.2.2.2.2.2.1, u10.2.2.2.2.2.2.2.1, u10.2.2.2.2.2.2.2.2.1, u10.2.2.2.2.2.2.2.2.2.1, u10.2.2.2.2.2.2.2.2.2.2.1, u10.2.2.2.2.2.2.2.2.2.2.2) hf _ _ _ hP hS (lv_sub hl [4, 5, 6, 1, 0, 7, 8, 9] rfl)
            · have hf := ob_fk c9 hf
              refine lv_goto (tgt := 107) hx hb dX10_bestPlaces_63 (by decide) ?_
              exact J107_7 (y3_35, y4_35, z_trial_apart_35, z_trial_clash_35, z_trial_neighbours_35, z_sets_size_35, z_sets_places_35, z_sets_filled_35, z_sets_open_35, z_sets_chance_35, z_trialSitters_set_35, z_trialSitters_bear_35, z_trialSitters_nearest_35) hf _ _ _ hP hS (lv_sub hl [1, 2, 3, 4, 5, 6, 7, 8] rfl)
  obtain ⟨u15, hu15, hf⟩ := ob_b hf
  refine L35_3 FU (0 : Int32) u1.1 (1 : Int32) u1.2.1 u1.2.2.1 u1.2.2.2.1 u1.2.2.2.2.1 u1.2.2.2.2.2.1 u1.2.2.2.2.2.2.1 u1.2.2.2.2.2.2.2.1 u1.2.2.2.2.2.2.2.2.1 u1.2.2.2.2.2.2.2.2.2.1 u1.2.2.2.2.2.2.2.2.2.2.1 u1.2.2.2.2.2.2.2.2.2.2.2 u15 _ _ _ hu15 hP hS (lv_sub hl [5, 6, 7, 4, 3, 2, 1, 0] rfl) ?_
  intro H locs ls hP hS hl
  refine lv_iload_n hx hb dX10_bestPlaces_113 rfl (lv_at hl 0 rfl) ?_
  obtain rfl := Option.some.inj hf
  exact ret _ _ _ _ dX10_bestPlaces_114 hP hS

def f_X10_arms (v_scene_seats : Int32) (v_scene_bear : Int32) (v_trial_apart : Nat → Int32) (v_scene_steps : Nat → Int32) (v_trial_clash : Nat → Int32) (v_trial_neighbours : Nat → Int32) (v_sets_size : Int32) (v_sets_places : Int32) (v_sets_filled : Nat → Int32) (v_sets_open : Nat → Int32) (v_sets_chance : Nat → Int32) (v_trialSitters_set : Int32) (v_trialSitters_bear : Int32) (v_trialSitters_nearest : Nat → Int32) (v_scene_worths : Nat → Int32) (x1 : Int32) (x2 : Int32) (x3 : Int32) : Option (Int32 × (Nat → Int32) × (Nat → Int32) × (Nat → Int32) × Int32 × Int32 × (Nat → Int32) × (Nat → Int32) × (Nat → Int32) × Int32 × Int32 × (Nat → Int32)) :=
  (f_X10_isHabit x1).bind (fun u1 =>
  if u1 = 0 then
  some ((-2 : Int32), v_trial_apart, v_trial_clash, v_trial_neighbours, v_sets_size, v_sets_places, v_sets_filled, v_sets_open, v_sets_chance, v_trialSitters_set, v_trialSitters_bear, v_trialSitters_nearest)
  else
  (f_X10_isWithin x2 (0 : Int32) (3 : Int32)).bind (fun u3 =>
  if u3 = 0 then
  some ((-2 : Int32), v_trial_apart, v_trial_clash, v_trial_neighbours, v_sets_size, v_sets_places, v_sets_filled, v_sets_open, v_sets_chance, v_trialSitters_set, v_trialSitters_bear, v_trialSitters_nearest)
  else
  (f_X10_isWithin x3 (0 : Int32) (1 : Int32)).bind (fun u5 =>
  if u5 = 0 then
  some ((-2 : Int32), v_trial_apart, v_trial_clash, v_trial_neighbours, v_sets_size, v_sets_places, v_sets_filled, v_sets_open, v_sets_chance, v_trialSitters_set, v_trialSitters_bear, v_trialSitters_nearest)
  else
  (f_X10_bestPlaces v_scene_seats v_scene_bear v_trial_apart v_scene_steps v_trial_clash v_trial_neighbours v_sets_size v_sets_places v_sets_filled v_sets_open v_sets_chance v_trialSitters_set v_trialSitters_bear v_trialSitters_nearest v_scene_worths x1 x2).bind (fun u7 =>
  (if x3 = 0 then
  some (u7.1, u7.2.1, u7.2.2.1, u7.2.2.2.1, u7.2.2.2.2.2.2.2.2.2.1, u7.2.2.2.2.2.2.2.2.2.2.1, u7.2.2.2.2.2.2.2.2.2.2.2)
  else
  (f_X10_comeInWithArms v_scene_seats v_scene_bear u7.2.1 v_scene_steps u7.2.2.1 u7.2.2.2.1 u7.2.2.2.2.2.2.2.2.2.2.2 v_scene_worths u7.1 x1).bind (fun u11 =>
  some (u11.1, u11.2.1, u11.2.2.1, u11.2.2.2.1, u11.2.2.2.2.1, u11.2.2.2.2.2.1, u11.2.2.2.2.2.2))).bind (fun w8 =>
  some (w8.1, w8.2.1, w8.2.2.1, w8.2.2.2.1, u7.2.2.2.2.1, u7.2.2.2.2.2.1, u7.2.2.2.2.2.2.1, u7.2.2.2.2.2.2.2.1, u7.2.2.2.2.2.2.2.2.1, w8.2.2.2.2.1, w8.2.2.2.2.2.1, w8.2.2.2.2.2.2))))))
set_option maxHeartbeats 4000000 in
set_option maxRecDepth 100000 in
theorem c_X10_arms (l : Launch) (D : va_G) (cI cJ cZ cO : ClassId) (a_t a_pad a_scene a_images a_bench a_trial a_sitters a_trialSitters a_sets a_census a_match a_couples a_passing a_longRows a_trial_apart a_trial_clash a_trial_neighbours a_scene_steps a_scene_worths a_scene_comers a_scene_seen a_scene_seenLengths a_sets_filled a_sets_open a_sets_chance a_trialSitters_nearest : Nat) (v_scene_seats : Int32) (v_scene_bear : Int32) (v_scene_comerCount : Int32) (v_scene_seenRows : Int32) (v_trial_apart : Nat → Int32) (v_scene_steps : Nat → Int32) (v_trial_clash : Nat → Int32) (v_trial_neighbours : Nat → Int32) (v_sets_size : Int32) (v_sets_places : Int32) (v_sets_filled : Nat → Int32) (v_sets_open : Nat → Int32) (v_sets_chance : Nat → Int32) (v_trialSitters_set : Int32) (v_trialSitters_bear : Int32) (v_trialSitters_nearest : Nat → Int32) (v_scene_worths : Nat → Int32) (x1 : Int32) (x2 : Int32) (x3 : Int32) (out : Int32 × (Nat → Int32) × (Nat → Int32) × (Nat → Int32) × Int32 × Int32 × (Nat → Int32) × (Nat → Int32) × (Nat → Int32) × Int32 × Int32 × (Nat → Int32)) (hf : f_X10_arms v_scene_seats v_scene_bear v_trial_apart v_scene_steps v_trial_clash v_trial_neighbours v_sets_size v_sets_places v_sets_filled v_sets_open v_sets_chance v_trialSitters_set v_trialSitters_bear v_trialSitters_nearest v_scene_worths x1 x2 x3 = some out) : MetR l yX10_arms (Cond.code yX10_arms cX10_arms 5 (some .int) :: tbG) { frames := 6, cells := 0, slots := 0, locals := 148 } D (tyL cI cJ cZ cO) [.ref a_t, .int x1, .int x2, .int x3] [(a_t, .inr (10, [.ref a_pad, .ref a_scene, .ref a_images, .ref a_bench, .ref a_trial, .ref a_sitters, .ref a_trialSitters, .ref a_sets, .ref a_census, .ref a_match, .ref a_couples, .ref a_passing, .ref a_longRows])), (a_trial, .inr (0, [.ref a_scene, .ref a_trial_apart, .ref a_trial_clash, .ref a_trial_neighbours])), (a_scene, .inr (7, [.ref a_scene_steps, .ref a_scene_worths, .ref a_scene_comers, .ref a_scene_seen, .ref a_scene_seenLengths, .int v_scene_seats, .int v_scene_bear, .int v_scene_comerCount, .int v_scene_seenRows])), (a_trial_apart, eI cI 144 v_trial_apart), (a_scene_steps, eI cI 12 v_scene_steps), (a_trial_clash, eI cI 12 v_trial_clash), (a_trial_neighbours, eI cI 12 v_trial_neighbours), (a_sets, .inr (8, [.ref a_sets_filled, .ref a_sets_open, .ref a_sets_chance, .int v_sets_size, .int v_sets_places])), (a_sets_filled, eI cI 4096 v_sets_filled), (a_sets_open, eI cI 4096 v_sets_open), (a_sets_chance, eI cI 4096 v_sets_chance), (a_trialSitters, .inr (9, [.ref a_trial, .ref a_trialSitters_nearest, .int v_trialSitters_set, .int v_trialSitters_bear])), (a_trialSitters_nearest, eI cI 12 v_trialSitters_nearest), (a_scene_worths, eI cI 12 v_scene_worths)] (some (.int out.1)) [(a_t, .inr (10, [.ref a_pad, .ref a_scene, .ref a_images, .ref a_bench, .ref a_trial, .ref a_sitters, .ref a_trialSitters, .ref a_sets, .ref a_census, .ref a_match, .ref a_couples, .ref a_passing, .ref a_longRows])), (a_trial, .inr (0, [.ref a_scene, .ref a_trial_apart, .ref a_trial_clash, .ref a_trial_neighbours])), (a_scene, .inr (7, [.ref a_scene_steps, .ref a_scene_worths, .ref a_scene_comers, .ref a_scene_seen, .ref a_scene_seenLengths, .int v_scene_seats, .int v_scene_bear, .int v_scene_comerCount, .int v_scene_seenRows])), (a_trial_apart, eI cI 144 out.2.1), (a_scene_steps, eI cI 12 v_scene_steps), (a_trial_clash, eI cI 12 out.2.2.1), (a_trial_neighbours, eI cI 12 out.2.2.2.1), (a_sets, .inr (8, [.ref a_sets_filled, .ref a_sets_open, .ref a_sets_chance, .int out.2.2.2.2.1, .int out.2.2.2.2.2.1])), (a_sets_filled, eI cI 4096 out.2.2.2.2.2.2.1), (a_sets_open, eI cI 4096 out.2.2.2.2.2.2.2.1), (a_sets_chance, eI cI 4096 out.2.2.2.2.2.2.2.2.1), (a_trialSitters, .inr (9, [.ref a_trial, .ref a_trialSitters_nearest, .int out.2.2.2.2.2.2.2.2.2.1, .int out.2.2.2.2.2.2.2.2.2.2.1])), (a_trialSitters_nearest, eI cI 12 out.2.2.2.2.2.2.2.2.2.2.2), (a_scene_worths, eI cI 12 v_scene_worths)] := by
  refine ba_ofI RX10 [(0, .ref a_t), (1, .int x1), (2, .int x2), (3, .int x3)] (by decide +kernel) rfl (Nat.le_of_ble_eq_true rfl) rfl ?_
  intro p e s m args below meth c Q A Cx hP ret ls hl
  obtain ⟨⟨hx, hb, hml, hown, hts⟩, hK, hD, hA⟩ := id Cx
  have hS : va_S A s.heap s.heap [] := va_S.rf
  unfold f_X10_arms at hf
  refine lv_iload_n hx hb dX10_arms_0 rfl (lv_at hl 1 rfl) ?_
  obtain ⟨u1, hu1, hf⟩ := ob_b hf
  refine iv_X10_158 (As := [.int x1]) (rest := []) (is := []) (X' := [(a_t, .inr (10, [.ref a_pad, .ref a_scene, .ref a_images, .ref a_bench, .ref a_trial, .ref a_sitters, .ref a_trialSitters, .ref a_sets, .ref a_census, .ref a_match, .ref a_couples, .ref a_passing, .ref a_longRows])), (a_trial, .inr (0, [.ref a_scene, .ref a_trial_apart, .ref a_trial_clash, .ref a_trial_neighbours])), (a_scene, .inr (7, [.ref a_scene_steps, .ref a_scene_worths, .ref a_scene_comers, .ref a_scene_seen, .ref a_scene_seenLengths, .int v_scene_seats, .int v_scene_bear, .int v_scene_comerCount, .int v_scene_seenRows])), (a_trial_apart, eI cI 144 v_trial_apart), (a_scene_steps, eI cI 12 v_scene_steps), (a_trial_clash, eI cI 12 v_trial_clash), (a_trial_neighbours, eI cI 12 v_trial_neighbours), (a_sets, .inr (8, [.ref a_sets_filled, .ref a_sets_open, .ref a_sets_chance, .int v_sets_size, .int v_sets_places])), (a_sets_filled, eI cI 4096 v_sets_filled), (a_sets_open, eI cI 4096 v_sets_open), (a_sets_chance, eI cI 4096 v_sets_chance), (a_trialSitters, .inr (9, [.ref a_trial, .ref a_trialSitters_nearest, .int v_trialSitters_set, .int v_trialSitters_bear])), (a_trialSitters_nearest, eI cI 12 v_trialSitters_nearest), (a_scene_worths, eI cI 12 v_scene_worths)]) Cx (c_X10_isHabit l D cI cJ cZ cO  x1 u1 hu1) hP hS rfl rfl rfl rfl rfl rfl hl.1 (Nat.le_of_ble_eq_true rfl) dX10_arms_1 rfl rfl ⟨Nat.le_of_ble_eq_true rfl, Nat.le_of_ble_eq_true rfl⟩ ⟨Nat.zero_le _, Nat.zero_le _⟩ rfl (fun H locs hP hS => ?_)
  refine lv_if_eq (tgt := 25) hx hb dX10_arms_4 (by decide) (fun c2 => ?_) (fun c2 => ?_)
  · have hf := ob_t c2 hf
    refine lv_bipush (v := (-2)) hx hb dX10_arms_25 (by decide) ?_
    obtain rfl := Option.some.inj hf
    exact ret _ _ _ _ dX10_arms_27 hP hS
  · have hf := ob_f c2 hf
    refine lv_iload_n hx hb dX10_arms_7 rfl (lv_at hl 2 rfl) ?_
    refine lv_iconst (v := 0) hx hb dX10_arms_8 (by decide) ?_
    refine lv_iconst (v := 3) hx hb dX10_arms_9 (by decide) ?_
    obtain ⟨u3, hu3, hf⟩ := ob_b hf
    refine iv_X10_99 (As := [.int x2, .int (0 : Int32), .int (3 : Int32)]) (rest := []) (is := []) (X' := [(a_t, .inr (10, [.ref a_pad, .ref a_scene, .ref a_images, .ref a_bench, .ref a_trial, .ref a_sitters, .ref a_trialSitters, .ref a_sets, .ref a_census, .ref a_match, .ref a_couples, .ref a_passing, .ref a_longRows])), (a_trial, .inr (0, [.ref a_scene, .ref a_trial_apart, .ref a_trial_clash, .ref a_trial_neighbours])), (a_scene, .inr (7, [.ref a_scene_steps, .ref a_scene_worths, .ref a_scene_comers, .ref a_scene_seen, .ref a_scene_seenLengths, .int v_scene_seats, .int v_scene_bear, .int v_scene_comerCount, .int v_scene_seenRows])), (a_trial_apart, eI cI 144 v_trial_apart), (a_scene_steps, eI cI 12 v_scene_steps), (a_trial_clash, eI cI 12 v_trial_clash), (a_trial_neighbours, eI cI 12 v_trial_neighbours), (a_sets, .inr (8, [.ref a_sets_filled, .ref a_sets_open, .ref a_sets_chance, .int v_sets_size, .int v_sets_places])), (a_sets_filled, eI cI 4096 v_sets_filled), (a_sets_open, eI cI 4096 v_sets_open), (a_sets_chance, eI cI 4096 v_sets_chance), (a_trialSitters, .inr (9, [.ref a_trial, .ref a_trialSitters_nearest, .int v_trialSitters_set, .int v_trialSitters_bear])), (a_trialSitters_nearest, eI cI 12 v_trialSitters_nearest), (a_scene_worths, eI cI 12 v_scene_worths)]) Cx (c_X10_isWithin l D cI cJ cZ cO  x2 (0 : Int32) (3 : Int32) u3 hu3) hP hS rfl rfl rfl rfl rfl rfl hl.1 (Nat.le_of_ble_eq_true rfl) dX10_arms_10 rfl rfl ⟨Nat.le_of_ble_eq_true rfl, Nat.le_of_ble_eq_true rfl⟩ ⟨Nat.zero_le _, Nat.zero_le _⟩ rfl (fun H locs hP hS => ?_)
    refine lv_if_eq (tgt := 25) hx hb dX10_arms_13 (by decide) (fun c4 => ?_) (fun c4 => ?_)
    · have hf := ob_t c4 hf
      refine lv_bipush (v := (-2)) hx hb dX10_arms_25 (by decide) ?_
      obtain rfl := Option.some.inj hf
      exact ret _ _ _ _ dX10_arms_27 hP hS
    · have hf := ob_f c4 hf
      refine lv_iload_n hx hb dX10_arms_16 rfl (lv_at hl 3 rfl) ?_
      refine lv_iconst (v := 0) hx hb dX10_arms_17 (by decide) ?_
      refine lv_iconst (v := 1) hx hb dX10_arms_18 (by decide) ?_
      obtain ⟨u5, hu5, hf⟩ := ob_b hf
      refine iv_X10_99 (As := [.int x3, .int (0 : Int32), .int (1 : Int32)]) (rest := []) (is := []) (X' := [(a_t, .inr (10, [.ref a_pad, .ref a_scene, .ref a_images, .ref a_bench, .ref a_trial, .ref a_sitters, .ref a_trialSitters, .ref a_sets, .ref a_census, .ref a_match, .ref a_couples, .ref a_passing, .ref a_longRows])), (a_trial, .inr (0, [.ref a_scene, .ref a_trial_apart, .ref a_trial_clash, .ref a_trial_neighbours])), (a_scene, .inr (7, [.ref a_scene_steps, .ref a_scene_worths, .ref a_scene_comers, .ref a_scene_seen, .ref a_scene_seenLengths, .int v_scene_seats, .int v_scene_bear, .int v_scene_comerCount, .int v_scene_seenRows])), (a_trial_apart, eI cI 144 v_trial_apart), (a_scene_steps, eI cI 12 v_scene_steps), (a_trial_clash, eI cI 12 v_trial_clash), (a_trial_neighbours, eI cI 12 v_trial_neighbours), (a_sets, .inr (8, [.ref a_sets_filled, .ref a_sets_open, .ref a_sets_chance, .int v_sets_size, .int v_sets_places])), (a_sets_filled, eI cI 4096 v_sets_filled), (a_sets_open, eI cI 4096 v_sets_open), (a_sets_chance, eI cI 4096 v_sets_chance), (a_trialSitters, .inr (9, [.ref a_trial, .ref a_trialSitters_nearest, .int v_trialSitters_set, .int v_trialSitters_bear])), (a_trialSitters_nearest, eI cI 12 v_trialSitters_nearest), (a_scene_worths, eI cI 12 v_scene_worths)]) Cx (c_X10_isWithin l D cI cJ cZ cO  x3 (0 : Int32) (1 : Int32) u5 hu5) hP hS rfl rfl rfl rfl rfl rfl hl.1 (Nat.le_of_ble_eq_true rfl) dX10_arms_19 rfl rfl ⟨Nat.le_of_ble_eq_true rfl, Nat.le_of_ble_eq_true rfl⟩ ⟨Nat.zero_le _, Nat.zero_le _⟩ rfl (fun H locs hP hS => ?_)
      refine lv_if_ne (tgt := 28) hx hb dX10_arms_22 (by decide) (fun c6 => ?_) (fun c6 => ?_)
      · have hf := ob_f c6 hf
        refine lv_aload_n hx hb dX10_arms_28 rfl (lv_at hl 0 rfl) ?_
        refine lv_iload_n hx hb dX10_arms_29 rfl (lv_at hl 1 rfl) ?_
        refine lv_iload_n hx hb dX10_arms_30 rfl (lv_at hl 2 rfl) ?_
        obtain ⟨u7, hu7, hf⟩ := ob_b hf
        refine iv_X10_238 (As := [.int x1, .int x2]) (rest := []) (is := [0, 1, 2, 3, 4, 5, 6, 7, 8, 9, 10, 11, 12, 13]) (q0 := 0) (X' := [(a_t, .inr (10, [.ref a_pad, .ref a_scene, .ref a_images, .ref a_bench, .ref a_trial, .ref a_sitters, .ref a_trialSitters, .ref a_sets, .ref a_census, .ref a_match, .ref a_couples, .ref a_passing, .ref a_longRows])), (a_trial, .inr (0, [.ref a_scene, .ref a_trial_apart, .ref a_trial_clash, .ref a_trial_neighbours])), (a_scene, .inr (7, [.ref a_scene_steps, .ref a_scene_worths, .ref a_scene_comers, .ref a_scene_seen, .ref a_scene_seenLengths, .int v_scene_seats, .int v_scene_bear, .int v_scene_comerCount, .int v_scene_seenRows])), (a_trial_apart, eI cI 144 u7.2.1), (a_scene_steps, eI cI 12 v_scene_steps), (a_trial_clash, eI cI 12 u7.2.2.1), (a_trial_neighbours, eI cI 12 u7.2.2.2.1), (a_sets, .inr (8, [.ref a_sets_filled, .ref a_sets_open, .ref a_sets_chance, .int u7.2.2.2.2.1, .int u7.2.2.2.2.2.1])), (a_sets_filled, eI cI 4096 u7.2.2.2.2.2.2.1), (a_sets_open, eI cI 4096 u7.2.2.2.2.2.2.2.1), (a_sets_chance, eI cI 4096 u7.2.2.2.2.2.2.2.2.1), (a_trialSitters, .inr (9, [.ref a_trial, .ref a_trialSitters_nearest, .int u7.2.2.2.2.2.2.2.2.2.1, .int u7.2.2.2.2.2.2.2.2.2.2.1])), (a_trialSitters_nearest, eI cI 12 u7.2.2.2.2.2.2.2.2.2.2.2), (a_scene_worths, eI cI 12 v_scene_worths)]) Cx (c_X10_bestPlaces l D cI cJ cZ cO a_t a_pad a_scene a_images a_bench a_trial a_sitters a_trialSitters a_sets a_census a_match a_couples a_passing a_longRows a_trial_apart a_trial_clash a_trial_neighbours a_scene_steps a_scene_worths a_scene_comers a_scene_seen a_scene_seenLengths a_sets_filled a_sets_open a_sets_chance a_trialSitters_nearest v_scene_seats v_scene_bear v_scene_comerCount v_scene_seenRows v_trial_apart v_scene_steps v_trial_clash v_trial_neighbours v_sets_size v_sets_places v_sets_filled v_sets_open v_sets_chance v_trialSitters_set v_trialSitters_bear v_trialSitters_nearest v_scene_worths x1 x2 u7 hu7) hP hS rfl rfl rfl rfl rfl rfl rfl hl.1 (Nat.le_of_ble_eq_true rfl) dX10_arms_31 rfl rfl ⟨Nat.le_of_ble_eq_true rfl, Nat.le_of_ble_eq_true rfl⟩ ⟨Nat.zero_le _, Nat.zero_le _⟩ rfl (fun H locs hP hS => ?_)
        refine lv_istore (lv' := [(4, .int u7.1), (0, .ref a_t), (1, .int x1), (2, .int x2), (3, .int x3)]) hx hb dX10_arms_34 hl (by decide) rfl (fun ls hl => ?_)
        refine lv_iload_n hx hb dX10_arms_36 rfl (lv_at hl 4 rfl) ?_
        refine ob_J (P := fun w8 => ∀ (H : Heap) (locs : List Loc) (ls : Array Slot), va_P D vwCl [(a_t, .inr (10, [.ref a_pad, .ref a_scene, .ref a_images, .ref a_bench, .ref a_trial, .ref a_sitters, .ref a_trialSitters, .ref a_sets, .ref a_census, .ref a_match, .ref a_couples, .ref a_passing, .ref a_longRows])), (a_trial, .inr (0, [.ref a_scene, .ref a_trial_apart, .ref a_trial_clash, .ref a_trial_neighbours])), (a_scene, .inr (7, [.ref a_scene_steps, .ref a_scene_worths, .ref a_scene_comers, .ref a_scene_seen, .ref a_scene_seenLengths, .int v_scene_seats, .int v_scene_bear, .int v_scene_comerCount, .int v_scene_seenRows])), (a_trial_apart, eI cI 144 w8.2.1), (a_scene_steps, eI cI 12 v_scene_steps), (a_trial_clash, eI cI 12 w8.2.2.1), (a_trial_neighbours, eI cI 12 w8.2.2.2.1), (a_sets, .inr (8, [.ref a_sets_filled, .ref a_sets_open, .ref a_sets_chance, .int u7.2.2.2.2.1, .int u7.2.2.2.2.2.1])), (a_sets_filled, eI cI 4096 u7.2.2.2.2.2.2.1), (a_sets_open, eI cI 4096 u7.2.2.2.2.2.2.2.1), (a_sets_chance, eI cI 4096 u7.2.2.2.2.2.2.2.2.1), (a_trialSitters, .inr (9, [.ref a_trial, .ref a_trialSitters_nearest, .int w8.2.2.2.2.1, .int w8.2.2.2.2.2.1])), (a_trialSitters_nearest, eI cI 12 w8.2.2.2.2.2.2), (a_scene_worths, eI cI 12 v_scene_worths)] H → va_S A s.heap H locs → lv_has ls 5 [] → W p l e { frames := 6, cells := 0, slots := 0, locals := 148 } s m args below meth c H locs 0 0 Q (F0 m 52 ls [.int w8.1])) hf ?_ ?_
        · intro w8 hf H locs ls hP hS hl
          obtain rfl := Option.some.inj hf
          exact ret _ _ _ _ dX10_arms_52 hP hS
        · intro J52_9 hf
          refine lv_if_ne (tgt := 45) hx hb dX10_arms_37 (by decide) (fun c10 => ?_) (fun c10 => ?_)
          · have hf := ob_fk c10 hf
            refine lv_aload_n hx hb dX10_arms_45 rfl (lv_at hl 1 rfl) ?_
            refine lv_iload hx hb dX10_arms_46 (lv_at hl 0 rfl) ?_
            refine lv_iload_n hx hb dX10_arms_48 rfl (lv_at hl 2 rfl) ?_
            obtain ⟨u11, hu11, hf⟩ := ob_bk hf
            refine iv_X10_241 (As := [.int u7.1, .int x1]) (rest := []) (is := [0, 1, 2, 3, 4, 5, 6, 11, 12, 13]) (q0 := 0) (X' := [(a_t, .inr (10, [.ref a_pad, .ref a_scene, .ref a_images, .ref a_bench, .ref a_trial, .ref a_sitters, .ref a_trialSitters, .ref a_sets, .ref a_census, .ref a_match, .ref a_couples, .ref a_passing, .ref a_longRows])), (a_trial, .inr (0, [.ref a_scene, .ref a_trial_apart, .ref a_trial_clash, .ref a_trial_neighbours])), (a_scene, .inr (7, [.ref a_scene_steps, .ref a_scene_worths, .ref a_scene_comers, .ref a_scene_seen, .ref a_scene_seenLengths, .int v_scene_seats, .int v_scene_bear, .int v_scene_comerCount, .int v_scene_seenRows])), (a_trial_apart, eI cI 144 u11.2.1), (a_scene_steps, eI cI 12 v_scene_steps), (a_trial_clash, eI cI 12 u11.2.2.1), (a_trial_neighbours, eI cI 12 u11.2.2.2.1), (a_sets, .inr (8, [.ref a_sets_filled, .ref a_sets_open, .ref a_sets_chance, .int u7.2.2.2.2.1, .int u7.2.2.2.2.2.1])), (a_sets_filled, eI cI 4096 u7.2.2.2.2.2.2.1), (a_sets_open, eI cI 4096 u7.2.2.2.2.2.2.2.1), (a_sets_chance, eI cI 4096 u7.2.2.2.2.2.2.2.2.1), (a_trialSitters, .inr (9, [.ref a_trial, .ref a_trialSitters_nearest, .int u11.2.2.2.2.1, .int u11.2.2.2.2.2.1])), (a_trialSitters_nearest, eI cI 12 u11.2.2.2.2.2.2), (a_scene_worths, eI cI 12 v_scene_worths)]) Cx (c_X10_comeInWithArms l D cI cJ cZ cO a_t a_pad a_scene a_images a_bench a_trial a_sitters a_trialSitters a_sets a_census a_match a_couples a_passing a_longRows a_trial_apart a_trial_clash a_trial_neighbours a_scene_steps a_scene_worths a_scene_comers a_scene_seen a_scene_seenLengths a_trialSitters_nearest v_scene_seats v_scene_bear v_scene_comerCount v_scene_seenRows u7.2.1 v_scene_steps u7.2.2.1 u7.2.2.2.1 u7.2.2.2.2.2.2.2.2.2.1 u7.2.2.2.2.2.2.2.2.2.2.1 u7.2.2.2.2.2.2.2.2.2.2.2 v_scene_worths u7.1 x1 u11 hu11) hP hS rfl rfl rfl rfl rfl rfl rfl hl.1 (Nat.le_of_ble_eq_true rfl) dX10_arms_49 rfl rfl ⟨Nat.le_of_ble_eq_true rfl, Nat.le_of_ble_eq_true rfl⟩ ⟨Nat.zero_le _, Nat.zero_le _⟩ rfl (fun H locs hP hS => ?_)
            exact J52_9 (u11.1, u11.2.1, u11.2.2.1, u11.2.2.2.1, u11.2.2.2.2.1, u11.2.2.2.2.2.1, u11.2.2.2.2.2.2) hf _ _ _ hP hS (lv_sub hl [] rfl)
          · have hf := ob_tk c10 hf
            refine lv_iload hx hb dX10_arms_40 (lv_at hl 0 rfl) ?_
            refine lv_goto (tgt := 52) hx hb dX10_arms_42 (by decide) ?_
            exact J52_9 (u7.1, u7.2.1, u7.2.2.1, u7.2.2.2.1, u7.2.2.2.2.2.2.2.2.2.1, u7.2.2.2.2.2.2.2.2.2.2.1, u7.2.2.2.2.2.2.2.2.2.2.2) hf _ _ _ hP hS (lv_sub hl [] rfl)
      · have hf := ob_t c6 hf
        refine lv_bipush (v := (-2)) hx hb dX10_arms_25 (by decide) ?_
        obtain rfl := Option.some.inj hf
        exact ret _ _ _ _ dX10_arms_27 hP hS

def f_X10_rests (v_scene_seats : Int32) (v_scene_bear : Int32) (v_trial_apart : Nat → Int32) (v_scene_steps : Nat → Int32) (v_trial_clash : Nat → Int32) (v_trial_neighbours : Nat → Int32) (v_sets_size : Int32) (v_sets_places : Int32) (v_sets_filled : Nat → Int32) (v_sets_open : Nat → Int32) (v_sets_chance : Nat → Int32) (v_trialSitters_set : Int32) (v_trialSitters_bear : Int32) (v_trialSitters_nearest : Nat → Int32) (v_scene_worths : Nat → Int32) (x1 : Int32) : Option (Int32 × (Nat → Int32) × (Nat → Int32) × (Nat → Int32) × Int32 × Int32 × (Nat → Int32) × (Nat → Int32) × (Nat → Int32) × Int32 × Int32 × (Nat → Int32)) :=
  (f_X10_isWithin x1 (0 : Int32) (3 : Int32)).bind (fun u1 =>
  if u1 = 0 then
  some ((-2 : Int32), v_trial_apart, v_trial_clash, v_trial_neighbours, v_sets_size, v_sets_places, v_sets_filled, v_sets_open, v_sets_chance, v_trialSitters_set, v_trialSitters_bear, v_trialSitters_nearest)
  else
  (f_X10_bestPlaces v_scene_seats v_scene_bear v_trial_apart v_scene_steps v_trial_clash v_trial_neighbours v_sets_size v_sets_places v_sets_filled v_sets_open v_sets_chance v_trialSitters_set v_trialSitters_bear v_trialSitters_nearest v_scene_worths (6 : Int32) x1).bind (fun u3 =>
  some (u3.1, u3.2.1, u3.2.2.1, u3.2.2.2.1, u3.2.2.2.2.1, u3.2.2.2.2.2.1, u3.2.2.2.2.2.2.1, u3.2.2.2.2.2.2.2.1, u3.2.2.2.2.2.2.2.2.1, u3.2.2.2.2.2.2.2.2.2.1, u3.2.2.2.2.2.2.2.2.2.2.1, u3.2.2.2.2.2.2.2.2.2.2.2)))
set_option maxHeartbeats 4000000 in
set_option maxRecDepth 100000 in
theorem c_X10_rests (l : Launch) (D : va_G) (cI cJ cZ cO : ClassId) (a_t a_pad a_scene a_images a_bench a_trial a_sitters a_trialSitters a_sets a_census a_match a_couples a_passing a_longRows a_trial_apart a_trial_clash a_trial_neighbours a_scene_steps a_scene_worths a_scene_comers a_scene_seen a_scene_seenLengths a_sets_filled a_sets_open a_sets_chance a_trialSitters_nearest : Nat) (v_scene_seats : Int32) (v_scene_bear : Int32) (v_scene_comerCount : Int32) (v_scene_seenRows : Int32) (v_trial_apart : Nat → Int32) (v_scene_steps : Nat → Int32) (v_trial_clash : Nat → Int32) (v_trial_neighbours : Nat → Int32) (v_sets_size : Int32) (v_sets_places : Int32) (v_sets_filled : Nat → Int32) (v_sets_open : Nat → Int32) (v_sets_chance : Nat → Int32) (v_trialSitters_set : Int32) (v_trialSitters_bear : Int32) (v_trialSitters_nearest : Nat → Int32) (v_scene_worths : Nat → Int32) (x1 : Int32) (out : Int32 × (Nat → Int32) × (Nat → Int32) × (Nat → Int32) × Int32 × Int32 × (Nat → Int32) × (Nat → Int32) × (Nat → Int32) × Int32 × Int32 × (Nat → Int32)) (hf : f_X10_rests v_scene_seats v_scene_bear v_trial_apart v_scene_steps v_trial_clash v_trial_neighbours v_sets_size v_sets_places v_sets_filled v_sets_open v_sets_chance v_trialSitters_set v_trialSitters_bear v_trialSitters_nearest v_scene_worths x1 = some out) : MetR l yX10_rests (Cond.code yX10_rests cX10_rests 2 (some .int) :: tbG) { frames := 6, cells := 0, slots := 0, locals := 148 } D (tyL cI cJ cZ cO) [.ref a_t, .int x1] [(a_t, .inr (10, [.ref a_pad, .ref a_scene, .ref a_images, .ref a_bench, .ref a_trial, .ref a_sitters, .ref a_trialSitters, .ref a_sets, .ref a_census, .ref a_match, .ref a_couples, .ref a_passing, .ref a_longRows])), (a_trial, .inr (0, [.ref a_scene, .ref a_trial_apart, .ref a_trial_clash, .ref a_trial_neighbours])), (a_scene, .inr (7, [.ref a_scene_steps, .ref a_scene_worths, .ref a_scene_comers, .ref a_scene_seen, .ref a_scene_seenLengths, .int v_scene_seats, .int v_scene_bear, .int v_scene_comerCount, .int v_scene_seenRows])), (a_trial_apart, eI cI 144 v_trial_apart), (a_scene_steps, eI cI 12 v_scene_steps), (a_trial_clash, eI cI 12 v_trial_clash), (a_trial_neighbours, eI cI 12 v_trial_neighbours), (a_sets, .inr (8, [.ref a_sets_filled, .ref a_sets_open, .ref a_sets_chance, .int v_sets_size, .int v_sets_places])), (a_sets_filled, eI cI 4096 v_sets_filled), (a_sets_open, eI cI 4096 v_sets_open), (a_sets_chance, eI cI 4096 v_sets_chance), (a_trialSitters, .inr (9, [.ref a_trial, .ref a_trialSitters_nearest, .int v_trialSitters_set, .int v_trialSitters_bear])), (a_trialSitters_nearest, eI cI 12 v_trialSitters_nearest), (a_scene_worths, eI cI 12 v_scene_worths)] (some (.int out.1)) [(a_t, .inr (10, [.ref a_pad, .ref a_scene, .ref a_images, .ref a_bench, .ref a_trial, .ref a_sitters, .ref a_trialSitters, .ref a_sets, .ref a_census, .ref a_match, .ref a_couples, .ref a_passing, .ref a_longRows])), (a_trial, .inr (0, [.ref a_scene, .ref a_trial_apart, .ref a_trial_clash, .ref a_trial_neighbours])), (a_scene, .inr (7, [.ref a_scene_steps, .ref a_scene_worths, .ref a_scene_comers, .ref a_scene_seen, .ref a_scene_seenLengths, .int v_scene_seats, .int v_scene_bear, .int v_scene_comerCount, .int v_scene_seenRows])), (a_trial_apart, eI cI 144 out.2.1), (a_scene_steps, eI cI 12 v_scene_steps), (a_trial_clash, eI cI 12 out.2.2.1), (a_trial_neighbours, eI cI 12 out.2.2.2.1), (a_sets, .inr (8, [.ref a_sets_filled, .ref a_sets_open, .ref a_sets_chance, .int out.2.2.2.2.1, .int out.2.2.2.2.2.1])), (a_sets_filled, eI cI 4096 out.2.2.2.2.2.2.1), (a_sets_open, eI cI 4096 out.2.2.2.2.2.2.2.1), (a_sets_chance, eI cI 4096 out.2.2.2.2.2.2.2.2.1), (a_trialSitters, .inr (9, [.ref a_trial, .ref a_trialSitters_nearest, .int out.2.2.2.2.2.2.2.2.2.1, .int out.2.2.2.2.2.2.2.2.2.2.1])), (a_trialSitters_nearest, eI cI 12 out.2.2.2.2.2.2.2.2.2.2.2), (a_scene_worths, eI cI 12 v_scene_worths)] := by
  refine ba_ofI RX10 [(0, .ref a_t), (1, .int x1)] (by decide +kernel) rfl (Nat.le_of_ble_eq_true rfl) rfl ?_
  intro p e s m args below meth c Q A Cx hP ret ls hl
  obtain ⟨⟨hx, hb, hml, hown, hts⟩, hK, hD, hA⟩ := id Cx
  have hS : va_S A s.heap s.heap [] := va_S.rf
  unfold f_X10_rests at hf
  refine lv_iload_n hx hb dX10_rests_0 rfl (lv_at hl 1 rfl) ?_
  refine lv_iconst (v := 0) hx hb dX10_rests_1 (by decide) ?_
  refine lv_iconst (v := 3) hx hb dX10_rests_2 (by decide) ?_
  obtain ⟨u1, hu1, hf⟩ := ob_b hf
  refine iv_X10_99 (As := [.int x1, .int (0 : Int32), .int (3 : Int32)]) (rest := []) (is := []) (X' := [(a_t, .inr (10, [.ref a_pad, .ref a_scene, .ref a_images, .ref a_bench, .ref a_trial, .ref a_sitters, .ref a_trialSitters, .ref a_sets, .ref a_census, .ref a_match, .ref a_couples, .ref a_passing, .ref a_longRows])), (a_trial, .inr (0, [.ref a_scene, .ref a_trial_apart, .ref a_trial_clash, .ref a_trial_neighbours])), (a_scene, .inr (7, [.ref a_scene_steps, .ref a_scene_worths, .ref a_scene_comers, .ref a_scene_seen, .ref a_scene_seenLengths, .int v_scene_seats, .int v_scene_bear, .int v_scene_comerCount, .int v_scene_seenRows])), (a_trial_apart, eI cI 144 v_trial_apart), (a_scene_steps, eI cI 12 v_scene_steps), (a_trial_clash, eI cI 12 v_trial_clash), (a_trial_neighbours, eI cI 12 v_trial_neighbours), (a_sets, .inr (8, [.ref a_sets_filled, .ref a_sets_open, .ref a_sets_chance, .int v_sets_size, .int v_sets_places])), (a_sets_filled, eI cI 4096 v_sets_filled), (a_sets_open, eI cI 4096 v_sets_open), (a_sets_chance, eI cI 4096 v_sets_chance), (a_trialSitters, .inr (9, [.ref a_trial, .ref a_trialSitters_nearest, .int v_trialSitters_set, .int v_trialSitters_bear])), (a_trialSitters_nearest, eI cI 12 v_trialSitters_nearest), (a_scene_worths, eI cI 12 v_scene_worths)]) Cx (c_X10_isWithin l D cI cJ cZ cO  x1 (0 : Int32) (3 : Int32) u1 hu1) hP hS rfl rfl rfl rfl rfl rfl hl.1 (Nat.le_of_ble_eq_true rfl) dX10_rests_3 rfl rfl ⟨Nat.le_of_ble_eq_true rfl, Nat.le_of_ble_eq_true rfl⟩ ⟨Nat.zero_le _, Nat.zero_le _⟩ rfl (fun H locs hP hS => ?_)
  refine lv_if_ne (tgt := 12) hx hb dX10_rests_6 (by decide) (fun c2 => ?_) (fun c2 => ?_)
  · have hf := ob_f c2 hf
    refine lv_aload_n hx hb dX10_rests_12 rfl (lv_at hl 0 rfl) ?_
    refine lv_bipush (v := 6) hx hb dX10_rests_13 (by decide) ?_
    refine lv_iload_n hx hb dX10_rests_15 rfl (lv_at hl 1 rfl) ?_
    obtain ⟨u3, hu3, hf⟩ := ob_b hf
    refine iv_X10_238 (As := [.int (6 : Int32), .int x1]) (rest := []) (is := [0, 1, 2, 3, 4, 5, 6, 7, 8, 9, 10, 11, 12, 13]) (q0 := 0) (X' := [(a_t, .inr (10, [.ref a_pad, .ref a_scene, .ref a_images, .ref a_bench, .ref a_trial, .ref a_sitters, .ref a_trialSitters, .ref a_sets, .ref a_census, .ref a_match, .ref a_couples, .ref a_passing, .ref a_longRows])), (a_trial, .inr (0, [.ref a_scene, .ref a_trial_apart, .ref a_trial_clash, .ref a_trial_neighbours])), (a_scene, .inr (7, [.ref a_scene_steps, .ref a_scene_worths, .ref a_scene_comers, .ref a_scene_seen, .ref a_scene_seenLengths, .int v_scene_seats, .int v_scene_bear, .int v_scene_comerCount, .int v_scene_seenRows])), (a_trial_apart, eI cI 144 u3.2.1), (a_scene_steps, eI cI 12 v_scene_steps), (a_trial_clash, eI cI 12 u3.2.2.1), (a_trial_neighbours, eI cI 12 u3.2.2.2.1), (a_sets, .inr (8, [.ref a_sets_filled, .ref a_sets_open, .ref a_sets_chance, .int u3.2.2.2.2.1, .int u3.2.2.2.2.2.1])), (a_sets_filled, eI cI 4096 u3.2.2.2.2.2.2.1), (a_sets_open, eI cI 4096 u3.2.2.2.2.2.2.2.1), (a_sets_chance, eI cI 4096 u3.2.2.2.2.2.2.2.2.1), (a_trialSitters, .inr (9, [.ref a_trial, .ref a_trialSitters_nearest, .int u3.2.2.2.2.2.2.2.2.2.1, .int u3.2.2.2.2.2.2.2.2.2.2.1])), (a_trialSitters_nearest, eI cI 12 u3.2.2.2.2.2.2.2.2.2.2.2), (a_scene_worths, eI cI 12 v_scene_worths)]) Cx (c_X10_bestPlaces l D cI cJ cZ cO a_t a_pad a_scene a_images a_bench a_trial a_sitters a_trialSitters a_sets a_census a_match a_couples a_passing a_longRows a_trial_apart a_trial_clash a_trial_neighbours a_scene_steps a_scene_worths a_scene_comers a_scene_seen a_scene_seenLengths a_sets_filled a_sets_open a_sets_chance a_trialSitters_nearest v_scene_seats v_scene_bear v_scene_comerCount v_scene_seenRows v_trial_apart v_scene_steps v_trial_clash v_trial_neighbours v_sets_size v_sets_places v_sets_filled v_sets_open v_sets_chance v_trialSitters_set v_trialSitters_bear v_trialSitters_nearest v_scene_worths (6 : Int32) x1 u3 hu3) hP hS rfl rfl rfl rfl rfl rfl rfl hl.1 (Nat.le_of_ble_eq_true rfl) dX10_rests_16 rfl rfl ⟨Nat.le_of_ble_eq_true rfl, Nat.le_of_ble_eq_true rfl⟩ ⟨Nat.zero_le _, Nat.zero_le _⟩ rfl (fun H locs hP hS => ?_)
    obtain rfl := Option.some.inj hf
    exact ret _ _ _ _ dX10_rests_19 hP hS
  · have hf := ob_t c2 hf
    refine lv_bipush (v := (-2)) hx hb dX10_rests_9 (by decide) ?_
    obtain rfl := Option.some.inj hf
    exact ret _ _ _ _ dX10_rests_11 hP hS

def f_X10_come (v_scene_comerCount : Int32) (v_scene_comers : Nat → Int32) (x1 : Int32) : Option (Int32 × Int32 × (Nat → Int32)) :=
  (f_X10_isHabit x1).bind (fun u1 =>
  if u1 = 0 then
  some ((-2 : Int32), v_scene_comerCount, v_scene_comers)
  else
  if v_scene_comerCount < (12 : Int32) then
  (asetI 12 v_scene_comers v_scene_comerCount x1).bind (fun u4 =>
  some (((v_scene_comerCount + (1 : Int32)) - (1 : Int32)), (v_scene_comerCount + (1 : Int32)), u4))
  else
  some ((-4 : Int32), v_scene_comerCount, v_scene_comers))
set_option maxHeartbeats 4000000 in
set_option maxRecDepth 100000 in
theorem c_X10_come (l : Launch) (D : va_G) (cI cJ cZ cO : ClassId) (a_t a_pad a_scene a_images a_bench a_trial a_sitters a_trialSitters a_sets a_census a_match a_couples a_passing a_longRows a_scene_steps a_scene_worths a_scene_comers a_scene_seen a_scene_seenLengths : Nat) (v_scene_seats : Int32) (v_scene_bear : Int32) (v_scene_comerCount : Int32) (v_scene_seenRows : Int32) (v_scene_comers : Nat → Int32) (x1 : Int32) (out : Int32 × Int32 × (Nat → Int32)) (hf : f_X10_come v_scene_comerCount v_scene_comers x1 = some out) : MetR l yX10_come (Cond.code yX10_come cX10_come 2 (some .int) :: tbG) { frames := 2, cells := 0, slots := 0, locals := 42 } D (tyL cI cJ cZ cO) [.ref a_t, .int x1] [(a_t, .inr (10, [.ref a_pad, .ref a_scene, .ref a_images, .ref a_bench, .ref a_trial, .ref a_sitters, .ref a_trialSitters, .ref a_sets, .ref a_census, .ref a_match, .ref a_couples, .ref a_passing, .ref a_longRows])), (a_scene, .inr (7, [.ref a_scene_steps, .ref a_scene_worths, .ref a_scene_comers, .ref a_scene_seen, .ref a_scene_seenLengths, .int v_scene_seats, .int v_scene_bear, .int v_scene_comerCount, .int v_scene_seenRows])), (a_scene_comers, eI cI 12 v_scene_comers)] (some (.int out.1)) [(a_t, .inr (10, [.ref a_pad, .ref a_scene, .ref a_images, .ref a_bench, .ref a_trial, .ref a_sitters, .ref a_trialSitters, .ref a_sets, .ref a_census, .ref a_match, .ref a_couples, .ref a_passing, .ref a_longRows])), (a_scene, .inr (7, [.ref a_scene_steps, .ref a_scene_worths, .ref a_scene_comers, .ref a_scene_seen, .ref a_scene_seenLengths, .int v_scene_seats, .int v_scene_bear, .int out.2.1, .int v_scene_seenRows])), (a_scene_comers, eI cI 12 out.2.2)] := by
  refine ba_ofI RX10 [(0, .ref a_t), (1, .int x1)] (by decide +kernel) rfl (Nat.le_of_ble_eq_true rfl) rfl ?_
  intro p e s m args below meth c Q A Cx hP ret ls hl
  obtain ⟨⟨hx, hb, hml, hown, hts⟩, hK, hD, hA⟩ := id Cx
  have hS : va_S A s.heap s.heap [] := va_S.rf
  unfold f_X10_come at hf
  refine lv_iload_n hx hb dX10_come_0 rfl (lv_at hl 1 rfl) ?_
  obtain ⟨u1, hu1, hf⟩ := ob_b hf
  refine iv_X10_158 (As := [.int x1]) (rest := []) (is := []) (X' := [(a_t, .inr (10, [.ref a_pad, .ref a_scene, .ref a_images, .ref a_bench, .ref a_trial, .ref a_sitters, .ref a_trialSitters, .ref a_sets, .ref a_census, .ref a_match, .ref a_couples, .ref a_passing, .ref a_longRows])), (a_scene, .inr (7, [.ref a_scene_steps, .ref a_scene_worths, .ref a_scene_comers, .ref a_scene_seen, .ref a_scene_seenLengths, .int v_scene_seats, .int v_scene_bear, .int v_scene_comerCount, .int v_scene_seenRows])), (a_scene_comers, eI cI 12 v_scene_comers)]) Cx (c_X10_isHabit l D cI cJ cZ cO  x1 u1 hu1) hP hS rfl rfl rfl rfl rfl rfl hl.1 (Nat.le_of_ble_eq_true rfl) dX10_come_1 rfl rfl ⟨Nat.le_of_ble_eq_true rfl, Nat.le_of_ble_eq_true rfl⟩ ⟨Nat.zero_le _, Nat.zero_le _⟩ rfl (fun H locs hP hS => ?_)
  refine lv_if_ne (tgt := 10) hx hb dX10_come_4 (by decide) (fun c2 => ?_) (fun c2 => ?_)
  · have hf := ob_f c2 hf
    refine lv_aload_n hx hb dX10_come_10 rfl (lv_at hl 0 rfl) ?_
    refine gf_X10_19 Cx hP 0 rfl rfl dX10_come_11 ?_
    refine gf_X10_260 Cx hP 1 rfl rfl dX10_come_14 ?_
    refine lv_bipush (v := 12) hx hb dX10_come_17 (by decide) ?_
    refine lv_icmp_lt (tgt := 25) hx hb dX10_come_19 (by decide) (fun c3 => ?_) (fun c3 => ?_)
    · have hf := ob_t c3 hf
      refine lv_aload_n hx hb dX10_come_25 rfl (lv_at hl 0 rfl) ?_
      refine gf_X10_19 Cx hP 0 rfl rfl dX10_come_26 ?_
      refine gf_X10_263 Cx hP 1 rfl rfl dX10_come_29 ?_
      refine lv_aload_n hx hb dX10_come_32 rfl (lv_at hl 0 rfl) ?_
      refine gf_X10_19 Cx hP 0 rfl rfl dX10_come_33 ?_
      refine gf_X10_260 Cx hP 1 rfl rfl dX10_come_36 ?_
      refine lv_iload_n hx hb dX10_come_39 rfl (lv_at hl 1 rfl) ?_
      obtain ⟨u4, hu4, hf⟩ := ob_b hf
      refine ba_iast (X' := [(a_t, .inr (10, [.ref a_pad, .ref a_scene, .ref a_images, .ref a_bench, .ref a_trial, .ref a_sitters, .ref a_trialSitters, .ref a_sets, .ref a_census, .ref a_match, .ref a_couples, .ref a_passing, .ref a_longRows])), (a_scene, .inr (7, [.ref a_scene_steps, .ref a_scene_worths, .ref a_scene_comers, .ref a_scene_seen, .ref a_scene_seenLengths, .int v_scene_seats, .int v_scene_bear, .int v_scene_comerCount, .int v_scene_seenRows])), (a_scene_comers, eI cI 12 u4)]) Cx hP hS rfl 2 rfl rfl hu4 dX10_come_40 (fun H locs hP hS => ?_)
      refine lv_aload_n hx hb dX10_come_41 rfl (lv_at hl 0 rfl) ?_
      refine gf_X10_19 Cx hP 0 rfl rfl dX10_come_42 ?_
      refine lv_dup hx hb dX10_come_45 rfl ?_
      refine gf_X10_260 Cx hP 1 rfl rfl dX10_come_46 ?_
      refine lv_iconst (v := 1) hx hb dX10_come_49 (by decide) ?_
      refine lv_iadd hx hb dX10_come_50 ?_
      refine pf_X10_260 (X' := [(a_t, .inr (10, [.ref a_pad, .ref a_scene, .ref a_images, .ref a_bench, .ref a_trial, .ref a_sitters, .ref a_trialSitters, .ref a_sets, .ref a_census, .ref a_match, .ref a_couples, .ref a_passing, .ref a_longRows])), (a_scene, .inr (7, [.ref a_scene_steps, .ref a_scene_worths, .ref a_scene_comers, .ref a_scene_seen, .ref a_scene_seenLengths, .int v_scene_seats, .int v_scene_bear, .int (v_scene_comerCount + (1 : Int32)), .int v_scene_seenRows])), (a_scene_comers, eI cI 12 u4)]) Cx hP hS rfl 1 rfl rfl (Nat.le_of_ble_eq_true rfl) dX10_come_51 (fun H locs hP hS => ?_)
      refine lv_aload_n hx hb dX10_come_54 rfl (lv_at hl 0 rfl) ?_
      refine gf_X10_19 Cx hP 0 rfl rfl dX10_come_55 ?_
      refine gf_X10_260 Cx hP 1 rfl rfl dX10_come_58 ?_
      refine lv_iconst (v := 1) hx hb dX10_come_61 (by decide) ?_
      refine lv_isub hx hb dX10_come_62 ?_
      obtain rfl := Option.some.inj hf
      exact ret _ _ _ _ dX10_come_63 hP hS
    · have hf := ob_f c3 hf
      refine lv_bipush (v := (-4)) hx hb dX10_come_22 (by decide) ?_
      obtain rfl := Option.some.inj hf
      exact ret _ _ _ _ dX10_come_24 hP hS
  · have hf := ob_t c2 hf
    refine lv_bipush (v := (-2)) hx hb dX10_come_7 (by decide) ?_
    obtain rfl := Option.some.inj hf
    exact ret _ _ _ _ dX10_come_9 hP hS

def f_X10_forget (v_scene_comerCount : Int32) : Option (Int32 × Int32) :=
  some (v_scene_comerCount, (0 : Int32))
set_option maxHeartbeats 4000000 in
set_option maxRecDepth 100000 in
theorem c_X10_forget (l : Launch) (D : va_G) (cI cJ cZ cO : ClassId) (a_t a_pad a_scene a_images a_bench a_trial a_sitters a_trialSitters a_sets a_census a_match a_couples a_passing a_longRows a_scene_steps a_scene_worths a_scene_comers a_scene_seen a_scene_seenLengths : Nat) (v_scene_seats : Int32) (v_scene_bear : Int32) (v_scene_comerCount : Int32) (v_scene_seenRows : Int32) (out : Int32 × Int32) (hf : f_X10_forget v_scene_comerCount = some out) : MetR l yX10_forget (Cond.code yX10_forget cX10_forget 2 (some .int) :: tbG) { frames := 0, cells := 0, slots := 0, locals := 0 } D (tyL cI cJ cZ cO) [.ref a_t] [(a_t, .inr (10, [.ref a_pad, .ref a_scene, .ref a_images, .ref a_bench, .ref a_trial, .ref a_sitters, .ref a_trialSitters, .ref a_sets, .ref a_census, .ref a_match, .ref a_couples, .ref a_passing, .ref a_longRows])), (a_scene, .inr (7, [.ref a_scene_steps, .ref a_scene_worths, .ref a_scene_comers, .ref a_scene_seen, .ref a_scene_seenLengths, .int v_scene_seats, .int v_scene_bear, .int v_scene_comerCount, .int v_scene_seenRows]))] (some (.int out.1)) [(a_t, .inr (10, [.ref a_pad, .ref a_scene, .ref a_images, .ref a_bench, .ref a_trial, .ref a_sitters, .ref a_trialSitters, .ref a_sets, .ref a_census, .ref a_match, .ref a_couples, .ref a_passing, .ref a_longRows])), (a_scene, .inr (7, [.ref a_scene_steps, .ref a_scene_worths, .ref a_scene_comers, .ref a_scene_seen, .ref a_scene_seenLengths, .int v_scene_seats, .int v_scene_bear, .int out.2, .int v_scene_seenRows]))] := by
  refine ba_ofI RX10 [(0, .ref a_t)] (by decide +kernel) rfl (Nat.le_of_ble_eq_true rfl) rfl ?_
  intro p e s m args below meth c Q A Cx hP ret ls hl
  obtain ⟨⟨hx, hb, hml, hown, hts⟩, hK, hD, hA⟩ := id Cx
  have hS : va_S A s.heap s.heap [] := va_S.rf
  unfold f_X10_forget at hf
  refine lv_aload_n hx hb dX10_forget_0 rfl (lv_at hl 0 rfl) ?_
  refine gf_X10_19 Cx hP 0 rfl rfl dX10_forget_1 ?_
  refine gf_X10_260 Cx hP 1 rfl rfl dX10_forget_4 ?_
  refine lv_istore_n (lv' := [(1, .int v_scene_comerCount), (0, .ref a_t)]) hx hb dX10_forget_7 rfl hl (by decide) rfl (fun ls hl => ?_)
  refine lv_aload_n hx hb dX10_forget_8 rfl (lv_at hl 1 rfl) ?_
  refine gf_X10_19 Cx hP 0 rfl rfl dX10_forget_9 ?_
  refine lv_iconst (v := 0) hx hb dX10_forget_12 (by decide) ?_
  refine pf_X10_260 (X' := [(a_t, .inr (10, [.ref a_pad, .ref a_scene, .ref a_images, .ref a_bench, .ref a_trial, .ref a_sitters, .ref a_trialSitters, .ref a_sets, .ref a_census, .ref a_match, .ref a_couples, .ref a_passing, .ref a_longRows])), (a_scene, .inr (7, [.ref a_scene_steps, .ref a_scene_worths, .ref a_scene_comers, .ref a_scene_seen, .ref a_scene_seenLengths, .int v_scene_seats, .int v_scene_bear, .int (0 : Int32), .int v_scene_seenRows]))]) Cx hP hS rfl 1 rfl rfl (Nat.le_of_ble_eq_true rfl) dX10_forget_13 (fun H locs hP hS => ?_)
  refine lv_iload_n hx hb dX10_forget_16 rfl (lv_at hl 0 rfl) ?_
  obtain rfl := Option.some.inj hf
  exact ret _ _ _ _ dX10_forget_17 hP hS

def f_X10_sits_31 (v_scene_seats : Int32) (v_scene_comers : Nat → Int32) (v_scene_worths : Nat → Int32) (v_bench_neighbours : Nat → Int32) (v_bench_apart : Nat → Int32) (x1 : Int32) (u3 : Int32 × Int32 × (Nat → Int32)) : Nat → Int32 → Int32 → Int32 → (Nat → Int32) → Option (Int32 × Int32 × (Nat → Int32))
  | 0, _, _, _, _ => none
  | n + 1, y2_31, y3_31, z_sitters_set_31, z_sitters_nearest_31 =>
  if x1 < y3_31 then
  some (y2_31, z_sitters_set_31, z_sitters_nearest_31)
  else
  (aget 12 v_scene_comers y3_31).bind (fun u6 =>
  (f_X9_choice u3.2.1 v_scene_seats z_sitters_nearest_31 v_scene_worths v_bench_neighbours u6).bind (fun u7 =>
  (if u7 = (-6 : Int32) then
  some (z_sitters_set_31, z_sitters_nearest_31)
  else
  (f_X9_sit z_sitters_set_31 v_scene_seats z_sitters_nearest_31 v_bench_apart u7).bind (fun u11 =>
  some (u11.1, u11.2))).bind (fun w8 =>
  f_X10_sits_31 v_scene_seats v_scene_comers v_scene_worths v_bench_neighbours v_bench_apart x1 u3 n u7 (y3_31 + 1) w8.1 w8.2)))
theorem f_X10_sits_31_s (v_scene_seats : Int32) (v_scene_comers : Nat → Int32) (v_scene_worths : Nat → Int32) (v_bench_neighbours : Nat → Int32) (v_bench_apart : Nat → Int32) (x1 : Int32) (u3 : Int32 × Int32 × (Nat → Int32)) (n : Nat) (y2_31 : Int32) (y3_31 : Int32) (z_sitters_set_31 : Int32) (z_sitters_nearest_31 : Nat → Int32) : f_X10_sits_31 v_scene_seats v_scene_comers v_scene_worths v_bench_neighbours v_bench_apart x1 u3 (n + 1) y2_31 y3_31 z_sitters_set_31 z_sitters_nearest_31 =
  (if x1 < y3_31 then
  some (y2_31, z_sitters_set_31, z_sitters_nearest_31)
  else
  (aget 12 v_scene_comers y3_31).bind (fun u6 =>
  (f_X9_choice u3.2.1 v_scene_seats z_sitters_nearest_31 v_scene_worths v_bench_neighbours u6).bind (fun u7 =>
  (if u7 = (-6 : Int32) then
  some (z_sitters_set_31, z_sitters_nearest_31)
  else
  (f_X9_sit z_sitters_set_31 v_scene_seats z_sitters_nearest_31 v_bench_apart u7).bind (fun u11 =>
  some (u11.1, u11.2))).bind (fun w8 =>
  f_X10_sits_31 v_scene_seats v_scene_comers v_scene_worths v_bench_neighbours v_bench_apart x1 u3 n u7 (y3_31 + 1) w8.1 w8.2)))) := rfl
def f_X10_sits (v_scene_seats : Int32) (v_scene_bear : Int32) (v_scene_comerCount : Int32) (v_sitters_set : Int32) (v_sitters_bear : Int32) (v_sitters_nearest : Nat → Int32) (v_scene_comers : Nat → Int32) (v_scene_worths : Nat → Int32) (v_bench_neighbours : Nat → Int32) (v_bench_apart : Nat → Int32) (x1 : Int32) : Option (Int32 × Int32 × Int32 × (Nat → Int32)) :=
  (f_X10_isWithin x1 (0 : Int32) (v_scene_comerCount - (1 : Int32))).bind (fun u1 =>
  if u1 = 0 then
  some ((-1 : Int32), v_sitters_set, v_sitters_bear, v_sitters_nearest)
  else
  (f_X9_leave v_scene_bear v_sitters_nearest).bind (fun u3 =>
  (f_X10_sits_31 v_scene_seats v_scene_comers v_scene_worths v_bench_neighbours v_bench_apart x1 u3 FU (-6 : Int32) (0 : Int32) u3.1 u3.2.2).bind (fun u12 =>
  some (u12.1, u12.2.1, u3.2.1, u12.2.2))))
set_option maxHeartbeats 4000000 in
set_option maxRecDepth 100000 in
theorem c_X10_sits (l : Launch) (D : va_G) (cI cJ cZ cO : ClassId) (a_t a_pad a_scene a_images a_bench a_trial a_sitters a_trialSitters a_sets a_census a_match a_couples a_passing a_longRows a_scene_steps a_scene_worths a_scene_comers a_scene_seen a_scene_seenLengths a_sitters_nearest a_bench_apart a_bench_clash a_bench_neighbours : Nat) (v_scene_seats : Int32) (v_scene_bear : Int32) (v_scene_comerCount : Int32) (v_scene_seenRows : Int32) (v_sitters_set : Int32) (v_sitters_bear : Int32) (v_sitters_nearest : Nat → Int32) (v_scene_comers : Nat → Int32) (v_scene_worths : Nat → Int32) (v_bench_neighbours : Nat → Int32) (v_bench_apart : Nat → Int32) (x1 : Int32) (out : Int32 × Int32 × Int32 × (Nat → Int32)) (hf : f_X10_sits v_scene_seats v_scene_bear v_scene_comerCount v_sitters_set v_sitters_bear v_sitters_nearest v_scene_comers v_scene_worths v_bench_neighbours v_bench_apart x1 = some out) : MetR l yX10_sits (Cond.code yX10_sits cX10_sits 4 (some .int) :: tbG) { frames := 2, cells := 0, slots := 0, locals := 47 } D (tyL cI cJ cZ cO) [.ref a_t, .int x1] [(a_t, .inr (10, [.ref a_pad, .ref a_scene, .ref a_images, .ref a_bench, .ref a_trial, .ref a_sitters, .ref a_trialSitters, .ref a_sets, .ref a_census, .ref a_match, .ref a_couples, .ref a_passing, .ref a_longRows])), (a_scene, .inr (7, [.ref a_scene_steps, .ref a_scene_worths, .ref a_scene_comers, .ref a_scene_seen, .ref a_scene_seenLengths, .int v_scene_seats, .int v_scene_bear, .int v_scene_comerCount, .int v_scene_seenRows])), (a_sitters, .inr (9, [.ref a_bench, .ref a_sitters_nearest, .int v_sitters_set, .int v_sitters_bear])), (a_bench, .inr (0, [.ref a_scene, .ref a_bench_apart, .ref a_bench_clash, .ref a_bench_neighbours])), (a_sitters_nearest, eI cI 12 v_sitters_nearest), (a_scene_comers, eI cI 12 v_scene_comers), (a_scene_worths, eI cI 12 v_scene_worths), (a_bench_neighbours, eI cI 12 v_bench_neighbours), (a_bench_apart, eI cI 144 v_bench_apart)] (some (.int out.1)) [(a_t, .inr (10, [.ref a_pad, .ref a_scene, .ref a_images, .ref a_bench, .ref a_trial, .ref a_sitters, .ref a_trialSitters, .ref a_sets, .ref a_census, .ref a_match, .ref a_couples, .ref a_passing, .ref a_longRows])), (a_scene, .inr (7, [.ref a_scene_steps, .ref a_scene_worths, .ref a_scene_comers, .ref a_scene_seen, .ref a_scene_seenLengths, .int v_scene_seats, .int v_scene_bear, .int v_scene_comerCount, .int v_scene_seenRows])), (a_sitters, .inr (9, [.ref a_bench, .ref a_sitters_nearest, .int out.2.1, .int out.2.2.1])), (a_bench, .inr (0, [.ref a_scene, .ref a_bench_apart, .ref a_bench_clash, .ref a_bench_neighbours])), (a_sitters_nearest, eI cI 12 out.2.2.2), (a_scene_comers, eI cI 12 v_scene_comers), (a_scene_worths, eI cI 12 v_scene_worths), (a_bench_neighbours, eI cI 12 v_bench_neighbours), (a_bench_apart, eI cI 144 v_bench_apart)] := by
  refine ba_ofI RX10 [(0, .ref a_t), (1, .int x1)] (by decide +kernel) rfl (Nat.le_of_ble_eq_true rfl) rfl ?_
  intro p e s m args below meth c Q A Cx hP ret ls hl
  obtain ⟨⟨hx, hb, hml, hown, hts⟩, hK, hD, hA⟩ := id Cx
  have hS : va_S A s.heap s.heap [] := va_S.rf
  unfold f_X10_sits at hf
  refine lv_iload_n hx hb dX10_sits_0 rfl (lv_at hl 1 rfl) ?_
  refine lv_iconst (v := 0) hx hb dX10_sits_1 (by decide) ?_
  refine lv_aload_n hx hb dX10_sits_2 rfl (lv_at hl 0 rfl) ?_
  refine gf_X10_19 Cx hP 0 rfl rfl dX10_sits_3 ?_
  refine gf_X10_260 Cx hP 1 rfl rfl dX10_sits_6 ?_
  refine lv_iconst (v := 1) hx hb dX10_sits_9 (by decide) ?_
  refine lv_isub hx hb dX10_sits_10 ?_
  obtain ⟨u1, hu1, hf⟩ := ob_b hf
  refine iv_X10_99 (As := [.int x1, .int (0 : Int32), .int (v_scene_comerCount - (1 : Int32))]) (rest := []) (is := []) (X' := [(a_t, .inr (10, [.ref a_pad, .ref a_scene, .ref a_images, .ref a_bench, .ref a_trial, .ref a_sitters, .ref a_trialSitters, .ref a_sets, .ref a_census, .ref a_match, .ref a_couples, .ref a_passing, .ref a_longRows])), (a_scene, .inr (7, [.ref a_scene_steps, .ref a_scene_worths, .ref a_scene_comers, .ref a_scene_seen, .ref a_scene_seenLengths, .int v_scene_seats, .int v_scene_bear, .int v_scene_comerCount, .int v_scene_seenRows])), (a_sitters, .inr (9, [.ref a_bench, .ref a_sitters_nearest, .int v_sitters_set, .int v_sitters_bear])), (a_bench, .inr (0, [.ref a_scene, .ref a_bench_apart, .ref a_bench_clash, .ref a_bench_neighbours])), (a_sitters_nearest, eI cI 12 v_sitters_nearest), (a_scene_comers, eI cI 12 v_scene_comers), (a_scene_worths, eI cI 12 v_scene_worths), (a_bench_neighbours, eI cI 12 v_bench_neighbours), (a_bench_apart, eI cI 144 v_bench_apart)]) Cx (c_X10_isWithin l D cI cJ cZ cO  x1 (0 : Int32) (v_scene_comerCount - (1 : Int32)) u1 hu1) hP hS rfl rfl rfl rfl rfl rfl hl.1 (Nat.le_of_ble_eq_true rfl) dX10_sits_11 rfl rfl ⟨Nat.le_of_ble_eq_true rfl, Nat.le_of_ble_eq_true rfl⟩ ⟨Nat.zero_le _, Nat.zero_le _⟩ rfl (fun H locs hP hS => ?_)
  refine lv_if_ne (tgt := 19) hx hb dX10_sits_14 (by decide) (fun c2 => ?_) (fun c2 => ?_)
  · have hf := ob_f c2 hf
    refine lv_aload_n hx hb dX10_sits_19 rfl (lv_at hl 0 rfl) ?_
    refine gf_X10_44 Cx hP 0 rfl rfl dX10_sits_20 ?_
    obtain ⟨u3, hu3, hf⟩ := ob_b hf
    refine iv_X10_228 (As := []) (rest := []) (is := [2, 3, 1, 4]) (q0 := 2) (X' := [(a_t, .inr (10, [.ref a_pad, .ref a_scene, .ref a_images, .ref a_bench, .ref a_trial, .ref a_sitters, .ref a_trialSitters, .ref a_sets, .ref a_census, .ref a_match, .ref a_couples, .ref a_passing, .ref a_longRows])), (a_scene, .inr (7, [.ref a_scene_steps, .ref a_scene_worths, .ref a_scene_comers, .ref a_scene_seen, .ref a_scene_seenLengths, .int v_scene_seats, .int v_scene_bear, .int v_scene_comerCount, .int v_scene_seenRows])), (a_sitters, .inr (9, [.ref a_bench, .ref a_sitters_nearest, .int u3.1, .int u3.2.1])), (a_bench, .inr (0, [.ref a_scene, .ref a_bench_apart, .ref a_bench_clash, .ref a_bench_neighbours])), (a_sitters_nearest, eI cI 12 u3.2.2), (a_scene_comers, eI cI 12 v_scene_comers), (a_scene_worths, eI cI 12 v_scene_worths), (a_bench_neighbours, eI cI 12 v_bench_neighbours), (a_bench_apart, eI cI 144 v_bench_apart)]) Cx (c_X9_leave l D cI cJ cZ cO a_sitters a_bench a_sitters_nearest a_scene a_bench_apart a_bench_clash a_bench_neighbours a_scene_steps a_scene_worths a_scene_comers a_scene_seen a_scene_seenLengths v_sitters_set v_sitters_bear v_scene_seats v_scene_bear v_scene_comerCount v_scene_seenRows v_sitters_nearest u3 hu3) hP hS rfl rfl rfl rfl rfl rfl rfl hl.1 (Nat.le_of_ble_eq_true rfl) dX10_sits_23 rfl rfl ⟨Nat.le_of_ble_eq_true rfl, Nat.le_of_ble_eq_true rfl⟩ ⟨Nat.zero_le _, Nat.zero_le _⟩ rfl (fun H locs hP hS => ?_)
    refine lv_bipush (v := (-6)) hx hb dX10_sits_26 (by decide) ?_
    refine lv_istore_n (lv' := [(2, .int (-6 : Int32)), (0, .ref a_t), (1, .int x1)]) hx hb dX10_sits_28 rfl hl (by decide) rfl (fun ls hl => ?_)
    refine lv_iconst (v := 0) hx hb dX10_sits_29 (by decide) ?_
    refine lv_istore_n (lv' := [(3, .int (0 : Int32)), (2, .int (-6 : Int32)), (0, .ref a_t), (1, .int x1)]) hx hb dX10_sits_30 rfl hl (by decide) rfl (fun ls hl => ?_)
    have L31_4 : ∀ (n : Nat) (y2_31 : Int32) (y3_31 : Int32) (z_sitters_set_31 : Int32) (z_sitters_nearest_31 : Nat → Int32) (o : Int32 × Int32 × (Nat → Int32)) (H : Heap) (locs : List Loc) (ls : Array Slot), f_X10_sits_31 v_scene_seats v_scene_comers v_scene_worths v_bench_neighbours v_bench_apart x1 u3 n y2_31 y3_31 z_sitters_set_31 z_sitters_nearest_31 = some o → va_P D vwCl [(a_t, .inr (10, [.ref a_pad, .ref a_scene, .ref a_images, .ref a_bench, .ref a_trial, .ref a_sitters, .ref a_trialSitters, .ref a_sets, .ref a_census, .ref a_match, .ref a_couples, .ref a_passing, .ref a_longRows])), (a_scene, .inr (7, [.ref a_scene_steps, .ref a_scene_worths, .ref a_scene_comers, .ref a_scene_seen, .ref a_scene_seenLengths, .int v_scene_seats, .int v_scene_bear, .int v_scene_comerCount, .int v_scene_seenRows])), (a_sitters, .inr (9, [.ref a_bench, .ref a_sitters_nearest, .int z_sitters_set_31, .int u3.2.1])), (a_bench, .inr (0, [.ref a_scene, .ref a_bench_apart, .ref a_bench_clash, .ref a_bench_neighbours])), (a_sitters_nearest, eI cI 12 z_sitters_nearest_31), (a_scene_comers, eI cI 12 v_scene_comers), (a_scene_worths, eI cI 12 v_scene_worths), (a_bench_neighbours, eI cI 12 v_bench_neighbours), (a_bench_apart, eI cI 144 v_bench_apart)] H → va_S A s.heap H locs → lv_has ls 4 [(0, .ref a_t), (1, .int x1), (2, .int y2_31), (3, .int y3_31)] → (∀ (H : Heap) (locs : List Loc) (ls : Array Slot), va_P D vwCl [(a_t, .inr (10, [.ref a_pad, .ref a_scene, .ref a_images, .ref a_bench, .ref a_trial, .ref a_sitters, .ref a_trialSitters, .ref a_sets, .ref a_census, .ref a_match, .ref a_couples, .ref a_passing, .ref a_longRows])), (a_scene, .inr (7, [.ref a_scene_steps, .ref a_scene_worths, .ref a_scene_comers, .ref a_scene_seen, .ref a_scene_seenLengths, .int v_scene_seats, .int v_scene_bear, .int v_scene_comerCount, .int v_scene_seenRows])), (a_sitters, .inr (9, [.ref a_bench, .ref a_sitters_nearest, .int o.2.1, .int u3.2.1])), (a_bench, .inr (0, [.ref a_scene, .ref a_bench_apart, .ref a_bench_clash, .ref a_bench_neighbours])), (a_sitters_nearest, eI cI 12 o.2.2), (a_scene_comers, eI cI 12 v_scene_comers), (a_scene_worths, eI cI 12 v_scene_worths), (a_bench_neighbours, eI cI 12 v_bench_neighbours), (a_bench_apart, eI cI 144 v_bench_apart)] H → va_S A s.heap H locs → lv_has ls 4 [(2, .int o.1)] → W p l e { frames := 2, cells := 0, slots := 0, locals := 47 } s m args below meth c H locs 0 0 Q (F0 m 73 ls [])) → W p l e { frames := 2, cells := 0, slots := 0, locals := 47 } s m args below meth c H locs 0 0 Q (F0 m 31 ls []) := by
      intro n
      induction n with
      | zero => intro y2_31 y3_31 z_sitters_set_31 z_sitters_nearest_31 o H locs ls hf; exact (ob_n hf).elim
      | succ n ih =>
        intro y2_31 y3_31 z_sitters_set_31 z_sitters_nearest_31 o H locs ls hf hP hS hl kk
        rw [f_X10_sits_31_s] at hf
        refine lv_iload_n hx hb dX10_sits_31 rfl (lv_at hl 3 rfl) ?_
        refine lv_iload_n hx hb dX10_sits_32 rfl (lv_at hl 1 rfl) ?_
        refine lv_icmp_gt (tgt := 73) hx hb dX10_sits_33 (by decide) (fun c5 => ?_) (fun c5 => ?_)
        · have hf := ob_t c5 hf
          obtain rfl := Option.some.inj hf
          exact kk _ _ _ hP hS (lv_sub hl [2] rfl)
        · have hf := ob_f c5 hf
          refine lv_aload_n hx hb dX10_sits_36 rfl (lv_at hl 0 rfl) ?_
          refine gf_X10_44 Cx hP 0 rfl rfl dX10_sits_37 ?_
          refine lv_aload_n hx hb dX10_sits_40 rfl (lv_at hl 0 rfl) ?_
          refine gf_X10_19 Cx hP 0 rfl rfl dX10_sits_41 ?_
          refine gf_X10_263 Cx hP 1 rfl rfl dX10_sits_44 ?_
          refine lv_iload_n hx hb dX10_sits_47 rfl (lv_at hl 3 rfl) ?_
          obtain ⟨u6, hu6, hf⟩ := ob_b hf
          refine ba_iald Cx hP 5 rfl hu6 dX10_sits_48 ?_
          obtain ⟨u7, hu7, hf⟩ := ob_b hf
          refine iv_X10_161 (As := [.int u6]) (rest := []) (is := [2, 3, 1, 4, 6, 7]) (q0 := 2) (X' := [(a_t, .inr (10, [.ref a_pad, .ref a_scene, .ref a_images, .ref a_bench, .ref a_trial, .ref a_sitters, .ref a_trialSitters, .ref a_sets, .ref a_census, .ref a_match, .ref a_couples, .ref a_passing, .ref a_longRows])), (a_scene, .inr (7, [.ref a_scene_steps, .ref a_scene_worths, .ref a_scene_comers, .ref a_scene_seen, .ref a_scene_seenLengths, .int v_scene_seats, .int v_scene_bear, .int v_scene_comerCount, .int v_scene_seenRows])), (a_sitters, .inr (9, [.ref a_bench, .ref a_sitters_nearest, .int z_sitters_set_31, .int u3.2.1])), (a_bench, .inr (0, [.ref a_scene, .ref a_bench_apart, .ref a_bench_clash, .ref a_bench_neighbours])), (a_sitters_nearest, eI cI 12 z_sitters_nearest_31), (a_scene_comers, eI cI 12 v_scene_comers), (a_scene_worths, eI cI 12 v_scene_worths), (a_bench_neighbours, eI cI 12 v_bench_neighbours), (a_bench_apart, eI cI 144 v_bench_apart)]) Cx (c_X9_choice l D cI cJ cZ cO a_sitters a_bench a_sitters_nearest a_scene a_bench_apart a_bench_clash a_bench_neighbours a_scene_steps a_scene_worths a_scene_comers a_scene_seen a_scene_seenLengths z_sitters_set_31 u3.2.1 v_scene_seats v_scene_bear v_scene_comerCount v_scene_seenRows z_sitters_nearest_31 v_scene_worths v_bench_neighbours u6 u7 hu7) hP hS rfl rfl rfl rfl rfl rfl rfl hl.1 (Nat.le_of_ble_eq_true rfl) dX10_sits_49 rfl rfl ⟨Nat.le_of_ble_eq_true rfl, Nat.le_of_ble_eq_true rfl⟩ ⟨Nat.zero_le _, Nat.zero_le _⟩ rfl (fun H locs hP hS => ?_)
          refine lv_istore_n (lv' := [(2, .int u7), (0, .ref a_t), (1, .int x1), (3, .int y3_31)]) hx hb dX10_sits_52 rfl hl (by decide) rfl (fun ls hl => ?_)
          refine lv_iload_n hx hb dX10_sits_53 rfl (lv_at hl 0 rfl) ?_
          refine lv_bipush (v := (-6)) hx hb dX10_sits_54 (by decide) ?_
          refine ob_J (P := fun w8 => ∀ (H : Heap) (locs : List Loc) (ls : Array Slot), va_P D vwCl [(a_t, .inr (10, [.ref a_pad, .ref a_scene, .ref a_images, .ref a_bench, .ref a_trial, .ref a_sitters, .ref a_trialSitters, .ref a_sets, .ref a_census, .ref a_match, .ref a_couples, .ref a_passing, .ref a_longRows])), (a_scene, .inr (7, [.ref a_scene_steps, .ref a_scene_worths, .ref a_scene_comers, .ref a_scene_seen, .ref a_scene_seenLengths, .int v_scene_seats, .int v_scene_bear, .int v_scene_comerCount, .int v_scene_seenRows])), (a_sitters, .inr (9, [.ref a_bench, .ref a_sitters_nearest, .int w8.1, .int u3.2.1])), (a_bench, .inr (0, [.ref a_scene, .ref a_bench_apart, .ref a_bench_clash, .ref a_bench_neighbours])), (a_sitters_nearest, eI cI 12 w8.2), (a_scene_comers, eI cI 12 v_scene_comers), (a_scene_worths, eI cI 12 v_scene_worths), (a_bench_neighbours, eI cI 12 v_bench_neighbours), (a_bench_apart, eI cI 144 v_bench_apart)] H → va_S A s.heap H locs → lv_has ls 4 [(0, .ref a_t), (1, .int x1), (2, .int u7), (3, .int y3_31)] → W p l e { frames := 2, cells := 0, slots := 0, locals := 47 } s m args below meth c H locs 0 0 Q (F0 m 67 ls [])) hf ?_ ?_
          · intro w8 hf H locs ls hP hS hl
            refine lv_iinc (v := (y3_31 + 1)) (lv' := [(3, .int (y3_31 + 1)), (0, .ref a_t), (1, .int x1), (2, .int u7)]) hx hb dX10_sits_67 hl (k := 3) rfl rfl (by decide) rfl (fun ls hl => ?_)
            refine lv_goto (tgt := 31) hx hb dX10_sits_70 (by decide) ?_
            exact ih u7 (y3_31 + 1) w8.1 w8.2 _ _ _ _ hf hP hS (lv_sub hl [1, 2, 3, 0] rfl) kk
          · intro J67_9 hf
            refine lv_icmp_eq (tgt := 67) hx hb dX10_sits_56 (by decide) (fun c10 => ?_) (fun c10 => ?_)
            · have hf := ob_tk c10 hf
              exact J67_9 (z_sitters_set_31, z_sitters_nearest_31) hf _ _ _ hP hS (lv_sub hl [1, 2, 0, 3] rfl)
            · have hf := ob_fk c10 hf
              refine lv_aload_n hx hb dX10_sits_59 rfl (lv_at hl 1 rfl) ?_
              refine gf_X10_44 Cx hP 0 rfl rfl dX10_sits_60 ?_
              refine lv_iload_n hx hb dX10_sits_63 rfl (lv_at hl 0 rfl) ?_
              obtain ⟨u11, hu11, hf⟩ := ob_bk hf
              refine iv_X10_266 (As := [.int u7]) (rest := []) (is := [2, 3, 1, 4, 8]) (q0 := 2) (X' := [(a_t, .inr (10, [.ref a_pad, .ref a_scene, .ref a_images, .ref a_bench, .ref a_trial, .ref a_sitters, .ref a_trialSitters, .ref a_sets, .ref a_census, .ref a_match, .ref a_couples, .ref a_passing, .ref a_longRows])), (a_scene, .inr (7, [.ref a_scene_steps, .ref a_scene_worths, .ref a_scene_comers, .ref a_scene_seen, .ref a_scene_seenLengths, .int v_scene_seats, .int v_scene_bear, .int v_scene_comerCount, .int v_scene_seenRows])), (a_sitters, .inr (9, [.ref a_bench, .ref a_sitters_nearest, .int u11.1, .int u3.2.1])), (a_bench, .inr (0, [.ref a_scene, .ref a_bench_apart, .ref a_bench_clash, .ref a_bench_neighbours])), (a_sitters_nearest, eI cI 12 u11.2), (a_scene_comers, eI cI 12 v_scene_comers), (a_scene_worths, eI cI 12 v_scene_worths), (a_bench_neighbours, eI cI 12 v_bench_neighbours), (a_bench_apart, eI cI 144 v_bench_apart)]) Cx (c_X9_sit l D cI cJ cZ cO a_sitters a_bench a_sitters_nearest a_scene a_bench_apart a_bench_clash a_bench_neighbours a_scene_steps a_scene_worths a_scene_comers a_scene_seen a_scene_seenLengths z_sitters_set_31 u3.2.1 v_scene_seats v_scene_bear v_scene_comerCount v_scene_seenRows z_sitters_nearest_31 v_bench_apart u7 u11 hu11) hP hS rfl rfl rfl rfl rfl rfl rfl hl.1 (Nat.le_of_ble_eq_true rfl) dX10_sits_64 rfl rfl ⟨Nat.le_of_ble_eq_true rfl, Nat.le_of_ble_eq_true rfl⟩ ⟨Nat.zero_le _, Nat.zero_le _⟩ rfl (fun H locs hP hS => ?_)
              exact J67_9 (u11.1, u11.2) hf _ _ _ hP hS (lv_sub hl [1, 2, 0, 3] rfl)
    obtain ⟨u12, hu12, hf⟩ := ob_b hf
    refine L31_4 FU (-6 : Int32) (0 : Int32) u3.1 u3.2.2 u12 _ _ _ hu12 hP hS (lv_sub hl [2, 3, 1, 0] rfl) ?_
    intro H locs ls hP hS hl
    refine lv_iload_n hx hb dX10_sits_73 rfl (lv_at hl 0 rfl) ?_
    obtain rfl := Option.some.inj hf
    exact ret _ _ _ _ dX10_sits_74 hP hS
  · have hf := ob_t c2 hf
    refine lv_iconst (v := (-1)) hx hb dX10_sits_17 (by decide) ?_
    obtain rfl := Option.some.inj hf
    exact ret _ _ _ _ dX10_sits_18 hP hS

