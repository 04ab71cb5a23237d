def f_X10_see (v_scene_seats : Int32) (v_scene_bear : Int32) (v_scene_seenRows : Int32) (v_sitters_set : Int32) (v_sitters_bear : Int32) (v_sitters_nearest : Nat → Int32) (v_scene_seenLengths : Nat → Int32) (v_scene_seen : Nat → Int32) (v_bench_apart : Nat → Int32) (x1 : Int32) : Option (Int32 × Int32 × Int32 × (Nat → Int32) × (Nat → Int32) × (Nat → Int32)) :=
  (f_X10_isSeat v_scene_seats x1).bind (fun u1 =>
  if u1 = 0 then
  some ((-1 : Int32), v_sitters_set, v_sitters_bear, v_sitters_nearest, v_scene_seenLengths, v_scene_seen)
  else
  if v_scene_seenRows = 0 then
  some ((-3 : Int32), v_sitters_set, v_sitters_bear, v_sitters_nearest, v_scene_seenLengths, v_scene_seen)
  else
  (f_X10_seatSeenRow v_scene_seats v_scene_bear v_sitters_nearest v_scene_seenLengths v_scene_seen v_bench_apart (v_scene_seenRows - (1 : Int32))).bind (fun u4 =>
  (f_X9_isOpen u4.2.1 u4.2.2 x1).bind (fun u5 =>
  if u5 = 0 then
  some ((-5 : Int32), u4.1, u4.2.1, u4.2.2, v_scene_seenLengths, v_scene_seen)
  else
  (f_X7_noteSeen v_scene_seenLengths v_scene_seen (v_scene_seenRows - (1 : Int32)) x1).bind (fun u7 =>
  (if u7.1 = 0 then
  some (-4 : Int32)
  else
  (aget 8 u7.2.1 (v_scene_seenRows - (1 : Int32))).bind (fun u11 =>
  some (u11))).bind (fun w8 =>
  some (w8, u4.1, u4.2.1, u4.2.2, u7.2.1, u7.2.2))))))
set_option maxHeartbeats 4000000 in
set_option maxRecDepth 100000 in
theorem c_X10_see (l : Launch) (D : va_G) (cI cJ cZ cO : ClassId) (a_t a_pad a_scene a_images a_bench a_trial a_sitters a_trialSitters a_sets a_census a_match a_couples a_passing a_longRows a_scene_steps a_scene_worths a_scene_comers a_scene_seen a_scene_seenLengths a_sitters_nearest a_bench_apart a_bench_clash a_bench_neighbours : Nat) (v_scene_seats : Int32) (v_scene_bear : Int32) (v_scene_comerCount : Int32) (v_scene_seenRows : Int32) (v_sitters_set : Int32) (v_sitters_bear : Int32) (v_sitters_nearest : Nat → Int32) (v_scene_seenLengths : Nat → Int32) (v_scene_seen : Nat → Int32) (v_bench_apart : Nat → Int32) (x1 : Int32) (out : Int32 × Int32 × Int32 × (Nat → Int32) × (Nat → Int32) × (Nat → Int32)) (hf : f_X10_see v_scene_seats v_scene_bear v_scene_seenRows v_sitters_set v_sitters_bear v_sitters_nearest v_scene_seenLengths v_scene_seen v_bench_apart x1 = some out) : MetR l yX10_see (Cond.code yX10_see cX10_see 3 (some .int) :: tbG) { frames := 3, cells := 0, slots := 0, locals := 66 } D (tyL cI cJ cZ cO) [.ref a_t, .int x1] [(a_t, .inr (10, [.ref a_pad, .ref a_scene, .ref a_images, .ref a_bench, .ref a_trial, .ref a_sitters, .ref a_trialSitters, .ref a_sets, .ref a_census, .ref a_match, .ref a_couples, .ref a_passing, .ref a_longRows])), (a_scene, .inr (7, [.ref a_scene_steps, .ref a_scene_worths, .ref a_scene_comers, .ref a_scene_seen, .ref a_scene_seenLengths, .int v_scene_seats, .int v_scene_bear, .int v_scene_comerCount, .int v_scene_seenRows])), (a_sitters, .inr (9, [.ref a_bench, .ref a_sitters_nearest, .int v_sitters_set, .int v_sitters_bear])), (a_bench, .inr (0, [.ref a_scene, .ref a_bench_apart, .ref a_bench_clash, .ref a_bench_neighbours])), (a_sitters_nearest, eI cI 12 v_sitters_nearest), (a_scene_seenLengths, eI cI 8 v_scene_seenLengths), (a_scene_seen, eI cI 96 v_scene_seen), (a_bench_apart, eI cI 144 v_bench_apart)] (some (.int out.1)) [(a_t, .inr (10, [.ref a_pad, .ref a_scene, .ref a_images, .ref a_bench, .ref a_trial, .ref a_sitters, .ref a_trialSitters, .ref a_sets, .ref a_census, .ref a_match, .ref a_couples, .ref a_passing, .ref a_longRows])), (a_scene, .inr (7, [.ref a_scene_steps, .ref a_scene_worths, .ref a_scene_comers, .ref a_scene_seen, .ref a_scene_seenLengths, .int v_scene_seats, .int v_scene_bear, .int v_scene_comerCount, .int v_scene_seenRows])), (a_sitters, .inr (9, [.ref a_bench, .ref a_sitters_nearest, .int out.2.1, .int out.2.2.1])), (a_bench, .inr (0, [.ref a_scene, .ref a_bench_apart, .ref a_bench_clash, .ref a_bench_neighbours])), (a_sitters_nearest, eI cI 12 out.2.2.2.1), (a_scene_seenLengths, eI cI 8 out.2.2.2.2.1), (a_scene_seen, eI cI 96 out.2.2.2.2.2), (a_bench_apart, eI cI 144 v_bench_apart)] := by
  refine ba_ofI RX10 [(0, .ref a_t), (1, .int x1)] (by decide +kernel) rfl (Nat.le_of_ble_eq_true rfl) rfl ?_
  intro p e s m args below meth c Q A Cx hP ret ls hl
  obtain ⟨⟨hx, hb, hml, hown, hts⟩, hK, hD, hA⟩ := id Cx
  have hS : va_S A s.heap s.heap [] := va_S.rf
  unfold f_X10_see at hf
  refine lv_aload_n hx hb dX10_see_0 rfl (lv_at hl 0 rfl) ?_
  refine lv_iload_n hx hb dX10_see_1 rfl (lv_at hl 1 rfl) ?_
  obtain ⟨u1, hu1, hf⟩ := ob_b hf
  refine iv_X10_141 (As := [.int x1]) (rest := []) (is := [0, 1]) (q0 := 0) (X' := [(a_t, .inr (10, [.ref a_pad, .ref a_scene, .ref a_images, .ref a_bench, .ref a_trial, .ref a_sitters, .ref a_trialSitters, .ref a_sets, .ref a_census, .ref a_match, .ref a_couples, .ref a_passing, .ref a_longRows])), (a_scene, .inr (7, [.ref a_scene_steps, .ref a_scene_worths, .ref a_scene_comers, .ref a_scene_seen, .ref a_scene_seenLengths, .int v_scene_seats, .int v_scene_bear, .int v_scene_comerCount, .int v_scene_seenRows])), (a_sitters, .inr (9, [.ref a_bench, .ref a_sitters_nearest, .int v_sitters_set, .int v_sitters_bear])), (a_bench, .inr (0, [.ref a_scene, .ref a_bench_apart, .ref a_bench_clash, .ref a_bench_neighbours])), (a_sitters_nearest, eI cI 12 v_sitters_nearest), (a_scene_seenLengths, eI cI 8 v_scene_seenLengths), (a_scene_seen, eI cI 96 v_scene_seen), (a_bench_apart, eI cI 144 v_bench_apart)]) Cx (c_X10_isSeat l D cI cJ cZ cO a_t a_pad a_scene a_images a_bench a_trial a_sitters a_trialSitters a_sets a_census a_match a_couples a_passing a_longRows a_scene_steps a_scene_worths a_scene_comers a_scene_seen a_scene_seenLengths v_scene_seats v_scene_bear v_scene_comerCount v_scene_seenRows x1 u1 hu1) hP hS rfl rfl rfl rfl rfl rfl rfl hl.1 (Nat.le_of_ble_eq_true rfl) dX10_see_2 rfl rfl ⟨Nat.le_of_ble_eq_true rfl, Nat.le_of_ble_eq_true rfl⟩ ⟨Nat.zero_le _, Nat.zero_le _⟩ rfl (fun H locs hP hS => ?_)
  refine lv_if_ne (tgt := 10) hx hb dX10_see_5 (by decide) (fun c2 => ?_) (fun c2 => ?_)
  · have hf := ob_f c2 hf
    refine lv_aload_n hx hb dX10_see_10 rfl (lv_at hl 0 rfl) ?_
    refine gf_X10_19 Cx hP 0 rfl rfl dX10_see_11 ?_
    refine gf_X10_135 Cx hP 1 rfl rfl dX10_see_14 ?_
    refine lv_if_ne (tgt := 23) hx hb dX10_see_17 (by decide) (fun c3 => ?_) (fun c3 => ?_)
    · have hf := ob_f c3 hf
      refine lv_aload_n hx hb dX10_see_23 rfl (lv_at hl 0 rfl) ?_
      refine gf_X10_19 Cx hP 0 rfl rfl dX10_see_24 ?_
      refine gf_X10_135 Cx hP 1 rfl rfl dX10_see_27 ?_
      refine lv_iconst (v := 1) hx hb dX10_see_30 (by decide) ?_
      refine lv_isub hx hb dX10_see_31 ?_
      refine lv_istore_n (lv' := [(2, .int (v_scene_seenRows - (1 : Int32))), (0, .ref a_t), (1, .int x1)]) hx hb dX10_see_32 rfl hl (by decide) rfl (fun ls hl => ?_)
      refine lv_aload_n hx hb dX10_see_33 rfl (lv_at hl 1 rfl) ?_
      refine lv_iload_n hx hb dX10_see_34 rfl (lv_at hl 0 rfl) ?_
      obtain ⟨u4, hu4, hf⟩ := ob_b hf
      refine iv_X10_272 (As := [.int (v_scene_seenRows - (1 : Int32))]) (rest := []) (is := [0, 2, 3, 1, 4, 5, 6, 7]) (q0 := 0) (X' := [(a_t, .inr (10, [.ref a_pad, .ref a_scene, .ref a_images, .ref a_bench, .ref a_trial, .ref a_sitters, .ref a_trialSitters, .ref a_sets, .ref a_census, .ref a_match, .ref a_couples, .ref a_passing, .ref a_longRows])), (a_scene, .inr (7, [.ref a_scene_steps, .ref a_scene_worths, .ref a_scene_comers, .ref a_scene_seen, .ref a_scene_seenLengths, .int v_scene_seats, .int v_scene_bear, .int v_scene_comerCount, .int v_scene_seenRows])), (a_sitters, .inr (9, [.ref a_bench, .ref a_sitters_nearest, .int u4.1, .int u4.2.1])), (a_bench, .inr (0, [.ref a_scene, .ref a_bench_apart, .ref a_bench_clash, .ref a_bench_neighbours])), (a_sitters_nearest, eI cI 12 u4.2.2), (a_scene_seenLengths, eI cI 8 v_scene_seenLengths), (a_scene_seen, eI cI 96 v_scene_seen), (a_bench_apart, eI cI 144 v_bench_apart)]) Cx (c_X10_seatSeenRow l D cI cJ cZ cO a_t a_pad a_scene a_images a_bench a_trial a_sitters a_trialSitters a_sets a_census a_match a_couples a_passing a_longRows a_sitters_nearest a_bench_apart a_bench_clash a_bench_neighbours a_scene_steps a_scene_worths a_scene_comers a_scene_seen a_scene_seenLengths v_sitters_set v_sitters_bear v_scene_seats v_scene_bear v_scene_comerCount v_scene_seenRows v_sitters_nearest v_scene_seenLengths v_scene_seen v_bench_apart (v_scene_seenRows - (1 : Int32)) u4 hu4) hP hS rfl rfl rfl rfl rfl rfl rfl hl.1 (Nat.le_of_ble_eq_true rfl) dX10_see_35 rfl rfl ⟨Nat.le_of_ble_eq_true rfl, Nat.le_of_ble_eq_true rfl⟩ ⟨Nat.zero_le _, Nat.zero_le _⟩ rfl (fun H locs hP hS => ?_)
      refine lv_aload_n hx hb dX10_see_38 rfl (lv_at hl 1 rfl) ?_
      refine gf_X10_44 Cx hP 0 rfl rfl dX10_see_39 ?_
      refine lv_iload_n hx hb dX10_see_42 rfl (lv_at hl 2 rfl) ?_
      obtain ⟨u5, hu5, hf⟩ := ob_b hf
      refine iv_X10_275 (As := [.int x1]) (rest := []) (is := [2, 4]) (q0 := 2) (X' := [(a_t, .inr (10, [.ref a_pad, .ref a_scene, .ref a_images, .ref a_bench, .ref a_trial, .ref a_sitters, .ref a_trialSitters, .ref a_sets, .ref a_census, .ref a_match, .ref a_couples, .ref a_passing, .ref a_longRows])), (a_scene, .inr (7, [.ref a_scene_steps, .ref a_scene_worths, .ref a_scene_comers, .ref a_scene_seen, .ref a_scene_seenLengths, .int v_scene_seats, .int v_scene_bear, .int v_scene_comerCount, .int v_scene_seenRows])), (a_sitters, .inr (9, [.ref a_bench, .ref a_sitters_nearest, .int u4.1, .int u4.2.1])), (a_bench, .inr (0, [.ref a_scene, .ref a_bench_apart, .ref a_bench_clash, .ref a_bench_neighbours])), (a_sitters_nearest, eI cI 12 u4.2.2), (a_scene_seenLengths, eI cI 8 v_scene_seenLengths), (a_scene_seen, eI cI 96 v_scene_seen), (a_bench_apart, eI cI 144 v_bench_apart)]) Cx (c_X9_isOpen l D cI cJ cZ cO a_sitters a_bench a_sitters_nearest u4.1 u4.2.1 u4.2.2 x1 u5 hu5) hP hS rfl rfl rfl rfl rfl rfl rfl hl.1 (Nat.le_of_ble_eq_true rfl) dX10_see_43 rfl rfl ⟨Nat.le_of_ble_eq_true rfl, Nat.le_of_ble_eq_true rfl⟩ ⟨Nat.zero_le _, Nat.zero_le _⟩ rfl (fun H locs hP hS => ?_)
      refine lv_if_ne (tgt := 52) hx hb dX10_see_46 (by decide) (fun c6 => ?_) (fun c6 => ?_)
      · have hf := ob_f c6 hf
        refine lv_aload_n hx hb dX10_see_52 rfl (lv_at hl 1 rfl) ?_
        refine gf_X10_19 Cx hP 0 rfl rfl dX10_see_53 ?_
        refine lv_iload_n hx hb dX10_see_56 rfl (lv_at hl 0 rfl) ?_
        refine lv_iload_n hx hb dX10_see_57 rfl (lv_at hl 2 rfl) ?_
        obtain ⟨u7, hu7, hf⟩ := ob_b hf
        refine iv_X10_278 (As := [.int (v_scene_seenRows - (1 : Int32)), .int x1]) (rest := []) (is := [1, 5, 6]) (q0 := 1) (X' := [(a_t, .inr (10, [.ref a_pad, .ref a_scene, .ref a_images, .ref a_bench, .ref a_trial, .ref a_sitters, .ref a_trialSitters, .ref a_sets, .ref a_census, .ref a_match, .ref a_couples, .ref a_passing, .ref a_longRows])), (a_scene, .inr (7, [.ref a_scene_steps, .ref a_scene_worths, .ref a_scene_comers, .ref a_scene_seen, .ref a_scene_seenLengths, .int v_scene_seats, .int v_scene_bear, .int v_scene_comerCount, .int v_scene_seenRows])), (a_sitters, .inr (9, [.ref a_bench, .ref a_sitters_nearest, .int u4.1, .int u4.2.1])), (a_bench, .inr (0, [.ref a_scene, .ref a_bench_apart, .ref a_bench_clash, .ref a_bench_neighbours])), (a_sitters_nearest, eI cI 12 u4.2.2), (a_scene_seenLengths, eI cI 8 u7.2.1), (a_scene_seen, eI cI 96 u7.2.2), (a_bench_apart, eI cI 144 v_bench_apart)]) Cx (c_X7_noteSeen l D cI cJ cZ cO a_scene a_scene_steps a_scene_worths a_scene_comers a_scene_seen a_scene_seenLengths v_scene_seats v_scene_bear v_scene_comerCount v_scene_seenRows v_scene_seenLengths v_scene_seen (v_scene_seenRows - (1 : Int32)) x1 u7 hu7) hP hS rfl rfl rfl rfl rfl rfl rfl hl.1 (Nat.le_of_ble_eq_true rfl) dX10_see_58 rfl rfl ⟨Nat.le_of_ble_eq_true rfl, Nat.le_of_ble_eq_true rfl⟩ ⟨Nat.zero_le _, Nat.zero_le _⟩ rfl (fun H locs hP hS => ?_)
        refine ob_J (P := fun w8 => ∀ (H : Heap) (locs : List Loc) (ls : Array Slot), va_P D vwCl [(a_t, .inr (10, [.ref a_pad, .ref a_scene, .ref a_images, .ref a_bench, .ref a_trial, .ref a_sitters, .ref a_trialSitters, .ref a_sets, .ref a_census, .ref a_match, .ref a_couples, .ref a_passing, .ref a_longRows])), (a_scene, .inr (7, [.ref a_scene_steps, .ref a_scene_worths, .ref a_scene_comers, .ref a_scene_seen, .ref a_scene_seenLengths, .int v_scene_seats, .int v_scene_bear, .int v_scene_comerCount, .int v_scene_seenRows])), (a_sitters, .inr (9, [.ref a_bench, .ref a_sitters_nearest, .int u4.1, .int u4.2.1])), (a_bench, .inr (0, [.ref a_scene, .ref a_bench_apart, .ref a_bench_clash, .ref a_bench_neighbours])), (a_sitters_nearest, eI cI 12 u4.2.2), (a_scene_seenLengths, eI cI 8 u7.2.1), (a_scene_seen, eI cI 96 u7.2.2), (a_bench_apart, eI cI 144 v_bench_apart)] H → va_S A s.heap H locs → lv_has ls 3 [] → W p l e { frames := 3, cells := 0, slots := 0, locals := 66 } s m args below meth c H locs 0 0 Q (F0 m 78 ls [.int w8])) hf ?_ ?_
        · intro w8 hf H locs ls hP hS hl
          obtain rfl := Option.some.inj hf
          exact ret _ _ _ _ dX10_see_78 hP hS
        · intro J78_9 hf
          refine lv_if_eq (tgt := 76) hx hb dX10_see_61 (by decide) (fun c10 => ?_) (fun c10 => ?_)
          · have hf := ob_tk c10 hf
            refine lv_bipush (v := (-4)) hx hb dX10_see_76 (by decide) ?_
            exact J78_9 (-4 : Int32) hf _ _ _ hP hS (lv_sub hl [] rfl)
          · have hf := ob_fk c10 hf
            refine lv_aload_n hx hb dX10_see_64 rfl (lv_at hl 1 rfl) ?_
            refine gf_X10_19 Cx hP 0 rfl rfl dX10_see_65 ?_
            refine gf_X10_269 Cx hP 1 rfl rfl dX10_see_68 ?_
            refine lv_iload_n hx hb dX10_see_71 rfl (lv_at hl 0 rfl) ?_
            obtain ⟨u11, hu11, hf⟩ := ob_bk hf
            refine ba_iald Cx hP 5 rfl hu11 dX10_see_72 ?_
            refine lv_goto (tgt := 78) hx hb dX10_see_73 (by decide) ?_
            exact J78_9 u11 hf _ _ _ hP hS (lv_sub hl [] rfl)
      · have hf := ob_t c6 hf
        refine lv_bipush (v := (-5)) hx hb dX10_see_49 (by decide) ?_
        obtain rfl := Option.some.inj hf
        exact ret _ _ _ _ dX10_see_51 hP hS
    · have hf := ob_t c3 hf
      refine lv_bipush (v := (-3)) hx hb dX10_see_20 (by decide) ?_
      obtain rfl := Option.some.inj hf
      exact ret _ _ _ _ dX10_see_22 hP hS
  · have hf := ob_t c2 hf
    refine lv_iconst (v := (-1)) hx hb dX10_see_8 (by decide) ?_
    obtain rfl := Option.some.inj hf
    exact ret _ _ _ _ dX10_see_9 hP hS

def f_X10_firstMisfit_22 (v_scene_seats : Int32) (v_scene_seenLengths : Nat → Int32) (v_scene_seen : Nat → Int32) (v_scene_worths : Nat → Int32) (v_bench_neighbours : Nat → Int32) (v_bench_apart : Nat → Int32) (x1 : Int32) (y2_2 : Int32) (u3 : Int32 × Int32 × (Nat → Int32)) : Nat → Int32 → Int32 → (Nat → Int32) → Option ((Int32 × (Nat → Int32)) ⊕ (Int32 × Int32 × Int32 × (Nat → Int32)))
  | 0, _, _, _ => none
  | n + 1, y3_22, z_sitters_set_22, z_sitters_nearest_22 =>
  (aget 8 v_scene_seenLengths y2_2).bind (fun u5 =>
  if u5 ≤ y3_22 then
  some (Sum.inl (z_sitters_set_22, z_sitters_nearest_22))
  else
  (f_X7_seenSeat v_scene_seen y2_2 y3_22).bind (fun u7 =>
  (f_X9_choice u3.2.1 v_scene_seats z_sitters_nearest_22 v_scene_worths v_bench_neighbours x1).bind (fun u8 =>
  if u8 = u7 then
  (f_X9_sit z_sitters_set_22 v_scene_seats z_sitters_nearest_22 v_bench_apart u7).bind (fun u10 =>
  f_X10_firstMisfit_22 v_scene_seats v_scene_seenLengths v_scene_seen v_scene_worths v_bench_neighbours v_bench_apart x1 y2_2 u3 n (y3_22 + 1) u10.1 u10.2)
  else
  some (Sum.inr ((((100 : Int32) * y2_2) + y3_22), z_sitters_set_22, u3.2.1, z_sitters_nearest_22)))))
theorem f_X10_firstMisfit_22_s (v_scene_seats : Int32) (v_scene_seenLengths : Nat → Int32) (v_scene_seen : Nat → Int32) (v_scene_worths : Nat → Int32) (v_bench_neighbours : Nat → Int32) (v_bench_apart : Nat → Int32) (x1 : Int32) (y2_2 : Int32) (u3 : Int32 × Int32 × (Nat → Int32)) (n : Nat) (y3_22 : Int32) (z_sitters_set_22 : Int32) (z_sitters_nearest_22 : Nat → Int32) : f_X10_firstMisfit_22 v_scene_seats v_scene_seenLengths v_scene_seen v_scene_worths v_bench_neighbours v_bench_apart x1 y2_2 u3 (n + 1) y3_22 z_sitters_set_22 z_sitters_nearest_22 =
  ((aget 8 v_scene_seenLengths y2_2).bind (fun u5 =>
  if u5 ≤ y3_22 then
  some (Sum.inl (z_sitters_set_22, z_sitters_nearest_22))
  else
  (f_X7_seenSeat v_scene_seen y2_2 y3_22).bind (fun u7 =>
  (f_X9_choice u3.2.1 v_scene_seats z_sitters_nearest_22 v_scene_worths v_bench_neighbours x1).bind (fun u8 =>
  if u8 = u7 then
  (f_X9_sit z_sitters_set_22 v_scene_seats z_sitters_nearest_22 v_bench_apart u7).bind (fun u10 =>
  f_X10_firstMisfit_22 v_scene_seats v_scene_seenLengths v_scene_seen v_scene_worths v_bench_neighbours v_bench_apart x1 y2_2 u3 n (y3_22 + 1) u10.1 u10.2)
  else
  some (Sum.inr ((((100 : Int32) * y2_2) + y3_22), z_sitters_set_22, u3.2.1, z_sitters_nearest_22)))))) := rfl
def f_X10_firstMisfit_2 (v_scene_seats : Int32) (v_scene_bear : Int32) (v_scene_seenRows : Int32) (v_scene_seenLengths : Nat → Int32) (v_scene_seen : Nat → Int32) (v_scene_worths : Nat → Int32) (v_bench_neighbours : Nat → Int32) (v_bench_apart : Nat → Int32) (x1 : Int32) : Nat → Int32 → Int32 → Int32 → (Nat → Int32) → Option ((Int32 × Int32 × (Nat → Int32)) ⊕ (Int32 × Int32 × Int32 × (Nat → Int32)))
  | 0, _, _, _, _ => none
  | n + 1, y2_2, z_sitters_set_2, z_sitters_bear_2, z_sitters_nearest_2 =>
  if v_scene_seenRows ≤ y2_2 then
  some (Sum.inl (z_sitters_set_2, z_sitters_bear_2, z_sitters_nearest_2))
  else
  (f_X9_leave v_scene_bear z_sitters_nearest_2).bind (fun u3 =>
  (f_X10_firstMisfit_22 v_scene_seats v_scene_seenLengths v_scene_seen v_scene_worths v_bench_neighbours v_bench_apart x1 y2_2 u3 FU (0 : Int32) u3.1 u3.2.2).bind (fun u11 => Sum.elim (fun w12 =>
  f_X10_firstMisfit_2 v_scene_seats v_scene_bear v_scene_seenRows v_scene_seenLengths v_scene_seen v_scene_worths v_bench_neighbours v_bench_apart x1 n (y2_2 + 1) w12.1 u3.2.1 w12.2) (fun r => some (Sum.inr r)) u11))
theorem f_X10_firstMisfit_2_s (v_scene_seats : Int32) (v_scene_bear : Int32) (v_scene_seenRows : Int32) (v_scene_seenLengths : Nat → Int32) (v_scene_seen : Nat → Int32) (v_scene_worths : Nat → Int32) (v_bench_neighbours : Nat → Int32) (v_bench_apart : Nat → Int32) (x1 : Int32) (n : Nat) (y2_2 : Int32) (z_sitters_set_2 : Int32) (z_sitters_bear_2 : Int32) (z_sitters_nearest_2 : Nat → Int32) : f_X10_firstMisfit_2 v_scene_seats v_scene_bear v_scene_seenRows v_scene_seenLengths v_scene_seen v_scene_worths v_bench_neighbours v_bench_apart x1 (n + 1) y2_2 z_sitters_set_2 z_sitters_bear_2 z_sitters_nearest_2 =
  (if v_scene_seenRows ≤ y2_2 then
  some (Sum.inl (z_sitters_set_2, z_sitters_bear_2, z_sitters_nearest_2))
  else
  (f_X9_leave v_scene_bear z_sitters_nearest_2).bind (fun u3 =>
  (f_X10_firstMisfit_22 v_scene_seats v_scene_seenLengths v_scene_seen v_scene_worths v_bench_neighbours v_bench_apart x1 y2_2 u3 FU (0 : Int32) u3.1 u3.2.2).bind (fun u11 => Sum.elim (fun w12 =>
  f_X10_firstMisfit_2 v_scene_seats v_scene_bear v_scene_seenRows v_scene_seenLengths v_scene_seen v_scene_worths v_bench_neighbours v_bench_apart x1 n (y2_2 + 1) w12.1 u3.2.1 w12.2) (fun r => some (Sum.inr r)) u11))) := rfl
def f_X10_firstMisfit (v_scene_seats : Int32) (v_scene_bear : Int32) (v_scene_seenRows : Int32) (v_sitters_set : Int32) (v_sitters_bear : Int32) (v_sitters_nearest : Nat → Int32) (v_scene_seenLengths : Nat → Int32) (v_scene_seen : Nat → Int32) (v_scene_worths : Nat → Int32) (v_bench_neighbours : Nat → Int32) (v_bench_apart : Nat → Int32) (x1 : Int32) : Option (Int32 × Int32 × Int32 × (Nat → Int32)) :=
  (f_X10_firstMisfit_2 v_scene_seats v_scene_bear v_scene_seenRows v_scene_seenLengths v_scene_seen v_scene_worths v_bench_neighbours v_bench_apart x1 FU (0 : Int32) v_sitters_set v_sitters_bear v_sitters_nearest).bind (fun u13 => Sum.elim (fun w14 =>
  some ((-6 : Int32), w14.1, w14.2.1, w14.2.2)) (fun r => some r) u13)
set_option maxHeartbeats 4000000 in
set_option maxRecDepth 100000 in
theorem c_X10_firstMisfit (l : Launch) (D : va_G) (cI cJ cZ cO : ClassId) (a_t a_pad a_scene a_images a_bench a_trial a_sitters a_trialSitters a_sets a_census a_match a_couples a_passing a_longRows a_scene_steps a_scene_worths a_scene_comers a_scene_seen a_scene_seenLengths a_sitters_nearest a_bench_apart a_bench_clash a_bench_neighbours : Nat) (v_scene_seats : Int32) (v_scene_bear : Int32) (v_scene_comerCount : Int32) (v_scene_seenRows : Int32) (v_sitters_set : Int32) (v_sitters_bear : Int32) (v_sitters_nearest : Nat → Int32) (v_scene_seenLengths : Nat → Int32) (v_scene_seen : Nat → Int32) (v_scene_worths : Nat → Int32) (v_bench_neighbours : Nat → Int32) (v_bench_apart : Nat → Int32) (x1 : Int32) (out : Int32 × Int32 × Int32 × (Nat → Int32)) (hf : f_X10_firstMisfit v_scene_seats v_scene_bear v_scene_seenRows v_sitters_set v_sitters_bear v_sitters_nearest v_scene_seenLengths v_scene_seen v_scene_worths v_bench_neighbours v_bench_apart x1 = some out) : MetR l yX10_firstMisfit (Cond.code yX10_firstMisfit cX10_firstMisfit 5 (some .int) :: tbG) { frames := 2, cells := 0, slots := 0, locals := 47 } D (tyL cI cJ cZ cO) [.ref a_t, .int x1] [(a_t, .inr (10, [.ref a_pad, .ref a_scene, .ref a_images, .ref a_bench, .ref a_trial, .ref a_sitters, .ref a_trialSitters, .ref a_sets, .ref a_census, .ref a_match, .ref a_couples, .ref a_passing, .ref a_longRows])), (a_scene, .inr (7, [.ref a_scene_steps, .ref a_scene_worths, .ref a_scene_comers, .ref a_scene_seen, .ref a_scene_seenLengths, .int v_scene_seats, .int v_scene_bear, .int v_scene_comerCount, .int v_scene_seenRows])), (a_sitters, .inr (9, [.ref a_bench, .ref a_sitters_nearest, .int v_sitters_set, .int v_sitters_bear])), (a_bench, .inr (0, [.ref a_scene, .ref a_bench_apart, .ref a_bench_clash, .ref a_bench_neighbours])), (a_sitters_nearest, eI cI 12 v_sitters_nearest), (a_scene_seenLengths, eI cI 8 v_scene_seenLengths), (a_scene_seen, eI cI 96 v_scene_seen), (a_scene_worths, eI cI 12 v_scene_worths), (a_bench_neighbours, eI cI 12 v_bench_neighbours), (a_bench_apart, eI cI 144 v_bench_apart)] (some (.int out.1)) [(a_t, .inr (10, [.ref a_pad, .ref a_scene, .ref a_images, .ref a_bench, .ref a_trial, .ref a_sitters, .ref a_trialSitters, .ref a_sets, .ref a_census, .ref a_match, .ref a_couples, .ref a_passing, .ref a_longRows])), (a_scene, .inr (7, [.ref a_scene_steps, .ref a_scene_worths, .ref a_scene_comers, .ref a_scene_seen, .ref a_scene_seenLengths, .int v_scene_seats, .int v_scene_bear, .int v_scene_comerCount, .int v_scene_seenRows])), (a_sitters, .inr (9, [.ref a_bench, .ref a_sitters_nearest, .int out.2.1, .int out.2.2.1])), (a_bench, .inr (0, [.ref a_scene, .ref a_bench_apart, .ref a_bench_clash, .ref a_bench_neighbours])), (a_sitters_nearest, eI cI 12 out.2.2.2), (a_scene_seenLengths, eI cI 8 v_scene_seenLengths), (a_scene_seen, eI cI 96 v_scene_seen), (a_scene_worths, eI cI 12 v_scene_worths), (a_bench_neighbours, eI cI 12 v_bench_neighbours), (a_bench_apart, eI cI 144 v_bench_apart)] := by
  refine ba_ofI RX10 [(0, .ref a_t), (1, .int x1)] (by decide +kernel) rfl (Nat.le_of_ble_eq_true rfl) rfl ?_
  intro p e s m args below meth c Q A Cx hP ret ls hl
  obtain ⟨⟨hx, hb, hml, hown, hts⟩, hK, hD, hA⟩ := id Cx
  have hS : va_S A s.heap s.heap [] := va_S.rf
  unfold f_X10_firstMisfit at hf
  refine lv_iconst (v := 0) hx hb dX10_firstMisfit_0 (by decide) ?_
  refine lv_istore_n (lv' := [(2, .int (0 : Int32)), (0, .ref a_t), (1, .int x1)]) hx hb dX10_firstMisfit_1 rfl hl (by decide) rfl (fun ls hl => ?_)
  have L2_1 : ∀ (n : Nat) (y2_2 : Int32) (z_sitters_set_2 : Int32) (z_sitters_bear_2 : Int32) (z_sitters_nearest_2 : Nat → Int32) (o : (Int32 × Int32 × (Nat → Int32)) ⊕ (Int32 × Int32 × Int32 × (Nat → Int32))) (H : Heap) (locs : List Loc) (ls : Array Slot), f_X10_firstMisfit_2 v_scene_seats v_scene_bear v_scene_seenRows v_scene_seenLengths v_scene_seen v_scene_worths v_bench_neighbours v_bench_apart x1 n y2_2 z_sitters_set_2 z_sitters_bear_2 z_sitters_nearest_2 = some o → va_P D vwCl [(a_t, .inr (10, [.ref a_pad, .ref a_scene, .ref a_images, .ref a_bench, .ref a_trial, .ref a_sitters, .ref a_trialSitters, .ref a_sets, .ref a_census, .ref a_match, .ref a_couples, .ref a_passing, .ref a_longRows])), (a_scene, .inr (7, [.ref a_scene_steps, .ref a_scene_worths, .ref a_scene_comers, .ref a_scene_seen, .ref a_scene_seenLengths, .int v_scene_seats, .int v_scene_bear, .int v_scene_comerCount, .int v_scene_seenRows])), (a_sitters, .inr (9, [.ref a_bench, .ref a_sitters_nearest, .int z_sitters_set_2, .int z_sitters_bear_2])), (a_bench, .inr (0, [.ref a_scene, .ref a_bench_apart, .ref a_bench_clash, .ref a_bench_neighbours])), (a_sitters_nearest, eI cI 12 z_sitters_nearest_2), (a_scene_seenLengths, eI cI 8 v_scene_seenLengths), (a_scene_seen, eI cI 96 v_scene_seen), (a_scene_worths, eI cI 12 v_scene_worths), (a_bench_neighbours, eI cI 12 v_bench_neighbours), (a_bench_apart, eI cI 144 v_bench_apart)] H → va_S A s.heap H locs → lv_has ls 5 [(0, .ref a_t), (1, .int x1), (2, .int y2_2)] → (∀ w, o = Sum.inl w → ∀ (H : Heap) (locs : List Loc) (ls : Array Slot), va_P D vwCl [(a_t, .inr (10, [.ref a_pad, .ref a_scene, .ref a_images, .ref a_bench, .ref a_trial, .ref a_sitters, .ref a_trialSitters, .ref a_sets, .ref a_census, .ref a_match, .ref a_couples, .ref a_passing, .ref a_longRows])), (a_scene, .inr (7, [.ref a_scene_steps, .ref a_scene_worths, .ref a_scene_comers, .ref a_scene_seen, .ref a_scene_seenLengths, .int v_scene_seats, .int v_scene_bear, .int v_scene_comerCount, .int v_scene_seenRows])), (a_sitters, .inr (9, [.ref a_bench, .ref a_sitters_nearest, .int w.1, .int w.2.1])), (a_bench, .inr (0, [.ref a_scene, .ref a_bench_apart, .ref a_bench_clash, .ref a_bench_neighbours])), (a_sitters_nearest, eI cI 12 w.2.2), (a_scene_seenLengths, eI cI 8 v_scene_seenLengths), (a_scene_seen, eI cI 96 v_scene_seen), (a_scene_worths, eI cI 12 v_scene_worths), (a_bench_neighbours, eI cI 12 v_bench_neighbours), (a_bench_apart, eI cI 144 v_bench_apart)] H → va_S A s.heap H locs → lv_has ls 5 [] → W p l e { frames := 2, cells := 0, slots := 0, locals := 47 } s m args below meth c H locs 0 0 Q (F0 m 87 ls [])) → (∀ r, o = Sum.inr r → ∀ (pc : Nat) (H : Heap) (locs : List Loc) (ls : Array Slot), decode cX10_firstMisfit pc = .ok (.ireturn, 1) → va_P D vwCl [(a_t, .inr (10, [.ref a_pad, .ref a_scene, .ref a_images, .ref a_bench, .ref a_trial, .ref a_sitters, .ref a_trialSitters, .ref a_sets, .ref a_census, .ref a_match, .ref a_couples, .ref a_passing, .ref a_longRows])), (a_scene, .inr (7, [.ref a_scene_steps, .ref a_scene_worths, .ref a_scene_comers, .ref a_scene_seen, .ref a_scene_seenLengths, .int v_scene_seats, .int v_scene_bear, .int v_scene_comerCount, .int v_scene_seenRows])), (a_sitters, .inr (9, [.ref a_bench, .ref a_sitters_nearest, .int r.2.1, .int r.2.2.1])), (a_bench, .inr (0, [.ref a_scene, .ref a_bench_apart, .ref a_bench_clash, .ref a_bench_neighbours])), (a_sitters_nearest, eI cI 12 r.2.2.2), (a_scene_seenLengths, eI cI 8 v_scene_seenLengths), (a_scene_seen, eI cI 96 v_scene_seen), (a_scene_worths, eI cI 12 v_scene_worths), (a_bench_neighbours, eI cI 12 v_bench_neighbours), (a_bench_apart, eI cI 144 v_bench_apart)] H → va_S A s.heap H locs → W p l e { frames := 2, cells := 0, slots := 0, locals := 47 } s m args below meth c H locs 0 0 Q (F0 m pc ls [.int r.1])) → W p l e { frames := 2, cells := 0, slots := 0, locals := 47 } s m args below meth c H locs 0 0 Q (F0 m 2 ls []) := by
    intro n
    induction n with
    | zero => intro y2_2 z_sitters_set_2 z_sitters_bear_2 z_sitters_nearest_2 o H locs ls hf; exact (ob_n hf).elim
    | succ n ih =>
      intro y2_2 z_sitters_set_2 z_sitters_bear_2 z_sitters_nearest_2 o H locs ls hf hP hS hl kk kr
      rw [f_X10_firstMisfit_2_s] at hf
      refine lv_iload_n hx hb dX10_firstMisfit_2 rfl (lv_at hl 2 rfl) ?_
      refine lv_aload_n hx hb dX10_firstMisfit_3 rfl (lv_at hl 0 rfl) ?_
      refine gf_X10_19 Cx hP 0 rfl rfl dX10_firstMisfit_4 ?_
      refine gf_X10_135 Cx hP 1 rfl rfl dX10_firstMisfit_7 ?_
      refine lv_icmp_ge (tgt := 87) hx hb dX10_firstMisfit_10 (by decide) (fun c2 => ?_) (fun c2 => ?_)
      · have hf := ob_t c2 hf
        obtain rfl := Option.some.inj hf
        exact kk _ rfl _ _ _ hP hS (lv_sub hl [] rfl)
      · have hf := ob_f c2 hf
        refine lv_aload_n hx hb dX10_firstMisfit_13 rfl (lv_at hl 0 rfl) ?_
        refine gf_X10_44 Cx hP 0 rfl rfl dX10_firstMisfit_14 ?_
        obtain ⟨u3, hu3, hf⟩ := ob_b hf
        refine iv_X10_228 (As := []) (rest := []) (is := [2, 3, 1, 4]) (q0 := 2) (X' := [(a_t, .inr (10, [.ref a_pad, .ref a_scene, .ref a_images, .ref a_bench, .ref a_trial, .ref a_sitters, .ref a_trialSitters, .ref a_sets, .ref a_census, .ref a_match, .ref a_couples, .ref a_passing, .ref a_longRows])), (a_scene, .inr (7, [.ref a_scene_steps, .ref a_scene_worths, .ref a_scene_comers, .ref a_scene_seen, .ref a_scene_seenLengths, .int v_scene_seats, .int v_scene_bear, .int v_scene_comerCount, .int v_scene_seenRows])), (a_sitters, .inr (9, [.ref a_bench, .ref a_sitters_nearest, .int u3.1, .int u3.2.1])), (a_bench, .inr (0, [.ref a_scene, .ref a_bench_apart, .ref a_bench_clash, .ref a_bench_neighbours])), (a_sitters_nearest, eI cI 12 u3.2.2), (a_scene_seenLengths, eI cI 8 v_scene_seenLengths), (a_scene_seen, eI cI 96 v_scene_seen), (a_scene_worths, eI cI 12 v_scene_worths), (a_bench_neighbours, eI cI 12 v_bench_neighbours), (a_bench_apart, eI cI 144 v_bench_apart)]) Cx (c_X9_leave l D cI cJ cZ cO a_sitters a_bench a_sitters_nearest a_scene a_bench_apart a_bench_clash a_bench_neighbours a_scene_steps a_scene_worths a_scene_comers a_scene_seen a_scene_seenLengths z_sitters_set_2 z_sitters_bear_2 v_scene_seats v_scene_bear v_scene_comerCount v_scene_seenRows z_sitters_nearest_2 u3 hu3) hP hS rfl rfl rfl rfl rfl rfl rfl hl.1 (Nat.le_of_ble_eq_true rfl) dX10_firstMisfit_17 rfl rfl ⟨Nat.le_of_ble_eq_true rfl, Nat.le_of_ble_eq_true rfl⟩ ⟨Nat.zero_le _, Nat.zero_le _⟩ rfl (fun H locs hP hS => ?_)
        refine lv_iconst (v := 0) hx hb dX10_firstMisfit_20 (by decide) ?_
        refine lv_istore_n (lv' := [(3, .int (0 : Int32)), (0, .ref a_t), (1, .int x1), (2, .int y2_2)]) hx hb dX10_firstMisfit_21 rfl hl (by decide) rfl (fun ls hl => ?_)
        have L22_4 : ∀ (n : Nat) (y3_22 : Int32) (z_sitters_set_22 : Int32) (z_sitters_nearest_22 : Nat → Int32) (o : (Int32 × (Nat → Int32)) ⊕ (Int32 × Int32 × Int32 × (Nat → Int32))) (H : Heap) (locs : List Loc) (ls : Array Slot), f_X10_firstMisfit_22 v_scene_seats v_scene_seenLengths v_scene_seen v_scene_worths v_bench_neighbours v_bench_apart x1 y2_2 u3 n y3_22 z_sitters_set_22 z_sitters_nearest_22 = some o → va_P D vwCl [(a_t, .inr (10, [.ref a_pad, .ref a_scene, .ref a_images, .ref a_bench, .ref a_trial, .ref a_sitters, .ref a_trialSitters, .ref a_sets, .ref a_census, .ref a_match, .ref a_couples, .ref a_passing, .ref a_longRows])), (a_scene, .inr (7, [.ref a_scene_steps, .ref a_scene_worths, .ref a_scene_comers, .ref a_scene_seen, .ref a_scene_seenLengths, .int v_scene_seats, .int v_scene_bear, .int v_scene_comerCount, .int v_scene_seenRows])), (a_sitters, .inr (9, [.ref a_bench, .ref a_sitters_nearest, .int z_sitters_set_22, .int u3.2.1])), (a_bench, .inr (0, [.ref a_scene, .ref a_bench_apart, .ref a_bench_clash, .ref a_bench_neighbours])), (a_sitters_nearest, eI cI 12 z_sitters_nearest_22), (a_scene_seenLengths, eI cI 8 v_scene_seenLengths), (a_scene_seen, eI cI 96 v_scene_seen), (a_scene_worths, eI cI 12 v_scene_worths), (a_bench_neighbours, eI cI 12 v_bench_neighbours), (a_bench_apart, eI cI 144 v_bench_apart)] H → va_S A s.heap H locs → lv_has ls 5 [(0, .ref a_t), (1, .int x1), (2, .int y2_2), (3, .int y3_22)] → (∀ w, o = Sum.inl w → ∀ (H : Heap) (locs : List Loc) (ls : Array Slot), va_P D vwCl [(a_t, .inr (10, [.ref a_pad, .ref a_scene, .ref a_images, .ref a_bench, .ref a_trial, .ref a_sitters, .ref a_trialSitters, .ref a_sets, .ref a_census, .ref a_match, .ref a_couples, .ref a_passing, .ref a_longRows])), (a_scene, .inr (7, [.ref a_scene_steps, .ref a_scene_worths, .ref a_scene_comers, .ref a_scene_seen, .ref a_scene_seenLengths, .int v_scene_seats, .int v_scene_bear, .int v_scene_comerCount, .int v_scene_seenRows])), (a_sitters, .inr (9, [.ref a_bench, .ref a_sitters_nearest, .int w.1, .int u3.2.1])), (a_bench, .inr (0, [.ref a_scene, .ref a_bench_apart, .ref a_bench_clash, .ref a_bench_neighbours])), (a_sitters_nearest, eI cI 12 w.2), (a_scene_seenLengths, eI cI 8 v_scene_seenLengths), (a_scene_seen, eI cI 96 v_scene_seen), (a_scene_worths, eI cI 12 v_scene_worths), (a_bench_neighbours, eI cI 12 v_bench_neighbours), (a_bench_apart, eI cI 144 v_bench_apart)] H → va_S A s.heap H locs → lv_has ls 5 [(0, .ref a_t), (1, .int x1), (2, .int y2_2)] → W p l e { frames := 2, cells := 0, slots := 0, locals := 47 } s m args below meth c H locs 0 0 Q (F0 m 81 ls [])) → (∀ r, o = Sum.inr r → ∀ (pc : Nat) (H : Heap) (locs : List Loc) (ls : Array Slot), decode cX10_firstMisfit pc = .ok (.ireturn, 1) → va_P D vwCl [(a_t, .inr (10, [.ref a_pad, .ref a_scene, .ref a_images, .ref a_bench, .ref a_trial, .ref a_sitters, .ref a_trialSitters, .ref a_sets, .ref a_census, .ref a_match, .ref a_couples, .ref a_passing, .ref a_longRows])), (a_scene, .inr (7, [.ref a_scene_steps, .ref a_scene_worths, .ref a_scene_comers, .ref a_scene_seen, .ref a_scene_seenLengths, .int v_scene_seats, .int v_scene_bear, .int v_scene_comerCount, .int v_scene_seenRows])), (a_sitters, .inr (9, [.ref a_bench, .ref a_sitters_nearest, .int r.2.1, .int r.2.2.1])), (a_bench, .inr (0, [.ref a_scene, .ref a_bench_apart, .ref a_bench_clash, .ref a_bench_neighbours])), (a_sitters_nearest, eI cI 12 r.2.2.2), (a_scene_seenLengths, eI cI 8 v_scene_seenLengths), (a_scene_seen, eI cI 96 v_scene_seen), (a_scene_worths, eI cI 12 v_scene_worths), (a_bench_neighbours, eI cI 12 v_bench_neighbours), (a_bench_apart, eI cI 144 v_bench_apart)] H → va_S A s.heap H locs → W p l e { frames := 2, cells := 0, slots := 0, locals := 47 } s m args below meth c H locs 0 0 Q (F0 m pc ls [.int r.1])) → W p l e { frames := 2, cells := 0, slots := 0, locals := 47 } s m args below meth c H locs 0 0 Q (F0 m 22 ls []) := by
          intro n
          induction n with
          | zero => intro y3_22 z_sitters_set_22 z_sitters_nearest_22 o H locs ls hf; exact (ob_n hf).elim
          | succ n ih =>
            intro y3_22 z_sitters_set_22 z_sitters_nearest_22 o H locs ls hf hP hS hl kk kr
            rw [f_X10_firstMisfit_22_s] at hf
            refine lv_iload_n hx hb dX10_firstMisfit_22 rfl (lv_at hl 3 rfl) ?_
            refine lv_aload_n hx hb dX10_firstMisfit_23 rfl (lv_at hl 0 rfl) ?_
            refine gf_X10_19 Cx hP 0 rfl rfl dX10_firstMisfit_24 ?_
            refine gf_X10_269 Cx hP 1 rfl rfl dX10_firstMisfit_27 ?_
            refine lv_iload_n hx hb dX10_firstMisfit_30 rfl (lv_at hl 2 rfl) ?_
            obtain ⟨u5, hu5, hf⟩ := ob_b hf
            refine ba_iald Cx hP 5 rfl hu5 dX10_firstMisfit_31 ?_
            refine lv_icmp_ge (tgt := 81) hx hb dX10_firstMisfit_32 (by decide) (fun c6 => ?_) (fun c6 => ?_)
            · have hf := ob_t c6 hf
              obtain rfl := Option.some.inj hf
              exact kk _ rfl _ _ _ hP hS (lv_sub hl [0, 1, 2] rfl)
            · have hf := ob_f c6 hf
              refine lv_aload_n hx hb dX10_firstMisfit_35 rfl (lv_at hl 0 rfl) ?_
              refine gf_X10_19 Cx hP 0 rfl rfl dX10_firstMisfit_36 ?_
              refine lv_iload_n hx hb dX10_firstMisfit_39 rfl (lv_at hl 2 rfl) ?_
              refine lv_iload_n hx hb dX10_firstMisfit_40 rfl (lv_at hl 3 rfl) ?_
              obtain ⟨u7, hu7, hf⟩ := ob_b hf
              refine iv_X10_316 (As := [.int y2_2, .int y3_22]) (rest := []) (is := [1, 6]) (q0 := 1) (X' := [(a_t, .inr (10, [.ref a_pad, .ref a_scene, .ref a_images, .ref a_bench, .ref a_trial, .ref a_sitters, .ref a_trialSitters, .ref a_sets, .ref a_census, .ref a_match, .ref a_couples, .ref a_passing, .ref a_longRows])), (a_scene, .inr (7, [.ref a_scene_steps, .ref a_scene_worths, .ref a_scene_comers, .ref a_scene_seen, .ref a_scene_seenLengths, .int v_scene_seats, .int v_scene_bear, .int v_scene_comerCount, .int v_scene_seenRows])), (a_sitters, .inr (9, [.ref a_bench, .ref a_sitters_nearest, .int z_sitters_set_22, .int u3.2.1])), (a_bench, .inr (0, [.ref a_scene, .ref a_bench_apart, .ref a_bench_clash, .ref a_bench_neighbours])), (a_sitters_nearest, eI cI 12 z_sitters_nearest_22), (a_scene_seenLengths, eI cI 8 v_scene_seenLengths), (a_scene_seen, eI cI 96 v_scene_seen), (a_scene_worths, eI cI 12 v_scene_worths), (a_bench_neighbours, eI cI 12 v_bench_neighbours), (a_bench_apart, eI cI 144 v_bench_apart)]) Cx (c_X7_seenSeat l D cI cJ cZ cO a_scene a_scene_steps a_scene_worths a_scene_comers a_scene_seen a_scene_seenLengths v_scene_seats v_scene_bear v_scene_comerCount v_scene_seenRows v_scene_seen y2_2 y3_22 u7 hu7) hP hS rfl rfl rfl rfl rfl rfl rfl hl.1 (Nat.le_of_ble_eq_true rfl) dX10_firstMisfit_41 rfl rfl ⟨Nat.le_of_ble_eq_true rfl, Nat.le_of_ble_eq_true rfl⟩ ⟨Nat.zero_le _, Nat.zero_le _⟩ rfl (fun H locs hP hS => ?_)
              refine lv_istore (lv' := [(4, .int u7), (0, .ref a_t), (1, .int x1), (2, .int y2_2), (3, .int y3_22)]) hx hb dX10_firstMisfit_44 hl (by decide) rfl (fun ls hl => ?_)
              refine lv_aload_n hx hb dX10_firstMisfit_46 rfl (lv_at hl 1 rfl) ?_
              refine gf_X10_44 Cx hP 0 rfl rfl dX10_firstMisfit_47 ?_
              refine lv_iload_n hx hb dX10_firstMisfit_50 rfl (lv_at hl 2 rfl) ?_
              obtain ⟨u8, hu8, hf⟩ := ob_b hf
              refine iv_X10_161 (As := [.int x1]) (rest := []) (is := [2, 3, 1, 4, 7, 8]) (q0 := 2) (X' := [(a_t, .inr (10, [.ref a_pad, .ref a_scene, .ref a_images, .ref a_bench, .ref a_trial, .ref a_sitters, .ref a_trialSitters, .ref a_sets, .ref a_census, .ref a_match, .ref a_couples, .ref a_passing, .ref a_longRows])), (a_scene, .inr (7, [.ref a_scene_steps, .ref a_scene_worths, .ref a_scene_comers, .ref a_scene_seen, .ref a_scene_seenLengths, .int v_scene_seats, .int v_scene_bear, .int v_scene_comerCount, .int v_scene_seenRows])), (a_sitters, .inr (9, [.ref a_bench, .ref a_sitters_nearest, .int z_sitters_set_22, .int u3.2.1])), (a_bench, .inr (0, [.ref a_scene, .ref a_bench_apart, .ref a_bench_clash, .ref a_bench_neighbours])), (a_sitters_nearest, eI cI 12 z_sitters_nearest_22), (a_scene_seenLengths, eI cI 8 v_scene_seenLengths), (a_scene_seen, eI cI 96 v_scene_seen), (a_scene_worths, eI cI 12 v_scene_worths), (a_bench_neighbours, eI cI 12 v_bench_neighbours), (a_bench_apart, eI cI 144 v_bench_apart)]) Cx (c_X9_choice l D cI cJ cZ cO a_sitters a_bench a_sitters_nearest a_scene a_bench_apart a_bench_clash a_bench_neighbours a_scene_steps a_scene_worths a_scene_comers a_scene_seen a_scene_seenLengths z_sitters_set_22 u3.2.1 v_scene_seats v_scene_bear v_scene_comerCount v_scene_seenRows z_sitters_nearest_22 v_scene_worths v_bench_neighbours x1 u8 hu8) hP hS rfl rfl rfl rfl rfl rfl rfl hl.1 (Nat.le_of_ble_eq_true rfl) dX10_firstMisfit_51 rfl rfl ⟨Nat.le_of_ble_eq_true rfl, Nat.le_of_ble_eq_true rfl⟩ ⟨Nat.zero_le _, Nat.zero_le _⟩ rfl (fun H locs hP hS => ?_)
              refine lv_iload hx hb dX10_firstMisfit_54 (lv_at hl 0 rfl) ?_
              refine lv_icmp_eq (tgt := 66) hx hb dX10_firstMisfit_56 (by decide) (fun c9 => ?_) (fun c9 => ?_)
              · have hf := ob_t c9 hf
                refine lv_aload_n hx hb dX10_firstMisfit_66 rfl (lv_at hl 1 rfl) ?_
                refine gf_X10_44 Cx hP 0 rfl rfl dX10_firstMisfit_67 ?_
                refine lv_iload hx hb dX10_firstMisfit_70 (lv_at hl 0 rfl) ?_
                obtain ⟨u10, hu10, hf⟩ := ob_b hf
                refine iv_X10_266 (As := [.int u7]) (rest := []) (is := [2, 3, 1, 4, 9]) (q0 := 2) (X' := [(a_t, .inr (10, [.ref a_pad, .ref a_scene, .ref a_images, .ref a_bench, .ref a_trial, .ref a_sitters, .ref a_trialSitters, .ref a_sets, .ref a_census, .ref a_match, .ref a_couples, .ref a_passing, .ref a_longRows])), (a_scene, .inr (7, [.ref a_scene_steps, .ref a_scene_worths, .ref a_scene_comers, .ref a_scene_seen, .ref a_scene_seenLengths, .int v_scene_seats, .int v_scene_bear, .int v_scene_comerCount, .int v_scene_seenRows])), (a_sitters, .inr (9, [.ref a_bench, .ref a_sitters_nearest, .int u10.1, .int u3.2.1])), (a_bench, .inr (0, [.ref a_scene, .ref a_bench_apart, .ref a_bench_clash, .ref a_bench_neighbours])), (a_sitters_nearest, eI cI 12 u10.2), (a_scene_seenLengths, eI cI 8 v_scene_seenLengths), (a_scene_seen, eI cI 96 v_scene_seen), (a_scene_worths, eI cI 12 v_scene_worths), (a_bench_neighbours, eI cI 12 v_bench_neighbours), (a_bench_apart, eI cI 144 v_bench_apart)]) Cx (c_X9_sit l D cI cJ cZ cO a_sitters a_bench a_sitters_nearest a_scene a_bench_apart a_bench_clash a_bench_neighbours a_scene_steps a_scene_worths a_scene_comers a_scene_seen a_scene_seenLengths z_sitters_set_22 u3.2.1 v_scene_seats v_scene_bear v_scene_comerCount v_scene_seenRows z_sitters_nearest_22 v_bench_apart u7 u10 hu10) hP hS rfl rfl rfl rfl rfl rfl rfl hl.1 (Nat.le_of_ble_eq_true rfl) dX10_firstMisfit_72 rfl rfl ⟨Nat.le_of_ble_eq_true rfl, Nat.le_of_ble_eq_true rfl⟩ ⟨Nat.zero_le _, Nat.zero_le _⟩ rfl (fun H locs hP hS => ?_)
                refine lv_iinc (v := (y3_22 + 1)) (lv' := [(3, .int (y3_22 + 1)), (4, .int u7), (0, .ref a_t), (1, .int x1), (2, .int y2_2)]) hx hb dX10_firstMisfit_75 hl (k := 4) rfl rfl (by decide) rfl (fun ls hl => ?_)
                refine lv_goto (tgt := 22) hx hb dX10_firstMisfit_78 (by decide) ?_
                exact ih (y3_22 + 1) u10.1 u10.2 _ _ _ _ hf hP hS (lv_sub hl [2, 3, 4, 0] rfl) kk kr
              · have hf := ob_f c9 hf
                refine lv_bipush (v := 100) hx hb dX10_firstMisfit_59 (by decide) ?_
                refine lv_iload_n hx hb dX10_firstMisfit_61 rfl (lv_at hl 3 rfl) ?_
                refine lv_imul hx hb dX10_firstMisfit_62 ?_
                refine lv_iload_n hx hb dX10_firstMisfit_63 rfl (lv_at hl 4 rfl) ?_
                refine lv_iadd hx hb dX10_firstMisfit_64 ?_
                obtain rfl := Option.some.inj hf
                exact kr _ rfl _ _ _ _ dX10_firstMisfit_65 hP hS
        obtain ⟨u11, hu11, hf⟩ := ob_b hf
        refine L22_4 FU (0 : Int32) u3.1 u3.2.2 u11 _ _ _ hu11 hP hS (lv_sub hl [1, 2, 3, 0] rfl) ?_ ?_
        · intro w12 hw H locs ls hP hS hl
          rw [hw] at hf
          have hf := ob_l hf
          refine lv_iinc (v := (y2_2 + 1)) (lv' := [(2, .int (y2_2 + 1)), (0, .ref a_t), (1, .int x1)]) hx hb dX10_firstMisfit_81 hl (k := 2) rfl rfl (by decide) rfl (fun ls hl => ?_)
          refine lv_goto (tgt := 2) hx hb dX10_firstMisfit_84 (by decide) ?_
          exact ih (y2_2 + 1) w12.1 u3.2.1 w12.2 _ _ _ _ hf hP hS (lv_sub hl [1, 2, 0] rfl) kk kr
        · intro r hr pc H locs ls hd hP hS
          rw [hr] at hf
          have hf := ob_r hf
          obtain rfl := Option.some.inj hf
          exact kr _ rfl _ _ _ _ hd hP hS
  obtain ⟨u13, hu13, hf⟩ := ob_b hf
  refine L2_1 FU (0 : Int32) v_sitters_set v_sitters_bear v_sitters_nearest u13 _ _ _ hu13 hP hS (lv_sub hl [1, 2, 0] rfl) ?_ ?_
  · intro w14 hw H locs ls hP hS hl
    rw [hw] at hf
    have hf := ob_l hf
    refine lv_bipush (v := (-6)) hx hb dX10_firstMisfit_87 (by decide) ?_
    obtain rfl := Option.some.inj hf
    exact ret _ _ _ _ dX10_firstMisfit_89 hP hS
  · intro r hr pc H locs ls hd hP hS
    rw [hr] at hf
    have hf := ob_r hf
    obtain rfl := Option.some.inj hf
    exact ret _ _ _ _ hd hP hS

def f_X10_fits_4 (v_scene_seats : Int32) (v_scene_bear : Int32) (v_scene_seenRows : Int32) (v_scene_seenLengths : Nat → Int32) (v_scene_seen : Nat → Int32) (v_scene_worths : Nat → Int32) (v_bench_neighbours : Nat → Int32) (v_bench_apart : Nat → Int32) : Nat → Int32 → Int32 → Int32 → Int32 → (Nat → Int32) → Option (Int32 × Int32 × Int32 × (Nat → Int32))
  | 0, _, _, _, _, _ => none
  | n + 1, y1_4, y2_4, z_sitters_set_4, z_sitters_bear_4, z_sitters_nearest_4 =>
  if (6 : Int32) ≤ y2_4 then
  some (y1_4, z_sitters_set_4, z_sitters_bear_4, z_sitters_nearest_4)
  else
  (f_X10_firstMisfit v_scene_seats v_scene_bear v_scene_seenRows z_sitters_set_4 z_sitters_bear_4 z_sitters_nearest_4 v_scene_seenLengths v_scene_seen v_scene_worths v_bench_neighbours v_bench_apart y2_4).bind (fun u3 =>
  (if u3.1 = (-6 : Int32) then
  some (y1_4 ||| ((1 : Int32) <<< (y2_4 &&& 31)))
  else
  some (y1_4)).bind (fun w4 =>
  f_X10_fits_4 v_scene_seats v_scene_bear v_scene_seenRows v_scene_seenLengths v_scene_seen v_scene_worths v_bench_neighbours v_bench_apart n w4 (y2_4 + 1) u3.2.1 u3.2.2.1 u3.2.2.2))
theorem f_X10_fits_4_s (v_scene_seats : Int32) (v_scene_bear : Int32) (v_scene_seenRows : Int32) (v_scene_seenLengths : Nat → Int32) (v_scene_seen : Nat → Int32) (v_scene_worths : Nat → Int32) (v_bench_neighbours : Nat → Int32) (v_bench_apart : Nat → Int32) (n : Nat) (y1_4 : Int32) (y2_4 : Int32) (z_sitters_set_4 : Int32) (z_sitters_bear_4 : Int32) (z_sitters_nearest_4 : Nat → Int32) : f_X10_fits_4 v_scene_seats v_scene_bear v_scene_seenRows v_scene_seenLengths v_scene_seen v_scene_worths v_bench_neighbours v_bench_apart (n + 1) y1_4 y2_4 z_sitters_set_4 z_sitters_bear_4 z_sitters_nearest_4 =
  (if (6 : Int32) ≤ y2_4 then
  some (y1_4, z_sitters_set_4, z_sitters_bear_4, z_sitters_nearest_4)
  else
  (f_X10_firstMisfit v_scene_seats v_scene_bear v_scene_seenRows z_sitters_set_4 z_sitters_bear_4 z_sitters_nearest_4 v_scene_seenLengths v_scene_seen v_scene_worths v_bench_neighbours v_bench_apart y2_4).bind (fun u3 =>
  (if u3.1 = (-6 : Int32) then
  some (y1_4 ||| ((1 : Int32) <<< (y2_4 &&& 31)))
  else
  some (y1_4)).bind (fun w4 =>
  f_X10_fits_4 v_scene_seats v_scene_bear v_scene_seenRows v_scene_seenLengths v_scene_seen v_scene_worths v_bench_neighbours v_bench_apart n w4 (y2_4 + 1) u3.2.1 u3.2.2.1 u3.2.2.2))) := rfl
def f_X10_fits (v_scene_seats : Int32) (v_scene_bear : Int32) (v_scene_seenRows : Int32) (v_sitters_set : Int32) (v_sitters_bear : Int32) (v_sitters_nearest : Nat → Int32) (v_scene_seenLengths : Nat → Int32) (v_scene_seen : Nat → Int32) (v_scene_worths : Nat → Int32) (v_bench_neighbours : Nat → Int32) (v_bench_apart : Nat → Int32) : Option (Int32 × Int32 × Int32 × (Nat → Int32)) :=
  (f_X10_fits_4 v_scene_seats v_scene_bear v_scene_seenRows v_scene_seenLengths v_scene_seen v_scene_worths v_bench_neighbours v_bench_apart FU (0 : Int32) (0 : Int32) v_sitters_set v_sitters_bear v_sitters_nearest).bind (fun u7 =>
  some (u7.1, u7.2.1, u7.2.2.1, u7.2.2.2))
set_option maxHeartbeats 4000000 in
set_option maxRecDepth 100000 in
theorem c_X10_fits (l : Launch) (D : va_G) (cI cJ cZ cO : ClassId) (a_t a_pad a_scene a_images a_bench a_trial a_sitters a_trialSitters a_sets a_census a_match a_couples a_passing a_longRows a_scene_steps a_scene_worths a_scene_comers a_scene_seen a_scene_seenLengths a_sitters_nearest a_bench_apart a_bench_clash a_bench_neighbours : Nat) (v_scene_seats : Int32) (v_scene_bear : Int32) (v_scene_comerCount : Int32) (v_scene_seenRows : Int32) (v_sitters_set : Int32) (v_sitters_bear : Int32) (v_sitters_nearest : Nat → Int32) (v_scene_seenLengths : Nat → Int32) (v_scene_seen : Nat → Int32) (v_scene_worths : Nat → Int32) (v_bench_neighbours : Nat → Int32) (v_bench_apart : Nat → Int32) (out : Int32 × Int32 × Int32 × (Nat → Int32)) (hf : f_X10_fits v_scene_seats v_scene_bear v_scene_seenRows v_sitters_set v_sitters_bear v_sitters_nearest v_scene_seenLengths v_scene_seen v_scene_worths v_bench_neighbours v_bench_apart = some out) : MetR l yX10_fits (Cond.code yX10_fits cX10_fits 3 (some .int) :: tbG) { frames := 3, cells := 0, slots := 0, locals := 71 } D (tyL cI cJ cZ cO) [.ref a_t] [(a_t, .inr (10, [.ref a_pad, .ref a_scene, .ref a_images, .ref a_bench, .ref a_trial, .ref a_sitters, .ref a_trialSitters, .ref a_sets, .ref a_census, .ref a_match, .ref a_couples, .ref a_passing, .ref a_longRows])), (a_scene, .inr (7, [.ref a_scene_steps, .ref a_scene_worths, .ref a_scene_comers, .ref a_scene_seen, .ref a_scene_seenLengths, .int v_scene_seats, .int v_scene_bear, .int v_scene_comerCount, .int v_scene_seenRows])), (a_sitters, .inr (9, [.ref a_bench, .ref a_sitters_nearest, .int v_sitters_set, .int v_sitters_bear])), (a_bench, .inr (0, [.ref a_scene, .ref a_bench_apart, .ref a_bench_clash, .ref a_bench_neighbours])), (a_sitters_nearest, eI cI 12 v_sitters_nearest), (a_scene_seenLengths, eI cI 8 v_scene_seenLengths), (a_scene_seen, eI cI 96 v_scene_seen), (a_scene_worths, eI cI 12 v_scene_worths), (a_bench_neighbours, eI cI 12 v_bench_neighbours), (a_bench_apart, eI cI 144 v_bench_apart)] (some (.int out.1)) [(a_t, .inr (10, [.ref a_pad, .ref a_scene, .ref a_images, .ref a_bench, .ref a_trial, .ref a_sitters, .ref a_trialSitters, .ref a_sets, .ref a_census, .ref a_match, .ref a_couples, .ref a_passing, .ref a_longRows])), (a_scene, .inr (7, [.ref a_scene_steps, .ref a_scene_worths, .ref a_scene_comers, .ref a_scene_seen, .ref a_scene_seenLengths, .int v_scene_seats, .int v_scene_bear, .int v_scene_comerCount, .int v_scene_seenRows])), (a_sitters, .inr (9, [.ref a_bench, .ref a_sitters_nearest, .int out.2.1, .int out.2.2.1])), (a_bench, .inr (0, [.ref a_scene, .ref a_bench_apart, .ref a_bench_clash, .ref a_bench_neighbours])), (a_sitters_nearest, eI cI 12 out.2.2.2), (a_scene_seenLengths, eI cI 8 v_scene_seenLengths), (a_scene_seen, eI cI 96 v_scene_seen), (a_scene_worths, eI cI 12 v_scene_worths), (a_bench_neighbours, eI cI 12 v_bench_neighbours), (a_bench_apart, eI cI 144 v_bench_apart)] := by
  refine ba_ofI RX10 [(0, .ref a_t)] (by decide +kernel) rfl (Nat.le_of_ble_eq_true rfl) rfl ?_
  intro p e s m args below meth c Q A Cx hP ret ls hl
  obtain ⟨⟨hx, hb, hml, hown, hts⟩, hK, hD, hA⟩ := id Cx
  have hS : va_S A s.heap s.heap [] := va_S.rf
  unfold f_X10_fits at hf
  refine lv_iconst (v := 0) hx hb dX10_fits_0 (by decide) ?_
  refine lv_istore_n (lv' := [(1, .int (0 : Int32)), (0, .ref a_t)]) hx hb dX10_fits_1 rfl hl (by decide) rfl (fun ls hl => ?_)
  refine lv_iconst (v := 0) hx hb dX10_fits_2 (by decide) ?_
  refine lv_istore_n (lv' := [(2, .int (0 : Int32)), (1, .int (0 : Int32)), (0, .ref a_t)]) hx hb dX10_fits_3 rfl hl (by decide) rfl (fun ls hl => ?_)
  have L4_1 : ∀ (n : Nat) (y1_4 : Int32) (y2_4 : Int32) (z_sitters_set_4 : Int32) (z_sitters_bear_4 : Int32) (z_sitters_nearest_4 : Nat → Int32) (o : Int32 × Int32 × Int32 × (Nat → Int32)) (H : Heap) (locs : List Loc) (ls : Array Slot), f_X10_fits_4 v_scene_seats v_scene_bear v_scene_seenRows v_scene_seenLengths v_scene_seen v_scene_worths v_bench_neighbours v_bench_apart n y1_4 y2_4 z_sitters_set_4 z_sitters_bear_4 z_sitters_nearest_4 = some o → va_P D vwCl [(a_t, .inr (10, [.ref a_pad, .ref a_scene, .ref a_images, .ref a_bench, .ref a_trial, .ref a_sitters, .ref a_trialSitters, .ref a_sets, .ref a_census, .ref a_match, .ref a_couples, .ref a_passing, .ref a_longRows])), (a_scene, .inr (7, [.ref a_scene_steps, .ref a_scene_worths, .ref a_scene_comers, .ref a_scene_seen, .ref a_scene_seenLengths, .int v_scene_seats, .int v_scene_bear, .int v_scene_comerCount, .int v_scene_seenRows])), (a_sitters, .inr (9, [.ref a_bench, .ref a_sitters_nearest, .int z_sitters_set_4, .int z_sitters_bear_4])), (a_bench, .inr (0, [.ref a_scene, .ref a_bench_apart, .ref a_bench_clash, .ref a_bench_neighbours])), (a_sitters_nearest, eI cI 12 z_sitters_nearest_4), (a_scene_seenLengths, eI cI 8 v_scene_seenLengths), (a_scene_seen, eI cI 96 v_scene_seen), (a_scene_worths, eI cI 12 v_scene_worths), (a_bench_neighbours, eI cI 12 v_bench_neighbours), (a_bench_apart, eI cI 144 v_bench_apart)] H → va_S A s.heap H locs → lv_has ls 3 [(0, .ref a_t), (1, .int y1_4), (2, .int y2_4)] → (∀ (H : Heap) (locs : List Loc) (ls : Array Slot), va_P D vwCl [(a_t, .inr (10, [.ref a_pad, .ref a_scene, .ref a_images, .ref a_bench, .ref a_trial, .ref a_sitters, .ref a_trialSitters, .ref a_sets, .ref a_census, .ref a_match, .ref a_couples, .ref a_passing, .ref a_longRows])), (a_scene, .inr (7, [.ref a_scene_steps, .ref a_scene_worths, .ref a_scene_comers, .ref a_scene_seen, .ref a_scene_seenLengths, .int v_scene_seats, .int v_scene_bear, .int v_scene_comerCount, .int v_scene_seenRows])), (a_sitters, .inr (9, [.ref a_bench, .ref a_sitters_nearest, .int o.2.1, .int o.2.2.1])), (a_bench, .inr (0, [.ref a_scene, .ref a_bench_apart, .ref a_bench_clash, .ref a_bench_neighbours])), (a_sitters_nearest, eI cI 12 o.2.2.2), (a_scene_seenLengths, eI cI 8 v_scene_seenLengths), (a_scene_seen, eI cI 96 v_scene_seen), (a_scene_worths, eI cI 12 v_scene_worths), (a_bench_neighbours, eI cI 12 v_bench_neighbours), (a_bench_apart, eI cI 144 v_bench_apart)] H → va_S A s.heap H locs → lv_has ls 3 [(1, .int o.1)] → W p l e { frames := 3, cells := 0, slots := 0, locals := 71 } s m args below meth c H locs 0 0 Q (F0 m 32 ls [])) → W p l e { frames := 3, cells := 0, slots := 0, locals := 71 } s m args below meth c H locs 0 0 Q (F0 m 4 ls []) := by
    intro n
    induction n with
    | zero => intro y1_4 y2_4 z_sitters_set_4 z_sitters_bear_4 z_sitters_nearest_4 o H locs ls hf; exact (ob_n hf).elim
    | succ n ih =>
      intro y1_4 y2_4 z_sitters_set_4 z_sitters_bear_4 z_sitters_nearest_4 o H locs ls hf hP hS hl kk
      rw [f_X10_fits_4_s] at hf
      refine lv_iload_n hx hb dX10_fits_4 rfl (lv_at hl 2 rfl) ?_
      refine lv_bipush (v := 6) hx hb dX10_fits_5 (by decide) ?_
      refine lv_icmp_ge (tgt := 32) hx hb dX10_fits_7 (by decide) (fun c2 => ?_) (fun c2 => ?_)
      · have hf := ob_t c2 hf
        obtain rfl := Option.some.inj hf
        exact kk _ _ _ hP hS (lv_sub hl [1] rfl)
      · have hf := ob_f c2 hf
        refine lv_aload_n hx hb dX10_fits_10 rfl (lv_at hl 0 rfl) ?_
        refine lv_iload_n hx hb dX10_fits_11 rfl (lv_at hl 2 rfl) ?_
        obtain ⟨u3, hu3, hf⟩ := ob_b hf
        refine iv_X10_282 (As := [.int y2_4]) (rest := []) (is := [0, 1, 2, 3, 4, 5, 6, 7, 8, 9]) (q0 := 0) (X' := [(a_t, .inr (10, [.ref a_pad, .ref a_scene, .ref a_images, .ref a_bench, .ref a_trial, .ref a_sitters, .ref a_trialSitters, .ref a_sets, .ref a_census, .ref a_match, .ref a_couples, .ref a_passing, .ref a_longRows])), (a_scene, .inr (7, [.ref a_scene_steps, .ref a_scene_worths, .ref a_scene_comers, .ref a_scene_seen, .ref a_scene_seenLengths, .int v_scene_seats, .int v_scene_bear, .int v_scene_comerCount, .int v_scene_seenRows])), (a_sitters, .inr (9, [.ref a_bench, .ref a_sitters_nearest, .int u3.2.1, .int u3.2.2.1])), (a_bench, .inr (0, [.ref a_scene, .ref a_bench_apart, .ref a_bench_clash, .ref a_bench_neighbours])), (a_sitters_nearest, eI cI 12 u3.2.2.2), (a_scene_seenLengths, eI cI 8 v_scene_seenLengths), (a_scene_seen, eI cI 96 v_scene_seen), (a_scene_worths, eI cI 12 v_scene_worths), (a_bench_neighbours, eI cI 12 v_bench_neighbours), (a_bench_apart, eI cI 144 v_bench_apart)]) Cx (c_X10_firstMisfit l D cI cJ cZ cO a_t a_pad a_scene a_images a_bench a_trial a_sitters a_trialSitters a_sets a_census a_match a_couples a_passing a_longRows a_scene_steps a_scene_worths a_scene_comers a_scene_seen a_scene_seenLengths a_sitters_nearest a_bench_apart a_bench_clash a_bench_neighbours v_scene_seats v_scene_bear v_scene_comerCount v_scene_seenRows z_sitters_set_4 z_sitters_bear_4 z_sitters_nearest_4 v_scene_seenLengths v_scene_seen v_scene_worths v_bench_neighbours v_bench_apart y2_4 u3 hu3) hP hS rfl rfl rfl rfl rfl rfl rfl hl.1 (Nat.le_of_ble_eq_true rfl) dX10_fits_12 rfl rfl ⟨Nat.le_of_ble_eq_true rfl, Nat.le_of_ble_eq_true rfl⟩ ⟨Nat.zero_le _, Nat.zero_le _⟩ rfl (fun H locs hP hS => ?_)
        refine lv_bipush (v := (-6)) hx hb dX10_fits_15 (by decide) ?_
        refine ob_J (P := fun w4 => ∀ (H : Heap) (locs : List Loc) (ls : Array Slot), va_P D vwCl [(a_t, .inr (10, [.ref a_pad, .ref a_scene, .ref a_images, .ref a_bench, .ref a_trial, .ref a_sitters, .ref a_trialSitters, .ref a_sets, .ref a_census, .ref a_match, .ref a_couples, .ref a_passing, .ref a_longRows])), (a_scene, .inr (7, [.ref a_scene_steps, .ref a_scene_worths, .ref a_scene_comers, .ref a_scene_seen, .ref a_scene_seenLengths, .int v_scene_seats, .int v_scene_bear, .int v_scene_comerCount, .int v_scene_seenRows])), (a_sitters, .inr (9, [.ref a_bench, .ref a_sitters_nearest, .int u3.2.1, .int u3.2.2.1])), (a_bench, .inr (0, [.ref a_scene, .ref a_bench_apart, .ref a_bench_clash, .ref a_bench_neighbours])), (a_sitters_nearest, eI cI 12 u3.2.2.2), (a_scene_seenLengths, eI cI 8 v_scene_seenLengths), (a_scene_seen, eI cI 96 v_scene_seen), (a_scene_worths, eI cI 12 v_scene_worths), (a_bench_neighbours, eI cI 12 v_bench_neighbours), (a_bench_apart, eI cI 144 v_bench_apart)] H → va_S A s.heap H locs → lv_has ls 3 [(0, .ref a_t), (1, .int w4), (2, .int y2_4)] → W p l e { frames := 3, cells := 0, slots := 0, locals := 71 } s m args below meth c H locs 0 0 Q (F0 m 26 ls [])) hf ?_ ?_
        · intro w4 hf H locs ls hP hS hl
          refine lv_iinc (v := (y2_4 + 1)) (lv' := [(2, .int (y2_4 + 1)), (0, .ref a_t), (1, .int w4)]) hx hb dX10_fits_26 hl (k := 2) rfl rfl (by decide) rfl (fun ls hl => ?_)
          refine lv_goto (tgt := 4) hx hb dX10_fits_29 (by decide) ?_
          exact ih w4 (y2_4 + 1) u3.2.1 u3.2.2.1 u3.2.2.2 _ _ _ _ hf hP hS (lv_sub hl [1, 2, 0] rfl) kk
        · intro J26_5 hf
          refine lv_icmp_ne (tgt := 26) hx hb dX10_fits_17 (by decide) (fun c6 => ?_) (fun c6 => ?_)
          · have hf := ob_fk c6 hf
            exact J26_5 y1_4 hf _ _ _ hP hS (lv_sub hl [0, 1, 2] rfl)
          · have hf := ob_tk c6 hf
            refine lv_iload_n hx hb dX10_fits_20 rfl (lv_at hl 1 rfl) ?_
            refine lv_iconst (v := 1) hx hb dX10_fits_21 (by decide) ?_
            refine lv_iload_n hx hb dX10_fits_22 rfl (lv_at hl 2 rfl) ?_
            refine lv_ishl hx hb dX10_fits_23 ?_
            refine lv_ior hx hb dX10_fits_24 ?_
            refine lv_istore_n (lv' := [(1, .int (y1_4 ||| ((1 : Int32) <<< (y2_4 &&& 31)))), (0, .ref a_t), (2, .int y2_4)]) hx hb dX10_fits_25 rfl hl (by decide) rfl (fun ls hl => ?_)
            exact J26_5 (y1_4 ||| ((1 : Int32) <<< (y2_4 &&& 31))) hf _ _ _ hP hS (lv_sub hl [1, 0, 2] rfl)
  obtain ⟨u7, hu7, hf⟩ := ob_b hf
  refine L4_1 FU (0 : Int32) (0 : Int32) v_sitters_set v_sitters_bear v_sitters_nearest u7 _ _ _ hu7 hP hS (lv_sub hl [2, 1, 0] rfl) ?_
  intro H locs ls hP hS hl
  refine lv_iload_n hx hb dX10_fits_32 rfl (lv_at hl 0 rfl) ?_
  obtain rfl := Option.some.inj hf
  exact ret _ _ _ _ dX10_fits_33 hP hS

def f_X10_judge (v_scene_seats : Int32) (v_scene_bear : Int32) (v_scene_seenRows : Int32) (v_sitters_set : Int32) (v_sitters_bear : Int32) (v_sitters_nearest : Nat → Int32) (v_scene_seenLengths : Nat → Int32) (v_scene_seen : Nat → Int32) (v_scene_worths : Nat → Int32) (v_bench_neighbours : Nat → Int32) (v_bench_apart : Nat → Int32) (x1 : Int32) : Option (Int32 × Int32 × Int32 × (Nat → Int32)) :=
  (f_X10_isHabit x1).bind (fun u1 =>
  (if u1 = 0 then
  some ((-2 : Int32), v_sitters_set, v_sitters_bear, v_sitters_nearest)
  else
  (f_X10_firstMisfit v_scene_seats v_scene_bear v_scene_seenRows v_sitters_set v_sitters_bear v_sitters_nearest v_scene_seenLengths v_scene_seen v_scene_worths v_bench_neighbours v_bench_apart x1).bind (fun u5 =>
  some (u5.1, u5.2.1, u5.2.2.1, u5.2.2.2))).bind (fun w2 =>
  some (w2.1, w2.2.1, w2.2.2.1, w2.2.2.2)))
set_option maxHeartbeats 4000000 in
set_option maxRecDepth 100000 in
theorem c_X10_judge (l : Launch) (D : va_G) (cI cJ cZ cO : ClassId) (a_t a_pad a_scene a_images a_bench a_trial a_sitters a_trialSitters a_sets a_census a_match a_couples a_passing a_longRows a_scene_steps a_scene_worths a_scene_comers a_scene_seen a_scene_seenLengths a_sitters_nearest a_bench_apart a_bench_clash a_bench_neighbours : Nat) (v_scene_seats : Int32) (v_scene_bear : Int32) (v_scene_comerCount : Int32) (v_scene_seenRows : Int32) (v_sitters_set : Int32) (v_sitters_bear : Int32) (v_sitters_nearest : Nat → Int32) (v_scene_seenLengths : Nat → Int32) (v_scene_seen : Nat → Int32) (v_scene_worths : Nat → Int32) (v_bench_neighbours : Nat → Int32) (v_bench_apart : Nat → Int32) (x1 : Int32) (out : Int32 × Int32 × Int32 × (Nat → Int32)) (hf : f_X10_judge v_scene_seats v_scene_bear v_scene_seenRows v_sitters_set v_sitters_bear v_sitters_nearest v_scene_seenLengths v_scene_seen v_scene_worths v_bench_neighbours v_bench_apart x1 = some out) : MetR l yX10_judge (Cond.code yX10_judge cX10_judge 2 (some .int) :: tbG) { frames := 3, cells := 0, slots := 0, locals := 71 } D (tyL cI cJ cZ cO) [.ref a_t, .int x1] [(a_t, .inr (10, [.ref a_pad, .ref a_scene, .ref a_images, .ref a_bench, .ref a_trial, .ref a_sitters, .ref a_trialSitters, .ref a_sets, .ref a_census, .ref a_match, .ref a_couples, .ref a_passing, .ref a_longRows])), (a_scene, .inr (7, [.ref a_scene_steps, .ref a_scene_worths, .ref a_scene_comers, .ref a_scene_seen, .ref a_scene_seenLengths, .int v_scene_seats, .int v_scene_bear, .int v_scene_comerCount, .int v_scene_seenRows])), (a_sitters, .inr (9, [.ref a_bench, .ref a_sitters_nearest, .int v_sitters_set, .int v_sitters_bear])), (a_bench, .inr (0, [.ref a_scene, .ref a_bench_apart, .ref a_bench_clash, .ref a_bench_neighbours])), (a_sitters_nearest, eI cI 12 v_sitters_nearest), (a_scene_seenLengths, eI cI 8 v_scene_seenLengths), (a_scene_seen, eI cI 96 v_scene_seen), (a_scene_worths, eI cI 12 v_scene_worths), (a_bench_neighbours, eI cI 12 v_bench_neighbours), (a_bench_apart, eI cI 144 v_bench_apart)] (some (.int out.1)) [(a_t, .inr (10, [.ref a_pad, .ref a_scene, .ref a_images, .ref a_bench, .ref a_trial, .ref a_sitters, .ref a_trialSitters, .ref a_sets, .ref a_census, .ref a_match, .ref a_couples, .ref a_passing, .ref a_longRows])), (a_scene, .inr (7, [.ref a_scene_steps, .ref a_scene_worths, .ref a_scene_comers, .ref a_scene_seen, .ref a_scene_seenLengths, .int v_scene_seats, .int v_scene_bear, .int v_scene_comerCount, .int v_scene_seenRows])), (a_sitters, .inr (9, [.ref a_bench, .ref a_sitters_nearest, .int out.2.1, .int out.2.2.1])), (a_bench, .inr (0, [.ref a_scene, .ref a_bench_apart, .ref a_bench_clash, .ref a_bench_neighbours])), (a_sitters_nearest, eI cI 12 out.2.2.2), (a_scene_seenLengths, eI cI 8 v_scene_seenLengths), (a_scene_seen, eI cI 96 v_scene_seen), (a_scene_worths, eI cI 12 v_scene_worths), (a_bench_neighbours, eI cI 12 v_bench_neighbours), (a_bench_apart, eI cI 144 v_bench_apart)] := by
  refine ba_ofI RX10 [(0, .ref a_t), (1, .int x1)] (by decide +kernel) rfl (Nat.le_of_ble_eq_true rfl) rfl ?_
  intro p e s m args below meth c Q A Cx hP ret ls hl
  obtain ⟨⟨hx, hb, hml, hown, hts⟩, hK, hD, hA⟩ := id Cx
  have hS : va_S A s.heap s.heap [] := va_S.rf
  unfold f_X10_judge at hf
  refine lv_iload_n hx hb dX10_judge_0 rfl (lv_at hl 1 rfl) ?_
  obtain ⟨u1, hu1, hf⟩ := ob_b hf
  refine iv_X10_158 (As := [.int x1]) (rest := []) (is := []) (X' := [(a_t, .inr (10, [.ref a_pad, .ref a_scene, .ref a_images, .ref a_bench, .ref a_trial, .ref a_sitters, .ref a_trialSitters, .ref a_sets, .ref a_census, .ref a_match, .ref a_couples, .ref a_passing, .ref a_longRows])), (a_scene, .inr (7, [.ref a_scene_steps, .ref a_scene_worths, .ref a_scene_comers, .ref a_scene_seen, .ref a_scene_seenLengths, .int v_scene_seats, .int v_scene_bear, .int v_scene_comerCount, .int v_scene_seenRows])), (a_sitters, .inr (9, [.ref a_bench, .ref a_sitters_nearest, .int v_sitters_set, .int v_sitters_bear])), (a_bench, .inr (0, [.ref a_scene, .ref a_bench_apart, .ref a_bench_clash, .ref a_bench_neighbours])), (a_sitters_nearest, eI cI 12 v_sitters_nearest), (a_scene_seenLengths, eI cI 8 v_scene_seenLengths), (a_scene_seen, eI cI 96 v_scene_seen), (a_scene_worths, eI cI 12 v_scene_worths), (a_bench_neighbours, eI cI 12 v_bench_neighbours), (a_bench_apart, eI cI 144 v_bench_apart)]) Cx (c_X10_isHabit l D cI cJ cZ cO  x1 u1 hu1) hP hS rfl rfl rfl rfl rfl rfl hl.1 (Nat.le_of_ble_eq_true rfl) dX10_judge_1 rfl rfl ⟨Nat.le_of_ble_eq_true rfl, Nat.le_of_ble_eq_true rfl⟩ ⟨Nat.zero_le _, Nat.zero_le _⟩ rfl (fun H locs hP hS => ?_)
  refine ob_J (P := fun w2 => ∀ (H : Heap) (locs : List Loc) (ls : Array Slot), va_P D vwCl [(a_t, .inr (10, [.ref a_pad, .ref a_scene, .ref a_images, .ref a_bench, .ref a_trial, .ref a_sitters, .ref a_trialSitters, .ref a_sets, .ref a_census, .ref a_match, .ref a_couples, .ref a_passing, .ref a_longRows])), (a_scene, .inr (7, [.ref a_scene_steps, .ref a_scene_worths, .ref a_scene_comers, .ref a_scene_seen, .ref a_scene_seenLengths, .int v_scene_seats, .int v_scene_bear, .int v_scene_comerCount, .int v_scene_seenRows])), (a_sitters, .inr (9, [.ref a_bench, .ref a_sitters_nearest, .int w2.2.1, .int w2.2.2.1])), (a_bench, .inr (0, [.ref a_scene, .ref a_bench_apart, .ref a_bench_clash, .ref a_bench_neighbours])), (a_sitters_nearest, eI cI 12 w2.2.2.2), (a_scene_seenLengths, eI cI 8 v_scene_seenLengths), (a_scene_seen, eI cI 96 v_scene_seen), (a_scene_worths, eI cI 12 v_scene_worths), (a_bench_neighbours, eI cI 12 v_bench_neighbours), (a_bench_apart, eI cI 144 v_bench_apart)] H → va_S A s.heap H locs → lv_has ls 2 [] → W p l e { frames := 3, cells := 0, slots := 0, locals := 71 } s m args below meth c H locs 0 0 Q (F0 m 17 ls [.int w2.1])) hf ?_ ?_
  · intro w2 hf H locs ls hP hS hl
    obtain rfl := Option.some.inj hf
    exact ret _ _ _ _ dX10_judge_17 hP hS
  · intro J17_3 hf
    refine lv_if_eq (tgt := 15) hx hb dX10_judge_4 (by decide) (fun c4 => ?_) (fun c4 => ?_)
    · have hf := ob_tk c4 hf
      refine lv_bipush (v := (-2)) hx hb dX10_judge_15 (by decide) ?_
      exact J17_3 ((-2 : Int32), v_sitters_set, v_sitters_bear, v_sitters_nearest) hf _ _ _ hP hS (lv_sub hl [] rfl)
    · have hf := ob_fk c4 hf
      refine lv_aload_n hx hb dX10_judge_7 rfl (lv_at hl 0 rfl) ?_
      refine lv_iload_n hx hb dX10_judge_8 rfl (lv_at hl 1 rfl) ?_
      obtain ⟨u5, hu5, hf⟩ := ob_bk hf
      refine iv_X10_282 (As := [.int x1]) (rest := []) (is := [0, 1, 2, 3, 4, 5, 6, 7, 8, 9]) (q0 := 0) (X' := [(a_t, .inr (10, [.ref a_pad, .ref a_scene, .ref a_images, .ref a_bench, .ref a_trial, .ref a_sitters, .ref a_trialSitters, .ref a_sets, .ref a_census, .ref a_match, .ref a_couples, .ref a_passing, .ref a_longRows])), (a_scene, .inr (7, [.ref a_scene_steps, .ref a_scene_worths, .ref a_scene_comers, .ref a_scene_seen, .ref a_scene_seenLengths, .int v_scene_seats, .int v_scene_bear, .int v_scene_comerCount, .int v_scene_seenRows])), (a_sitters, .inr (9, [.ref a_bench, .ref a_sitters_nearest, .int u5.2.1, .int u5.2.2.1])), (a_bench, .inr (0, [.ref a_scene, .ref a_bench_apart, .ref a_bench_clash, .ref a_bench_neighbours])), (a_sitters_nearest, eI cI 12 u5.2.2.2), (a_scene_seenLengths, eI cI 8 v_scene_seenLengths), (a_scene_seen, eI cI 96 v_scene_seen), (a_scene_worths, eI cI 12 v_scene_worths), (a_bench_neighbours, eI cI 12 v_bench_neighbours), (a_bench_apart, eI cI 144 v_bench_apart)]) Cx (c_X10_firstMisfit l D cI cJ cZ cO a_t a_pad a_scene a_images a_bench a_trial a_sitters a_trialSitters a_sets a_census a_match a_couples a_passing a_longRows a_scene_steps a_scene_worths a_scene_comers a_scene_seen a_scene_seenLengths a_sitters_nearest a_bench_apart a_bench_clash a_bench_neighbours v_scene_seats v_scene_bear v_scene_comerCount v_scene_seenRows v_sitters_set v_sitters_bear v_sitters_nearest v_scene_seenLengths v_scene_seen v_scene_worths v_bench_neighbours v_bench_apart x1 u5 hu5) hP hS rfl rfl rfl rfl rfl rfl rfl hl.1 (Nat.le_of_ble_eq_true rfl) dX10_judge_9 rfl rfl ⟨Nat.le_of_ble_eq_true rfl, Nat.le_of_ble_eq_true rfl⟩ ⟨Nat.zero_le _, Nat.zero_le _⟩ rfl (fun H locs hP hS => ?_)
      refine lv_goto (tgt := 17) hx hb dX10_judge_12 (by decide) ?_
      exact J17_3 (u5.1, u5.2.1, u5.2.2.1, u5.2.2.2) hf _ _ _ hP hS (lv_sub hl [] rfl)

def f_X10_worthTold (v_scene_seats : Int32) (v_scene_worths : Nat → Int32) (x1 : Int32) : Option (Int32) :=
  (f_X10_isWithin x1 (10 : Int32) (21 : Int32)).bind (fun u1 =>
  if u1 = 0 then
  some (-2 : Int32)
  else
  (f_X10_isSeat v_scene_seats (x1 - (10 : Int32))).bind (fun u3 =>
  (if u3 = 0 then
  some (-6 : Int32)
  else
  (aget 12 v_scene_worths (x1 - (10 : Int32))).bind (fun u7 =>
  some (u7))).bind (fun w4 =>
  some (w4))))
set_option maxHeartbeats 4000000 in
set_option maxRecDepth 100000 in
theorem c_X10_worthTold (l : Launch) (D : va_G) (cI cJ cZ cO : ClassId) (a_t a_pad a_scene a_images a_bench a_trial a_sitters a_trialSitters a_sets a_census a_match a_couples a_passing a_longRows a_scene_steps a_scene_worths a_scene_comers a_scene_seen a_scene_seenLengths : Nat) (v_scene_seats : Int32) (v_scene_bear : Int32) (v_scene_comerCount : Int32) (v_scene_seenRows : Int32) (v_scene_worths : Nat → Int32) (x1 : Int32) (out : Int32) (hf : f_X10_worthTold v_scene_seats v_scene_worths x1 = some out) : MetR l yX10_worthTold (Cond.code yX10_worthTold cX10_worthTold 3 (some .int) :: tbG) { frames := 2, cells := 0, slots := 0, locals := 43 } D (tyL cI cJ cZ cO) [.ref a_t, .int x1] [(a_t, .inr (10, [.ref a_pad, .ref a_scene, .ref a_images, .ref a_bench, .ref a_trial, .ref a_sitters, .ref a_trialSitters, .ref a_sets, .ref a_census, .ref a_match, .ref a_couples, .ref a_passing, .ref a_longRows])), (a_scene, .inr (7, [.ref a_scene_steps, .ref a_scene_worths, .ref a_scene_comers, .ref a_scene_seen, .ref a_scene_seenLengths, .int v_scene_seats, .int v_scene_bear, .int v_scene_comerCount, .int v_scene_seenRows])), (a_scene_worths, eI cI 12 v_scene_worths)] (some (.int out)) [(a_t, .inr (10, [.ref a_pad, .ref a_scene, .ref a_images, .ref a_bench, .ref a_trial, .ref a_sitters, .ref a_trialSitters, .ref a_sets, .ref a_census, .ref a_match, .ref a_couples, .ref a_passing, .ref a_longRows])), (a_scene, .inr (7, [.ref a_scene_steps, .ref a_scene_worths, .ref a_scene_comers, .ref a_scene_seen, .ref a_scene_seenLengths, .int v_scene_seats, .int v_scene_bear, .int v_scene_comerCount, .int v_scene_seenRows])), (a_scene_worths, eI cI 12 v_scene_worths)] := by
  refine ba_ofI RX10 [(0, .ref a_t), (1, .int x1)] (by decide +kernel) rfl (Nat.le_of_ble_eq_true rfl) rfl ?_
  intro p e s m args below meth c Q A Cx hP ret ls hl
  obtain ⟨⟨hx, hb, hml, hown, hts⟩, hK, hD, hA⟩ := id Cx
  have hS : va_S A s.heap s.heap [] := va_S.rf
  unfold f_X10_worthTold at hf
  refine lv_iload_n hx hb dX10_worthTold_0 rfl (lv_at hl 1 rfl) ?_
  refine lv_bipush (v := 10) hx hb dX10_worthTold_1 (by decide) ?_
  refine lv_bipush (v := 21) hx hb dX10_worthTold_3 (by decide) ?_
  obtain ⟨u1, hu1, hf⟩ := ob_b hf
  refine iv_X10_99 (As := [.int x1, .int (10 : Int32), .int (21 : Int32)]) (rest := []) (is := []) (X' := [(a_t, .inr (10, [.ref a_pad, .ref a_scene, .ref a_images, .ref a_bench, .ref a_trial, .ref a_sitters, .ref a_trialSitters, .ref a_sets, .ref a_census, .ref a_match, .ref a_couples, .ref a_passing, .ref a_longRows])), (a_scene, .inr (7, [.ref a_scene_steps, .ref a_scene_worths, .ref a_scene_comers, .ref a_scene_seen, .ref a_scene_seenLengths, .int v_scene_seats, .int v_scene_bear, .int v_scene_comerCount, .int v_scene_seenRows])), (a_scene_worths, eI cI 12 v_scene_worths)]) Cx (c_X10_isWithin l D cI cJ cZ cO  x1 (10 : Int32) (21 : Int32) u1 hu1) hP hS rfl rfl rfl rfl rfl rfl hl.1 (Nat.le_of_ble_eq_true rfl) dX10_worthTold_5 rfl rfl ⟨Nat.le_of_ble_eq_true rfl, Nat.le_of_ble_eq_true rfl⟩ ⟨Nat.zero_le _, Nat.zero_le _⟩ rfl (fun H locs hP hS => ?_)
  refine lv_if_ne (tgt := 14) hx hb dX10_worthTold_8 (by decide) (fun c2 => ?_) (fun c2 => ?_)
  · have hf := ob_f c2 hf
    refine lv_iload_n hx hb dX10_worthTold_14 rfl (lv_at hl 1 rfl) ?_
    refine lv_bipush (v := 10) hx hb dX10_worthTold_15 (by decide) ?_
    refine lv_isub hx hb dX10_worthTold_17 ?_
    refine lv_istore_n (lv' := [(2, .int (x1 - (10 : Int32))), (0, .ref a_t), (1, .int x1)]) hx hb dX10_worthTold_18 rfl hl (by decide) rfl (fun ls hl => ?_)
    refine lv_aload_n hx hb dX10_worthTold_19 rfl (lv_at hl 1 rfl) ?_
    refine lv_iload_n hx hb dX10_worthTold_20 rfl (lv_at hl 0 rfl) ?_
    obtain ⟨u3, hu3, hf⟩ := ob_b hf
    refine iv_X10_141 (As := [.int (x1 - (10 : Int32))]) (rest := []) (is := [0, 1]) (q0 := 0) (X' := [(a_t, .inr (10, [.ref a_pad, .ref a_scene, .ref a_images, .ref a_bench, .ref a_trial, .ref a_sitters, .ref a_trialSitters, .ref a_sets, .ref a_census, .ref a_match, .ref a_couples, .ref a_passing, .ref a_longRows])), (a_scene, .inr (7, [.ref a_scene_steps, .ref a_scene_worths, .ref a_scene_comers, .ref a_scene_seen, .ref a_scene_seenLengths, .int v_scene_seats, .int v_scene_bear, .int v_scene_comerCount, .int v_scene_seenRows])), (a_scene_worths, eI cI 12 v_scene_worths)]) Cx (c_X10_isSeat l D cI cJ cZ cO a_t a_pad a_scene a_images a_bench a_trial a_sitters a_trialSitters a_sets a_census a_match a_couples a_passing a_longRows a_scene_steps a_scene_worths a_scene_comers a_scene_seen a_scene_seenLengths v_scene_seats v_scene_bear v_scene_comerCount v_scene_seenRows (x1 - (10 : Int32)) u3 hu3) hP hS rfl rfl rfl rfl rfl rfl rfl hl.1 (Nat.le_of_ble_eq_true rfl) dX10_worthTold_21 rfl rfl ⟨Nat.le_of_ble_eq_true rfl, Nat.le_of_ble_eq_true rfl⟩ ⟨Nat.zero_le _, Nat.zero_le _⟩ rfl (fun H locs hP hS => ?_)
    refine ob_J (P := fun w4 => ∀ (H : Heap) (locs : List Loc) (ls : Array Slot), va_P D vwCl [(a_t, .inr (10, [.ref a_pad, .ref a_scene, .ref a_images, .ref a_bench, .ref a_trial, .ref a_sitters, .ref a_trialSitters, .ref a_sets, .ref a_census, .ref a_match, .ref a_couples, .ref a_passing, .ref a_longRows])), (a_scene, .inr (7, [.ref a_scene_steps, .ref a_scene_worths, .ref a_scene_comers, .ref a_scene_seen, .ref a_scene_seenLengths, .int v_scene_seats, .int v_scene_bear, .int v_scene_comerCount, .int v_scene_seenRows])), (a_scene_worths, eI cI 12 v_scene_worths)] H → va_S A s.heap H locs → lv_has ls 3 [] → W p l e { frames := 2, cells := 0, slots := 0, locals := 43 } s m args below meth c H locs 0 0 Q (F0 m 41 ls [.int w4])) hf ?_ ?_
    · intro w4 hf H locs ls hP hS hl
      obtain rfl := Option.some.inj hf
      exact ret _ _ _ _ dX10_worthTold_41 hP hS
    · intro J41_5 hf
      refine lv_if_eq (tgt := 39) hx hb dX10_worthTold_24 (by decide) (fun c6 => ?_) (fun c6 => ?_)
      · have hf := ob_tk c6 hf
        refine lv_bipush (v := (-6)) hx hb dX10_worthTold_39 (by decide) ?_
        exact J41_5 (-6 : Int32) hf _ _ _ hP hS (lv_sub hl [] rfl)
      · have hf := ob_fk c6 hf
        refine lv_aload_n hx hb dX10_worthTold_27 rfl (lv_at hl 1 rfl) ?_
        refine gf_X10_19 Cx hP 0 rfl rfl dX10_worthTold_28 ?_
        refine gf_X10_126 Cx hP 1 rfl rfl dX10_worthTold_31 ?_
        refine lv_iload_n hx hb dX10_worthTold_34 rfl (lv_at hl 0 rfl) ?_
        obtain ⟨u7, hu7, hf⟩ := ob_bk hf
        refine ba_iald Cx hP 2 rfl hu7 dX10_worthTold_35 ?_
        refine lv_goto (tgt := 41) hx hb dX10_worthTold_36 (by decide) ?_
        exact J41_5 u7 hf _ _ _ hP hS (lv_sub hl [] rfl)
  · have hf := ob_t c2 hf
    refine lv_bipush (v := (-2)) hx hb dX10_worthTold_11 (by decide) ?_
    obtain rfl := Option.some.inj hf
    exact ret _ _ _ _ dX10_worthTold_13 hP hS

def f_X10_told (v_scene_seats : Int32) (v_scene_bear : Int32) (v_scene_comerCount : Int32) (v_scene_seenRows : Int32) (v_pad_count : Int32) (v_scene_worths : Nat → Int32) (x1 : Int32) : Option (Int32) :=
  if x1 = (0 : Int32) then
  some (v_scene_seats)
  else if x1 = (1 : Int32) then
  some (v_scene_bear)
  else if x1 = (2 : Int32) then
  some (v_pad_count)
  else if x1 = (3 : Int32) then
  some (v_scene_comerCount)
  else if x1 = (4 : Int32) then
  some (v_scene_seenRows)
  else 
  (f_X10_worthTold v_scene_seats v_scene_worths x1).bind (fun u6 =>
  some (u6))
set_option maxHeartbeats 4000000 in
set_option maxRecDepth 100000 in
theorem c_X10_told (l : Launch) (D : va_G) (cI cJ cZ cO : ClassId) (a_t a_pad a_scene a_images a_bench a_trial a_sitters a_trialSitters a_sets a_census a_match a_couples a_passing a_longRows a_scene_steps a_scene_worths a_scene_comers a_scene_seen a_scene_seenLengths a_pad_signs : Nat) (v_scene_seats : Int32) (v_scene_bear : Int32) (v_scene_comerCount : Int32) (v_scene_seenRows : Int32) (v_pad_count : Int32) (v_scene_worths : Nat → Int32) (x1 : Int32) (out : Int32) (hf : f_X10_told v_scene_seats v_scene_bear v_scene_comerCount v_scene_seenRows v_pad_count v_scene_worths x1 = some out) : MetR l yX10_told (Cond.code yX10_told cX10_told 2 (some .int) :: tbG) { frames := 3, cells := 0, slots := 0, locals := 65 } D (tyL cI cJ cZ cO) [.ref a_t, .int x1] [(a_t, .inr (10, [.ref a_pad, .ref a_scene, .ref a_images, .ref a_bench, .ref a_trial, .ref a_sitters, .ref a_trialSitters, .ref a_sets, .ref a_census, .ref a_match, .ref a_couples, .ref a_passing, .ref a_longRows])), (a_scene, .inr (7, [.ref a_scene_steps, .ref a_scene_worths, .ref a_scene_comers, .ref a_scene_seen, .ref a_scene_seenLengths, .int v_scene_seats, .int v_scene_bear, .int v_scene_comerCount, .int v_scene_seenRows])), (a_pad, .inr (5, [.ref a_pad_signs, .int v_pad_count])), (a_scene_worths, eI cI 12 v_scene_worths)] (some (.int out)) [(a_t, .inr (10, [.ref a_pad, .ref a_scene, .ref a_images, .ref a_bench, .ref a_trial, .ref a_sitters, .ref a_trialSitters, .ref a_sets, .ref a_census, .ref a_match, .ref a_couples, .ref a_passing, .ref a_longRows])), (a_scene, .inr (7, [.ref a_scene_steps, .ref a_scene_worths, .ref a_scene_comers, .ref a_scene_seen, .ref a_scene_seenLengths, .int v_scene_seats, .int v_scene_bear, .int v_scene_comerCount, .int v_scene_seenRows])), (a_pad, .inr (5, [.ref a_pad_signs, .int v_pad_count])), (a_scene_worths, eI cI 12 v_scene_worths)] := by
  refine ba_ofI RX10 [(0, .ref a_t), (1, .int x1)] (by decide +kernel) rfl (Nat.le_of_ble_eq_true rfl) rfl ?_
  intro p e s m args below meth c Q A Cx hP ret ls hl
  obtain ⟨⟨hx, hb, hml, hown, hts⟩, hK, hD, hA⟩ := id Cx
  have hS : va_S A s.heap s.heap [] := va_S.rf
  unfold f_X10_told at hf
  refine lv_iload_n hx hb dX10_told_0 rfl (lv_at hl 1 rfl) ?_
  by_cases c1 : x1 = (0 : Int32)
  · have hf := ob_t c1 hf
    refine ba_topi c1 ?_
    refine lv_tableIn (tgt := 36) hx hb dX10_told_1 (by decide) (by decide) rfl (by decide) ?_
    refine lv_aload_n hx hb dX10_told_36 rfl (lv_at hl 0 rfl) ?_
    refine gf_X10_19 Cx hP 0 rfl rfl dX10_told_37 ?_
    refine gf_X10_123 Cx hP 1 rfl rfl dX10_told_40 ?_
    obtain rfl := Option.some.inj hf
    exact ret _ _ _ _ dX10_told_43 hP hS
  have hf := ob_f c1 hf
  by_cases c2 : x1 = (1 : Int32)
  · have hf := ob_t c2 hf
    refine ba_topi c2 ?_
    refine lv_tableIn (tgt := 44) hx hb dX10_told_1 (by decide) (by decide) rfl (by decide) ?_
    refine lv_aload_n hx hb dX10_told_44 rfl (lv_at hl 0 rfl) ?_
    refine gf_X10_19 Cx hP 0 rfl rfl dX10_told_45 ?_
    refine gf_X10_144 Cx hP 1 rfl rfl dX10_told_48 ?_
    obtain rfl := Option.some.inj hf
    exact ret _ _ _ _ dX10_told_51 hP hS
  have hf := ob_f c2 hf
  by_cases c3 : x1 = (2 : Int32)
  · have hf := ob_t c3 hf
    refine ba_topi c3 ?_
    refine lv_tableIn (tgt := 52) hx hb dX10_told_1 (by decide) (by decide) rfl (by decide) ?_
    refine lv_aload_n hx hb dX10_told_52 rfl (lv_at hl 0 rfl) ?_
    refine gf_X10_12 Cx hP 0 rfl rfl dX10_told_53 ?_
    refine gf_X10_107 Cx hP 2 rfl rfl dX10_told_56 ?_
    obtain rfl := Option.some.inj hf
    exact ret _ _ _ _ dX10_told_59 hP hS
  have hf := ob_f c3 hf
  by_cases c4 : x1 = (3 : Int32)
  · have hf := ob_t c4 hf
    refine ba_topi c4 ?_
    refine lv_tableIn (tgt := 60) hx hb dX10_told_1 (by decide) (by decide) rfl (by decide) ?_
    refine lv_aload_n hx hb dX10_told_60 rfl (lv_at hl 0 rfl) ?_
    refine gf_X10_19 Cx hP 0 rfl rfl dX10_told_61 ?_
    refine gf_X10_260 Cx hP 1 rfl rfl dX10_told_64 ?_
    obtain rfl := Option.some.inj hf
    exact ret _ _ _ _ dX10_told_67 hP hS
  have hf := ob_f c4 hf
  by_cases c5 : x1 = (4 : Int32)
  · have hf := ob_t c5 hf
    refine ba_topi c5 ?_
    refine lv_tableIn (tgt := 68) hx hb dX10_told_1 (by decide) (by decide) rfl (by decide) ?_
    refine lv_aload_n hx hb dX10_told_68 rfl (lv_at hl 0 rfl) ?_
    refine gf_X10_19 Cx hP 0 rfl rfl dX10_told_69 ?_
    refine gf_X10_135 Cx hP 1 rfl rfl dX10_told_72 ?_
    obtain rfl := Option.some.inj hf
    exact ret _ _ _ _ dX10_told_75 hP hS
  have hf := ob_f c5 hf
  refine lv_tableOut (tgt := 76) hx hb dX10_told_1 (ba_tab4 c1 c2 c3 c4 c5) (by decide) ?_
  refine lv_aload_n hx hb dX10_told_76 rfl (lv_at hl 0 rfl) ?_
  refine lv_iload_n hx hb dX10_told_77 rfl (lv_at hl 1 rfl) ?_
  obtain ⟨u6, hu6, hf⟩ := ob_b hf
  refine iv_X10_288 (As := [.int x1]) (rest := []) (is := [0, 1, 3]) (q0 := 0) (X' := [(a_t, .inr (10, [.ref a_pad, .ref a_scene, .ref a_images, .ref a_bench, .ref a_trial, .ref a_sitters, .ref a_trialSitters, .ref a_sets, .ref a_census, .ref a_match, .ref a_couples, .ref a_passing, .ref a_longRows])), (a_scene, .inr (7, [.ref a_scene_steps, .ref a_scene_worths, .ref a_scene_comers, .ref a_scene_seen, .ref a_scene_seenLengths, .int v_scene_seats, .int v_scene_bear, .int v_scene_comerCount, .int v_scene_seenRows])), (a_pad, .inr (5, [.ref a_pad_signs, .int v_pad_count])), (a_scene_worths, eI cI 12 v_scene_worths)]) Cx (c_X10_worthTold l D cI cJ cZ cO a_t a_pad a_scene a_images a_bench a_trial a_sitters a_trialSitters a_sets a_census a_match a_couples a_passing a_longRows a_scene_steps a_scene_worths a_scene_comers a_scene_seen a_scene_seenLengths v_scene_seats v_scene_bear v_scene_comerCount v_scene_seenRows v_scene_worths x1 u6 hu6) hP hS rfl rfl rfl rfl rfl rfl rfl hl.1 (Nat.le_of_ble_eq_true rfl) dX10_told_78 rfl rfl ⟨Nat.le_of_ble_eq_true rfl, Nat.le_of_ble_eq_true rfl⟩ ⟨Nat.zero_le _, Nat.zero_le _⟩ rfl (fun H locs hP hS => ?_)
  obtain rfl := Option.some.inj hf
  exact ret _ _ _ _ dX10_told_81 hP hS

def f_X11_at (x0 : Int32) (x1 : Int32) : Option (Int32) :=
  some (((12 : Int32) * x0) + x1)
set_option maxHeartbeats 4000000 in
set_option maxRecDepth 100000 in
theorem c_X11_at (l : Launch) (D : va_G) (cI cJ cZ cO : ClassId) (x0 : Int32) (x1 : Int32) (out : Int32) (hf : f_X11_at x0 x1 = some out) : MetR l yX11_at (Cond.code yX11_at cX11_at 2 (some .int) :: tbG) { frames := 0, cells := 0, slots := 0, locals := 0 } D (tyL cI cJ cZ cO) [.int x0, .int x1] [] (some (.int out)) [] := by
  refine ba_ofI RX11 [(0, .int x0), (1, .int x1)] (by decide +kernel) rfl (Nat.le_of_ble_eq_true rfl) rfl ?_
  intro p e s m args below meth c Q A Cx hP ret ls hl
  obtain ⟨⟨hx, hb, hml, hown, hts⟩, hK, hD, hA⟩ := id Cx
  have hS : va_S A s.heap s.heap [] := va_S.rf
  unfold f_X11_at at hf
  refine lv_bipush (v := 12) hx hb dX11_at_0 (by decide) ?_
  refine lv_iload_n hx hb dX11_at_2 rfl (lv_at hl 0 rfl) ?_
  refine lv_imul hx hb dX11_at_3 ?_
  refine lv_iload_n hx hb dX11_at_4 rfl (lv_at hl 1 rfl) ?_
  refine lv_iadd hx hb dX11_at_5 ?_
  obtain rfl := Option.some.inj hf
  exact ret _ _ _ _ dX11_at_6 hP hS

def f_X11_link (v_far : Nat → Int32) (x1 : Int32) (x2 : Int32) (x3 : Int32) : Option ((Nat → Int32)) :=
  (f_X11_at x1 x2).bind (fun u1 =>
  (aget 144 v_far u1).bind (fun u2 =>
  (if u2 ≤ x3 then
  some (v_far)
  else
  (f_X11_at x1 x2).bind (fun u6 =>
  (asetI 144 v_far u6 x3).bind (fun u7 =>
  (f_X11_at x2 x1).bind (fun u8 =>
  (asetI 144 u7 u8 x3).bind (fun u9 =>
  some (u9)))))).bind (fun w3 =>
  some (w3))))
set_option maxHeartbeats 4000000 in
set_option maxRecDepth 100000 in
theorem c_X11_link (l : Launch) (D : va_G) (cI cJ cZ cO : ClassId) (a_t a_signs a_links a_worths a_far a_mays a_rowsTo a_endIn a_ends a_pairSets a_awayIn a_now a_then a_comers a_seen a_seenMany a_kept a_isKept : Nat) (v_signMany : Int32) (v_seats : Int32) (v_bearIs : Int32) (v_rowsAll : Int64) (v_awayUpper : Int64) (v_lower : Int64) (v_comerMany : Int32) (v_seenRows : Int32) (v_place : Int32) (v_isWriting : Int32) (v_far : Nat → Int32) (x1 : Int32) (x2 : Int32) (x3 : Int32) (out : (Nat → Int32)) (hf : f_X11_link v_far x1 x2 x3 = some out) : MetR l yX11_link (Cond.code yX11_link cX11_link 4 none :: tbG) { frames := 1, cells := 0, slots := 0, locals := 21 } D (tyL cI cJ cZ cO) [.ref a_t, .int x1, .int x2, .int x3] [(a_t, .inr (11, [.ref a_signs, .int v_signMany, .int v_seats, .ref a_links, .ref a_worths, .int v_bearIs, .ref a_far, .ref a_mays, .ref a_rowsTo, .ref a_endIn, .long v_rowsAll, .ref a_ends, .ref a_pairSets, .ref a_awayIn, .ref a_now, .ref a_then, .long v_awayUpper, .long v_lower, .ref a_comers, .int v_comerMany, .ref a_seen, .ref a_seenMany, .int v_seenRows, .ref a_kept, .ref a_isKept, .int v_place, .int v_isWriting])), (a_far, eI cI 144 v_far)] none [(a_t, .inr (11, [.ref a_signs, .int v_signMany, .int v_seats, .ref a_links, .ref a_worths, .int v_bearIs, .ref a_far, .ref a_mays, .ref a_rowsTo, .ref a_endIn, .long v_rowsAll, .ref a_ends, .ref a_pairSets, .ref a_awayIn, .ref a_now, .ref a_then, .long v_awayUpper, .long v_lower, .ref a_comers, .int v_comerMany, .ref a_seen, .ref a_seenMany, .int v_seenRows, .ref a_kept, .ref a_isKept, .int v_place, .int v_isWriting])), (a_far, eI cI 144 out)] := by
  refine ba_ofV RX11 [(0, .ref a_t), (1, .int x1), (2, .int x2), (3, .int x3)] (by decide +kernel) rfl (Nat.le_of_ble_eq_true rfl) rfl ?_
  intro p e s m args below meth c Q A Cx hP ret ls hl
  obtain ⟨⟨hx, hb, hml, hown, hts⟩, hK, hD, hA⟩ := id Cx
  have hS : va_S A s.heap s.heap [] := va_S.rf
  unfold f_X11_link at hf
  refine lv_iload_n hx hb dX11_link_0 rfl (lv_at hl 3 rfl) ?_
  refine lv_aload_n hx hb dX11_link_1 rfl (lv_at hl 0 rfl) ?_
  refine gf_X11_19 Cx hP 0 rfl rfl dX11_link_2 ?_
  refine lv_iload_n hx hb dX11_link_5 rfl (lv_at hl 1 rfl) ?_
  refine lv_iload_n hx hb dX11_link_6 rfl (lv_at hl 2 rfl) ?_
  obtain ⟨u1, hu1, hf⟩ := ob_b hf
  refine iv_X11_92 (As := [.int x1, .int x2]) (rest := [.ref a_far, .int x3]) (is := []) (X' := [(a_t, .inr (11, [.ref a_signs, .int v_signMany, .int v_seats, .ref a_links, .ref a_worths, .int v_bearIs, .ref a_far, .ref a_mays, .ref a_rowsTo, .ref a_endIn, .long v_rowsAll, .ref a_ends, .ref a_pairSets, .ref a_awayIn, .ref a_now, .ref a_then, .long v_awayUpper, .long v_lower, .ref a_comers, .int v_comerMany, .ref a_seen, .ref a_seenMany, .int v_seenRows, .ref a_kept, .ref a_isKept, .int v_place, .int v_isWriting])), (a_far, eI cI 144 v_far)]) Cx (c_X11_at l D cI cJ cZ cO  x1 x2 u1 hu1) hP hS rfl rfl rfl rfl rfl rfl hl.1 (Nat.le_of_ble_eq_true rfl) dX11_link_7 rfl rfl ⟨Nat.le_of_ble_eq_true rfl, Nat.le_of_ble_eq_true rfl⟩ ⟨Nat.zero_le _, Nat.zero_le _⟩ rfl (fun H locs hP hS => ?_)
  obtain ⟨u2, hu2, hf⟩ := ob_b hf
  refine ba_iald Cx hP 1 rfl hu2 dX11_link_10 ?_
  refine ob_J (P := fun w3 => ∀ (H : Heap) (locs : List Loc) (ls : Array Slot), va_P D vwCl [(a_t, .inr (11, [.ref a_signs, .int v_signMany, .int v_seats, .ref a_links, .ref a_worths, .int v_bearIs, .ref a_far, .ref a_mays, .ref a_rowsTo, .ref a_endIn, .long v_rowsAll, .ref a_ends, .ref a_pairSets, .ref a_awayIn, .ref a_now, .ref a_then, .long v_awayUpper, .long v_lower, .ref a_comers, .int v_comerMany, .ref a_seen, .ref a_seenMany, .int v_seenRows, .ref a_kept, .ref a_isKept, .int v_place, .int v_isWriting])), (a_far, eI cI 144 w3)] H → va_S A s.heap H locs → lv_has ls 4 [] → W p l e { frames := 1, cells := 0, slots := 0, locals := 21 } s m args below meth c H locs 0 0 Q (F0 m 36 ls [])) hf ?_ ?_
  · intro w3 hf H locs ls hP hS hl
    obtain rfl := Option.some.inj hf
    exact ret _ _ _ _ dX11_link_36 hP hS
  · intro J36_4 hf
    refine lv_icmp_ge (tgt := 36) hx hb dX11_link_11 (by decide) (fun c5 => ?_) (fun c5 => ?_)
    · have hf := ob_tk c5 hf
      exact J36_4 v_far hf _ _ _ hP hS (lv_sub hl [] rfl)
    · have hf := ob_fk c5 hf
      refine lv_aload_n hx hb dX11_link_14 rfl (lv_at hl 0 rfl) ?_
      refine gf_X11_19 Cx hP 0 rfl rfl dX11_link_15 ?_
      refine lv_iload_n hx hb dX11_link_18 rfl (lv_at hl 1 rfl) ?_
      refine lv_iload_n hx hb dX11_link_19 rfl (lv_at hl 2 rfl) ?_
      obtain ⟨u6, hu6, hf⟩ := ob_bk hf
      refine iv_X11_92 (As := [.int x1, .int x2]) (rest := [.ref a_far]) (is := []) (X' := [(a_t, .inr (11, [.ref a_signs, .int v_signMany, .int v_seats, .ref a_links, .ref a_worths, .int v_bearIs, .ref a_far, .ref a_mays, .ref a_rowsTo, .ref a_endIn, .long v_rowsAll, .ref a_ends, .ref a_pairSets, .ref a_awayIn, .ref a_now, .ref a_then, .long v_awayUpper, .long v_lower, .ref a_comers, .int v_comerMany, .ref a_seen, .ref a_seenMany, .int v_seenRows, .ref a_kept, .ref a_isKept, .int v_place, .int v_isWriting])), (a_far, eI cI 144 v_far)]) Cx (c_X11_at l D cI cJ cZ cO  x1 x2 u6 hu6) hP hS rfl rfl rfl rfl rfl rfl hl.1 (Nat.le_of_ble_eq_true rfl) dX11_link_20 rfl rfl ⟨Nat.le_of_ble_eq_true rfl, Nat.le_of_ble_eq_true rfl⟩ ⟨Nat.zero_le _, Nat.zero_le _⟩ rfl (fun H locs hP hS => ?_)
      refine lv_iload_n hx hb dX11_link_23 rfl (lv_at hl 3 rfl) ?_
      obtain ⟨u7, hu7, hf⟩ := ob_bk hf
      refine ba_iast (X' := [(a_t, .inr (11, [.ref a_signs, .int v_signMany, .int v_seats, .ref a_links, .ref a_worths, .int v_bearIs, .ref a_far, .ref a_mays, .ref a_rowsTo, .ref a_endIn, .long v_rowsAll, .ref a_ends, .ref a_pairSets, .ref a_awayIn, .ref a_now, .ref a_then, .long v_awayUpper, .long v_lower, .ref a_comers, .int v_comerMany, .ref a_seen, .ref a_seenMany, .int v_seenRows, .ref a_kept, .ref a_isKept, .int v_place, .int v_isWriting])), (a_far, eI cI 144 u7)]) Cx hP hS rfl 1 rfl rfl hu7 dX11_link_24 (fun H locs hP hS => ?_)
      refine lv_aload_n hx hb dX11_link_25 rfl (lv_at hl 0 rfl) ?_
      refine gf_X11_19 Cx hP 0 rfl rfl dX11_link_26 ?_
      refine lv_iload_n hx hb dX11_link_29 rfl (lv_at hl 2 rfl) ?_
      refine lv_iload_n hx hb dX11_link_30 rfl (lv_at hl 1 rfl) ?_
      obtain ⟨u8, hu8, hf⟩ := ob_bk hf
      refine iv_X11_92 (As := [.int x2, .int x1]) (rest := [.ref a_far]) (is := []) (X' := [(a_t, .inr (11, [.ref a_signs, .int v_signMany, .int v_seats, .ref a_links, .ref a_worths, .int v_bearIs, .ref a_far, .ref a_mays, .ref a_rowsTo, .ref a_endIn, .long v_rowsAll, .ref a_ends, .ref a_pairSets, .ref a_awayIn, .ref a_now, .ref a_then, .long v_awayUpper, .long v_lower, .ref a_comers, .int v_comerMany, .ref a_seen, .ref a_seenMany, .int v_seenRows, .ref a_kept, .ref a_isKept, .int v_place, .int v_isWriting])), (a_far, eI cI 144 u7)]) Cx (c_X11_at l D cI cJ cZ cO  x2 x1 u8 hu8) hP hS rfl rfl rfl rfl rfl rfl hl.1 (Nat.le_of_ble_eq_true rfl) dX11_link_31 rfl rfl ⟨Nat.le_of_ble_eq_true rfl, Nat.le_of_ble_eq_true rfl⟩ ⟨Nat.zero_le _, Nat.zero_le _⟩ rfl (fun H locs hP hS => ?_)
      refine lv_iload_n hx hb dX11_link_34 rfl (lv_at hl 3 rfl) ?_
      obtain ⟨u9, hu9, hf⟩ := ob_bk hf
      refine ba_iast (X' := [(a_t, .inr (11, [.ref a_signs, .int v_signMany, .int v_seats, .ref a_links, .ref a_worths, .int v_bearIs, .ref a_far, .ref a_mays, .ref a_rowsTo, .ref a_endIn, .long v_rowsAll, .ref a_ends, .ref a_pairSets, .ref a_awayIn, .ref a_now, .ref a_then, .long v_awayUpper, .long v_lower, .ref a_comers, .int v_comerMany, .ref a_seen, .ref a_seenMany, .int v_seenRows, .ref a_kept, .ref a_isKept, .int v_place, .int v_isWriting])), (a_far, eI cI 144 u9)]) Cx hP hS rfl 1 rfl rfl hu9 dX11_link_35 (fun H locs hP hS => ?_)
      exact J36_4 u9 hf _ _ _ hP hS (lv_sub hl [] rfl)

def f_X11_findFar_10 (y2_2 : Int32) : Nat → Int32 → (Nat → Int32) → Option ((Nat → Int32))
  | 0, _, _ => none
  | n + 1, y3_10, z_far_10 =>
  if (12 : Int32) ≤ y3_10 then
  some (z_far_10)
  else
  (f_X11_at y2_2 y3_10).bind (fun u5 =>
  (if y2_2 = y3_10 then
  some (0 : Int32)
  else
  some (99 : Int32)).bind (fun w6 =>
  (asetI 144 z_far_10 u5 w6).bind (fun u8 =>
  f_X11_findFar_10 y2_2 n (y3_10 + 1) u8)))
theorem f_X11_findFar_10_s (y2_2 : Int32) (n : Nat) (y3_10 : Int32) (z_far_10 : Nat → Int32) : f_X11_findFar_10 y2_2 (n + 1) y3_10 z_far_10 =
  (if (12 : Int32) ≤ y3_10 then
  some (z_far_10)
  else
  (f_X11_at y2_2 y3_10).bind (fun u5 =>
  (if y2_2 = y3_10 then
  some (0 : Int32)
  else
  some (99 : Int32)).bind (fun w6 =>
  (asetI 144 z_far_10 u5 w6).bind (fun u8 =>
  f_X11_findFar_10 y2_2 n (y3_10 + 1) u8)))) := rfl
def f_X11_findFar_2  : Nat → Int32 → (Nat → Int32) → Option ((Nat → Int32))
  | 0, _, _ => none
  | n + 1, y2_2, z_far_2 =>
  if (12 : Int32) ≤ y2_2 then
  some (z_far_2)
  else
  (f_X11_findFar_10 y2_2 FU (0 : Int32) z_far_2).bind (fun u10 =>
  f_X11_findFar_2  n (y2_2 + 1) u10)
theorem f_X11_findFar_2_s  (n : Nat) (y2_2 : Int32) (z_far_2 : Nat → Int32) : f_X11_findFar_2  (n + 1) y2_2 z_far_2 =
  (if (12 : Int32) ≤ y2_2 then
  some (z_far_2)
  else
  (f_X11_findFar_10 y2_2 FU (0 : Int32) z_far_2).bind (fun u10 =>
  f_X11_findFar_2  n (y2_2 + 1) u10)) := rfl
def f_X11_findFar_51 (v_seats : Int32) (v_links : Nat → Int32) (x1 : Int32) : Nat → Int32 → (Nat → Int32) → Option ((Nat → Int32))
  | 0, _, _ => none
  | n + 1, y2_51, z_far_51 =>
  if v_seats ≤ y2_51 then
  some (z_far_51)
  else
  (if y2_51 = (v_seats - (1 : Int32)) then
  some (1 : Int32)
  else
  some (0 : Int32)).bind (fun w14 =>
  (aget 12 v_links y2_51).bind (fun u16 =>
  (if u16 ≤ 0 then
  some (z_far_51)
  else
  if w14 = 0 then
  if ((x1 >>> (y2_51 &&& 31)) &&& (1 : Int32)) = 0 then
  (if w14 = 0 then
  some (y2_51 + (1 : Int32))
  else
  some (0 : Int32)).bind (fun w27 =>
  (aget 12 v_links y2_51).bind (fun u29 =>
  (f_X11_link z_far_51 y2_51 w27 u29).bind (fun u30 =>
  some (u30))))
  else
  some (z_far_51)
  else
  (if w14 = 0 then
  some (y2_51 + (1 : Int32))
  else
  some (0 : Int32)).bind (fun w21 =>
  (aget 12 v_links y2_51).bind (fun u23 =>
  (f_X11_link z_far_51 y2_51 w21 u23).bind (fun u24 =>
  some (u24))))).bind (fun w17 =>
  f_X11_findFar_51 v_seats v_links x1 n (y2_51 + 1) w17)))
theorem f_X11_findFar_51_s (v_seats : Int32) (v_links : Nat → Int32) (x1 : Int32) (n : Nat) (y2_51 : Int32) (z_far_51 : Nat → Int32) : f_X11_findFar_51 v_seats v_links x1 (n + 1) y2_51 z_far_51 =
  (if v_seats ≤ y2_51 then
  some (z_far_51)
  else
  (if y2_51 = (v_seats - (1 : Int32)) then
  some (1 : Int32)
  else
  some (0 : Int32)).bind (fun w14 =>
  (aget 12 v_links y2_51).bind (fun u16 =>
  (if u16 ≤ 0 then
  some (z_far_51)
  else
  if w14 = 0 then
  if ((x1 >>> (y2_51 &&& 31)) &&& (1 : Int32)) = 0 then
  (if w14 = 0 then
  some (y2_51 + (1 : Int32))
  else
  some (0 : Int32)).bind (fun w27 =>
  (aget 12 v_links y2_51).bind (fun u29 =>
  (f_X11_link z_far_51 y2_51 w27 u29).bind (fun u30 =>
  some (u30))))
  else
  some (z_far_51)
  else
  (if w14 = 0 then
  some (y2_51 + (1 : Int32))
  else
  some (0 : Int32)).bind (fun w21 =>
  (aget 12 v_links y2_51).bind (fun u23 =>
  (f_X11_link z_far_51 y2_51 w21 u23).bind (fun u24 =>
  some (u24))))).bind (fun w17 =>
  f_X11_findFar_51 v_seats v_links x1 n (y2_51 + 1) w17)))) := rfl
def f_X11_findFar_147 (v_seats : Int32) (y2_126 : Int32) (y3_136 : Int32) : Nat → Int32 → (Nat → Int32) → Option ((Nat → Int32))
  | 0, _, _ => none
  | n + 1, y4_147, z_far_147 =>
  if v_seats ≤ y4_147 then
  some (z_far_147)
  else
  (f_X11_at y3_136 y2_126).bind (fun u40 =>
  (aget 144 z_far_147 u40).bind (fun u41 =>
  (f_X11_at y2_126 y4_147).bind (fun u42 =>
  (aget 144 z_far_147 u42).bind (fun u43 =>
  (f_X11_at y3_136 y4_147).bind (fun u44 =>
  (f_X11_at y3_136 y4_147).bind (fun u45 =>
  (aget 144 z_far_147 u45).bind (fun u46 =>
  (if u46 ≤ (u41 + u43) then
  (f_X11_at y3_136 y4_147).bind (fun u51 =>
  (aget 144 z_far_147 u51).bind (fun u52 =>
  some (u52)))
  else
  some (u41 + u43)).bind (fun w47 =>
  (asetI 144 z_far_147 u44 w47).bind (fun u49 =>
  f_X11_findFar_147 v_seats y2_126 y3_136 n (y4_147 + 1) u49)))))))))
theorem f_X11_findFar_147_s (v_seats : Int32) (y2_126 : Int32) (y3_136 : Int32) (n : Nat) (y4_147 : Int32) (z_far_147 : Nat → Int32) : f_X11_findFar_147 v_seats y2_126 y3_136 (n + 1) y4_147 z_far_147 =
  (if v_seats ≤ y4_147 then
  some (z_far_147)
  else
  (f_X11_at y3_136 y2_126).bind (fun u40 =>
  (aget 144 z_far_147 u40).bind (fun u41 =>
  (f_X11_at y2_126 y4_147).bind (fun u42 =>
  (aget 144 z_far_147 u42).bind (fun u43 =>
  (f_X11_at y3_136 y4_147).bind (fun u44 =>
  (f_X11_at y3_136 y4_147).bind (fun u45 =>
  (aget 144 z_far_147 u45).bind (fun u46 =>
  (if u46 ≤ (u41 + u43) then
  (f_X11_at y3_136 y4_147).bind (fun u51 =>
  (aget 144 z_far_147 u51).bind (fun u52 =>
  some (u52)))
  else
  some (u41 + u43)).bind (fun w47 =>
  (asetI 144 z_far_147 u44 w47).bind (fun u49 =>
  f_X11_findFar_147 v_seats y2_126 y3_136 n (y4_147 + 1) u49)))))))))) := rfl
def f_X11_findFar_136 (v_seats : Int32) (y2_126 : Int32) : Nat → Int32 → (Nat → Int32) → Option ((Nat → Int32))
  | 0, _, _ => none
  | n + 1, y3_136, z_far_136 =>
  if v_seats ≤ y3_136 then
  some (z_far_136)
  else
  (f_X11_findFar_147 v_seats y2_126 y3_136 FU (0 : Int32) z_far_136).bind (fun u53 =>
  f_X11_findFar_136 v_seats y2_126 n (y3_136 + 1) u53)
theorem f_X11_findFar_136_s (v_seats : Int32) (y2_126 : Int32) (n : Nat) (y3_136 : Int32) (z_far_136 : Nat → Int32) : f_X11_findFar_136 v_seats y2_126 (n + 1) y3_136 z_far_136 =
  (if v_seats ≤ y3_136 then
  some (z_far_136)
  else
  (f_X11_findFar_147 v_seats y2_126 y3_136 FU (0 : Int32) z_far_136).bind (fun u53 =>
  f_X11_findFar_136 v_seats y2_126 n (y3_136 + 1) u53)) := rfl
def f_X11_findFar_126 (v_seats : Int32) : Nat → Int32 → (Nat → Int32) → Option ((Nat → Int32))
  | 0, _, _ => none
  | n + 1, y2_126, z_far_126 =>
  if v_seats ≤ y2_126 then
  some (z_far_126)
  else
  (f_X11_findFar_136 v_seats y2_126 FU (0 : Int32) z_far_126).bind (fun u54 =>
  f_X11_findFar_126 v_seats n (y2_126 + 1) u54)
theorem f_X11_findFar_126_s (v_seats : Int32) (n : Nat) (y2_126 : Int32) (z_far_126 : Nat → Int32) : f_X11_findFar_126 v_seats (n + 1) y2_126 z_far_126 =
  (if v_seats ≤ y2_126 then
  some (z_far_126)
  else
  (f_X11_findFar_136 v_seats y2_126 FU (0 : Int32) z_far_126).bind (fun u54 =>
  f_X11_findFar_126 v_seats n (y2_126 + 1) u54)) := rfl
def f_X11_findFar (v_seats : Int32) (v_far : Nat → Int32) (v_links : Nat → Int32) (x1 : Int32) : Option ((Nat → Int32)) :=
  (f_X11_findFar_2  FU (0 : Int32) v_far).bind (fun u11 =>
  (f_X11_findFar_51 v_seats v_links x1 FU (0 : Int32) u11).bind (fun u33 =>
  (f_X11_findFar_126 v_seats FU (0 : Int32) u33).bind (fun u55 =>
  some (u55))))
set_option maxHeartbeats 4000000 in
set_option maxRecDepth 100000 in
theorem c_X11_findFar (l : Launch) (D : va_G) (cI cJ cZ cO : ClassId) (a_t a_signs a_links a_worths a_far a_mays a_rowsTo a_endIn a_ends a_pairSets a_awayIn a_now a_then a_comers a_seen a_seenMany a_kept a_isKept : Nat) (v_signMany : Int32) (v_seats : Int32) (v_bearIs : Int32) (v_rowsAll : Int64) (v_awayUpper : Int64) (v_lower : Int64) (v_comerMany : Int32) (v_seenRows : Int32) (v_place : Int32) (v_isWriting : Int32) (v_far : Nat → Int32) (v_links : Nat → Int32) (x1 : Int32) (out : (Nat → Int32)) (hf : f_X11_findFar v_seats v_far v_links x1 = some out) : MetR l yX11_findFar (Cond.code yX11_findFar cX11_findFar 6 none :: tbG) { frames := 2, cells := 0, slots := 0, locals := 44 } D (tyL cI cJ cZ cO) [.ref a_t, .int x1] [(a_t, .inr (11, [.ref a_signs, .int v_signMany, .int v_seats, .ref a_links, .ref a_worths, .int v_bearIs, .ref a_far, .ref a_mays, .ref a_rowsTo, .ref a_endIn, .long v_rowsAll, .ref a_ends, .ref a_pairSets, .ref a_awayIn, .ref a_now, .ref a_then, .long v_awayUpper, .long v_lower, .ref a_comers, .int v_comerMany, .ref a_seen, .ref a_seenMany, .int v_seenRows, .ref a_kept, .ref a_isKept, .int v_place, .int v_isWriting])), (a_far, eI cI 144 v_far), (a_links, eI cI 12 v_links)] none [(a_t, .inr (11, [.ref a_signs, .int v_signMany, .int v_seats, .ref a_links, .ref a_worths, .int v_bearIs, .ref a_far, .ref a_mays, .ref a_rowsTo, .ref a_endIn, .long v_rowsAll, .ref a_ends, .ref a_pairSets, .ref a_awayIn, .ref a_now, .ref a_then, .long v_awayUpper, .long v_lower, .ref a_comers, .int v_comerMany, .ref a_seen, .ref a_seenMany, .int v_seenRows, .ref a_kept, .ref a_isKept, .int v_place, .int v_isWriting])), (a_far, eI cI 144 out), (a_links, eI cI 12 v_links)] := by
  refine ba_ofV RX11 [(0, .ref a_t), (1, .int x1)] (by decide +kernel) rfl (Nat.le_of_ble_eq_true rfl) rfl ?_
  intro p e s m args below meth c Q A Cx hP ret ls hl
  obtain ⟨⟨hx, hb, hml, hown, hts⟩, hK, hD, hA⟩ := id Cx
  have hS : va_S A s.heap s.heap [] := va_S.rf
  unfold f_X11_findFar at hf
  refine lv_iconst (v := 0) hx hb dX11_findFar_0 (by decide) ?_
  refine lv_istore_n (lv' := [(2, .int (0 : Int32)), (0, .ref a_t), (1, .int x1)]) hx hb dX11_findFar_1 rfl hl (by decide) rfl (fun ls hl => ?_)
  have L2_1 : ∀ (n : Nat) (y2_2 : Int32) (z_far_2 : Nat → Int32) (o : (Nat → Int32)) (H : Heap) (locs : List Loc) (ls : Array Slot), f_X11_findFar_2  n y2_2 z_far_2 = some o → va_P D vwCl [(a_t, .inr (11, [.ref a_signs, .int v_signMany, .int v_seats, .ref a_links, .ref a_worths, .int v_bearIs, .ref a_far, .ref a_mays, .ref a_rowsTo, .ref a_endIn, .long v_rowsAll, .ref a_ends, .ref a_pairSets, .ref a_awayIn, .ref a_now, .ref a_then, .long v_awayUpper, .long v_lower, .ref a_comers, .int v_comerMany, .ref a_seen, .ref a_seenMany, .int v_seenRows, .ref a_kept, .ref a_isKept, .int v_place, .int v_isWriting])), (a_far, eI cI 144 z_far_2), (a_links, eI cI 12 v_links)] H → va_S A s.heap H locs → lv_has ls 6 [(0, .ref a_t), (1, .int x1), (2, .int y2_2)] → (∀ (H : Heap) (locs : List Loc) (ls : Array Slot), va_P D vwCl [(a_t, .inr (11, [.ref a_signs, .int v_signMany, .int v_seats, .ref a_links, .ref a_worths, .int v_bearIs, .ref a_far, .ref a_mays, .ref a_rowsTo, .ref a_endIn, .long v_rowsAll, .ref a_ends, .ref a_pairSets, .ref a_awayIn, .ref a_now, .ref a_then, .long v_awayUpper, .long v_lower, .ref a_comers, .int v_comerMany, .ref a_seen, .ref a_seenMany, .int v_seenRows, .ref a_kept, .ref a_isKept, .int v_place, .int v_isWriting])), (a_far, eI cI 144 o), (a_links, eI cI 12 v_links)] H → va_S A s.heap H locs → lv_has ls 6 [(0, .ref a_t), (1, .int x1)] → W p l e { frames := 2, cells := 0, slots := 0, locals := 44 } s m args below meth c H locs 0 0 Q (F0 m 49 ls [])) → W p l e { frames := 2, cells := 0, slots := 0, locals := 44 } s m args below meth c H locs 0 0 Q (F0 m 2 ls []) := by
    intro n
    induction n with
    | zero => intro y2_2 z_far_2 o H locs ls hf; exact (ob_n hf).elim
    | succ n ih =>
      intro y2_2 z_far_2 o H locs ls hf hP hS hl kk
      rw [f_X11_findFar_2_s] at hf
      refine lv_iload_n hx hb dX11_findFar_2 rfl (lv_at hl 2 rfl) ?_
      refine lv_bipush (v := 12) hx hb dX11_findFar_3 (by decide) ?_
      refine lv_icmp_ge (tgt := 49) hx hb dX11_findFar_5 (by decide) (fun c2 => ?_) (fun c2 => ?_)
      · have hf := ob_t c2 hf
        obtain rfl := Option.some.inj hf
        exact kk _ _ _ hP hS (lv_sub hl [0, 1] rfl)
      · have hf := ob_f c2 hf
        refine lv_iconst (v := 0) hx hb dX11_findFar_8 (by decide) ?_
        refine lv_istore_n (lv' := [(3, .int (0 : Int32)), (0, .ref a_t), (1, .int x1), (2, .int y2_2)]) hx hb dX11_findFar_9 rfl hl (by decide) rfl (fun ls hl => ?_)
        have L10_3 : ∀ (n : Nat) (y3_10 : Int32) (z_far_10 : Nat → Int32) (o : (Nat → Int32)) (H : Heap) (locs : List Loc) (ls : Array Slot), f_X11_findFar_10 y2_2 n y3_10 z_far_10 = some o → va_P D vwCl [(a_t, .inr (11, [.ref a_signs, .int v_signMany, .int v_seats, .ref a_links, .ref a_worths, .int v_bearIs, .ref a_far, .ref a_mays, .ref a_rowsTo, .ref a_endIn, .long v_rowsAll, .ref a_ends, .ref a_pairSets, .ref a_awayIn, .ref a_now, .ref a_then, .long v_awayUpper, .long v_lower, .ref a_comers, .int v_comerMany, .ref a_seen, .ref a_seenMany, .int v_seenRows, .ref a_kept, .ref a_isKept, .int v_place, .int v_isWriting])), (a_far, eI cI 144 z_far_10), (a_links, eI cI 12 v_links)] H → va_S A s.heap H locs → lv_has ls 6 [(0, .ref a_t), (1, .int x1), (2, .int y2_2), (3, .int y3_10)] → (∀ (H : Heap) (locs : List Loc) (ls : Array Slot), va_P D vwCl [(a_t, .inr (11, [.ref a_signs, .int v_signMany, .int v_seats, .ref a_links, .ref a_worths, .int v_bearIs, .ref a_far, .ref a_mays, .ref a_rowsTo, .ref a_endIn, .long v_rowsAll, .ref a_ends, .ref a_pairSets, .ref a_awayIn, .ref a_now, .ref a_then, .long v_awayUpper, .long v_lower, .ref a_comers, .int v_comerMany, .ref a_seen, .ref a_seenMany, .int v_seenRows, .ref a_kept, .ref a_isKept, .int v_place, .int v_isWriting])), (a_far, eI cI 144 o), (a_links, eI cI 12 v_links)] H → va_S A s.heap H locs → lv_has ls 6 [(0, .ref a_t), (1, .int x1), (2, .int y2_2)] → W p l e { frames := 2, cells := 0, slots := 0, locals := 44 } s m args below meth c H locs 0 0 Q (F0 m 43 ls [])) → W p l e { frames := 2, cells := 0, slots := 0, locals := 44 } s m args below meth c H locs 0 0 Q (F0 m 10 ls []) := by
          intro n
          induction n with
          | zero => intro y3_10 z_far_10 o H locs ls hf; exact (ob_n hf).elim
          | succ n ih =>
            intro y3_10 z_far_10 o H locs ls hf hP hS hl kk
            rw [f_X11_findFar_10_s] at hf
            refine lv_iload_n hx hb dX11_findFar_10 rfl (lv_at hl 3 rfl) ?_
            refine lv_bipush (v := 12) hx hb dX11_findFar_11 (by decide) ?_
            refine lv_icmp_ge (tgt := 43) hx hb dX11_findFar_13 (by decide) (fun c4 => ?_) (fun c4 => ?_)
            · have hf := ob_t c4 hf
              obtain rfl := Option.some.inj hf
              exact kk _ _ _ hP hS (lv_sub hl [0, 1, 2] rfl)
            · have hf := ob_f c4 hf
              refine lv_aload_n hx hb dX11_findFar_16 rfl (lv_at hl 0 rfl) ?_
              refine gf_X11_19 Cx hP 0 rfl rfl dX11_findFar_17 ?_
              refine lv_iload_n hx hb dX11_findFar_20 rfl (lv_at hl 2 rfl) ?_
              refine lv_iload_n hx hb dX11_findFar_21 rfl (lv_at hl 3 rfl) ?_
              obtain ⟨u5, hu5, hf⟩ := ob_b hf
              refine iv_X11_92 (As := [.int y2_2, .int y3_10]) (rest := [.ref a_far]) (is := []) (X' := [(a_t, .inr (11, [.ref a_signs, .int v_signMany, .int v_seats, .ref a_links, .ref a_worths, .int v_bearIs, .ref a_far, .ref a_mays, .ref a_rowsTo, .ref a_endIn, .long v_rowsAll, .ref a_ends, .ref a_pairSets, .ref a_awayIn, .ref a_now, .ref a_then, .long v_awayUpper, .long v_lower, .ref a_comers, .int v_comerMany, .ref a_seen, .ref a_seenMany, .int v_seenRows, .ref a_kept, .ref a_isKept, .int v_place, .int v_isWriting])), (a_far, eI cI 144 z_far_10), (a_links, eI cI 12 v_links)]) Cx (c_X11_at l D cI cJ cZ cO  y2_2 y3_10 u5 hu5) hP hS rfl rfl rfl rfl rfl rfl hl.1 (Nat.le_of_ble_eq_true rfl) dX11_findFar_22 rfl rfl ⟨Nat.le_of_ble_eq_true rfl, Nat.le_of_ble_eq_true rfl⟩ ⟨Nat.zero_le _, Nat.zero_le _⟩ rfl (fun H locs hP hS => ?_)
              refine lv_iload_n hx hb dX11_findFar_25 rfl (lv_at hl 2 rfl) ?_
              refine lv_iload_n hx hb dX11_findFar_26 rfl (lv_at hl 3 rfl) ?_
              refine ob_J (P := fun w6 => ∀ (H : Heap) (locs : List Loc) (ls : Array Slot), va_P D vwCl [(a_t, .inr (11, [.ref a_signs, .int v_signMany, .int v_seats, .ref a_links, .ref a_worths, .int v_bearIs, .ref a_far, .ref a_mays, .ref a_rowsTo, .ref a_endIn, .long v_rowsAll, .ref a_ends, .ref a_pairSets, .ref a_awayIn, .ref a_now, .ref a_then, .long v_awayUpper, .long v_lower, .ref a_comers, .int v_comerMany, .ref a_seen, .ref a_seenMany, .int v_seenRows, .ref a_kept, .ref a_isKept, .int v_place, .int v_isWriting])), (a_far, eI cI 144 z_far_10), (a_links, eI cI 12 v_links)] H → va_S A s.heap H locs → lv_has ls 6 [(0, .ref a_t), (1, .int x1), (2, .int y2_2), (3, .int y3_10)] → W p l e { frames := 2, cells := 0, slots := 0, locals := 44 } s m args below meth c H locs 0 0 Q (F0 m 36 ls [.int w6, .int u5, .ref a_far])) hf ?_ ?_
              · intro w6 hf H locs ls hP hS hl
                obtain ⟨u8, hu8, hf⟩ := ob_b hf
                refine ba_iast (X' := [(a_t, .inr (11, [.ref a_signs, .int v_signMany, .int v_seats, .ref a_links, .ref a_worths, .int v_bearIs, .ref a_far, .ref a_mays, .ref a_rowsTo, .ref a_endIn, .long v_rowsAll, .ref a_ends, .ref a_pairSets, .ref a_awayIn, .ref a_now, .ref a_then, .long v_awayUpper, .long v_lower, .ref a_comers, .int v_comerMany, .ref a_seen, .ref a_seenMany, .int v_seenRows, .ref a_kept, .ref a_isKept, .int v_place, .int v_isWriting])), (a_far, eI cI 144 u8), (a_links, eI cI 12 v_links)]) Cx hP hS rfl 1 rfl rfl hu8 dX11_findFar_36 (fun H locs hP hS => ?_)
                refine lv_iinc (v := (y3_10 + 1)) (lv' := [(3, .int (y3_10 + 1)), (0, .ref a_t), (1, .int x1), (2, .int y2_2)]) hx hb dX11_findFar_37 hl (k := 3) rfl rfl (by decide) rfl (fun ls hl => ?_)
                refine lv_goto (tgt := 10) hx hb dX11_findFar_40 (by decide) ?_
                exact ih (y3_10 + 1) u8 _ _ _ _ hf hP hS (lv_sub hl [1, 2, 3, 0] rfl) kk
              · intro J36_7 hf
                refine lv_icmp_ne (tgt := 34) hx hb dX11_findFar_27 (by decide) (fun c9 => ?_) (fun c9 => ?_)
                · have hf := ob_fk c9 hf
                  refine lv_bipush (v := 99) hx hb dX11_findFar_34 (by decide) ?_
                  exact J36_7 (99 : Int32) hf _ _ _ hP hS (lv_sub hl [0, 1, 2, 3] rfl)
                · have hf := ob_tk c9 hf
                  refine lv_iconst (v := 0) hx hb dX11_findFar_30 (by decide) ?_
                  refine lv_goto (tgt := 36) hx hb dX11_findFar_31 (by decide) ?_
                  exact J36_7 (0 : Int32) hf _ _ _ hP hS (lv_sub hl [0, 1, 2, 3] rfl)
        obtain ⟨u10, hu10, hf⟩ := ob_b hf
        refine L10_3 FU (0 : Int32) z_far_2 u10 _ _ _ hu10 hP hS (lv_sub hl [1, 2, 3, 0] rfl) ?_
        intro H locs ls hP hS hl
        refine lv_iinc (v := (y2_2 + 1)) (lv' := [(2, .int (y2_2 + 1)), (0, .ref a_t), (1, .int x1)]) hx hb dX11_findFar_43 hl (k := 2) rfl rfl (by decide) rfl (fun ls hl => ?_)
        refine lv_goto (tgt := 2) hx hb dX11_findFar_46 (by decide) ?_
        exact ih (y2_2 + 1) u10 _ _ _ _ hf hP hS (lv_sub hl [1, 2, 0] rfl) kk
  obtain ⟨u11, hu11, hf⟩ := ob_b hf
  refine L2_1 FU (0 : Int32) v_far u11 _ _ _ hu11 hP hS (lv_sub hl [1, 2, 0] rfl) ?_
  intro H locs ls hP hS hl
  refine lv_iconst (v := 0) hx hb dX11_findFar_49 (by decide) ?_
  refine lv_istore_n (lv' := [(2, .int (0 : Int32)), (0, .ref a_t), (1, .int x1)]) hx hb dX11_findFar_50 rfl hl (by decide) rfl (fun ls hl => ?_)
  have L51_12 : ∀ (n : Nat) (y2_51 : Int32) (z_far_51 : Nat → Int32) (o : (Nat → Int32)) (H : Heap) (locs : List Loc) (ls : Array Slot), f_X11_findFar_51 v_seats v_links x1 n y2_51 z_far_51 = some o → va_P D vwCl [(a_t, .inr (11, [.ref a_signs, .int v_signMany, .int v_seats, .ref a_links, .ref a_worths, .int v_bearIs, .ref a_far, .ref a_mays, .ref a_rowsTo, .ref a_endIn, .long v_rowsAll, .ref a_ends, .ref a_pairSets, .ref a_awayIn, .ref a_now, .ref a_then, .long v_awayUpper, .long v_lower, .ref a_comers, .int v_comerMany, .ref a_seen, .ref a_seenMany, .int v_seenRows, .ref a_kept, .ref a_isKept, .int v_place, .int v_isWriting])), (a_far, eI cI 144 z_far_51), (a_links, eI cI 12 v_links)] H → va_S A s.heap H locs → lv_has ls 6 [(0, .ref a_t), (1, .int x1), (2, .int y2_51)] → (∀ (H : Heap) (locs : List Loc) (ls : Array Slot), va_P D vwCl [(a_t, .inr (11, [.ref a_signs, .int v_signMany, .int v_seats, .ref a_links, .ref a_worths, .int v_bearIs, .ref a_far, .ref a_mays, .ref a_rowsTo, .ref a_endIn, .long v_rowsAll, .ref a_ends, .ref a_pairSets, .ref a_awayIn, .ref a_now, .ref a_then, .long v_awayUpper, .long v_lower, .ref a_comers, .int v_comerMany, .ref a_seen, .ref a_seenMany, .int v_seenRows, .ref a_kept, .ref a_isKept, .int v_place, .int v_isWriting])), (a_far, eI cI 144 o), (a_links, eI cI 12 v_links)] H → va_S A s.heap H locs → lv_has ls 6 [(0, .ref a_t)] → W p l e { frames := 2, cells := 0, slots := 0, locals := 44 } s m args below meth c H locs 0 0 Q (F0 m 124 ls [])) → W p l e { frames := 2, cells := 0, slots := 0, locals := 44 } s m args below meth c H locs 0 0 Q (F0 m 51 ls []) := by
    intro n
    induction n with
    | zero => intro y2_51 z_far_51 o H locs ls hf; exact (ob_n hf).elim
    | succ n ih =>
      intro y2_51 z_far_51 o H locs ls hf hP hS hl kk
      rw [f_X11_findFar_51_s] at hf
      refine lv_iload_n hx hb dX11_findFar_51 rfl (lv_at hl 2 rfl) ?_
      refine lv_aload_n hx hb dX11_findFar_52 rfl (lv_at hl 0 rfl) ?_
      refine gf_X11_63 Cx hP 0 rfl rfl dX11_findFar_53 ?_
      refine lv_icmp_ge (tgt := 124) hx hb dX11_findFar_56 (by decide) (fun c13 => ?_) (fun c13 => ?_)
      · have hf := ob_t c13 hf
        obtain rfl := Option.some.inj hf
        exact kk _ _ _ hP hS (lv_sub hl [0] rfl)
      · have hf := ob_f c13 hf
        refine lv_iload_n hx hb dX11_findFar_59 rfl (lv_at hl 2 rfl) ?_
        refine lv_aload_n hx hb dX11_findFar_60 rfl (lv_at hl 0 rfl) ?_
        refine gf_X11_63 Cx hP 0 rfl rfl dX11_findFar_61 ?_
        refine lv_iconst (v := 1) hx hb dX11_findFar_64 (by decide) ?_
        refine lv_isub hx hb dX11_findFar_65 ?_
        refine ob_J (P := fun w14 => ∀ (H : Heap) (locs : List Loc) (ls : Array Slot), va_P D vwCl [(a_t, .inr (11, [.ref a_signs, .int v_signMany, .int v_seats, .ref a_links, .ref a_worths, .int v_bearIs, .ref a_far, .ref a_mays, .ref a_rowsTo, .ref a_endIn, .long v_rowsAll, .ref a_ends, .ref a_pairSets, .ref a_awayIn, .ref a_now, .ref a_then, .long v_awayUpper, .long v_lower, .ref a_comers, .int v_comerMany, .ref a_seen, .ref a_seenMany, .int v_seenRows, .ref a_kept, .ref a_isKept, .int v_place, .int v_isWriting])), (a_far, eI cI 144 z_far_51), (a_links, eI cI 12 v_links)] H → va_S A s.heap H locs → lv_has ls 6 [(0, .ref a_t), (1, .int x1), (2, .int y2_51)] → W p l e { frames := 2, cells := 0, slots := 0, locals := 44 } s m args below meth c H locs 0 0 Q (F0 m 74 ls [.int w14])) hf ?_ ?_
        · intro w14 hf H locs ls hP hS hl
          refine lv_istore_n (lv' := [(3, .int w14), (0, .ref a_t), (1, .int x1), (2, .int y2_51)]) hx hb dX11_findFar_74 rfl hl (by decide) rfl (fun ls hl => ?_)
          refine lv_aload_n hx hb dX11_findFar_75 rfl (lv_at hl 1 rfl) ?_
          refine gf_X11_13 Cx hP 0 rfl rfl dX11_findFar_76 ?_
          refine lv_iload_n hx hb dX11_findFar_79 rfl (lv_at hl 3 rfl) ?_
          obtain ⟨u16, hu16, hf⟩ := ob_b hf
          refine ba_iald Cx hP 2 rfl hu16 dX11_findFar_80 ?_
          refine ob_J (P := fun w17 => ∀ (H : Heap) (locs : List Loc) (ls : Array Slot), va_P D vwCl [(a_t, .inr (11, [.ref a_signs, .int v_signMany, .int v_seats, .ref a_links, .ref a_worths, .int v_bearIs, .ref a_far, .ref a_mays, .ref a_rowsTo, .ref a_endIn, .long v_rowsAll, .ref a_ends, .ref a_pairSets, .ref a_awayIn, .ref a_now, .ref a_then, .long v_awayUpper, .long v_lower, .ref a_comers, .int v_comerMany, .ref a_seen, .ref a_seenMany, .int v_seenRows, .ref a_kept, .ref a_isKept, .int v_place, .int v_isWriting])), (a_far, eI cI 144 w17), (a_links, eI cI 12 v_links)] H → va_S A s.heap H locs → lv_has ls 6 [(0, .ref a_t), (1, .int x1), (2, .int y2_51)] → W p l e { frames := 2, cells := 0, slots := 0, locals := 44 } s m args below meth c H locs 0 0 Q (F0 m 118 ls [])) hf ?_ ?_
          · intro w17 hf H locs ls hP hS hl
            refine lv_iinc (v := (y2_51 + 1)) (lv' := [(2, .int (y2_51 + 1)), (0, .ref a_t), (1, .int x1)]) hx hb dX11_findFar_118 hl (k := 2) rfl rfl (by decide) rfl (fun ls hl => ?_)
            refine lv_goto (tgt := 51) hx hb dX11_findFar_121 (by decide) ?_
            exact ih (y2_51 + 1) w17 _ _ _ _ hf hP hS (lv_sub hl [1, 2, 0] rfl) kk
          · intro J118_18 hf
            refine lv_if_le (tgt := 118) hx hb dX11_findFar_81 (by decide) (fun c19 => ?_) (fun c19 => ?_)
            · have hf := ob_tk c19 hf
              exact J118_18 z_far_51 hf _ _ _ hP hS (lv_sub hl [1, 2, 3] rfl)
            · have hf := ob_fk c19 hf
              refine lv_iload_n hx hb dX11_findFar_84 rfl (lv_at hl 0 rfl) ?_
              refine lv_if_ne (tgt := 96) hx hb dX11_findFar_85 (by decide) (fun c20 => ?_) (fun c20 => ?_)
              · have hf := ob_fk c20 hf
                refine lv_aload_n hx hb dX11_findFar_96 rfl (lv_at hl 1 rfl) ?_
                refine lv_iload_n hx hb dX11_findFar_97 rfl (lv_at hl 3 rfl) ?_
                refine lv_iload_n hx hb dX11_findFar_98 rfl (lv_at hl 0 rfl) ?_
                have hf := ob_as hf
                refine ob_J (P := fun w21 => ∀ (H : Heap) (locs : List Loc) (ls : Array Slot), va_P D vwCl [(a_t, .inr (11, [.ref a_signs, .int v_signMany, .int v_seats, .ref a_links, .ref a_worths, .int v_bearIs, .ref a_far, .ref a_mays, .ref a_rowsTo, .ref a_endIn, .long v_rowsAll, .ref a_ends, .ref a_pairSets, .ref a_awayIn, .ref a_now, .ref a_then, .long v_awayUpper, .long v_lower, .ref a_comers, .int v_comerMany, .ref a_seen, .ref a_seenMany, .int v_seenRows, .ref a_kept, .ref a_isKept, .int v_place, .int v_isWriting])), (a_far, eI cI 144 z_far_51), (a_links, eI cI 12 v_links)] H → va_S A s.heap H locs → lv_has ls 6 [(0, .ref a_t), (1, .int x1), (2, .int y2_51)] → W p l e { frames := 2, cells := 0, slots := 0, locals := 44 } s m args below meth c H locs 0 0 Q (F0 m 109 ls [.int w21, .int y2_51, .ref a_t])) hf ?_ ?_
                · intro w21 hf H locs ls hP hS hl
                  refine lv_aload_n hx hb dX11_findFar_109 rfl (lv_at hl 0 rfl) ?_
                  refine gf_X11_13 Cx hP 0 rfl rfl dX11_findFar_110 ?_
                  refine lv_iload_n hx hb dX11_findFar_113 rfl (lv_at hl 2 rfl) ?_
                  obtain ⟨u23, hu23, hf⟩ := ob_bk hf
                  refine ba_iald Cx hP 2 rfl hu23 dX11_findFar_114 ?_
                  obtain ⟨u24, hu24, hf⟩ := ob_bk hf
                  refine iv_X11_96 (As := [.int y2_51, .int w21, .int u23]) (rest := []) (is := [0, 1]) (q0 := 0) (X' := [(a_t, .inr (11, [.ref a_signs, .int v_signMany, .int v_seats, .ref a_links, .ref a_worths, .int v_bearIs, .ref a_far, .ref a_mays, .ref a_rowsTo, .ref a_endIn, .long v_rowsAll, .ref a_ends, .ref a_pairSets, .ref a_awayIn, .ref a_now, .ref a_then, .long v_awayUpper, .long v_lower, .ref a_comers, .int v_comerMany, .ref a_seen, .ref a_seenMany, .int v_seenRows, .ref a_kept, .ref a_isKept, .int v_place, .int v_isWriting])), (a_far, eI cI 144 u24), (a_links, eI cI 12 v_links)]) Cx (c_X11_link l D cI cJ cZ cO a_t a_signs a_links a_worths a_far a_mays a_rowsTo a_endIn a_ends a_pairSets a_awayIn a_now a_then a_comers a_seen a_seenMany a_kept a_isKept v_signMany v_seats v_bearIs v_rowsAll v_awayUpper v_lower v_comerMany v_seenRows v_place v_isWriting z_far_51 y2_51 w21 u23 u24 hu24) hP hS rfl rfl rfl rfl rfl rfl rfl hl.1 (Nat.le_of_ble_eq_true rfl) dX11_findFar_115 rfl rfl ⟨Nat.le_of_ble_eq_true rfl, Nat.le_of_ble_eq_true rfl⟩ ⟨Nat.zero_le _, Nat.zero_le _⟩ rfl (fun H locs hP hS => ?_)
                  exact J118_18 u24 hf _ _ _ hP hS (lv_sub hl [0, 1, 2] rfl)
                · intro J109_22 hf
                  refine lv_if_eq (tgt := 106) hx hb dX11_findFar_99 (by decide) (fun c25 => ?_) (fun c25 => ?_)
                  · have hf := ob_tk c25 hf
                    refine lv_iload_n hx hb dX11_findFar_106 rfl (lv_at hl 3 rfl) ?_
                    refine lv_iconst (v := 1) hx hb dX11_findFar_107 (by decide) ?_
                    refine lv_iadd hx hb dX11_findFar_108 ?_
                    exact J109_22 (y2_51 + (1 : Int32)) hf _ _ _ hP hS (lv_sub hl [1, 2, 3] rfl)
                  · have hf := ob_fk c25 hf
                    refine lv_iconst (v := 0) hx hb dX11_findFar_102 (by decide) ?_
                    refine lv_goto (tgt := 109) hx hb dX11_findFar_103 (by decide) ?_
                    exact J109_22 (0 : Int32) hf _ _ _ hP hS (lv_sub hl [1, 2, 3] rfl)
              · have hf := ob_tk c20 hf
                refine lv_iload_n hx hb dX11_findFar_88 rfl (lv_at hl 2 rfl) ?_
                refine lv_iload_n hx hb dX11_findFar_89 rfl (lv_at hl 3 rfl) ?_
                refine lv_ishr hx hb dX11_findFar_90 ?_
                refine lv_iconst (v := 1) hx hb dX11_findFar_91 (by decide) ?_
                refine lv_iand hx hb dX11_findFar_92 ?_
                refine lv_if_ne (tgt := 118) hx hb dX11_findFar_93 (by decide) (fun c26 => ?_) (fun c26 => ?_)
                · have hf := ob_fk c26 hf
                  exact J118_18 z_far_51 hf _ _ _ hP hS (lv_sub hl [1, 2, 3] rfl)
                · have hf := ob_tk c26 hf
                  refine lv_aload_n hx hb dX11_findFar_96 rfl (lv_at hl 1 rfl) ?_
                  refine lv_iload_n hx hb dX11_findFar_97 rfl (lv_at hl 3 rfl) ?_
                  refine lv_iload_n hx hb dX11_findFar_98 rfl (lv_at hl 0 rfl) ?_
                  have hf := ob_as hf
                  refine ob_J (P := fun w27 => ∀ (H : Heap) (locs : List Loc) (ls : Array Slot), va_P D vwCl [(a_t, .inr (11, [.ref a_signs, .int v_signMany, .int v_seats, .ref a_links, .ref a_worths, .int v_bearIs, .ref a_far, .ref a_mays, .ref a_rowsTo, .ref a_endIn, .long v_rowsAll, .ref a_ends, .ref a_pairSets, .ref a_awayIn, .ref a_now, .ref a_then, .long v_awayUpper, .long v_lower, .ref a_comers, .int v_comerMany, .ref a_seen, .ref a_seenMany, .int v_seenRows, .ref a_kept, .ref a_isKept, .int v_place, .int v_isWriting])), (a_far, eI cI 144 z_far_51), (a_links, eI cI 12 v_links)] H → va_S A s.heap H locs → lv_has ls 6 [(0, .ref a_t), (1, .int x1), (2, .int y2_51)] → W p l e { frames := 2, cells := 0, slots := 0, locals := 44 } s m args below meth c H locs 0 0 Q (F0 m 109 ls [.int w27, .int y2_51, .ref a_t])) hf ?_ ?_
                  · intro w27 hf H locs ls hP hS hl
                    refine lv_aload_n hx hb dX11_findFar_109 rfl (lv_at hl 0 rfl) ?_
                    refine gf_X11_13 Cx hP 0 rfl rfl dX11_findFar_110 ?_
                    refine lv_iload_n hx hb dX11_findFar_113 rfl (lv_at hl 2 rfl) ?_
                    obtain ⟨u29, hu29, hf⟩ := ob_bk hf
                    refine ba_iald Cx hP 2 rfl hu29 dX11_findFar_114 ?_
                    obtain ⟨u30, hu30, hf⟩ := ob_bk hf
                    refine iv_X11_96 (As := [.int y2_51, .int w27, .int u29]) (rest := []) (is := [0, 1]) (q0 := 0) (X' := [(a_t, .inr (11, [.ref a_signs, .int v_signMany, .int v_seats, .ref a_links, .ref a_worths, .int v_bearIs, .ref a_far, .ref a_mays, .ref a_rowsTo, .ref a_endIn, .long v_rowsAll, .ref a_ends, .ref a_pairSets, .ref a_awayIn, .ref a_now, .ref a_then, .long v_awayUpper, .long v_lower, .ref a_comers, .int v_comerMany, .ref a_seen, .ref a_seenMany, .int v_seenRows, .ref a_kept, .ref a_isKept, .int v_place, .int v_isWriting])), (a_far, eI cI 144 u30), (a_links, eI cI 12 v_links)]) Cx (c_X11_link l D cI cJ cZ cO a_t a_signs a_links a_worths a_far a_mays a_rowsTo a_endIn a_ends a_pairSets a_awayIn a_now a_then a_comers a_seen a_seenMany a_kept a_isKept v_signMany v_seats v_bearIs v_rowsAll v_awayUpper v_lower v_comerMany v_seenRows v_place v_isWriting z_far_51 y2_51 w27 u29 u30 hu30) hP hS rfl rfl rfl rfl rfl rfl rfl hl.1 (Nat.le_of_ble_eq_true rfl) dX11_findFar_115 rfl rfl ⟨Nat.le_of_ble_eq_true rfl, Nat.le_of_ble_eq_true rfl⟩ ⟨Nat.zero_le _, Nat.zero_le _⟩ rfl (fun H locs hP hS => ?_)
                    exact J118_18 u30 hf _ _ _ hP hS (lv_sub hl [0, 1, 2] rfl)
                  · intro J109_28 hf
                    refine lv_if_eq (tgt := 106) hx hb dX11_findFar_99 (by decide) (fun c31 => ?_) (fun c31 => ?_)
                    · have hf := ob_tk c31 hf
                      refine lv_iload_n hx hb dX11_findFar_106 rfl (lv_at hl 3 rfl) ?_
                      refine lv_iconst (v := 1) hx hb dX11_findFar_107 (by decide) ?_
                      refine lv_iadd hx hb dX11_findFar_108 ?_
                      exact J109_28 (y2_51 + (1 : Int32)) hf _ _ _ hP hS (lv_sub hl [1, 2, 3] rfl)
                    · have hf := ob_fk c31 hf
                      refine lv_iconst (v := 0) hx hb dX11_findFar_102 (by decide) ?_
                      refine lv_goto (tgt := 109) hx hb dX11_findFar_103 (by decide) ?_
                      exact J109_28 (0 : Int32) hf _ _ _ hP hS (lv_sub hl [1, 2, 3] rfl)
        · intro J74_15 hf
          refine lv_icmp_ne (tgt := 73) hx hb dX11_findFar_66 (by decide) (fun c32 => ?_) (fun c32 => ?_)
          · have hf := ob_fk c32 hf
            refine lv_iconst (v := 0) hx hb dX11_findFar_73 (by decide) ?_
            exact J74_15 (0 : Int32) hf _ _ _ hP hS (lv_sub hl [0, 1, 2] rfl)
          · have hf := ob_tk c32 hf
            refine lv_iconst (v := 1) hx hb dX11_findFar_69 (by decide) ?_
            refine lv_goto (tgt := 74) hx hb dX11_findFar_70 (by decide) ?_
            exact J74_15 (1 : Int32) hf _ _ _ hP hS (lv_sub hl [0, 1, 2] rfl)
  obtain ⟨u33, hu33, hf⟩ := ob_b hf
  refine L51_12 FU (0 : Int32) u11 u33 _ _ _ hu33 hP hS (lv_sub hl [1, 2, 0] rfl) ?_
  intro H locs ls hP hS hl
  refine lv_iconst (v := 0) hx hb dX11_findFar_124 (by decide) ?_
  refine lv_istore_n (lv' := [(2, .int (0 : Int32)), (0, .ref a_t)]) hx hb dX11_findFar_125 rfl hl (by decide) rfl (fun ls hl => ?_)
  have L126_34 : ∀ (n : Nat) (y2_126 : Int32) (z_far_126 : Nat → Int32) (o : (Nat → Int32)) (H : Heap) (locs : List Loc) (ls : Array Slot), f_X11_findFar_126 v_seats n y2_126 z_far_126 = some o → va_P D vwCl [(a_t, .inr (11, [.ref a_signs, .int v_signMany, .int v_seats, .ref a_links, .ref a_worths, .int v_bearIs, .ref a_far, .ref a_mays, .ref a_rowsTo, .ref a_endIn, .long v_rowsAll, .ref a_ends, .ref a_pairSets, .ref a_awayIn, .ref a_now, .ref a_then, .long v_awayUpper, .long v_lower, .ref a_comers, .int v_comerMany, .ref a_seen, .ref a_seenMany, .int v_seenRows, .ref a_kept, .ref a_isKept, .int v_place, .int v_isWriting])), (a_far, eI cI 144 z_far_126), (a_links, eI cI 12 v_links)] H → va_S A s.heap H locs → lv_has ls 6 [(0, .ref a_t), (2, .int y2_126)] → (∀ (H : Heap) (locs : List Loc) (ls : Array Slot), va_P D vwCl [(a_t, .inr (11, [.ref a_signs, .int v_signMany, .int v_seats, .ref a_links, .ref a_worths, .int v_bearIs, .ref a_far, .ref a_mays, .ref a_rowsTo, .ref a_endIn, .long v_rowsAll, .ref a_ends, .ref a_pairSets, .ref a_awayIn, .ref a_now, .ref a_then, .long v_awayUpper, .long v_lower, .ref a_comers, .int v_comerMany, .ref a_seen, .ref a_seenMany, .int v_seenRows, .ref a_kept, .ref a_isKept, .int v_place, .int v_isWriting])), (a_far, eI cI 144 o), (a_links, eI cI 12 v_links)] H → va_S A s.heap H locs → lv_has ls 6 [] → W p l e { frames := 2, cells := 0, slots := 0, locals := 44 } s m args below meth c H locs 0 0 Q (F0 m 241 ls [])) → W p l e { frames := 2, cells := 0, slots := 0, locals := 44 } s m args below meth c H locs 0 0 Q (F0 m 126 ls []) := by
    intro n
    induction n with
    | zero => intro y2_126 z_far_126 o H locs ls hf; exact (ob_n hf).elim
    | succ n ih =>
      intro y2_126 z_far_126 o H locs ls hf hP hS hl kk
      rw [f_X11_findFar_126_s] at hf
      refine lv_iload_n hx hb dX11_findFar_126 rfl (lv_at hl 1 rfl) ?_
      refine lv_aload_n hx hb dX11_findFar_127 rfl (lv_at hl 0 rfl) ?_
      refine gf_X11_63 Cx hP 0 rfl rfl dX11_findFar_128 ?_
      refine lv_icmp_ge (tgt := 241) hx hb dX11_findFar_131 (by decide) (fun c35 => ?_) (fun c35 => ?_)
      · have hf := ob_t c35 hf
        obtain rfl := Option.some.inj hf
        exact kk _ _ _ hP hS (lv_sub hl [] rfl)
      · have hf := ob_f c35 hf
        refine lv_iconst (v := 0) hx hb dX11_findFar_134 (by decide) ?_
        refine lv_istore_n (lv' := [(3, .int (0 : Int32)), (0, .ref a_t), (2, .int y2_126)]) hx hb dX11_findFar_135 rfl hl (by decide) rfl (fun ls hl => ?_)
        have L136_36 : ∀ (n : Nat) (y3_136 : Int32) (z_far_136 : Nat → Int32) (o : (Nat → Int32)) (H : Heap) (locs : List Loc) (ls : Array Slot), f_X11_findFar_136 v_seats y2_126 n y3_136 z_far_136 = some o → va_P D vwCl [(a_t, .inr (11, [.ref a_signs, .int v_signMany, .int v_seats, .ref a_links, .ref a_worths, .int v_bearIs, .ref a_far, .ref a_mays, .ref a_rowsTo, .ref a_endIn, .long v_rowsAll, .ref a_ends, .ref a_pairSets, .ref a_awayIn, .ref a_now, .ref a_then, .long v_awayUpper, .long v_lower, .ref a_comers, .int v_comerMany, .ref a_seen, .ref a_seenMany, .int v_seenRows, .ref a_kept, .ref a_isKept, .int v_place, .int v_isWriting])), (a_far, eI cI 144 z_far_136), (a_links, eI cI 12 v_links)] H → va_S A s.heap H locs → lv_has ls 6 [(0, .ref a_t), (2, .int y2_126), (3, .int y3_136)] → (∀ (H : Heap) (locs : List Loc) (ls : Array Slot), va_P D vwCl [(a_t, .inr (11, [.ref a_signs, .int v_signMany, .int v_seats, .ref a_links, .ref a_worths, .int v_bearIs, .ref a_far, .ref a_mays, .ref a_rowsTo, .ref a_endIn, .long v_rowsAll, .ref a_ends, .ref a_pairSets, .ref a_awayIn, .ref a_now, .ref a_then, .long v_awayUpper, .long v_lower, .ref a_comers, .int v_comerMany, .ref a_seen, .ref a_seenMany, .int v_seenRows, .ref a_kept, .ref a_isKept, .int v_place, .int v_isWriting])), (a_far, eI cI 144 o), (a_links, eI cI 12 v_links)] H → va_S A s.heap H locs → lv_has ls 6 [(0, .ref a_t), (2, .int y2_126)] → W p l e { frames := 2, cells := 0, slots := 0, locals := 44 } s m args below meth c H locs 0 0 Q (F0 m 235 ls [])) → W p l e { frames := 2, cells := 0, slots := 0, locals := 44 } s m args below meth c H locs 0 0 Q (F0 m 136 ls []) := by
          intro n
          induction n with
          | zero => intro y3_136 z_far_136 o H locs ls hf; exact (ob_n hf).elim
          | succ n ih =>
            intro y3_136 z_far_136 o H locs ls hf hP hS hl kk
            rw [f_X11_findFar_136_s] at hf
            refine lv_iload_n hx hb dX11_findFar_136 rfl (lv_at hl 2 rfl) ?_
            refine lv_aload_n hx hb dX11_findFar_137 rfl (lv_at hl 0 rfl) ?_
            refine gf_X11_63 Cx hP 0 rfl rfl dX11_findFar_138 ?_
            refine lv_icmp_ge (tgt := 235) hx hb dX11_findFar_141 (by decide) (fun c37 => ?_) (fun c37 => ?_)
            · have hf := ob_t c37 hf
              obtain rfl := Option.some.inj hf
              exact kk _ _ _ hP hS (lv_sub hl [0, 1] rfl)
            · have hf := ob_f c37 hf
              refine lv_iconst (v := 0) hx hb dX11_findFar_144 (by decide) ?_
              refine lv_istore (lv' := [(4, .int (0 : Int32)), (0, .ref a_t), (2, .int y2_126), (3, .int y3_136)]) hx hb dX11_findFar_145 hl (by decide) rfl (fun ls hl => ?_)
              have L147_38 : ∀ (n : Nat) (y4_147 : Int32) (z_far_147 : Nat → Int32) (o : (Nat → Int32)) (H : Heap) (locs : List Loc) (ls : Array Slot), f_X11_findFar_147 v_seats y2_126 y3_136 n y4_147 z_far_147 = some o → va_P D vwCl [(a_t, .inr (11, [.ref a_signs, .int v_signMany, .int v_seats, .ref a_links, .ref a_worths, .int v_bearIs, .ref a_far, .ref a_mays, .ref a_rowsTo, .ref a_endIn, .long v_rowsAll, .ref a_ends, .ref a_pairSets, .ref a_awayIn, .ref a_now, .ref a_then, .long v_awayUpper, .long v_lower, .ref a_comers, .int v_comerMany, .ref a_seen, .ref a_seenMany, .int v_seenRows, .ref a_kept, .ref a_isKept, .int v_place, .int v_isWriting])), (a_far, eI cI 144 z_far_147), (a_links, eI cI 12 v_links)] H → va_S A s.heap H locs → lv_has ls 6 [(0, .ref a_t), (2, .int y2_126), (3, .int y3_136), (4, .int y4_147)] → (∀ (H : Heap) (locs : List Loc) (ls : Array Slot), va_P D vwCl [(a_t, .inr (11, [.ref a_signs, .int v_signMany, .int v_seats, .ref a_links, .ref a_worths, .int v_bearIs, .ref a_far, .ref a_mays, .ref a_rowsTo, .ref a_endIn, .long v_rowsAll, .ref a_ends, .ref a_pairSets, .ref a_awayIn, .ref a_now, .ref a_then, .long v_awayUpper, .long v_lower, .ref a_comers, .int v_comerMany, .ref a_seen, .ref a_seenMany, .int v_seenRows, .ref a_kept, .ref a_isKept, .int v_place, .int v_isWriting])), (a_far, eI cI 144 o), (a_links, eI cI 12 v_links)] H → va_S A s.heap H locs → lv_has ls 6 [(0, .ref a_t), (2, .int y2_126), (3, .int y3_136)] → W p l e { frames := 2, cells := 0, slots := 0, locals := 44 } s m args below meth c H locs 0 0 Q (F0 m 229 ls [])) → W p l e { frames := 2, cells := 0, slots := 0, locals := 44 } s m args below meth c H locs 0 0 Q (F0 m 147 ls []) := by
                intro n
                induction n with
                | zero => intro y4_147 z_far_147 o H locs ls hf; exact (ob_n hf).elim
                | succ n ih =>
                  intro y4_147 z_far_147 o H locs ls hf hP hS hl kk
                  rw [f_X11_findFar_147_s] at hf
                  refine lv_iload hx hb dX11_findFar_147 (lv_at hl 3 rfl) ?_
                  refine lv_aload_n hx hb dX11_findFar_149 rfl (lv_at hl 0 rfl) ?_
                  refine gf_X11_63 Cx hP 0 rfl rfl dX11_findFar_150 ?_
                  refine lv_icmp_ge (tgt := 229) hx hb dX11_findFar_153 (by decide) (fun c39 => ?_) (fun c39 => ?_)
                  · have hf := ob_t c39 hf
                    obtain rfl := Option.some.inj hf
                    exact kk _ _ _ hP hS (lv_sub hl [0, 1, 2] rfl)
                  · have hf := ob_f c39 hf
                    refine lv_aload_n hx hb dX11_findFar_156 rfl (lv_at hl 0 rfl) ?_
                    refine gf_X11_19 Cx hP 0 rfl rfl dX11_findFar_157 ?_
                    refine lv_iload_n hx hb dX11_findFar_160 rfl (lv_at hl 2 rfl) ?_
                    refine lv_iload_n hx hb dX11_findFar_161 rfl (lv_at hl 1 rfl) ?_
                    obtain ⟨u40, hu40, hf⟩ := ob_b hf
                    refine iv_X11_92 (As := [.int y3_136, .int y2_126]) (rest := [.ref a_far]) (is := []) (X' := [(a_t, .inr (11, [.ref a_signs, .int v_signMany, .int v_seats, .ref a_links, .ref a_worths, .int v_bearIs, .ref a_far, .ref a_mays, .ref a_rowsTo, .ref a_endIn, .long v_rowsAll, .ref a_ends, .ref a_pairSets, .ref a_awayIn, .ref a_now, .ref a_then, .long v_awayUpper, .long v_lower, .ref a_comers, .int v_comerMany, .ref a_seen, .ref a_seenMany, .int v_seenRows, .ref a_kept, .ref a_isKept, .int v_place, .int v_isWriting])), (a_far, eI cI 144 z_far_147), (a_links, eI cI 12 v_links)]) Cx (c_X11_at l D cI cJ cZ cO  y3_136 y2_126 u40 hu40) hP hS rfl rfl rfl rfl rfl rfl hl.1 (Nat.le_of_ble_eq_true rfl) dX11_findFar_162 rfl rfl ⟨Nat.le_of_ble_eq_true rfl, Nat.le_of_ble_eq_true rfl⟩ ⟨Nat.zero_le _, Nat.zero_le _⟩ rfl (fun H locs hP hS => ?_)
                    obtain ⟨u41, hu41, hf⟩ := ob_b hf
                    refine ba_iald Cx hP 1 rfl hu41 dX11_findFar_165 ?_
                    refine lv_aload_n hx hb dX11_findFar_166 rfl (lv_at hl 0 rfl) ?_
                    refine gf_X11_19 Cx hP 0 rfl rfl dX11_findFar_167 ?_
                    refine lv_iload_n hx hb dX11_findFar_170 rfl (lv_at hl 1 rfl) ?_
                    refine lv_iload hx hb dX11_findFar_171 (lv_at hl 3 rfl) ?_
                    obtain ⟨u42, hu42, hf⟩ := ob_b hf
                    refine iv_X11_92 (As := [.int y2_126, .int y4_147]) (rest := [.ref a_far, .int u41]) (is := []) (X' := [(a_t, .inr (11, [.ref a_signs, .int v_signMany, .int v_seats, .ref a_links, .ref a_worths, .int v_bearIs, .ref a_far, .ref a_mays, .ref a_rowsTo, .ref a_endIn, .long v_rowsAll, .ref a_ends, .ref a_pairSets, .ref a_awayIn, .ref a_now, .ref a_then, .long v_awayUpper, .long v_lower, .ref a_comers, .int v_comerMany, .ref a_seen, .ref a_seenMany, .int v_seenRows, .ref a_kept, .ref a_isKept, .int v_place, .int v_isWriting])), (a_far, eI cI 144 z_far_147), (a_links, eI cI 12 v_links)]) Cx (c_X11_at l D cI cJ cZ cO  y2_126 y4_147 u42 hu42) hP hS rfl rfl rfl rfl rfl rfl hl.1 (Nat.le_of_ble_eq_true rfl) dX11_findFar_173 rfl rfl ⟨Nat.le_of_ble_eq_true rfl, Nat.le_of_ble_eq_true rfl⟩ ⟨Nat.zero_le _, Nat.zero_le _⟩ rfl (fun H locs hP hS => ?_)
                    obtain ⟨u43, hu43, hf⟩ := ob_b hf
                    refine ba_iald Cx hP 1 rfl hu43 dX11_findFar_176 ?_
                    refine lv_iadd hx hb dX11_findFar_177 ?_
                    refine lv_istore (lv' := [(5, .int (u41 + u43)), (0, .ref a_t), (2, .int y2_126), (3, .int y3_136), (4, .int y4_147)]) hx hb dX11_findFar_178 hl (by decide) rfl (fun ls hl => ?_)
                    refine lv_aload_n hx hb dX11_findFar_180 rfl (lv_at hl 1 rfl) ?_
                    refine gf_X11_19 Cx hP 0 rfl rfl dX11_findFar_181 ?_
                    refine lv_iload_n hx hb dX11_findFar_184 rfl (lv_at hl 3 rfl) ?_
                    refine lv_iload hx hb dX11_findFar_185 (lv_at hl 4 rfl) ?_
                    obtain ⟨u44, hu44, hf⟩ := ob_b hf
                    refine iv_X11_92 (As := [.int y3_136, .int y4_147]) (rest := [.ref a_far]) (is := []) (X' := [(a_t, .inr (11, [.ref a_signs, .int v_signMany, .int v_seats, .ref a_links, .ref a_worths, .int v_bearIs, .ref a_far, .ref a_mays, .ref a_rowsTo, .ref a_endIn, .long v_rowsAll, .ref a_ends, .ref a_pairSets, .ref a_awayIn, .ref a_now, .ref a_then, .long v_awayUpper, .long v_lower, .ref a_comers, .int v_comerMany, .ref a_seen, .ref a_seenMany, .int v_seenRows, .ref a_kept, .ref a_isKept, .int v_place, .int v_isWriting])), (a_far, eI cI 144 z_far_147), (a_links, eI cI 12 v_links)]) Cx (c_X11_at l D cI cJ cZ cO  y3_136 y4_147 u44 hu44) hP hS rfl rfl rfl rfl rfl rfl hl.1 (Nat.le_of_ble_eq_true rfl) dX11_findFar_187 rfl rfl ⟨Nat.le_of_ble_eq_true rfl, Nat.le_of_ble_eq_true rfl⟩ ⟨Nat.zero_le _, Nat.zero_le _⟩ rfl (fun H locs hP hS => ?_)
                    refine lv_iload hx hb dX11_findFar_190 (lv_at hl 0 rfl) ?_
                    refine lv_aload_n hx hb dX11_findFar_192 rfl (lv_at hl 1 rfl) ?_
                    refine gf_X11_19 Cx hP 0 rfl rfl dX11_findFar_193 ?_
                    refine lv_iload_n hx hb dX11_findFar_196 rfl (lv_at hl 3 rfl) ?_
                    refine lv_iload hx hb dX11_findFar_197 (lv_at hl 4 rfl) ?_
                    obtain ⟨u45, hu45, hf⟩ := ob_b hf
                    refine iv_X11_92 (As := [.int y3_136, .int y4_147]) (rest := [.ref a_far, .int (u41 + u43), .int u44, .ref a_far]) (is := []) (X' := [(a_t, .inr (11, [.ref a_signs, .int v_signMany, .int v_seats, .ref a_links, .ref a_worths, .int v_bearIs, .ref a_far, .ref a_mays, .ref a_rowsTo, .ref a_endIn, .long v_rowsAll, .ref a_ends, .ref a_pairSets, .ref a_awayIn, .ref a_now, .ref a_then, .long v_awayUpper, .long v_lower, .ref a_comers, .int v_comerMany, .ref a_seen, .ref a_seenMany, .int v_seenRows, .ref a_kept, .ref a_isKept, .int v_place, .int v_isWriting])), (a_far, eI cI 144 z_far_147), (a_links, eI cI 12 v_links)]) Cx (c_X11_at l D cI cJ cZ cO  y3_136 y4_147 u45 hu45) hP hS rfl rfl rfl rfl rfl rfl hl.1 (Nat.le_of_ble_eq_true rfl) dX11_findFar_199 rfl rfl ⟨Nat.le_of_ble_eq_true rfl, Nat.le_of_ble_eq_true rfl⟩ ⟨Nat.zero_le _, Nat.zero_le _⟩ rfl (fun H locs hP hS => ?_)
                    obtain ⟨u46, hu46, hf⟩ := ob_b hf
                    refine ba_iald Cx hP 1 rfl hu46 dX11_findFar_202 ?_
                    refine ob_J (P := fun w47 => ∀ (H : Heap) (locs : List Loc) (ls : Array Slot), va_P D vwCl [(a_t, .inr (11, [.ref a_signs, .int v_signMany, .int v_seats, .ref a_links, .ref a_worths, .int v_bearIs, .ref a_far, .ref a_mays, .ref a_rowsTo, .ref a_endIn, .long v_rowsAll, .ref a_ends, .ref a_pairSets, .ref a_awayIn, .ref a_now, .ref a_then, .long v_awayUpper, .long v_lower, .ref a_comers, .int v_comerMany, .ref a_seen, .ref a_seenMany, .int v_seenRows, .ref a_kept, .ref a_isKept, .int v_place, .int v_isWriting])), (a_far, eI cI 144 z_far_147), (a_links, eI cI 12 v_links)] H → va_S A s.heap H locs → lv_has ls 6 [(0, .ref a_t), (2, .int y2_126), (3, .int y3_136), (4, .int y4_147)] → W p l e { frames := 2, cells := 0, slots := 0, locals := 44 } s m args below meth c H locs 0 0 Q (F0 m 222 ls [.int w47, .int u44, .ref a_far])) hf ?_ ?_
                    · intro w47 hf H locs ls hP hS hl
                      obtain ⟨u49, hu49, hf⟩ := ob_b hf
                      refine ba_iast (X' := [(a_t, .inr (11, [.ref a_signs, .int v_signMany, .int v_seats, .ref a_links, .ref a_worths, .int v_bearIs, .ref a_far, .ref a_mays, .ref a_rowsTo, .ref a_endIn, .long v_rowsAll, .ref a_ends, .ref a_pairSets, .ref a_awayIn, .ref a_now, .ref a_then, .long v_awayUpper, .long v_lower, .ref a_comers, .int v_comerMany, .ref a_seen, .ref a_seenMany, .int v_seenRows, .ref a_kept, .ref a_isKept, .int v_place, .int v_isWriting])), (a_far, eI cI 144 u49), (a_links, eI cI 12 v_links)]) Cx hP hS rfl 1 rfl rfl hu49 dX11_findFar_222 (fun H locs hP hS => ?_)
                      refine lv_iinc (v := (y4_147 + 1)) (lv' := [(4, .int (y4_147 + 1)), (0, .ref a_t), (2, .int y2_126), (3, .int y3_136)]) hx hb dX11_findFar_223 hl (k := 3) rfl rfl (by decide) rfl (fun ls hl => ?_)
                      refine lv_goto (tgt := 147) hx hb dX11_findFar_226 (by decide) ?_
                      exact ih (y4_147 + 1) u49 _ _ _ _ hf hP hS (lv_sub hl [1, 2, 3, 0] rfl) kk
                    · intro J222_48 hf
                      refine lv_icmp_ge (tgt := 211) hx hb dX11_findFar_203 (by decide) (fun c50 => ?_) (fun c50 => ?_)
                      · have hf := ob_tk c50 hf
                        refine lv_aload_n hx hb dX11_findFar_211 rfl (lv_at hl 1 rfl) ?_
                        refine gf_X11_19 Cx hP 0 rfl rfl dX11_findFar_212 ?_
                        refine lv_iload_n hx hb dX11_findFar_215 rfl (lv_at hl 3 rfl) ?_
                        refine lv_iload hx hb dX11_findFar_216 (lv_at hl 4 rfl) ?_
                        obtain ⟨u51, hu51, hf⟩ := ob_bk hf
                        refine iv_X11_92 (As := [.int y3_136, .int y4_147]) (rest := [.ref a_far, .int u44, .ref a_far]) (is := []) (X' := [(a_t, .inr (11, [.ref a_signs, .int v_signMany, .int v_seats, .ref a_links, .ref a_worths, .int v_bearIs, .ref a_far, .ref a_mays, .ref a_rowsTo, .ref a_endIn, .long v_rowsAll, .ref a_ends, .ref a_pairSets, .ref a_awayIn, .ref a_now, .ref a_then, .long v_awayUpper, .long v_lower, .ref a_comers, .int v_comerMany, .ref a_seen, .ref a_seenMany, .int v_seenRows, .ref a_kept, .ref a_isKept, .int v_place, .int v_isWriting])), (a_far, eI cI 144 z_far_147), (a_links, eI cI 12 v_links)]) Cx (c_X11_at l D cI cJ cZ cO  y3_136 y4_147 u51 hu51) hP hS rfl rfl rfl rfl rfl rfl hl.1 (Nat.le_of_ble_eq_true rfl) dX11_findFar_218 rfl rfl ⟨Nat.le_of_ble_eq_true rfl, Nat.le_of_ble_eq_true rfl⟩ ⟨Nat.zero_le _, Nat.zero_le _⟩ rfl (fun H locs hP hS => ?_)
                        obtain ⟨u52, hu52, hf⟩ := ob_bk hf
                        refine ba_iald Cx hP 1 rfl hu52 dX11_findFar_221 ?_
                        exact J222_48 u52 hf _ _ _ hP hS (lv_sub hl [1, 2, 3, 4] rfl)
                      · have hf := ob_fk c50 hf
                        refine lv_iload hx hb dX11_findFar_206 (lv_at hl 0 rfl) ?_
                        refine lv_goto (tgt := 222) hx hb dX11_findFar_208 (by decide) ?_
                        exact J222_48 (u41 + u43) hf _ _ _ hP hS (lv_sub hl [1, 2, 3, 4] rfl)
              obtain ⟨u53, hu53, hf⟩ := ob_b hf
              refine L147_38 FU (0 : Int32) z_far_136 u53 _ _ _ hu53 hP hS (lv_sub hl [1, 2, 3, 0] rfl) ?_
              intro H locs ls hP hS hl
              refine lv_iinc (v := (y3_136 + 1)) (lv' := [(3, .int (y3_136 + 1)), (0, .ref a_t), (2, .int y2_126)]) hx hb dX11_findFar_229 hl (k := 2) rfl rfl (by decide) rfl (fun ls hl => ?_)
              refine lv_goto (tgt := 136) hx hb dX11_findFar_232 (by decide) ?_
              exact ih (y3_136 + 1) u53 _ _ _ _ hf hP hS (lv_sub hl [1, 2, 0] rfl) kk
        obtain ⟨u54, hu54, hf⟩ := ob_b hf
        refine L136_36 FU (0 : Int32) z_far_126 u54 _ _ _ hu54 hP hS (lv_sub hl [1, 2, 0] rfl) ?_
        intro H locs ls hP hS hl
        refine lv_iinc (v := (y2_126 + 1)) (lv' := [(2, .int (y2_126 + 1)), (0, .ref a_t)]) hx hb dX11_findFar_235 hl (k := 1) rfl rfl (by decide) rfl (fun ls hl => ?_)
        refine lv_goto (tgt := 126) hx hb dX11_findFar_238 (by decide) ?_
        exact ih (y2_126 + 1) u54 _ _ _ _ hf hP hS (lv_sub hl [1, 0] rfl) kk
  obtain ⟨u55, hu55, hf⟩ := ob_b hf
  refine L126_34 FU (0 : Int32) u33 u55 _ _ _ hu55 hP hS (lv_sub hl [1, 0] rfl) ?_
  intro H locs ls hP hS hl
  obtain rfl := Option.some.inj hf
  exact ret _ _ _ _ dX11_findFar_241 hP hS

def f_X11_in (x0 : Int64) (x2 : Int64) (x4 : Int64) : Option (Int32) :=
  (if (lg_cmp x0 x2) < 0 then
  some (0 : Int32)
  else
  if 0 < (lg_cmp x0 x4) then
  some (0 : Int32)
  else
  some (1 : Int32)).bind (fun w1 =>
  (oz w1).bind (fun u3 =>
  some (u3)))
set_option maxHeartbeats 4000000 in
set_option maxRecDepth 100000 in
theorem c_X11_in (l : Launch) (D : va_G) (cI cJ cZ cO : ClassId) (x0 : Int64) (x2 : Int64) (x4 : Int64) (out : Int32) (hf : f_X11_in x0 x2 x4 = some out) : MetR l yX11_in (Cond.code yX11_in cX11_in 6 (some .boolean) :: tbG) { frames := 0, cells := 0, slots := 0, locals := 0 } D (tyL cI cJ cZ cO) [.long x0, .long x2, .long x4] [] (some (.int out)) [] := by
  refine ba_ofZ RX11 [(0, .long x0), (2, .long x2), (4, .long x4)] (by decide +kernel) rfl (Nat.le_of_ble_eq_true rfl) rfl ?_
  intro p e s m args below meth c Q A Cx hP ret ls hl
  obtain ⟨⟨hx, hb, hml, hown, hts⟩, hK, hD, hA⟩ := id Cx
  have hS : va_S A s.heap s.heap [] := va_S.rf
  unfold f_X11_in at hf
  refine lv_lload_n hx hb dX11_in_0 rfl (lv_at hl 0 rfl) ?_
  refine lv_lload_n hx hb dX11_in_1 rfl (lv_at hl 1 rfl) ?_
  refine W.lcmp hx hb dX11_in_2 ?_
  refine ob_J (P := fun w1 => ∀ (H : Heap) (locs : List Loc) (ls : Array Slot), va_P D vwCl [] H → va_S A s.heap H locs → lv_has ls 6 [] → W p l e { frames := 0, cells := 0, slots := 0, locals := 0 } s m args below meth c H locs 0 0 Q (F0 m 18 ls [.int w1])) hf ?_ ?_
  · intro w1 hf H locs ls hP hS hl
    obtain ⟨u3, hu3, hf⟩ := ob_b hf
    obtain ⟨hz1, hz2⟩ := oz_ok hu3
    obtain rfl := Option.some.inj hf
    exact ret _ _ _ _ _ hz1 hz2 dX11_in_18 hP hS
  · intro J18_2 hf
    refine lv_if_lt (tgt := 17) hx hb dX11_in_3 (by decide) (fun c4 => ?_) (fun c4 => ?_)
    · have hf := ob_tk c4 hf
      refine lv_iconst (v := 0) hx hb dX11_in_17 (by decide) ?_
      exact J18_2 (0 : Int32) hf _ _ _ hP hS (lv_sub hl [] rfl)
    · have hf := ob_fk c4 hf
      refine lv_lload_n hx hb dX11_in_6 rfl (lv_at hl 0 rfl) ?_
      refine lv_lload hx hb dX11_in_7 (lv_at hl 2 rfl) ?_
      refine W.lcmp hx hb dX11_in_9 ?_
      refine lv_if_gt (tgt := 17) hx hb dX11_in_10 (by decide) (fun c5 => ?_) (fun c5 => ?_)
      · have hf := ob_tk c5 hf
        refine lv_iconst (v := 0) hx hb dX11_in_17 (by decide) ?_
        exact J18_2 (0 : Int32) hf _ _ _ hP hS (lv_sub hl [] rfl)
      · have hf := ob_fk c5 hf
        refine lv_iconst (v := 1) hx hb dX11_in_13 (by decide) ?_
        refine lv_goto (tgt := 18) hx hb dX11_in_14 (by decide) ?_
        exact J18_2 (1 : Int32) hf _ _ _ hP hS (lv_sub hl [] rfl)

def f_X11_ones_4 (x0 : Int32) : Nat → Int32 → Int32 → Option (Int32)
  | 0, _, _ => none
  | n + 1, y1_4, y2_4 =>
  if (12 : Int32) ≤ y2_4 then
  some (y1_4)
  else
  f_X11_ones_4 x0 n (y1_4 + ((x0 >>> (y2_4 &&& 31)) &&& (1 : Int32))) (y2_4 + 1)
theorem f_X11_ones_4_s (x0 : Int32) (n : Nat) (y1_4 : Int32) (y2_4 : Int32) : f_X11_ones_4 x0 (n + 1) y1_4 y2_4 =
  (if (12 : Int32) ≤ y2_4 then
  some (y1_4)
  else
  f_X11_ones_4 x0 n (y1_4 + ((x0 >>> (y2_4 &&& 31)) &&& (1 : Int32))) (y2_4 + 1)) := rfl
def f_X11_ones (x0 : Int32) : Option (Int32) :=
  (f_X11_ones_4 x0 FU (0 : Int32) (0 : Int32)).bind (fun u3 =>
  some (u3))
set_option maxHeartbeats 4000000 in
set_option maxRecDepth 100000 in
theorem c_X11_ones (l : Launch) (D : va_G) (cI cJ cZ cO : ClassId) (x0 : Int32) (out : Int32) (hf : f_X11_ones x0 = some out) : MetR l yX11_ones (Cond.code yX11_ones cX11_ones 3 (some .int) :: tbG) { frames := 0, cells := 0, slots := 0, locals := 0 } D (tyL cI cJ cZ cO) [.int x0] [] (some (.int out)) [] := by
  refine ba_ofI RX11 [(0, .int x0)] (by decide +kernel) rfl (Nat.le_of_ble_eq_true rfl) rfl ?_
  intro p e s m args below meth c Q A Cx hP ret ls hl
  obtain ⟨⟨hx, hb, hml, hown, hts⟩, hK, hD, hA⟩ := id Cx
  have hS : va_S A s.heap s.heap [] := va_S.rf
  unfold f_X11_ones at hf
  refine lv_iconst (v := 0) hx hb dX11_ones_0 (by decide) ?_
  refine lv_istore_n (lv' := [(1, .int (0 : Int32)), (0, .int x0)]) hx hb dX11_ones_1 rfl hl (by decide) rfl (fun ls hl => ?_)
  refine lv_iconst (v := 0) hx hb dX11_ones_2 (by decide) ?_
  refine lv_istore_n (lv' := [(2, .int (0 : Int32)), (1, .int (0 : Int32)), (0, .int x0)]) hx hb dX11_ones_3 rfl hl (by decide) rfl (fun ls hl => ?_)
  have L4_1 : ∀ (n : Nat) (y1_4 : Int32) (y2_4 : Int32) (o : Int32) (H : Heap) (locs : List Loc) (ls : Array Slot), f_X11_ones_4 x0 n y1_4 y2_4 = some o → va_P D vwCl [] H → va_S A s.heap H locs → lv_has ls 3 [(0, .int x0), (1, .int y1_4), (2, .int y2_4)] → (∀ (H : Heap) (locs : List Loc) (ls : Array Slot), va_P D vwCl [] H → va_S A s.heap H locs → lv_has ls 3 [(1, .int o)] → W p l e { frames := 0, cells := 0, slots := 0, locals := 0 } s m args below meth c H locs 0 0 Q (F0 m 24 ls [])) → W p l e { frames := 0, cells := 0, slots := 0, locals := 0 } s m args below meth c H locs 0 0 Q (F0 m 4 ls []) := by
    intro n
    induction n with
    | zero => intro y1_4 y2_4 o H locs ls hf; exact (ob_n hf).elim
    | succ n ih =>
      intro y1_4 y2_4 o H locs ls hf hP hS hl kk
      rw [f_X11_ones_4_s] at hf
      refine lv_iload_n hx hb dX11_ones_4 rfl (lv_at hl 2 rfl) ?_
      refine lv_bipush (v := 12) hx hb dX11_ones_5 (by decide) ?_
      refine lv_icmp_ge (tgt := 24) hx hb dX11_ones_7 (by decide) (fun c2 => ?_) (fun c2 => ?_)
      · have hf := ob_t c2 hf
        obtain rfl := Option.some.inj hf
        exact kk _ _ _ hP hS (lv_sub hl [1] rfl)
      · have hf := ob_f c2 hf
        refine lv_iload_n hx hb dX11_ones_10 rfl (lv_at hl 1 rfl) ?_
        refine lv_iload_n hx hb dX11_ones_11 rfl (lv_at hl 0 rfl) ?_
        refine lv_iload_n hx hb dX11_ones_12 rfl (lv_at hl 2 rfl) ?_
        refine lv_ishr hx hb dX11_ones_13 ?_
        refine lv_iconst (v := 1) hx hb dX11_ones_14 (by decide) ?_
        refine lv_iand hx hb dX11_ones_15 ?_
        refine lv_iadd hx hb dX11_ones_16 ?_
        refine lv_istore_n (lv' := [(1, .int (y1_4 + ((x0 >>> (y2_4 &&& 31)) &&& (1 : Int32)))), (0, .int x0), (2, .int y2_4)]) hx hb dX11_ones_17 rfl hl (by decide) rfl (fun ls hl => ?_)
        refine lv_iinc (v := (y2_4 + 1)) (lv' := [(2, .int (y2_4 + 1)), (1, .int (y1_4 + ((x0 >>> (y2_4 &&& 31)) &&& (1 : Int32)))), (0, .int x0)]) hx hb dX11_ones_18 hl (k := 2) rfl rfl (by decide) rfl (fun ls hl => ?_)
        refine lv_goto (tgt := 4) hx hb dX11_ones_21 (by decide) ?_
        exact ih (y1_4 + ((x0 >>> (y2_4 &&& 31)) &&& (1 : Int32))) (y2_4 + 1) _ _ _ _ hf hP hS (lv_sub hl [2, 1, 0] rfl) kk
  obtain ⟨u3, hu3, hf⟩ := ob_b hf
  refine L4_1 FU (0 : Int32) (0 : Int32) u3 _ _ _ hu3 hP hS (lv_sub hl [2, 1, 0] rfl) ?_
  intro H locs ls hP hS hl
  refine lv_iload_n hx hb dX11_ones_24 rfl (lv_at hl 0 rfl) ?_
  obtain rfl := Option.some.inj hf
  exact ret _ _ _ _ dX11_ones_25 hP hS

def f_X11_isPart (x0 : Int32) : Option (Int32) :=
  (f_X11_in ((x0).toInt64) (0 : Int64) (1 : Int64)).bind (fun u1 =>
  (oz u1).bind (fun u2 =>
  some (u2)))
set_option maxHeartbeats 4000000 in
set_option maxRecDepth 100000 in
theorem c_X11_isPart (l : Launch) (D : va_G) (cI cJ cZ cO : ClassId) (x0 : Int32) (out : Int32) (hf : f_X11_isPart x0 = some out) : MetR l yX11_isPart (Cond.code yX11_isPart cX11_isPart 1 (some .boolean) :: tbG) { frames := 1, cells := 0, slots := 0, locals := 25 } D (tyL cI cJ cZ cO) [.int x0] [] (some (.int out)) [] := by
  refine ba_ofZ RX11 [(0, .int x0)] (by decide +kernel) rfl (Nat.le_of_ble_eq_true rfl) rfl ?_
  intro p e s m args below meth c Q A Cx hP ret ls hl
  obtain ⟨⟨hx, hb, hml, hown, hts⟩, hK, hD, hA⟩ := id Cx
  have hS : va_S A s.heap s.heap [] := va_S.rf
  unfold f_X11_isPart at hf
  refine lv_iload_n hx hb dX11_isPart_0 rfl (lv_at hl 0 rfl) ?_
  refine lv_i2l (v := (x0).toInt64) hx hb dX11_isPart_1 rfl ?_
  refine lv_lconst (v := 0) hx hb dX11_isPart_2 (by decide) ?_
  refine lv_lconst (v := 1) hx hb dX11_isPart_3 (by decide) ?_
  obtain ⟨u1, hu1, hf⟩ := ob_b hf
  refine iv_X11_74 (As := [.long ((x0).toInt64), .long (0 : Int64), .long (1 : Int64)]) (rest := []) (is := []) (X' := []) Cx (c_X11_in l D cI cJ cZ cO  ((x0).toInt64) (0 : Int64) (1 : Int64) u1 hu1) hP hS rfl rfl rfl rfl rfl rfl hl.1 (Nat.le_of_ble_eq_true rfl) dX11_isPart_4 rfl rfl ⟨Nat.le_of_ble_eq_true rfl, Nat.le_of_ble_eq_true rfl⟩ ⟨Nat.zero_le _, Nat.zero_le _⟩ rfl (fun H locs hP hS => ?_)
  obtain ⟨u2, hu2, hf⟩ := ob_b hf
  obtain ⟨hz1, hz2⟩ := oz_ok hu2
  obtain rfl := Option.some.inj hf
  exact ret _ _ _ _ _ hz1 hz2 dX11_isPart_7 hP hS

def f_X11_lowest_6  : Nat → Int64 → Int64 → Option (Int64)
  | 0, _, _ => none
  | n + 1, y5_6, y7_6 =>
  if (lg_cmp y7_6 (0 : Int64)) = 0 then
  some (y5_6)
  else
  (oremL y5_6 y7_6).bind (fun u3 =>
  f_X11_lowest_6  n y7_6 u3)
theorem f_X11_lowest_6_s  (n : Nat) (y5_6 : Int64) (y7_6 : Int64) : f_X11_lowest_6  (n + 1) y5_6 y7_6 =
  (if (lg_cmp y7_6 (0 : Int64)) = 0 then
  some (y5_6)
  else
  (oremL y5_6 y7_6).bind (fun u3 =>
  f_X11_lowest_6  n y7_6 u3)) := rfl
def f_X11_lowest (x0 : Int64) (x2 : Int64) (x4 : Int32) : Option (Int64) :=
  (f_X11_lowest_6  FU x0 x2).bind (fun u4 =>
  (if x4 = 0 then
  (odivL x0 u4).bind (fun u9 =>
  some (u9))
  else
  (odivL x2 u4).bind (fun u8 =>
  some (u8))).bind (fun w5 =>
  some (w5)))
set_option maxHeartbeats 4000000 in
set_option maxRecDepth 100000 in
theorem c_X11_lowest (l : Launch) (D : va_G) (cI cJ cZ cO : ClassId) (x0 : Int64) (x2 : Int64) (x4 : Int32) (out : Int64) (hf : f_X11_lowest x0 x2 x4 = some out) : MetR l yX11_lowest (Cond.code yX11_lowest cX11_lowest 11 (some .long) :: tbG) { frames := 0, cells := 0, slots := 0, locals := 0 } D (tyL cI cJ cZ cO) [.long x0, .long x2, .int x4] [] (some (.long out)) [] := by
  refine ba_ofL RX11 [(0, .long x0), (2, .long x2), (4, .int x4)] (by decide +kernel) rfl (Nat.le_of_ble_eq_true rfl) rfl ?_
  intro p e s m args below meth c Q A Cx hP ret ls hl
  obtain ⟨⟨hx, hb, hml, hown, hts⟩, hK, hD, hA⟩ := id Cx
  have hS : va_S A s.heap s.heap [] := va_S.rf
  unfold f_X11_lowest at hf
  refine lv_lload_n hx hb dX11_lowest_0 rfl (lv_at hl 0 rfl) ?_
  refine lv_lstore (lv' := [(5, .long x0), (0, .long x0), (2, .long x2), (4, .int x4)]) hx hb dX11_lowest_1 hl (by decide) rfl (fun ls hl => ?_)
  refine lv_lload_n hx hb dX11_lowest_3 rfl (lv_at hl 2 rfl) ?_
  refine lv_lstore (lv' := [(7, .long x2), (5, .long x0), (0, .long x0), (2, .long x2), (4, .int x4)]) hx hb dX11_lowest_4 hl (by decide) rfl (fun ls hl => ?_)
  have L6_1 : ∀ (n : Nat) (y5_6 : Int64) (y7_6 : Int64) (o : Int64) (H : Heap) (locs : List Loc) (ls : Array Slot), f_X11_lowest_6  n y5_6 y7_6 = some o → va_P D vwCl [] H → va_S A s.heap H locs → lv_has ls 11 [(0, .long x0), (2, .long x2), (4, .int x4), (5, .long y5_6), (7, .long y7_6)] → (∀ (H : Heap) (locs : List Loc) (ls : Array Slot), va_P D vwCl [] H → va_S A s.heap H locs → lv_has ls 11 [(0, .long x0), (2, .long x2), (4, .int x4), (5, .long o)] → W p l e { frames := 0, cells := 0, slots := 0, locals := 0 } s m args below meth c H locs 0 0 Q (F0 m 31 ls [])) → W p l e { frames := 0, cells := 0, slots := 0, locals := 0 } s m args below meth c H locs 0 0 Q (F0 m 6 ls []) := by
    intro n
    induction n with
    | zero => intro y5_6 y7_6 o H locs ls hf; exact (ob_n hf).elim
    | succ n ih =>
      intro y5_6 y7_6 o H locs ls hf hP hS hl kk
      rw [f_X11_lowest_6_s] at hf
      refine lv_lload hx hb dX11_lowest_6 (lv_at hl 4 rfl) ?_
      refine lv_lconst (v := 0) hx hb dX11_lowest_8 (by decide) ?_
      refine W.lcmp hx hb dX11_lowest_9 ?_
      refine lv_if_eq (tgt := 31) hx hb dX11_lowest_10 (by decide) (fun c2 => ?_) (fun c2 => ?_)
      · have hf := ob_t c2 hf
        obtain rfl := Option.some.inj hf
        exact kk _ _ _ hP hS (lv_sub hl [0, 1, 2, 3] rfl)
      · have hf := ob_f c2 hf
        refine lv_lload hx hb dX11_lowest_13 (lv_at hl 3 rfl) ?_
        refine lv_lload hx hb dX11_lowest_15 (lv_at hl 4 rfl) ?_
        obtain ⟨u3, hu3, hf⟩ := ob_b hf
        refine ba_lrem hx hb hu3 dX11_lowest_17 ?_
        refine lv_lstore (lv' := [(9, .long u3), (0, .long x0), (2, .long x2), (4, .int x4), (5, .long y5_6), (7, .long y7_6)]) hx hb dX11_lowest_18 hl (by decide) rfl (fun ls hl => ?_)
        refine lv_lload hx hb dX11_lowest_20 (lv_at hl 5 rfl) ?_
        refine lv_lstore (lv' := [(5, .long y7_6), (9, .long u3), (0, .long x0), (2, .long x2), (4, .int x4), (7, .long y7_6)]) hx hb dX11_lowest_22 hl (by decide) rfl (fun ls hl => ?_)
        refine lv_lload hx hb dX11_lowest_24 (lv_at hl 1 rfl) ?_
        refine lv_lstore (lv' := [(7, .long u3), (5, .long y7_6), (9, .long u3), (0, .long x0), (2, .long x2), (4, .int x4)]) hx hb dX11_lowest_26 hl (by decide) rfl (fun ls hl => ?_)
        refine lv_goto (tgt := 6) hx hb dX11_lowest_28 (by decide) ?_
        exact ih y7_6 u3 _ _ _ _ hf hP hS (lv_sub hl [3, 4, 5, 1, 0] rfl) kk
  obtain ⟨u4, hu4, hf⟩ := ob_b hf
  refine L6_1 FU x0 x2 u4 _ _ _ hu4 hP hS (lv_sub hl [2, 3, 4, 1, 0] rfl) ?_
  intro H locs ls hP hS hl
  refine lv_iload hx hb dX11_lowest_31 (lv_at hl 2 rfl) ?_
  refine ob_J (P := fun w5 => ∀ (H : Heap) (locs : List Loc) (ls : Array Slot), va_P D vwCl [] H → va_S A s.heap H locs → lv_has ls 11 [] → W p l e { frames := 0, cells := 0, slots := 0, locals := 0 } s m args below meth c H locs 0 0 Q (F0 m 47 ls [.long w5])) hf ?_ ?_
  · intro w5 hf H locs ls hP hS hl
    obtain rfl := Option.some.inj hf
    exact ret _ _ _ _ dX11_lowest_47 hP hS
  · intro J47_6 hf
    refine lv_if_ne (tgt := 43) hx hb dX11_lowest_33 (by decide) (fun c7 => ?_) (fun c7 => ?_)
    · have hf := ob_fk c7 hf
      refine lv_lload_n hx hb dX11_lowest_43 rfl (lv_at hl 1 rfl) ?_
      refine lv_lload hx hb dX11_lowest_44 (lv_at hl 3 rfl) ?_
      obtain ⟨u8, hu8, hf⟩ := ob_bk hf
      refine ba_ldiv hx hb hu8 dX11_lowest_46 ?_
      exact J47_6 u8 hf _ _ _ hP hS (lv_sub hl [] rfl)
    · have hf := ob_tk c7 hf
      refine lv_lload_n hx hb dX11_lowest_36 rfl (lv_at hl 0 rfl) ?_
      refine lv_lload hx hb dX11_lowest_37 (lv_at hl 3 rfl) ?_
      obtain ⟨u9, hu9, hf⟩ := ob_bk hf
      refine ba_ldiv hx hb hu9 dX11_lowest_39 ?_
      refine lv_goto (tgt := 47) hx hb dX11_lowest_40 (by decide) ?_
      exact J47_6 u9 hf _ _ _ hP hS (lv_sub hl [] rfl)

def f_X11_say (v_signMany : Int32) (v_signs : Nat → Int32) (x1 : Int32) : Option (Int32 × Int32 × (Nat → Int32)) :=
  (f_X11_in ((x1).toInt64) (33 : Int64) (126 : Int64)).bind (fun u1 =>
  if u1 = 0 then
  some ((-2 : Int32), v_signMany, v_signs)
  else
  if v_signMany = (30 : Int32) then
  some ((-4 : Int32), v_signMany, v_signs)
  else
  (asetI 30 v_signs v_signMany x1).bind (fun u4 =>
  some ((v_signMany + (1 : Int32)), (v_signMany + (1 : Int32)), u4)))
set_option maxHeartbeats 4000000 in
set_option maxRecDepth 100000 in
theorem c_X11_say (l : Launch) (D : va_G) (cI cJ cZ cO : ClassId) (a_t a_signs a_links a_worths a_far a_mays a_rowsTo a_endIn a_ends a_pairSets a_awayIn a_now a_then a_comers a_seen a_seenMany a_kept a_isKept : Nat) (v_signMany : Int32) (v_seats : Int32) (v_bearIs : Int32) (v_rowsAll : Int64) (v_awayUpper : Int64) (v_lower : Int64) (v_comerMany : Int32) (v_seenRows : Int32) (v_place : Int32) (v_isWriting : Int32) (v_signs : Nat → Int32) (x1 : Int32) (out : Int32 × Int32 × (Nat → Int32)) (hf : f_X11_say v_signMany v_signs x1 = some out) : MetR l yX11_say (Cond.code yX11_say cX11_say 2 (some .int) :: tbG) { frames := 1, cells := 0, slots := 0, locals := 25 } D (tyL cI cJ cZ cO) [.ref a_t, .int x1] [(a_t, .inr (11, [.ref a_signs, .int v_signMany, .int v_seats, .ref a_links, .ref a_worths, .int v_bearIs, .ref a_far, .ref a_mays, .ref a_rowsTo, .ref a_endIn, .long v_rowsAll, .ref a_ends, .ref a_pairSets, .ref a_awayIn, .ref a_now, .ref a_then, .long v_awayUpper, .long v_lower, .ref a_comers, .int v_comerMany, .ref a_seen, .ref a_seenMany, .int v_seenRows, .ref a_kept, .ref a_isKept, .int v_place, .int v_isWriting])), (a_signs, eI cI 30 v_signs)] (some (.int out.1)) [(a_t, .inr (11, [.ref a_signs, .int out.2.1, .int v_seats, .ref a_links, .ref a_worths, .int v_bearIs, .ref a_far, .ref a_mays, .ref a_rowsTo, .ref a_endIn, .long v_rowsAll, .ref a_ends, .ref a_pairSets, .ref a_awayIn, .ref a_now, .ref a_then, .long v_awayUpper, .long v_lower, .ref a_comers, .int v_comerMany, .ref a_seen, .ref a_seenMany, .int v_seenRows, .ref a_kept, .ref a_isKept, .int v_place, .int v_isWriting])), (a_signs, eI cI 30 out.2.2)] := by
  refine ba_ofI RX11 [(0, .ref a_t), (1, .int x1)] (by decide +kernel) rfl (Nat.le_of_ble_eq_true rfl) rfl ?_
  intro p e s m args below meth c Q A Cx hP ret ls hl
  obtain ⟨⟨hx, hb, hml, hown, hts⟩, hK, hD, hA⟩ := id Cx
  have hS : va_S A s.heap s.heap [] := va_S.rf
  unfold f_X11_say at hf
  refine lv_iload_n hx hb dX11_say_0 rfl (lv_at hl 1 rfl) ?_
  refine lv_i2l (v := (x1).toInt64) hx hb dX11_say_1 rfl ?_
  refine lv_ldc2 hx hb hown (hts _ kw_841) dX11_say_2 ?_
  refine lv_ldc2 hx hb hown (hts _ kw_842) dX11_say_5 ?_
  obtain ⟨u1, hu1, hf⟩ := ob_b hf
  refine iv_X11_74 (As := [.long ((x1).toInt64), .long (33 : Int64), .long (126 : Int64)]) (rest := []) (is := []) (X' := [(a_t, .inr (11, [.ref a_signs, .int v_signMany, .int v_seats, .ref a_links, .ref a_worths, .int v_bearIs, .ref a_far, .ref a_mays, .ref a_rowsTo, .ref a_endIn, .long v_rowsAll, .ref a_ends, .ref a_pairSets, .ref a_awayIn, .ref a_now, .ref a_then, .long v_awayUpper, .long v_lower, .ref a_comers, .int v_comerMany, .ref a_seen, .ref a_seenMany, .int v_seenRows, .ref a_kept, .ref a_isKept, .int v_place, .int v_isWriting])), (a_signs, eI cI 30 v_signs)]) Cx (c_X11_in l D cI cJ cZ cO  ((x1).toInt64) (33 : Int64) (126 : Int64) u1 hu1) hP hS rfl rfl rfl rfl rfl rfl hl.1 (Nat.le_of_ble_eq_true rfl) dX11_say_8 rfl rfl ⟨Nat.le_of_ble_eq_true rfl, Nat.le_of_ble_eq_true rfl⟩ ⟨Nat.zero_le _, Nat.zero_le _⟩ rfl (fun H locs hP hS => ?_)
  refine lv_if_ne (tgt := 17) hx hb dX11_say_11 (by decide) (fun c2 => ?_) (fun c2 => ?_)
  · have hf := ob_f c2 hf
    refine lv_aload_n hx hb dX11_say_17 rfl (lv_at hl 0 rfl) ?_
    refine gf_X11_82 Cx hP 0 rfl rfl dX11_say_18 ?_
    refine lv_bipush (v := 30) hx hb dX11_say_21 (by decide) ?_
    refine lv_icmp_ne (tgt := 29) hx hb dX11_say_23 (by decide) (fun c3 => ?_) (fun c3 => ?_)
    · have hf := ob_f c3 hf
      refine lv_aload_n hx hb dX11_say_29 rfl (lv_at hl 0 rfl) ?_
      refine gf_X11_7 Cx hP 0 rfl rfl dX11_say_30 ?_
      refine lv_aload_n hx hb dX11_say_33 rfl (lv_at hl 0 rfl) ?_
      refine gf_X11_82 Cx hP 0 rfl rfl dX11_say_34 ?_
      refine lv_iload_n hx hb dX11_say_37 rfl (lv_at hl 1 rfl) ?_
      obtain ⟨u4, hu4, hf⟩ := ob_b hf
      refine ba_iast (X' := [(a_t, .inr (11, [.ref a_signs, .int v_signMany, .int v_seats, .ref a_links, .ref a_worths, .int v_bearIs, .ref a_far, .ref a_mays, .ref a_rowsTo, .ref a_endIn, .long v_rowsAll, .ref a_ends, .ref a_pairSets, .ref a_awayIn, .ref a_now, .ref a_then, .long v_awayUpper, .long v_lower, .ref a_comers, .int v_comerMany, .ref a_seen, .ref a_seenMany, .int v_seenRows, .ref a_kept, .ref a_isKept, .int v_place, .int v_isWriting])), (a_signs, eI cI 30 u4)]) Cx hP hS rfl 1 rfl rfl hu4 dX11_say_38 (fun H locs hP hS => ?_)
      refine lv_aload_n hx hb dX11_say_39 rfl (lv_at hl 0 rfl) ?_
      refine lv_dup hx hb dX11_say_40 rfl ?_
      refine gf_X11_82 Cx hP 0 rfl rfl dX11_say_41 ?_
      refine lv_iconst (v := 1) hx hb dX11_say_44 (by decide) ?_
      refine lv_iadd hx hb dX11_say_45 ?_
      refine pf_X11_82 (X' := [(a_t, .inr (11, [.ref a_signs, .int (v_signMany + (1 : Int32)), .int v_seats, .ref a_links, .ref a_worths, .int v_bearIs, .ref a_far, .ref a_mays, .ref a_rowsTo, .ref a_endIn, .long v_rowsAll, .ref a_ends, .ref a_pairSets, .ref a_awayIn, .ref a_now, .ref a_then, .long v_awayUpper, .long v_lower, .ref a_comers, .int v_comerMany, .ref a_seen, .ref a_seenMany, .int v_seenRows, .ref a_kept, .ref a_isKept, .int v_place, .int v_isWriting])), (a_signs, eI cI 30 u4)]) Cx hP hS rfl 0 rfl rfl (Nat.le_of_ble_eq_true rfl) dX11_say_46 (fun H locs hP hS => ?_)
      refine lv_aload_n hx hb dX11_say_49 rfl (lv_at hl 0 rfl) ?_
      refine gf_X11_82 Cx hP 0 rfl rfl dX11_say_50 ?_
      obtain rfl := Option.some.inj hf
      exact ret _ _ _ _ dX11_say_53 hP hS
    · have hf := ob_t c3 hf
      refine lv_bipush (v := (-4)) hx hb dX11_say_26 (by decide) ?_
      obtain rfl := Option.some.inj hf
      exact ret _ _ _ _ dX11_say_28 hP hS
  · have hf := ob_t c2 hf
    refine lv_bipush (v := (-2)) hx hb dX11_say_14 (by decide) ?_
    obtain rfl := Option.some.inj hf
    exact ret _ _ _ _ dX11_say_16 hP hS

