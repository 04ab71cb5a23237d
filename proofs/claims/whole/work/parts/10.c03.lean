def f_X8_sumOfSitters_14 (v_p1_scene_seats : Int32) (v_p1_clash : Nat → Int32) : Nat → Int64 → Int32 → Int32 → Int32 → Int32 → (Nat → Int32) → (Nat → Int32) → (Nat → Int32) → Option (Int64 × Int32 × Int32 × (Nat → Int32) × (Nat → Int32) × (Nat → Int32))
  | 0, _, _, _, _, _, _, _, _ => none
  | n + 1, y2_14, y4_14, y5_14, z_size_14, z_places_14, z_filled_14, z_open_14, z_chance_14 =>
  if v_p1_scene_seats ≤ y5_14 then
  some (y2_14, z_size_14, z_places_14, z_filled_14, z_open_14, z_chance_14)
  else
  (if ((y4_14 >>> (y5_14 &&& 31)) &&& (1 : Int32)) = 0 then
  some (y2_14, y4_14, z_size_14, z_places_14, z_filled_14, z_open_14, z_chance_14)
  else
  (f_X8_groupOf v_p1_scene_seats v_p1_clash y5_14).bind (fun u7 =>
  (f_X8_sumWithin v_p1_scene_seats z_filled_14 z_open_14 v_p1_clash z_chance_14 u7).bind (fun u8 =>
  some ((y2_14 + u8.1), (y4_14 &&& (u7 ^^^ (-1 : Int32))), u8.2.1, u8.2.2.1, u8.2.2.2.1, u8.2.2.2.2.1, u8.2.2.2.2.2)))).bind (fun w4 =>
  f_X8_sumOfSitters_14 v_p1_scene_seats v_p1_clash n w4.1 w4.2.1 (y5_14 + 1) w4.2.2.1 w4.2.2.2.1 w4.2.2.2.2.1 w4.2.2.2.2.2.1 w4.2.2.2.2.2.2)
theorem f_X8_sumOfSitters_14_s (v_p1_scene_seats : Int32) (v_p1_clash : Nat → Int32) (n : Nat) (y2_14 : Int64) (y4_14 : Int32) (y5_14 : Int32) (z_size_14 : Int32) (z_places_14 : Int32) (z_filled_14 : Nat → Int32) (z_open_14 : Nat → Int32) (z_chance_14 : Nat → Int32) : f_X8_sumOfSitters_14 v_p1_scene_seats v_p1_clash (n + 1) y2_14 y4_14 y5_14 z_size_14 z_places_14 z_filled_14 z_open_14 z_chance_14 =
  (if v_p1_scene_seats ≤ y5_14 then
  some (y2_14, z_size_14, z_places_14, z_filled_14, z_open_14, z_chance_14)
  else
  (if ((y4_14 >>> (y5_14 &&& 31)) &&& (1 : Int32)) = 0 then
  some (y2_14, y4_14, z_size_14, z_places_14, z_filled_14, z_open_14, z_chance_14)
  else
  (f_X8_groupOf v_p1_scene_seats v_p1_clash y5_14).bind (fun u7 =>
  (f_X8_sumWithin v_p1_scene_seats z_filled_14 z_open_14 v_p1_clash z_chance_14 u7).bind (fun u8 =>
  some ((y2_14 + u8.1), (y4_14 &&& (u7 ^^^ (-1 : Int32))), u8.2.1, u8.2.2.1, u8.2.2.2.1, u8.2.2.2.2.1, u8.2.2.2.2.2)))).bind (fun w4 =>
  f_X8_sumOfSitters_14 v_p1_scene_seats v_p1_clash n w4.1 w4.2.1 (y5_14 + 1) w4.2.2.1 w4.2.2.2.1 w4.2.2.2.2.1 w4.2.2.2.2.2.1 w4.2.2.2.2.2.2)) := rfl
def f_X8_sumOfSitters (v_p1_scene_seats : Int32) (v_p1_clash : Nat → Int32) (v_size : Int32) (v_places : Int32) (v_filled : Nat → Int32) (v_open : Nat → Int32) (v_chance : Nat → Int32) : Option (Int64 × Int32 × Int32 × (Nat → Int32) × (Nat → Int32) × (Nat → Int32)) :=
  (f_X7_allSeats v_p1_scene_seats).bind (fun u1 =>
  (f_X8_sumOfSitters_14 v_p1_scene_seats v_p1_clash FU (0 : Int64) u1 (0 : Int32) v_size v_places v_filled v_open v_chance).bind (fun u9 =>
  some (u9.1, u9.2.1, u9.2.2.1, u9.2.2.2.1, u9.2.2.2.2.1, u9.2.2.2.2.2)))
set_option maxHeartbeats 4000000 in
set_option maxRecDepth 100000 in
theorem c_X8_sumOfSitters (l : Launch) (D : va_G) (cI cJ cZ cO : ClassId) (a_p1 a_p1_scene a_p1_apart a_p1_clash a_p1_neighbours a_p1_scene_steps a_p1_scene_worths a_p1_scene_comers a_p1_scene_seen a_p1_scene_seenLengths a_t a_filled a_open a_chance : Nat) (v_p1_scene_seats : Int32) (v_p1_scene_bear : Int32) (v_p1_scene_comerCount : Int32) (v_p1_scene_seenRows : Int32) (v_p1_clash : Nat → Int32) (v_size : Int32) (v_places : Int32) (v_filled : Nat → Int32) (v_open : Nat → Int32) (v_chance : Nat → Int32) (out : Int64 × Int32 × Int32 × (Nat → Int32) × (Nat → Int32) × (Nat → Int32)) (hf : f_X8_sumOfSitters v_p1_scene_seats v_p1_clash v_size v_places v_filled v_open v_chance = some out) : MetR l yX8_sumOfSitters (Cond.code yX8_sumOfSitters cX8_sumOfSitters 7 (some .long) :: tbG) { frames := 3, cells := 0, slots := 0, locals := 69 } D (tyL cI cJ cZ cO) [.ref a_t, .ref a_p1] [(a_p1, .inr (0, [.ref a_p1_scene, .ref a_p1_apart, .ref a_p1_clash, .ref a_p1_neighbours])), (a_p1_scene, .inr (7, [.ref a_p1_scene_steps, .ref a_p1_scene_worths, .ref a_p1_scene_comers, .ref a_p1_scene_seen, .ref a_p1_scene_seenLengths, .int v_p1_scene_seats, .int v_p1_scene_bear, .int v_p1_scene_comerCount, .int v_p1_scene_seenRows])), (a_p1_clash, eI cI 12 v_p1_clash), (a_t, .inr (8, [.ref a_filled, .ref a_open, .ref a_chance, .int v_size, .int v_places])), (a_filled, eI cI 4096 v_filled), (a_open, eI cI 4096 v_open), (a_chance, eI cI 4096 v_chance)] (some (.long out.1)) [(a_p1, .inr (0, [.ref a_p1_scene, .ref a_p1_apart, .ref a_p1_clash, .ref a_p1_neighbours])), (a_p1_scene, .inr (7, [.ref a_p1_scene_steps, .ref a_p1_scene_worths, .ref a_p1_scene_comers, .ref a_p1_scene_seen, .ref a_p1_scene_seenLengths, .int v_p1_scene_seats, .int v_p1_scene_bear, .int v_p1_scene_comerCount, .int v_p1_scene_seenRows])), (a_p1_clash, eI cI 12 v_p1_clash), (a_t, .inr (8, [.ref a_filled, .ref a_open, .ref a_chance, .int out.2.1, .int out.2.2.1])), (a_filled, eI cI 4096 out.2.2.2.1), (a_open, eI cI 4096 out.2.2.2.2.1), (a_chance, eI cI 4096 out.2.2.2.2.2)] := by
  refine ba_ofL RX8 [(0, .ref a_t), (1, .ref a_p1)] (by decide +kernel) rfl (Nat.le_of_ble_eq_true rfl) rfl ?_
  intro p e s m args below meth c Q A Cx hP ret ls hl
  obtain ⟨⟨hx, hb, hml, hown, hts⟩, hK, hD, hA⟩ := id Cx
  have hS : va_S A s.heap s.heap [] := va_S.rf
  unfold f_X8_sumOfSitters at hf
  refine lv_lconst (v := 0) hx hb dX8_sumOfSitters_0 (by decide) ?_
  refine lv_lstore_n (lv' := [(2, .long (0 : Int64)), (0, .ref a_t), (1, .ref a_p1)]) hx hb dX8_sumOfSitters_1 rfl hl (by decide) rfl (fun ls hl => ?_)
  refine lv_aload_n hx hb dX8_sumOfSitters_2 rfl (lv_at hl 2 rfl) ?_
  refine gf_X8_41 Cx hP 0 rfl rfl dX8_sumOfSitters_3 ?_
  obtain ⟨u1, hu1, hf⟩ := ob_b hf
  refine iv_X8_47 (As := []) (rest := []) (is := [1]) (q0 := 1) (X' := [(a_p1, .inr (0, [.ref a_p1_scene, .ref a_p1_apart, .ref a_p1_clash, .ref a_p1_neighbours])), (a_p1_scene, .inr (7, [.ref a_p1_scene_steps, .ref a_p1_scene_worths, .ref a_p1_scene_comers, .ref a_p1_scene_seen, .ref a_p1_scene_seenLengths, .int v_p1_scene_seats, .int v_p1_scene_bear, .int v_p1_scene_comerCount, .int v_p1_scene_seenRows])), (a_p1_clash, eI cI 12 v_p1_clash), (a_t, .inr (8, [.ref a_filled, .ref a_open, .ref a_chance, .int v_size, .int v_places])), (a_filled, eI cI 4096 v_filled), (a_open, eI cI 4096 v_open), (a_chance, eI cI 4096 v_chance)]) Cx (c_X7_allSeats l D cI cJ cZ cO a_p1_scene a_p1_scene_steps a_p1_scene_worths a_p1_scene_comers a_p1_scene_seen a_p1_scene_seenLengths v_p1_scene_seats v_p1_scene_bear v_p1_scene_comerCount v_p1_scene_seenRows u1 hu1) hP hS rfl rfl rfl rfl rfl rfl rfl hl.1 (Nat.le_of_ble_eq_true rfl) dX8_sumOfSitters_6 rfl rfl ⟨Nat.le_of_ble_eq_true rfl, Nat.le_of_ble_eq_true rfl⟩ ⟨Nat.zero_le _, Nat.zero_le _⟩ rfl (fun H locs hP hS => ?_)
  refine lv_istore (lv' := [(4, .int u1), (2, .long (0 : Int64)), (0, .ref a_t), (1, .ref a_p1)]) hx hb dX8_sumOfSitters_9 hl (by decide) rfl (fun ls hl => ?_)
  refine lv_iconst (v := 0) hx hb dX8_sumOfSitters_11 (by decide) ?_
  refine lv_istore (lv' := [(5, .int (0 : Int32)), (4, .int u1), (2, .long (0 : Int64)), (0, .ref a_t), (1, .ref a_p1)]) hx hb dX8_sumOfSitters_12 hl (by decide) rfl (fun ls hl => ?_)
  have L14_2 : ∀ (n : Nat) (y2_14 : Int64) (y4_14 : Int32) (y5_14 : Int32) (z_size_14 : Int32) (z_places_14 : Int32) (z_filled_14 : Nat → Int32) (z_open_14 : Nat → Int32) (z_chance_14 : Nat → Int32) (o : Int64 × Int32 × Int32 × (Nat → Int32) × (Nat → Int32) × (Nat → Int32)) (H : Heap) (locs : List Loc) (ls : Array Slot), f_X8_sumOfSitters_14 v_p1_scene_seats v_p1_clash n y2_14 y4_14 y5_14 z_size_14 z_places_14 z_filled_14 z_open_14 z_chance_14 = some o → va_P D vwCl [(a_p1, .inr (0, [.ref a_p1_scene, .ref a_p1_apart, .ref a_p1_clash, .ref a_p1_neighbours])), (a_p1_scene, .inr (7, [.ref a_p1_scene_steps, .ref a_p1_scene_worths, .ref a_p1_scene_comers, .ref a_p1_scene_seen, .ref a_p1_scene_seenLengths, .int v_p1_scene_seats, .int v_p1_scene_bear, .int v_p1_scene_comerCount, .int v_p1_scene_seenRows])), (a_p1_clash, eI cI 12 v_p1_clash), (a_t, .inr (8, [.ref a_filled, .ref a_open, .ref a_chance, .int z_size_14, .int z_places_14])), (a_filled, eI cI 4096 z_filled_14), (a_open, eI cI 4096 z_open_14), (a_chance, eI cI 4096 z_chance_14)] H → va_S A s.heap H locs → lv_has ls 7 [(0, .ref a_t), (1, .ref a_p1), (2, .long y2_14), (4, .int y4_14), (5, .int y5_14)] → (∀ (H : Heap) (locs : List Loc) (ls : Array Slot), va_P D vwCl [(a_p1, .inr (0, [.ref a_p1_scene, .ref a_p1_apart, .ref a_p1_clash, .ref a_p1_neighbours])), (a_p1_scene, .inr (7, [.ref a_p1_scene_steps, .ref a_p1_scene_worths, .ref a_p1_scene_comers, .ref a_p1_scene_seen, .ref a_p1_scene_seenLengths, .int v_p1_scene_seats, .int v_p1_scene_bear, .int v_p1_scene_comerCount, .int v_p1_scene_seenRows])), (a_p1_clash, eI cI 12 v_p1_clash), (a_t, .inr (8, [.ref a_filled, .ref a_open, .ref a_chance, .int o.2.1, .int o.2.2.1])), (a_filled, eI cI 4096 o.2.2.2.1), (a_open, eI cI 4096 o.2.2.2.2.1), (a_chance, eI cI 4096 o.2.2.2.2.2)] H → va_S A s.heap H locs → lv_has ls 7 [(2, .long o.1)] → W p l e { frames := 3, cells := 0, slots := 0, locals := 69 } s m args below meth c H locs 0 0 Q (F0 m 69 ls [])) → W p l e { frames := 3, cells := 0, slots := 0, locals := 69 } s m args below meth c H locs 0 0 Q (F0 m 14 ls []) := by
    intro n
    induction n with
    | zero => intro y2_14 y4_14 y5_14 z_size_14 z_places_14 z_filled_14 z_open_14 z_chance_14 o H locs ls hf; exact (ob_n hf).elim
    | succ n ih =>
      intro y2_14 y4_14 y5_14 z_size_14 z_places_14 z_filled_14 z_open_14 z_chance_14 o H locs ls hf hP hS hl kk
      rw [f_X8_sumOfSitters_14_s] at hf
      refine lv_iload hx hb dX8_sumOfSitters_14 (lv_at hl 4 rfl) ?_
      refine lv_aload_n hx hb dX8_sumOfSitters_16 rfl (lv_at hl 1 rfl) ?_
      refine gf_X8_41 Cx hP 0 rfl rfl dX8_sumOfSitters_17 ?_
      refine gf_X8_53 Cx hP 1 rfl rfl dX8_sumOfSitters_20 ?_
      refine lv_icmp_ge (tgt := 69) hx hb dX8_sumOfSitters_23 (by decide) (fun c3 => ?_) (fun c3 => ?_)
      · have hf := ob_t c3 hf
        obtain rfl := Option.some.inj hf
        exact kk _ _ _ hP hS (lv_sub hl [2] rfl)
      · have hf := ob_f c3 hf
        refine lv_iload hx hb dX8_sumOfSitters_26 (lv_at hl 3 rfl) ?_
        refine lv_iload hx hb dX8_sumOfSitters_28 (lv_at hl 4 rfl) ?_
        refine lv_ishr hx hb dX8_sumOfSitters_30 ?_
        refine lv_iconst (v := 1) hx hb dX8_sumOfSitters_31 (by decide) ?_
        refine lv_iand hx hb dX8_sumOfSitters_32 ?_
        refine ob_J (P := fun w4 => ∀ (H : Heap) (locs : List Loc) (ls : Array Slot), va_P D vwCl [(a_p1, .inr (0, [.ref a_p1_scene, .ref a_p1_apart, .ref a_p1_clash, .ref a_p1_neighbours])), (a_p1_scene, .inr (7, [.ref a_p1_scene_steps, .ref a_p1_scene_worths, .ref a_p1_scene_comers, .ref a_p1_scene_seen, .ref a_p1_scene_seenLengths, .int v_p1_scene_seats, .int v_p1_scene_bear, .int v_p1_scene_comerCount, .int v_p1_scene_seenRows])), (a_p1_clash, eI cI 12 v_p1_clash), (a_t, .inr (8, [.ref a_filled, .ref a_open, .ref a_chance, .int w4.2.2.1, .int w4.2.2.2.1])), (a_filled, eI cI 4096 w4.2.2.2.2.1), (a_open, eI cI 4096 w4.2.2.2.2.2.1), (a_chance, eI cI 4096 w4.2.2.2.2.2.2)] H → va_S A s.heap H locs → lv_has ls 7 [(0, .ref a_t), (1, .ref a_p1), (2, .long w4.1), (4, .int w4.2.1), (5, .int y5_14)] → W p l e { frames := 3, cells := 0, slots := 0, locals := 69 } s m args below meth c H locs 0 0 Q (F0 m 63 ls [])) hf ?_ ?_
        · intro w4 hf H locs ls hP hS hl
          refine lv_iinc (v := (y5_14 + 1)) (lv' := [(5, .int (y5_14 + 1)), (0, .ref a_t), (1, .ref a_p1), (2, .long w4.1), (4, .int w4.2.1)]) hx hb dX8_sumOfSitters_63 hl (k := 4) rfl rfl (by decide) rfl (fun ls hl => ?_)
          refine lv_goto (tgt := 14) hx hb dX8_sumOfSitters_66 (by decide) ?_
          exact ih w4.1 w4.2.1 (y5_14 + 1) w4.2.2.1 w4.2.2.2.1 w4.2.2.2.2.1 w4.2.2.2.2.2.1 w4.2.2.2.2.2.2 _ _ _ _ hf hP hS (lv_sub hl [1, 2, 3, 4, 0] rfl) kk
        · intro J63_5 hf
          refine lv_if_eq (tgt := 63) hx hb dX8_sumOfSitters_33 (by decide) (fun c6 => ?_) (fun c6 => ?_)
          · have hf := ob_tk c6 hf
            exact J63_5 (y2_14, y4_14, z_size_14, z_places_14, z_filled_14, z_open_14, z_chance_14) hf _ _ _ hP hS (lv_sub hl [0, 1, 2, 3, 4] rfl)
          · have hf := ob_fk c6 hf
            refine lv_aload_n hx hb dX8_sumOfSitters_36 rfl (lv_at hl 1 rfl) ?_
            refine lv_iload hx hb dX8_sumOfSitters_37 (lv_at hl 4 rfl) ?_
            obtain ⟨u7, hu7, hf⟩ := ob_bk hf
            refine iv_X8_56 (As := [.ref a_p1, .int y5_14]) (rest := []) (is := [0, 1, 2]) (X' := [(a_p1, .inr (0, [.ref a_p1_scene, .ref a_p1_apart, .ref a_p1_clash, .ref a_p1_neighbours])), (a_p1_scene, .inr (7, [.ref a_p1_scene_steps, .ref a_p1_scene_worths, .ref a_p1_scene_comers, .ref a_p1_scene_seen, .ref a_p1_scene_seenLengths, .int v_p1_scene_seats, .int v_p1_scene_bear, .int v_p1_scene_comerCount, .int v_p1_scene_seenRows])), (a_p1_clash, eI cI 12 v_p1_clash), (a_t, .inr (8, [.ref a_filled, .ref a_open, .ref a_chance, .int z_size_14, .int z_places_14])), (a_filled, eI cI 4096 z_filled_14), (a_open, eI cI 4096 z_open_14), (a_chance, eI cI 4096 z_chance_14)]) Cx (c_X8_groupOf l D cI cJ cZ cO a_p1 a_p1_scene a_p1_apart a_p1_clash a_p1_neighbours a_p1_scene_steps a_p1_scene_worths a_p1_scene_comers a_p1_scene_seen a_p1_scene_seenLengths v_p1_scene_seats v_p1_scene_bear v_p1_scene_comerCount v_p1_scene_seenRows v_p1_clash y5_14 u7 hu7) hP hS rfl rfl rfl rfl rfl rfl hl.1 (Nat.le_of_ble_eq_true rfl) dX8_sumOfSitters_39 rfl rfl ⟨Nat.le_of_ble_eq_true rfl, Nat.le_of_ble_eq_true rfl⟩ ⟨Nat.zero_le _, Nat.zero_le _⟩ rfl (fun H locs hP hS => ?_)
            refine lv_istore (lv' := [(6, .int u7), (0, .ref a_t), (1, .ref a_p1), (2, .long y2_14), (4, .int y4_14), (5, .int y5_14)]) hx hb dX8_sumOfSitters_42 hl (by decide) rfl (fun ls hl => ?_)
            refine lv_iload hx hb dX8_sumOfSitters_44 (lv_at hl 4 rfl) ?_
            refine lv_iload hx hb dX8_sumOfSitters_46 (lv_at hl 0 rfl) ?_
            refine lv_iconst (v := (-1)) hx hb dX8_sumOfSitters_48 (by decide) ?_
            refine lv_ixor hx hb dX8_sumOfSitters_49 ?_
            refine lv_iand hx hb dX8_sumOfSitters_50 ?_
            refine lv_istore (lv' := [(4, .int (y4_14 &&& (u7 ^^^ (-1 : Int32)))), (6, .int u7), (0, .ref a_t), (1, .ref a_p1), (2, .long y2_14), (5, .int y5_14)]) hx hb dX8_sumOfSitters_51 hl (by decide) rfl (fun ls hl => ?_)
            refine lv_lload_n hx hb dX8_sumOfSitters_53 rfl (lv_at hl 4 rfl) ?_
            refine lv_aload_n hx hb dX8_sumOfSitters_54 rfl (lv_at hl 2 rfl) ?_
            refine lv_aload_n hx hb dX8_sumOfSitters_55 rfl (lv_at hl 3 rfl) ?_
            refine lv_iload hx hb dX8_sumOfSitters_56 (lv_at hl 1 rfl) ?_
            obtain ⟨u8, hu8, hf⟩ := ob_bk hf
            refine iv_X8_60 (As := [.ref a_p1, .int u7]) (rest := [.long y2_14]) (is := [0, 1, 3, 4, 5, 2, 6]) (q0 := 3) (X' := [(a_p1, .inr (0, [.ref a_p1_scene, .ref a_p1_apart, .ref a_p1_clash, .ref a_p1_neighbours])), (a_p1_scene, .inr (7, [.ref a_p1_scene_steps, .ref a_p1_scene_worths, .ref a_p1_scene_comers, .ref a_p1_scene_seen, .ref a_p1_scene_seenLengths, .int v_p1_scene_seats, .int v_p1_scene_bear, .int v_p1_scene_comerCount, .int v_p1_scene_seenRows])), (a_p1_clash, eI cI 12 v_p1_clash), (a_t, .inr (8, [.ref a_filled, .ref a_open, .ref a_chance, .int u8.2.1, .int u8.2.2.1])), (a_filled, eI cI 4096 u8.2.2.2.1), (a_open, eI cI 4096 u8.2.2.2.2.1), (a_chance, eI cI 4096 u8.2.2.2.2.2)]) Cx (c_X8_sumWithin l D cI cJ cZ cO a_p1 a_p1_scene a_p1_apart a_p1_clash a_p1_neighbours a_p1_scene_steps a_p1_scene_worths a_p1_scene_comers a_p1_scene_seen a_p1_scene_seenLengths a_t a_filled a_open a_chance v_p1_scene_seats v_p1_scene_bear v_p1_scene_comerCount v_p1_scene_seenRows z_size_14 z_places_14 z_filled_14 z_open_14 v_p1_clash z_chance_14 u7 u8 hu8) hP hS rfl rfl rfl rfl rfl rfl rfl hl.1 (Nat.le_of_ble_eq_true rfl) dX8_sumOfSitters_58 rfl rfl ⟨Nat.le_of_ble_eq_true rfl, Nat.le_of_ble_eq_true rfl⟩ ⟨Nat.zero_le _, Nat.zero_le _⟩ rfl (fun H locs hP hS => ?_)
            refine lv_ladd hx hb dX8_sumOfSitters_61 ?_
            refine lv_lstore_n (lv' := [(2, .long (y2_14 + u8.1)), (4, .int (y4_14 &&& (u7 ^^^ (-1 : Int32)))), (6, .int u7), (0, .ref a_t), (1, .ref a_p1), (5, .int y5_14)]) hx hb dX8_sumOfSitters_62 rfl hl (by decide) rfl (fun ls hl => ?_)
            exact J63_5 ((y2_14 + u8.1), (y4_14 &&& (u7 ^^^ (-1 : Int32))), u8.2.1, u8.2.2.1, u8.2.2.2.1, u8.2.2.2.2.1, u8.2.2.2.2.2) hf _ _ _ hP hS (lv_sub hl [3, 4, 0, 1, 5] rfl)
  obtain ⟨u9, hu9, hf⟩ := ob_b hf
  refine L14_2 FU (0 : Int64) u1 (0 : Int32) v_size v_places v_filled v_open v_chance u9 _ _ _ hu9 hP hS (lv_sub hl [3, 4, 2, 1, 0] rfl) ?_
  intro H locs ls hP hS hl
  refine lv_lload_n hx hb dX8_sumOfSitters_69 rfl (lv_at hl 0 rfl) ?_
  obtain rfl := Option.some.inj hf
  exact ret _ _ _ _ dX8_sumOfSitters_70 hP hS

def f_X9_number (v_set : Int32) : Option (Int32) :=
  (f_J6_bitCount_0f7a4 v_set).bind (fun u1 =>
  some (u1))
set_option maxHeartbeats 4000000 in
set_option maxRecDepth 100000 in
theorem c_X9_number (l : Launch) (D : va_G) (cI cJ cZ cO : ClassId) (a_t a_bench a_nearest : Nat) (v_set : Int32) (v_bear : Int32) (out : Int32) (hf : f_X9_number v_set = some out) : MetR l yX9_number (Cond.code yX9_number cX9_number 1 (some .int) :: tbG) { frames := 1, cells := 0, slots := 0, locals := 20 } D (tyL cI cJ cZ cO) [.ref a_t] [(a_t, .inr (9, [.ref a_bench, .ref a_nearest, .int v_set, .int v_bear]))] (some (.int out)) [(a_t, .inr (9, [.ref a_bench, .ref a_nearest, .int v_set, .int v_bear]))] := by
  refine ba_ofI RX9 [(0, .ref a_t)] (by decide +kernel) rfl (Nat.le_of_ble_eq_true rfl) rfl ?_
  intro p e s m args below meth c Q A Cx hP ret ls hl
  obtain ⟨⟨hx, hb, hml, hown, hts⟩, hK, hD, hA⟩ := id Cx
  have hS : va_S A s.heap s.heap [] := va_S.rf
  unfold f_X9_number at hf
  refine lv_aload_n hx hb dX9_number_0 rfl (lv_at hl 0 rfl) ?_
  refine gf_X9_19 Cx hP 0 rfl rfl dX9_number_1 ?_
  obtain ⟨u1, hu1, hf⟩ := ob_b hf
  refine iv_X9_41 (As := [.int v_set]) (rest := []) (is := []) (X' := [(a_t, .inr (9, [.ref a_bench, .ref a_nearest, .int v_set, .int v_bear]))]) Cx (c_J6_bitCount_0f7a4 l D cI cJ cZ cO  v_set u1 hu1) hP hS rfl rfl rfl rfl rfl rfl hl.1 (Nat.le_of_ble_eq_true rfl) dX9_number_4 rfl rfl ⟨Nat.le_of_ble_eq_true rfl, Nat.le_of_ble_eq_true rfl⟩ ⟨Nat.zero_le _, Nat.zero_le _⟩ rfl (fun H locs hP hS => ?_)
  obtain rfl := Option.some.inj hf
  exact ret _ _ _ _ dX9_number_7 hP hS

def f_X9_openSeats_4 (v_bear : Int32) (v_bench_scene_seats : Int32) (v_nearest : Nat → Int32) : Nat → Int32 → Int32 → Option (Int32)
  | 0, _, _ => none
  | n + 1, y1_4, y2_4 =>
  if v_bench_scene_seats ≤ y2_4 then
  some (y1_4)
  else
  (f_X9_isOpen v_bear v_nearest y2_4).bind (fun u3 =>
  (if u3 = 0 then
  some (y1_4)
  else
  some (y1_4 ||| ((1 : Int32) <<< (y2_4 &&& 31)))).bind (fun w4 =>
  f_X9_openSeats_4 v_bear v_bench_scene_seats v_nearest n w4 (y2_4 + 1)))
theorem f_X9_openSeats_4_s (v_bear : Int32) (v_bench_scene_seats : Int32) (v_nearest : Nat → Int32) (n : Nat) (y1_4 : Int32) (y2_4 : Int32) : f_X9_openSeats_4 v_bear v_bench_scene_seats v_nearest (n + 1) y1_4 y2_4 =
  (if v_bench_scene_seats ≤ y2_4 then
  some (y1_4)
  else
  (f_X9_isOpen v_bear v_nearest y2_4).bind (fun u3 =>
  (if u3 = 0 then
  some (y1_4)
  else
  some (y1_4 ||| ((1 : Int32) <<< (y2_4 &&& 31)))).bind (fun w4 =>
  f_X9_openSeats_4 v_bear v_bench_scene_seats v_nearest n w4 (y2_4 + 1)))) := rfl
def f_X9_openSeats (v_bear : Int32) (v_bench_scene_seats : Int32) (v_nearest : Nat → Int32) : Option (Int32) :=
  (f_X9_openSeats_4 v_bear v_bench_scene_seats v_nearest FU (0 : Int32) (0 : Int32)).bind (fun u7 =>
  some (u7))
set_option maxHeartbeats 4000000 in
set_option maxRecDepth 100000 in
theorem c_X9_openSeats (l : Launch) (D : va_G) (cI cJ cZ cO : ClassId) (a_t a_bench a_nearest a_bench_scene a_bench_apart a_bench_clash a_bench_neighbours a_bench_scene_steps a_bench_scene_worths a_bench_scene_comers a_bench_scene_seen a_bench_scene_seenLengths : Nat) (v_set : Int32) (v_bear : Int32) (v_bench_scene_seats : Int32) (v_bench_scene_bear : Int32) (v_bench_scene_comerCount : Int32) (v_bench_scene_seenRows : Int32) (v_nearest : Nat → Int32) (out : Int32) (hf : f_X9_openSeats v_bear v_bench_scene_seats v_nearest = some out) : MetR l yX9_openSeats (Cond.code yX9_openSeats cX9_openSeats 3 (some .int) :: tbG) { frames := 1, cells := 0, slots := 0, locals := 21 } D (tyL cI cJ cZ cO) [.ref a_t] [(a_t, .inr (9, [.ref a_bench, .ref a_nearest, .int v_set, .int v_bear])), (a_bench, .inr (0, [.ref a_bench_scene, .ref a_bench_apart, .ref a_bench_clash, .ref a_bench_neighbours])), (a_bench_scene, .inr (7, [.ref a_bench_scene_steps, .ref a_bench_scene_worths, .ref a_bench_scene_comers, .ref a_bench_scene_seen, .ref a_bench_scene_seenLengths, .int v_bench_scene_seats, .int v_bench_scene_bear, .int v_bench_scene_comerCount, .int v_bench_scene_seenRows])), (a_nearest, eI cI 12 v_nearest)] (some (.int out)) [(a_t, .inr (9, [.ref a_bench, .ref a_nearest, .int v_set, .int v_bear])), (a_bench, .inr (0, [.ref a_bench_scene, .ref a_bench_apart, .ref a_bench_clash, .ref a_bench_neighbours])), (a_bench_scene, .inr (7, [.ref a_bench_scene_steps, .ref a_bench_scene_worths, .ref a_bench_scene_comers, .ref a_bench_scene_seen, .ref a_bench_scene_seenLengths, .int v_bench_scene_seats, .int v_bench_scene_bear, .int v_bench_scene_comerCount, .int v_bench_scene_seenRows])), (a_nearest, eI cI 12 v_nearest)] := by
  refine ba_ofI RX9 [(0, .ref a_t)] (by decide +kernel) rfl (Nat.le_of_ble_eq_true rfl) rfl ?_
  intro p e s m args below meth c Q A Cx hP ret ls hl
  obtain ⟨⟨hx, hb, hml, hown, hts⟩, hK, hD, hA⟩ := id Cx
  have hS : va_S A s.heap s.heap [] := va_S.rf
  unfold f_X9_openSeats at hf
  refine lv_iconst (v := 0) hx hb dX9_openSeats_0 (by decide) ?_
  refine lv_istore_n (lv' := [(1, .int (0 : Int32)), (0, .ref a_t)]) hx hb dX9_openSeats_1 rfl hl (by decide) rfl (fun ls hl => ?_)
  refine lv_iconst (v := 0) hx hb dX9_openSeats_2 (by decide) ?_
  refine lv_istore_n (lv' := [(2, .int (0 : Int32)), (1, .int (0 : Int32)), (0, .ref a_t)]) hx hb dX9_openSeats_3 rfl hl (by decide) rfl (fun ls hl => ?_)
  have L4_1 : ∀ (n : Nat) (y1_4 : Int32) (y2_4 : Int32) (o : Int32) (H : Heap) (locs : List Loc) (ls : Array Slot), f_X9_openSeats_4 v_bear v_bench_scene_seats v_nearest n y1_4 y2_4 = some o → va_P D vwCl [(a_t, .inr (9, [.ref a_bench, .ref a_nearest, .int v_set, .int v_bear])), (a_bench, .inr (0, [.ref a_bench_scene, .ref a_bench_apart, .ref a_bench_clash, .ref a_bench_neighbours])), (a_bench_scene, .inr (7, [.ref a_bench_scene_steps, .ref a_bench_scene_worths, .ref a_bench_scene_comers, .ref a_bench_scene_seen, .ref a_bench_scene_seenLengths, .int v_bench_scene_seats, .int v_bench_scene_bear, .int v_bench_scene_comerCount, .int v_bench_scene_seenRows])), (a_nearest, eI cI 12 v_nearest)] H → va_S A s.heap H locs → lv_has ls 3 [(0, .ref a_t), (1, .int y1_4), (2, .int y2_4)] → (∀ (H : Heap) (locs : List Loc) (ls : Array Slot), va_P D vwCl [(a_t, .inr (9, [.ref a_bench, .ref a_nearest, .int v_set, .int v_bear])), (a_bench, .inr (0, [.ref a_bench_scene, .ref a_bench_apart, .ref a_bench_clash, .ref a_bench_neighbours])), (a_bench_scene, .inr (7, [.ref a_bench_scene_steps, .ref a_bench_scene_worths, .ref a_bench_scene_comers, .ref a_bench_scene_seen, .ref a_bench_scene_seenLengths, .int v_bench_scene_seats, .int v_bench_scene_bear, .int v_bench_scene_comerCount, .int v_bench_scene_seenRows])), (a_nearest, eI cI 12 v_nearest)] H → va_S A s.heap H locs → lv_has ls 3 [(1, .int o)] → W p l e { frames := 1, cells := 0, slots := 0, locals := 21 } s m args below meth c H locs 0 0 Q (F0 m 38 ls [])) → W p l e { frames := 1, cells := 0, slots := 0, locals := 21 } s m args below meth c H locs 0 0 Q (F0 m 4 ls []) := by
    intro n
    induction n with
    | zero => intro y1_4 y2_4 o H locs ls hf; exact (ob_n hf).elim
    | succ n ih =>
      intro y1_4 y2_4 o H locs ls hf hP hS hl kk
      rw [f_X9_openSeats_4_s] at hf
      refine lv_iload_n hx hb dX9_openSeats_4 rfl (lv_at hl 2 rfl) ?_
      refine lv_aload_n hx hb dX9_openSeats_5 rfl (lv_at hl 0 rfl) ?_
      refine gf_X9_9 Cx hP 0 rfl rfl dX9_openSeats_6 ?_
      refine gf_X9_23 Cx hP 1 rfl rfl dX9_openSeats_9 ?_
      refine gf_X9_47 Cx hP 2 rfl rfl dX9_openSeats_12 ?_
      refine lv_icmp_ge (tgt := 38) hx hb dX9_openSeats_15 (by decide) (fun c2 => ?_) (fun c2 => ?_)
      · have hf := ob_t c2 hf
        obtain rfl := Option.some.inj hf
        exact kk _ _ _ hP hS (lv_sub hl [1] rfl)
      · have hf := ob_f c2 hf
        refine lv_aload_n hx hb dX9_openSeats_18 rfl (lv_at hl 0 rfl) ?_
        refine lv_iload_n hx hb dX9_openSeats_19 rfl (lv_at hl 2 rfl) ?_
        obtain ⟨u3, hu3, hf⟩ := ob_b hf
        refine iv_X9_62 (As := [.int y2_4]) (rest := []) (is := [0, 3]) (q0 := 0) (X' := [(a_t, .inr (9, [.ref a_bench, .ref a_nearest, .int v_set, .int v_bear])), (a_bench, .inr (0, [.ref a_bench_scene, .ref a_bench_apart, .ref a_bench_clash, .ref a_bench_neighbours])), (a_bench_scene, .inr (7, [.ref a_bench_scene_steps, .ref a_bench_scene_worths, .ref a_bench_scene_comers, .ref a_bench_scene_seen, .ref a_bench_scene_seenLengths, .int v_bench_scene_seats, .int v_bench_scene_bear, .int v_bench_scene_comerCount, .int v_bench_scene_seenRows])), (a_nearest, eI cI 12 v_nearest)]) Cx (c_X9_isOpen l D cI cJ cZ cO a_t a_bench a_nearest v_set v_bear v_nearest y2_4 u3 hu3) hP hS rfl rfl rfl rfl rfl rfl rfl hl.1 (Nat.le_of_ble_eq_true rfl) dX9_openSeats_20 rfl rfl ⟨Nat.le_of_ble_eq_true rfl, Nat.le_of_ble_eq_true rfl⟩ ⟨Nat.zero_le _, Nat.zero_le _⟩ rfl (fun H locs hP hS => ?_)
        refine ob_J (P := fun w4 => ∀ (H : Heap) (locs : List Loc) (ls : Array Slot), va_P D vwCl [(a_t, .inr (9, [.ref a_bench, .ref a_nearest, .int v_set, .int v_bear])), (a_bench, .inr (0, [.ref a_bench_scene, .ref a_bench_apart, .ref a_bench_clash, .ref a_bench_neighbours])), (a_bench_scene, .inr (7, [.ref a_bench_scene_steps, .ref a_bench_scene_worths, .ref a_bench_scene_comers, .ref a_bench_scene_seen, .ref a_bench_scene_seenLengths, .int v_bench_scene_seats, .int v_bench_scene_bear, .int v_bench_scene_comerCount, .int v_bench_scene_seenRows])), (a_nearest, eI cI 12 v_nearest)] H → va_S A s.heap H locs → lv_has ls 3 [(0, .ref a_t), (1, .int w4), (2, .int y2_4)] → W p l e { frames := 1, cells := 0, slots := 0, locals := 21 } s m args below meth c H locs 0 0 Q (F0 m 32 ls [])) hf ?_ ?_
        · intro w4 hf H locs ls hP hS hl
          refine lv_iinc (v := (y2_4 + 1)) (lv' := [(2, .int (y2_4 + 1)), (0, .ref a_t), (1, .int w4)]) hx hb dX9_openSeats_32 hl (k := 2) rfl rfl (by decide) rfl (fun ls hl => ?_)
          refine lv_goto (tgt := 4) hx hb dX9_openSeats_35 (by decide) ?_
          exact ih w4 (y2_4 + 1) _ _ _ _ hf hP hS (lv_sub hl [1, 2, 0] rfl) kk
        · intro J32_5 hf
          refine lv_if_eq (tgt := 32) hx hb dX9_openSeats_23 (by decide) (fun c6 => ?_) (fun c6 => ?_)
          · have hf := ob_tk c6 hf
            exact J32_5 y1_4 hf _ _ _ hP hS (lv_sub hl [0, 1, 2] rfl)
          · have hf := ob_fk c6 hf
            refine lv_iload_n hx hb dX9_openSeats_26 rfl (lv_at hl 1 rfl) ?_
            refine lv_iconst (v := 1) hx hb dX9_openSeats_27 (by decide) ?_
            refine lv_iload_n hx hb dX9_openSeats_28 rfl (lv_at hl 2 rfl) ?_
            refine lv_ishl hx hb dX9_openSeats_29 ?_
            refine lv_ior hx hb dX9_openSeats_30 ?_
            refine lv_istore_n (lv' := [(1, .int (y1_4 ||| ((1 : Int32) <<< (y2_4 &&& 31)))), (0, .ref a_t), (2, .int y2_4)]) hx hb dX9_openSeats_31 rfl hl (by decide) rfl (fun ls hl => ?_)
            exact J32_5 (y1_4 ||| ((1 : Int32) <<< (y2_4 &&& 31))) hf _ _ _ hP hS (lv_sub hl [1, 0, 2] rfl)
  obtain ⟨u7, hu7, hf⟩ := ob_b hf
  refine L4_1 FU (0 : Int32) (0 : Int32) u7 _ _ _ hu7 hP hS (lv_sub hl [2, 1, 0] rfl) ?_
  intro H locs ls hP hS hl
  refine lv_iload_n hx hb dX9_openSeats_38 rfl (lv_at hl 0 rfl) ?_
  obtain rfl := Option.some.inj hf
  exact ret _ _ _ _ dX9_openSeats_39 hP hS

def f_X9_fillUp_2 (v_bear : Int32) (v_bench_scene_seats : Int32) (v_bench_scene_worths : Nat → Int32) (v_bench_neighbours : Nat → Int32) (v_bench_apart : Nat → Int32) (x1 : Int32) : Nat → Int32 → Int32 → (Nat → Int32) → Option ((Int32 × (Nat → Int32)) ⊕ (Int32 × (Nat → Int32)))
  | 0, _, _, _ => none
  | n + 1, y2_2, z_set_2, z_nearest_2 =>
  if (12 : Int32) ≤ y2_2 then
  some (Sum.inl (z_set_2, z_nearest_2))
  else
  (f_X9_choice v_bear v_bench_scene_seats z_nearest_2 v_bench_scene_worths v_bench_neighbours x1).bind (fun u3 =>
  if u3 = (-6 : Int32) then
  some (Sum.inr (z_set_2, z_nearest_2))
  else
  (f_X9_sit z_set_2 v_bench_scene_seats z_nearest_2 v_bench_apart u3).bind (fun u5 =>
  f_X9_fillUp_2 v_bear v_bench_scene_seats v_bench_scene_worths v_bench_neighbours v_bench_apart x1 n (y2_2 + 1) u5.1 u5.2))
theorem f_X9_fillUp_2_s (v_bear : Int32) (v_bench_scene_seats : Int32) (v_bench_scene_worths : Nat → Int32) (v_bench_neighbours : Nat → Int32) (v_bench_apart : Nat → Int32) (x1 : Int32) (n : Nat) (y2_2 : Int32) (z_set_2 : Int32) (z_nearest_2 : Nat → Int32) : f_X9_fillUp_2 v_bear v_bench_scene_seats v_bench_scene_worths v_bench_neighbours v_bench_apart x1 (n + 1) y2_2 z_set_2 z_nearest_2 =
  (if (12 : Int32) ≤ y2_2 then
  some (Sum.inl (z_set_2, z_nearest_2))
  else
  (f_X9_choice v_bear v_bench_scene_seats z_nearest_2 v_bench_scene_worths v_bench_neighbours x1).bind (fun u3 =>
  if u3 = (-6 : Int32) then
  some (Sum.inr (z_set_2, z_nearest_2))
  else
  (f_X9_sit z_set_2 v_bench_scene_seats z_nearest_2 v_bench_apart u3).bind (fun u5 =>
  f_X9_fillUp_2 v_bear v_bench_scene_seats v_bench_scene_worths v_bench_neighbours v_bench_apart x1 n (y2_2 + 1) u5.1 u5.2))) := rfl
def f_X9_fillUp (v_set : Int32) (v_bear : Int32) (v_bench_scene_seats : Int32) (v_nearest : Nat → Int32) (v_bench_scene_worths : Nat → Int32) (v_bench_neighbours : Nat → Int32) (v_bench_apart : Nat → Int32) (x1 : Int32) : Option (Int32 × (Nat → Int32)) :=
  (f_X9_fillUp_2 v_bear v_bench_scene_seats v_bench_scene_worths v_bench_neighbours v_bench_apart x1 FU (0 : Int32) v_set v_nearest).bind (fun u6 => Sum.elim (fun w7 =>
  some (w7.1, w7.2)) (fun r => some r) u6)
set_option maxHeartbeats 4000000 in
set_option maxRecDepth 100000 in
theorem c_X9_fillUp (l : Launch) (D : va_G) (cI cJ cZ cO : ClassId) (a_t a_bench a_nearest a_bench_scene a_bench_apart a_bench_clash a_bench_neighbours a_bench_scene_steps a_bench_scene_worths a_bench_scene_comers a_bench_scene_seen a_bench_scene_seenLengths : Nat) (v_set : Int32) (v_bear : Int32) (v_bench_scene_seats : Int32) (v_bench_scene_bear : Int32) (v_bench_scene_comerCount : Int32) (v_bench_scene_seenRows : Int32) (v_nearest : Nat → Int32) (v_bench_scene_worths : Nat → Int32) (v_bench_neighbours : Nat → Int32) (v_bench_apart : Nat → Int32) (x1 : Int32) (out : Int32 × (Nat → Int32)) (hf : f_X9_fillUp v_set v_bear v_bench_scene_seats v_nearest v_bench_scene_worths v_bench_neighbours v_bench_apart x1 = some out) : MetR l yX9_fillUp (Cond.code yX9_fillUp cX9_fillUp 4 none :: tbG) { frames := 2, cells := 0, slots := 0, locals := 47 } D (tyL cI cJ cZ cO) [.ref a_t, .int x1] [(a_t, .inr (9, [.ref a_bench, .ref a_nearest, .int v_set, .int v_bear])), (a_bench, .inr (0, [.ref a_bench_scene, .ref a_bench_apart, .ref a_bench_clash, .ref a_bench_neighbours])), (a_bench_scene, .inr (7, [.ref a_bench_scene_steps, .ref a_bench_scene_worths, .ref a_bench_scene_comers, .ref a_bench_scene_seen, .ref a_bench_scene_seenLengths, .int v_bench_scene_seats, .int v_bench_scene_bear, .int v_bench_scene_comerCount, .int v_bench_scene_seenRows])), (a_nearest, eI cI 12 v_nearest), (a_bench_scene_worths, eI cI 12 v_bench_scene_worths), (a_bench_neighbours, eI cI 12 v_bench_neighbours), (a_bench_apart, eI cI 144 v_bench_apart)] none [(a_t, .inr (9, [.ref a_bench, .ref a_nearest, .int out.1, .int v_bear])), (a_bench, .inr (0, [.ref a_bench_scene, .ref a_bench_apart, .ref a_bench_clash, .ref a_bench_neighbours])), (a_bench_scene, .inr (7, [.ref a_bench_scene_steps, .ref a_bench_scene_worths, .ref a_bench_scene_comers, .ref a_bench_scene_seen, .ref a_bench_scene_seenLengths, .int v_bench_scene_seats, .int v_bench_scene_bear, .int v_bench_scene_comerCount, .int v_bench_scene_seenRows])), (a_nearest, eI cI 12 out.2), (a_bench_scene_worths, eI cI 12 v_bench_scene_worths), (a_bench_neighbours, eI cI 12 v_bench_neighbours), (a_bench_apart, eI cI 144 v_bench_apart)] := by
  refine ba_ofV RX9 [(0, .ref a_t), (1, .int x1)] (by decide +kernel) rfl (Nat.le_of_ble_eq_true rfl) rfl ?_
  intro p e s m args below meth c Q A Cx hP ret ls hl
  obtain ⟨⟨hx, hb, hml, hown, hts⟩, hK, hD, hA⟩ := id Cx
  have hS : va_S A s.heap s.heap [] := va_S.rf
  unfold f_X9_fillUp at hf
  refine lv_iconst (v := 0) hx hb dX9_fillUp_0 (by decide) ?_
  refine lv_istore_n (lv' := [(2, .int (0 : Int32)), (0, .ref a_t), (1, .int x1)]) hx hb dX9_fillUp_1 rfl hl (by decide) rfl (fun ls hl => ?_)
  have L2_1 : ∀ (n : Nat) (y2_2 : Int32) (z_set_2 : Int32) (z_nearest_2 : Nat → Int32) (o : (Int32 × (Nat → Int32)) ⊕ (Int32 × (Nat → Int32))) (H : Heap) (locs : List Loc) (ls : Array Slot), f_X9_fillUp_2 v_bear v_bench_scene_seats v_bench_scene_worths v_bench_neighbours v_bench_apart x1 n y2_2 z_set_2 z_nearest_2 = some o → va_P D vwCl [(a_t, .inr (9, [.ref a_bench, .ref a_nearest, .int z_set_2, .int v_bear])), (a_bench, .inr (0, [.ref a_bench_scene, .ref a_bench_apart, .ref a_bench_clash, .ref a_bench_neighbours])), (a_bench_scene, .inr (7, [.ref a_bench_scene_steps, .ref a_bench_scene_worths, .ref a_bench_scene_comers, .ref a_bench_scene_seen, .ref a_bench_scene_seenLengths, .int v_bench_scene_seats, .int v_bench_scene_bear, .int v_bench_scene_comerCount, .int v_bench_scene_seenRows])), (a_nearest, eI cI 12 z_nearest_2), (a_bench_scene_worths, eI cI 12 v_bench_scene_worths), (a_bench_neighbours, eI cI 12 v_bench_neighbours), (a_bench_apart, eI cI 144 v_bench_apart)] H → va_S A s.heap H locs → lv_has ls 4 [(0, .ref a_t), (1, .int x1), (2, .int y2_2)] → (∀ w, o = Sum.inl w → ∀ (H : Heap) (locs : List Loc) (ls : Array Slot), va_P D vwCl [(a_t, .inr (9, [.ref a_bench, .ref a_nearest, .int w.1, .int v_bear])), (a_bench, .inr (0, [.ref a_bench_scene, .ref a_bench_apart, .ref a_bench_clash, .ref a_bench_neighbours])), (a_bench_scene, .inr (7, [.ref a_bench_scene_steps, .ref a_bench_scene_worths, .ref a_bench_scene_comers, .ref a_bench_scene_seen, .ref a_bench_scene_seenLengths, .int v_bench_scene_seats, .int v_bench_scene_bear, .int v_bench_scene_comerCount, .int v_bench_scene_seenRows])), (a_nearest, eI cI 12 w.2), (a_bench_scene_worths, eI cI 12 v_bench_scene_worths), (a_bench_neighbours, eI cI 12 v_bench_neighbours), (a_bench_apart, eI cI 144 v_bench_apart)] H → va_S A s.heap H locs → lv_has ls 4 [] → W p l e { frames := 2, cells := 0, slots := 0, locals := 47 } s m args below meth c H locs 0 0 Q (F0 m 32 ls [])) → (∀ r, o = Sum.inr r → ∀ (pc : Nat) (H : Heap) (locs : List Loc) (ls : Array Slot), decode cX9_fillUp pc = .ok (.return_, 1) → va_P D vwCl [(a_t, .inr (9, [.ref a_bench, .ref a_nearest, .int r.1, .int v_bear])), (a_bench, .inr (0, [.ref a_bench_scene, .ref a_bench_apart, .ref a_bench_clash, .ref a_bench_neighbours])), (a_bench_scene, .inr (7, [.ref a_bench_scene_steps, .ref a_bench_scene_worths, .ref a_bench_scene_comers, .ref a_bench_scene_seen, .ref a_bench_scene_seenLengths, .int v_bench_scene_seats, .int v_bench_scene_bear, .int v_bench_scene_comerCount, .int v_bench_scene_seenRows])), (a_nearest, eI cI 12 r.2), (a_bench_scene_worths, eI cI 12 v_bench_scene_worths), (a_bench_neighbours, eI cI 12 v_bench_neighbours), (a_bench_apart, eI cI 144 v_bench_apart)] H → va_S A s.heap H locs → W p l e { frames := 2, cells := 0, slots := 0, locals := 47 } s m args below meth c H locs 0 0 Q (F0 m pc ls [])) → W p l e { frames := 2, cells := 0, slots := 0, locals := 47 } s m args below meth c H locs 0 0 Q (F0 m 2 ls []) := by
    intro n
    induction n with
    | zero => intro y2_2 z_set_2 z_nearest_2 o H locs ls hf; exact (ob_n hf).elim
    | succ n ih =>
      intro y2_2 z_set_2 z_nearest_2 o H locs ls hf hP hS hl kk kr
      rw [f_X9_fillUp_2_s] at hf
      refine lv_iload_n hx hb dX9_fillUp_2 rfl (lv_at hl 2 rfl) ?_
      refine lv_bipush (v := 12) hx hb dX9_fillUp_3 (by decide) ?_
      refine lv_icmp_ge (tgt := 32) hx hb dX9_fillUp_5 (by decide) (fun c2 => ?_) (fun c2 => ?_)
      · have hf := ob_t c2 hf
        obtain rfl := Option.some.inj hf
        exact kk _ rfl _ _ _ hP hS (lv_sub hl [] rfl)
      · have hf := ob_f c2 hf
        refine lv_aload_n hx hb dX9_fillUp_8 rfl (lv_at hl 0 rfl) ?_
        refine lv_iload_n hx hb dX9_fillUp_9 rfl (lv_at hl 1 rfl) ?_
        obtain ⟨u3, hu3, hf⟩ := ob_b hf
        refine iv_X9_79 (As := [.int x1]) (rest := []) (is := [0, 1, 2, 3, 4, 5]) (q0 := 0) (X' := [(a_t, .inr (9, [.ref a_bench, .ref a_nearest, .int z_set_2, .int v_bear])), (a_bench, .inr (0, [.ref a_bench_scene, .ref a_bench_apart, .ref a_bench_clash, .ref a_bench_neighbours])), (a_bench_scene, .inr (7, [.ref a_bench_scene_steps, .ref a_bench_scene_worths, .ref a_bench_scene_comers, .ref a_bench_scene_seen, .ref a_bench_scene_seenLengths, .int v_bench_scene_seats, .int v_bench_scene_bear, .int v_bench_scene_comerCount, .int v_bench_scene_seenRows])), (a_nearest, eI cI 12 z_nearest_2), (a_bench_scene_worths, eI cI 12 v_bench_scene_worths), (a_bench_neighbours, eI cI 12 v_bench_neighbours), (a_bench_apart, eI cI 144 v_bench_apart)]) Cx (c_X9_choice l D cI cJ cZ cO a_t a_bench a_nearest a_bench_scene a_bench_apart a_bench_clash a_bench_neighbours a_bench_scene_steps a_bench_scene_worths a_bench_scene_comers a_bench_scene_seen a_bench_scene_seenLengths z_set_2 v_bear v_bench_scene_seats v_bench_scene_bear v_bench_scene_comerCount v_bench_scene_seenRows z_nearest_2 v_bench_scene_worths v_bench_neighbours x1 u3 hu3) hP hS rfl rfl rfl rfl rfl rfl rfl hl.1 (Nat.le_of_ble_eq_true rfl) dX9_fillUp_10 rfl rfl ⟨Nat.le_of_ble_eq_true rfl, Nat.le_of_ble_eq_true rfl⟩ ⟨Nat.zero_le _, Nat.zero_le _⟩ rfl (fun H locs hP hS => ?_)
        refine lv_istore_n (lv' := [(3, .int u3), (0, .ref a_t), (1, .int x1), (2, .int y2_2)]) hx hb dX9_fillUp_13 rfl hl (by decide) rfl (fun ls hl => ?_)
        refine lv_iload_n hx hb dX9_fillUp_14 rfl (lv_at hl 0 rfl) ?_
        refine lv_bipush (v := (-6)) hx hb dX9_fillUp_15 (by decide) ?_
        refine lv_icmp_ne (tgt := 21) hx hb dX9_fillUp_17 (by decide) (fun c4 => ?_) (fun c4 => ?_)
        · have hf := ob_f c4 hf
          refine lv_aload_n hx hb dX9_fillUp_21 rfl (lv_at hl 1 rfl) ?_
          refine lv_iload_n hx hb dX9_fillUp_22 rfl (lv_at hl 0 rfl) ?_
          obtain ⟨u5, hu5, hf⟩ := ob_b hf
          refine iv_X9_66 (As := [.int u3]) (rest := []) (is := [0, 1, 2, 3, 6]) (q0 := 0) (X' := [(a_t, .inr (9, [.ref a_bench, .ref a_nearest, .int u5.1, .int v_bear])), (a_bench, .inr (0, [.ref a_bench_scene, .ref a_bench_apart, .ref a_bench_clash, .ref a_bench_neighbours])), (a_bench_scene, .inr (7, [.ref a_bench_scene_steps, .ref a_bench_scene_worths, .ref a_bench_scene_comers, .ref a_bench_scene_seen, .ref a_bench_scene_seenLengths, .int v_bench_scene_seats, .int v_bench_scene_bear, .int v_bench_scene_comerCount, .int v_bench_scene_seenRows])), (a_nearest, eI cI 12 u5.2), (a_bench_scene_worths, eI cI 12 v_bench_scene_worths), (a_bench_neighbours, eI cI 12 v_bench_neighbours), (a_bench_apart, eI cI 144 v_bench_apart)]) Cx (c_X9_sit l D cI cJ cZ cO a_t a_bench a_nearest a_bench_scene a_bench_apart a_bench_clash a_bench_neighbours a_bench_scene_steps a_bench_scene_worths a_bench_scene_comers a_bench_scene_seen a_bench_scene_seenLengths z_set_2 v_bear v_bench_scene_seats v_bench_scene_bear v_bench_scene_comerCount v_bench_scene_seenRows z_nearest_2 v_bench_apart u3 u5 hu5) hP hS rfl rfl rfl rfl rfl rfl rfl hl.1 (Nat.le_of_ble_eq_true rfl) dX9_fillUp_23 rfl rfl ⟨Nat.le_of_ble_eq_true rfl, Nat.le_of_ble_eq_true rfl⟩ ⟨Nat.zero_le _, Nat.zero_le _⟩ rfl (fun H locs hP hS => ?_)
          refine lv_iinc (v := (y2_2 + 1)) (lv' := [(2, .int (y2_2 + 1)), (3, .int u3), (0, .ref a_t), (1, .int x1)]) hx hb dX9_fillUp_26 hl (k := 3) rfl rfl (by decide) rfl (fun ls hl => ?_)
          refine lv_goto (tgt := 2) hx hb dX9_fillUp_29 (by decide) ?_
          exact ih (y2_2 + 1) u5.1 u5.2 _ _ _ _ hf hP hS (lv_sub hl [2, 3, 0] rfl) kk kr
        · have hf := ob_t c4 hf
          obtain rfl := Option.some.inj hf
          exact kr _ rfl _ _ _ _ dX9_fillUp_20 hP hS
  obtain ⟨u6, hu6, hf⟩ := ob_b hf
  refine L2_1 FU (0 : Int32) v_set v_nearest u6 _ _ _ hu6 hP hS (lv_sub hl [1, 2, 0] rfl) ?_ ?_
  · intro w7 hw H locs ls hP hS hl
    rw [hw] at hf
    have hf := ob_l hf
    obtain rfl := Option.some.inj hf
    exact ret _ _ _ _ dX9_fillUp_32 hP hS
  · intro r hr pc H locs ls hd hP hS
    rw [hr] at hf
    have hf := ob_r hf
    obtain rfl := Option.some.inj hf
    exact ret _ _ _ _ hd hP hS

def f_X10_isWithin (x0 : Int32) (x1 : Int32) (x2 : Int32) : Option (Int32) :=
  (if x0 < x1 then
  some (0 : Int32)
  else
  if x2 < x0 then
  some (0 : Int32)
  else
  some (1 : Int32)).bind (fun w1 =>
  (oz w1).bind (fun u3 =>
  some (u3)))
set_option maxHeartbeats 4000000 in
set_option maxRecDepth 100000 in
theorem c_X10_isWithin (l : Launch) (D : va_G) (cI cJ cZ cO : ClassId) (x0 : Int32) (x1 : Int32) (x2 : Int32) (out : Int32) (hf : f_X10_isWithin x0 x1 x2 = some out) : MetR l yX10_isWithin (Cond.code yX10_isWithin cX10_isWithin 3 (some .boolean) :: tbG) { frames := 0, cells := 0, slots := 0, locals := 0 } D (tyL cI cJ cZ cO) [.int x0, .int x1, .int x2] [] (some (.int out)) [] := by
  refine ba_ofZ RX10 [(0, .int x0), (1, .int x1), (2, .int x2)] (by decide +kernel) rfl (Nat.le_of_ble_eq_true rfl) rfl ?_
  intro p e s m args below meth c Q A Cx hP ret ls hl
  obtain ⟨⟨hx, hb, hml, hown, hts⟩, hK, hD, hA⟩ := id Cx
  have hS : va_S A s.heap s.heap [] := va_S.rf
  unfold f_X10_isWithin at hf
  refine lv_iload_n hx hb dX10_isWithin_0 rfl (lv_at hl 0 rfl) ?_
  refine lv_iload_n hx hb dX10_isWithin_1 rfl (lv_at hl 1 rfl) ?_
  refine ob_J (P := fun w1 => ∀ (H : Heap) (locs : List Loc) (ls : Array Slot), va_P D vwCl [] H → va_S A s.heap H locs → lv_has ls 3 [] → W p l e { frames := 0, cells := 0, slots := 0, locals := 0 } s m args below meth c H locs 0 0 Q (F0 m 15 ls [.int w1])) hf ?_ ?_
  · intro w1 hf H locs ls hP hS hl
    obtain ⟨u3, hu3, hf⟩ := ob_b hf
    obtain ⟨hz1, hz2⟩ := oz_ok hu3
    obtain rfl := Option.some.inj hf
    exact ret _ _ _ _ _ hz1 hz2 dX10_isWithin_15 hP hS
  · intro J15_2 hf
    refine lv_icmp_lt (tgt := 14) hx hb dX10_isWithin_2 (by decide) (fun c4 => ?_) (fun c4 => ?_)
    · have hf := ob_tk c4 hf
      refine lv_iconst (v := 0) hx hb dX10_isWithin_14 (by decide) ?_
      exact J15_2 (0 : Int32) hf _ _ _ hP hS (lv_sub hl [] rfl)
    · have hf := ob_fk c4 hf
      refine lv_iload_n hx hb dX10_isWithin_5 rfl (lv_at hl 0 rfl) ?_
      refine lv_iload_n hx hb dX10_isWithin_6 rfl (lv_at hl 2 rfl) ?_
      refine lv_icmp_gt (tgt := 14) hx hb dX10_isWithin_7 (by decide) (fun c5 => ?_) (fun c5 => ?_)
      · have hf := ob_tk c5 hf
        refine lv_iconst (v := 0) hx hb dX10_isWithin_14 (by decide) ?_
        exact J15_2 (0 : Int32) hf _ _ _ hP hS (lv_sub hl [] rfl)
      · have hf := ob_fk c5 hf
        refine lv_iconst (v := 1) hx hb dX10_isWithin_10 (by decide) ?_
        refine lv_goto (tgt := 15) hx hb dX10_isWithin_11 (by decide) ?_
        exact J15_2 (1 : Int32) hf _ _ _ hP hS (lv_sub hl [] rfl)

def f_X10_say (v_pad_count : Int32) (v_pad_signs : Nat → Int32) (x1 : Int32) : Option (Int32 × Int32 × (Nat → Int32)) :=
  (f_X10_isWithin x1 (33 : Int32) (126 : Int32)).bind (fun u1 =>
  if u1 = 0 then
  some ((-2 : Int32), v_pad_count, v_pad_signs)
  else
  (f_X5_add v_pad_count v_pad_signs x1).bind (fun u3 =>
  (if u3.1 = 0 then
  some (-4 : Int32)
  else
  some (u3.2.1)).bind (fun w4 =>
  some (w4, u3.2.1, u3.2.2))))
set_option maxHeartbeats 4000000 in
set_option maxRecDepth 100000 in
theorem c_X10_say (l : Launch) (D : va_G) (cI cJ cZ cO : ClassId) (a_t a_pad a_scene a_images a_bench a_trial a_sitters a_trialSitters a_sets a_census a_match a_couples a_passing a_longRows a_pad_signs : Nat) (v_pad_count : Int32) (v_pad_signs : Nat → Int32) (x1 : Int32) (out : Int32 × Int32 × (Nat → Int32)) (hf : f_X10_say v_pad_count v_pad_signs x1 = some out) : MetR l yX10_say (Cond.code yX10_say cX10_say 2 (some .int) :: tbG) { frames := 1, cells := 0, slots := 0, locals := 22 } D (tyL cI cJ cZ cO) [.ref a_t, .int x1] [(a_t, .inr (10, [.ref a_pad, .ref a_scene, .ref a_images, .ref a_bench, .ref a_trial, .ref a_sitters, .ref a_trialSitters, .ref a_sets, .ref a_census, .ref a_match, .ref a_couples, .ref a_passing, .ref a_longRows])), (a_pad, .inr (5, [.ref a_pad_signs, .int v_pad_count])), (a_pad_signs, eI cI 30 v_pad_signs)] (some (.int out.1)) [(a_t, .inr (10, [.ref a_pad, .ref a_scene, .ref a_images, .ref a_bench, .ref a_trial, .ref a_sitters, .ref a_trialSitters, .ref a_sets, .ref a_census, .ref a_match, .ref a_couples, .ref a_passing, .ref a_longRows])), (a_pad, .inr (5, [.ref a_pad_signs, .int out.2.1])), (a_pad_signs, eI cI 30 out.2.2)] := by
  refine ba_ofI RX10 [(0, .ref a_t), (1, .int x1)] (by decide +kernel) rfl (Nat.le_of_ble_eq_true rfl) rfl ?_
  intro p e s m args below meth c Q A Cx hP ret ls hl
  obtain ⟨⟨hx, hb, hml, hown, hts⟩, hK, hD, hA⟩ := id Cx
  have hS : va_S A s.heap s.heap [] := va_S.rf
  unfold f_X10_say at hf
  refine lv_iload_n hx hb dX10_say_0 rfl (lv_at hl 1 rfl) ?_
  refine lv_bipush (v := 33) hx hb dX10_say_1 (by decide) ?_
  refine lv_bipush (v := 126) hx hb dX10_say_3 (by decide) ?_
  obtain ⟨u1, hu1, hf⟩ := ob_b hf
  refine iv_X10_99 (As := [.int x1, .int (33 : Int32), .int (126 : Int32)]) (rest := []) (is := []) (X' := [(a_t, .inr (10, [.ref a_pad, .ref a_scene, .ref a_images, .ref a_bench, .ref a_trial, .ref a_sitters, .ref a_trialSitters, .ref a_sets, .ref a_census, .ref a_match, .ref a_couples, .ref a_passing, .ref a_longRows])), (a_pad, .inr (5, [.ref a_pad_signs, .int v_pad_count])), (a_pad_signs, eI cI 30 v_pad_signs)]) Cx (c_X10_isWithin l D cI cJ cZ cO  x1 (33 : Int32) (126 : Int32) u1 hu1) hP hS rfl rfl rfl rfl rfl rfl hl.1 (Nat.le_of_ble_eq_true rfl) dX10_say_5 rfl rfl ⟨Nat.le_of_ble_eq_true rfl, Nat.le_of_ble_eq_true rfl⟩ ⟨Nat.zero_le _, Nat.zero_le _⟩ rfl (fun H locs hP hS => ?_)
  refine lv_if_ne (tgt := 14) hx hb dX10_say_8 (by decide) (fun c2 => ?_) (fun c2 => ?_)
  · have hf := ob_f c2 hf
    refine lv_aload_n hx hb dX10_say_14 rfl (lv_at hl 0 rfl) ?_
    refine gf_X10_12 Cx hP 0 rfl rfl dX10_say_15 ?_
    refine lv_iload_n hx hb dX10_say_18 rfl (lv_at hl 1 rfl) ?_
    obtain ⟨u3, hu3, hf⟩ := ob_b hf
    refine iv_X10_103 (As := [.int x1]) (rest := []) (is := [1, 2]) (q0 := 1) (X' := [(a_t, .inr (10, [.ref a_pad, .ref a_scene, .ref a_images, .ref a_bench, .ref a_trial, .ref a_sitters, .ref a_trialSitters, .ref a_sets, .ref a_census, .ref a_match, .ref a_couples, .ref a_passing, .ref a_longRows])), (a_pad, .inr (5, [.ref a_pad_signs, .int u3.2.1])), (a_pad_signs, eI cI 30 u3.2.2)]) Cx (c_X5_add l D cI cJ cZ cO a_pad a_pad_signs v_pad_count v_pad_signs x1 u3 hu3) hP hS rfl rfl rfl rfl rfl rfl rfl hl.1 (Nat.le_of_ble_eq_true rfl) dX10_say_19 rfl rfl ⟨Nat.le_of_ble_eq_true rfl, Nat.le_of_ble_eq_true rfl⟩ ⟨Nat.zero_le _, Nat.zero_le _⟩ rfl (fun H locs hP hS => ?_)
    refine ob_J (P := fun w4 => ∀ (H : Heap) (locs : List Loc) (ls : Array Slot), va_P D vwCl [(a_t, .inr (10, [.ref a_pad, .ref a_scene, .ref a_images, .ref a_bench, .ref a_trial, .ref a_sitters, .ref a_trialSitters, .ref a_sets, .ref a_census, .ref a_match, .ref a_couples, .ref a_passing, .ref a_longRows])), (a_pad, .inr (5, [.ref a_pad_signs, .int u3.2.1])), (a_pad_signs, eI cI 30 u3.2.2)] H → va_S A s.heap H locs → lv_has ls 2 [] → W p l e { frames := 1, cells := 0, slots := 0, locals := 22 } s m args below meth c H locs 0 0 Q (F0 m 37 ls [.int w4])) hf ?_ ?_
    · intro w4 hf H locs ls hP hS hl
      obtain rfl := Option.some.inj hf
      exact ret _ _ _ _ dX10_say_37 hP hS
    · intro J37_5 hf
      refine lv_if_eq (tgt := 35) hx hb dX10_say_22 (by decide) (fun c6 => ?_) (fun c6 => ?_)
      · have hf := ob_tk c6 hf
        refine lv_bipush (v := (-4)) hx hb dX10_say_35 (by decide) ?_
        exact J37_5 (-4 : Int32) hf _ _ _ hP hS (lv_sub hl [] rfl)
      · have hf := ob_fk c6 hf
        refine lv_aload_n hx hb dX10_say_25 rfl (lv_at hl 0 rfl) ?_
        refine gf_X10_12 Cx hP 0 rfl rfl dX10_say_26 ?_
        refine gf_X10_107 Cx hP 1 rfl rfl dX10_say_29 ?_
        refine lv_goto (tgt := 37) hx hb dX10_say_32 (by decide) ?_
        exact J37_5 u3.2.1 hf _ _ _ hP hS (lv_sub hl [] rfl)
  · have hf := ob_t c2 hf
    refine lv_bipush (v := (-2)) hx hb dX10_say_11 (by decide) ?_
    obtain rfl := Option.some.inj hf
    exact ret _ _ _ _ dX10_say_13 hP hS

def f_X10_wipe (v_pad_count : Int32) : Option (Int32 × Int32) :=
  some (v_pad_count, (0 : Int32))
set_option maxHeartbeats 4000000 in
set_option maxRecDepth 100000 in
theorem c_X10_wipe (l : Launch) (D : va_G) (cI cJ cZ cO : ClassId) (a_t a_pad a_scene a_images a_bench a_trial a_sitters a_trialSitters a_sets a_census a_match a_couples a_passing a_longRows a_pad_signs : Nat) (v_pad_count : Int32) (out : Int32 × Int32) (hf : f_X10_wipe v_pad_count = some out) : MetR l yX10_wipe (Cond.code yX10_wipe cX10_wipe 2 (some .int) :: tbG) { frames := 0, cells := 0, slots := 0, locals := 0 } D (tyL cI cJ cZ cO) [.ref a_t] [(a_t, .inr (10, [.ref a_pad, .ref a_scene, .ref a_images, .ref a_bench, .ref a_trial, .ref a_sitters, .ref a_trialSitters, .ref a_sets, .ref a_census, .ref a_match, .ref a_couples, .ref a_passing, .ref a_longRows])), (a_pad, .inr (5, [.ref a_pad_signs, .int v_pad_count]))] (some (.int out.1)) [(a_t, .inr (10, [.ref a_pad, .ref a_scene, .ref a_images, .ref a_bench, .ref a_trial, .ref a_sitters, .ref a_trialSitters, .ref a_sets, .ref a_census, .ref a_match, .ref a_couples, .ref a_passing, .ref a_longRows])), (a_pad, .inr (5, [.ref a_pad_signs, .int out.2]))] := by
  refine ba_ofI RX10 [(0, .ref a_t)] (by decide +kernel) rfl (Nat.le_of_ble_eq_true rfl) rfl ?_
  intro p e s m args below meth c Q A Cx hP ret ls hl
  obtain ⟨⟨hx, hb, hml, hown, hts⟩, hK, hD, hA⟩ := id Cx
  have hS : va_S A s.heap s.heap [] := va_S.rf
  unfold f_X10_wipe at hf
  refine lv_aload_n hx hb dX10_wipe_0 rfl (lv_at hl 0 rfl) ?_
  refine gf_X10_12 Cx hP 0 rfl rfl dX10_wipe_1 ?_
  refine gf_X10_107 Cx hP 1 rfl rfl dX10_wipe_4 ?_
  refine lv_istore_n (lv' := [(1, .int v_pad_count), (0, .ref a_t)]) hx hb dX10_wipe_7 rfl hl (by decide) rfl (fun ls hl => ?_)
  refine lv_aload_n hx hb dX10_wipe_8 rfl (lv_at hl 1 rfl) ?_
  refine gf_X10_12 Cx hP 0 rfl rfl dX10_wipe_9 ?_
  refine lv_iconst (v := 0) hx hb dX10_wipe_12 (by decide) ?_
  refine pf_X10_107 (X' := [(a_t, .inr (10, [.ref a_pad, .ref a_scene, .ref a_images, .ref a_bench, .ref a_trial, .ref a_sitters, .ref a_trialSitters, .ref a_sets, .ref a_census, .ref a_match, .ref a_couples, .ref a_passing, .ref a_longRows])), (a_pad, .inr (5, [.ref a_pad_signs, .int (0 : Int32)]))]) Cx hP hS rfl 1 rfl rfl (Nat.le_of_ble_eq_true rfl) dX10_wipe_13 (fun H locs hP hS => ?_)
  refine lv_iload_n hx hb dX10_wipe_16 rfl (lv_at hl 0 rfl) ?_
  obtain rfl := Option.some.inj hf
  exact ret _ _ _ _ dX10_wipe_17 hP hS

def f_X10_fault (v_pad_count : Int32) (v_pad_signs : Nat → Int32) : Option (Int32) :=
  (f_X5_firstFault v_pad_count v_pad_signs).bind (fun u1 =>
  some (u1))
set_option maxHeartbeats 4000000 in
set_option maxRecDepth 100000 in
theorem c_X10_fault (l : Launch) (D : va_G) (cI cJ cZ cO : ClassId) (a_t a_pad a_scene a_images a_bench a_trial a_sitters a_trialSitters a_sets a_census a_match a_couples a_passing a_longRows a_pad_signs : Nat) (v_pad_count : Int32) (v_pad_signs : Nat → Int32) (out : Int32) (hf : f_X10_fault v_pad_count v_pad_signs = some out) : MetR l yX10_fault (Cond.code yX10_fault cX10_fault 1 (some .int) :: tbG) { frames := 2, cells := 0, slots := 0, locals := 45 } D (tyL cI cJ cZ cO) [.ref a_t] [(a_t, .inr (10, [.ref a_pad, .ref a_scene, .ref a_images, .ref a_bench, .ref a_trial, .ref a_sitters, .ref a_trialSitters, .ref a_sets, .ref a_census, .ref a_match, .ref a_couples, .ref a_passing, .ref a_longRows])), (a_pad, .inr (5, [.ref a_pad_signs, .int v_pad_count])), (a_pad_signs, eI cI 30 v_pad_signs)] (some (.int out)) [(a_t, .inr (10, [.ref a_pad, .ref a_scene, .ref a_images, .ref a_bench, .ref a_trial, .ref a_sitters, .ref a_trialSitters, .ref a_sets, .ref a_census, .ref a_match, .ref a_couples, .ref a_passing, .ref a_longRows])), (a_pad, .inr (5, [.ref a_pad_signs, .int v_pad_count])), (a_pad_signs, eI cI 30 v_pad_signs)] := by
  refine ba_ofI RX10 [(0, .ref a_t)] (by decide +kernel) rfl (Nat.le_of_ble_eq_true rfl) rfl ?_
  intro p e s m args below meth c Q A Cx hP ret ls hl
  obtain ⟨⟨hx, hb, hml, hown, hts⟩, hK, hD, hA⟩ := id Cx
  have hS : va_S A s.heap s.heap [] := va_S.rf
  unfold f_X10_fault at hf
  refine lv_aload_n hx hb dX10_fault_0 rfl (lv_at hl 0 rfl) ?_
  refine gf_X10_12 Cx hP 0 rfl rfl dX10_fault_1 ?_
  obtain ⟨u1, hu1, hf⟩ := ob_b hf
  refine iv_X10_111 (As := []) (rest := []) (is := [1, 2]) (q0 := 1) (X' := [(a_t, .inr (10, [.ref a_pad, .ref a_scene, .ref a_images, .ref a_bench, .ref a_trial, .ref a_sitters, .ref a_trialSitters, .ref a_sets, .ref a_census, .ref a_match, .ref a_couples, .ref a_passing, .ref a_longRows])), (a_pad, .inr (5, [.ref a_pad_signs, .int v_pad_count])), (a_pad_signs, eI cI 30 v_pad_signs)]) Cx (c_X5_firstFault l D cI cJ cZ cO a_pad a_pad_signs v_pad_count v_pad_signs u1 hu1) hP hS rfl rfl rfl rfl rfl rfl rfl hl.1 (Nat.le_of_ble_eq_true rfl) dX10_fault_4 rfl rfl ⟨Nat.le_of_ble_eq_true rfl, Nat.le_of_ble_eq_true rfl⟩ ⟨Nat.zero_le _, Nat.zero_le _⟩ rfl (fun H locs hP hS => ?_)
  obtain rfl := Option.some.inj hf
  exact ret _ _ _ _ dX10_fault_7 hP hS

def f_X10_renew (v_scene_seats : Int32) (v_scene_bear : Int32) (v_bench_apart : Nat → Int32) (v_scene_steps : Nat → Int32) (v_bench_clash : Nat → Int32) (v_bench_neighbours : Nat → Int32) : Option ((Nat → Int32) × (Nat → Int32) × (Nat → Int32) × Int32 × Int32) :=
  (f_X0_measure v_scene_seats v_scene_bear v_bench_apart v_scene_steps v_bench_clash v_bench_neighbours (0 : Int32)).bind (fun u1 =>
  some (u1.1, u1.2.1, u1.2.2, (0 : Int32), (0 : Int32)))
set_option maxHeartbeats 4000000 in
set_option maxRecDepth 100000 in
theorem c_X10_renew (l : Launch) (D : va_G) (cI cJ cZ cO : ClassId) (a_t a_pad a_scene a_images a_bench a_trial a_sitters a_trialSitters a_sets a_census a_match a_couples a_passing a_longRows a_bench_apart a_bench_clash a_bench_neighbours a_scene_steps a_scene_worths a_scene_comers a_scene_seen a_scene_seenLengths a_census_wholeSets a_census_orders a_match_kind a_match_wicked : Nat) (v_scene_seats : Int32) (v_scene_bear : Int32) (v_scene_comerCount : Int32) (v_scene_seenRows : Int32) (v_bench_apart : Nat → Int32) (v_scene_steps : Nat → Int32) (v_bench_clash : Nat → Int32) (v_bench_neighbours : Nat → Int32) (v_census_least : Int32) (v_census_most : Int32) (v_census_known : Int32) (v_match_known : Int32) (out : (Nat → Int32) × (Nat → Int32) × (Nat → Int32) × Int32 × Int32) (hf : f_X10_renew v_scene_seats v_scene_bear v_bench_apart v_scene_steps v_bench_clash v_bench_neighbours = some out) : MetR l yX10_renew (Cond.code yX10_renew cX10_renew 1 none :: tbG) { frames := 2, cells := 0, slots := 0, locals := 50 } D (tyL cI cJ cZ cO) [.ref a_t] [(a_t, .inr (10, [.ref a_pad, .ref a_scene, .ref a_images, .ref a_bench, .ref a_trial, .ref a_sitters, .ref a_trialSitters, .ref a_sets, .ref a_census, .ref a_match, .ref a_couples, .ref a_passing, .ref a_longRows])), (a_bench, .inr (0, [.ref a_scene, .ref a_bench_apart, .ref a_bench_clash, .ref a_bench_neighbours])), (a_scene, .inr (7, [.ref a_scene_steps, .ref a_scene_worths, .ref a_scene_comers, .ref a_scene_seen, .ref a_scene_seenLengths, .int v_scene_seats, .int v_scene_bear, .int v_scene_comerCount, .int v_scene_seenRows])), (a_bench_apart, eI cI 144 v_bench_apart), (a_scene_steps, eI cI 12 v_scene_steps), (a_bench_clash, eI cI 12 v_bench_clash), (a_bench_neighbours, eI cI 12 v_bench_neighbours), (a_census, .inr (1, [.ref a_census_wholeSets, .ref a_census_orders, .int v_census_least, .int v_census_most, .int v_census_known])), (a_match, .inr (4, [.ref a_match_kind, .ref a_match_wicked, .int v_match_known]))] none [(a_t, .inr (10, [.ref a_pad, .ref a_scene, .ref a_images, .ref a_bench, .ref a_trial, .ref a_sitters, .ref a_trialSitters, .ref a_sets, .ref a_census, .ref a_match, .ref a_couples, .ref a_passing, .ref a_longRows])), (a_bench, .inr (0, [.ref a_scene, .ref a_bench_apart, .ref a_bench_clash, .ref a_bench_neighbours])), (a_scene, .inr (7, [.ref a_scene_steps, .ref a_scene_worths, .ref a_scene_comers, .ref a_scene_seen, .ref a_scene_seenLengths, .int v_scene_seats, .int v_scene_bear, .int v_scene_comerCount, .int v_scene_seenRows])), (a_bench_apart, eI cI 144 out.1), (a_scene_steps, eI cI 12 v_scene_steps), (a_bench_clash, eI cI 12 out.2.1), (a_bench_neighbours, eI cI 12 out.2.2.1), (a_census, .inr (1, [.ref a_census_wholeSets, .ref a_census_orders, .int v_census_least, .int v_census_most, .int out.2.2.2.1])), (a_match, .inr (4, [.ref a_match_kind, .ref a_match_wicked, .int out.2.2.2.2]))] := by
  refine ba_ofV RX10 [(0, .ref a_t)] (by decide +kernel) rfl (Nat.le_of_ble_eq_true rfl) rfl ?_
  intro p e s m args below meth c Q A Cx hP ret ls hl
  obtain ⟨⟨hx, hb, hml, hown, hts⟩, hK, hD, hA⟩ := id Cx
  have hS : va_S A s.heap s.heap [] := va_S.rf
  unfold f_X10_renew at hf
  refine lv_aload_n hx hb dX10_renew_0 rfl (lv_at hl 0 rfl) ?_
  refine gf_X10_32 Cx hP 0 rfl rfl dX10_renew_1 ?_
  refine lv_iconst (v := 0) hx hb dX10_renew_4 (by decide) ?_
  obtain ⟨u1, hu1, hf⟩ := ob_b hf
  refine iv_X10_95 (As := [.int (0 : Int32)]) (rest := []) (is := [1, 2, 3, 4, 5, 6]) (q0 := 1) (X' := [(a_t, .inr (10, [.ref a_pad, .ref a_scene, .ref a_images, .ref a_bench, .ref a_trial, .ref a_sitters, .ref a_trialSitters, .ref a_sets, .ref a_census, .ref a_match, .ref a_couples, .ref a_passing, .ref a_longRows])), (a_bench, .inr (0, [.ref a_scene, .ref a_bench_apart, .ref a_bench_clash, .ref a_bench_neighbours])), (a_scene, .inr (7, [.ref a_scene_steps, .ref a_scene_worths, .ref a_scene_comers, .ref a_scene_seen, .ref a_scene_seenLengths, .int v_scene_seats, .int v_scene_bear, .int v_scene_comerCount, .int v_scene_seenRows])), (a_bench_apart, eI cI 144 u1.1), (a_scene_steps, eI cI 12 v_scene_steps), (a_bench_clash, eI cI 12 u1.2.1), (a_bench_neighbours, eI cI 12 u1.2.2), (a_census, .inr (1, [.ref a_census_wholeSets, .ref a_census_orders, .int v_census_least, .int v_census_most, .int v_census_known])), (a_match, .inr (4, [.ref a_match_kind, .ref a_match_wicked, .int v_match_known]))]) Cx (c_X0_measure l D cI cJ cZ cO a_bench a_scene a_bench_apart a_bench_clash a_bench_neighbours a_scene_steps a_scene_worths a_scene_comers a_scene_seen a_scene_seenLengths v_scene_seats v_scene_bear v_scene_comerCount v_scene_seenRows v_bench_apart v_scene_steps v_bench_clash v_bench_neighbours (0 : Int32) u1 hu1) hP hS rfl rfl rfl rfl rfl rfl rfl hl.1 (Nat.le_of_ble_eq_true rfl) dX10_renew_5 rfl rfl ⟨Nat.le_of_ble_eq_true rfl, Nat.le_of_ble_eq_true rfl⟩ ⟨Nat.zero_le _, Nat.zero_le _⟩ rfl (fun H locs hP hS => ?_)
  refine lv_aload_n hx hb dX10_renew_8 rfl (lv_at hl 0 rfl) ?_
  refine gf_X10_61 Cx hP 0 rfl rfl dX10_renew_9 ?_
  refine lv_iconst (v := 0) hx hb dX10_renew_12 (by decide) ?_
  refine pf_X10_291 (X' := [(a_t, .inr (10, [.ref a_pad, .ref a_scene, .ref a_images, .ref a_bench, .ref a_trial, .ref a_sitters, .ref a_trialSitters, .ref a_sets, .ref a_census, .ref a_match, .ref a_couples, .ref a_passing, .ref a_longRows])), (a_bench, .inr (0, [.ref a_scene, .ref a_bench_apart, .ref a_bench_clash, .ref a_bench_neighbours])), (a_scene, .inr (7, [.ref a_scene_steps, .ref a_scene_worths, .ref a_scene_comers, .ref a_scene_seen, .ref a_scene_seenLengths, .int v_scene_seats, .int v_scene_bear, .int v_scene_comerCount, .int v_scene_seenRows])), (a_bench_apart, eI cI 144 u1.1), (a_scene_steps, eI cI 12 v_scene_steps), (a_bench_clash, eI cI 12 u1.2.1), (a_bench_neighbours, eI cI 12 u1.2.2), (a_census, .inr (1, [.ref a_census_wholeSets, .ref a_census_orders, .int v_census_least, .int v_census_most, .int (0 : Int32)])), (a_match, .inr (4, [.ref a_match_kind, .ref a_match_wicked, .int v_match_known]))]) Cx hP hS rfl 7 rfl (by decide) (by decide) rfl (Nat.le_of_ble_eq_true rfl) dX10_renew_13 (fun H locs hP hS => ?_)
  refine lv_aload_n hx hb dX10_renew_16 rfl (lv_at hl 0 rfl) ?_
  refine gf_X10_68 Cx hP 0 rfl rfl dX10_renew_17 ?_
  refine lv_iconst (v := 0) hx hb dX10_renew_20 (by decide) ?_
  refine pf_X10_295 (X' := [(a_t, .inr (10, [.ref a_pad, .ref a_scene, .ref a_images, .ref a_bench, .ref a_trial, .ref a_sitters, .ref a_trialSitters, .ref a_sets, .ref a_census, .ref a_match, .ref a_couples, .ref a_passing, .ref a_longRows])), (a_bench, .inr (0, [.ref a_scene, .ref a_bench_apart, .ref a_bench_clash, .ref a_bench_neighbours])), (a_scene, .inr (7, [.ref a_scene_steps, .ref a_scene_worths, .ref a_scene_comers, .ref a_scene_seen, .ref a_scene_seenLengths, .int v_scene_seats, .int v_scene_bear, .int v_scene_comerCount, .int v_scene_seenRows])), (a_bench_apart, eI cI 144 u1.1), (a_scene_steps, eI cI 12 v_scene_steps), (a_bench_clash, eI cI 12 u1.2.1), (a_bench_neighbours, eI cI 12 u1.2.2), (a_census, .inr (1, [.ref a_census_wholeSets, .ref a_census_orders, .int v_census_least, .int v_census_most, .int (0 : Int32)])), (a_match, .inr (4, [.ref a_match_kind, .ref a_match_wicked, .int (0 : Int32)]))]) Cx hP hS rfl 8 rfl (by decide) (by decide) rfl (Nat.le_of_ble_eq_true rfl) dX10_renew_21 (fun H locs hP hS => ?_)
  obtain rfl := Option.some.inj hf
  exact ret _ _ _ _ dX10_renew_24 hP hS

def f_X10_room (v_pad_count : Int32) (v_pad_signs : Nat → Int32) (v_scene_seats : Int32) (v_scene_bear : Int32) (v_scene_seenRows : Int32) (v_scene_steps : Nat → Int32) (v_scene_worths : Nat → Int32) (v_bench_apart : Nat → Int32) (v_bench_clash : Nat → Int32) (v_bench_neighbours : Nat → Int32) (v_census_known : Int32) (v_match_known : Int32) : Option (Int32 × Int32 × Int32 × Int32 × (Nat → Int32) × (Nat → Int32) × (Nat → Int32) × (Nat → Int32) × (Nat → Int32) × Int32 × Int32) :=
  (f_X5_firstFault v_pad_count v_pad_signs).bind (fun u1 =>
  if u1 = (-6 : Int32) then
  (f_X5_writeSteps v_pad_count v_pad_signs v_scene_steps).bind (fun u3 =>
  (f_J7_fill_53178 12 v_scene_worths (0 : Int32)).bind (fun u4 =>
  (f_X10_renew u3.1 v_scene_bear v_bench_apart u3.2 v_bench_clash v_bench_neighbours).bind (fun u5 =>
  some (u3.1, (0 : Int32), u3.1, (0 : Int32), u3.2, u4, u5.1, u5.2.1, u5.2.2.1, u5.2.2.2.1, u5.2.2.2.2))))
  else
  some ((-5 : Int32), v_pad_count, v_scene_seats, v_scene_seenRows, v_scene_steps, v_scene_worths, v_bench_apart, v_bench_clash, v_bench_neighbours, v_census_known, v_match_known))
set_option maxHeartbeats 4000000 in
set_option maxRecDepth 100000 in
theorem c_X10_room (l : Launch) (D : va_G) (cI cJ cZ cO : ClassId) (a_t a_pad a_scene a_images a_bench a_trial a_sitters a_trialSitters a_sets a_census a_match a_couples a_passing a_longRows a_pad_signs a_scene_steps a_scene_worths a_scene_comers a_scene_seen a_scene_seenLengths a_bench_apart a_bench_clash a_bench_neighbours a_census_wholeSets a_census_orders a_match_kind a_match_wicked : Nat) (v_pad_count : Int32) (v_pad_signs : Nat → Int32) (v_scene_seats : Int32) (v_scene_bear : Int32) (v_scene_comerCount : Int32) (v_scene_seenRows : Int32) (v_scene_steps : Nat → Int32) (v_scene_worths : Nat → Int32) (v_bench_apart : Nat → Int32) (v_bench_clash : Nat → Int32) (v_bench_neighbours : Nat → Int32) (v_census_least : Int32) (v_census_most : Int32) (v_census_known : Int32) (v_match_known : Int32) (out : Int32 × Int32 × Int32 × Int32 × (Nat → Int32) × (Nat → Int32) × (Nat → Int32) × (Nat → Int32) × (Nat → Int32) × Int32 × Int32) (hf : f_X10_room v_pad_count v_pad_signs v_scene_seats v_scene_bear v_scene_seenRows v_scene_steps v_scene_worths v_bench_apart v_bench_clash v_bench_neighbours v_census_known v_match_known = some out) : MetR l yX10_room (Cond.code yX10_room cX10_room 1 (some .int) :: tbG) { frames := 3, cells := 0, slots := 0, locals := 70 } D (tyL cI cJ cZ cO) [.ref a_t] [(a_t, .inr (10, [.ref a_pad, .ref a_scene, .ref a_images, .ref a_bench, .ref a_trial, .ref a_sitters, .ref a_trialSitters, .ref a_sets, .ref a_census, .ref a_match, .ref a_couples, .ref a_passing, .ref a_longRows])), (a_pad, .inr (5, [.ref a_pad_signs, .int v_pad_count])), (a_pad_signs, eI cI 30 v_pad_signs), (a_scene, .inr (7, [.ref a_scene_steps, .ref a_scene_worths, .ref a_scene_comers, .ref a_scene_seen, .ref a_scene_seenLengths, .int v_scene_seats, .int v_scene_bear, .int v_scene_comerCount, .int v_scene_seenRows])), (a_scene_steps, eI cI 12 v_scene_steps), (a_scene_worths, eI cI 12 v_scene_worths), (a_bench, .inr (0, [.ref a_scene, .ref a_bench_apart, .ref a_bench_clash, .ref a_bench_neighbours])), (a_bench_apart, eI cI 144 v_bench_apart), (a_bench_clash, eI cI 12 v_bench_clash), (a_bench_neighbours, eI cI 12 v_bench_neighbours), (a_census, .inr (1, [.ref a_census_wholeSets, .ref a_census_orders, .int v_census_least, .int v_census_most, .int v_census_known])), (a_match, .inr (4, [.ref a_match_kind, .ref a_match_wicked, .int v_match_known]))] (some (.int out.1)) [(a_t, .inr (10, [.ref a_pad, .ref a_scene, .ref a_images, .ref a_bench, .ref a_trial, .ref a_sitters, .ref a_trialSitters, .ref a_sets, .ref a_census, .ref a_match, .ref a_couples, .ref a_passing, .ref a_longRows])), (a_pad, .inr (5, [.ref a_pad_signs, .int out.2.1])), (a_pad_signs, eI cI 30 v_pad_signs), (a_scene, .inr (7, [.ref a_scene_steps, .ref a_scene_worths, .ref a_scene_comers, .ref a_scene_seen, .ref a_scene_seenLengths, .int out.2.2.1, .int v_scene_bear, .int v_scene_comerCount, .int out.2.2.2.1])), (a_scene_steps, eI cI 12 out.2.2.2.2.1), (a_scene_worths, eI cI 12 out.2.2.2.2.2.1), (a_bench, .inr (0, [.ref a_scene, .ref a_bench_apart, .ref a_bench_clash, .ref a_bench_neighbours])), (a_bench_apart, eI cI 144 out.2.2.2.2.2.2.1), (a_bench_clash, eI cI 12 out.2.2.2.2.2.2.2.1), (a_bench_neighbours, eI cI 12 out.2.2.2.2.2.2.2.2.1), (a_census, .inr (1, [.ref a_census_wholeSets, .ref a_census_orders, .int v_census_least, .int v_census_most, .int out.2.2.2.2.2.2.2.2.2.1])), (a_match, .inr (4, [.ref a_match_kind, .ref a_match_wicked, .int out.2.2.2.2.2.2.2.2.2.2]))] := by
  refine ba_ofI RX10 [(0, .ref a_t)] (by decide +kernel) rfl (Nat.le_of_ble_eq_true rfl) rfl ?_
  intro p e s m args below meth c Q A Cx hP ret ls hl
  obtain ⟨⟨hx, hb, hml, hown, hts⟩, hK, hD, hA⟩ := id Cx
  have hS : va_S A s.heap s.heap [] := va_S.rf
  unfold f_X10_room at hf
  refine lv_aload_n hx hb dX10_room_0 rfl (lv_at hl 0 rfl) ?_
  refine gf_X10_12 Cx hP 0 rfl rfl dX10_room_1 ?_
  obtain ⟨u1, hu1, hf⟩ := ob_b hf
  refine iv_X10_111 (As := []) (rest := []) (is := [1, 2]) (q0 := 1) (X' := [(a_t, .inr (10, [.ref a_pad, .ref a_scene, .ref a_images, .ref a_bench, .ref a_trial, .ref a_sitters, .ref a_trialSitters, .ref a_sets, .ref a_census, .ref a_match, .ref a_couples, .ref a_passing, .ref a_longRows])), (a_pad, .inr (5, [.ref a_pad_signs, .int v_pad_count])), (a_pad_signs, eI cI 30 v_pad_signs), (a_scene, .inr (7, [.ref a_scene_steps, .ref a_scene_worths, .ref a_scene_comers, .ref a_scene_seen, .ref a_scene_seenLengths, .int v_scene_seats, .int v_scene_bear, .int v_scene_comerCount, .int v_scene_seenRows])), (a_scene_steps, eI cI 12 v_scene_steps), (a_scene_worths, eI cI 12 v_scene_worths), (a_bench, .inr (0, [.ref a_scene, .ref a_bench_apart, .ref a_bench_clash, .ref a_bench_neighbours])), (a_bench_apart, eI cI 144 v_bench_apart), (a_bench_clash, eI cI 12 v_bench_clash), (a_bench_neighbours, eI cI 12 v_bench_neighbours), (a_census, .inr (1, [.ref a_census_wholeSets, .ref a_census_orders, .int v_census_least, .int v_census_most, .int v_census_known])), (a_match, .inr (4, [.ref a_match_kind, .ref a_match_wicked, .int v_match_known]))]) Cx (c_X5_firstFault l D cI cJ cZ cO a_pad a_pad_signs v_pad_count v_pad_signs u1 hu1) hP hS rfl rfl rfl rfl rfl rfl rfl hl.1 (Nat.le_of_ble_eq_true rfl) dX10_room_4 rfl rfl ⟨Nat.le_of_ble_eq_true rfl, Nat.le_of_ble_eq_true rfl⟩ ⟨Nat.zero_le _, Nat.zero_le _⟩ rfl (fun H locs hP hS => ?_)
  refine lv_bipush (v := (-6)) hx hb dX10_room_7 (by decide) ?_
  refine lv_icmp_eq (tgt := 15) hx hb dX10_room_9 (by decide) (fun c2 => ?_) (fun c2 => ?_)
  · have hf := ob_t c2 hf
    refine lv_aload_n hx hb dX10_room_15 rfl (lv_at hl 0 rfl) ?_
    refine gf_X10_19 Cx hP 0 rfl rfl dX10_room_16 ?_
    refine lv_aload_n hx hb dX10_room_19 rfl (lv_at hl 0 rfl) ?_
    refine gf_X10_12 Cx hP 0 rfl rfl dX10_room_20 ?_
    refine lv_aload_n hx hb dX10_room_23 rfl (lv_at hl 0 rfl) ?_
    refine gf_X10_19 Cx hP 0 rfl rfl dX10_room_24 ?_
    refine gf_X10_115 Cx hP 3 rfl rfl dX10_room_27 ?_
    obtain ⟨u3, hu3, hf⟩ := ob_b hf
    refine iv_X10_119 (As := [.ref a_scene_steps]) (rest := [.ref a_scene]) (is := [1, 2, 4]) (q0 := 1) (X' := [(a_t, .inr (10, [.ref a_pad, .ref a_scene, .ref a_images, .ref a_bench, .ref a_trial, .ref a_sitters, .ref a_trialSitters, .ref a_sets, .ref a_census, .ref a_match, .ref a_couples, .ref a_passing, .ref a_longRows])), (a_pad, .inr (5, [.ref a_pad_signs, .int v_pad_count])), (a_pad_signs, eI cI 30 v_pad_signs), (a_scene, .inr (7, [.ref a_scene_steps, .ref a_scene_worths, .ref a_scene_comers, .ref a_scene_seen, .ref a_scene_seenLengths, .int v_scene_seats, .int v_scene_bear, .int v_scene_comerCount, .int v_scene_seenRows])), (a_scene_steps, eI cI 12 u3.2), (a_scene_worths, eI cI 12 v_scene_worths), (a_bench, .inr (0, [.ref a_scene, .ref a_bench_apart, .ref a_bench_clash, .ref a_bench_neighbours])), (a_bench_apart, eI cI 144 v_bench_apart), (a_bench_clash, eI cI 12 v_bench_clash), (a_bench_neighbours, eI cI 12 v_bench_neighbours), (a_census, .inr (1, [.ref a_census_wholeSets, .ref a_census_orders, .int v_census_least, .int v_census_most, .int v_census_known])), (a_match, .inr (4, [.ref a_match_kind, .ref a_match_wicked, .int v_match_known]))]) Cx (c_X5_writeSteps l D cI cJ cZ cO a_pad a_pad_signs a_scene_steps v_pad_count v_pad_signs v_scene_steps u3 hu3) hP hS rfl rfl rfl rfl rfl rfl rfl hl.1 (Nat.le_of_ble_eq_true rfl) dX10_room_30 rfl rfl ⟨Nat.le_of_ble_eq_true rfl, Nat.le_of_ble_eq_true rfl⟩ ⟨Nat.zero_le _, Nat.zero_le _⟩ rfl (fun H locs hP hS => ?_)
    refine pf_X10_123 (X' := [(a_t, .inr (10, [.ref a_pad, .ref a_scene, .ref a_images, .ref a_bench, .ref a_trial, .ref a_sitters, .ref a_trialSitters, .ref a_sets, .ref a_census, .ref a_match, .ref a_couples, .ref a_passing, .ref a_longRows])), (a_pad, .inr (5, [.ref a_pad_signs, .int v_pad_count])), (a_pad_signs, eI cI 30 v_pad_signs), (a_scene, .inr (7, [.ref a_scene_steps, .ref a_scene_worths, .ref a_scene_comers, .ref a_scene_seen, .ref a_scene_seenLengths, .int u3.1, .int v_scene_bear, .int v_scene_comerCount, .int v_scene_seenRows])), (a_scene_steps, eI cI 12 u3.2), (a_scene_worths, eI cI 12 v_scene_worths), (a_bench, .inr (0, [.ref a_scene, .ref a_bench_apart, .ref a_bench_clash, .ref a_bench_neighbours])), (a_bench_apart, eI cI 144 v_bench_apart), (a_bench_clash, eI cI 12 v_bench_clash), (a_bench_neighbours, eI cI 12 v_bench_neighbours), (a_census, .inr (1, [.ref a_census_wholeSets, .ref a_census_orders, .int v_census_least, .int v_census_most, .int v_census_known])), (a_match, .inr (4, [.ref a_match_kind, .ref a_match_wicked, .int v_match_known]))]) Cx hP hS rfl 3 rfl rfl (Nat.le_of_ble_eq_true rfl) dX10_room_33 (fun H locs hP hS => ?_)
    refine lv_aload_n hx hb dX10_room_36 rfl (lv_at hl 0 rfl) ?_
    refine gf_X10_12 Cx hP 0 rfl rfl dX10_room_37 ?_
    refine lv_iconst (v := 0) hx hb dX10_room_40 (by decide) ?_
    refine pf_X10_107 (X' := [(a_t, .inr (10, [.ref a_pad, .ref a_scene, .ref a_images, .ref a_bench, .ref a_trial, .ref a_sitters, .ref a_trialSitters, .ref a_sets, .ref a_census, .ref a_match, .ref a_couples, .ref a_passing, .ref a_longRows])), (a_pad, .inr (5, [.ref a_pad_signs, .int (0 : Int32)])), (a_pad_signs, eI cI 30 v_pad_signs), (a_scene, .inr (7, [.ref a_scene_steps, .ref a_scene_worths, .ref a_scene_comers, .ref a_scene_seen, .ref a_scene_seenLengths, .int u3.1, .int v_scene_bear, .int v_scene_comerCount, .int v_scene_seenRows])), (a_scene_steps, eI cI 12 u3.2), (a_scene_worths, eI cI 12 v_scene_worths), (a_bench, .inr (0, [.ref a_scene, .ref a_bench_apart, .ref a_bench_clash, .ref a_bench_neighbours])), (a_bench_apart, eI cI 144 v_bench_apart), (a_bench_clash, eI cI 12 v_bench_clash), (a_bench_neighbours, eI cI 12 v_bench_neighbours), (a_census, .inr (1, [.ref a_census_wholeSets, .ref a_census_orders, .int v_census_least, .int v_census_most, .int v_census_known])), (a_match, .inr (4, [.ref a_match_kind, .ref a_match_wicked, .int v_match_known]))]) Cx hP hS rfl 1 rfl rfl (Nat.le_of_ble_eq_true rfl) dX10_room_41 (fun H locs hP hS => ?_)
    refine lv_aload_n hx hb dX10_room_44 rfl (lv_at hl 0 rfl) ?_
    refine gf_X10_19 Cx hP 0 rfl rfl dX10_room_45 ?_
    refine gf_X10_126 Cx hP 3 rfl rfl dX10_room_48 ?_
    refine lv_iconst (v := 0) hx hb dX10_room_51 (by decide) ?_
    obtain ⟨u4, hu4, hf⟩ := ob_b hf
    refine iv_X10_129 (As := [.ref a_scene_worths, .int (0 : Int32)]) (rest := []) (is := [5]) (X' := [(a_t, .inr (10, [.ref a_pad, .ref a_scene, .ref a_images, .ref a_bench, .ref a_trial, .ref a_sitters, .ref a_trialSitters, .ref a_sets, .ref a_census, .ref a_match, .ref a_couples, .ref a_passing, .ref a_longRows])), (a_pad, .inr (5, [.ref a_pad_signs, .int (0 : Int32)])), (a_pad_signs, eI cI 30 v_pad_signs), (a_scene, .inr (7, [.ref a_scene_steps, .ref a_scene_worths, .ref a_scene_comers, .ref a_scene_seen, .ref a_scene_seenLengths, .int u3.1, .int v_scene_bear, .int v_scene_comerCount, .int v_scene_seenRows])), (a_scene_steps, eI cI 12 u3.2), (a_scene_worths, eI cI 12 u4), (a_bench, .inr (0, [.ref a_scene, .ref a_bench_apart, .ref a_bench_clash, .ref a_bench_neighbours])), (a_bench_apart, eI cI 144 v_bench_apart), (a_bench_clash, eI cI 12 v_bench_clash), (a_bench_neighbours, eI cI 12 v_bench_neighbours), (a_census, .inr (1, [.ref a_census_wholeSets, .ref a_census_orders, .int v_census_least, .int v_census_most, .int v_census_known])), (a_match, .inr (4, [.ref a_match_kind, .ref a_match_wicked, .int v_match_known]))]) Cx (c_J7_fill_53178 l D cI cJ cZ cO a_scene_worths 12 v_scene_worths (0 : Int32) u4 hu4) hP hS rfl rfl rfl rfl rfl rfl hl.1 (Nat.le_of_ble_eq_true rfl) dX10_room_52 rfl rfl ⟨Nat.le_of_ble_eq_true rfl, Nat.le_of_ble_eq_true rfl⟩ ⟨Nat.zero_le _, Nat.zero_le _⟩ rfl (fun H locs hP hS => ?_)
    refine lv_aload_n hx hb dX10_room_55 rfl (lv_at hl 0 rfl) ?_
    refine gf_X10_19 Cx hP 0 rfl rfl dX10_room_56 ?_
    refine lv_iconst (v := 0) hx hb dX10_room_59 (by decide) ?_
    refine pf_X10_135 (X' := [(a_t, .inr (10, [.ref a_pad, .ref a_scene, .ref a_images, .ref a_bench, .ref a_trial, .ref a_sitters, .ref a_trialSitters, .ref a_sets, .ref a_census, .ref a_match, .ref a_couples, .ref a_passing, .ref a_longRows])), (a_pad, .inr (5, [.ref a_pad_signs, .int (0 : Int32)])), (a_pad_signs, eI cI 30 v_pad_signs), (a_scene, .inr (7, [.ref a_scene_steps, .ref a_scene_worths, .ref a_scene_comers, .ref a_scene_seen, .ref a_scene_seenLengths, .int u3.1, .int v_scene_bear, .int v_scene_comerCount, .int (0 : Int32)])), (a_scene_steps, eI cI 12 u3.2), (a_scene_worths, eI cI 12 u4), (a_bench, .inr (0, [.ref a_scene, .ref a_bench_apart, .ref a_bench_clash, .ref a_bench_neighbours])), (a_bench_apart, eI cI 144 v_bench_apart), (a_bench_clash, eI cI 12 v_bench_clash), (a_bench_neighbours, eI cI 12 v_bench_neighbours), (a_census, .inr (1, [.ref a_census_wholeSets, .ref a_census_orders, .int v_census_least, .int v_census_most, .int v_census_known])), (a_match, .inr (4, [.ref a_match_kind, .ref a_match_wicked, .int v_match_known]))]) Cx hP hS rfl 3 rfl rfl (Nat.le_of_ble_eq_true rfl) dX10_room_60 (fun H locs hP hS => ?_)
    refine lv_aload_n hx hb dX10_room_63 rfl (lv_at hl 0 rfl) ?_
    obtain ⟨u5, hu5, hf⟩ := ob_b hf
    refine iv_X10_138 (As := []) (rest := []) (is := [0, 6, 3, 7, 4, 8, 9, 10, 11]) (q0 := 0) (X' := [(a_t, .inr (10, [.ref a_pad, .ref a_scene, .ref a_images, .ref a_bench, .ref a_trial, .ref a_sitters, .ref a_trialSitters, .ref a_sets, .ref a_census, .ref a_match, .ref a_couples, .ref a_passing, .ref a_longRows])), (a_pad, .inr (5, [.ref a_pad_signs, .int (0 : Int32)])), (a_pad_signs, eI cI 30 v_pad_signs), (a_scene, .inr (7, [.ref a_scene_steps, .ref a_scene_worths, .ref a_scene_comers, .ref a_scene_seen, .ref a_scene_seenLengths, .int u3.1, .int v_scene_bear, .int v_scene_comerCount, .int (0 : Int32)])), (a_scene_steps, eI cI 12 u3.2), (a_scene_worths, eI cI 12 u4), (a_bench, .inr (0, [.ref a_scene, .ref a_bench_apart, .ref a_bench_clash, .ref a_bench_neighbours])), (a_bench_apart, eI cI 144 u5.1), (a_bench_clash, eI cI 12 u5.2.1), (a_bench_neighbours, eI cI 12 u5.2.2.1), (a_census, .inr (1, [.ref a_census_wholeSets, .ref a_census_orders, .int v_census_least, .int v_census_most, .int u5.2.2.2.1])), (a_match, .inr (4, [.ref a_match_kind, .ref a_match_wicked, .int u5.2.2.2.2]))]) Cx (c_X10_renew l D cI cJ cZ cO a_t a_pad a_scene a_images a_bench a_trial a_sitters a_trialSitters a_sets a_census a_match a_couples a_passing a_longRows a_bench_apart a_bench_clash a_bench_neighbours a_scene_steps a_scene_worths a_scene_comers a_scene_seen a_scene_seenLengths a_census_wholeSets a_census_orders a_match_kind a_match_wicked u3.1 v_scene_bear v_scene_comerCount (0 : Int32) v_bench_apart u3.2 v_bench_clash v_bench_neighbours v_census_least v_census_most v_census_known v_match_known u5 hu5) hP hS rfl rfl rfl rfl rfl rfl rfl hl.1 (Nat.le_of_ble_eq_true rfl) dX10_room_64 rfl rfl ⟨Nat.le_of_ble_eq_true rfl, Nat.le_of_ble_eq_true rfl⟩ ⟨Nat.zero_le _, Nat.zero_le _⟩ rfl (fun H locs hP hS => ?_)
    refine lv_aload_n hx hb dX10_room_67 rfl (lv_at hl 0 rfl) ?_
    refine gf_X10_19 Cx hP 0 rfl rfl dX10_room_68 ?_
    refine gf_X10_123 Cx hP 3 rfl rfl dX10_room_71 ?_
    obtain rfl := Option.some.inj hf
    exact ret _ _ _ _ dX10_room_74 hP hS
  · have hf := ob_f c2 hf
    refine lv_bipush (v := (-5)) hx hb dX10_room_12 (by decide) ?_
    obtain rfl := Option.some.inj hf
    exact ret _ _ _ _ dX10_room_14 hP hS

def f_X10_isSeat (v_scene_seats : Int32) (x1 : Int32) : Option (Int32) :=
  (f_X10_isWithin x1 (0 : Int32) (v_scene_seats - (1 : Int32))).bind (fun u1 =>
  (oz u1).bind (fun u2 =>
  some (u2)))
set_option maxHeartbeats 4000000 in
set_option maxRecDepth 100000 in
theorem c_X10_isSeat (l : Launch) (D : va_G) (cI cJ cZ cO : ClassId) (a_t a_pad a_scene a_images a_bench a_trial a_sitters a_trialSitters a_sets a_census a_match a_couples a_passing a_longRows a_scene_steps a_scene_worths a_scene_comers a_scene_seen a_scene_seenLengths : Nat) (v_scene_seats : Int32) (v_scene_bear : Int32) (v_scene_comerCount : Int32) (v_scene_seenRows : Int32) (x1 : Int32) (out : Int32) (hf : f_X10_isSeat v_scene_seats x1 = some out) : MetR l yX10_isSeat (Cond.code yX10_isSeat cX10_isSeat 2 (some .boolean) :: tbG) { frames := 1, cells := 0, slots := 0, locals := 22 } D (tyL cI cJ cZ cO) [.ref a_t, .int x1] [(a_t, .inr (10, [.ref a_pad, .ref a_scene, .ref a_images, .ref a_bench, .ref a_trial, .ref a_sitters, .ref a_trialSitters, .ref a_sets, .ref a_census, .ref a_match, .ref a_couples, .ref a_passing, .ref a_longRows])), (a_scene, .inr (7, [.ref a_scene_steps, .ref a_scene_worths, .ref a_scene_comers, .ref a_scene_seen, .ref a_scene_seenLengths, .int v_scene_seats, .int v_scene_bear, .int v_scene_comerCount, .int v_scene_seenRows]))] (some (.int out)) [(a_t, .inr (10, [.ref a_pad, .ref a_scene, .ref a_images, .ref a_bench, .ref a_trial, .ref a_sitters, .ref a_trialSitters, .ref a_sets, .ref a_census, .ref a_match, .ref a_couples, .ref a_passing, .ref a_longRows])), (a_scene, .inr (7, [.ref a_scene_steps, .ref a_scene_worths, .ref a_scene_comers, .ref a_scene_seen, .ref a_scene_seenLengths, .int v_scene_seats, .int v_scene_bear, .int v_scene_comerCount, .int v_scene_seenRows]))] := by
  refine ba_ofZ RX10 [(0, .ref a_t), (1, .int x1)] (by decide +kernel) rfl (Nat.le_of_ble_eq_true rfl) rfl ?_
  intro p e s m args below meth c Q A Cx hP ret ls hl
  obtain ⟨⟨hx, hb, hml, hown, hts⟩, hK, hD, hA⟩ := id Cx
  have hS : va_S A s.heap s.heap [] := va_S.rf
  unfold f_X10_isSeat at hf
  refine lv_iload_n hx hb dX10_isSeat_0 rfl (lv_at hl 1 rfl) ?_
  refine lv_iconst (v := 0) hx hb dX10_isSeat_1 (by decide) ?_
  refine lv_aload_n hx hb dX10_isSeat_2 rfl (lv_at hl 0 rfl) ?_
  refine gf_X10_19 Cx hP 0 rfl rfl dX10_isSeat_3 ?_
  refine gf_X10_123 Cx hP 1 rfl rfl dX10_isSeat_6 ?_
  refine lv_iconst (v := 1) hx hb dX10_isSeat_9 (by decide) ?_
  refine lv_isub hx hb dX10_isSeat_10 ?_
  obtain ⟨u1, hu1, hf⟩ := ob_b hf
  refine iv_X10_99 (As := [.int x1, .int (0 : Int32), .int (v_scene_seats - (1 : Int32))]) (rest := []) (is := []) (X' := [(a_t, .inr (10, [.ref a_pad, .ref a_scene, .ref a_images, .ref a_bench, .ref a_trial, .ref a_sitters, .ref a_trialSitters, .ref a_sets, .ref a_census, .ref a_match, .ref a_couples, .ref a_passing, .ref a_longRows])), (a_scene, .inr (7, [.ref a_scene_steps, .ref a_scene_worths, .ref a_scene_comers, .ref a_scene_seen, .ref a_scene_seenLengths, .int v_scene_seats, .int v_scene_bear, .int v_scene_comerCount, .int v_scene_seenRows]))]) Cx (c_X10_isWithin l D cI cJ cZ cO  x1 (0 : Int32) (v_scene_seats - (1 : Int32)) u1 hu1) hP hS rfl rfl rfl rfl rfl rfl hl.1 (Nat.le_of_ble_eq_true rfl) dX10_isSeat_11 rfl rfl ⟨Nat.le_of_ble_eq_true rfl, Nat.le_of_ble_eq_true rfl⟩ ⟨Nat.zero_le _, Nat.zero_le _⟩ rfl (fun H locs hP hS => ?_)
  obtain ⟨u2, hu2, hf⟩ := ob_b hf
  obtain ⟨hz1, hz2⟩ := oz_ok hu2
  obtain rfl := Option.some.inj hf
  exact ret _ _ _ _ _ hz1 hz2 dX10_isSeat_14 hP hS

def f_X10_worth (v_scene_seats : Int32) (v_scene_worths : Nat → Int32) (x1 : Int32) (x2 : Int32) : Option (Int32 × (Nat → Int32)) :=
  (f_X10_isSeat v_scene_seats x1).bind (fun u1 =>
  if u1 = 0 then
  some ((-1 : Int32), v_scene_worths)
  else
  (f_X10_isWithin x2 (0 : Int32) (9 : Int32)).bind (fun u3 =>
  if u3 = 0 then
  some ((-2 : Int32), v_scene_worths)
  else
  (aget 12 v_scene_worths x1).bind (fun u5 =>
  (asetI 12 v_scene_worths x1 x2).bind (fun u6 =>
  some (u5, u6)))))
set_option maxHeartbeats 4000000 in
set_option maxRecDepth 100000 in
theorem c_X10_worth (l : Launch) (D : va_G) (cI cJ cZ cO : ClassId) (a_t a_pad a_scene a_images a_bench a_trial a_sitters a_trialSitters a_sets a_census a_match a_couples a_passing a_longRows a_scene_steps a_scene_worths a_scene_comers a_scene_seen a_scene_seenLengths : Nat) (v_scene_seats : Int32) (v_scene_bear : Int32) (v_scene_comerCount : Int32) (v_scene_seenRows : Int32) (v_scene_worths : Nat → Int32) (x1 : Int32) (x2 : Int32) (out : Int32 × (Nat → Int32)) (hf : f_X10_worth v_scene_seats v_scene_worths x1 x2 = some out) : MetR l yX10_worth (Cond.code yX10_worth cX10_worth 4 (some .int) :: tbG) { frames := 2, cells := 0, slots := 0, locals := 43 } D (tyL cI cJ cZ cO) [.ref a_t, .int x1, .int x2] [(a_t, .inr (10, [.ref a_pad, .ref a_scene, .ref a_images, .ref a_bench, .ref a_trial, .ref a_sitters, .ref a_trialSitters, .ref a_sets, .ref a_census, .ref a_match, .ref a_couples, .ref a_passing, .ref a_longRows])), (a_scene, .inr (7, [.ref a_scene_steps, .ref a_scene_worths, .ref a_scene_comers, .ref a_scene_seen, .ref a_scene_seenLengths, .int v_scene_seats, .int v_scene_bear, .int v_scene_comerCount, .int v_scene_seenRows])), (a_scene_worths, eI cI 12 v_scene_worths)] (some (.int out.1)) [(a_t, .inr (10, [.ref a_pad, .ref a_scene, .ref a_images, .ref a_bench, .ref a_trial, .ref a_sitters, .ref a_trialSitters, .ref a_sets, .ref a_census, .ref a_match, .ref a_couples, .ref a_passing, .ref a_longRows])), (a_scene, .inr (7, [.ref a_scene_steps, .ref a_scene_worths, .ref a_scene_comers, .ref a_scene_seen, .ref a_scene_seenLengths, .int v_scene_seats, .int v_scene_bear, .int v_scene_comerCount, .int v_scene_seenRows])), (a_scene_worths, eI cI 12 out.2)] := by
  refine ba_ofI RX10 [(0, .ref a_t), (1, .int x1), (2, .int x2)] (by decide +kernel) rfl (Nat.le_of_ble_eq_true rfl) rfl ?_
  intro p e s m args below meth c Q A Cx hP ret ls hl
  obtain ⟨⟨hx, hb, hml, hown, hts⟩, hK, hD, hA⟩ := id Cx
  have hS : va_S A s.heap s.heap [] := va_S.rf
  unfold f_X10_worth at hf
  refine lv_aload_n hx hb dX10_worth_0 rfl (lv_at hl 0 rfl) ?_
  refine lv_iload_n hx hb dX10_worth_1 rfl (lv_at hl 1 rfl) ?_
  obtain ⟨u1, hu1, hf⟩ := ob_b hf
  refine iv_X10_141 (As := [.int x1]) (rest := []) (is := [0, 1]) (q0 := 0) (X' := [(a_t, .inr (10, [.ref a_pad, .ref a_scene, .ref a_images, .ref a_bench, .ref a_trial, .ref a_sitters, .ref a_trialSitters, .ref a_sets, .ref a_census, .ref a_match, .ref a_couples, .ref a_passing, .ref a_longRows])), (a_scene, .inr (7, [.ref a_scene_steps, .ref a_scene_worths, .ref a_scene_comers, .ref a_scene_seen, .ref a_scene_seenLengths, .int v_scene_seats, .int v_scene_bear, .int v_scene_comerCount, .int v_scene_seenRows])), (a_scene_worths, eI cI 12 v_scene_worths)]) Cx (c_X10_isSeat l D cI cJ cZ cO a_t a_pad a_scene a_images a_bench a_trial a_sitters a_trialSitters a_sets a_census a_match a_couples a_passing a_longRows a_scene_steps a_scene_worths a_scene_comers a_scene_seen a_scene_seenLengths v_scene_seats v_scene_bear v_scene_comerCount v_scene_seenRows x1 u1 hu1) hP hS rfl rfl rfl rfl rfl rfl rfl hl.1 (Nat.le_of_ble_eq_true rfl) dX10_worth_2 rfl rfl ⟨Nat.le_of_ble_eq_true rfl, Nat.le_of_ble_eq_true rfl⟩ ⟨Nat.zero_le _, Nat.zero_le _⟩ rfl (fun H locs hP hS => ?_)
  refine lv_if_ne (tgt := 10) hx hb dX10_worth_5 (by decide) (fun c2 => ?_) (fun c2 => ?_)
  · have hf := ob_f c2 hf
    refine lv_iload_n hx hb dX10_worth_10 rfl (lv_at hl 2 rfl) ?_
    refine lv_iconst (v := 0) hx hb dX10_worth_11 (by decide) ?_
    refine lv_bipush (v := 9) hx hb dX10_worth_12 (by decide) ?_
    obtain ⟨u3, hu3, hf⟩ := ob_b hf
    refine iv_X10_99 (As := [.int x2, .int (0 : Int32), .int (9 : Int32)]) (rest := []) (is := []) (X' := [(a_t, .inr (10, [.ref a_pad, .ref a_scene, .ref a_images, .ref a_bench, .ref a_trial, .ref a_sitters, .ref a_trialSitters, .ref a_sets, .ref a_census, .ref a_match, .ref a_couples, .ref a_passing, .ref a_longRows])), (a_scene, .inr (7, [.ref a_scene_steps, .ref a_scene_worths, .ref a_scene_comers, .ref a_scene_seen, .ref a_scene_seenLengths, .int v_scene_seats, .int v_scene_bear, .int v_scene_comerCount, .int v_scene_seenRows])), (a_scene_worths, eI cI 12 v_scene_worths)]) Cx (c_X10_isWithin l D cI cJ cZ cO  x2 (0 : Int32) (9 : Int32) u3 hu3) hP hS rfl rfl rfl rfl rfl rfl hl.1 (Nat.le_of_ble_eq_true rfl) dX10_worth_14 rfl rfl ⟨Nat.le_of_ble_eq_true rfl, Nat.le_of_ble_eq_true rfl⟩ ⟨Nat.zero_le _, Nat.zero_le _⟩ rfl (fun H locs hP hS => ?_)
    refine lv_if_ne (tgt := 23) hx hb dX10_worth_17 (by decide) (fun c4 => ?_) (fun c4 => ?_)
    · have hf := ob_f c4 hf
      refine lv_aload_n hx hb dX10_worth_23 rfl (lv_at hl 0 rfl) ?_
      refine gf_X10_19 Cx hP 0 rfl rfl dX10_worth_24 ?_
      refine gf_X10_126 Cx hP 1 rfl rfl dX10_worth_27 ?_
      refine lv_iload_n hx hb dX10_worth_30 rfl (lv_at hl 1 rfl) ?_
      obtain ⟨u5, hu5, hf⟩ := ob_b hf
      refine ba_iald Cx hP 2 rfl hu5 dX10_worth_31 ?_
      refine lv_istore_n (lv' := [(3, .int u5), (0, .ref a_t), (1, .int x1), (2, .int x2)]) hx hb dX10_worth_32 rfl hl (by decide) rfl (fun ls hl => ?_)
      refine lv_aload_n hx hb dX10_worth_33 rfl (lv_at hl 1 rfl) ?_
      refine gf_X10_19 Cx hP 0 rfl rfl dX10_worth_34 ?_
      refine gf_X10_126 Cx hP 1 rfl rfl dX10_worth_37 ?_
      refine lv_iload_n hx hb dX10_worth_40 rfl (lv_at hl 2 rfl) ?_
      refine lv_iload_n hx hb dX10_worth_41 rfl (lv_at hl 3 rfl) ?_
      obtain ⟨u6, hu6, hf⟩ := ob_b hf
      refine ba_iast (X' := [(a_t, .inr (10, [.ref a_pad, .ref a_scene, .ref a_images, .ref a_bench, .ref a_trial, .ref a_sitters, .ref a_trialSitters, .ref a_sets, .ref a_census, .ref a_match, .ref a_couples, .ref a_passing, .ref a_longRows])), (a_scene, .inr (7, [.ref a_scene_steps, .ref a_scene_worths, .ref a_scene_comers, .ref a_scene_seen, .ref a_scene_seenLengths, .int v_scene_seats, .int v_scene_bear, .int v_scene_comerCount, .int v_scene_seenRows])), (a_scene_worths, eI cI 12 u6)]) Cx hP hS rfl 2 rfl rfl hu6 dX10_worth_42 (fun H locs hP hS => ?_)
      refine lv_iload_n hx hb dX10_worth_43 rfl (lv_at hl 0 rfl) ?_
      obtain rfl := Option.some.inj hf
      exact ret _ _ _ _ dX10_worth_44 hP hS
    · have hf := ob_t c4 hf
      refine lv_bipush (v := (-2)) hx hb dX10_worth_20 (by decide) ?_
      obtain rfl := Option.some.inj hf
      exact ret _ _ _ _ dX10_worth_22 hP hS
  · have hf := ob_t c2 hf
    refine lv_iconst (v := (-1)) hx hb dX10_worth_8 (by decide) ?_
    obtain rfl := Option.some.inj hf
    exact ret _ _ _ _ dX10_worth_9 hP hS

def f_X10_bear (v_scene_seats : Int32) (v_scene_bear : Int32) (v_scene_seenRows : Int32) (v_bench_apart : Nat → Int32) (v_scene_steps : Nat → Int32) (v_bench_clash : Nat → Int32) (v_bench_neighbours : Nat → Int32) (v_census_known : Int32) (v_match_known : Int32) (x1 : Int32) : Option (Int32 × Int32 × Int32 × (Nat → Int32) × (Nat → Int32) × (Nat → Int32) × Int32 × Int32) :=
  (f_X10_isWithin x1 (1 : Int32) (4 : Int32)).bind (fun u1 =>
  if u1 = 0 then
  some ((-2 : Int32), v_scene_bear, v_scene_seenRows, v_bench_apart, v_bench_clash, v_bench_neighbours, v_census_known, v_match_known)
  else
  (if v_scene_bear = x1 then
  some (v_scene_bear, v_scene_seenRows, v_bench_apart, v_bench_clash, v_bench_neighbours, v_census_known, v_match_known)
  else
  (f_X10_renew v_scene_seats x1 v_bench_apart v_scene_steps v_bench_clash v_bench_neighbours).bind (fun u6 =>
  some (x1, (0 : Int32), u6.1, u6.2.1, u6.2.2.1, u6.2.2.2.1, u6.2.2.2.2))).bind (fun w3 =>
  some (v_scene_bear, w3.1, w3.2.1, w3.2.2.1, w3.2.2.2.1, w3.2.2.2.2.1, w3.2.2.2.2.2.1, w3.2.2.2.2.2.2)))
set_option maxHeartbeats 4000000 in
set_option maxRecDepth 100000 in
theorem c_X10_bear (l : Launch) (D : va_G) (cI cJ cZ cO : ClassId) (a_t a_pad a_scene a_images a_bench a_trial a_sitters a_trialSitters a_sets a_census a_match a_couples a_passing a_longRows a_scene_steps a_scene_worths a_scene_comers a_scene_seen a_scene_seenLengths a_bench_apart a_bench_clash a_bench_neighbours a_census_wholeSets a_census_orders a_match_kind a_match_wicked : Nat) (v_scene_seats : Int32) (v_scene_bear : Int32) (v_scene_comerCount : Int32) (v_scene_seenRows : Int32) (v_bench_apart : Nat → Int32) (v_scene_steps : Nat → Int32) (v_bench_clash : Nat → Int32) (v_bench_neighbours : Nat → Int32) (v_census_least : Int32) (v_census_most : Int32) (v_census_known : Int32) (v_match_known : Int32) (x1 : Int32) (out : Int32 × Int32 × Int32 × (Nat → Int32) × (Nat → Int32) × (Nat → Int32) × Int32 × Int32) (hf : f_X10_bear v_scene_seats v_scene_bear v_scene_seenRows v_bench_apart v_scene_steps v_bench_clash v_bench_neighbours v_census_known v_match_known x1 = some out) : MetR l yX10_bear (Cond.code yX10_bear cX10_bear 3 (some .int) :: tbG) { frames := 3, cells := 0, slots := 0, locals := 70 } D (tyL cI cJ cZ cO) [.ref a_t, .int x1] [(a_t, .inr (10, [.ref a_pad, .ref a_scene, .ref a_images, .ref a_bench, .ref a_trial, .ref a_sitters, .ref a_trialSitters, .ref a_sets, .ref a_census, .ref a_match, .ref a_couples, .ref a_passing, .ref a_longRows])), (a_scene, .inr (7, [.ref a_scene_steps, .ref a_scene_worths, .ref a_scene_comers, .ref a_scene_seen, .ref a_scene_seenLengths, .int v_scene_seats, .int v_scene_bear, .int v_scene_comerCount, .int v_scene_seenRows])), (a_bench, .inr (0, [.ref a_scene, .ref a_bench_apart, .ref a_bench_clash, .ref a_bench_neighbours])), (a_bench_apart, eI cI 144 v_bench_apart), (a_scene_steps, eI cI 12 v_scene_steps), (a_bench_clash, eI cI 12 v_bench_clash), (a_bench_neighbours, eI cI 12 v_bench_neighbours), (a_census, .inr (1, [.ref a_census_wholeSets, .ref a_census_orders, .int v_census_least, .int v_census_most, .int v_census_known])), (a_match, .inr (4, [.ref a_match_kind, .ref a_match_wicked, .int v_match_known]))] (some (.int out.1)) [(a_t, .inr (10, [.ref a_pad, .ref a_scene, .ref a_images, .ref a_bench, .ref a_trial, .ref a_sitters, .ref a_trialSitters, .ref a_sets, .ref a_census, .ref a_match, .ref a_couples, .ref a_passing, .ref a_longRows])), (a_scene, .inr (7, [.ref a_scene_steps, .ref a_scene_worths, .ref a_scene_comers, .ref a_scene_seen, .ref a_scene_seenLengths, .int v_scene_seats, .int out.2.1, .int v_scene_comerCount, .int out.2.2.1])), (a_bench, .inr (0, [.ref a_scene, .ref a_bench_apart, .ref a_bench_clash, .ref a_bench_neighbours])), (a_bench_apart, eI cI 144 out.2.2.2.1), (a_scene_steps, eI cI 12 v_scene_steps), (a_bench_clash, eI cI 12 out.2.2.2.2.1), (a_bench_neighbours, eI cI 12 out.2.2.2.2.2.1), (a_census, .inr (1, [.ref a_census_wholeSets, .ref a_census_orders, .int v_census_least, .int v_census_most, .int out.2.2.2.2.2.2.1])), (a_match, .inr (4, [.ref a_match_kind, .ref a_match_wicked, .int out.2.2.2.2.2.2.2]))] := by
  refine ba_ofI RX10 [(0, .ref a_t), (1, .int x1)] (by decide +kernel) rfl (Nat.le_of_ble_eq_true rfl) rfl ?_
  intro p e s m args below meth c Q A Cx hP ret ls hl
  obtain ⟨⟨hx, hb, hml, hown, hts⟩, hK, hD, hA⟩ := id Cx
  have hS : va_S A s.heap s.heap [] := va_S.rf
  unfold f_X10_bear at hf
  refine lv_iload_n hx hb dX10_bear_0 rfl (lv_at hl 1 rfl) ?_
  refine lv_iconst (v := 1) hx hb dX10_bear_1 (by decide) ?_
  refine lv_iconst (v := 4) hx hb dX10_bear_2 (by decide) ?_
  obtain ⟨u1, hu1, hf⟩ := ob_b hf
  refine iv_X10_99 (As := [.int x1, .int (1 : Int32), .int (4 : Int32)]) (rest := []) (is := []) (X' := [(a_t, .inr (10, [.ref a_pad, .ref a_scene, .ref a_images, .ref a_bench, .ref a_trial, .ref a_sitters, .ref a_trialSitters, .ref a_sets, .ref a_census, .ref a_match, .ref a_couples, .ref a_passing, .ref a_longRows])), (a_scene, .inr (7, [.ref a_scene_steps, .ref a_scene_worths, .ref a_scene_comers, .ref a_scene_seen, .ref a_scene_seenLengths, .int v_scene_seats, .int v_scene_bear, .int v_scene_comerCount, .int v_scene_seenRows])), (a_bench, .inr (0, [.ref a_scene, .ref a_bench_apart, .ref a_bench_clash, .ref a_bench_neighbours])), (a_bench_apart, eI cI 144 v_bench_apart), (a_scene_steps, eI cI 12 v_scene_steps), (a_bench_clash, eI cI 12 v_bench_clash), (a_bench_neighbours, eI cI 12 v_bench_neighbours), (a_census, .inr (1, [.ref a_census_wholeSets, .ref a_census_orders, .int v_census_least, .int v_census_most, .int v_census_known])), (a_match, .inr (4, [.ref a_match_kind, .ref a_match_wicked, .int v_match_known]))]) Cx (c_X10_isWithin l D cI cJ cZ cO  x1 (1 : Int32) (4 : Int32) u1 hu1) hP hS rfl rfl rfl rfl rfl rfl hl.1 (Nat.le_of_ble_eq_true rfl) dX10_bear_3 rfl rfl ⟨Nat.le_of_ble_eq_true rfl, Nat.le_of_ble_eq_true rfl⟩ ⟨Nat.zero_le _, Nat.zero_le _⟩ rfl (fun H locs hP hS => ?_)
  refine lv_if_ne (tgt := 12) hx hb dX10_bear_6 (by decide) (fun c2 => ?_) (fun c2 => ?_)
  · have hf := ob_f c2 hf
    refine lv_aload_n hx hb dX10_bear_12 rfl (lv_at hl 0 rfl) ?_
    refine gf_X10_19 Cx hP 0 rfl rfl dX10_bear_13 ?_
    refine gf_X10_144 Cx hP 1 rfl rfl dX10_bear_16 ?_
    refine lv_istore_n (lv' := [(2, .int v_scene_bear), (0, .ref a_t), (1, .int x1)]) hx hb dX10_bear_19 rfl hl (by decide) rfl (fun ls hl => ?_)
    refine lv_iload_n hx hb dX10_bear_20 rfl (lv_at hl 0 rfl) ?_
    refine lv_iload_n hx hb dX10_bear_21 rfl (lv_at hl 2 rfl) ?_
    refine ob_J (P := fun w3 => ∀ (H : Heap) (locs : List Loc) (ls : Array Slot), va_P D vwCl [(a_t, .inr (10, [.ref a_pad, .ref a_scene, .ref a_images, .ref a_bench, .ref a_trial, .ref a_sitters, .ref a_trialSitters, .ref a_sets, .ref a_census, .ref a_match, .ref a_couples, .ref a_passing, .ref a_longRows])), (a_scene, .inr (7, [.ref a_scene_steps, .ref a_scene_worths, .ref a_scene_comers, .ref a_scene_seen, .ref a_scene_seenLengths, .int v_scene_seats, .int w3.1, .int v_scene_comerCount, .int w3.2.1])), (a_bench, .inr (0, [.ref a_scene, .ref a_bench_apart, .ref a_bench_clash, .ref a_bench_neighbours])), (a_bench_apart, eI cI 144 w3.2.2.1), (a_scene_steps, eI cI 12 v_scene_steps), (a_bench_clash, eI cI 12 w3.2.2.2.1), (a_bench_neighbours, eI cI 12 w3.2.2.2.2.1), (a_census, .inr (1, [.ref a_census_wholeSets, .ref a_census_orders, .int v_census_least, .int v_census_most, .int w3.2.2.2.2.2.1])), (a_match, .inr (4, [.ref a_match_kind, .ref a_match_wicked, .int w3.2.2.2.2.2.2]))] H → va_S A s.heap H locs → lv_has ls 3 [(2, .int v_scene_bear)] → W p l e { frames := 3, cells := 0, slots := 0, locals := 70 } s m args below meth c H locs 0 0 Q (F0 m 45 ls [])) hf ?_ ?_
    · intro w3 hf H locs ls hP hS hl
      refine lv_iload_n hx hb dX10_bear_45 rfl (lv_at hl 0 rfl) ?_
      obtain rfl := Option.some.inj hf
      exact ret _ _ _ _ dX10_bear_46 hP hS
    · intro J45_4 hf
      refine lv_icmp_eq (tgt := 45) hx hb dX10_bear_22 (by decide) (fun c5 => ?_) (fun c5 => ?_)
      · have hf := ob_tk c5 hf
        exact J45_4 (v_scene_bear, v_scene_seenRows, v_bench_apart, v_bench_clash, v_bench_neighbours, v_census_known, v_match_known) hf _ _ _ hP hS (lv_sub hl [0] rfl)
      · have hf := ob_fk c5 hf
        refine lv_aload_n hx hb dX10_bear_25 rfl (lv_at hl 1 rfl) ?_
        refine gf_X10_19 Cx hP 0 rfl rfl dX10_bear_26 ?_
        refine lv_iload_n hx hb dX10_bear_29 rfl (lv_at hl 2 rfl) ?_
        refine pf_X10_144 (X' := [(a_t, .inr (10, [.ref a_pad, .ref a_scene, .ref a_images, .ref a_bench, .ref a_trial, .ref a_sitters, .ref a_trialSitters, .ref a_sets, .ref a_census, .ref a_match, .ref a_couples, .ref a_passing, .ref a_longRows])), (a_scene, .inr (7, [.ref a_scene_steps, .ref a_scene_worths, .ref a_scene_comers, .ref a_scene_seen, .ref a_scene_seenLengths, .int v_scene_seats, .int x1, .int v_scene_comerCount, .int v_scene_seenRows])), (a_bench, .inr (0, [.ref a_scene, .ref a_bench_apart, .ref a_bench_clash, .ref a_bench_neighbours])), (a_bench_apart, eI cI 144 v_bench_apart), (a_scene_steps, eI cI 12 v_scene_steps), (a_bench_clash, eI cI 12 v_bench_clash), (a_bench_neighbours, eI cI 12 v_bench_neighbours), (a_census, .inr (1, [.ref a_census_wholeSets, .ref a_census_orders, .int v_census_least, .int v_census_most, .int v_census_known])), (a_match, .inr (4, [.ref a_match_kind, .ref a_match_wicked, .int v_match_known]))]) Cx hP hS rfl 1 rfl rfl (Nat.le_of_ble_eq_true rfl) dX10_bear_30 (fun H locs hP hS => ?_)
        refine lv_aload_n hx hb dX10_bear_33 rfl (lv_at hl 1 rfl) ?_
        refine gf_X10_19 Cx hP 0 rfl rfl dX10_bear_34 ?_
        refine lv_iconst (v := 0) hx hb dX10_bear_37 (by decide) ?_
        refine pf_X10_135 (X' := [(a_t, .inr (10, [.ref a_pad, .ref a_scene, .ref a_images, .ref a_bench, .ref a_trial, .ref a_sitters, .ref a_trialSitters, .ref a_sets, .ref a_census, .ref a_match, .ref a_couples, .ref a_passing, .ref a_longRows])), (a_scene, .inr (7, [.ref a_scene_steps, .ref a_scene_worths, .ref a_scene_comers, .ref a_scene_seen, .ref a_scene_seenLengths, .int v_scene_seats, .int x1, .int v_scene_comerCount, .int (0 : Int32)])), (a_bench, .inr (0, [.ref a_scene, .ref a_bench_apart, .ref a_bench_clash, .ref a_bench_neighbours])), (a_bench_apart, eI cI 144 v_bench_apart), (a_scene_steps, eI cI 12 v_scene_steps), (a_bench_clash, eI cI 12 v_bench_clash), (a_bench_neighbours, eI cI 12 v_bench_neighbours), (a_census, .inr (1, [.ref a_census_wholeSets, .ref a_census_orders, .int v_census_least, .int v_census_most, .int v_census_known])), (a_match, .inr (4, [.ref a_match_kind, .ref a_match_wicked, .int v_match_known]))]) Cx hP hS rfl 1 rfl rfl (Nat.le_of_ble_eq_true rfl) dX10_bear_38 (fun H locs hP hS => ?_)
        refine lv_aload_n hx hb dX10_bear_41 rfl (lv_at hl 1 rfl) ?_
        obtain ⟨u6, hu6, hf⟩ := ob_bk hf
        refine iv_X10_138 (As := []) (rest := []) (is := [0, 2, 1, 3, 4, 5, 6, 7, 8]) (q0 := 0) (X' := [(a_t, .inr (10, [.ref a_pad, .ref a_scene, .ref a_images, .ref a_bench, .ref a_trial, .ref a_sitters, .ref a_trialSitters, .ref a_sets, .ref a_census, .ref a_match, .ref a_couples, .ref a_passing, .ref a_longRows])), (a_scene, .inr (7, [.ref a_scene_steps, .ref a_scene_worths, .ref a_scene_comers, .ref a_scene_seen, .ref a_scene_seenLengths, .int v_scene_seats, .int x1, .int v_scene_comerCount, .int (0 : Int32)])), (a_bench, .inr (0, [.ref a_scene, .ref a_bench_apart, .ref a_bench_clash, .ref a_bench_neighbours])), (a_bench_apart, eI cI 144 u6.1), (a_scene_steps, eI cI 12 v_scene_steps), (a_bench_clash, eI cI 12 u6.2.1), (a_bench_neighbours, eI cI 12 u6.2.2.1), (a_census, .inr (1, [.ref a_census_wholeSets, .ref a_census_orders, .int v_census_least, .int v_census_most, .int u6.2.2.2.1])), (a_match, .inr (4, [.ref a_match_kind, .ref a_match_wicked, .int u6.2.2.2.2]))]) Cx (c_X10_renew l D cI cJ cZ cO a_t a_pad a_scene a_images a_bench a_trial a_sitters a_trialSitters a_sets a_census a_match a_couples a_passing a_longRows a_bench_apart a_bench_clash a_bench_neighbours a_scene_steps a_scene_worths a_scene_comers a_scene_seen a_scene_seenLengths a_census_wholeSets a_census_orders a_match_kind a_match_wicked v_scene_seats x1 v_scene_comerCount (0 : Int32) v_bench_apart v_scene_steps v_bench_clash v_bench_neighbours v_census_least v_census_most v_census_known v_match_known u6 hu6) hP hS rfl rfl rfl rfl rfl rfl rfl hl.1 (Nat.le_of_ble_eq_true rfl) dX10_bear_42 rfl rfl ⟨Nat.le_of_ble_eq_true rfl, Nat.le_of_ble_eq_true rfl⟩ ⟨Nat.zero_le _, Nat.zero_le _⟩ rfl (fun H locs hP hS => ?_)
        exact J45_4 (x1, (0 : Int32), u6.1, u6.2.1, u6.2.2.1, u6.2.2.2.1, u6.2.2.2.2) hf _ _ _ hP hS (lv_sub hl [0] rfl)
  · have hf := ob_t c2 hf
    refine lv_bipush (v := (-2)) hx hb dX10_bear_9 (by decide) ?_
    obtain rfl := Option.some.inj hf
    exact ret _ _ _ _ dX10_bear_11 hP hS

def f_X10_far (v_scene_seats : Int32) (v_bench_apart : Nat → Int32) (x1 : Int32) (x2 : Int32) : Option (Int32) :=
  (f_X10_isSeat v_scene_seats x1).bind (fun u1 =>
  if u1 = 0 then
  some (-1 : Int32)
  else
  (f_X10_isSeat v_scene_seats x2).bind (fun u3 =>
  if u3 = 0 then
  some (-1 : Int32)
  else
  (f_X0_farness v_bench_apart x1 x2).bind (fun u5 =>
  some (u5))))
set_option maxHeartbeats 4000000 in
set_option maxRecDepth 100000 in
theorem c_X10_far (l : Launch) (D : va_G) (cI cJ cZ cO : ClassId) (a_t a_pad a_scene a_images a_bench a_trial a_sitters a_trialSitters a_sets a_census a_match a_couples a_passing a_longRows a_scene_steps a_scene_worths a_scene_comers a_scene_seen a_scene_seenLengths a_bench_apart a_bench_clash a_bench_neighbours : Nat) (v_scene_seats : Int32) (v_scene_bear : Int32) (v_scene_comerCount : Int32) (v_scene_seenRows : Int32) (v_bench_apart : Nat → Int32) (x1 : Int32) (x2 : Int32) (out : Int32) (hf : f_X10_far v_scene_seats v_bench_apart x1 x2 = some out) : MetR l yX10_far (Cond.code yX10_far cX10_far 3 (some .int) :: tbG) { frames := 2, cells := 0, slots := 0, locals := 43 } D (tyL cI cJ cZ cO) [.ref a_t, .int x1, .int x2] [(a_t, .inr (10, [.ref a_pad, .ref a_scene, .ref a_images, .ref a_bench, .ref a_trial, .ref a_sitters, .ref a_trialSitters, .ref a_sets, .ref a_census, .ref a_match, .ref a_couples, .ref a_passing, .ref a_longRows])), (a_scene, .inr (7, [.ref a_scene_steps, .ref a_scene_worths, .ref a_scene_comers, .ref a_scene_seen, .ref a_scene_seenLengths, .int v_scene_seats, .int v_scene_bear, .int v_scene_comerCount, .int v_scene_seenRows])), (a_bench, .inr (0, [.ref a_scene, .ref a_bench_apart, .ref a_bench_clash, .ref a_bench_neighbours])), (a_bench_apart, eI cI 144 v_bench_apart)] (some (.int out)) [(a_t, .inr (10, [.ref a_pad, .ref a_scene, .ref a_images, .ref a_bench, .ref a_trial, .ref a_sitters, .ref a_trialSitters, .ref a_sets, .ref a_census, .ref a_match, .ref a_couples, .ref a_passing, .ref a_longRows])), (a_scene, .inr (7, [.ref a_scene_steps, .ref a_scene_worths, .ref a_scene_comers, .ref a_scene_seen, .ref a_scene_seenLengths, .int v_scene_seats, .int v_scene_bear, .int v_scene_comerCount, .int v_scene_seenRows])), (a_bench, .inr (0, [.ref a_scene, .ref a_bench_apart, .ref a_bench_clash, .ref a_bench_neighbours])), (a_bench_apart, eI cI 144 v_bench_apart)] := by
  refine ba_ofI RX10 [(0, .ref a_t), (1, .int x1), (2, .int x2)] (by decide +kernel) rfl (Nat.le_of_ble_eq_true rfl) rfl ?_
  intro p e s m args below meth c Q A Cx hP ret ls hl
  obtain ⟨⟨hx, hb, hml, hown, hts⟩, hK, hD, hA⟩ := id Cx
  have hS : va_S A s.heap s.heap [] := va_S.rf
  unfold f_X10_far at hf
  refine lv_aload_n hx hb dX10_far_0 rfl (lv_at hl 0 rfl) ?_
  refine lv_iload_n hx hb dX10_far_1 rfl (lv_at hl 1 rfl) ?_
  obtain ⟨u1, hu1, hf⟩ := ob_b hf
  refine iv_X10_141 (As := [.int x1]) (rest := []) (is := [0, 1]) (q0 := 0) (X' := [(a_t, .inr (10, [.ref a_pad, .ref a_scene, .ref a_images, .ref a_bench, .ref a_trial, .ref a_sitters, .ref a_trialSitters, .ref a_sets, .ref a_census, .ref a_match, .ref a_couples, .ref a_passing, .ref a_longRows])), (a_scene, .inr (7, [.ref a_scene_steps, .ref a_scene_worths, .ref a_scene_comers, .ref a_scene_seen, .ref a_scene_seenLengths, .int v_scene_seats, .int v_scene_bear, .int v_scene_comerCount, .int v_scene_seenRows])), (a_bench, .inr (0, [.ref a_scene, .ref a_bench_apart, .ref a_bench_clash, .ref a_bench_neighbours])), (a_bench_apart, eI cI 144 v_bench_apart)]) Cx (c_X10_isSeat l D cI cJ cZ cO a_t a_pad a_scene a_images a_bench a_trial a_sitters a_trialSitters a_sets a_census a_match a_couples a_passing a_longRows a_scene_steps a_scene_worths a_scene_comers a_scene_seen a_scene_seenLengths v_scene_seats v_scene_bear v_scene_comerCount v_scene_seenRows x1 u1 hu1) hP hS rfl rfl rfl rfl rfl rfl rfl hl.1 (Nat.le_of_ble_eq_true rfl) dX10_far_2 rfl rfl ⟨Nat.le_of_ble_eq_true rfl, Nat.le_of_ble_eq_true rfl⟩ ⟨Nat.zero_le _, Nat.zero_le _⟩ rfl (fun H locs hP hS => ?_)
  refine lv_if_eq (tgt := 16) hx hb dX10_far_5 (by decide) (fun c2 => ?_) (fun c2 => ?_)
  · have hf := ob_t c2 hf
    refine lv_iconst (v := (-1)) hx hb dX10_far_16 (by decide) ?_
    obtain rfl := Option.some.inj hf
    exact ret _ _ _ _ dX10_far_17 hP hS
  · have hf := ob_f c2 hf
    refine lv_aload_n hx hb dX10_far_8 rfl (lv_at hl 0 rfl) ?_
    refine lv_iload_n hx hb dX10_far_9 rfl (lv_at hl 2 rfl) ?_
    obtain ⟨u3, hu3, hf⟩ := ob_b hf
    refine iv_X10_141 (As := [.int x2]) (rest := []) (is := [0, 1]) (q0 := 0) (X' := [(a_t, .inr (10, [.ref a_pad, .ref a_scene, .ref a_images, .ref a_bench, .ref a_trial, .ref a_sitters, .ref a_trialSitters, .ref a_sets, .ref a_census, .ref a_match, .ref a_couples, .ref a_passing, .ref a_longRows])), (a_scene, .inr (7, [.ref a_scene_steps, .ref a_scene_worths, .ref a_scene_comers, .ref a_scene_seen, .ref a_scene_seenLengths, .int v_scene_seats, .int v_scene_bear, .int v_scene_comerCount, .int v_scene_seenRows])), (a_bench, .inr (0, [.ref a_scene, .ref a_bench_apart, .ref a_bench_clash, .ref a_bench_neighbours])), (a_bench_apart, eI cI 144 v_bench_apart)]) Cx (c_X10_isSeat l D cI cJ cZ cO a_t a_pad a_scene a_images a_bench a_trial a_sitters a_trialSitters a_sets a_census a_match a_couples a_passing a_longRows a_scene_steps a_scene_worths a_scene_comers a_scene_seen a_scene_seenLengths v_scene_seats v_scene_bear v_scene_comerCount v_scene_seenRows x2 u3 hu3) hP hS rfl rfl rfl rfl rfl rfl rfl hl.1 (Nat.le_of_ble_eq_true rfl) dX10_far_10 rfl rfl ⟨Nat.le_of_ble_eq_true rfl, Nat.le_of_ble_eq_true rfl⟩ ⟨Nat.zero_le _, Nat.zero_le _⟩ rfl (fun H locs hP hS => ?_)
    refine lv_if_ne (tgt := 18) hx hb dX10_far_13 (by decide) (fun c4 => ?_) (fun c4 => ?_)
    · have hf := ob_f c4 hf
      refine lv_aload_n hx hb dX10_far_18 rfl (lv_at hl 0 rfl) ?_
      refine gf_X10_32 Cx hP 0 rfl rfl dX10_far_19 ?_
      refine lv_iload_n hx hb dX10_far_22 rfl (lv_at hl 1 rfl) ?_
      refine lv_iload_n hx hb dX10_far_23 rfl (lv_at hl 2 rfl) ?_
      obtain ⟨u5, hu5, hf⟩ := ob_b hf
      refine iv_X10_147 (As := [.int x1, .int x2]) (rest := []) (is := [2, 3]) (q0 := 2) (X' := [(a_t, .inr (10, [.ref a_pad, .ref a_scene, .ref a_images, .ref a_bench, .ref a_trial, .ref a_sitters, .ref a_trialSitters, .ref a_sets, .ref a_census, .ref a_match, .ref a_couples, .ref a_passing, .ref a_longRows])), (a_scene, .inr (7, [.ref a_scene_steps, .ref a_scene_worths, .ref a_scene_comers, .ref a_scene_seen, .ref a_scene_seenLengths, .int v_scene_seats, .int v_scene_bear, .int v_scene_comerCount, .int v_scene_seenRows])), (a_bench, .inr (0, [.ref a_scene, .ref a_bench_apart, .ref a_bench_clash, .ref a_bench_neighbours])), (a_bench_apart, eI cI 144 v_bench_apart)]) Cx (c_X0_farness l D cI cJ cZ cO a_bench a_scene a_bench_apart a_bench_clash a_bench_neighbours v_bench_apart x1 x2 u5 hu5) hP hS rfl rfl rfl rfl rfl rfl rfl hl.1 (Nat.le_of_ble_eq_true rfl) dX10_far_24 rfl rfl ⟨Nat.le_of_ble_eq_true rfl, Nat.le_of_ble_eq_true rfl⟩ ⟨Nat.zero_le _, Nat.zero_le _⟩ rfl (fun H locs hP hS => ?_)
      obtain rfl := Option.some.inj hf
      exact ret _ _ _ _ dX10_far_27 hP hS
    · have hf := ob_t c4 hf
      refine lv_iconst (v := (-1)) hx hb dX10_far_16 (by decide) ?_
      obtain rfl := Option.some.inj hf
      exact ret _ _ _ _ dX10_far_17 hP hS

def f_X10_seatAll (v_scene_seats : Int32) (v_scene_bear : Int32) (v_sitters_set : Int32) (v_sitters_bear : Int32) (v_sitters_nearest : Nat → Int32) (v_bench_apart : Nat → Int32) (x1 : Int32) : Option (Int32 × Int32 × Int32 × (Nat → Int32)) :=
  (f_X7_allSeats v_scene_seats).bind (fun u1 =>
  if (x1 &&& (u1 ^^^ (-1 : Int32))) = 0 then
  (f_X9_seatSet v_scene_seats v_scene_bear v_sitters_nearest v_bench_apart x1).bind (fun u3 =>
  (if u3.1 = 0 then
  some (-3 : Int32)
  else
  some (0 : Int32)).bind (fun w4 =>
  some (w4, u3.2.1, u3.2.2.1, u3.2.2.2)))
  else
  some ((-2 : Int32), v_sitters_set, v_sitters_bear, v_sitters_nearest))
set_option maxHeartbeats 4000000 in
set_option maxRecDepth 100000 in
theorem c_X10_seatAll (l : Launch) (D : va_G) (cI cJ cZ cO : ClassId) (a_t a_pad a_scene a_images a_bench a_trial a_sitters a_trialSitters a_sets a_census a_match a_couples a_passing a_longRows a_scene_steps a_scene_worths a_scene_comers a_scene_seen a_scene_seenLengths a_sitters_nearest a_bench_apart a_bench_clash a_bench_neighbours : Nat) (v_scene_seats : Int32) (v_scene_bear : Int32) (v_scene_comerCount : Int32) (v_scene_seenRows : Int32) (v_sitters_set : Int32) (v_sitters_bear : Int32) (v_sitters_nearest : Nat → Int32) (v_bench_apart : Nat → Int32) (x1 : Int32) (out : Int32 × Int32 × Int32 × (Nat → Int32)) (hf : f_X10_seatAll v_scene_seats v_scene_bear v_sitters_set v_sitters_bear v_sitters_nearest v_bench_apart x1 = some out) : MetR l yX10_seatAll (Cond.code yX10_seatAll cX10_seatAll 2 (some .int) :: tbG) { frames := 3, cells := 0, slots := 0, locals := 66 } D (tyL cI cJ cZ cO) [.ref a_t, .int x1] [(a_t, .inr (10, [.ref a_pad, .ref a_scene, .ref a_images, .ref a_bench, .ref a_trial, .ref a_sitters, .ref a_trialSitters, .ref a_sets, .ref a_census, .ref a_match, .ref a_couples, .ref a_passing, .ref a_longRows])), (a_scene, .inr (7, [.ref a_scene_steps, .ref a_scene_worths, .ref a_scene_comers, .ref a_scene_seen, .ref a_scene_seenLengths, .int v_scene_seats, .int v_scene_bear, .int v_scene_comerCount, .int v_scene_seenRows])), (a_sitters, .inr (9, [.ref a_bench, .ref a_sitters_nearest, .int v_sitters_set, .int v_sitters_bear])), (a_bench, .inr (0, [.ref a_scene, .ref a_bench_apart, .ref a_bench_clash, .ref a_bench_neighbours])), (a_sitters_nearest, eI cI 12 v_sitters_nearest), (a_bench_apart, eI cI 144 v_bench_apart)] (some (.int out.1)) [(a_t, .inr (10, [.ref a_pad, .ref a_scene, .ref a_images, .ref a_bench, .ref a_trial, .ref a_sitters, .ref a_trialSitters, .ref a_sets, .ref a_census, .ref a_match, .ref a_couples, .ref a_passing, .ref a_longRows])), (a_scene, .inr (7, [.ref a_scene_steps, .ref a_scene_worths, .ref a_scene_comers, .ref a_scene_seen, .ref a_scene_seenLengths, .int v_scene_seats, .int v_scene_bear, .int v_scene_comerCount, .int v_scene_seenRows])), (a_sitters, .inr (9, [.ref a_bench, .ref a_sitters_nearest, .int out.2.1, .int out.2.2.1])), (a_bench, .inr (0, [.ref a_scene, .ref a_bench_apart, .ref a_bench_clash, .ref a_bench_neighbours])), (a_sitters_nearest, eI cI 12 out.2.2.2), (a_bench_apart, eI cI 144 v_bench_apart)] := by
  refine ba_ofI RX10 [(0, .ref a_t), (1, .int x1)] (by decide +kernel) rfl (Nat.le_of_ble_eq_true rfl) rfl ?_
  intro p e s m args below meth c Q A Cx hP ret ls hl
  obtain ⟨⟨hx, hb, hml, hown, hts⟩, hK, hD, hA⟩ := id Cx
  have hS : va_S A s.heap s.heap [] := va_S.rf
  unfold f_X10_seatAll at hf
  refine lv_iload_n hx hb dX10_seatAll_0 rfl (lv_at hl 1 rfl) ?_
  refine lv_aload_n hx hb dX10_seatAll_1 rfl (lv_at hl 0 rfl) ?_
  refine gf_X10_19 Cx hP 0 rfl rfl dX10_seatAll_2 ?_
  obtain ⟨u1, hu1, hf⟩ := ob_b hf
  refine iv_X10_296 (As := []) (rest := [.int x1]) (is := [1]) (q0 := 1) (X' := [(a_t, .inr (10, [.ref a_pad, .ref a_scene, .ref a_images, .ref a_bench, .ref a_trial, .ref a_sitters, .ref a_trialSitters, .ref a_sets, .ref a_census, .ref a_match, .ref a_couples, .ref a_passing, .ref a_longRows])), (a_scene, .inr (7, [.ref a_scene_steps, .ref a_scene_worths, .ref a_scene_comers, .ref a_scene_seen, .ref a_scene_seenLengths, .int v_scene_seats, .int v_scene_bear, .int v_scene_comerCount, .int v_scene_seenRows])), (a_sitters, .inr (9, [.ref a_bench, .ref a_sitters_nearest, .int v_sitters_set, .int v_sitters_bear])), (a_bench, .inr (0, [.ref a_scene, .ref a_bench_apart, .ref a_bench_clash, .ref a_bench_neighbours])), (a_sitters_nearest, eI cI 12 v_sitters_nearest), (a_bench_apart, eI cI 144 v_bench_apart)]) Cx (c_X7_allSeats l D cI cJ cZ cO a_scene a_scene_steps a_scene_worths a_scene_comers a_scene_seen a_scene_seenLengths v_scene_seats v_scene_bear v_scene_comerCount v_scene_seenRows u1 hu1) hP hS rfl rfl rfl rfl rfl rfl rfl hl.1 (Nat.le_of_ble_eq_true rfl) dX10_seatAll_5 rfl rfl ⟨Nat.le_of_ble_eq_true rfl, Nat.le_of_ble_eq_true rfl⟩ ⟨Nat.zero_le _, Nat.zero_le _⟩ rfl (fun H locs hP hS => ?_)
  refine lv_iconst (v := (-1)) hx hb dX10_seatAll_8 (by decide) ?_
  refine lv_ixor hx hb dX10_seatAll_9 ?_
  refine lv_iand hx hb dX10_seatAll_10 ?_
  refine lv_if_eq (tgt := 17) hx hb dX10_seatAll_11 (by decide) (fun c2 => ?_) (fun c2 => ?_)
  · have hf := ob_t c2 hf
    refine lv_aload_n hx hb dX10_seatAll_17 rfl (lv_at hl 0 rfl) ?_
    refine gf_X10_44 Cx hP 0 rfl rfl dX10_seatAll_18 ?_
    refine lv_iload_n hx hb dX10_seatAll_21 rfl (lv_at hl 1 rfl) ?_
    obtain ⟨u3, hu3, hf⟩ := ob_b hf
    refine iv_X10_299 (As := [.int x1]) (rest := []) (is := [2, 3, 1, 4, 5]) (q0 := 2) (X' := [(a_t, .inr (10, [.ref a_pad, .ref a_scene, .ref a_images, .ref a_bench, .ref a_trial, .ref a_sitters, .ref a_trialSitters, .ref a_sets, .ref a_census, .ref a_match, .ref a_couples, .ref a_passing, .ref a_longRows])), (a_scene, .inr (7, [.ref a_scene_steps, .ref a_scene_worths, .ref a_scene_comers, .ref a_scene_seen, .ref a_scene_seenLengths, .int v_scene_seats, .int v_scene_bear, .int v_scene_comerCount, .int v_scene_seenRows])), (a_sitters, .inr (9, [.ref a_bench, .ref a_sitters_nearest, .int u3.2.1, .int u3.2.2.1])), (a_bench, .inr (0, [.ref a_scene, .ref a_bench_apart, .ref a_bench_clash, .ref a_bench_neighbours])), (a_sitters_nearest, eI cI 12 u3.2.2.2), (a_bench_apart, eI cI 144 v_bench_apart)]) Cx (c_X9_seatSet l D cI cJ cZ cO a_sitters a_bench a_sitters_nearest a_scene a_bench_apart a_bench_clash a_bench_neighbours a_scene_steps a_scene_worths a_scene_comers a_scene_seen a_scene_seenLengths v_sitters_set v_sitters_bear v_scene_seats v_scene_bear v_scene_comerCount v_scene_seenRows v_sitters_nearest v_bench_apart x1 u3 hu3) hP hS rfl rfl rfl rfl rfl rfl rfl hl.1 (Nat.le_of_ble_eq_true rfl) dX10_seatAll_22 rfl rfl ⟨Nat.le_of_ble_eq_true rfl, Nat.le_of_ble_eq_true rfl⟩ ⟨Nat.zero_le _, Nat.zero_le _⟩ rfl (fun H locs hP hS => ?_)
    refine ob_J (P := fun w4 => ∀ (H : Heap) (locs : List Loc) (ls : Array Slot), va_P D vwCl [(a_t, .inr (10, [.ref a_pad, .ref a_scene, .ref a_images, .ref a_bench, .ref a_trial, .ref a_sitters, .ref a_trialSitters, .ref a_sets, .ref a_census, .ref a_match, .ref a_couples, .ref a_passing, .ref a_longRows])), (a_scene, .inr (7, [.ref a_scene_steps, .ref a_scene_worths, .ref a_scene_comers, .ref a_scene_seen, .ref a_scene_seenLengths, .int v_scene_seats, .int v_scene_bear, .int v_scene_comerCount, .int v_scene_seenRows])), (a_sitters, .inr (9, [.ref a_bench, .ref a_sitters_nearest, .int u3.2.1, .int u3.2.2.1])), (a_bench, .inr (0, [.ref a_scene, .ref a_bench_apart, .ref a_bench_clash, .ref a_bench_neighbours])), (a_sitters_nearest, eI cI 12 u3.2.2.2), (a_bench_apart, eI cI 144 v_bench_apart)] H → va_S A s.heap H locs → lv_has ls 2 [] → W p l e { frames := 3, cells := 0, slots := 0, locals := 66 } s m args below meth c H locs 0 0 Q (F0 m 34 ls [.int w4])) hf ?_ ?_
    · intro w4 hf H locs ls hP hS hl
      obtain rfl := Option.some.inj hf
      exact ret _ _ _ _ dX10_seatAll_34 hP hS
    · intro J34_5 hf
      refine lv_if_eq (tgt := 32) hx hb dX10_seatAll_25 (by decide) (fun c6 => ?_) (fun c6 => ?_)
      · have hf := ob_tk c6 hf
        refine lv_bipush (v := (-3)) hx hb dX10_seatAll_32 (by decide) ?_
        exact J34_5 (-3 : Int32) hf _ _ _ hP hS (lv_sub hl [] rfl)
      · have hf := ob_fk c6 hf
        refine lv_iconst (v := 0) hx hb dX10_seatAll_28 (by decide) ?_
        refine lv_goto (tgt := 34) hx hb dX10_seatAll_29 (by decide) ?_
        exact J34_5 (0 : Int32) hf _ _ _ hP hS (lv_sub hl [] rfl)
  · have hf := ob_f c2 hf
    refine lv_bipush (v := (-2)) hx hb dX10_seatAll_14 (by decide) ?_
    obtain rfl := Option.some.inj hf
    exact ret _ _ _ _ dX10_seatAll_16 hP hS

def f_X10_may (v_scene_seats : Int32) (v_scene_bear : Int32) (v_sitters_set : Int32) (v_sitters_bear : Int32) (v_sitters_nearest : Nat → Int32) (v_bench_apart : Nat → Int32) (x1 : Int32) : Option (Int32 × Int32 × Int32 × (Nat → Int32)) :=
  (f_X10_seatAll v_scene_seats v_scene_bear v_sitters_set v_sitters_bear v_sitters_nearest v_bench_apart x1).bind (fun u1 =>
  (if u1.1 = 0 then
  (f_X9_openSeats u1.2.2.1 v_scene_seats u1.2.2.2).bind (fun u5 =>
  some (u5))
  else
  some (u1.1)).bind (fun w2 =>
  some (w2, u1.2.1, u1.2.2.1, u1.2.2.2)))
set_option maxHeartbeats 4000000 in
set_option maxRecDepth 100000 in
theorem c_X10_may (l : Launch) (D : va_G) (cI cJ cZ cO : ClassId) (a_t a_pad a_scene a_images a_bench a_trial a_sitters a_trialSitters a_sets a_census a_match a_couples a_passing a_longRows a_scene_steps a_scene_worths a_scene_comers a_scene_seen a_scene_seenLengths a_sitters_nearest a_bench_apart a_bench_clash a_bench_neighbours : Nat) (v_scene_seats : Int32) (v_scene_bear : Int32) (v_scene_comerCount : Int32) (v_scene_seenRows : Int32) (v_sitters_set : Int32) (v_sitters_bear : Int32) (v_sitters_nearest : Nat → Int32) (v_bench_apart : Nat → Int32) (x1 : Int32) (out : Int32 × Int32 × Int32 × (Nat → Int32)) (hf : f_X10_may v_scene_seats v_scene_bear v_sitters_set v_sitters_bear v_sitters_nearest v_bench_apart x1 = some out) : MetR l yX10_may (Cond.code yX10_may cX10_may 3 (some .int) :: tbG) { frames := 4, cells := 0, slots := 0, locals := 87 } D (tyL cI cJ cZ cO) [.ref a_t, .int x1] [(a_t, .inr (10, [.ref a_pad, .ref a_scene, .ref a_images, .ref a_bench, .ref a_trial, .ref a_sitters, .ref a_trialSitters, .ref a_sets, .ref a_census, .ref a_match, .ref a_couples, .ref a_passing, .ref a_longRows])), (a_scene, .inr (7, [.ref a_scene_steps, .ref a_scene_worths, .ref a_scene_comers, .ref a_scene_seen, .ref a_scene_seenLengths, .int v_scene_seats, .int v_scene_bear, .int v_scene_comerCount, .int v_scene_seenRows])), (a_sitters, .inr (9, [.ref a_bench, .ref a_sitters_nearest, .int v_sitters_set, .int v_sitters_bear])), (a_bench, .inr (0, [.ref a_scene, .ref a_bench_apart, .ref a_bench_clash, .ref a_bench_neighbours])), (a_sitters_nearest, eI cI 12 v_sitters_nearest), (a_bench_apart, eI cI 144 v_bench_apart)] (some (.int out.1)) [(a_t, .inr (10, [.ref a_pad, .ref a_scene, .ref a_images, .ref a_bench, .ref a_trial, .ref a_sitters, .ref a_trialSitters, .ref a_sets, .ref a_census, .ref a_match, .ref a_couples, .ref a_passing, .ref a_longRows])), (a_scene, .inr (7, [.ref a_scene_steps, .ref a_scene_worths, .ref a_scene_comers, .ref a_scene_seen, .ref a_scene_seenLengths, .int v_scene_seats, .int v_scene_bear, .int v_scene_comerCount, .int v_scene_seenRows])), (a_sitters, .inr (9, [.ref a_bench, .ref a_sitters_nearest, .int out.2.1, .int out.2.2.1])), (a_bench, .inr (0, [.ref a_scene, .ref a_bench_apart, .ref a_bench_clash, .ref a_bench_neighbours])), (a_sitters_nearest, eI cI 12 out.2.2.2), (a_bench_apart, eI cI 144 v_bench_apart)] := by
  refine ba_ofI RX10 [(0, .ref a_t), (1, .int x1)] (by decide +kernel) rfl (Nat.le_of_ble_eq_true rfl) rfl ?_
  intro p e s m args below meth c Q A Cx hP ret ls hl
  obtain ⟨⟨hx, hb, hml, hown, hts⟩, hK, hD, hA⟩ := id Cx
  have hS : va_S A s.heap s.heap [] := va_S.rf
  unfold f_X10_may at hf
  refine lv_aload_n hx hb dX10_may_0 rfl (lv_at hl 0 rfl) ?_
  refine lv_iload_n hx hb dX10_may_1 rfl (lv_at hl 1 rfl) ?_
  obtain ⟨u1, hu1, hf⟩ := ob_b hf
  refine iv_X10_151 (As := [.int x1]) (rest := []) (is := [0, 1, 2, 3, 4, 5]) (q0 := 0) (X' := [(a_t, .inr (10, [.ref a_pad, .ref a_scene, .ref a_images, .ref a_bench, .ref a_trial, .ref a_sitters, .ref a_trialSitters, .ref a_sets, .ref a_census, .ref a_match, .ref a_couples, .ref a_passing, .ref a_longRows])), (a_scene, .inr (7, [.ref a_scene_steps, .ref a_scene_worths, .ref a_scene_comers, .ref a_scene_seen, .ref a_scene_seenLengths, .int v_scene_seats, .int v_scene_bear, .int v_scene_comerCount, .int v_scene_seenRows])), (a_sitters, .inr (9, [.ref a_bench, .ref a_sitters_nearest, .int u1.2.1, .int u1.2.2.1])), (a_bench, .inr (0, [.ref a_scene, .ref a_bench_apart, .ref a_bench_clash, .ref a_bench_neighbours])), (a_sitters_nearest, eI cI 12 u1.2.2.2), (a_bench_apart, eI cI 144 v_bench_apart)]) Cx (c_X10_seatAll l D cI cJ cZ cO a_t a_pad a_scene a_images a_bench a_trial a_sitters a_trialSitters a_sets a_census a_match a_couples a_passing a_longRows a_scene_steps a_scene_worths a_scene_comers a_scene_seen a_scene_seenLengths a_sitters_nearest a_bench_apart a_bench_clash a_bench_neighbours v_scene_seats v_scene_bear v_scene_comerCount v_scene_seenRows v_sitters_set v_sitters_bear v_sitters_nearest v_bench_apart x1 u1 hu1) hP hS rfl rfl rfl rfl rfl rfl rfl hl.1 (Nat.le_of_ble_eq_true rfl) dX10_may_2 rfl rfl ⟨Nat.le_of_ble_eq_true rfl, Nat.le_of_ble_eq_true rfl⟩ ⟨Nat.zero_le _, Nat.zero_le _⟩ rfl (fun H locs hP hS => ?_)
  refine lv_istore_n (lv' := [(2, .int u1.1), (0, .ref a_t), (1, .int x1)]) hx hb dX10_may_5 rfl hl (by decide) rfl (fun ls hl => ?_)
  refine lv_iload_n hx hb dX10_may_6 rfl (lv_at hl 0 rfl) ?_
  refine ob_J (P := fun w2 => ∀ (H : Heap) (locs : List Loc) (ls : Array Slot), va_P D vwCl [(a_t, .inr (10, [.ref a_pad, .ref a_scene, .ref a_images, .ref a_bench, .ref a_trial, .ref a_sitters, .ref a_trialSitters, .ref a_sets, .ref a_census, .ref a_match, .ref a_couples, .ref a_passing, .ref a_longRows])), (a_scene, .inr (7, [.ref a_scene_steps, .ref a_scene_worths, .ref a_scene_comers, .ref a_scene_seen, .ref a_scene_seenLengths, .int v_scene_seats, .int v_scene_bear, .int v_scene_comerCount, .int v_scene_seenRows])), (a_sitters, .inr (9, [.ref a_bench, .ref a_sitters_nearest, .int u1.2.1, .int u1.2.2.1])), (a_bench, .inr (0, [.ref a_scene, .ref a_bench_apart, .ref a_bench_clash, .ref a_bench_neighbours])), (a_sitters_nearest, eI cI 12 u1.2.2.2), (a_bench_apart, eI cI 144 v_bench_apart)] H → va_S A s.heap H locs → lv_has ls 3 [] → W p l e { frames := 4, cells := 0, slots := 0, locals := 87 } s m args below meth c H locs 0 0 Q (F0 m 21 ls [.int w2])) hf ?_ ?_
  · intro w2 hf H locs ls hP hS hl
    obtain rfl := Option.some.inj hf
    exact ret _ _ _ _ dX10_may_21 hP hS
  · intro J21_3 hf
    refine lv_if_eq (tgt := 14) hx hb dX10_may_7 (by decide) (fun c4 => ?_) (fun c4 => ?_)
    · have hf := ob_tk c4 hf
      refine lv_aload_n hx hb dX10_may_14 rfl (lv_at hl 1 rfl) ?_
      refine gf_X10_44 Cx hP 0 rfl rfl dX10_may_15 ?_
      obtain ⟨u5, hu5, hf⟩ := ob_bk hf
      refine iv_X10_155 (As := []) (rest := []) (is := [2, 3, 1, 4]) (q0 := 2) (X' := [(a_t, .inr (10, [.ref a_pad, .ref a_scene, .ref a_images, .ref a_bench, .ref a_trial, .ref a_sitters, .ref a_trialSitters, .ref a_sets, .ref a_census, .ref a_match, .ref a_couples, .ref a_passing, .ref a_longRows])), (a_scene, .inr (7, [.ref a_scene_steps, .ref a_scene_worths, .ref a_scene_comers, .ref a_scene_seen, .ref a_scene_seenLengths, .int v_scene_seats, .int v_scene_bear, .int v_scene_comerCount, .int v_scene_seenRows])), (a_sitters, .inr (9, [.ref a_bench, .ref a_sitters_nearest, .int u1.2.1, .int u1.2.2.1])), (a_bench, .inr (0, [.ref a_scene, .ref a_bench_apart, .ref a_bench_clash, .ref a_bench_neighbours])), (a_sitters_nearest, eI cI 12 u1.2.2.2), (a_bench_apart, eI cI 144 v_bench_apart)]) Cx (c_X9_openSeats l D cI cJ cZ cO a_sitters a_bench a_sitters_nearest a_scene a_bench_apart a_bench_clash a_bench_neighbours a_scene_steps a_scene_worths a_scene_comers a_scene_seen a_scene_seenLengths u1.2.1 u1.2.2.1 v_scene_seats v_scene_bear v_scene_comerCount v_scene_seenRows u1.2.2.2 u5 hu5) hP hS rfl rfl rfl rfl rfl rfl rfl hl.1 (Nat.le_of_ble_eq_true rfl) dX10_may_18 rfl rfl ⟨Nat.le_of_ble_eq_true rfl, Nat.le_of_ble_eq_true rfl⟩ ⟨Nat.zero_le _, Nat.zero_le _⟩ rfl (fun H locs hP hS => ?_)
      exact J21_3 u5 hf _ _ _ hP hS (lv_sub hl [] rfl)
    · have hf := ob_fk c4 hf
      refine lv_iload_n hx hb dX10_may_10 rfl (lv_at hl 0 rfl) ?_
      refine lv_goto (tgt := 21) hx hb dX10_may_11 (by decide) ?_
      exact J21_3 u1.1 hf _ _ _ hP hS (lv_sub hl [] rfl)

def f_X10_isHabit (x0 : Int32) : Option (Int32) :=
  (f_X10_isWithin x0 (0 : Int32) (5 : Int32)).bind (fun u1 =>
  (oz u1).bind (fun u2 =>
  some (u2)))
set_option maxHeartbeats 4000000 in
set_option maxRecDepth 100000 in
theorem c_X10_isHabit (l : Launch) (D : va_G) (cI cJ cZ cO : ClassId) (x0 : Int32) (out : Int32) (hf : f_X10_isHabit x0 = some out) : MetR l yX10_isHabit (Cond.code yX10_isHabit cX10_isHabit 1 (some .boolean) :: tbG) { frames := 1, cells := 0, slots := 0, locals := 22 } D (tyL cI cJ cZ cO) [.int x0] [] (some (.int out)) [] := by
  refine ba_ofZ RX10 [(0, .int x0)] (by decide +kernel) rfl (Nat.le_of_ble_eq_true rfl) rfl ?_
  intro p e s m args below meth c Q A Cx hP ret ls hl
  obtain ⟨⟨hx, hb, hml, hown, hts⟩, hK, hD, hA⟩ := id Cx
  have hS : va_S A s.heap s.heap [] := va_S.rf
  unfold f_X10_isHabit at hf
  refine lv_iload_n hx hb dX10_isHabit_0 rfl (lv_at hl 0 rfl) ?_
  refine lv_iconst (v := 0) hx hb dX10_isHabit_1 (by decide) ?_
  refine lv_iconst (v := 5) hx hb dX10_isHabit_2 (by decide) ?_
  obtain ⟨u1, hu1, hf⟩ := ob_b hf
  refine iv_X10_99 (As := [.int x0, .int (0 : Int32), .int (5 : Int32)]) (rest := []) (is := []) (X' := []) Cx (c_X10_isWithin l D cI cJ cZ cO  x0 (0 : Int32) (5 : Int32) u1 hu1) hP hS rfl rfl rfl rfl rfl rfl hl.1 (Nat.le_of_ble_eq_true rfl) dX10_isHabit_3 rfl rfl ⟨Nat.le_of_ble_eq_true rfl, Nat.le_of_ble_eq_true rfl⟩ ⟨Nat.zero_le _, Nat.zero_le _⟩ rfl (fun H locs hP hS => ?_)
  obtain ⟨u2, hu2, hf⟩ := ob_b hf
  obtain ⟨hz1, hz2⟩ := oz_ok hu2
  obtain rfl := Option.some.inj hf
  exact ret _ _ _ _ _ hz1 hz2 dX10_isHabit_6 hP hS

def f_X10_takes (v_scene_seats : Int32) (v_scene_bear : Int32) (v_sitters_set : Int32) (v_sitters_bear : Int32) (v_sitters_nearest : Nat → Int32) (v_bench_apart : Nat → Int32) (v_scene_worths : Nat → Int32) (v_bench_neighbours : Nat → Int32) (x1 : Int32) (x2 : Int32) : Option (Int32 × Int32 × Int32 × (Nat → Int32)) :=
  (f_X10_isHabit x2).bind (fun u1 =>
  if u1 = 0 then
  some ((-2 : Int32), v_sitters_set, v_sitters_bear, v_sitters_nearest)
  else
  (f_X10_seatAll v_scene_seats v_scene_bear v_sitters_set v_sitters_bear v_sitters_nearest v_bench_apart x1).bind (fun u3 =>
  (if u3.1 = 0 then
  (f_X9_choice u3.2.2.1 v_scene_seats u3.2.2.2 v_scene_worths v_bench_neighbours x2).bind (fun u7 =>
  some (u7))
  else
  some (u3.1)).bind (fun w4 =>
  some (w4, u3.2.1, u3.2.2.1, u3.2.2.2))))
set_option maxHeartbeats 4000000 in
set_option maxRecDepth 100000 in
theorem c_X10_takes (l : Launch) (D : va_G) (cI cJ cZ cO : ClassId) (a_t a_pad a_scene a_images a_bench a_trial a_sitters a_trialSitters a_sets a_census a_match a_couples a_passing a_longRows a_scene_steps a_scene_worths a_scene_comers a_scene_seen a_scene_seenLengths a_sitters_nearest a_bench_apart a_bench_clash a_bench_neighbours : Nat) (v_scene_seats : Int32) (v_scene_bear : Int32) (v_scene_comerCount : Int32) (v_scene_seenRows : Int32) (v_sitters_set : Int32) (v_sitters_bear : Int32) (v_sitters_nearest : Nat → Int32) (v_bench_apart : Nat → Int32) (v_scene_worths : Nat → Int32) (v_bench_neighbours : Nat → Int32) (x1 : Int32) (x2 : Int32) (out : Int32 × Int32 × Int32 × (Nat → Int32)) (hf : f_X10_takes v_scene_seats v_scene_bear v_sitters_set v_sitters_bear v_sitters_nearest v_bench_apart v_scene_worths v_bench_neighbours x1 x2 = some out) : MetR l yX10_takes (Cond.code yX10_takes cX10_takes 4 (some .int) :: tbG) { frames := 4, cells := 0, slots := 0, locals := 87 } D (tyL cI cJ cZ cO) [.ref a_t, .int x1, .int x2] [(a_t, .inr (10, [.ref a_pad, .ref a_scene, .ref a_images, .ref a_bench, .ref a_trial, .ref a_sitters, .ref a_trialSitters, .ref a_sets, .ref a_census, .ref a_match, .ref a_couples, .ref a_passing, .ref a_longRows])), (a_scene, .inr (7, [.ref a_scene_steps, .ref a_scene_worths, .ref a_scene_comers, .ref a_scene_seen, .ref a_scene_seenLengths, .int v_scene_seats, .int v_scene_bear, .int v_scene_comerCount, .int v_scene_seenRows])), (a_sitters, .inr (9, [.ref a_bench, .ref a_sitters_nearest, .int v_sitters_set, .int v_sitters_bear])), (a_bench, .inr (0, [.ref a_scene, .ref a_bench_apart, .ref a_bench_clash, .ref a_bench_neighbours])), (a_sitters_nearest, eI cI 12 v_sitters_nearest), (a_bench_apart, eI cI 144 v_bench_apart), (a_scene_worths, eI cI 12 v_scene_worths), (a_bench_neighbours, eI cI 12 v_bench_neighbours)] (some (.int out.1)) [(a_t, .inr (10, [.ref a_pad, .ref a_scene, .ref a_images, .ref a_bench, .ref a_trial, .ref a_sitters, .ref a_trialSitters, .ref a_sets, .ref a_census, .ref a_match, .ref a_couples, .ref a_passing, .ref a_longRows])), (a_scene, .inr (7, [.ref a_scene_steps, .ref a_scene_worths, .ref a_scene_comers, .ref a_scene_seen, .ref a_scene_seenLengths, .int v_scene_seats, .int v_scene_bear, .int v_scene_comerCount, .int v_scene_seenRows])), (a_sitters, .inr (9, [.ref a_bench, .ref a_sitters_nearest, .int out.2.1, .int out.2.2.1])), (a_bench, .inr (0, [.ref a_scene, .ref a_bench_apart, .ref a_bench_clash, .ref a_bench_neighbours])), (a_sitters_nearest, eI cI 12 out.2.2.2), (a_bench_apart, eI cI 144 v_bench_apart), (a_scene_worths, eI cI 12 v_scene_worths), (a_bench_neighbours, eI cI 12 v_bench_neighbours)] := by
  refine ba_ofI RX10 [(0, .ref a_t), (1, .int x1), (2, .int x2)] (by decide +kernel) rfl (Nat.le_of_ble_eq_true rfl) rfl ?_
  intro p e s m args below meth c Q A Cx hP ret ls hl
  obtain ⟨⟨hx, hb, hml, hown, hts⟩, hK, hD, hA⟩ := id Cx
  have hS : va_S A s.heap s.heap [] := va_S.rf
  unfold f_X10_takes at hf
  refine lv_iload_n hx hb dX10_takes_0 rfl (lv_at hl 2 rfl) ?_
  obtain ⟨u1, hu1, hf⟩ := ob_b hf
  refine iv_X10_158 (As := [.int x2]) (rest := []) (is := []) (X' := [(a_t, .inr (10, [.ref a_pad, .ref a_scene, .ref a_images, .ref a_bench, .ref a_trial, .ref a_sitters, .ref a_trialSitters, .ref a_sets, .ref a_census, .ref a_match, .ref a_couples, .ref a_passing, .ref a_longRows])), (a_scene, .inr (7, [.ref a_scene_steps, .ref a_scene_worths, .ref a_scene_comers, .ref a_scene_seen, .ref a_scene_seenLengths, .int v_scene_seats, .int v_scene_bear, .int v_scene_comerCount, .int v_scene_seenRows])), (a_sitters, .inr (9, [.ref a_bench, .ref a_sitters_nearest, .int v_sitters_set, .int v_sitters_bear])), (a_bench, .inr (0, [.ref a_scene, .ref a_bench_apart, .ref a_bench_clash, .ref a_bench_neighbours])), (a_sitters_nearest, eI cI 12 v_sitters_nearest), (a_bench_apart, eI cI 144 v_bench_apart), (a_scene_worths, eI cI 12 v_scene_worths), (a_bench_neighbours, eI cI 12 v_bench_neighbours)]) Cx (c_X10_isHabit l D cI cJ cZ cO  x2 u1 hu1) hP hS rfl rfl rfl rfl rfl rfl hl.1 (Nat.le_of_ble_eq_true rfl) dX10_takes_1 rfl rfl ⟨Nat.le_of_ble_eq_true rfl, Nat.le_of_ble_eq_true rfl⟩ ⟨Nat.zero_le _, Nat.zero_le _⟩ rfl (fun H locs hP hS => ?_)
  refine lv_if_ne (tgt := 10) hx hb dX10_takes_4 (by decide) (fun c2 => ?_) (fun c2 => ?_)
  · have hf := ob_f c2 hf
    refine lv_aload_n hx hb dX10_takes_10 rfl (lv_at hl 0 rfl) ?_
    refine lv_iload_n hx hb dX10_takes_11 rfl (lv_at hl 1 rfl) ?_
    obtain ⟨u3, hu3, hf⟩ := ob_b hf
    refine iv_X10_151 (As := [.int x1]) (rest := []) (is := [0, 1, 2, 3, 4, 5]) (q0 := 0) (X' := [(a_t, .inr (10, [.ref a_pad, .ref a_scene, .ref a_images, .ref a_bench, .ref a_trial, .ref a_sitters, .ref a_trialSitters, .ref a_sets, .ref a_census, .ref a_match, .ref a_couples, .ref a_passing, .ref a_longRows])), (a_scene, .inr (7, [.ref a_scene_steps, .ref a_scene_worths, .ref a_scene_comers, .ref a_scene_seen, .ref a_scene_seenLengths, .int v_scene_seats, .int v_scene_bear, .int v_scene_comerCount, .int v_scene_seenRows])), (a_sitters, .inr (9, [.ref a_bench, .ref a_sitters_nearest, .int u3.2.1, .int u3.2.2.1])), (a_bench, .inr (0, [.ref a_scene, .ref a_bench_apart, .ref a_bench_clash, .ref a_bench_neighbours])), (a_sitters_nearest, eI cI 12 u3.2.2.2), (a_bench_apart, eI cI 144 v_bench_apart), (a_scene_worths, eI cI 12 v_scene_worths), (a_bench_neighbours, eI cI 12 v_bench_neighbours)]) Cx (c_X10_seatAll l D cI cJ cZ cO a_t a_pad a_scene a_images a_bench a_trial a_sitters a_trialSitters a_sets a_census a_match a_couples a_passing a_longRows a_scene_steps a_scene_worths a_scene_comers a_scene_seen a_scene_seenLengths a_sitters_nearest a_bench_apart a_bench_clash a_bench_neighbours v_scene_seats v_scene_bear v_scene_comerCount v_scene_seenRows v_sitters_set v_sitters_bear v_sitters_nearest v_bench_apart x1 u3 hu3) hP hS rfl rfl rfl rfl rfl rfl rfl hl.1 (Nat.le_of_ble_eq_true rfl) dX10_takes_12 rfl rfl ⟨Nat.le_of_ble_eq_true rfl, Nat.le_of_ble_eq_true rfl⟩ ⟨Nat.zero_le _, Nat.zero_le _⟩ rfl (fun H locs hP hS => ?_)
    refine lv_istore_n (lv' := [(3, .int u3.1), (0, .ref a_t), (1, .int x1), (2, .int x2)]) hx hb dX10_takes_15 rfl hl (by decide) rfl (fun ls hl => ?_)
    refine lv_iload_n hx hb dX10_takes_16 rfl (lv_at hl 0 rfl) ?_
    refine ob_J (P := fun w4 => ∀ (H : Heap) (locs : List Loc) (ls : Array Slot), va_P D vwCl [(a_t, .inr (10, [.ref a_pad, .ref a_scene, .ref a_images, .ref a_bench, .ref a_trial, .ref a_sitters, .ref a_trialSitters, .ref a_sets, .ref a_census, .ref a_match, .ref a_couples, .ref a_passing, .ref a_longRows])), (a_scene, .inr (7, [.ref a_scene_steps, .ref a_scene_worths, .ref a_scene_comers, .ref a_scene_seen, .ref a_scene_seenLengths, .int v_scene_seats, .int v_scene_bear, .int v_scene_comerCount, .int v_scene_seenRows])), (a_sitters, .inr (9, [.ref a_bench, .ref a_sitters_nearest, .int u3.2.1, .int u3.2.2.1])), (a_bench, .inr (0, [.ref a_scene, .ref a_bench_apart, .ref a_bench_clash, .ref a_bench_neighbours])), (a_sitters_nearest, eI cI 12 u3.2.2.2), (a_bench_apart, eI cI 144 v_bench_apart), (a_scene_worths, eI cI 12 v_scene_worths), (a_bench_neighbours, eI cI 12 v_bench_neighbours)] H → va_S A s.heap H locs → lv_has ls 4 [] → W p l e { frames := 4, cells := 0, slots := 0, locals := 87 } s m args below meth c H locs 0 0 Q (F0 m 32 ls [.int w4])) hf ?_ ?_
    · intro w4 hf H locs ls hP hS hl
      obtain rfl := Option.some.inj hf
      exact ret _ _ _ _ dX10_takes_32 hP hS
    · intro J32_5 hf
      refine lv_if_eq (tgt := 24) hx hb dX10_takes_17 (by decide) (fun c6 => ?_) (fun c6 => ?_)
      · have hf := ob_tk c6 hf
        refine lv_aload_n hx hb dX10_takes_24 rfl (lv_at hl 1 rfl) ?_
        refine gf_X10_44 Cx hP 0 rfl rfl dX10_takes_25 ?_
        refine lv_iload_n hx hb dX10_takes_28 rfl (lv_at hl 3 rfl) ?_
        obtain ⟨u7, hu7, hf⟩ := ob_bk hf
        refine iv_X10_161 (As := [.int x2]) (rest := []) (is := [2, 3, 1, 4, 6, 7]) (q0 := 2) (X' := [(a_t, .inr (10, [.ref a_pad, .ref a_scene, .ref a_images, .ref a_bench, .ref a_trial, .ref a_sitters, .ref a_trialSitters, .ref a_sets, .ref a_census, .ref a_match, .ref a_couples, .ref a_passing, .ref a_longRows])), (a_scene, .inr (7, [.ref a_scene_steps, .ref a_scene_worths, .ref a_scene_comers, .ref a_scene_seen, .ref a_scene_seenLengths, .int v_scene_seats, .int v_scene_bear, .int v_scene_comerCount, .int v_scene_seenRows])), (a_sitters, .inr (9, [.ref a_bench, .ref a_sitters_nearest, .int u3.2.1, .int u3.2.2.1])), (a_bench, .inr (0, [.ref a_scene, .ref a_bench_apart, .ref a_bench_clash, .ref a_bench_neighbours])), (a_sitters_nearest, eI cI 12 u3.2.2.2), (a_bench_apart, eI cI 144 v_bench_apart), (a_scene_worths, eI cI 12 v_scene_worths), (a_bench_neighbours, eI cI 12 v_bench_neighbours)]) Cx (c_X9_choice l D cI cJ cZ cO a_sitters a_bench a_sitters_nearest a_scene a_bench_apart a_bench_clash a_bench_neighbours a_scene_steps a_scene_worths a_scene_comers a_scene_seen a_scene_seenLengths u3.2.1 u3.2.2.1 v_scene_seats v_scene_bear v_scene_comerCount v_scene_seenRows u3.2.2.2 v_scene_worths v_bench_neighbours x2 u7 hu7) hP hS rfl rfl rfl rfl rfl rfl rfl hl.1 (Nat.le_of_ble_eq_true rfl) dX10_takes_29 rfl rfl ⟨Nat.le_of_ble_eq_true rfl, Nat.le_of_ble_eq_true rfl⟩ ⟨Nat.zero_le _, Nat.zero_le _⟩ rfl (fun H locs hP hS => ?_)
        exact J32_5 u7 hf _ _ _ hP hS (lv_sub hl [] rfl)
      · have hf := ob_fk c6 hf
        refine lv_iload_n hx hb dX10_takes_20 rfl (lv_at hl 0 rfl) ?_
        refine lv_goto (tgt := 32) hx hb dX10_takes_21 (by decide) ?_
        exact J32_5 u3.1 hf _ _ _ hP hS (lv_sub hl [] rfl)
  · have hf := ob_t c2 hf
    refine lv_bipush (v := (-2)) hx hb dX10_takes_7 (by decide) ?_
    obtain rfl := Option.some.inj hf
    exact ret _ _ _ _ dX10_takes_9 hP hS

def f_X10_fill (v_scene_seats : Int32) (v_scene_bear : Int32) (v_sitters_set : Int32) (v_sitters_bear : Int32) (v_sitters_nearest : Nat → Int32) (v_bench_apart : Nat → Int32) (v_scene_worths : Nat → Int32) (v_bench_neighbours : Nat → Int32) (x1 : Int32) (x2 : Int32) : Option (Int32 × Int32 × Int32 × (Nat → Int32)) :=
  (f_X10_isHabit x2).bind (fun u1 =>
  if u1 = 0 then
  some ((-2 : Int32), v_sitters_set, v_sitters_bear, v_sitters_nearest)
  else
  (f_X10_seatAll v_scene_seats v_scene_bear v_sitters_set v_sitters_bear v_sitters_nearest v_bench_apart x1).bind (fun u3 =>
  if u3.1 = 0 then
  (f_X9_fillUp u3.2.1 u3.2.2.1 v_scene_seats u3.2.2.2 v_scene_worths v_bench_neighbours v_bench_apart x2).bind (fun u5 =>
  some (u5.1, u5.1, u3.2.2.1, u5.2))
  else
  some (u3.1, u3.2.1, u3.2.2.1, u3.2.2.2)))
set_option maxHeartbeats 4000000 in
set_option maxRecDepth 100000 in
theorem c_X10_fill (l : Launch) (D : va_G) (cI cJ cZ cO : ClassId) (a_t a_pad a_scene a_images a_bench a_trial a_sitters a_trialSitters a_sets a_census a_match a_couples a_passing a_longRows a_scene_steps a_scene_worths a_scene_comers a_scene_seen a_scene_seenLengths a_sitters_nearest a_bench_apart a_bench_clash a_bench_neighbours : Nat) (v_scene_seats : Int32) (v_scene_bear : Int32) (v_scene_comerCount : Int32) (v_scene_seenRows : Int32) (v_sitters_set : Int32) (v_sitters_bear : Int32) (v_sitters_nearest : Nat → Int32) (v_bench_apart : Nat → Int32) (v_scene_worths : Nat → Int32) (v_bench_neighbours : Nat → Int32) (x1 : Int32) (x2 : Int32) (out : Int32 × Int32 × Int32 × (Nat → Int32)) (hf : f_X10_fill v_scene_seats v_scene_bear v_sitters_set v_sitters_bear v_sitters_nearest v_bench_apart v_scene_worths v_bench_neighbours x1 x2 = some out) : MetR l yX10_fill (Cond.code yX10_fill cX10_fill 4 (some .int) :: tbG) { frames := 4, cells := 0, slots := 0, locals := 87 } D (tyL cI cJ cZ cO) [.ref a_t, .int x1, .int x2] [(a_t, .inr (10, [.ref a_pad, .ref a_scene, .ref a_images, .ref a_bench, .ref a_trial, .ref a_sitters, .ref a_trialSitters, .ref a_sets, .ref a_census, .ref a_match, .ref a_couples, .ref a_passing, .ref a_longRows])), (a_scene, .inr (7, [.ref a_scene_steps, .ref a_scene_worths, .ref a_scene_comers, .ref a_scene_seen, .ref a_scene_seenLengths, .int v_scene_seats, .int v_scene_bear, .int v_scene_comerCount, .int v_scene_seenRows])), (a_sitters, .inr (9, [.ref a_bench, .ref a_sitters_nearest, .int v_sitters_set, .int v_sitters_bear])), (a_bench, .inr (0, [.ref a_scene, .ref a_bench_apart, .ref a_bench_clash, .ref a_bench_neighbours])), (a_sitters_nearest, eI cI 12 v_sitters_nearest), (a_bench_apart, eI cI 144 v_bench_apart), (a_scene_worths, eI cI 12 v_scene_worths), (a_bench_neighbours, eI cI 12 v_bench_neighbours)] (some (.int out.1)) [(a_t, .inr (10, [.ref a_pad, .ref a_scene, .ref a_images, .ref a_bench, .ref a_trial, .ref a_sitters, .ref a_trialSitters, .ref a_sets, .ref a_census, .ref a_match, .ref a_couples, .ref a_passing, .ref a_longRows])), (a_scene, .inr (7, [.ref a_scene_steps, .ref a_scene_worths, .ref a_scene_comers, .ref a_scene_seen, .ref a_scene_seenLengths, .int v_scene_seats, .int v_scene_bear, .int v_scene_comerCount, .int v_scene_seenRows])), (a_sitters, .inr (9, [.ref a_bench, .ref a_sitters_nearest, .int out.2.1, .int out.2.2.1])), (a_bench, .inr (0, [.ref a_scene, .ref a_bench_apart, .ref a_bench_clash, .ref a_bench_neighbours])), (a_sitters_nearest, eI cI 12 out.2.2.2), (a_bench_apart, eI cI 144 v_bench_apart), (a_scene_worths, eI cI 12 v_scene_worths), (a_bench_neighbours, eI cI 12 v_bench_neighbours)] := by
  refine ba_ofI RX10 [(0, .ref a_t), (1, .int x1), (2, .int x2)] (by decide +kernel) rfl (Nat.le_of_ble_eq_true rfl) rfl ?_
  intro p e s m args below meth c Q A Cx hP ret ls hl
  obtain ⟨⟨hx, hb, hml, hown, hts⟩, hK, hD, hA⟩ := id Cx
  have hS : va_S A s.heap s.heap [] := va_S.rf
  unfold f_X10_fill at hf
  refine lv_iload_n hx hb dX10_fill_0 rfl (lv_at hl 2 rfl) ?_
  obtain ⟨u1, hu1, hf⟩ := ob_b hf
  refine iv_X10_158 (As := [.int x2]) (rest := []) (is := []) (X' := [(a_t, .inr (10, [.ref a_pad, .ref a_scene, .ref a_images, .ref a_bench, .ref a_trial, .ref a_sitters, .ref a_trialSitters, .ref a_sets, .ref a_census, .ref a_match, .ref a_couples, .ref a_passing, .ref a_longRows])), (a_scene, .inr (7, [.ref a_scene_steps, .ref a_scene_worths, .ref a_scene_comers, .ref a_scene_seen, .ref a_scene_seenLengths, .int v_scene_seats, .int v_scene_bear, .int v_scene_comerCount, .int v_scene_seenRows])), (a_sitters, .inr (9, [.ref a_bench, .ref a_sitters_nearest, .int v_sitters_set, .int v_sitters_bear])), (a_bench, .inr (0, [.ref a_scene, .ref a_bench_apart, .ref a_bench_clash, .ref a_bench_neighbours])), (a_sitters_nearest, eI cI 12 v_sitters_nearest), (a_bench_apart, eI cI 144 v_bench_apart), (a_scene_worths, eI cI 12 v_scene_worths), (a_bench_neighbours, eI cI 12 v_bench_neighbours)]) Cx (c_X10_isHabit l D cI cJ cZ cO  x2 u1 hu1) hP hS rfl rfl rfl rfl rfl rfl hl.1 (Nat.le_of_ble_eq_true rfl) dX10_fill_1 rfl rfl ⟨Nat.le_of_ble_eq_true rfl, Nat.le_of_ble_eq_true rfl⟩ ⟨Nat.zero_le _, Nat.zero_le _⟩ rfl (fun H locs hP hS => ?_)
  refine lv_if_ne (tgt := 10) hx hb dX10_fill_4 (by decide) (fun c2 => ?_) (fun c2 => ?_)
  · have hf := ob_f c2 hf
    refine lv_aload_n hx hb dX10_fill_10 rfl (lv_at hl 0 rfl) ?_
    refine lv_iload_n hx hb dX10_fill_11 rfl (lv_at hl 1 rfl) ?_
    obtain ⟨u3, hu3, hf⟩ := ob_b hf
    refine iv_X10_151 (As := [.int x1]) (rest := []) (is := [0, 1, 2, 3, 4, 5]) (q0 := 0) (X' := [(a_t, .inr (10, [.ref a_pad, .ref a_scene, .ref a_images, .ref a_bench, .ref a_trial, .ref a_sitters, .ref a_trialSitters, .ref a_sets, .ref a_census, .ref a_match, .ref a_couples, .ref a_passing, .ref a_longRows])), (a_scene, .inr (7, [.ref a_scene_steps, .ref a_scene_worths, .ref a_scene_comers, .ref a_scene_seen, .ref a_scene_seenLengths, .int v_scene_seats, .int v_scene_bear, .int v_scene_comerCount, .int v_scene_seenRows])), (a_sitters, .inr (9, [.ref a_bench, .ref a_sitters_nearest, .int u3.2.1, .int u3.2.2.1])), (a_bench, .inr (0, [.ref a_scene, .ref a_bench_apart, .ref a_bench_clash, .ref a_bench_neighbours])), (a_sitters_nearest, eI cI 12 u3.2.2.2), (a_bench_apart, eI cI 144 v_bench_apart), (a_scene_worths, eI cI 12 v_scene_worths), (a_bench_neighbours, eI cI 12 v_bench_neighbours)]) Cx (c_X10_seatAll l D cI cJ cZ cO a_t a_pad a_scene a_images a_bench a_trial a_sitters a_trialSitters a_sets a_census a_match a_couples a_passing a_longRows a_scene_steps a_scene_worths a_scene_comers a_scene_seen a_scene_seenLengths a_sitters_nearest a_bench_apart a_bench_clash a_bench_neighbours v_scene_seats v_scene_bear v_scene_comerCount v_scene_seenRows v_sitters_set v_sitters_bear v_sitters_nearest v_bench_apart x1 u3 hu3) hP hS rfl rfl rfl rfl rfl rfl rfl hl.1 (Nat.le_of_ble_eq_true rfl) dX10_fill_12 rfl rfl ⟨Nat.le_of_ble_eq_true rfl, Nat.le_of_ble_eq_true rfl⟩ ⟨Nat.zero_le _, Nat.zero_le _⟩ rfl (fun H locs hP hS => ?_)
    refine lv_istore_n (lv' := [(3, .int u3.1), (0, .ref a_t), (1, .int x1), (2, .int x2)]) hx hb dX10_fill_15 rfl hl (by decide) rfl (fun ls hl => ?_)
    refine lv_iload_n hx hb dX10_fill_16 rfl (lv_at hl 0 rfl) ?_
    refine lv_if_eq (tgt := 22) hx hb dX10_fill_17 (by decide) (fun c4 => ?_) (fun c4 => ?_)
    · have hf := ob_t c4 hf
      refine lv_aload_n hx hb dX10_fill_22 rfl (lv_at hl 1 rfl) ?_
      refine gf_X10_44 Cx hP 0 rfl rfl dX10_fill_23 ?_
      refine lv_iload_n hx hb dX10_fill_26 rfl (lv_at hl 3 rfl) ?_
      obtain ⟨u5, hu5, hf⟩ := ob_b hf
      refine iv_X10_164 (As := [.int x2]) (rest := []) (is := [2, 3, 1, 4, 6, 7, 5]) (q0 := 2) (X' := [(a_t, .inr (10, [.ref a_pad, .ref a_scene, .ref a_images, .ref a_bench, .ref a_trial, .ref a_sitters, .ref a_trialSitters, .ref a_sets, .ref a_census, .ref a_match, .ref a_couples, .ref a_passing, .ref a_longRows])), (a_scene, .inr (7, [.ref a_scene_steps, .ref a_scene_worths, .ref a_scene_comers, .ref a_scene_seen, .ref a_scene_seenLengths, .int v_scene_seats, .int v_scene_bear, .int v_scene_comerCount, .int v_scene_seenRows])), (a_sitters, .inr (9, [.ref a_bench, .ref a_sitters_nearest, .int u5.1, .int u3.2.2.1])), (a_bench, .inr (0, [.ref a_scene, .ref a_bench_apart, .ref a_bench_clash, .ref a_bench_neighbours])), (a_sitters_nearest, eI cI 12 u5.2), (a_bench_apart, eI cI 144 v_bench_apart), (a_scene_worths, eI cI 12 v_scene_worths), (a_bench_neighbours, eI cI 12 v_bench_neighbours)]) Cx (c_X9_fillUp l D cI cJ cZ cO a_sitters a_bench a_sitters_nearest a_scene a_bench_apart a_bench_clash a_bench_neighbours a_scene_steps a_scene_worths a_scene_comers a_scene_seen a_scene_seenLengths u3.2.1 u3.2.2.1 v_scene_seats v_scene_bear v_scene_comerCount v_scene_seenRows u3.2.2.2 v_scene_worths v_bench_neighbours v_bench_apart x2 u5 hu5) hP hS rfl rfl rfl rfl rfl rfl rfl hl.1 (Nat.le_of_ble_eq_true rfl) dX10_fill_27 rfl rfl ⟨Nat.le_of_ble_eq_true rfl, Nat.le_of_ble_eq_true rfl⟩ ⟨Nat.zero_le _, Nat.zero_le _⟩ rfl (fun H locs hP hS => ?_)
      refine lv_aload_n hx hb dX10_fill_30 rfl (lv_at hl 1 rfl) ?_
      refine gf_X10_44 Cx hP 0 rfl rfl dX10_fill_31 ?_
      refine gf_X10_167 Cx hP 2 rfl rfl dX10_fill_34 ?_
      obtain rfl := Option.some.inj hf
      exact ret _ _ _ _ dX10_fill_37 hP hS
    · have hf := ob_f c4 hf
      refine lv_iload_n hx hb dX10_fill_20 rfl (lv_at hl 0 rfl) ?_
      obtain rfl := Option.some.inj hf
      exact ret _ _ _ _ dX10_fill_21 hP hS
  · have hf := ob_t c2 hf
    refine lv_bipush (v := (-2)) hx hb dX10_fill_7 (by decide) ?_
    obtain rfl := Option.some.inj hf
    exact ret _ _ _ _ dX10_fill_9 hP hS

def f_X10_whole (v_census_least : Int32) (v_census_most : Int32) (v_census_known : Int32) (v_scene_seats : Int32) (v_sets_size : Int32) (v_sets_places : Int32) (v_sets_filled : Nat → Int32) (v_sets_open : Nat → Int32) (v_bench_clash : Nat → Int32) (v_sets_chance : Nat → Int32) (v_census_wholeSets : Nat → Int32) (v_census_orders : Nat → Int64) (x1 : Int32) : Option (Int32 × Int32 × Int32 × Int32 × Int32 × Int32 × (Nat → Int32) × (Nat → Int32) × (Nat → Int32) × (Nat → Int32) × (Nat → Int64)) :=
  (f_X10_isWithin x1 (0 : Int32) (3 : Int32)).bind (fun u1 =>
  if u1 = 0 then
  some ((-2 : Int32), v_census_least, v_census_most, v_census_known, v_sets_size, v_sets_places, v_sets_filled, v_sets_open, v_sets_chance, v_census_wholeSets, v_census_orders)
  else
  (f_X1_take v_census_least v_census_most v_census_known v_scene_seats v_sets_size v_sets_places v_sets_filled v_sets_open v_bench_clash v_sets_chance v_census_wholeSets v_census_orders).bind (fun u3 =>
  (if x1 = 0 then
  some (u3.1)
  else
  if x1 = (2 : Int32) then
  some (u3.1)
  else
  some (u3.2.1)).bind (fun w4 =>
  (if (2 : Int32) ≤ x1 then
  (f_J6_bitCount_0f7a4 w4).bind (fun u9 =>
  some (u9))
  else
  some (w4)).bind (fun w6 =>
  some (w6, u3.1, u3.2.1, u3.2.2.1, u3.2.2.2.1, u3.2.2.2.2.1, u3.2.2.2.2.2.1, u3.2.2.2.2.2.2.1, u3.2.2.2.2.2.2.2.1, u3.2.2.2.2.2.2.2.2.1, u3.2.2.2.2.2.2.2.2.2)))))
set_option maxHeartbeats 4000000 in
set_option maxRecDepth 100000 in
theorem c_X10_whole (l : Launch) (D : va_G) (cI cJ cZ cO : ClassId) (a_t a_pad a_scene a_images a_bench a_trial a_sitters a_trialSitters a_sets a_census a_match a_couples a_passing a_longRows a_census_wholeSets a_census_orders a_bench_apart a_bench_clash a_bench_neighbours a_scene_steps a_scene_worths a_scene_comers a_scene_seen a_scene_seenLengths a_sets_filled a_sets_open a_sets_chance : Nat) (v_census_least : Int32) (v_census_most : Int32) (v_census_known : Int32) (v_scene_seats : Int32) (v_scene_bear : Int32) (v_scene_comerCount : Int32) (v_scene_seenRows : Int32) (v_sets_size : Int32) (v_sets_places : Int32) (v_sets_filled : Nat → Int32) (v_sets_open : Nat → Int32) (v_bench_clash : Nat → Int32) (v_sets_chance : Nat → Int32) (v_census_wholeSets : Nat → Int32) (v_census_orders : Nat → Int64) (x1 : Int32) (out : Int32 × Int32 × Int32 × Int32 × Int32 × Int32 × (Nat → Int32) × (Nat → Int32) × (Nat → Int32) × (Nat → Int32) × (Nat → Int64)) (hf : f_X10_whole v_census_least v_census_most v_census_known v_scene_seats v_sets_size v_sets_places v_sets_filled v_sets_open v_bench_clash v_sets_chance v_census_wholeSets v_census_orders x1 = some out) : MetR l yX10_whole (Cond.code yX10_whole cX10_whole 3 (some .int) :: tbG) { frames := 3, cells := 0, slots := 0, locals := 67 } D (tyL cI cJ cZ cO) [.ref a_t, .int x1] [(a_t, .inr (10, [.ref a_pad, .ref a_scene, .ref a_images, .ref a_bench, .ref a_trial, .ref a_sitters, .ref a_trialSitters, .ref a_sets, .ref a_census, .ref a_match, .ref a_couples, .ref a_passing, .ref a_longRows])), (a_census, .inr (1, [.ref a_census_wholeSets, .ref a_census_orders, .int v_census_least, .int v_census_most, .int v_census_known])), (a_bench, .inr (0, [.ref a_scene, .ref a_bench_apart, .ref a_bench_clash, .ref a_bench_neighbours])), (a_scene, .inr (7, [.ref a_scene_steps, .ref a_scene_worths, .ref a_scene_comers, .ref a_scene_seen, .ref a_scene_seenLengths, .int v_scene_seats, .int v_scene_bear, .int v_scene_comerCount, .int v_scene_seenRows])), (a_sets, .inr (8, [.ref a_sets_filled, .ref a_sets_open, .ref a_sets_chance, .int v_sets_size, .int v_sets_places])), (a_sets_filled, eI cI 4096 v_sets_filled), (a_sets_open, eI cI 4096 v_sets_open), (a_bench_clash, eI cI 12 v_bench_clash), (a_sets_chance, eI cI 4096 v_sets_chance), (a_census_wholeSets, eI cI 13 v_census_wholeSets), (a_census_orders, eJ cJ 13 v_census_orders)] (some (.int out.1)) [(a_t, .inr (10, [.ref a_pad, .ref a_scene, .ref a_images, .ref a_bench, .ref a_trial, .ref a_sitters, .ref a_trialSitters, .ref a_sets, .ref a_census, .ref a_match, .ref a_couples, .ref a_passing, .ref a_longRows])), (a_census, .inr (1, [.ref a_census_wholeSets, .ref a_census_orders, .int out.2.1, .int out.2.2.1, .int out.2.2.2.1])), (a_bench, .inr (0, [.ref a_scene, .ref a_bench_apart, .ref a_bench_clash, .ref a_bench_neighbours])), (a_scene, .inr (7, [.ref a_scene_steps, .ref a_scene_worths, .ref a_scene_comers, .ref a_scene_seen, .ref a_scene_seenLengths, .int v_scene_seats, .int v_scene_bear, .int v_scene_comerCount, .int v_scene_seenRows])), (a_sets, .inr (8, [.ref a_sets_filled, .ref a_sets_open, .ref a_sets_chance, .int out.2.2.2.2.1, .int out.2.2.2.2.2.1])), (a_sets_filled, eI cI 4096 out.2.2.2.2.2.2.1), (a_sets_open, eI cI 4096 out.2.2.2.2.2.2.2.1), (a_bench_clash, eI cI 12 v_bench_clash), (a_sets_chance, eI cI 4096 out.2.2.2.2.2.2.2.2.1), (a_census_wholeSets, eI cI 13 out.2.2.2.2.2.2.2.2.2.1), (a_census_orders, eJ cJ 13 out.2.2.2.2.2.2.2.2.2.2)] := by
  refine ba_ofI RX10 [(0, .ref a_t), (1, .int x1)] (by decide +kernel) rfl (Nat.le_of_ble_eq_true rfl) rfl ?_
  intro p e s m args below meth c Q A Cx hP ret ls hl
  obtain ⟨⟨hx, hb, hml, hown, hts⟩, hK, hD, hA⟩ := id Cx
  have hS : va_S A s.heap s.heap [] := va_S.rf
  unfold f_X10_whole at hf
  refine lv_iload_n hx hb dX10_whole_0 rfl (lv_at hl 1 rfl) ?_
  refine lv_iconst (v := 0) hx hb dX10_whole_1 (by decide) ?_
  refine lv_iconst (v := 3) hx hb dX10_whole_2 (by decide) ?_
  obtain ⟨u1, hu1, hf⟩ := ob_b hf
  refine iv_X10_99 (As := [.int x1, .int (0 : Int32), .int (3 : Int32)]) (rest := []) (is := []) (X' := [(a_t, .inr (10, [.ref a_pad, .ref a_scene, .ref a_images, .ref a_bench, .ref a_trial, .ref a_sitters, .ref a_trialSitters, .ref a_sets, .ref a_census, .ref a_match, .ref a_couples, .ref a_passing, .ref a_longRows])), (a_census, .inr (1, [.ref a_census_wholeSets, .ref a_census_orders, .int v_census_least, .int v_census_most, .int v_census_known])), (a_bench, .inr (0, [.ref a_scene, .ref a_bench_apart, .ref a_bench_clash, .ref a_bench_neighbours])), (a_scene, .inr (7, [.ref a_scene_steps, .ref a_scene_worths, .ref a_scene_comers, .ref a_scene_seen, .ref a_scene_seenLengths, .int v_scene_seats, .int v_scene_bear, .int v_scene_comerCount, .int v_scene_seenRows])), (a_sets, .inr (8, [.ref a_sets_filled, .ref a_sets_open, .ref a_sets_chance, .int v_sets_size, .int v_sets_places])), (a_sets_filled, eI cI 4096 v_sets_filled), (a_sets_open, eI cI 4096 v_sets_open), (a_bench_clash, eI cI 12 v_bench_clash), (a_sets_chance, eI cI 4096 v_sets_chance), (a_census_wholeSets, eI cI 13 v_census_wholeSets), (a_census_orders, eJ cJ 13 v_census_orders)]) Cx (c_X10_isWithin l D cI cJ cZ cO  x1 (0 : Int32) (3 : Int32) u1 hu1) hP hS rfl rfl rfl rfl rfl rfl hl.1 (Nat.le_of_ble_eq_true rfl) dX10_whole_3 rfl rfl ⟨Nat.le_of_ble_eq_true rfl, Nat.le_of_ble_eq_true rfl⟩ ⟨Nat.zero_le _, Nat.zero_le _⟩ rfl (fun H locs hP hS => ?_)
  refine lv_if_ne (tgt := 12) hx hb dX10_whole_6 (by decide) (fun c2 => ?_) (fun c2 => ?_)
  · have hf := ob_f c2 hf
    refine lv_aload_n hx hb dX10_whole_12 rfl (lv_at hl 0 rfl) ?_
    refine gf_X10_61 Cx hP 0 rfl rfl dX10_whole_13 ?_
    refine lv_aload_n hx hb dX10_whole_16 rfl (lv_at hl 0 rfl) ?_
    refine gf_X10_32 Cx hP 0 rfl rfl dX10_whole_17 ?_
    refine lv_aload_n hx hb dX10_whole_20 rfl (lv_at hl 0 rfl) ?_
    refine gf_X10_54 Cx hP 0 rfl rfl dX10_whole_21 ?_
    obtain ⟨u3, hu3, hf⟩ := ob_b hf
    refine iv_X10_170 (As := [.ref a_bench, .ref a_sets]) (rest := []) (is := [1, 2, 3, 4, 5, 6, 7, 8, 9, 10]) (q0 := 1) (X' := [(a_t, .inr (10, [.ref a_pad, .ref a_scene, .ref a_images, .ref a_bench, .ref a_trial, .ref a_sitters, .ref a_trialSitters, .ref a_sets, .ref a_census, .ref a_match, .ref a_couples, .ref a_passing, .ref a_longRows])), (a_census, .inr (1, [.ref a_census_wholeSets, .ref a_census_orders, .int u3.1, .int u3.2.1, .int u3.2.2.1])), (a_bench, .inr (0, [.ref a_scene, .ref a_bench_apart, .ref a_bench_clash, .ref a_bench_neighbours])), (a_scene, .inr (7, [.ref a_scene_steps, .ref a_scene_worths, .ref a_scene_comers, .ref a_scene_seen, .ref a_scene_seenLengths, .int v_scene_seats, .int v_scene_bear, .int v_scene_comerCount, .int v_scene_seenRows])), (a_sets, .inr (8, [.ref a_sets_filled, .ref a_sets_open, .ref a_sets_chance, .int u3.2.2.2.1, .int u3.2.2.2.2.1])), (a_sets_filled, eI cI 4096 u3.2.2.2.2.2.1), (a_sets_open, eI cI 4096 u3.2.2.2.2.2.2.1), (a_bench_clash, eI cI 12 v_bench_clash), (a_sets_chance, eI cI 4096 u3.2.2.2.2.2.2.2.1), (a_census_wholeSets, eI cI 13 u3.2.2.2.2.2.2.2.2.1), (a_census_orders, eJ cJ 13 u3.2.2.2.2.2.2.2.2.2)]) Cx (c_X1_take l D cI cJ cZ cO a_census a_census_wholeSets a_census_orders a_bench a_scene a_bench_apart a_bench_clash a_bench_neighbours a_scene_steps a_scene_worths a_scene_comers a_scene_seen a_scene_seenLengths a_sets a_sets_filled a_sets_open a_sets_chance v_census_least v_census_most v_census_known v_scene_seats v_scene_bear v_scene_comerCount v_scene_seenRows v_sets_size v_sets_places v_sets_filled v_sets_open v_bench_clash v_sets_chance v_census_wholeSets v_census_orders u3 hu3) hP hS rfl rfl rfl rfl rfl rfl rfl hl.1 (Nat.le_of_ble_eq_true rfl) dX10_whole_24 rfl rfl ⟨Nat.le_of_ble_eq_true rfl, Nat.le_of_ble_eq_true rfl⟩ ⟨Nat.zero_le _, Nat.zero_le _⟩ rfl (fun H locs hP hS => ?_)
    refine lv_iload_n hx hb dX10_whole_27 rfl (lv_at hl 1 rfl) ?_
    refine ob_J (P := fun w4 => ∀ (H : Heap) (locs : List Loc) (ls : Array Slot), va_P D vwCl [(a_t, .inr (10, [.ref a_pad, .ref a_scene, .ref a_images, .ref a_bench, .ref a_trial, .ref a_sitters, .ref a_trialSitters, .ref a_sets, .ref a_census, .ref a_match, .ref a_couples, .ref a_passing, .ref a_longRows])), (a_census, .inr (1, [.ref a_census_wholeSets, .ref a_census_orders, .int u3.1, .int u3.2.1, .int u3.2.2.1])), (a_bench, .inr (0, [.ref a_scene, .ref a_bench_apart, .ref a_bench_clash, .ref a_bench_neighbours])), (a_scene, .inr (7, [.ref a_scene_steps, .ref a_scene_worths, .ref a_scene_comers, .ref a_scene_seen, .ref a_scene_seenLengths, .int v_scene_seats, .int v_scene_bear, .int v_scene_comerCount, .int v_scene_seenRows])), (a_sets, .inr (8, [.ref a_sets_filled, .ref a_sets_open, .ref a_sets_chance, .int u3.2.2.2.1, .int u3.2.2.2.2.1])), (a_sets_filled, eI cI 4096 u3.2.2.2.2.2.1), (a_sets_open, eI cI 4096 u3.2.2.2.2.2.2.1), (a_bench_clash, eI cI 12 v_bench_clash), (a_sets_chance, eI cI 4096 u3.2.2.2.2.2.2.2.1), (a_census_wholeSets, eI cI 13 u3.2.2.2.2.2.2.2.2.1), (a_census_orders, eJ cJ 13 u3.2.2.2.2.2.2.2.2.2)] H → va_S A s.heap H locs → lv_has ls 3 [(1, .int x1)] → W p l e { frames := 3, cells := 0, slots := 0, locals := 67 } s m args below meth c H locs 0 0 Q (F0 m 53 ls [.int w4])) hf ?_ ?_
    · intro w4 hf H locs ls hP hS hl
      refine lv_istore_n (lv' := [(2, .int w4), (1, .int x1)]) hx hb dX10_whole_53 rfl hl (by decide) rfl (fun ls hl => ?_)
      refine lv_iload_n hx hb dX10_whole_54 rfl (lv_at hl 1 rfl) ?_
      refine lv_iconst (v := 2) hx hb dX10_whole_55 (by decide) ?_
      refine ob_J (P := fun w6 => ∀ (H : Heap) (locs : List Loc) (ls : Array Slot), va_P D vwCl [(a_t, .inr (10, [.ref a_pad, .ref a_scene, .ref a_images, .ref a_bench, .ref a_trial, .ref a_sitters, .ref a_trialSitters, .ref a_sets, .ref a_census, .ref a_match, .ref a_couples, .ref a_passing, .ref a_longRows])), (a_census, .inr (1, [.ref a_census_wholeSets, .ref a_census_orders, .int u3.1, .int u3.2.1, .int u3.2.2.1])), (a_bench, .inr (0, [.ref a_scene, .ref a_bench_apart, .ref a_bench_clash, .ref a_bench_neighbours])), (a_scene, .inr (7, [.ref a_scene_steps, .ref a_scene_worths, .ref a_scene_comers, .ref a_scene_seen, .ref a_scene_seenLengths, .int v_scene_seats, .int v_scene_bear, .int v_scene_comerCount, .int v_scene_seenRows])), (a_sets, .inr (8, [.ref a_sets_filled, .ref a_sets_open, .ref a_sets_chance, .int u3.2.2.2.1, .int u3.2.2.2.2.1])), (a_sets_filled, eI cI 4096 u3.2.2.2.2.2.1), (a_sets_open, eI cI 4096 u3.2.2.2.2.2.2.1), (a_bench_clash, eI cI 12 v_bench_clash), (a_sets_chance, eI cI 4096 u3.2.2.2.2.2.2.2.1), (a_census_wholeSets, eI cI 13 u3.2.2.2.2.2.2.2.2.1), (a_census_orders, eJ cJ 13 u3.2.2.2.2.2.2.2.2.2)] H → va_S A s.heap H locs → lv_has ls 3 [] → W p l e { frames := 3, cells := 0, slots := 0, locals := 67 } s m args below meth c H locs 0 0 Q (F0 m 67 ls [.int w6])) hf ?_ ?_
      · intro w6 hf H locs ls hP hS hl
        obtain rfl := Option.some.inj hf
        exact ret _ _ _ _ dX10_whole_67 hP hS
      · intro J67_7 hf
        refine lv_icmp_ge (tgt := 63) hx hb dX10_whole_56 (by decide) (fun c8 => ?_) (fun c8 => ?_)
        · have hf := ob_tk c8 hf
          refine lv_iload_n hx hb dX10_whole_63 rfl (lv_at hl 0 rfl) ?_
          obtain ⟨u9, hu9, hf⟩ := ob_bk hf
          refine iv_X10_180 (As := [.int w4]) (rest := []) (is := []) (X' := [(a_t, .inr (10, [.ref a_pad, .ref a_scene, .ref a_images, .ref a_bench, .ref a_trial, .ref a_sitters, .ref a_trialSitters, .ref a_sets, .ref a_census, .ref a_match, .ref a_couples, .ref a_passing, .ref a_longRows])), (a_census, .inr (1, [.ref a_census_wholeSets, .ref a_census_orders, .int u3.1, .int u3.2.1, .int u3.2.2.1])), (a_bench, .inr (0, [.ref a_scene, .ref a_bench_apart, .ref a_bench_clash, .ref a_bench_neighbours])), (a_scene, .inr (7, [.ref a_scene_steps, .ref a_scene_worths, .ref a_scene_comers, .ref a_scene_seen, .ref a_scene_seenLengths, .int v_scene_seats, .int v_scene_bear, .int v_scene_comerCount, .int v_scene_seenRows])), (a_sets, .inr (8, [.ref a_sets_filled, .ref a_sets_open, .ref a_sets_chance, .int u3.2.2.2.1, .int u3.2.2.2.2.1])), (a_sets_filled, eI cI 4096 u3.2.2.2.2.2.1), (a_sets_open, eI cI 4096 u3.2.2.2.2.2.2.1), (a_bench_clash, eI cI 12 v_bench_clash), (a_sets_chance, eI cI 4096 u3.2.2.2.2.2.2.2.1), (a_census_wholeSets, eI cI 13 u3.2.2.2.2.2.2.2.2.1), (a_census_orders, eJ cJ 13 u3.2.2.2.2.2.2.2.2.2)]) Cx (c_J6_bitCount_0f7a4 l D cI cJ cZ cO  w4 u9 hu9) hP hS rfl rfl rfl rfl rfl rfl hl.1 (Nat.le_of_ble_eq_true rfl) dX10_whole_64 rfl rfl ⟨Nat.le_of_ble_eq_true rfl, Nat.le_of_ble_eq_true rfl⟩ ⟨Nat.zero_le _, Nat.zero_le _⟩ rfl (fun H locs hP hS => ?_)
          exact J67_7 u9 hf _ _ _ hP hS (lv_sub hl [] rfl)
        · have hf := ob_fk c8 hf
          refine lv_iload_n hx hb dX10_whole_59 rfl (lv_at hl 0 rfl) ?_
          refine lv_goto (tgt := 67) hx hb dX10_whole_60 (by decide) ?_
          exact J67_7 w4 hf _ _ _ hP hS (lv_sub hl [] rfl)
    · intro J53_5 hf
      refine lv_if_eq (tgt := 36) hx hb dX10_whole_28 (by decide) (fun c10 => ?_) (fun c10 => ?_)
      · have hf := ob_tk c10 hf
        refine lv_aload_n hx hb dX10_whole_36 rfl (lv_at hl 0 rfl) ?_
        refine gf_X10_61 Cx hP 0 rfl rfl dX10_whole_37 ?_
        refine gf_X10_174 Cx hP 1 rfl rfl dX10_whole_40 ?_
        refine lv_goto (tgt := 53) hx hb dX10_whole_43 (by decide) ?_
        exact J53_5 u3.1 hf _ _ _ hP hS (lv_sub hl [1] rfl)
      · have hf := ob_fk c10 hf
        refine lv_iload_n hx hb dX10_whole_31 rfl (lv_at hl 1 rfl) ?_
        refine lv_iconst (v := 2) hx hb dX10_whole_32 (by decide) ?_
        refine lv_icmp_ne (tgt := 46) hx hb dX10_whole_33 (by decide) (fun c11 => ?_) (fun c11 => ?_)
        · have hf := ob_fk c11 hf
          refine lv_aload_n hx hb dX10_whole_46 rfl (lv_at hl 0 rfl) ?_
          refine gf_X10_61 Cx hP 0 rfl rfl dX10_whole_47 ?_
          refine gf_X10_177 Cx hP 1 rfl rfl dX10_whole_50 ?_
          exact J53_5 u3.2.1 hf _ _ _ hP hS (lv_sub hl [1] rfl)
        · have hf := ob_tk c11 hf
          refine lv_aload_n hx hb dX10_whole_36 rfl (lv_at hl 0 rfl) ?_
          refine gf_X10_61 Cx hP 0 rfl rfl dX10_whole_37 ?_
          refine gf_X10_174 Cx hP 1 rfl rfl dX10_whole_40 ?_
          refine lv_goto (tgt := 53) hx hb dX10_whole_43 (by decide) ?_
          exact J53_5 u3.1 hf _ _ _ hP hS (lv_sub hl [1] rfl)
  · have hf := ob_t c2 hf
    refine lv_bipush (v := (-2)) hx hb dX10_whole_9 (by decide) ?_
    obtain rfl := Option.some.inj hf
    exact ret _ _ _ _ dX10_whole_11 hP hS

