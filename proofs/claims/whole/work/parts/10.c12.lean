def f_X11_restore (v_seats : Int32) (v_bearIs : Int32) (v_comerMany : Int32) (v_seenRows : Int32) (v_place : Int32) (v_isWriting : Int32) (v_isKept : Nat → Int32) (v_kept : Nat → Int32) (v_links : Nat → Int32) (v_worths : Nat → Int32) (v_comers : Nat → Int32) (v_seenMany : Nat → Int32) (v_seen : Nat → Int32) (v_far : Nat → Int32) (x1 : Int32) : Option (Int32 × Int32 × Int32 × Int32 × Int32 × Int32 × Int32 × (Nat → Int32) × (Nat → Int32) × (Nat → Int32) × (Nat → Int32) × (Nat → Int32) × (Nat → Int32) × (Nat → Int32)) :=
  (f_X11_in ((x1).toInt64) (0 : Int64) (1 : Int64)).bind (fun u1 =>
  if u1 = 0 then
  some ((-2 : Int32), v_seats, v_bearIs, v_comerMany, v_seenRows, v_place, v_isWriting, v_kept, v_links, v_worths, v_comers, v_seenMany, v_seen, v_far)
  else
  (aget 2 v_isKept x1).bind (fun u3 =>
  if u3 = 0 then
  some ((-3 : Int32), v_seats, v_bearIs, v_comerMany, v_seenRows, v_place, v_isWriting, v_kept, v_links, v_worths, v_comers, v_seenMany, v_seen, v_far)
  else
  (f_X11_passAll v_seats v_bearIs v_comerMany v_seenRows ((200 : Int32) * x1) (0 : Int32) v_kept v_links v_worths v_comers v_seenMany v_seen).bind (fun u5 =>
  (f_X11_findFar u5.1 v_far u5.2.2.2.2.2.2.1 (0 : Int32)).bind (fun u6 =>
  some ((1 : Int32), u5.1, u5.2.1, u5.2.2.1, u5.2.2.2.1, u5.2.2.2.2.1, (0 : Int32), u5.2.2.2.2.2.1, u5.2.2.2.2.2.2.1, u5.2.2.2.2.2.2.2.1, u5.2.2.2.2.2.2.2.2.1, u5.2.2.2.2.2.2.2.2.2.1, u5.2.2.2.2.2.2.2.2.2.2, u6)))))
set_option maxHeartbeats 4000000 in
set_option maxRecDepth 100000 in
theorem c_X11_restore (l : Launch) (D : va_G) (cI cJ cZ cO : ClassId) (a_t a_signs a_links a_worths a_far a_mays a_rowsTo a_endIn a_ends a_pairSets a_awayIn a_now a_then a_comers a_seen a_seenMany a_kept a_isKept : Nat) (v_signMany : Int32) (v_seats : Int32) (v_bearIs : Int32) (v_rowsAll : Int64) (v_awayUpper : Int64) (v_lower : Int64) (v_comerMany : Int32) (v_seenRows : Int32) (v_place : Int32) (v_isWriting : Int32) (v_isKept : Nat → Int32) (v_kept : Nat → Int32) (v_links : Nat → Int32) (v_worths : Nat → Int32) (v_comers : Nat → Int32) (v_seenMany : Nat → Int32) (v_seen : Nat → Int32) (v_far : Nat → Int32) (x1 : Int32) (out : Int32 × Int32 × Int32 × Int32 × Int32 × Int32 × Int32 × (Nat → Int32) × (Nat → Int32) × (Nat → Int32) × (Nat → Int32) × (Nat → Int32) × (Nat → Int32) × (Nat → Int32)) (hf : f_X11_restore v_seats v_bearIs v_comerMany v_seenRows v_place v_isWriting v_isKept v_kept v_links v_worths v_comers v_seenMany v_seen v_far x1 = some out) : MetR l yX11_restore (Cond.code yX11_restore cX11_restore 2 (some .int) :: tbG) { frames := 3, cells := 0, slots := 0, locals := 69 } D (tyL cI cJ cZ cO) [.ref a_t, .int x1] [(a_t, .inr (11, [.ref a_signs, .int v_signMany, .int v_seats, .ref a_links, .ref a_worths, .int v_bearIs, .ref a_far, .ref a_mays, .ref a_rowsTo, .ref a_endIn, .long v_rowsAll, .ref a_ends, .ref a_pairSets, .ref a_awayIn, .ref a_now, .ref a_then, .long v_awayUpper, .long v_lower, .ref a_comers, .int v_comerMany, .ref a_seen, .ref a_seenMany, .int v_seenRows, .ref a_kept, .ref a_isKept, .int v_place, .int v_isWriting])), (a_isKept, eI cZ 2 v_isKept), (a_kept, eI cI 400 v_kept), (a_links, eI cI 12 v_links), (a_worths, eI cI 12 v_worths), (a_comers, eI cI 12 v_comers), (a_seenMany, eI cI 8 v_seenMany), (a_seen, eI cI 96 v_seen), (a_far, eI cI 144 v_far)] (some (.int out.1)) [(a_t, .inr (11, [.ref a_signs, .int v_signMany, .int out.2.1, .ref a_links, .ref a_worths, .int out.2.2.1, .ref a_far, .ref a_mays, .ref a_rowsTo, .ref a_endIn, .long v_rowsAll, .ref a_ends, .ref a_pairSets, .ref a_awayIn, .ref a_now, .ref a_then, .long v_awayUpper, .long v_lower, .ref a_comers, .int out.2.2.2.1, .ref a_seen, .ref a_seenMany, .int out.2.2.2.2.1, .ref a_kept, .ref a_isKept, .int out.2.2.2.2.2.1, .int out.2.2.2.2.2.2.1])), (a_isKept, eI cZ 2 v_isKept), (a_kept, eI cI 400 out.2.2.2.2.2.2.2.1), (a_links, eI cI 12 out.2.2.2.2.2.2.2.2.1), (a_worths, eI cI 12 out.2.2.2.2.2.2.2.2.2.1), (a_comers, eI cI 12 out.2.2.2.2.2.2.2.2.2.2.1), (a_seenMany, eI cI 8 out.2.2.2.2.2.2.2.2.2.2.2.1), (a_seen, eI cI 96 out.2.2.2.2.2.2.2.2.2.2.2.2.1), (a_far, eI cI 144 out.2.2.2.2.2.2.2.2.2.2.2.2.2)] := by
  refine ba_ofI RX11 [(0, .ref a_t), (1, .int x1)] (by decide +kernel) rfl (Nat.le_of_ble_eq_true rfl) rfl ?_
  intro p e s m args below meth c Q A Cx hP ret ls hl
  obtain ⟨⟨hx, hb, hml, hown, hts⟩, hK, hD, hA⟩ := id Cx
  have hS : va_S A s.heap s.heap [] := va_S.rf
  unfold f_X11_restore at hf
  refine lv_iload_n hx hb dX11_restore_0 rfl (lv_at hl 1 rfl) ?_
  refine lv_i2l (v := (x1).toInt64) hx hb dX11_restore_1 rfl ?_
  refine lv_lconst (v := 0) hx hb dX11_restore_2 (by decide) ?_
  refine lv_lconst (v := 1) hx hb dX11_restore_3 (by decide) ?_
  obtain ⟨u1, hu1, hf⟩ := ob_b hf
  refine iv_X11_74 (As := [.long ((x1).toInt64), .long (0 : Int64), .long (1 : Int64)]) (rest := []) (is := []) (X' := [(a_t, .inr (11, [.ref a_signs, .int v_signMany, .int v_seats, .ref a_links, .ref a_worths, .int v_bearIs, .ref a_far, .ref a_mays, .ref a_rowsTo, .ref a_endIn, .long v_rowsAll, .ref a_ends, .ref a_pairSets, .ref a_awayIn, .ref a_now, .ref a_then, .long v_awayUpper, .long v_lower, .ref a_comers, .int v_comerMany, .ref a_seen, .ref a_seenMany, .int v_seenRows, .ref a_kept, .ref a_isKept, .int v_place, .int v_isWriting])), (a_isKept, eI cZ 2 v_isKept), (a_kept, eI cI 400 v_kept), (a_links, eI cI 12 v_links), (a_worths, eI cI 12 v_worths), (a_comers, eI cI 12 v_comers), (a_seenMany, eI cI 8 v_seenMany), (a_seen, eI cI 96 v_seen), (a_far, eI cI 144 v_far)]) Cx (c_X11_in l D cI cJ cZ cO  ((x1).toInt64) (0 : Int64) (1 : Int64) u1 hu1) hP hS rfl rfl rfl rfl rfl rfl hl.1 (Nat.le_of_ble_eq_true rfl) dX11_restore_4 rfl rfl ⟨Nat.le_of_ble_eq_true rfl, Nat.le_of_ble_eq_true rfl⟩ ⟨Nat.zero_le _, Nat.zero_le _⟩ rfl (fun H locs hP hS => ?_)
  refine lv_if_ne (tgt := 13) hx hb dX11_restore_7 (by decide) (fun c2 => ?_) (fun c2 => ?_)
  · have hf := ob_f c2 hf
    refine lv_aload_n hx hb dX11_restore_13 rfl (lv_at hl 0 rfl) ?_
    refine gf_X11_59 Cx hP 0 rfl rfl dX11_restore_14 ?_
    refine lv_iload_n hx hb dX11_restore_17 rfl (lv_at hl 1 rfl) ?_
    obtain ⟨u3, hu3, hf⟩ := ob_b hf
    refine ba_zald Cx hP 1 rfl hu3 dX11_restore_18 ?_
    refine lv_if_ne (tgt := 25) hx hb dX11_restore_19 (by decide) (fun c4 => ?_) (fun c4 => ?_)
    · have hf := ob_f c4 hf
      refine lv_aload_n hx hb dX11_restore_25 rfl (lv_at hl 0 rfl) ?_
      refine lv_sipush (v := 200) hx hb dX11_restore_26 (by decide) ?_
      refine lv_iload_n hx hb dX11_restore_29 rfl (lv_at hl 1 rfl) ?_
      refine lv_imul hx hb dX11_restore_30 ?_
      refine pf_X11_232 (X' := [(a_t, .inr (11, [.ref a_signs, .int v_signMany, .int v_seats, .ref a_links, .ref a_worths, .int v_bearIs, .ref a_far, .ref a_mays, .ref a_rowsTo, .ref a_endIn, .long v_rowsAll, .ref a_ends, .ref a_pairSets, .ref a_awayIn, .ref a_now, .ref a_then, .long v_awayUpper, .long v_lower, .ref a_comers, .int v_comerMany, .ref a_seen, .ref a_seenMany, .int v_seenRows, .ref a_kept, .ref a_isKept, .int ((200 : Int32) * x1), .int v_isWriting])), (a_isKept, eI cZ 2 v_isKept), (a_kept, eI cI 400 v_kept), (a_links, eI cI 12 v_links), (a_worths, eI cI 12 v_worths), (a_comers, eI cI 12 v_comers), (a_seenMany, eI cI 8 v_seenMany), (a_seen, eI cI 96 v_seen), (a_far, eI cI 144 v_far)]) Cx hP hS rfl 0 rfl rfl (Nat.le_of_ble_eq_true rfl) dX11_restore_31 (fun H locs hP hS => ?_)
      refine lv_aload_n hx hb dX11_restore_34 rfl (lv_at hl 0 rfl) ?_
      refine lv_iconst (v := 0) hx hb dX11_restore_35 (by decide) ?_
      refine pf_X11_228 (X' := [(a_t, .inr (11, [.ref a_signs, .int v_signMany, .int v_seats, .ref a_links, .ref a_worths, .int v_bearIs, .ref a_far, .ref a_mays, .ref a_rowsTo, .ref a_endIn, .long v_rowsAll, .ref a_ends, .ref a_pairSets, .ref a_awayIn, .ref a_now, .ref a_then, .long v_awayUpper, .long v_lower, .ref a_comers, .int v_comerMany, .ref a_seen, .ref a_seenMany, .int v_seenRows, .ref a_kept, .ref a_isKept, .int ((200 : Int32) * x1), .int (0 : Int32)])), (a_isKept, eI cZ 2 v_isKept), (a_kept, eI cI 400 v_kept), (a_links, eI cI 12 v_links), (a_worths, eI cI 12 v_worths), (a_comers, eI cI 12 v_comers), (a_seenMany, eI cI 8 v_seenMany), (a_seen, eI cI 96 v_seen), (a_far, eI cI 144 v_far)]) Cx hP hS rfl 0 rfl (by decide) (by decide) rfl (Nat.le_of_ble_eq_true rfl) dX11_restore_36 (fun H locs hP hS => ?_)
      refine lv_aload_n hx hb dX11_restore_39 rfl (lv_at hl 0 rfl) ?_
      obtain ⟨u5, hu5, hf⟩ := ob_b hf
      refine iv_X11_238 (As := []) (rest := []) (is := [0, 2, 3, 4, 5, 6, 7]) (q0 := 0) (X' := [(a_t, .inr (11, [.ref a_signs, .int v_signMany, .int u5.1, .ref a_links, .ref a_worths, .int u5.2.1, .ref a_far, .ref a_mays, .ref a_rowsTo, .ref a_endIn, .long v_rowsAll, .ref a_ends, .ref a_pairSets, .ref a_awayIn, .ref a_now, .ref a_then, .long v_awayUpper, .long v_lower, .ref a_comers, .int u5.2.2.1, .ref a_seen, .ref a_seenMany, .int u5.2.2.2.1, .ref a_kept, .ref a_isKept, .int u5.2.2.2.2.1, .int (0 : Int32)])), (a_isKept, eI cZ 2 v_isKept), (a_kept, eI cI 400 u5.2.2.2.2.2.1), (a_links, eI cI 12 u5.2.2.2.2.2.2.1), (a_worths, eI cI 12 u5.2.2.2.2.2.2.2.1), (a_comers, eI cI 12 u5.2.2.2.2.2.2.2.2.1), (a_seenMany, eI cI 8 u5.2.2.2.2.2.2.2.2.2.1), (a_seen, eI cI 96 u5.2.2.2.2.2.2.2.2.2.2), (a_far, eI cI 144 v_far)]) Cx (c_X11_passAll l D cI cJ cZ cO a_t a_signs a_links a_worths a_far a_mays a_rowsTo a_endIn a_ends a_pairSets a_awayIn a_now a_then a_comers a_seen a_seenMany a_kept a_isKept v_signMany v_seats v_bearIs v_rowsAll v_awayUpper v_lower v_comerMany v_seenRows ((200 : Int32) * x1) (0 : Int32) v_kept v_links v_worths v_comers v_seenMany v_seen u5 hu5) hP hS rfl rfl rfl rfl rfl rfl rfl hl.1 (Nat.le_of_ble_eq_true rfl) dX11_restore_40 rfl rfl ⟨Nat.le_of_ble_eq_true rfl, Nat.le_of_ble_eq_true rfl⟩ ⟨Nat.zero_le _, Nat.zero_le _⟩ rfl (fun H locs hP hS => ?_)
      refine lv_aload_n hx hb dX11_restore_43 rfl (lv_at hl 0 rfl) ?_
      refine lv_iconst (v := 0) hx hb dX11_restore_44 (by decide) ?_
      obtain ⟨u6, hu6, hf⟩ := ob_b hf
      refine iv_X11_70 (As := [.int (0 : Int32)]) (rest := []) (is := [0, 8, 3]) (q0 := 0) (X' := [(a_t, .inr (11, [.ref a_signs, .int v_signMany, .int u5.1, .ref a_links, .ref a_worths, .int u5.2.1, .ref a_far, .ref a_mays, .ref a_rowsTo, .ref a_endIn, .long v_rowsAll, .ref a_ends, .ref a_pairSets, .ref a_awayIn, .ref a_now, .ref a_then, .long v_awayUpper, .long v_lower, .ref a_comers, .int u5.2.2.1, .ref a_seen, .ref a_seenMany, .int u5.2.2.2.1, .ref a_kept, .ref a_isKept, .int u5.2.2.2.2.1, .int (0 : Int32)])), (a_isKept, eI cZ 2 v_isKept), (a_kept, eI cI 400 u5.2.2.2.2.2.1), (a_links, eI cI 12 u5.2.2.2.2.2.2.1), (a_worths, eI cI 12 u5.2.2.2.2.2.2.2.1), (a_comers, eI cI 12 u5.2.2.2.2.2.2.2.2.1), (a_seenMany, eI cI 8 u5.2.2.2.2.2.2.2.2.2.1), (a_seen, eI cI 96 u5.2.2.2.2.2.2.2.2.2.2), (a_far, eI cI 144 u6)]) Cx (c_X11_findFar l D cI cJ cZ cO a_t a_signs a_links a_worths a_far a_mays a_rowsTo a_endIn a_ends a_pairSets a_awayIn a_now a_then a_comers a_seen a_seenMany a_kept a_isKept v_signMany u5.1 u5.2.1 v_rowsAll v_awayUpper v_lower u5.2.2.1 u5.2.2.2.1 u5.2.2.2.2.1 (0 : Int32) v_far u5.2.2.2.2.2.2.1 (0 : Int32) u6 hu6) hP hS rfl rfl rfl rfl rfl rfl rfl hl.1 (Nat.le_of_ble_eq_true rfl) dX11_restore_45 rfl rfl ⟨Nat.le_of_ble_eq_true rfl, Nat.le_of_ble_eq_true rfl⟩ ⟨Nat.zero_le _, Nat.zero_le _⟩ rfl (fun H locs hP hS => ?_)
      refine lv_iconst (v := 1) hx hb dX11_restore_48 (by decide) ?_
      obtain rfl := Option.some.inj hf
      exact ret _ _ _ _ dX11_restore_49 hP hS
    · have hf := ob_t c4 hf
      refine lv_bipush (v := (-3)) hx hb dX11_restore_22 (by decide) ?_
      obtain rfl := Option.some.inj hf
      exact ret _ _ _ _ dX11_restore_24 hP hS
  · have hf := ob_t c2 hf
    refine lv_bipush (v := (-2)) hx hb dX11_restore_10 (by decide) ?_
    obtain rfl := Option.some.inj hf
    exact ret _ _ _ _ dX11_restore_12 hP hS

def f_X11_told (v_signMany : Int32) (v_seats : Int32) (v_bearIs : Int32) (v_comerMany : Int32) (v_seenRows : Int32) (v_worths : Nat → Int32) (x1 : Int32) : Option (Int32) :=
  (f_X11_in ((x1).toInt64) (10 : Int64) (21 : Int64)).bind (fun u1 =>
  if u1 = 0 then
  if x1 = (0 : Int32) then
  some (v_seats)
  else if x1 = (1 : Int32) then
  some (v_bearIs)
  else if x1 = (2 : Int32) then
  some (v_signMany)
  else if x1 = (3 : Int32) then
  some (v_comerMany)
  else if x1 = (4 : Int32) then
  some (v_seenRows)
  else 
  some (-2 : Int32)
  else
  (f_X11_isSeat v_seats (x1 - (10 : Int32))).bind (fun u8 =>
  (if u8 = 0 then
  some (-6 : Int32)
  else
  (aget 12 v_worths (x1 - (10 : Int32))).bind (fun u12 =>
  some (u12))).bind (fun w9 =>
  some (w9))))
set_option maxHeartbeats 4000000 in
set_option maxRecDepth 100000 in
theorem c_X11_told (l : Launch) (D : va_G) (cI cJ cZ cO : ClassId) (a_t a_signs a_links a_worths a_far a_mays a_rowsTo a_endIn a_ends a_pairSets a_awayIn a_now a_then a_comers a_seen a_seenMany a_kept a_isKept : Nat) (v_signMany : Int32) (v_seats : Int32) (v_bearIs : Int32) (v_rowsAll : Int64) (v_awayUpper : Int64) (v_lower : Int64) (v_comerMany : Int32) (v_seenRows : Int32) (v_place : Int32) (v_isWriting : Int32) (v_worths : Nat → Int32) (x1 : Int32) (out : Int32) (hf : f_X11_told v_signMany v_seats v_bearIs v_comerMany v_seenRows v_worths x1 = some out) : MetR l yX11_told (Cond.code yX11_told cX11_told 2 (some .int) :: tbG) { frames := 2, cells := 0, slots := 0, locals := 46 } D (tyL cI cJ cZ cO) [.ref a_t, .int x1] [(a_t, .inr (11, [.ref a_signs, .int v_signMany, .int v_seats, .ref a_links, .ref a_worths, .int v_bearIs, .ref a_far, .ref a_mays, .ref a_rowsTo, .ref a_endIn, .long v_rowsAll, .ref a_ends, .ref a_pairSets, .ref a_awayIn, .ref a_now, .ref a_then, .long v_awayUpper, .long v_lower, .ref a_comers, .int v_comerMany, .ref a_seen, .ref a_seenMany, .int v_seenRows, .ref a_kept, .ref a_isKept, .int v_place, .int v_isWriting])), (a_worths, eI cI 12 v_worths)] (some (.int out)) [(a_t, .inr (11, [.ref a_signs, .int v_signMany, .int v_seats, .ref a_links, .ref a_worths, .int v_bearIs, .ref a_far, .ref a_mays, .ref a_rowsTo, .ref a_endIn, .long v_rowsAll, .ref a_ends, .ref a_pairSets, .ref a_awayIn, .ref a_now, .ref a_then, .long v_awayUpper, .long v_lower, .ref a_comers, .int v_comerMany, .ref a_seen, .ref a_seenMany, .int v_seenRows, .ref a_kept, .ref a_isKept, .int v_place, .int v_isWriting])), (a_worths, eI cI 12 v_worths)] := by
  refine ba_ofI RX11 [(0, .ref a_t), (1, .int x1)] (by decide +kernel) rfl (Nat.le_of_ble_eq_true rfl) rfl ?_
  intro p e s m args below meth c Q A Cx hP ret ls hl
  obtain ⟨⟨hx, hb, hml, hown, hts⟩, hK, hD, hA⟩ := id Cx
  have hS : va_S A s.heap s.heap [] := va_S.rf
  unfold f_X11_told at hf
  refine lv_iload_n hx hb dX11_told_0 rfl (lv_at hl 1 rfl) ?_
  refine lv_i2l (v := (x1).toInt64) hx hb dX11_told_1 rfl ?_
  refine lv_ldc2 hx hb hown (hts _ kw_1106) dX11_told_2 ?_
  refine lv_ldc2 hx hb hown (hts _ kw_1107) dX11_told_5 ?_
  obtain ⟨u1, hu1, hf⟩ := ob_b hf
  refine iv_X11_74 (As := [.long ((x1).toInt64), .long (10 : Int64), .long (21 : Int64)]) (rest := []) (is := []) (X' := [(a_t, .inr (11, [.ref a_signs, .int v_signMany, .int v_seats, .ref a_links, .ref a_worths, .int v_bearIs, .ref a_far, .ref a_mays, .ref a_rowsTo, .ref a_endIn, .long v_rowsAll, .ref a_ends, .ref a_pairSets, .ref a_awayIn, .ref a_now, .ref a_then, .long v_awayUpper, .long v_lower, .ref a_comers, .int v_comerMany, .ref a_seen, .ref a_seenMany, .int v_seenRows, .ref a_kept, .ref a_isKept, .int v_place, .int v_isWriting])), (a_worths, eI cI 12 v_worths)]) Cx (c_X11_in l D cI cJ cZ cO  ((x1).toInt64) (10 : Int64) (21 : Int64) u1 hu1) hP hS rfl rfl rfl rfl rfl rfl hl.1 (Nat.le_of_ble_eq_true rfl) dX11_told_8 rfl rfl ⟨Nat.le_of_ble_eq_true rfl, Nat.le_of_ble_eq_true rfl⟩ ⟨Nat.zero_le _, Nat.zero_le _⟩ rfl (fun H locs hP hS => ?_)
  refine lv_if_eq (tgt := 40) hx hb dX11_told_11 (by decide) (fun c2 => ?_) (fun c2 => ?_)
  · have hf := ob_t c2 hf
    refine lv_iload_n hx hb dX11_told_40 rfl (lv_at hl 1 rfl) ?_
    by_cases c3 : x1 = (0 : Int32)
    · have hf := ob_t c3 hf
      refine ba_topi c3 ?_
      refine lv_tableIn (tgt := 76) hx hb dX11_told_41 (by decide) (by decide) rfl (by decide) ?_
      refine lv_aload_n hx hb dX11_told_76 rfl (lv_at hl 0 rfl) ?_
      refine gf_X11_63 Cx hP 0 rfl rfl dX11_told_77 ?_
      obtain rfl := Option.some.inj hf
      exact ret _ _ _ _ dX11_told_80 hP hS
    have hf := ob_f c3 hf
    by_cases c4 : x1 = (1 : Int32)
    · have hf := ob_t c4 hf
      refine ba_topi c4 ?_
      refine lv_tableIn (tgt := 81) hx hb dX11_told_41 (by decide) (by decide) rfl (by decide) ?_
      refine lv_aload_n hx hb dX11_told_81 rfl (lv_at hl 0 rfl) ?_
      refine gf_X11_67 Cx hP 0 rfl rfl dX11_told_82 ?_
      obtain rfl := Option.some.inj hf
      exact ret _ _ _ _ dX11_told_85 hP hS
    have hf := ob_f c4 hf
    by_cases c5 : x1 = (2 : Int32)
    · have hf := ob_t c5 hf
      refine ba_topi c5 ?_
      refine lv_tableIn (tgt := 86) hx hb dX11_told_41 (by decide) (by decide) rfl (by decide) ?_
      refine lv_aload_n hx hb dX11_told_86 rfl (lv_at hl 0 rfl) ?_
      refine gf_X11_82 Cx hP 0 rfl rfl dX11_told_87 ?_
      obtain rfl := Option.some.inj hf
      exact ret _ _ _ _ dX11_told_90 hP hS
    have hf := ob_f c5 hf
    by_cases c6 : x1 = (3 : Int32)
    · have hf := ob_t c6 hf
      refine ba_topi c6 ?_
      refine lv_tableIn (tgt := 91) hx hb dX11_told_41 (by decide) (by decide) rfl (by decide) ?_
      refine lv_aload_n hx hb dX11_told_91 rfl (lv_at hl 0 rfl) ?_
      refine gf_X11_219 Cx hP 0 rfl rfl dX11_told_92 ?_
      obtain rfl := Option.some.inj hf
      exact ret _ _ _ _ dX11_told_95 hP hS
    have hf := ob_f c6 hf
    by_cases c7 : x1 = (4 : Int32)
    · have hf := ob_t c7 hf
      refine ba_topi c7 ?_
      refine lv_tableIn (tgt := 96) hx hb dX11_told_41 (by decide) (by decide) rfl (by decide) ?_
      refine lv_aload_n hx hb dX11_told_96 rfl (lv_at hl 0 rfl) ?_
      refine gf_X11_89 Cx hP 0 rfl rfl dX11_told_97 ?_
      obtain rfl := Option.some.inj hf
      exact ret _ _ _ _ dX11_told_100 hP hS
    have hf := ob_f c7 hf
    refine lv_tableOut (tgt := 101) hx hb dX11_told_41 (ba_tab4 c3 c4 c5 c6 c7) (by decide) ?_
    refine lv_bipush (v := (-2)) hx hb dX11_told_101 (by decide) ?_
    obtain rfl := Option.some.inj hf
    exact ret _ _ _ _ dX11_told_103 hP hS
  · have hf := ob_f c2 hf
    refine lv_aload_n hx hb dX11_told_14 rfl (lv_at hl 0 rfl) ?_
    refine lv_iload_n hx hb dX11_told_15 rfl (lv_at hl 1 rfl) ?_
    refine lv_bipush (v := 10) hx hb dX11_told_16 (by decide) ?_
    refine lv_isub hx hb dX11_told_18 ?_
    obtain ⟨u8, hu8, hf⟩ := ob_b hf
    refine iv_X11_100 (As := [.int (x1 - (10 : Int32))]) (rest := []) (is := [0]) (q0 := 0) (X' := [(a_t, .inr (11, [.ref a_signs, .int v_signMany, .int v_seats, .ref a_links, .ref a_worths, .int v_bearIs, .ref a_far, .ref a_mays, .ref a_rowsTo, .ref a_endIn, .long v_rowsAll, .ref a_ends, .ref a_pairSets, .ref a_awayIn, .ref a_now, .ref a_then, .long v_awayUpper, .long v_lower, .ref a_comers, .int v_comerMany, .ref a_seen, .ref a_seenMany, .int v_seenRows, .ref a_kept, .ref a_isKept, .int v_place, .int v_isWriting])), (a_worths, eI cI 12 v_worths)]) Cx (c_X11_isSeat l D cI cJ cZ cO a_t a_signs a_links a_worths a_far a_mays a_rowsTo a_endIn a_ends a_pairSets a_awayIn a_now a_then a_comers a_seen a_seenMany a_kept a_isKept v_signMany v_seats v_bearIs v_rowsAll v_awayUpper v_lower v_comerMany v_seenRows v_place v_isWriting (x1 - (10 : Int32)) u8 hu8) hP hS rfl rfl rfl rfl rfl rfl rfl hl.1 (Nat.le_of_ble_eq_true rfl) dX11_told_19 rfl rfl ⟨Nat.le_of_ble_eq_true rfl, Nat.le_of_ble_eq_true rfl⟩ ⟨Nat.zero_le _, Nat.zero_le _⟩ rfl (fun H locs hP hS => ?_)
    refine ob_J (P := fun w9 => ∀ (H : Heap) (locs : List Loc) (ls : Array Slot), va_P D vwCl [(a_t, .inr (11, [.ref a_signs, .int v_signMany, .int v_seats, .ref a_links, .ref a_worths, .int v_bearIs, .ref a_far, .ref a_mays, .ref a_rowsTo, .ref a_endIn, .long v_rowsAll, .ref a_ends, .ref a_pairSets, .ref a_awayIn, .ref a_now, .ref a_then, .long v_awayUpper, .long v_lower, .ref a_comers, .int v_comerMany, .ref a_seen, .ref a_seenMany, .int v_seenRows, .ref a_kept, .ref a_isKept, .int v_place, .int v_isWriting])), (a_worths, eI cI 12 v_worths)] H → va_S A s.heap H locs → lv_has ls 2 [] → W p l e { frames := 2, cells := 0, slots := 0, locals := 46 } s m args below meth c H locs 0 0 Q (F0 m 39 ls [.int w9])) hf ?_ ?_
    · intro w9 hf H locs ls hP hS hl
      obtain rfl := Option.some.inj hf
      exact ret _ _ _ _ dX11_told_39 hP hS
    · intro J39_10 hf
      refine lv_if_eq (tgt := 37) hx hb dX11_told_22 (by decide) (fun c11 => ?_) (fun c11 => ?_)
      · have hf := ob_tk c11 hf
        refine lv_bipush (v := (-6)) hx hb dX11_told_37 (by decide) ?_
        exact J39_10 (-6 : Int32) hf _ _ _ hP hS (lv_sub hl [] rfl)
      · have hf := ob_fk c11 hf
        refine lv_aload_n hx hb dX11_told_25 rfl (lv_at hl 0 rfl) ?_
        refine gf_X11_16 Cx hP 0 rfl rfl dX11_told_26 ?_
        refine lv_iload_n hx hb dX11_told_29 rfl (lv_at hl 1 rfl) ?_
        refine lv_bipush (v := 10) hx hb dX11_told_30 (by decide) ?_
        refine lv_isub hx hb dX11_told_32 ?_
        obtain ⟨u12, hu12, hf⟩ := ob_bk hf
        refine ba_iald Cx hP 1 rfl hu12 dX11_told_33 ?_
        refine lv_goto (tgt := 39) hx hb dX11_told_34 (by decide) ?_
        exact J39_10 u12 hf _ _ _ hP hS (lv_sub hl [] rfl)

