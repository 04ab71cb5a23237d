def f_X11_isHabit (x0 : Int32) : Option (Int32) :=
  (f_X11_in ((x0).toInt64) (0 : Int64) (5 : Int64)).bind (fun u1 =>
  (oz u1).bind (fun u2 =>
  some (u2)))
set_option maxHeartbeats 4000000 in
set_option maxRecDepth 100000 in
theorem c_X11_isHabit (l : Launch) (D : va_G) (cI cJ cZ cO : ClassId) (x0 : Int32) (out : Int32) (hf : f_X11_isHabit x0 = some out) : MetR l yX11_isHabit (Cond.code yX11_isHabit cX11_isHabit 1 (some .boolean) :: tbG) { frames := 1, cells := 0, slots := 0, locals := 25 } D (tyL cI cJ cZ cO) [.int x0] [] (some (.int out)) [] := by
  refine ba_ofZ RX11 [(0, .int x0)] (by decide +kernel) rfl (Nat.le_of_ble_eq_true rfl) rfl ?_
  intro p e s m args below meth c Q A Cx hP ret ls hl
  obtain ⟨⟨hx, hb, hml, hown, hts⟩, hK, hD, hA⟩ := id Cx
  have hS : va_S A s.heap s.heap [] := va_S.rf
  unfold f_X11_isHabit at hf
  refine lv_iload_n hx hb dX11_isHabit_0 rfl (lv_at hl 0 rfl) ?_
  refine lv_i2l (v := (x0).toInt64) hx hb dX11_isHabit_1 rfl ?_
  refine lv_lconst (v := 0) hx hb dX11_isHabit_2 (by decide) ?_
  refine lv_ldc2 hx hb hown (hts _ kw_904) dX11_isHabit_3 ?_
  obtain ⟨u1, hu1, hf⟩ := ob_b hf
  refine iv_X11_74 (As := [.long ((x0).toInt64), .long (0 : Int64), .long (5 : Int64)]) (rest := []) (is := []) (X' := []) Cx (c_X11_in l D cI cJ cZ cO  ((x0).toInt64) (0 : Int64) (5 : Int64) u1 hu1) hP hS rfl rfl rfl rfl rfl rfl hl.1 (Nat.le_of_ble_eq_true rfl) dX11_isHabit_6 rfl rfl ⟨Nat.le_of_ble_eq_true rfl, Nat.le_of_ble_eq_true rfl⟩ ⟨Nat.zero_le _, Nat.zero_le _⟩ rfl (fun H locs hP hS => ?_)
  obtain ⟨u2, hu2, hf⟩ := ob_b hf
  obtain ⟨hz1, hz2⟩ := oz_ok hu2
  obtain rfl := Option.some.inj hf
  exact ret _ _ _ _ _ hz1 hz2 dX11_isHabit_9 hP hS

def f_X11_may (v_seats : Int32) (v_bearIs : Int32) (v_far : Nat → Int32) (x1 : Int32) : Option (Int32) :=
  (f_X11_isSet v_seats x1).bind (fun u1 =>
  if u1 = 0 then
  some (-2 : Int32)
  else
  (f_X11_isFilled v_seats v_bearIs v_far x1).bind (fun u3 =>
  (if u3 = 0 then
  some (-3 : Int32)
  else
  (f_X11_mayOf v_seats v_bearIs v_far x1).bind (fun u7 =>
  some (u7))).bind (fun w4 =>
  some (w4))))
set_option maxHeartbeats 4000000 in
set_option maxRecDepth 100000 in
theorem c_X11_may (l : Launch) (D : va_G) (cI cJ cZ cO : ClassId) (a_t a_signs a_links a_worths a_far a_mays a_rowsTo a_endIn a_ends a_pairSets a_awayIn a_now a_then a_comers a_seen a_seenMany a_kept a_isKept : Nat) (v_signMany : Int32) (v_seats : Int32) (v_bearIs : Int32) (v_rowsAll : Int64) (v_awayUpper : Int64) (v_lower : Int64) (v_comerMany : Int32) (v_seenRows : Int32) (v_place : Int32) (v_isWriting : Int32) (v_far : Nat → Int32) (x1 : Int32) (out : Int32) (hf : f_X11_may v_seats v_bearIs v_far x1 = some out) : MetR l yX11_may (Cond.code yX11_may cX11_may 2 (some .int) :: tbG) { frames := 3, cells := 0, slots := 0, locals := 68 } D (tyL cI cJ cZ cO) [.ref a_t, .int x1] [(a_t, .inr (11, [.ref a_signs, .int v_signMany, .int v_seats, .ref a_links, .ref a_worths, .int v_bearIs, .ref a_far, .ref a_mays, .ref a_rowsTo, .ref a_endIn, .long v_rowsAll, .ref a_ends, .ref a_pairSets, .ref a_awayIn, .ref a_now, .ref a_then, .long v_awayUpper, .long v_lower, .ref a_comers, .int v_comerMany, .ref a_seen, .ref a_seenMany, .int v_seenRows, .ref a_kept, .ref a_isKept, .int v_place, .int v_isWriting])), (a_far, eI cI 144 v_far)] (some (.int out)) [(a_t, .inr (11, [.ref a_signs, .int v_signMany, .int v_seats, .ref a_links, .ref a_worths, .int v_bearIs, .ref a_far, .ref a_mays, .ref a_rowsTo, .ref a_endIn, .long v_rowsAll, .ref a_ends, .ref a_pairSets, .ref a_awayIn, .ref a_now, .ref a_then, .long v_awayUpper, .long v_lower, .ref a_comers, .int v_comerMany, .ref a_seen, .ref a_seenMany, .int v_seenRows, .ref a_kept, .ref a_isKept, .int v_place, .int v_isWriting])), (a_far, eI cI 144 v_far)] := by
  refine ba_ofI RX11 [(0, .ref a_t), (1, .int x1)] (by decide +kernel) rfl (Nat.le_of_ble_eq_true rfl) rfl ?_
  intro p e s m args below meth c Q A Cx hP ret ls hl
  obtain ⟨⟨hx, hb, hml, hown, hts⟩, hK, hD, hA⟩ := id Cx
  have hS : va_S A s.heap s.heap [] := va_S.rf
  unfold f_X11_may at hf
  refine lv_aload_n hx hb dX11_may_0 rfl (lv_at hl 0 rfl) ?_
  refine lv_iload_n hx hb dX11_may_1 rfl (lv_at hl 1 rfl) ?_
  obtain ⟨u1, hu1, hf⟩ := ob_b hf
  refine iv_X11_127 (As := [.int x1]) (rest := []) (is := [0]) (q0 := 0) (X' := [(a_t, .inr (11, [.ref a_signs, .int v_signMany, .int v_seats, .ref a_links, .ref a_worths, .int v_bearIs, .ref a_far, .ref a_mays, .ref a_rowsTo, .ref a_endIn, .long v_rowsAll, .ref a_ends, .ref a_pairSets, .ref a_awayIn, .ref a_now, .ref a_then, .long v_awayUpper, .long v_lower, .ref a_comers, .int v_comerMany, .ref a_seen, .ref a_seenMany, .int v_seenRows, .ref a_kept, .ref a_isKept, .int v_place, .int v_isWriting])), (a_far, eI cI 144 v_far)]) Cx (c_X11_isSet l D cI cJ cZ cO a_t a_signs a_links a_worths a_far a_mays a_rowsTo a_endIn a_ends a_pairSets a_awayIn a_now a_then a_comers a_seen a_seenMany a_kept a_isKept v_signMany v_seats v_bearIs v_rowsAll v_awayUpper v_lower v_comerMany v_seenRows v_place v_isWriting x1 u1 hu1) hP hS rfl rfl rfl rfl rfl rfl rfl hl.1 (Nat.le_of_ble_eq_true rfl) dX11_may_2 rfl rfl ⟨Nat.le_of_ble_eq_true rfl, Nat.le_of_ble_eq_true rfl⟩ ⟨Nat.zero_le _, Nat.zero_le _⟩ rfl (fun H locs hP hS => ?_)
  refine lv_if_ne (tgt := 11) hx hb dX11_may_5 (by decide) (fun c2 => ?_) (fun c2 => ?_)
  · have hf := ob_f c2 hf
    refine lv_aload_n hx hb dX11_may_11 rfl (lv_at hl 0 rfl) ?_
    refine lv_iload_n hx hb dX11_may_12 rfl (lv_at hl 1 rfl) ?_
    obtain ⟨u3, hu3, hf⟩ := ob_b hf
    refine iv_X11_130 (As := [.int x1]) (rest := []) (is := [0, 1]) (q0 := 0) (X' := [(a_t, .inr (11, [.ref a_signs, .int v_signMany, .int v_seats, .ref a_links, .ref a_worths, .int v_bearIs, .ref a_far, .ref a_mays, .ref a_rowsTo, .ref a_endIn, .long v_rowsAll, .ref a_ends, .ref a_pairSets, .ref a_awayIn, .ref a_now, .ref a_then, .long v_awayUpper, .long v_lower, .ref a_comers, .int v_comerMany, .ref a_seen, .ref a_seenMany, .int v_seenRows, .ref a_kept, .ref a_isKept, .int v_place, .int v_isWriting])), (a_far, eI cI 144 v_far)]) Cx (c_X11_isFilled l D cI cJ cZ cO a_t a_signs a_links a_worths a_far a_mays a_rowsTo a_endIn a_ends a_pairSets a_awayIn a_now a_then a_comers a_seen a_seenMany a_kept a_isKept v_signMany v_seats v_bearIs v_rowsAll v_awayUpper v_lower v_comerMany v_seenRows v_place v_isWriting v_far x1 u3 hu3) hP hS rfl rfl rfl rfl rfl rfl rfl hl.1 (Nat.le_of_ble_eq_true rfl) dX11_may_13 rfl rfl ⟨Nat.le_of_ble_eq_true rfl, Nat.le_of_ble_eq_true rfl⟩ ⟨Nat.zero_le _, Nat.zero_le _⟩ rfl (fun H locs hP hS => ?_)
    refine ob_J (P := fun w4 => ∀ (H : Heap) (locs : List Loc) (ls : Array Slot), va_P D vwCl [(a_t, .inr (11, [.ref a_signs, .int v_signMany, .int v_seats, .ref a_links, .ref a_worths, .int v_bearIs, .ref a_far, .ref a_mays, .ref a_rowsTo, .ref a_endIn, .long v_rowsAll, .ref a_ends, .ref a_pairSets, .ref a_awayIn, .ref a_now, .ref a_then, .long v_awayUpper, .long v_lower, .ref a_comers, .int v_comerMany, .ref a_seen, .ref a_seenMany, .int v_seenRows, .ref a_kept, .ref a_isKept, .int v_place, .int v_isWriting])), (a_far, eI cI 144 v_far)] H → va_S A s.heap H locs → lv_has ls 2 [] → W p l e { frames := 3, cells := 0, slots := 0, locals := 68 } s m args below meth c H locs 0 0 Q (F0 m 29 ls [.int w4])) hf ?_ ?_
    · intro w4 hf H locs ls hP hS hl
      obtain rfl := Option.some.inj hf
      exact ret _ _ _ _ dX11_may_29 hP hS
    · intro J29_5 hf
      refine lv_if_eq (tgt := 27) hx hb dX11_may_16 (by decide) (fun c6 => ?_) (fun c6 => ?_)
      · have hf := ob_tk c6 hf
        refine lv_bipush (v := (-3)) hx hb dX11_may_27 (by decide) ?_
        exact J29_5 (-3 : Int32) hf _ _ _ hP hS (lv_sub hl [] rfl)
      · have hf := ob_fk c6 hf
        refine lv_aload_n hx hb dX11_may_19 rfl (lv_at hl 0 rfl) ?_
        refine lv_iload_n hx hb dX11_may_20 rfl (lv_at hl 1 rfl) ?_
        obtain ⟨u7, hu7, hf⟩ := ob_bk hf
        refine iv_X11_115 (As := [.int x1]) (rest := []) (is := [0, 1]) (q0 := 0) (X' := [(a_t, .inr (11, [.ref a_signs, .int v_signMany, .int v_seats, .ref a_links, .ref a_worths, .int v_bearIs, .ref a_far, .ref a_mays, .ref a_rowsTo, .ref a_endIn, .long v_rowsAll, .ref a_ends, .ref a_pairSets, .ref a_awayIn, .ref a_now, .ref a_then, .long v_awayUpper, .long v_lower, .ref a_comers, .int v_comerMany, .ref a_seen, .ref a_seenMany, .int v_seenRows, .ref a_kept, .ref a_isKept, .int v_place, .int v_isWriting])), (a_far, eI cI 144 v_far)]) Cx (c_X11_mayOf l D cI cJ cZ cO a_t a_signs a_links a_worths a_far a_mays a_rowsTo a_endIn a_ends a_pairSets a_awayIn a_now a_then a_comers a_seen a_seenMany a_kept a_isKept v_signMany v_seats v_bearIs v_rowsAll v_awayUpper v_lower v_comerMany v_seenRows v_place v_isWriting v_far x1 u7 hu7) hP hS rfl rfl rfl rfl rfl rfl rfl hl.1 (Nat.le_of_ble_eq_true rfl) dX11_may_21 rfl rfl ⟨Nat.le_of_ble_eq_true rfl, Nat.le_of_ble_eq_true rfl⟩ ⟨Nat.zero_le _, Nat.zero_le _⟩ rfl (fun H locs hP hS => ?_)
        refine lv_goto (tgt := 29) hx hb dX11_may_24 (by decide) ?_
        exact J29_5 u7 hf _ _ _ hP hS (lv_sub hl [] rfl)
  · have hf := ob_t c2 hf
    refine lv_bipush (v := (-2)) hx hb dX11_may_8 (by decide) ?_
    obtain rfl := Option.some.inj hf
    exact ret _ _ _ _ dX11_may_10 hP hS

def f_X11_takes (v_seats : Int32) (v_bearIs : Int32) (v_far : Nat → Int32) (v_worths : Nat → Int32) (x1 : Int32) (x2 : Int32) : Option (Int32) :=
  (f_X11_isSet v_seats x1).bind (fun u1 =>
  if u1 = 0 then
  some (-2 : Int32)
  else
  (f_X11_isHabit x2).bind (fun u3 =>
  if u3 = 0 then
  some (-2 : Int32)
  else
  (f_X11_isFilled v_seats v_bearIs v_far x1).bind (fun u5 =>
  (if u5 = 0 then
  some (-3 : Int32)
  else
  (f_X11_takenBy v_seats v_bearIs v_far v_worths x1 x2).bind (fun u9 =>
  some (u9))).bind (fun w6 =>
  some (w6)))))
set_option maxHeartbeats 4000000 in
set_option maxRecDepth 100000 in
theorem c_X11_takes (l : Launch) (D : va_G) (cI cJ cZ cO : ClassId) (a_t a_signs a_links a_worths a_far a_mays a_rowsTo a_endIn a_ends a_pairSets a_awayIn a_now a_then a_comers a_seen a_seenMany a_kept a_isKept : Nat) (v_signMany : Int32) (v_seats : Int32) (v_bearIs : Int32) (v_rowsAll : Int64) (v_awayUpper : Int64) (v_lower : Int64) (v_comerMany : Int32) (v_seenRows : Int32) (v_place : Int32) (v_isWriting : Int32) (v_far : Nat → Int32) (v_worths : Nat → Int32) (x1 : Int32) (x2 : Int32) (out : Int32) (hf : f_X11_takes v_seats v_bearIs v_far v_worths x1 x2 = some out) : MetR l yX11_takes (Cond.code yX11_takes cX11_takes 3 (some .int) :: tbG) { frames := 4, cells := 0, slots := 0, locals := 96 } D (tyL cI cJ cZ cO) [.ref a_t, .int x1, .int x2] [(a_t, .inr (11, [.ref a_signs, .int v_signMany, .int v_seats, .ref a_links, .ref a_worths, .int v_bearIs, .ref a_far, .ref a_mays, .ref a_rowsTo, .ref a_endIn, .long v_rowsAll, .ref a_ends, .ref a_pairSets, .ref a_awayIn, .ref a_now, .ref a_then, .long v_awayUpper, .long v_lower, .ref a_comers, .int v_comerMany, .ref a_seen, .ref a_seenMany, .int v_seenRows, .ref a_kept, .ref a_isKept, .int v_place, .int v_isWriting])), (a_far, eI cI 144 v_far), (a_worths, eI cI 12 v_worths)] (some (.int out)) [(a_t, .inr (11, [.ref a_signs, .int v_signMany, .int v_seats, .ref a_links, .ref a_worths, .int v_bearIs, .ref a_far, .ref a_mays, .ref a_rowsTo, .ref a_endIn, .long v_rowsAll, .ref a_ends, .ref a_pairSets, .ref a_awayIn, .ref a_now, .ref a_then, .long v_awayUpper, .long v_lower, .ref a_comers, .int v_comerMany, .ref a_seen, .ref a_seenMany, .int v_seenRows, .ref a_kept, .ref a_isKept, .int v_place, .int v_isWriting])), (a_far, eI cI 144 v_far), (a_worths, eI cI 12 v_worths)] := by
  refine ba_ofI RX11 [(0, .ref a_t), (1, .int x1), (2, .int x2)] (by decide +kernel) rfl (Nat.le_of_ble_eq_true rfl) rfl ?_
  intro p e s m args below meth c Q A Cx hP ret ls hl
  obtain ⟨⟨hx, hb, hml, hown, hts⟩, hK, hD, hA⟩ := id Cx
  have hS : va_S A s.heap s.heap [] := va_S.rf
  unfold f_X11_takes at hf
  refine lv_aload_n hx hb dX11_takes_0 rfl (lv_at hl 0 rfl) ?_
  refine lv_iload_n hx hb dX11_takes_1 rfl (lv_at hl 1 rfl) ?_
  obtain ⟨u1, hu1, hf⟩ := ob_b hf
  refine iv_X11_127 (As := [.int x1]) (rest := []) (is := [0]) (q0 := 0) (X' := [(a_t, .inr (11, [.ref a_signs, .int v_signMany, .int v_seats, .ref a_links, .ref a_worths, .int v_bearIs, .ref a_far, .ref a_mays, .ref a_rowsTo, .ref a_endIn, .long v_rowsAll, .ref a_ends, .ref a_pairSets, .ref a_awayIn, .ref a_now, .ref a_then, .long v_awayUpper, .long v_lower, .ref a_comers, .int v_comerMany, .ref a_seen, .ref a_seenMany, .int v_seenRows, .ref a_kept, .ref a_isKept, .int v_place, .int v_isWriting])), (a_far, eI cI 144 v_far), (a_worths, eI cI 12 v_worths)]) Cx (c_X11_isSet l D cI cJ cZ cO a_t a_signs a_links a_worths a_far a_mays a_rowsTo a_endIn a_ends a_pairSets a_awayIn a_now a_then a_comers a_seen a_seenMany a_kept a_isKept v_signMany v_seats v_bearIs v_rowsAll v_awayUpper v_lower v_comerMany v_seenRows v_place v_isWriting x1 u1 hu1) hP hS rfl rfl rfl rfl rfl rfl rfl hl.1 (Nat.le_of_ble_eq_true rfl) dX11_takes_2 rfl rfl ⟨Nat.le_of_ble_eq_true rfl, Nat.le_of_ble_eq_true rfl⟩ ⟨Nat.zero_le _, Nat.zero_le _⟩ rfl (fun H locs hP hS => ?_)
  refine lv_if_eq (tgt := 15) hx hb dX11_takes_5 (by decide) (fun c2 => ?_) (fun c2 => ?_)
  · have hf := ob_t c2 hf
    refine lv_bipush (v := (-2)) hx hb dX11_takes_15 (by decide) ?_
    obtain rfl := Option.some.inj hf
    exact ret _ _ _ _ dX11_takes_17 hP hS
  · have hf := ob_f c2 hf
    refine lv_iload_n hx hb dX11_takes_8 rfl (lv_at hl 2 rfl) ?_
    obtain ⟨u3, hu3, hf⟩ := ob_b hf
    refine iv_X11_133 (As := [.int x2]) (rest := []) (is := []) (X' := [(a_t, .inr (11, [.ref a_signs, .int v_signMany, .int v_seats, .ref a_links, .ref a_worths, .int v_bearIs, .ref a_far, .ref a_mays, .ref a_rowsTo, .ref a_endIn, .long v_rowsAll, .ref a_ends, .ref a_pairSets, .ref a_awayIn, .ref a_now, .ref a_then, .long v_awayUpper, .long v_lower, .ref a_comers, .int v_comerMany, .ref a_seen, .ref a_seenMany, .int v_seenRows, .ref a_kept, .ref a_isKept, .int v_place, .int v_isWriting])), (a_far, eI cI 144 v_far), (a_worths, eI cI 12 v_worths)]) Cx (c_X11_isHabit l D cI cJ cZ cO  x2 u3 hu3) hP hS rfl rfl rfl rfl rfl rfl hl.1 (Nat.le_of_ble_eq_true rfl) dX11_takes_9 rfl rfl ⟨Nat.le_of_ble_eq_true rfl, Nat.le_of_ble_eq_true rfl⟩ ⟨Nat.zero_le _, Nat.zero_le _⟩ rfl (fun H locs hP hS => ?_)
    refine lv_if_ne (tgt := 18) hx hb dX11_takes_12 (by decide) (fun c4 => ?_) (fun c4 => ?_)
    · have hf := ob_f c4 hf
      refine lv_aload_n hx hb dX11_takes_18 rfl (lv_at hl 0 rfl) ?_
      refine lv_iload_n hx hb dX11_takes_19 rfl (lv_at hl 1 rfl) ?_
      obtain ⟨u5, hu5, hf⟩ := ob_b hf
      refine iv_X11_130 (As := [.int x1]) (rest := []) (is := [0, 1]) (q0 := 0) (X' := [(a_t, .inr (11, [.ref a_signs, .int v_signMany, .int v_seats, .ref a_links, .ref a_worths, .int v_bearIs, .ref a_far, .ref a_mays, .ref a_rowsTo, .ref a_endIn, .long v_rowsAll, .ref a_ends, .ref a_pairSets, .ref a_awayIn, .ref a_now, .ref a_then, .long v_awayUpper, .long v_lower, .ref a_comers, .int v_comerMany, .ref a_seen, .ref a_seenMany, .int v_seenRows, .ref a_kept, .ref a_isKept, .int v_place, .int v_isWriting])), (a_far, eI cI 144 v_far), (a_worths, eI cI 12 v_worths)]) Cx (c_X11_isFilled l D cI cJ cZ cO a_t a_signs a_links a_worths a_far a_mays a_rowsTo a_endIn a_ends a_pairSets a_awayIn a_now a_then a_comers a_seen a_seenMany a_kept a_isKept v_signMany v_seats v_bearIs v_rowsAll v_awayUpper v_lower v_comerMany v_seenRows v_place v_isWriting v_far x1 u5 hu5) hP hS rfl rfl rfl rfl rfl rfl rfl hl.1 (Nat.le_of_ble_eq_true rfl) dX11_takes_20 rfl rfl ⟨Nat.le_of_ble_eq_true rfl, Nat.le_of_ble_eq_true rfl⟩ ⟨Nat.zero_le _, Nat.zero_le _⟩ rfl (fun H locs hP hS => ?_)
      refine ob_J (P := fun w6 => ∀ (H : Heap) (locs : List Loc) (ls : Array Slot), va_P D vwCl [(a_t, .inr (11, [.ref a_signs, .int v_signMany, .int v_seats, .ref a_links, .ref a_worths, .int v_bearIs, .ref a_far, .ref a_mays, .ref a_rowsTo, .ref a_endIn, .long v_rowsAll, .ref a_ends, .ref a_pairSets, .ref a_awayIn, .ref a_now, .ref a_then, .long v_awayUpper, .long v_lower, .ref a_comers, .int v_comerMany, .ref a_seen, .ref a_seenMany, .int v_seenRows, .ref a_kept, .ref a_isKept, .int v_place, .int v_isWriting])), (a_far, eI cI 144 v_far), (a_worths, eI cI 12 v_worths)] H → va_S A s.heap H locs → lv_has ls 3 [] → W p l e { frames := 4, cells := 0, slots := 0, locals := 96 } s m args below meth c H locs 0 0 Q (F0 m 37 ls [.int w6])) hf ?_ ?_
      · intro w6 hf H locs ls hP hS hl
        obtain rfl := Option.some.inj hf
        exact ret _ _ _ _ dX11_takes_37 hP hS
      · intro J37_7 hf
        refine lv_if_eq (tgt := 35) hx hb dX11_takes_23 (by decide) (fun c8 => ?_) (fun c8 => ?_)
        · have hf := ob_tk c8 hf
          refine lv_bipush (v := (-3)) hx hb dX11_takes_35 (by decide) ?_
          exact J37_7 (-3 : Int32) hf _ _ _ hP hS (lv_sub hl [] rfl)
        · have hf := ob_fk c8 hf
          refine lv_aload_n hx hb dX11_takes_26 rfl (lv_at hl 0 rfl) ?_
          refine lv_iload_n hx hb dX11_takes_27 rfl (lv_at hl 1 rfl) ?_
          refine lv_iload_n hx hb dX11_takes_28 rfl (lv_at hl 2 rfl) ?_
          obtain ⟨u9, hu9, hf⟩ := ob_bk hf
          refine iv_X11_122 (As := [.int x1, .int x2]) (rest := []) (is := [0, 1, 2]) (q0 := 0) (X' := [(a_t, .inr (11, [.ref a_signs, .int v_signMany, .int v_seats, .ref a_links, .ref a_worths, .int v_bearIs, .ref a_far, .ref a_mays, .ref a_rowsTo, .ref a_endIn, .long v_rowsAll, .ref a_ends, .ref a_pairSets, .ref a_awayIn, .ref a_now, .ref a_then, .long v_awayUpper, .long v_lower, .ref a_comers, .int v_comerMany, .ref a_seen, .ref a_seenMany, .int v_seenRows, .ref a_kept, .ref a_isKept, .int v_place, .int v_isWriting])), (a_far, eI cI 144 v_far), (a_worths, eI cI 12 v_worths)]) Cx (c_X11_takenBy l D cI cJ cZ cO a_t a_signs a_links a_worths a_far a_mays a_rowsTo a_endIn a_ends a_pairSets a_awayIn a_now a_then a_comers a_seen a_seenMany a_kept a_isKept v_signMany v_seats v_bearIs v_rowsAll v_awayUpper v_lower v_comerMany v_seenRows v_place v_isWriting v_far v_worths x1 x2 u9 hu9) hP hS rfl rfl rfl rfl rfl rfl rfl hl.1 (Nat.le_of_ble_eq_true rfl) dX11_takes_29 rfl rfl ⟨Nat.le_of_ble_eq_true rfl, Nat.le_of_ble_eq_true rfl⟩ ⟨Nat.zero_le _, Nat.zero_le _⟩ rfl (fun H locs hP hS => ?_)
          refine lv_goto (tgt := 37) hx hb dX11_takes_32 (by decide) ?_
          exact J37_7 u9 hf _ _ _ hP hS (lv_sub hl [] rfl)
    · have hf := ob_t c4 hf
      refine lv_bipush (v := (-2)) hx hb dX11_takes_15 (by decide) ?_
      obtain rfl := Option.some.inj hf
      exact ret _ _ _ _ dX11_takes_17 hP hS

def f_X11_fill (v_seats : Int32) (v_bearIs : Int32) (v_far : Nat → Int32) (v_worths : Nat → Int32) (x1 : Int32) (x2 : Int32) : Option (Int32) :=
  (f_X11_isSet v_seats x1).bind (fun u1 =>
  if u1 = 0 then
  some (-2 : Int32)
  else
  (f_X11_isHabit x2).bind (fun u3 =>
  if u3 = 0 then
  some (-2 : Int32)
  else
  (f_X11_isFilled v_seats v_bearIs v_far x1).bind (fun u5 =>
  (if u5 = 0 then
  some (-3 : Int32)
  else
  (f_X11_filledBy v_seats v_bearIs v_far v_worths x1 x2).bind (fun u9 =>
  some (u9))).bind (fun w6 =>
  some (w6)))))
set_option maxHeartbeats 4000000 in
set_option maxRecDepth 100000 in
theorem c_X11_fill (l : Launch) (D : va_G) (cI cJ cZ cO : ClassId) (a_t a_signs a_links a_worths a_far a_mays a_rowsTo a_endIn a_ends a_pairSets a_awayIn a_now a_then a_comers a_seen a_seenMany a_kept a_isKept : Nat) (v_signMany : Int32) (v_seats : Int32) (v_bearIs : Int32) (v_rowsAll : Int64) (v_awayUpper : Int64) (v_lower : Int64) (v_comerMany : Int32) (v_seenRows : Int32) (v_place : Int32) (v_isWriting : Int32) (v_far : Nat → Int32) (v_worths : Nat → Int32) (x1 : Int32) (x2 : Int32) (out : Int32) (hf : f_X11_fill v_seats v_bearIs v_far v_worths x1 x2 = some out) : MetR l yX11_fill (Cond.code yX11_fill cX11_fill 3 (some .int) :: tbG) { frames := 5, cells := 0, slots := 0, locals := 120 } D (tyL cI cJ cZ cO) [.ref a_t, .int x1, .int x2] [(a_t, .inr (11, [.ref a_signs, .int v_signMany, .int v_seats, .ref a_links, .ref a_worths, .int v_bearIs, .ref a_far, .ref a_mays, .ref a_rowsTo, .ref a_endIn, .long v_rowsAll, .ref a_ends, .ref a_pairSets, .ref a_awayIn, .ref a_now, .ref a_then, .long v_awayUpper, .long v_lower, .ref a_comers, .int v_comerMany, .ref a_seen, .ref a_seenMany, .int v_seenRows, .ref a_kept, .ref a_isKept, .int v_place, .int v_isWriting])), (a_far, eI cI 144 v_far), (a_worths, eI cI 12 v_worths)] (some (.int out)) [(a_t, .inr (11, [.ref a_signs, .int v_signMany, .int v_seats, .ref a_links, .ref a_worths, .int v_bearIs, .ref a_far, .ref a_mays, .ref a_rowsTo, .ref a_endIn, .long v_rowsAll, .ref a_ends, .ref a_pairSets, .ref a_awayIn, .ref a_now, .ref a_then, .long v_awayUpper, .long v_lower, .ref a_comers, .int v_comerMany, .ref a_seen, .ref a_seenMany, .int v_seenRows, .ref a_kept, .ref a_isKept, .int v_place, .int v_isWriting])), (a_far, eI cI 144 v_far), (a_worths, eI cI 12 v_worths)] := by
  refine ba_ofI RX11 [(0, .ref a_t), (1, .int x1), (2, .int x2)] (by decide +kernel) rfl (Nat.le_of_ble_eq_true rfl) rfl ?_
  intro p e s m args below meth c Q A Cx hP ret ls hl
  obtain ⟨⟨hx, hb, hml, hown, hts⟩, hK, hD, hA⟩ := id Cx
  have hS : va_S A s.heap s.heap [] := va_S.rf
  unfold f_X11_fill at hf
  refine lv_aload_n hx hb dX11_fill_0 rfl (lv_at hl 0 rfl) ?_
  refine lv_iload_n hx hb dX11_fill_1 rfl (lv_at hl 1 rfl) ?_
  obtain ⟨u1, hu1, hf⟩ := ob_b hf
  refine iv_X11_127 (As := [.int x1]) (rest := []) (is := [0]) (q0 := 0) (X' := [(a_t, .inr (11, [.ref a_signs, .int v_signMany, .int v_seats, .ref a_links, .ref a_worths, .int v_bearIs, .ref a_far, .ref a_mays, .ref a_rowsTo, .ref a_endIn, .long v_rowsAll, .ref a_ends, .ref a_pairSets, .ref a_awayIn, .ref a_now, .ref a_then, .long v_awayUpper, .long v_lower, .ref a_comers, .int v_comerMany, .ref a_seen, .ref a_seenMany, .int v_seenRows, .ref a_kept, .ref a_isKept, .int v_place, .int v_isWriting])), (a_far, eI cI 144 v_far), (a_worths, eI cI 12 v_worths)]) Cx (c_X11_isSet l D cI cJ cZ cO a_t a_signs a_links a_worths a_far a_mays a_rowsTo a_endIn a_ends a_pairSets a_awayIn a_now a_then a_comers a_seen a_seenMany a_kept a_isKept v_signMany v_seats v_bearIs v_rowsAll v_awayUpper v_lower v_comerMany v_seenRows v_place v_isWriting x1 u1 hu1) hP hS rfl rfl rfl rfl rfl rfl rfl hl.1 (Nat.le_of_ble_eq_true rfl) dX11_fill_2 rfl rfl ⟨Nat.le_of_ble_eq_true rfl, Nat.le_of_ble_eq_true rfl⟩ ⟨Nat.zero_le _, Nat.zero_le _⟩ rfl (fun H locs hP hS => ?_)
  refine lv_if_eq (tgt := 15) hx hb dX11_fill_5 (by decide) (fun c2 => ?_) (fun c2 => ?_)
  · have hf := ob_t c2 hf
    refine lv_bipush (v := (-2)) hx hb dX11_fill_15 (by decide) ?_
    obtain rfl := Option.some.inj hf
    exact ret _ _ _ _ dX11_fill_17 hP hS
  · have hf := ob_f c2 hf
    refine lv_iload_n hx hb dX11_fill_8 rfl (lv_at hl 2 rfl) ?_
    obtain ⟨u3, hu3, hf⟩ := ob_b hf
    refine iv_X11_133 (As := [.int x2]) (rest := []) (is := []) (X' := [(a_t, .inr (11, [.ref a_signs, .int v_signMany, .int v_seats, .ref a_links, .ref a_worths, .int v_bearIs, .ref a_far, .ref a_mays, .ref a_rowsTo, .ref a_endIn, .long v_rowsAll, .ref a_ends, .ref a_pairSets, .ref a_awayIn, .ref a_now, .ref a_then, .long v_awayUpper, .long v_lower, .ref a_comers, .int v_comerMany, .ref a_seen, .ref a_seenMany, .int v_seenRows, .ref a_kept, .ref a_isKept, .int v_place, .int v_isWriting])), (a_far, eI cI 144 v_far), (a_worths, eI cI 12 v_worths)]) Cx (c_X11_isHabit l D cI cJ cZ cO  x2 u3 hu3) hP hS rfl rfl rfl rfl rfl rfl hl.1 (Nat.le_of_ble_eq_true rfl) dX11_fill_9 rfl rfl ⟨Nat.le_of_ble_eq_true rfl, Nat.le_of_ble_eq_true rfl⟩ ⟨Nat.zero_le _, Nat.zero_le _⟩ rfl (fun H locs hP hS => ?_)
    refine lv_if_ne (tgt := 18) hx hb dX11_fill_12 (by decide) (fun c4 => ?_) (fun c4 => ?_)
    · have hf := ob_f c4 hf
      refine lv_aload_n hx hb dX11_fill_18 rfl (lv_at hl 0 rfl) ?_
      refine lv_iload_n hx hb dX11_fill_19 rfl (lv_at hl 1 rfl) ?_
      obtain ⟨u5, hu5, hf⟩ := ob_b hf
      refine iv_X11_130 (As := [.int x1]) (rest := []) (is := [0, 1]) (q0 := 0) (X' := [(a_t, .inr (11, [.ref a_signs, .int v_signMany, .int v_seats, .ref a_links, .ref a_worths, .int v_bearIs, .ref a_far, .ref a_mays, .ref a_rowsTo, .ref a_endIn, .long v_rowsAll, .ref a_ends, .ref a_pairSets, .ref a_awayIn, .ref a_now, .ref a_then, .long v_awayUpper, .long v_lower, .ref a_comers, .int v_comerMany, .ref a_seen, .ref a_seenMany, .int v_seenRows, .ref a_kept, .ref a_isKept, .int v_place, .int v_isWriting])), (a_far, eI cI 144 v_far), (a_worths, eI cI 12 v_worths)]) Cx (c_X11_isFilled l D cI cJ cZ cO a_t a_signs a_links a_worths a_far a_mays a_rowsTo a_endIn a_ends a_pairSets a_awayIn a_now a_then a_comers a_seen a_seenMany a_kept a_isKept v_signMany v_seats v_bearIs v_rowsAll v_awayUpper v_lower v_comerMany v_seenRows v_place v_isWriting v_far x1 u5 hu5) hP hS rfl rfl rfl rfl rfl rfl rfl hl.1 (Nat.le_of_ble_eq_true rfl) dX11_fill_20 rfl rfl ⟨Nat.le_of_ble_eq_true rfl, Nat.le_of_ble_eq_true rfl⟩ ⟨Nat.zero_le _, Nat.zero_le _⟩ rfl (fun H locs hP hS => ?_)
      refine ob_J (P := fun w6 => ∀ (H : Heap) (locs : List Loc) (ls : Array Slot), va_P D vwCl [(a_t, .inr (11, [.ref a_signs, .int v_signMany, .int v_seats, .ref a_links, .ref a_worths, .int v_bearIs, .ref a_far, .ref a_mays, .ref a_rowsTo, .ref a_endIn, .long v_rowsAll, .ref a_ends, .ref a_pairSets, .ref a_awayIn, .ref a_now, .ref a_then, .long v_awayUpper, .long v_lower, .ref a_comers, .int v_comerMany, .ref a_seen, .ref a_seenMany, .int v_seenRows, .ref a_kept, .ref a_isKept, .int v_place, .int v_isWriting])), (a_far, eI cI 144 v_far), (a_worths, eI cI 12 v_worths)] H → va_S A s.heap H locs → lv_has ls 3 [] → W p l e { frames := 5, cells := 0, slots := 0, locals := 120 } s m args below meth c H locs 0 0 Q (F0 m 37 ls [.int w6])) hf ?_ ?_
      · intro w6 hf H locs ls hP hS hl
        obtain rfl := Option.some.inj hf
        exact ret _ _ _ _ dX11_fill_37 hP hS
      · intro J37_7 hf
        refine lv_if_eq (tgt := 35) hx hb dX11_fill_23 (by decide) (fun c8 => ?_) (fun c8 => ?_)
        · have hf := ob_tk c8 hf
          refine lv_bipush (v := (-3)) hx hb dX11_fill_35 (by decide) ?_
          exact J37_7 (-3 : Int32) hf _ _ _ hP hS (lv_sub hl [] rfl)
        · have hf := ob_fk c8 hf
          refine lv_aload_n hx hb dX11_fill_26 rfl (lv_at hl 0 rfl) ?_
          refine lv_iload_n hx hb dX11_fill_27 rfl (lv_at hl 1 rfl) ?_
          refine lv_iload_n hx hb dX11_fill_28 rfl (lv_at hl 2 rfl) ?_
          obtain ⟨u9, hu9, hf⟩ := ob_bk hf
          refine iv_X11_136 (As := [.int x1, .int x2]) (rest := []) (is := [0, 1, 2]) (q0 := 0) (X' := [(a_t, .inr (11, [.ref a_signs, .int v_signMany, .int v_seats, .ref a_links, .ref a_worths, .int v_bearIs, .ref a_far, .ref a_mays, .ref a_rowsTo, .ref a_endIn, .long v_rowsAll, .ref a_ends, .ref a_pairSets, .ref a_awayIn, .ref a_now, .ref a_then, .long v_awayUpper, .long v_lower, .ref a_comers, .int v_comerMany, .ref a_seen, .ref a_seenMany, .int v_seenRows, .ref a_kept, .ref a_isKept, .int v_place, .int v_isWriting])), (a_far, eI cI 144 v_far), (a_worths, eI cI 12 v_worths)]) Cx (c_X11_filledBy l D cI cJ cZ cO a_t a_signs a_links a_worths a_far a_mays a_rowsTo a_endIn a_ends a_pairSets a_awayIn a_now a_then a_comers a_seen a_seenMany a_kept a_isKept v_signMany v_seats v_bearIs v_rowsAll v_awayUpper v_lower v_comerMany v_seenRows v_place v_isWriting v_far v_worths x1 x2 u9 hu9) hP hS rfl rfl rfl rfl rfl rfl rfl hl.1 (Nat.le_of_ble_eq_true rfl) dX11_fill_29 rfl rfl ⟨Nat.le_of_ble_eq_true rfl, Nat.le_of_ble_eq_true rfl⟩ ⟨Nat.zero_le _, Nat.zero_le _⟩ rfl (fun H locs hP hS => ?_)
          refine lv_goto (tgt := 37) hx hb dX11_fill_32 (by decide) ?_
          exact J37_7 u9 hf _ _ _ hP hS (lv_sub hl [] rfl)
    · have hf := ob_t c4 hf
      refine lv_bipush (v := (-2)) hx hb dX11_fill_15 (by decide) ?_
      obtain rfl := Option.some.inj hf
      exact ret _ _ _ _ dX11_fill_17 hP hS

def f_X11_findMays_9 (v_seats : Int32) (v_bearIs : Int32) (v_far : Nat → Int32) : Nat → Int32 → (Nat → Int32) → Option ((Nat → Int32))
  | 0, _, _ => none
  | n + 1, y2_9, z_mays_9 =>
  if ((1 : Int32) <<< (v_seats &&& 31)) ≤ y2_9 then
  some (z_mays_9)
  else
  (f_X11_isFilled v_seats v_bearIs v_far y2_9).bind (fun u3 =>
  (if u3 = 0 then
  some (-6 : Int32)
  else
  (f_X11_mayOf v_seats v_bearIs v_far y2_9).bind (fun u8 =>
  some (u8))).bind (fun w4 =>
  (asetI 4096 z_mays_9 y2_9 w4).bind (fun u6 =>
  f_X11_findMays_9 v_seats v_bearIs v_far n (y2_9 + 1) u6)))
theorem f_X11_findMays_9_s (v_seats : Int32) (v_bearIs : Int32) (v_far : Nat → Int32) (n : Nat) (y2_9 : Int32) (z_mays_9 : Nat → Int32) : f_X11_findMays_9 v_seats v_bearIs v_far (n + 1) y2_9 z_mays_9 =
  (if ((1 : Int32) <<< (v_seats &&& 31)) ≤ y2_9 then
  some (z_mays_9)
  else
  (f_X11_isFilled v_seats v_bearIs v_far y2_9).bind (fun u3 =>
  (if u3 = 0 then
  some (-6 : Int32)
  else
  (f_X11_mayOf v_seats v_bearIs v_far y2_9).bind (fun u8 =>
  some (u8))).bind (fun w4 =>
  (asetI 4096 z_mays_9 y2_9 w4).bind (fun u6 =>
  f_X11_findMays_9 v_seats v_bearIs v_far n (y2_9 + 1) u6)))) := rfl
def f_X11_findMays (v_seats : Int32) (v_bearIs : Int32) (v_far : Nat → Int32) (v_mays : Nat → Int32) : Option (Int32 × (Nat → Int32)) :=
  (f_X11_findMays_9 v_seats v_bearIs v_far FU (0 : Int32) v_mays).bind (fun u9 =>
  some (((1 : Int32) <<< (v_seats &&& 31)), u9))
set_option maxHeartbeats 4000000 in
set_option maxRecDepth 100000 in
theorem c_X11_findMays (l : Launch) (D : va_G) (cI cJ cZ cO : ClassId) (a_t a_signs a_links a_worths a_far a_mays a_rowsTo a_endIn a_ends a_pairSets a_awayIn a_now a_then a_comers a_seen a_seenMany a_kept a_isKept : Nat) (v_signMany : Int32) (v_seats : Int32) (v_bearIs : Int32) (v_rowsAll : Int64) (v_awayUpper : Int64) (v_lower : Int64) (v_comerMany : Int32) (v_seenRows : Int32) (v_place : Int32) (v_isWriting : Int32) (v_far : Nat → Int32) (v_mays : Nat → Int32) (out : Int32 × (Nat → Int32)) (hf : f_X11_findMays v_seats v_bearIs v_far v_mays = some out) : MetR l yX11_findMays (Cond.code yX11_findMays cX11_findMays 3 (some .int) :: tbG) { frames := 3, cells := 0, slots := 0, locals := 68 } D (tyL cI cJ cZ cO) [.ref a_t] [(a_t, .inr (11, [.ref a_signs, .int v_signMany, .int v_seats, .ref a_links, .ref a_worths, .int v_bearIs, .ref a_far, .ref a_mays, .ref a_rowsTo, .ref a_endIn, .long v_rowsAll, .ref a_ends, .ref a_pairSets, .ref a_awayIn, .ref a_now, .ref a_then, .long v_awayUpper, .long v_lower, .ref a_comers, .int v_comerMany, .ref a_seen, .ref a_seenMany, .int v_seenRows, .ref a_kept, .ref a_isKept, .int v_place, .int v_isWriting])), (a_far, eI cI 144 v_far), (a_mays, eI cI 4096 v_mays)] (some (.int out.1)) [(a_t, .inr (11, [.ref a_signs, .int v_signMany, .int v_seats, .ref a_links, .ref a_worths, .int v_bearIs, .ref a_far, .ref a_mays, .ref a_rowsTo, .ref a_endIn, .long v_rowsAll, .ref a_ends, .ref a_pairSets, .ref a_awayIn, .ref a_now, .ref a_then, .long v_awayUpper, .long v_lower, .ref a_comers, .int v_comerMany, .ref a_seen, .ref a_seenMany, .int v_seenRows, .ref a_kept, .ref a_isKept, .int v_place, .int v_isWriting])), (a_far, eI cI 144 v_far), (a_mays, eI cI 4096 out.2)] := by
  refine ba_ofI RX11 [(0, .ref a_t)] (by decide +kernel) rfl (Nat.le_of_ble_eq_true rfl) rfl ?_
  intro p e s m args below meth c Q A Cx hP ret ls hl
  obtain ⟨⟨hx, hb, hml, hown, hts⟩, hK, hD, hA⟩ := id Cx
  have hS : va_S A s.heap s.heap [] := va_S.rf
  unfold f_X11_findMays at hf
  refine lv_iconst (v := 1) hx hb dX11_findMays_0 (by decide) ?_
  refine lv_aload_n hx hb dX11_findMays_1 rfl (lv_at hl 0 rfl) ?_
  refine gf_X11_63 Cx hP 0 rfl rfl dX11_findMays_2 ?_
  refine lv_ishl hx hb dX11_findMays_5 ?_
  refine lv_istore_n (lv' := [(1, .int ((1 : Int32) <<< (v_seats &&& 31))), (0, .ref a_t)]) hx hb dX11_findMays_6 rfl hl (by decide) rfl (fun ls hl => ?_)
  refine lv_iconst (v := 0) hx hb dX11_findMays_7 (by decide) ?_
  refine lv_istore_n (lv' := [(2, .int (0 : Int32)), (1, .int ((1 : Int32) <<< (v_seats &&& 31))), (0, .ref a_t)]) hx hb dX11_findMays_8 rfl hl (by decide) rfl (fun ls hl => ?_)
  have L9_1 : ∀ (n : Nat) (y2_9 : Int32) (z_mays_9 : Nat → Int32) (o : (Nat → Int32)) (H : Heap) (locs : List Loc) (ls : Array Slot), f_X11_findMays_9 v_seats v_bearIs v_far n y2_9 z_mays_9 = some o → va_P D vwCl [(a_t, .inr (11, [.ref a_signs, .int v_signMany, .int v_seats, .ref a_links, .ref a_worths, .int v_bearIs, .ref a_far, .ref a_mays, .ref a_rowsTo, .ref a_endIn, .long v_rowsAll, .ref a_ends, .ref a_pairSets, .ref a_awayIn, .ref a_now, .ref a_then, .long v_awayUpper, .long v_lower, .ref a_comers, .int v_comerMany, .ref a_seen, .ref a_seenMany, .int v_seenRows, .ref a_kept, .ref a_isKept, .int v_place, .int v_isWriting])), (a_far, eI cI 144 v_far), (a_mays, eI cI 4096 z_mays_9)] H → va_S A s.heap H locs → lv_has ls 3 [(0, .ref a_t), (1, .int ((1 : Int32) <<< (v_seats &&& 31))), (2, .int y2_9)] → (∀ (H : Heap) (locs : List Loc) (ls : Array Slot), va_P D vwCl [(a_t, .inr (11, [.ref a_signs, .int v_signMany, .int v_seats, .ref a_links, .ref a_worths, .int v_bearIs, .ref a_far, .ref a_mays, .ref a_rowsTo, .ref a_endIn, .long v_rowsAll, .ref a_ends, .ref a_pairSets, .ref a_awayIn, .ref a_now, .ref a_then, .long v_awayUpper, .long v_lower, .ref a_comers, .int v_comerMany, .ref a_seen, .ref a_seenMany, .int v_seenRows, .ref a_kept, .ref a_isKept, .int v_place, .int v_isWriting])), (a_far, eI cI 144 v_far), (a_mays, eI cI 4096 o)] H → va_S A s.heap H locs → lv_has ls 3 [(1, .int ((1 : Int32) <<< (v_seats &&& 31)))] → W p l e { frames := 3, cells := 0, slots := 0, locals := 68 } s m args below meth c H locs 0 0 Q (F0 m 44 ls [])) → W p l e { frames := 3, cells := 0, slots := 0, locals := 68 } s m args below meth c H locs 0 0 Q (F0 m 9 ls []) := by
    intro n
    induction n with
    | zero => intro y2_9 z_mays_9 o H locs ls hf; exact (ob_n hf).elim
    | succ n ih =>
      intro y2_9 z_mays_9 o H locs ls hf hP hS hl kk
      rw [f_X11_findMays_9_s] at hf
      refine lv_iload_n hx hb dX11_findMays_9 rfl (lv_at hl 2 rfl) ?_
      refine lv_iload_n hx hb dX11_findMays_10 rfl (lv_at hl 1 rfl) ?_
      refine lv_icmp_ge (tgt := 44) hx hb dX11_findMays_11 (by decide) (fun c2 => ?_) (fun c2 => ?_)
      · have hf := ob_t c2 hf
        obtain rfl := Option.some.inj hf
        exact kk _ _ _ hP hS (lv_sub hl [1] rfl)
      · have hf := ob_f c2 hf
        refine lv_aload_n hx hb dX11_findMays_14 rfl (lv_at hl 0 rfl) ?_
        refine gf_X11_22 Cx hP 0 rfl rfl dX11_findMays_15 ?_
        refine lv_iload_n hx hb dX11_findMays_18 rfl (lv_at hl 2 rfl) ?_
        refine lv_aload_n hx hb dX11_findMays_19 rfl (lv_at hl 0 rfl) ?_
        refine lv_iload_n hx hb dX11_findMays_20 rfl (lv_at hl 2 rfl) ?_
        obtain ⟨u3, hu3, hf⟩ := ob_b hf
        refine iv_X11_130 (As := [.int y2_9]) (rest := [.int y2_9, .ref a_mays]) (is := [0, 1]) (q0 := 0) (X' := [(a_t, .inr (11, [.ref a_signs, .int v_signMany, .int v_seats, .ref a_links, .ref a_worths, .int v_bearIs, .ref a_far, .ref a_mays, .ref a_rowsTo, .ref a_endIn, .long v_rowsAll, .ref a_ends, .ref a_pairSets, .ref a_awayIn, .ref a_now, .ref a_then, .long v_awayUpper, .long v_lower, .ref a_comers, .int v_comerMany, .ref a_seen, .ref a_seenMany, .int v_seenRows, .ref a_kept, .ref a_isKept, .int v_place, .int v_isWriting])), (a_far, eI cI 144 v_far), (a_mays, eI cI 4096 z_mays_9)]) Cx (c_X11_isFilled l D cI cJ cZ cO a_t a_signs a_links a_worths a_far a_mays a_rowsTo a_endIn a_ends a_pairSets a_awayIn a_now a_then a_comers a_seen a_seenMany a_kept a_isKept v_signMany v_seats v_bearIs v_rowsAll v_awayUpper v_lower v_comerMany v_seenRows v_place v_isWriting v_far y2_9 u3 hu3) hP hS rfl rfl rfl rfl rfl rfl rfl hl.1 (Nat.le_of_ble_eq_true rfl) dX11_findMays_21 rfl rfl ⟨Nat.le_of_ble_eq_true rfl, Nat.le_of_ble_eq_true rfl⟩ ⟨Nat.zero_le _, Nat.zero_le _⟩ rfl (fun H locs hP hS => ?_)
        refine ob_J (P := fun w4 => ∀ (H : Heap) (locs : List Loc) (ls : Array Slot), va_P D vwCl [(a_t, .inr (11, [.ref a_signs, .int v_signMany, .int v_seats, .ref a_links, .ref a_worths, .int v_bearIs, .ref a_far, .ref a_mays, .ref a_rowsTo, .ref a_endIn, .long v_rowsAll, .ref a_ends, .ref a_pairSets, .ref a_awayIn, .ref a_now, .ref a_then, .long v_awayUpper, .long v_lower, .ref a_comers, .int v_comerMany, .ref a_seen, .ref a_seenMany, .int v_seenRows, .ref a_kept, .ref a_isKept, .int v_place, .int v_isWriting])), (a_far, eI cI 144 v_far), (a_mays, eI cI 4096 z_mays_9)] H → va_S A s.heap H locs → lv_has ls 3 [(0, .ref a_t), (1, .int ((1 : Int32) <<< (v_seats &&& 31))), (2, .int y2_9)] → W p l e { frames := 3, cells := 0, slots := 0, locals := 68 } s m args below meth c H locs 0 0 Q (F0 m 37 ls [.int w4, .int y2_9, .ref a_mays])) hf ?_ ?_
        · intro w4 hf H locs ls hP hS hl
          obtain ⟨u6, hu6, hf⟩ := ob_b hf
          refine ba_iast (X' := [(a_t, .inr (11, [.ref a_signs, .int v_signMany, .int v_seats, .ref a_links, .ref a_worths, .int v_bearIs, .ref a_far, .ref a_mays, .ref a_rowsTo, .ref a_endIn, .long v_rowsAll, .ref a_ends, .ref a_pairSets, .ref a_awayIn, .ref a_now, .ref a_then, .long v_awayUpper, .long v_lower, .ref a_comers, .int v_comerMany, .ref a_seen, .ref a_seenMany, .int v_seenRows, .ref a_kept, .ref a_isKept, .int v_place, .int v_isWriting])), (a_far, eI cI 144 v_far), (a_mays, eI cI 4096 u6)]) Cx hP hS rfl 2 rfl rfl hu6 dX11_findMays_37 (fun H locs hP hS => ?_)
          refine lv_iinc (v := (y2_9 + 1)) (lv' := [(2, .int (y2_9 + 1)), (0, .ref a_t), (1, .int ((1 : Int32) <<< (v_seats &&& 31)))]) hx hb dX11_findMays_38 hl (k := 2) rfl rfl (by decide) rfl (fun ls hl => ?_)
          refine lv_goto (tgt := 9) hx hb dX11_findMays_41 (by decide) ?_
          exact ih (y2_9 + 1) u6 _ _ _ _ hf hP hS (lv_sub hl [1, 2, 0] rfl) kk
        · intro J37_5 hf
          refine lv_if_eq (tgt := 35) hx hb dX11_findMays_24 (by decide) (fun c7 => ?_) (fun c7 => ?_)
          · have hf := ob_tk c7 hf
            refine lv_bipush (v := (-6)) hx hb dX11_findMays_35 (by decide) ?_
            exact J37_5 (-6 : Int32) hf _ _ _ hP hS (lv_sub hl [0, 1, 2] rfl)
          · have hf := ob_fk c7 hf
            refine lv_aload_n hx hb dX11_findMays_27 rfl (lv_at hl 0 rfl) ?_
            refine lv_iload_n hx hb dX11_findMays_28 rfl (lv_at hl 2 rfl) ?_
            obtain ⟨u8, hu8, hf⟩ := ob_bk hf
            refine iv_X11_115 (As := [.int y2_9]) (rest := [.int y2_9, .ref a_mays]) (is := [0, 1]) (q0 := 0) (X' := [(a_t, .inr (11, [.ref a_signs, .int v_signMany, .int v_seats, .ref a_links, .ref a_worths, .int v_bearIs, .ref a_far, .ref a_mays, .ref a_rowsTo, .ref a_endIn, .long v_rowsAll, .ref a_ends, .ref a_pairSets, .ref a_awayIn, .ref a_now, .ref a_then, .long v_awayUpper, .long v_lower, .ref a_comers, .int v_comerMany, .ref a_seen, .ref a_seenMany, .int v_seenRows, .ref a_kept, .ref a_isKept, .int v_place, .int v_isWriting])), (a_far, eI cI 144 v_far), (a_mays, eI cI 4096 z_mays_9)]) Cx (c_X11_mayOf l D cI cJ cZ cO a_t a_signs a_links a_worths a_far a_mays a_rowsTo a_endIn a_ends a_pairSets a_awayIn a_now a_then a_comers a_seen a_seenMany a_kept a_isKept v_signMany v_seats v_bearIs v_rowsAll v_awayUpper v_lower v_comerMany v_seenRows v_place v_isWriting v_far y2_9 u8 hu8) hP hS rfl rfl rfl rfl rfl rfl rfl hl.1 (Nat.le_of_ble_eq_true rfl) dX11_findMays_29 rfl rfl ⟨Nat.le_of_ble_eq_true rfl, Nat.le_of_ble_eq_true rfl⟩ ⟨Nat.zero_le _, Nat.zero_le _⟩ rfl (fun H locs hP hS => ?_)
            refine lv_goto (tgt := 37) hx hb dX11_findMays_32 (by decide) ?_
            exact J37_5 u8 hf _ _ _ hP hS (lv_sub hl [0, 1, 2] rfl)
  obtain ⟨u9, hu9, hf⟩ := ob_b hf
  refine L9_1 FU (0 : Int32) v_mays u9 _ _ _ hu9 hP hS (lv_sub hl [2, 1, 0] rfl) ?_
  intro H locs ls hP hS hl
  refine lv_iload_n hx hb dX11_findMays_44 rfl (lv_at hl 0 rfl) ?_
  obtain rfl := Option.some.inj hf
  exact ret _ _ _ _ dX11_findMays_45 hP hS

def f_X11_whole_30 (u3 : Int32 × (Nat → Int32)) : Nat → Int32 → Int32 → Int32 → Option (Int32 × Int32)
  | 0, _, _, _ => none
  | n + 1, y3_30, y4_30, y5_30 =>
  if u3.1 ≤ y5_30 then
  some (y3_30, y4_30)
  else
  (aget 4096 u3.2 y5_30).bind (fun u6 =>
  (if u6 = 0 then
  (if y3_30 < 0 then
  some (y5_30)
  else
  (f_X11_ones y5_30).bind (fun u19 =>
  (f_X11_ones y3_30).bind (fun u20 =>
  if u20 ≤ u19 then
  some (y3_30)
  else
  some (y5_30)))).bind (fun w10 =>
  (if y4_30 < 0 then
  some (y5_30)
  else
  (f_X11_ones y5_30).bind (fun u15 =>
  (f_X11_ones y4_30).bind (fun u16 =>
  if u15 ≤ u16 then
  some (y4_30)
  else
  some (y5_30)))).bind (fun w12 =>
  some (w10, w12)))
  else
  some (y3_30, y4_30)).bind (fun w7 =>
  f_X11_whole_30 u3 n w7.1 w7.2 (y5_30 + 1)))
theorem f_X11_whole_30_s (u3 : Int32 × (Nat → Int32)) (n : Nat) (y3_30 : Int32) (y4_30 : Int32) (y5_30 : Int32) : f_X11_whole_30 u3 (n + 1) y3_30 y4_30 y5_30 =
  (if u3.1 ≤ y5_30 then
  some (y3_30, y4_30)
  else
  (aget 4096 u3.2 y5_30).bind (fun u6 =>
  (if u6 = 0 then
  (if y3_30 < 0 then
  some (y5_30)
  else
  (f_X11_ones y5_30).bind (fun u19 =>
  (f_X11_ones y3_30).bind (fun u20 =>
  if u20 ≤ u19 then
  some (y3_30)
  else
  some (y5_30)))).bind (fun w10 =>
  (if y4_30 < 0 then
  some (y5_30)
  else
  (f_X11_ones y5_30).bind (fun u15 =>
  (f_X11_ones y4_30).bind (fun u16 =>
  if u15 ≤ u16 then
  some (y4_30)
  else
  some (y5_30)))).bind (fun w12 =>
  some (w10, w12)))
  else
  some (y3_30, y4_30)).bind (fun w7 =>
  f_X11_whole_30 u3 n w7.1 w7.2 (y5_30 + 1)))) := rfl
def f_X11_whole (v_seats : Int32) (v_bearIs : Int32) (v_far : Nat → Int32) (v_mays : Nat → Int32) (x1 : Int32) : Option (Int32 × (Nat → Int32)) :=
  (f_X11_in ((x1).toInt64) (0 : Int64) (3 : Int64)).bind (fun u1 =>
  if u1 = 0 then
  some ((-2 : Int32), v_mays)
  else
  (f_X11_findMays v_seats v_bearIs v_far v_mays).bind (fun u3 =>
  (f_X11_whole_30 u3 FU (-6 : Int32) (-6 : Int32) (0 : Int32)).bind (fun u22 =>
  (if x1 = 0 then
  some (u22.1)
  else
  if x1 = (1 : Int32) then
  some (u22.2)
  else
  if x1 = (2 : Int32) then
  (f_X11_ones u22.1).bind (fun u29 =>
  some (u29))
  else
  (f_X11_ones u22.2).bind (fun u28 =>
  some (u28))).bind (fun w23 =>
  some (w23, u3.2)))))
set_option maxHeartbeats 4000000 in
set_option maxRecDepth 100000 in
theorem c_X11_whole (l : Launch) (D : va_G) (cI cJ cZ cO : ClassId) (a_t a_signs a_links a_worths a_far a_mays a_rowsTo a_endIn a_ends a_pairSets a_awayIn a_now a_then a_comers a_seen a_seenMany a_kept a_isKept : Nat) (v_signMany : Int32) (v_seats : Int32) (v_bearIs : Int32) (v_rowsAll : Int64) (v_awayUpper : Int64) (v_lower : Int64) (v_comerMany : Int32) (v_seenRows : Int32) (v_place : Int32) (v_isWriting : Int32) (v_far : Nat → Int32) (v_mays : Nat → Int32) (x1 : Int32) (out : Int32 × (Nat → Int32)) (hf : f_X11_whole v_seats v_bearIs v_far v_mays x1 = some out) : MetR l yX11_whole (Cond.code yX11_whole cX11_whole 6 (some .int) :: tbG) { frames := 4, cells := 0, slots := 0, locals := 90 } D (tyL cI cJ cZ cO) [.ref a_t, .int x1] [(a_t, .inr (11, [.ref a_signs, .int v_signMany, .int v_seats, .ref a_links, .ref a_worths, .int v_bearIs, .ref a_far, .ref a_mays, .ref a_rowsTo, .ref a_endIn, .long v_rowsAll, .ref a_ends, .ref a_pairSets, .ref a_awayIn, .ref a_now, .ref a_then, .long v_awayUpper, .long v_lower, .ref a_comers, .int v_comerMany, .ref a_seen, .ref a_seenMany, .int v_seenRows, .ref a_kept, .ref a_isKept, .int v_place, .int v_isWriting])), (a_far, eI cI 144 v_far), (a_mays, eI cI 4096 v_mays)] (some (.int out.1)) [(a_t, .inr (11, [.ref a_signs, .int v_signMany, .int v_seats, .ref a_links, .ref a_worths, .int v_bearIs, .ref a_far, .ref a_mays, .ref a_rowsTo, .ref a_endIn, .long v_rowsAll, .ref a_ends, .ref a_pairSets, .ref a_awayIn, .ref a_now, .ref a_then, .long v_awayUpper, .long v_lower, .ref a_comers, .int v_comerMany, .ref a_seen, .ref a_seenMany, .int v_seenRows, .ref a_kept, .ref a_isKept, .int v_place, .int v_isWriting])), (a_far, eI cI 144 v_far), (a_mays, eI cI 4096 out.2)] := by
  refine ba_ofI RX11 [(0, .ref a_t), (1, .int x1)] (by decide +kernel) rfl (Nat.le_of_ble_eq_true rfl) rfl ?_
  intro p e s m args below meth c Q A Cx hP ret ls hl
  obtain ⟨⟨hx, hb, hml, hown, hts⟩, hK, hD, hA⟩ := id Cx
  have hS : va_S A s.heap s.heap [] := va_S.rf
  unfold f_X11_whole at hf
  refine lv_iload_n hx hb dX11_whole_0 rfl (lv_at hl 1 rfl) ?_
  refine lv_i2l (v := (x1).toInt64) hx hb dX11_whole_1 rfl ?_
  refine lv_lconst (v := 0) hx hb dX11_whole_2 (by decide) ?_
  refine lv_ldc2 hx hb hown (hts _ kw_929) dX11_whole_3 ?_
  obtain ⟨u1, hu1, hf⟩ := ob_b hf
  refine iv_X11_74 (As := [.long ((x1).toInt64), .long (0 : Int64), .long (3 : Int64)]) (rest := []) (is := []) (X' := [(a_t, .inr (11, [.ref a_signs, .int v_signMany, .int v_seats, .ref a_links, .ref a_worths, .int v_bearIs, .ref a_far, .ref a_mays, .ref a_rowsTo, .ref a_endIn, .long v_rowsAll, .ref a_ends, .ref a_pairSets, .ref a_awayIn, .ref a_now, .ref a_then, .long v_awayUpper, .long v_lower, .ref a_comers, .int v_comerMany, .ref a_seen, .ref a_seenMany, .int v_seenRows, .ref a_kept, .ref a_isKept, .int v_place, .int v_isWriting])), (a_far, eI cI 144 v_far), (a_mays, eI cI 4096 v_mays)]) Cx (c_X11_in l D cI cJ cZ cO  ((x1).toInt64) (0 : Int64) (3 : Int64) u1 hu1) hP hS rfl rfl rfl rfl rfl rfl hl.1 (Nat.le_of_ble_eq_true rfl) dX11_whole_6 rfl rfl ⟨Nat.le_of_ble_eq_true rfl, Nat.le_of_ble_eq_true rfl⟩ ⟨Nat.zero_le _, Nat.zero_le _⟩ rfl (fun H locs hP hS => ?_)
  refine lv_if_ne (tgt := 15) hx hb dX11_whole_9 (by decide) (fun c2 => ?_) (fun c2 => ?_)
  · have hf := ob_f c2 hf
    refine lv_aload_n hx hb dX11_whole_15 rfl (lv_at hl 0 rfl) ?_
    obtain ⟨u3, hu3, hf⟩ := ob_b hf
    refine iv_X11_141 (As := []) (rest := []) (is := [0, 1, 2]) (q0 := 0) (X' := [(a_t, .inr (11, [.ref a_signs, .int v_signMany, .int v_seats, .ref a_links, .ref a_worths, .int v_bearIs, .ref a_far, .ref a_mays, .ref a_rowsTo, .ref a_endIn, .long v_rowsAll, .ref a_ends, .ref a_pairSets, .ref a_awayIn, .ref a_now, .ref a_then, .long v_awayUpper, .long v_lower, .ref a_comers, .int v_comerMany, .ref a_seen, .ref a_seenMany, .int v_seenRows, .ref a_kept, .ref a_isKept, .int v_place, .int v_isWriting])), (a_far, eI cI 144 v_far), (a_mays, eI cI 4096 u3.2)]) Cx (c_X11_findMays l D cI cJ cZ cO a_t a_signs a_links a_worths a_far a_mays a_rowsTo a_endIn a_ends a_pairSets a_awayIn a_now a_then a_comers a_seen a_seenMany a_kept a_isKept v_signMany v_seats v_bearIs v_rowsAll v_awayUpper v_lower v_comerMany v_seenRows v_place v_isWriting v_far v_mays u3 hu3) hP hS rfl rfl rfl rfl rfl rfl rfl hl.1 (Nat.le_of_ble_eq_true rfl) dX11_whole_16 rfl rfl ⟨Nat.le_of_ble_eq_true rfl, Nat.le_of_ble_eq_true rfl⟩ ⟨Nat.zero_le _, Nat.zero_le _⟩ rfl (fun H locs hP hS => ?_)
    refine lv_istore_n (lv' := [(2, .int u3.1), (0, .ref a_t), (1, .int x1)]) hx hb dX11_whole_19 rfl hl (by decide) rfl (fun ls hl => ?_)
    refine lv_bipush (v := (-6)) hx hb dX11_whole_20 (by decide) ?_
    refine lv_istore_n (lv' := [(3, .int (-6 : Int32)), (2, .int u3.1), (0, .ref a_t), (1, .int x1)]) hx hb dX11_whole_22 rfl hl (by decide) rfl (fun ls hl => ?_)
    refine lv_bipush (v := (-6)) hx hb dX11_whole_23 (by decide) ?_
    refine lv_istore (lv' := [(4, .int (-6 : Int32)), (3, .int (-6 : Int32)), (2, .int u3.1), (0, .ref a_t), (1, .int x1)]) hx hb dX11_whole_25 hl (by decide) rfl (fun ls hl => ?_)
    refine lv_iconst (v := 0) hx hb dX11_whole_27 (by decide) ?_
    refine lv_istore (lv' := [(5, .int (0 : Int32)), (4, .int (-6 : Int32)), (3, .int (-6 : Int32)), (2, .int u3.1), (0, .ref a_t), (1, .int x1)]) hx hb dX11_whole_28 hl (by decide) rfl (fun ls hl => ?_)
    have L30_4 : ∀ (n : Nat) (y3_30 : Int32) (y4_30 : Int32) (y5_30 : Int32) (o : Int32 × Int32) (H : Heap) (locs : List Loc) (ls : Array Slot), f_X11_whole_30 u3 n y3_30 y4_30 y5_30 = some o → va_P D vwCl [(a_t, .inr (11, [.ref a_signs, .int v_signMany, .int v_seats, .ref a_links, .ref a_worths, .int v_bearIs, .ref a_far, .ref a_mays, .ref a_rowsTo, .ref a_endIn, .long v_rowsAll, .ref a_ends, .ref a_pairSets, .ref a_awayIn, .ref a_now, .ref a_then, .long v_awayUpper, .long v_lower, .ref a_comers, .int v_comerMany, .ref a_seen, .ref a_seenMany, .int v_seenRows, .ref a_kept, .ref a_isKept, .int v_place, .int v_isWriting])), (a_far, eI cI 144 v_far), (a_mays, eI cI 4096 u3.2)] H → va_S A s.heap H locs → lv_has ls 6 [(0, .ref a_t), (1, .int x1), (2, .int u3.1), (3, .int y3_30), (4, .int y4_30), (5, .int y5_30)] → (∀ (H : Heap) (locs : List Loc) (ls : Array Slot), va_P D vwCl [(a_t, .inr (11, [.ref a_signs, .int v_signMany, .int v_seats, .ref a_links, .ref a_worths, .int v_bearIs, .ref a_far, .ref a_mays, .ref a_rowsTo, .ref a_endIn, .long v_rowsAll, .ref a_ends, .ref a_pairSets, .ref a_awayIn, .ref a_now, .ref a_then, .long v_awayUpper, .long v_lower, .ref a_comers, .int v_comerMany, .ref a_seen, .ref a_seenMany, .int v_seenRows, .ref a_kept, .ref a_isKept, .int v_place, .int v_isWriting])), (a_far, eI cI 144 v_far), (a_mays, eI cI 4096 u3.2)] H → va_S A s.heap H locs → lv_has ls 6 [(1, .int x1), (3, .int o.1), (4, .int o.2)] → W p l e { frames := 4, cells := 0, slots := 0, locals := 90 } s m args below meth c H locs 0 0 Q (F0 m 102 ls [])) → W p l e { frames := 4, cells := 0, slots := 0, locals := 90 } s m args below meth c H locs 0 0 Q (F0 m 30 ls []) := by
      intro n
      induction n with
      | zero => intro y3_30 y4_30 y5_30 o H locs ls hf; exact (ob_n hf).elim
      | succ n ih =>
        intro y3_30 y4_30 y5_30 o H locs ls hf hP hS hl kk
        rw [f_X11_whole_30_s] at hf
        refine lv_iload hx hb dX11_whole_30 (lv_at hl 5 rfl) ?_
        refine lv_iload_n hx hb dX11_whole_32 rfl (lv_at hl 2 rfl) ?_
        refine lv_icmp_ge (tgt := 102) hx hb dX11_whole_33 (by decide) (fun c5 => ?_) (fun c5 => ?_)
        · have hf := ob_t c5 hf
          obtain rfl := Option.some.inj hf
          exact kk _ _ _ hP hS (lv_sub hl [1, 3, 4] rfl)
        · have hf := ob_f c5 hf
          refine lv_aload_n hx hb dX11_whole_36 rfl (lv_at hl 0 rfl) ?_
          refine gf_X11_22 Cx hP 0 rfl rfl dX11_whole_37 ?_
          refine lv_iload hx hb dX11_whole_40 (lv_at hl 5 rfl) ?_
          obtain ⟨u6, hu6, hf⟩ := ob_b hf
          refine ba_iald Cx hP 2 rfl hu6 dX11_whole_42 ?_
          refine ob_J (P := fun w7 => ∀ (H : Heap) (locs : List Loc) (ls : Array Slot), va_P D vwCl [(a_t, .inr (11, [.ref a_signs, .int v_signMany, .int v_seats, .ref a_links, .ref a_worths, .int v_bearIs, .ref a_far, .ref a_mays, .ref a_rowsTo, .ref a_endIn, .long v_rowsAll, .ref a_ends, .ref a_pairSets, .ref a_awayIn, .ref a_now, .ref a_then, .long v_awayUpper, .long v_lower, .ref a_comers, .int v_comerMany, .ref a_seen, .ref a_seenMany, .int v_seenRows, .ref a_kept, .ref a_isKept, .int v_place, .int v_isWriting])), (a_far, eI cI 144 v_far), (a_mays, eI cI 4096 u3.2)] H → va_S A s.heap H locs → lv_has ls 6 [(0, .ref a_t), (1, .int x1), (2, .int u3.1), (3, .int w7.1), (4, .int w7.2), (5, .int y5_30)] → W p l e { frames := 4, cells := 0, slots := 0, locals := 90 } s m args below meth c H locs 0 0 Q (F0 m 96 ls [])) hf ?_ ?_
          · intro w7 hf H locs ls hP hS hl
            refine lv_iinc (v := (y5_30 + 1)) (lv' := [(5, .int (y5_30 + 1)), (0, .ref a_t), (1, .int x1), (2, .int u3.1), (3, .int w7.1), (4, .int w7.2)]) hx hb dX11_whole_96 hl (k := 5) rfl rfl (by decide) rfl (fun ls hl => ?_)
            refine lv_goto (tgt := 30) hx hb dX11_whole_99 (by decide) ?_
            exact ih w7.1 w7.2 (y5_30 + 1) _ _ _ _ hf hP hS (lv_sub hl [1, 2, 3, 4, 5, 0] rfl) kk
          · intro J96_8 hf
            refine lv_if_ne (tgt := 96) hx hb dX11_whole_43 (by decide) (fun c9 => ?_) (fun c9 => ?_)
            · have hf := ob_fk c9 hf
              exact J96_8 (y3_30, y4_30) hf _ _ _ hP hS (lv_sub hl [0, 1, 2, 3, 4, 5] rfl)
            · have hf := ob_tk c9 hf
              refine lv_iload_n hx hb dX11_whole_46 rfl (lv_at hl 3 rfl) ?_
              have hf := ob_as hf
              refine ob_J (P := fun w10 => ∀ (H : Heap) (locs : List Loc) (ls : Array Slot), va_P D vwCl [(a_t, .inr (11, [.ref a_signs, .int v_signMany, .int v_seats, .ref a_links, .ref a_worths, .int v_bearIs, .ref a_far, .ref a_mays, .ref a_rowsTo, .ref a_endIn, .long v_rowsAll, .ref a_ends, .ref a_pairSets, .ref a_awayIn, .ref a_now, .ref a_then, .long v_awayUpper, .long v_lower, .ref a_comers, .int v_comerMany, .ref a_seen, .ref a_seenMany, .int v_seenRows, .ref a_kept, .ref a_isKept, .int v_place, .int v_isWriting])), (a_far, eI cI 144 v_far), (a_mays, eI cI 4096 u3.2)] H → va_S A s.heap H locs → lv_has ls 6 [(0, .ref a_t), (1, .int x1), (2, .int u3.1), (4, .int y4_30), (5, .int y5_30)] → W p l e { frames := 4, cells := 0, slots := 0, locals := 90 } s m args below meth c H locs 0 0 Q (F0 m 68 ls [.int w10])) hf ?_ ?_
              · intro w10 hf H locs ls hP hS hl
                refine lv_istore_n (lv' := [(3, .int w10), (0, .ref a_t), (1, .int x1), (2, .int u3.1), (4, .int y4_30), (5, .int y5_30)]) hx hb dX11_whole_68 rfl hl (by decide) rfl (fun ls hl => ?_)
                refine lv_iload hx hb dX11_whole_69 (lv_at hl 4 rfl) ?_
                have hf := ob_as hf
                refine ob_J (P := fun w12 => ∀ (H : Heap) (locs : List Loc) (ls : Array Slot), va_P D vwCl [(a_t, .inr (11, [.ref a_signs, .int v_signMany, .int v_seats, .ref a_links, .ref a_worths, .int v_bearIs, .ref a_far, .ref a_mays, .ref a_rowsTo, .ref a_endIn, .long v_rowsAll, .ref a_ends, .ref a_pairSets, .ref a_awayIn, .ref a_now, .ref a_then, .long v_awayUpper, .long v_lower, .ref a_comers, .int v_comerMany, .ref a_seen, .ref a_seenMany, .int v_seenRows, .ref a_kept, .ref a_isKept, .int v_place, .int v_isWriting])), (a_far, eI cI 144 v_far), (a_mays, eI cI 4096 u3.2)] H → va_S A s.heap H locs → lv_has ls 6 [(0, .ref a_t), (1, .int x1), (2, .int u3.1), (3, .int w10), (5, .int y5_30)] → W p l e { frames := 4, cells := 0, slots := 0, locals := 90 } s m args below meth c H locs 0 0 Q (F0 m 94 ls [.int w12])) hf ?_ ?_
                · intro w12 hf H locs ls hP hS hl
                  refine lv_istore (lv' := [(4, .int w12), (0, .ref a_t), (1, .int x1), (2, .int u3.1), (3, .int w10), (5, .int y5_30)]) hx hb dX11_whole_94 hl (by decide) rfl (fun ls hl => ?_)
                  exact J96_8 (w10, w12) hf _ _ _ hP hS (lv_sub hl [1, 2, 3, 4, 0, 5] rfl)
                · intro J94_13 hf
                  refine lv_if_lt (tgt := 87) hx hb dX11_whole_71 (by decide) (fun c14 => ?_) (fun c14 => ?_)
                  · have hf := ob_tk c14 hf
                    refine lv_iload hx hb dX11_whole_87 (lv_at hl 5 rfl) ?_
                    refine lv_goto (tgt := 94) hx hb dX11_whole_89 (by decide) ?_
                    exact J94_13 y5_30 hf _ _ _ hP hS (lv_sub hl [1, 2, 3, 0, 5] rfl)
                  · have hf := ob_fk c14 hf
                    refine lv_iload hx hb dX11_whole_74 (lv_at hl 5 rfl) ?_
                    obtain ⟨u15, hu15, hf⟩ := ob_bk hf
                    refine iv_X11_144 (As := [.int y5_30]) (rest := []) (is := []) (X' := [(a_t, .inr (11, [.ref a_signs, .int v_signMany, .int v_seats, .ref a_links, .ref a_worths, .int v_bearIs, .ref a_far, .ref a_mays, .ref a_rowsTo, .ref a_endIn, .long v_rowsAll, .ref a_ends, .ref a_pairSets, .ref a_awayIn, .ref a_now, .ref a_then, .long v_awayUpper, .long v_lower, .ref a_comers, .int v_comerMany, .ref a_seen, .ref a_seenMany, .int v_seenRows, .ref a_kept, .ref a_isKept, .int v_place, .int v_isWriting])), (a_far, eI cI 144 v_far), (a_mays, eI cI 4096 u3.2)]) Cx (c_X11_ones l D cI cJ cZ cO  y5_30 u15 hu15) hP hS rfl rfl rfl rfl rfl rfl hl.1 (Nat.le_of_ble_eq_true rfl) dX11_whole_76 rfl rfl ⟨Nat.le_of_ble_eq_true rfl, Nat.le_of_ble_eq_true rfl⟩ ⟨Nat.zero_le _, Nat.zero_le _⟩ rfl (fun H locs hP hS => ?_)
                    refine lv_iload hx hb dX11_whole_79 (lv_at hl 4 rfl) ?_
                    obtain ⟨u16, hu16, hf⟩ := ob_bk hf
                    refine iv_X11_144 (As := [.int y4_30]) (rest := [.int u15]) (is := []) (X' := [(a_t, .inr (11, [.ref a_signs, .int v_signMany, .int v_seats, .ref a_links, .ref a_worths, .int v_bearIs, .ref a_far, .ref a_mays, .ref a_rowsTo, .ref a_endIn, .long v_rowsAll, .ref a_ends, .ref a_pairSets, .ref a_awayIn, .ref a_now, .ref a_then, .long v_awayUpper, .long v_lower, .ref a_comers, .int v_comerMany, .ref a_seen, .ref a_seenMany, .int v_seenRows, .ref a_kept, .ref a_isKept, .int v_place, .int v_isWriting])), (a_far, eI cI 144 v_far), (a_mays, eI cI 4096 u3.2)]) Cx (c_X11_ones l D cI cJ cZ cO  y4_30 u16 hu16) hP hS rfl rfl rfl rfl rfl rfl hl.1 (Nat.le_of_ble_eq_true rfl) dX11_whole_81 rfl rfl ⟨Nat.le_of_ble_eq_true rfl, Nat.le_of_ble_eq_true rfl⟩ ⟨Nat.zero_le _, Nat.zero_le _⟩ rfl (fun H locs hP hS => ?_)
                    refine lv_icmp_le (tgt := 92) hx hb dX11_whole_84 (by decide) (fun c17 => ?_) (fun c17 => ?_)
                    · have hf := ob_tk c17 hf
                      refine lv_iload hx hb dX11_whole_92 (lv_at hl 4 rfl) ?_
                      exact J94_13 y4_30 hf _ _ _ hP hS (lv_sub hl [1, 2, 3, 0, 5] rfl)
                    · have hf := ob_fk c17 hf
                      refine lv_iload hx hb dX11_whole_87 (lv_at hl 5 rfl) ?_
                      refine lv_goto (tgt := 94) hx hb dX11_whole_89 (by decide) ?_
                      exact J94_13 y5_30 hf _ _ _ hP hS (lv_sub hl [1, 2, 3, 0, 5] rfl)
              · intro J68_11 hf
                refine lv_if_lt (tgt := 62) hx hb dX11_whole_47 (by decide) (fun c18 => ?_) (fun c18 => ?_)
                · have hf := ob_tk c18 hf
                  refine lv_iload hx hb dX11_whole_62 (lv_at hl 5 rfl) ?_
                  refine lv_goto (tgt := 68) hx hb dX11_whole_64 (by decide) ?_
                  exact J68_11 y5_30 hf _ _ _ hP hS (lv_sub hl [0, 1, 2, 4, 5] rfl)
                · have hf := ob_fk c18 hf
                  refine lv_iload hx hb dX11_whole_50 (lv_at hl 5 rfl) ?_
                  obtain ⟨u19, hu19, hf⟩ := ob_bk hf
                  refine iv_X11_144 (As := [.int y5_30]) (rest := []) (is := []) (X' := [(a_t, .inr (11, [.ref a_signs, .int v_signMany, .int v_seats, .ref a_links, .ref a_worths, .int v_bearIs, .ref a_far, .ref a_mays, .ref a_rowsTo, .ref a_endIn, .long v_rowsAll, .ref a_ends, .ref a_pairSets, .ref a_awayIn, .ref a_now, .ref a_then, .long v_awayUpper, .long v_lower, .ref a_comers, .int v_comerMany, .ref a_seen, .ref a_seenMany, .int v_seenRows, .ref a_kept, .ref a_isKept, .int v_place, .int v_isWriting])), (a_far, eI cI 144 v_far), (a_mays, eI cI 4096 u3.2)]) Cx (c_X11_ones l D cI cJ cZ cO  y5_30 u19 hu19) hP hS rfl rfl rfl rfl rfl rfl hl.1 (Nat.le_of_ble_eq_true rfl) dX11_whole_52 rfl rfl ⟨Nat.le_of_ble_eq_true rfl, Nat.le_of_ble_eq_true rfl⟩ ⟨Nat.zero_le _, Nat.zero_le _⟩ rfl (fun H locs hP hS => ?_)
                  refine lv_iload_n hx hb dX11_whole_55 rfl (lv_at hl 3 rfl) ?_
                  obtain ⟨u20, hu20, hf⟩ := ob_bk hf
                  refine iv_X11_144 (As := [.int y3_30]) (rest := [.int u19]) (is := []) (X' := [(a_t, .inr (11, [.ref a_signs, .int v_signMany, .int v_seats, .ref a_links, .ref a_worths, .int v_bearIs, .ref a_far, .ref a_mays, .ref a_rowsTo, .ref a_endIn, .long v_rowsAll, .ref a_ends, .ref a_pairSets, .ref a_awayIn, .ref a_now, .ref a_then, .long v_awayUpper, .long v_lower, .ref a_comers, .int v_comerMany, .ref a_seen, .ref a_seenMany, .int v_seenRows, .ref a_kept, .ref a_isKept, .int v_place, .int v_isWriting])), (a_far, eI cI 144 v_far), (a_mays, eI cI 4096 u3.2)]) Cx (c_X11_ones l D cI cJ cZ cO  y3_30 u20 hu20) hP hS rfl rfl rfl rfl rfl rfl hl.1 (Nat.le_of_ble_eq_true rfl) dX11_whole_56 rfl rfl ⟨Nat.le_of_ble_eq_true rfl, Nat.le_of_ble_eq_true rfl⟩ ⟨Nat.zero_le _, Nat.zero_le _⟩ rfl (fun H locs hP hS => ?_)
                  refine lv_icmp_ge (tgt := 67) hx hb dX11_whole_59 (by decide) (fun c21 => ?_) (fun c21 => ?_)
                  · have hf := ob_tk c21 hf
                    refine lv_iload_n hx hb dX11_whole_67 rfl (lv_at hl 3 rfl) ?_
                    exact J68_11 y3_30 hf _ _ _ hP hS (lv_sub hl [0, 1, 2, 4, 5] rfl)
                  · have hf := ob_fk c21 hf
                    refine lv_iload hx hb dX11_whole_62 (lv_at hl 5 rfl) ?_
                    refine lv_goto (tgt := 68) hx hb dX11_whole_64 (by decide) ?_
                    exact J68_11 y5_30 hf _ _ _ hP hS (lv_sub hl [0, 1, 2, 4, 5] rfl)
    obtain ⟨u22, hu22, hf⟩ := ob_b hf
    refine L30_4 FU (-6 : Int32) (-6 : Int32) (0 : Int32) u22 _ _ _ hu22 hP hS (lv_sub hl [4, 5, 3, 2, 1, 0] rfl) ?_
    intro H locs ls hP hS hl
    refine lv_iload_n hx hb dX11_whole_102 rfl (lv_at hl 0 rfl) ?_
    refine ob_J (P := fun w23 => ∀ (H : Heap) (locs : List Loc) (ls : Array Slot), va_P D vwCl [(a_t, .inr (11, [.ref a_signs, .int v_signMany, .int v_seats, .ref a_links, .ref a_worths, .int v_bearIs, .ref a_far, .ref a_mays, .ref a_rowsTo, .ref a_endIn, .long v_rowsAll, .ref a_ends, .ref a_pairSets, .ref a_awayIn, .ref a_now, .ref a_then, .long v_awayUpper, .long v_lower, .ref a_comers, .int v_comerMany, .ref a_seen, .ref a_seenMany, .int v_seenRows, .ref a_kept, .ref a_isKept, .int v_place, .int v_isWriting])), (a_far, eI cI 144 v_far), (a_mays, eI cI 4096 u3.2)] H → va_S A s.heap H locs → lv_has ls 6 [] → W p l e { frames := 4, cells := 0, slots := 0, locals := 90 } s m args below meth c H locs 0 0 Q (F0 m 137 ls [.int w23])) hf ?_ ?_
    · intro w23 hf H locs ls hP hS hl
      obtain rfl := Option.some.inj hf
      exact ret _ _ _ _ dX11_whole_137 hP hS
    · intro J137_24 hf
      refine lv_if_ne (tgt := 110) hx hb dX11_whole_103 (by decide) (fun c25 => ?_) (fun c25 => ?_)
      · have hf := ob_fk c25 hf
        refine lv_iload_n hx hb dX11_whole_110 rfl (lv_at hl 0 rfl) ?_
        refine lv_iconst (v := 1) hx hb dX11_whole_111 (by decide) ?_
        refine lv_icmp_ne (tgt := 120) hx hb dX11_whole_112 (by decide) (fun c26 => ?_) (fun c26 => ?_)
        · have hf := ob_fk c26 hf
          refine lv_iload_n hx hb dX11_whole_120 rfl (lv_at hl 0 rfl) ?_
          refine lv_iconst (v := 2) hx hb dX11_whole_121 (by decide) ?_
          refine lv_icmp_ne (tgt := 132) hx hb dX11_whole_122 (by decide) (fun c27 => ?_) (fun c27 => ?_)
          · have hf := ob_fk c27 hf
            refine lv_iload hx hb dX11_whole_132 (lv_at hl 2 rfl) ?_
            obtain ⟨u28, hu28, hf⟩ := ob_bk hf
            refine iv_X11_144 (As := [.int u22.2]) (rest := []) (is := []) (X' := [(a_t, .inr (11, [.ref a_signs, .int v_signMany, .int v_seats, .ref a_links, .ref a_worths, .int v_bearIs, .ref a_far, .ref a_mays, .ref a_rowsTo, .ref a_endIn, .long v_rowsAll, .ref a_ends, .ref a_pairSets, .ref a_awayIn, .ref a_now, .ref a_then, .long v_awayUpper, .long v_lower, .ref a_comers, .int v_comerMany, .ref a_seen, .ref a_seenMany, .int v_seenRows, .ref a_kept, .ref a_isKept, .int v_place, .int v_isWriting])), (a_far, eI cI 144 v_far), (a_mays, eI cI 4096 u3.2)]) Cx (c_X11_ones l D cI cJ cZ cO  u22.2 u28 hu28) hP hS rfl rfl rfl rfl rfl rfl hl.1 (Nat.le_of_ble_eq_true rfl) dX11_whole_134 rfl rfl ⟨Nat.le_of_ble_eq_true rfl, Nat.le_of_ble_eq_true rfl⟩ ⟨Nat.zero_le _, Nat.zero_le _⟩ rfl (fun H locs hP hS => ?_)
            exact J137_24 u28 hf _ _ _ hP hS (lv_sub hl [] rfl)
          · have hf := ob_tk c27 hf
            refine lv_iload_n hx hb dX11_whole_125 rfl (lv_at hl 1 rfl) ?_
            obtain ⟨u29, hu29, hf⟩ := ob_bk hf
            refine iv_X11_144 (As := [.int u22.1]) (rest := []) (is := []) (X' := [(a_t, .inr (11, [.ref a_signs, .int v_signMany, .int v_seats, .ref a_links, .ref a_worths, .int v_bearIs, .ref a_far, .ref a_mays, .ref a_rowsTo, .ref a_endIn, .long v_rowsAll, .ref a_ends, .ref a_pairSets, .ref a_awayIn, .ref a_now, .ref a_then, .long v_awayUpper, .long v_lower, .ref a_comers, .int v_comerMany, .ref a_seen, .ref a_seenMany, .int v_seenRows, .ref a_kept, .ref a_isKept, .int v_place, .int v_isWriting])), (a_far, eI cI 144 v_far), (a_mays, eI cI 4096 u3.2)]) Cx (c_X11_ones l D cI cJ cZ cO  u22.1 u29 hu29) hP hS rfl rfl rfl rfl rfl rfl hl.1 (Nat.le_of_ble_eq_true rfl) dX11_whole_126 rfl rfl ⟨Nat.le_of_ble_eq_true rfl, Nat.le_of_ble_eq_true rfl⟩ ⟨Nat.zero_le _, Nat.zero_le _⟩ rfl (fun H locs hP hS => ?_)
            refine lv_goto (tgt := 137) hx hb dX11_whole_129 (by decide) ?_
            exact J137_24 u29 hf _ _ _ hP hS (lv_sub hl [] rfl)
        · have hf := ob_tk c26 hf
          refine lv_iload hx hb dX11_whole_115 (lv_at hl 2 rfl) ?_
          refine lv_goto (tgt := 137) hx hb dX11_whole_117 (by decide) ?_
          exact J137_24 u22.2 hf _ _ _ hP hS (lv_sub hl [] rfl)
      · have hf := ob_tk c25 hf
        refine lv_iload_n hx hb dX11_whole_106 rfl (lv_at hl 1 rfl) ?_
        refine lv_goto (tgt := 137) hx hb dX11_whole_107 (by decide) ?_
        exact J137_24 u22.1 hf _ _ _ hP hS (lv_sub hl [] rfl)
  · have hf := ob_t c2 hf
    refine lv_bipush (v := (-2)) hx hb dX11_whole_12 (by decide) ?_
    obtain rfl := Option.some.inj hf
    exact ret _ _ _ _ dX11_whole_14 hP hS

def f_X11_ways_25 (x1 : Int32) (u3 : Int32 × (Nat → Int32)) : Nat → Int32 → Int32 → Option (Int32)
  | 0, _, _ => none
  | n + 1, y3_25, y4_25 =>
  if u3.1 ≤ y4_25 then
  some (y3_25)
  else
  (aget 4096 u3.2 y4_25).bind (fun u6 =>
  (if u6 = 0 then
  (f_X11_ones y4_25).bind (fun u10 =>
  if u10 = x1 then
  some (1 : Int32)
  else
  some (0 : Int32))
  else
  some (0 : Int32)).bind (fun w7 =>
  f_X11_ways_25 x1 u3 n (y3_25 + w7) (y4_25 + 1)))
theorem f_X11_ways_25_s (x1 : Int32) (u3 : Int32 × (Nat → Int32)) (n : Nat) (y3_25 : Int32) (y4_25 : Int32) : f_X11_ways_25 x1 u3 (n + 1) y3_25 y4_25 =
  (if u3.1 ≤ y4_25 then
  some (y3_25)
  else
  (aget 4096 u3.2 y4_25).bind (fun u6 =>
  (if u6 = 0 then
  (f_X11_ones y4_25).bind (fun u10 =>
  if u10 = x1 then
  some (1 : Int32)
  else
  some (0 : Int32))
  else
  some (0 : Int32)).bind (fun w7 =>
  f_X11_ways_25 x1 u3 n (y3_25 + w7) (y4_25 + 1)))) := rfl
def f_X11_ways (v_seats : Int32) (v_bearIs : Int32) (v_far : Nat → Int32) (v_mays : Nat → Int32) (x1 : Int32) : Option (Int32 × (Nat → Int32)) :=
  (f_X11_in ((x1).toInt64) (0 : Int64) (12 : Int64)).bind (fun u1 =>
  if u1 = 0 then
  some ((-2 : Int32), v_mays)
  else
  (f_X11_findMays v_seats v_bearIs v_far v_mays).bind (fun u3 =>
  (f_X11_ways_25 x1 u3 FU (0 : Int32) (0 : Int32)).bind (fun u12 =>
  some (u12, u3.2))))
set_option maxHeartbeats 4000000 in
set_option maxRecDepth 100000 in
theorem c_X11_ways (l : Launch) (D : va_G) (cI cJ cZ cO : ClassId) (a_t a_signs a_links a_worths a_far a_mays a_rowsTo a_endIn a_ends a_pairSets a_awayIn a_now a_then a_comers a_seen a_seenMany a_kept a_isKept : Nat) (v_signMany : Int32) (v_seats : Int32) (v_bearIs : Int32) (v_rowsAll : Int64) (v_awayUpper : Int64) (v_lower : Int64) (v_comerMany : Int32) (v_seenRows : Int32) (v_place : Int32) (v_isWriting : Int32) (v_far : Nat → Int32) (v_mays : Nat → Int32) (x1 : Int32) (out : Int32 × (Nat → Int32)) (hf : f_X11_ways v_seats v_bearIs v_far v_mays x1 = some out) : MetR l yX11_ways (Cond.code yX11_ways cX11_ways 5 (some .int) :: tbG) { frames := 4, cells := 0, slots := 0, locals := 90 } D (tyL cI cJ cZ cO) [.ref a_t, .int x1] [(a_t, .inr (11, [.ref a_signs, .int v_signMany, .int v_seats, .ref a_links, .ref a_worths, .int v_bearIs, .ref a_far, .ref a_mays, .ref a_rowsTo, .ref a_endIn, .long v_rowsAll, .ref a_ends, .ref a_pairSets, .ref a_awayIn, .ref a_now, .ref a_then, .long v_awayUpper, .long v_lower, .ref a_comers, .int v_comerMany, .ref a_seen, .ref a_seenMany, .int v_seenRows, .ref a_kept, .ref a_isKept, .int v_place, .int v_isWriting])), (a_far, eI cI 144 v_far), (a_mays, eI cI 4096 v_mays)] (some (.int out.1)) [(a_t, .inr (11, [.ref a_signs, .int v_signMany, .int v_seats, .ref a_links, .ref a_worths, .int v_bearIs, .ref a_far, .ref a_mays, .ref a_rowsTo, .ref a_endIn, .long v_rowsAll, .ref a_ends, .ref a_pairSets, .ref a_awayIn, .ref a_now, .ref a_then, .long v_awayUpper, .long v_lower, .ref a_comers, .int v_comerMany, .ref a_seen, .ref a_seenMany, .int v_seenRows, .ref a_kept, .ref a_isKept, .int v_place, .int v_isWriting])), (a_far, eI cI 144 v_far), (a_mays, eI cI 4096 out.2)] := by
  refine ba_ofI RX11 [(0, .ref a_t), (1, .int x1)] (by decide +kernel) rfl (Nat.le_of_ble_eq_true rfl) rfl ?_
  intro p e s m args below meth c Q A Cx hP ret ls hl
  obtain ⟨⟨hx, hb, hml, hown, hts⟩, hK, hD, hA⟩ := id Cx
  have hS : va_S A s.heap s.heap [] := va_S.rf
  unfold f_X11_ways at hf
  refine lv_iload_n hx hb dX11_ways_0 rfl (lv_at hl 1 rfl) ?_
  refine lv_i2l (v := (x1).toInt64) hx hb dX11_ways_1 rfl ?_
  refine lv_lconst (v := 0) hx hb dX11_ways_2 (by decide) ?_
  refine lv_ldc2 hx hb hown (hts _ kw_941) dX11_ways_3 ?_
  obtain ⟨u1, hu1, hf⟩ := ob_b hf
  refine iv_X11_74 (As := [.long ((x1).toInt64), .long (0 : Int64), .long (12 : Int64)]) (rest := []) (is := []) (X' := [(a_t, .inr (11, [.ref a_signs, .int v_signMany, .int v_seats, .ref a_links, .ref a_worths, .int v_bearIs, .ref a_far, .ref a_mays, .ref a_rowsTo, .ref a_endIn, .long v_rowsAll, .ref a_ends, .ref a_pairSets, .ref a_awayIn, .ref a_now, .ref a_then, .long v_awayUpper, .long v_lower, .ref a_comers, .int v_comerMany, .ref a_seen, .ref a_seenMany, .int v_seenRows, .ref a_kept, .ref a_isKept, .int v_place, .int v_isWriting])), (a_far, eI cI 144 v_far), (a_mays, eI cI 4096 v_mays)]) Cx (c_X11_in l D cI cJ cZ cO  ((x1).toInt64) (0 : Int64) (12 : Int64) u1 hu1) hP hS rfl rfl rfl rfl rfl rfl hl.1 (Nat.le_of_ble_eq_true rfl) dX11_ways_6 rfl rfl ⟨Nat.le_of_ble_eq_true rfl, Nat.le_of_ble_eq_true rfl⟩ ⟨Nat.zero_le _, Nat.zero_le _⟩ rfl (fun H locs hP hS => ?_)
  refine lv_if_ne (tgt := 15) hx hb dX11_ways_9 (by decide) (fun c2 => ?_) (fun c2 => ?_)
  · have hf := ob_f c2 hf
    refine lv_aload_n hx hb dX11_ways_15 rfl (lv_at hl 0 rfl) ?_
    obtain ⟨u3, hu3, hf⟩ := ob_b hf
    refine iv_X11_141 (As := []) (rest := []) (is := [0, 1, 2]) (q0 := 0) (X' := [(a_t, .inr (11, [.ref a_signs, .int v_signMany, .int v_seats, .ref a_links, .ref a_worths, .int v_bearIs, .ref a_far, .ref a_mays, .ref a_rowsTo, .ref a_endIn, .long v_rowsAll, .ref a_ends, .ref a_pairSets, .ref a_awayIn, .ref a_now, .ref a_then, .long v_awayUpper, .long v_lower, .ref a_comers, .int v_comerMany, .ref a_seen, .ref a_seenMany, .int v_seenRows, .ref a_kept, .ref a_isKept, .int v_place, .int v_isWriting])), (a_far, eI cI 144 v_far), (a_mays, eI cI 4096 u3.2)]) Cx (c_X11_findMays l D cI cJ cZ cO a_t a_signs a_links a_worths a_far a_mays a_rowsTo a_endIn a_ends a_pairSets a_awayIn a_now a_then a_comers a_seen a_seenMany a_kept a_isKept v_signMany v_seats v_bearIs v_rowsAll v_awayUpper v_lower v_comerMany v_seenRows v_place v_isWriting v_far v_mays u3 hu3) hP hS rfl rfl rfl rfl rfl rfl rfl hl.1 (Nat.le_of_ble_eq_true rfl) dX11_ways_16 rfl rfl ⟨Nat.le_of_ble_eq_true rfl, Nat.le_of_ble_eq_true rfl⟩ ⟨Nat.zero_le _, Nat.zero_le _⟩ rfl (fun H locs hP hS => ?_)
    refine lv_istore_n (lv' := [(2, .int u3.1), (0, .ref a_t), (1, .int x1)]) hx hb dX11_ways_19 rfl hl (by decide) rfl (fun ls hl => ?_)
    refine lv_iconst (v := 0) hx hb dX11_ways_20 (by decide) ?_
    refine lv_istore_n (lv' := [(3, .int (0 : Int32)), (2, .int u3.1), (0, .ref a_t), (1, .int x1)]) hx hb dX11_ways_21 rfl hl (by decide) rfl (fun ls hl => ?_)
    refine lv_iconst (v := 0) hx hb dX11_ways_22 (by decide) ?_
    refine lv_istore (lv' := [(4, .int (0 : Int32)), (3, .int (0 : Int32)), (2, .int u3.1), (0, .ref a_t), (1, .int x1)]) hx hb dX11_ways_23 hl (by decide) rfl (fun ls hl => ?_)
    have L25_4 : ∀ (n : Nat) (y3_25 : Int32) (y4_25 : Int32) (o : Int32) (H : Heap) (locs : List Loc) (ls : Array Slot), f_X11_ways_25 x1 u3 n y3_25 y4_25 = some o → va_P D vwCl [(a_t, .inr (11, [.ref a_signs, .int v_signMany, .int v_seats, .ref a_links, .ref a_worths, .int v_bearIs, .ref a_far, .ref a_mays, .ref a_rowsTo, .ref a_endIn, .long v_rowsAll, .ref a_ends, .ref a_pairSets, .ref a_awayIn, .ref a_now, .ref a_then, .long v_awayUpper, .long v_lower, .ref a_comers, .int v_comerMany, .ref a_seen, .ref a_seenMany, .int v_seenRows, .ref a_kept, .ref a_isKept, .int v_place, .int v_isWriting])), (a_far, eI cI 144 v_far), (a_mays, eI cI 4096 u3.2)] H → va_S A s.heap H locs → lv_has ls 5 [(0, .ref a_t), (1, .int x1), (2, .int u3.1), (3, .int y3_25), (4, .int y4_25)] → (∀ (H : Heap) (locs : List Loc) (ls : Array Slot), va_P D vwCl [(a_t, .inr (11, [.ref a_signs, .int v_signMany, .int v_seats, .ref a_links, .ref a_worths, .int v_bearIs, .ref a_far, .ref a_mays, .ref a_rowsTo, .ref a_endIn, .long v_rowsAll, .ref a_ends, .ref a_pairSets, .ref a_awayIn, .ref a_now, .ref a_then, .long v_awayUpper, .long v_lower, .ref a_comers, .int v_comerMany, .ref a_seen, .ref a_seenMany, .int v_seenRows, .ref a_kept, .ref a_isKept, .int v_place, .int v_isWriting])), (a_far, eI cI 144 v_far), (a_mays, eI cI 4096 u3.2)] H → va_S A s.heap H locs → lv_has ls 5 [(3, .int o)] → W p l e { frames := 4, cells := 0, slots := 0, locals := 90 } s m args below meth c H locs 0 0 Q (F0 m 64 ls [])) → W p l e { frames := 4, cells := 0, slots := 0, locals := 90 } s m args below meth c H locs 0 0 Q (F0 m 25 ls []) := by
      intro n
      induction n with
      | zero => intro y3_25 y4_25 o H locs ls hf; exact (ob_n hf).elim
      | succ n ih =>
        intro y3_25 y4_25 o H locs ls hf hP hS hl kk
        rw [f_X11_ways_25_s] at hf
        refine lv_iload hx hb dX11_ways_25 (lv_at hl 4 rfl) ?_
        refine lv_iload_n hx hb dX11_ways_27 rfl (lv_at hl 2 rfl) ?_
        refine lv_icmp_ge (tgt := 64) hx hb dX11_ways_28 (by decide) (fun c5 => ?_) (fun c5 => ?_)
        · have hf := ob_t c5 hf
          obtain rfl := Option.some.inj hf
          exact kk _ _ _ hP hS (lv_sub hl [3] rfl)
        · have hf := ob_f c5 hf
          refine lv_iload_n hx hb dX11_ways_31 rfl (lv_at hl 3 rfl) ?_
          refine lv_aload_n hx hb dX11_ways_32 rfl (lv_at hl 0 rfl) ?_
          refine gf_X11_22 Cx hP 0 rfl rfl dX11_ways_33 ?_
          refine lv_iload hx hb dX11_ways_36 (lv_at hl 4 rfl) ?_
          obtain ⟨u6, hu6, hf⟩ := ob_b hf
          refine ba_iald Cx hP 2 rfl hu6 dX11_ways_38 ?_
          refine ob_J (P := fun w7 => ∀ (H : Heap) (locs : List Loc) (ls : Array Slot), va_P D vwCl [(a_t, .inr (11, [.ref a_signs, .int v_signMany, .int v_seats, .ref a_links, .ref a_worths, .int v_bearIs, .ref a_far, .ref a_mays, .ref a_rowsTo, .ref a_endIn, .long v_rowsAll, .ref a_ends, .ref a_pairSets, .ref a_awayIn, .ref a_now, .ref a_then, .long v_awayUpper, .long v_lower, .ref a_comers, .int v_comerMany, .ref a_seen, .ref a_seenMany, .int v_seenRows, .ref a_kept, .ref a_isKept, .int v_place, .int v_isWriting])), (a_far, eI cI 144 v_far), (a_mays, eI cI 4096 u3.2)] H → va_S A s.heap H locs → lv_has ls 5 [(0, .ref a_t), (1, .int x1), (2, .int u3.1), (4, .int y4_25)] → W p l e { frames := 4, cells := 0, slots := 0, locals := 90 } s m args below meth c H locs 0 0 Q (F0 m 56 ls [.int w7, .int y3_25])) hf ?_ ?_
          · intro w7 hf H locs ls hP hS hl
            refine lv_iadd hx hb dX11_ways_56 ?_
            refine lv_istore_n (lv' := [(3, .int (y3_25 + w7)), (0, .ref a_t), (1, .int x1), (2, .int u3.1), (4, .int y4_25)]) hx hb dX11_ways_57 rfl hl (by decide) rfl (fun ls hl => ?_)
            refine lv_iinc (v := (y4_25 + 1)) (lv' := [(4, .int (y4_25 + 1)), (3, .int (y3_25 + w7)), (0, .ref a_t), (1, .int x1), (2, .int u3.1)]) hx hb dX11_ways_58 hl (k := 4) rfl rfl (by decide) rfl (fun ls hl => ?_)
            refine lv_goto (tgt := 25) hx hb dX11_ways_61 (by decide) ?_
            exact ih (y3_25 + w7) (y4_25 + 1) _ _ _ _ hf hP hS (lv_sub hl [2, 3, 4, 1, 0] rfl) kk
          · intro J56_8 hf
            refine lv_if_ne (tgt := 55) hx hb dX11_ways_39 (by decide) (fun c9 => ?_) (fun c9 => ?_)
            · have hf := ob_fk c9 hf
              refine lv_iconst (v := 0) hx hb dX11_ways_55 (by decide) ?_
              exact J56_8 (0 : Int32) hf _ _ _ hP hS (lv_sub hl [0, 1, 2, 4] rfl)
            · have hf := ob_tk c9 hf
              refine lv_iload hx hb dX11_ways_42 (lv_at hl 4 rfl) ?_
              obtain ⟨u10, hu10, hf⟩ := ob_bk hf
              refine iv_X11_144 (As := [.int y4_25]) (rest := [.int y3_25]) (is := []) (X' := [(a_t, .inr (11, [.ref a_signs, .int v_signMany, .int v_seats, .ref a_links, .ref a_worths, .int v_bearIs, .ref a_far, .ref a_mays, .ref a_rowsTo, .ref a_endIn, .long v_rowsAll, .ref a_ends, .ref a_pairSets, .ref a_awayIn, .ref a_now, .ref a_then, .long v_awayUpper, .long v_lower, .ref a_comers, .int v_comerMany, .ref a_seen, .ref a_seenMany, .int v_seenRows, .ref a_kept, .ref a_isKept, .int v_place, .int v_isWriting])), (a_far, eI cI 144 v_far), (a_mays, eI cI 4096 u3.2)]) Cx (c_X11_ones l D cI cJ cZ cO  y4_25 u10 hu10) hP hS rfl rfl rfl rfl rfl rfl hl.1 (Nat.le_of_ble_eq_true rfl) dX11_ways_44 rfl rfl ⟨Nat.le_of_ble_eq_true rfl, Nat.le_of_ble_eq_true rfl⟩ ⟨Nat.zero_le _, Nat.zero_le _⟩ rfl (fun H locs hP hS => ?_)
              refine lv_iload_n hx hb dX11_ways_47 rfl (lv_at hl 1 rfl) ?_
              refine lv_icmp_ne (tgt := 55) hx hb dX11_ways_48 (by decide) (fun c11 => ?_) (fun c11 => ?_)
              · have hf := ob_fk c11 hf
                refine lv_iconst (v := 0) hx hb dX11_ways_55 (by decide) ?_
                exact J56_8 (0 : Int32) hf _ _ _ hP hS (lv_sub hl [0, 1, 2, 4] rfl)
              · have hf := ob_tk c11 hf
                refine lv_iconst (v := 1) hx hb dX11_ways_51 (by decide) ?_
                refine lv_goto (tgt := 56) hx hb dX11_ways_52 (by decide) ?_
                exact J56_8 (1 : Int32) hf _ _ _ hP hS (lv_sub hl [0, 1, 2, 4] rfl)
    obtain ⟨u12, hu12, hf⟩ := ob_b hf
    refine L25_4 FU (0 : Int32) (0 : Int32) u12 _ _ _ hu12 hP hS (lv_sub hl [3, 4, 2, 1, 0] rfl) ?_
    intro H locs ls hP hS hl
    refine lv_iload_n hx hb dX11_ways_64 rfl (lv_at hl 0 rfl) ?_
    obtain rfl := Option.some.inj hf
    exact ret _ _ _ _ dX11_ways_65 hP hS
  · have hf := ob_t c2 hf
    refine lv_bipush (v := (-2)) hx hb dX11_ways_12 (by decide) ?_
    obtain rfl := Option.some.inj hf
    exact ret _ _ _ _ dX11_ways_14 hP hS

def f_X11_findAny_12 (v_seats : Int32) : Nat → Int32 → Int64 → Option (Int64)
  | 0, _, _ => none
  | n + 1, y2_12, z_rowsAll_12 =>
  if v_seats < y2_12 then
  some (z_rowsAll_12)
  else
  f_X11_findAny_12 v_seats n (y2_12 + 1) (z_rowsAll_12 * (y2_12).toInt64)
theorem f_X11_findAny_12_s (v_seats : Int32) (n : Nat) (y2_12 : Int32) (z_rowsAll_12 : Int64) : f_X11_findAny_12 v_seats (n + 1) y2_12 z_rowsAll_12 =
  (if v_seats < y2_12 then
  some (z_rowsAll_12)
  else
  f_X11_findAny_12 v_seats n (y2_12 + 1) (z_rowsAll_12 * (y2_12).toInt64)) := rfl
def f_X11_findAny_39  : Nat → Int32 → (Nat → Int64) → Option ((Nat → Int64))
  | 0, _, _ => none
  | n + 1, y2_39, z_endIn_39 =>
  if (12 : Int32) < y2_39 then
  some (z_endIn_39)
  else
  (asetL 13 z_endIn_39 y2_39 (0 : Int64)).bind (fun u7 =>
  f_X11_findAny_39  n (y2_39 + 1) u7)
theorem f_X11_findAny_39_s  (n : Nat) (y2_39 : Int32) (z_endIn_39 : Nat → Int64) : f_X11_findAny_39  (n + 1) y2_39 z_endIn_39 =
  (if (12 : Int32) < y2_39 then
  some (z_endIn_39)
  else
  (asetL 13 z_endIn_39 y2_39 (0 : Int64)).bind (fun u7 =>
  f_X11_findAny_39  n (y2_39 + 1) u7)) := rfl
def f_X11_findAny_60 (u1 : Int32 × (Nat → Int32)) (u4 : Int64) : Nat → Int32 → (Nat → Int64) → Option ((Nat → Int64))
  | 0, _, _ => none
  | n + 1, y2_60, z_rowsTo_60 =>
  if u1.1 ≤ y2_60 then
  some (z_rowsTo_60)
  else
  (if y2_60 = 0 then
  some (u4)
  else
  some (0 : Int64)).bind (fun w11 =>
  (asetL 4096 z_rowsTo_60 y2_60 w11).bind (fun u13 =>
  f_X11_findAny_60 u1 u4 n (y2_60 + 1) u13))
theorem f_X11_findAny_60_s (u1 : Int32 × (Nat → Int32)) (u4 : Int64) (n : Nat) (y2_60 : Int32) (z_rowsTo_60 : Nat → Int64) : f_X11_findAny_60 u1 u4 (n + 1) y2_60 z_rowsTo_60 =
  (if u1.1 ≤ y2_60 then
  some (z_rowsTo_60)
  else
  (if y2_60 = 0 then
  some (u4)
  else
  some (0 : Int64)).bind (fun w11 =>
  (asetL 4096 z_rowsTo_60 y2_60 w11).bind (fun u13 =>
  f_X11_findAny_60 u1 u4 n (y2_60 + 1) u13))) := rfl
def f_X11_findAny_156 (v_seats : Int32) (u1 : Int32 × (Nat → Int32)) (u27 : Int64) (y2_91 : Int32) : Nat → Int32 → (Nat → Int64) → Option ((Nat → Int64))
  | 0, _, _ => none
  | n + 1, y5_156, z_rowsTo_156 =>
  if v_seats ≤ y5_156 then
  some (z_rowsTo_156)
  else
  (aget 4096 z_rowsTo_156 (y2_91 ||| ((1 : Int32) <<< (y5_156 &&& 31)))).bind (fun u30 =>
  (aget 4096 u1.2 y2_91).bind (fun u31 =>
  (if ((u31 >>> (y5_156 &&& 31)) &&& (1 : Int32)) = (1 : Int32) then
  some (u27)
  else
  some (0 : Int64)).bind (fun w32 =>
  (asetL 4096 z_rowsTo_156 (y2_91 ||| ((1 : Int32) <<< (y5_156 &&& 31))) (u30 + w32)).bind (fun u34 =>
  f_X11_findAny_156 v_seats u1 u27 y2_91 n (y5_156 + 1) u34))))
theorem f_X11_findAny_156_s (v_seats : Int32) (u1 : Int32 × (Nat → Int32)) (u27 : Int64) (y2_91 : Int32) (n : Nat) (y5_156 : Int32) (z_rowsTo_156 : Nat → Int64) : f_X11_findAny_156 v_seats u1 u27 y2_91 (n + 1) y5_156 z_rowsTo_156 =
  (if v_seats ≤ y5_156 then
  some (z_rowsTo_156)
  else
  (aget 4096 z_rowsTo_156 (y2_91 ||| ((1 : Int32) <<< (y5_156 &&& 31)))).bind (fun u30 =>
  (aget 4096 u1.2 y2_91).bind (fun u31 =>
  (if ((u31 >>> (y5_156 &&& 31)) &&& (1 : Int32)) = (1 : Int32) then
  some (u27)
  else
  some (0 : Int64)).bind (fun w32 =>
  (asetL 4096 z_rowsTo_156 (y2_91 ||| ((1 : Int32) <<< (y5_156 &&& 31))) (u30 + w32)).bind (fun u34 =>
  f_X11_findAny_156 v_seats u1 u27 y2_91 n (y5_156 + 1) u34))))) := rfl
def f_X11_findAny_91 (v_seats : Int32) (u1 : Int32 × (Nat → Int32)) : Nat → Int32 → (Nat → Int64) → (Nat → Int64) → Option ((Nat → Int64) × (Nat → Int64))
  | 0, _, _, _ => none
  | n + 1, y2_91, z_endIn_91, z_rowsTo_91 =>
  if u1.1 ≤ y2_91 then
  some (z_endIn_91, z_rowsTo_91)
  else
  (aget 4096 u1.2 y2_91).bind (fun u18 =>
  (if u18 = 0 then
  (f_X11_ones y2_91).bind (fun u37 =>
  (aget 13 z_endIn_91 u37).bind (fun u38 =>
  (aget 4096 z_rowsTo_91 y2_91).bind (fun u39 =>
  (asetL 13 z_endIn_91 u37 (u38 + u39)).bind (fun u40 =>
  some (u40, z_rowsTo_91)))))
  else
  (aget 4096 u1.2 y2_91).bind (fun u22 =>
  if u22 ≤ 0 then
  some (z_endIn_91, z_rowsTo_91)
  else
  (aget 4096 z_rowsTo_91 y2_91).bind (fun u24 =>
  (aget 4096 u1.2 y2_91).bind (fun u25 =>
  (f_X11_ones u25).bind (fun u26 =>
  (odivL u24 (u26).toInt64).bind (fun u27 =>
  (f_X11_findAny_156 v_seats u1 u27 y2_91 FU (0 : Int32) z_rowsTo_91).bind (fun u36 =>
  some (z_endIn_91, u36)))))))).bind (fun w19 =>
  f_X11_findAny_91 v_seats u1 n (y2_91 + 1) w19.1 w19.2))
theorem f_X11_findAny_91_s (v_seats : Int32) (u1 : Int32 × (Nat → Int32)) (n : Nat) (y2_91 : Int32) (z_endIn_91 : Nat → Int64) (z_rowsTo_91 : Nat → Int64) : f_X11_findAny_91 v_seats u1 (n + 1) y2_91 z_endIn_91 z_rowsTo_91 =
  (if u1.1 ≤ y2_91 then
  some (z_endIn_91, z_rowsTo_91)
  else
  (aget 4096 u1.2 y2_91).bind (fun u18 =>
  (if u18 = 0 then
  (f_X11_ones y2_91).bind (fun u37 =>
  (aget 13 z_endIn_91 u37).bind (fun u38 =>
  (aget 4096 z_rowsTo_91 y2_91).bind (fun u39 =>
  (asetL 13 z_endIn_91 u37 (u38 + u39)).bind (fun u40 =>
  some (u40, z_rowsTo_91)))))
  else
  (aget 4096 u1.2 y2_91).bind (fun u22 =>
  if u22 ≤ 0 then
  some (z_endIn_91, z_rowsTo_91)
  else
  (aget 4096 z_rowsTo_91 y2_91).bind (fun u24 =>
  (aget 4096 u1.2 y2_91).bind (fun u25 =>
  (f_X11_ones u25).bind (fun u26 =>
  (odivL u24 (u26).toInt64).bind (fun u27 =>
  (f_X11_findAny_156 v_seats u1 u27 y2_91 FU (0 : Int32) z_rowsTo_91).bind (fun u36 =>
  some (z_endIn_91, u36)))))))).bind (fun w19 =>
  f_X11_findAny_91 v_seats u1 n (y2_91 + 1) w19.1 w19.2))) := rfl
def f_X11_findAny (v_seats : Int32) (v_bearIs : Int32) (v_far : Nat → Int32) (v_mays : Nat → Int32) (v_endIn : Nat → Int64) (v_rowsTo : Nat → Int64) : Option (Int64 × (Nat → Int32) × (Nat → Int64) × (Nat → Int64)) :=
  (f_X11_findMays v_seats v_bearIs v_far v_mays).bind (fun u1 =>
  (f_X11_findAny_12 v_seats FU (2 : Int32) (1 : Int64)).bind (fun u4 =>
  (f_X11_findAny_39  FU (0 : Int32) v_endIn).bind (fun u8 =>
  (f_X11_findAny_60 u1 u4 FU (0 : Int32) v_rowsTo).bind (fun u15 =>
  (f_X11_findAny_91 v_seats u1 FU (0 : Int32) u8 u15).bind (fun u41 =>
  some (u4, u1.2, u41.1, u41.2))))))
set_option maxHeartbeats 4000000 in
set_option maxRecDepth 100000 in
theorem c_X11_findAny (l : Launch) (D : va_G) (cI cJ cZ cO : ClassId) (a_t a_signs a_links a_worths a_far a_mays a_rowsTo a_endIn a_ends a_pairSets a_awayIn a_now a_then a_comers a_seen a_seenMany a_kept a_isKept : Nat) (v_signMany : Int32) (v_seats : Int32) (v_bearIs : Int32) (v_rowsAll : Int64) (v_awayUpper : Int64) (v_lower : Int64) (v_comerMany : Int32) (v_seenRows : Int32) (v_place : Int32) (v_isWriting : Int32) (v_far : Nat → Int32) (v_mays : Nat → Int32) (v_endIn : Nat → Int64) (v_rowsTo : Nat → Int64) (out : Int64 × (Nat → Int32) × (Nat → Int64) × (Nat → Int64)) (hf : f_X11_findAny v_seats v_bearIs v_far v_mays v_endIn v_rowsTo = some out) : MetR l yX11_findAny (Cond.code yX11_findAny cX11_findAny 6 none :: tbG) { frames := 4, cells := 0, slots := 0, locals := 90 } D (tyL cI cJ cZ cO) [.ref a_t] [(a_t, .inr (11, [.ref a_signs, .int v_signMany, .int v_seats, .ref a_links, .ref a_worths, .int v_bearIs, .ref a_far, .ref a_mays, .ref a_rowsTo, .ref a_endIn, .long v_rowsAll, .ref a_ends, .ref a_pairSets, .ref a_awayIn, .ref a_now, .ref a_then, .long v_awayUpper, .long v_lower, .ref a_comers, .int v_comerMany, .ref a_seen, .ref a_seenMany, .int v_seenRows, .ref a_kept, .ref a_isKept, .int v_place, .int v_isWriting])), (a_far, eI cI 144 v_far), (a_mays, eI cI 4096 v_mays), (a_endIn, eJ cJ 13 v_endIn), (a_rowsTo, eJ cJ 4096 v_rowsTo)] none [(a_t, .inr (11, [.ref a_signs, .int v_signMany, .int v_seats, .ref a_links, .ref a_worths, .int v_bearIs, .ref a_far, .ref a_mays, .ref a_rowsTo, .ref a_endIn, .long out.1, .ref a_ends, .ref a_pairSets, .ref a_awayIn, .ref a_now, .ref a_then, .long v_awayUpper, .long v_lower, .ref a_comers, .int v_comerMany, .ref a_seen, .ref a_seenMany, .int v_seenRows, .ref a_kept, .ref a_isKept, .int v_place, .int v_isWriting])), (a_far, eI cI 144 v_far), (a_mays, eI cI 4096 out.2.1), (a_endIn, eJ cJ 13 out.2.2.1), (a_rowsTo, eJ cJ 4096 out.2.2.2)] := by
  refine ba_ofV RX11 [(0, .ref a_t)] (by decide +kernel) rfl (Nat.le_of_ble_eq_true rfl) rfl ?_
  intro p e s m args below meth c Q A Cx hP ret ls hl
  obtain ⟨⟨hx, hb, hml, hown, hts⟩, hK, hD, hA⟩ := id Cx
  have hS : va_S A s.heap s.heap [] := va_S.rf
  unfold f_X11_findAny at hf
  refine lv_aload_n hx hb dX11_findAny_0 rfl (lv_at hl 0 rfl) ?_
  obtain ⟨u1, hu1, hf⟩ := ob_b hf
  refine iv_X11_141 (As := []) (rest := []) (is := [0, 1, 2]) (q0 := 0) (X' := [(a_t, .inr (11, [.ref a_signs, .int v_signMany, .int v_seats, .ref a_links, .ref a_worths, .int v_bearIs, .ref a_far, .ref a_mays, .ref a_rowsTo, .ref a_endIn, .long v_rowsAll, .ref a_ends, .ref a_pairSets, .ref a_awayIn, .ref a_now, .ref a_then, .long v_awayUpper, .long v_lower, .ref a_comers, .int v_comerMany, .ref a_seen, .ref a_seenMany, .int v_seenRows, .ref a_kept, .ref a_isKept, .int v_place, .int v_isWriting])), (a_far, eI cI 144 v_far), (a_mays, eI cI 4096 u1.2), (a_endIn, eJ cJ 13 v_endIn), (a_rowsTo, eJ cJ 4096 v_rowsTo)]) Cx (c_X11_findMays l D cI cJ cZ cO a_t a_signs a_links a_worths a_far a_mays a_rowsTo a_endIn a_ends a_pairSets a_awayIn a_now a_then a_comers a_seen a_seenMany a_kept a_isKept v_signMany v_seats v_bearIs v_rowsAll v_awayUpper v_lower v_comerMany v_seenRows v_place v_isWriting v_far v_mays u1 hu1) hP hS rfl rfl rfl rfl rfl rfl rfl hl.1 (Nat.le_of_ble_eq_true rfl) dX11_findAny_1 rfl rfl ⟨Nat.le_of_ble_eq_true rfl, Nat.le_of_ble_eq_true rfl⟩ ⟨Nat.zero_le _, Nat.zero_le _⟩ rfl (fun H locs hP hS => ?_)
  refine lv_istore_n (lv' := [(1, .int u1.1), (0, .ref a_t)]) hx hb dX11_findAny_4 rfl hl (by decide) rfl (fun ls hl => ?_)
  refine lv_aload_n hx hb dX11_findAny_5 rfl (lv_at hl 1 rfl) ?_
  refine lv_lconst (v := 1) hx hb dX11_findAny_6 (by decide) ?_
  refine pf_X11_149 (X' := [(a_t, .inr (11, [.ref a_signs, .int v_signMany, .int v_seats, .ref a_links, .ref a_worths, .int v_bearIs, .ref a_far, .ref a_mays, .ref a_rowsTo, .ref a_endIn, .long (1 : Int64), .ref a_ends, .ref a_pairSets, .ref a_awayIn, .ref a_now, .ref a_then, .long v_awayUpper, .long v_lower, .ref a_comers, .int v_comerMany, .ref a_seen, .ref a_seenMany, .int v_seenRows, .ref a_kept, .ref a_isKept, .int v_place, .int v_isWriting])), (a_far, eI cI 144 v_far), (a_mays, eI cI 4096 u1.2), (a_endIn, eJ cJ 13 v_endIn), (a_rowsTo, eJ cJ 4096 v_rowsTo)]) Cx hP hS rfl 0 rfl rfl (Nat.le_of_ble_eq_true rfl) dX11_findAny_7 (fun H locs hP hS => ?_)
  refine lv_iconst (v := 2) hx hb dX11_findAny_10 (by decide) ?_
  refine lv_istore_n (lv' := [(2, .int (2 : Int32)), (1, .int u1.1), (0, .ref a_t)]) hx hb dX11_findAny_11 rfl hl (by decide) rfl (fun ls hl => ?_)
  have L12_2 : ∀ (n : Nat) (y2_12 : Int32) (z_rowsAll_12 : Int64) (o : Int64) (H : Heap) (locs : List Loc) (ls : Array Slot), f_X11_findAny_12 v_seats n y2_12 z_rowsAll_12 = some o → va_P D vwCl [(a_t, .inr (11, [.ref a_signs, .int v_signMany, .int v_seats, .ref a_links, .ref a_worths, .int v_bearIs, .ref a_far, .ref a_mays, .ref a_rowsTo, .ref a_endIn, .long z_rowsAll_12, .ref a_ends, .ref a_pairSets, .ref a_awayIn, .ref a_now, .ref a_then, .long v_awayUpper, .long v_lower, .ref a_comers, .int v_comerMany, .ref a_seen, .ref a_seenMany, .int v_seenRows, .ref a_kept, .ref a_isKept, .int v_place, .int v_isWriting])), (a_far, eI cI 144 v_far), (a_mays, eI cI 4096 u1.2), (a_endIn, eJ cJ 13 v_endIn), (a_rowsTo, eJ cJ 4096 v_rowsTo)] H → va_S A s.heap H locs → lv_has ls 6 [(0, .ref a_t), (1, .int u1.1), (2, .int y2_12)] → (∀ (H : Heap) (locs : List Loc) (ls : Array Slot), va_P D vwCl [(a_t, .inr (11, [.ref a_signs, .int v_signMany, .int v_seats, .ref a_links, .ref a_worths, .int v_bearIs, .ref a_far, .ref a_mays, .ref a_rowsTo, .ref a_endIn, .long o, .ref a_ends, .ref a_pairSets, .ref a_awayIn, .ref a_now, .ref a_then, .long v_awayUpper, .long v_lower, .ref a_comers, .int v_comerMany, .ref a_seen, .ref a_seenMany, .int v_seenRows, .ref a_kept, .ref a_isKept, .int v_place, .int v_isWriting])), (a_far, eI cI 144 v_far), (a_mays, eI cI 4096 u1.2), (a_endIn, eJ cJ 13 v_endIn), (a_rowsTo, eJ cJ 4096 v_rowsTo)] H → va_S A s.heap H locs → lv_has ls 6 [(0, .ref a_t), (1, .int u1.1)] → W p l e { frames := 4, cells := 0, slots := 0, locals := 90 } s m args below meth c H locs 0 0 Q (F0 m 37 ls [])) → W p l e { frames := 4, cells := 0, slots := 0, locals := 90 } s m args below meth c H locs 0 0 Q (F0 m 12 ls []) := by
    intro n
    induction n with
    | zero => intro y2_12 z_rowsAll_12 o H locs ls hf; exact (ob_n hf).elim
    | succ n ih =>
      intro y2_12 z_rowsAll_12 o H locs ls hf hP hS hl kk
      rw [f_X11_findAny_12_s] at hf
      refine lv_iload_n hx hb dX11_findAny_12 rfl (lv_at hl 2 rfl) ?_
      refine lv_aload_n hx hb dX11_findAny_13 rfl (lv_at hl 0 rfl) ?_
      refine gf_X11_63 Cx hP 0 rfl rfl dX11_findAny_14 ?_
      refine lv_icmp_gt (tgt := 37) hx hb dX11_findAny_17 (by decide) (fun c3 => ?_) (fun c3 => ?_)
      · have hf := ob_t c3 hf
        obtain rfl := Option.some.inj hf
        exact kk _ _ _ hP hS (lv_sub hl [0, 1] rfl)
      · have hf := ob_f c3 hf
        refine lv_aload_n hx hb dX11_findAny_20 rfl (lv_at hl 0 rfl) ?_
        refine lv_dup hx hb dX11_findAny_21 rfl ?_
        refine gf_X11_149 Cx hP 0 rfl rfl dX11_findAny_22 ?_
        refine lv_iload_n hx hb dX11_findAny_25 rfl (lv_at hl 2 rfl) ?_
        refine lv_i2l (v := (y2_12).toInt64) hx hb dX11_findAny_26 rfl ?_
        refine lv_lmul hx hb dX11_findAny_27 ?_
        refine pf_X11_149 (X' := [(a_t, .inr (11, [.ref a_signs, .int v_signMany, .int v_seats, .ref a_links, .ref a_worths, .int v_bearIs, .ref a_far, .ref a_mays, .ref a_rowsTo, .ref a_endIn, .long (z_rowsAll_12 * (y2_12).toInt64), .ref a_ends, .ref a_pairSets, .ref a_awayIn, .ref a_now, .ref a_then, .long v_awayUpper, .long v_lower, .ref a_comers, .int v_comerMany, .ref a_seen, .ref a_seenMany, .int v_seenRows, .ref a_kept, .ref a_isKept, .int v_place, .int v_isWriting])), (a_far, eI cI 144 v_far), (a_mays, eI cI 4096 u1.2), (a_endIn, eJ cJ 13 v_endIn), (a_rowsTo, eJ cJ 4096 v_rowsTo)]) Cx hP hS rfl 0 rfl rfl (Nat.le_of_ble_eq_true rfl) dX11_findAny_28 (fun H locs hP hS => ?_)
        refine lv_iinc (v := (y2_12 + 1)) (lv' := [(2, .int (y2_12 + 1)), (0, .ref a_t), (1, .int u1.1)]) hx hb dX11_findAny_31 hl (k := 2) rfl rfl (by decide) rfl (fun ls hl => ?_)
        refine lv_goto (tgt := 12) hx hb dX11_findAny_34 (by decide) ?_
        exact ih (y2_12 + 1) (z_rowsAll_12 * (y2_12).toInt64) _ _ _ _ hf hP hS (lv_sub hl [1, 2, 0] rfl) kk
  obtain ⟨u4, hu4, hf⟩ := ob_b hf
  refine L12_2 FU (2 : Int32) (1 : Int64) u4 _ _ _ hu4 hP hS (lv_sub hl [2, 1, 0] rfl) ?_
  intro H locs ls hP hS hl
  refine lv_iconst (v := 0) hx hb dX11_findAny_37 (by decide) ?_
  refine lv_istore_n (lv' := [(2, .int (0 : Int32)), (0, .ref a_t), (1, .int u1.1)]) hx hb dX11_findAny_38 rfl hl (by decide) rfl (fun ls hl => ?_)
  have L39_5 : ∀ (n : Nat) (y2_39 : Int32) (z_endIn_39 : Nat → Int64) (o : (Nat → Int64)) (H : Heap) (locs : List Loc) (ls : Array Slot), f_X11_findAny_39  n y2_39 z_endIn_39 = some o → va_P D vwCl [(a_t, .inr (11, [.ref a_signs, .int v_signMany, .int v_seats, .ref a_links, .ref a_worths, .int v_bearIs, .ref a_far, .ref a_mays, .ref a_rowsTo, .ref a_endIn, .long u4, .ref a_ends, .ref a_pairSets, .ref a_awayIn, .ref a_now, .ref a_then, .long v_awayUpper, .long v_lower, .ref a_comers, .int v_comerMany, .ref a_seen, .ref a_seenMany, .int v_seenRows, .ref a_kept, .ref a_isKept, .int v_place, .int v_isWriting])), (a_far, eI cI 144 v_far), (a_mays, eI cI 4096 u1.2), (a_endIn, eJ cJ 13 z_endIn_39), (a_rowsTo, eJ cJ 4096 v_rowsTo)] H → va_S A s.heap H locs → lv_has ls 6 [(0, .ref a_t), (1, .int u1.1), (2, .int y2_39)] → (∀ (H : Heap) (locs : List Loc) (ls : Array Slot), va_P D vwCl [(a_t, .inr (11, [.ref a_signs, .int v_signMany, .int v_seats, .ref a_links, .ref a_worths, .int v_bearIs, .ref a_far, .ref a_mays, .ref a_rowsTo, .ref a_endIn, .long u4, .ref a_ends, .ref a_pairSets, .ref a_awayIn, .ref a_now, .ref a_then, .long v_awayUpper, .long v_lower, .ref a_comers, .int v_comerMany, .ref a_seen, .ref a_seenMany, .int v_seenRows, .ref a_kept, .ref a_isKept, .int v_place, .int v_isWriting])), (a_far, eI cI 144 v_far), (a_mays, eI cI 4096 u1.2), (a_endIn, eJ cJ 13 o), (a_rowsTo, eJ cJ 4096 v_rowsTo)] H → va_S A s.heap H locs → lv_has ls 6 [(0, .ref a_t), (1, .int u1.1)] → W p l e { frames := 4, cells := 0, slots := 0, locals := 90 } s m args below meth c H locs 0 0 Q (F0 m 58 ls [])) → W p l e { frames := 4, cells := 0, slots := 0, locals := 90 } s m args below meth c H locs 0 0 Q (F0 m 39 ls []) := by
    intro n
    induction n with
    | zero => intro y2_39 z_endIn_39 o H locs ls hf; exact (ob_n hf).elim
    | succ n ih =>
      intro y2_39 z_endIn_39 o H locs ls hf hP hS hl kk
      rw [f_X11_findAny_39_s] at hf
      refine lv_iload_n hx hb dX11_findAny_39 rfl (lv_at hl 2 rfl) ?_
      refine lv_bipush (v := 12) hx hb dX11_findAny_40 (by decide) ?_
      refine lv_icmp_gt (tgt := 58) hx hb dX11_findAny_42 (by decide) (fun c6 => ?_) (fun c6 => ?_)
      · have hf := ob_t c6 hf
        obtain rfl := Option.some.inj hf
        exact kk _ _ _ hP hS (lv_sub hl [0, 1] rfl)
      · have hf := ob_f c6 hf
        refine lv_aload_n hx hb dX11_findAny_45 rfl (lv_at hl 0 rfl) ?_
        refine gf_X11_29 Cx hP 0 rfl rfl dX11_findAny_46 ?_
        refine lv_iload_n hx hb dX11_findAny_49 rfl (lv_at hl 2 rfl) ?_
        refine lv_lconst (v := 0) hx hb dX11_findAny_50 (by decide) ?_
        obtain ⟨u7, hu7, hf⟩ := ob_b hf
        refine ba_last (X' := [(a_t, .inr (11, [.ref a_signs, .int v_signMany, .int v_seats, .ref a_links, .ref a_worths, .int v_bearIs, .ref a_far, .ref a_mays, .ref a_rowsTo, .ref a_endIn, .long u4, .ref a_ends, .ref a_pairSets, .ref a_awayIn, .ref a_now, .ref a_then, .long v_awayUpper, .long v_lower, .ref a_comers, .int v_comerMany, .ref a_seen, .ref a_seenMany, .int v_seenRows, .ref a_kept, .ref a_isKept, .int v_place, .int v_isWriting])), (a_far, eI cI 144 v_far), (a_mays, eI cI 4096 u1.2), (a_endIn, eJ cJ 13 u7), (a_rowsTo, eJ cJ 4096 v_rowsTo)]) Cx hP hS rfl 3 rfl rfl hu7 dX11_findAny_51 (fun H locs hP hS => ?_)
        refine lv_iinc (v := (y2_39 + 1)) (lv' := [(2, .int (y2_39 + 1)), (0, .ref a_t), (1, .int u1.1)]) hx hb dX11_findAny_52 hl (k := 2) rfl rfl (by decide) rfl (fun ls hl => ?_)
        refine lv_goto (tgt := 39) hx hb dX11_findAny_55 (by decide) ?_
        exact ih (y2_39 + 1) u7 _ _ _ _ hf hP hS (lv_sub hl [1, 2, 0] rfl) kk
  obtain ⟨u8, hu8, hf⟩ := ob_b hf
  refine L39_5 FU (0 : Int32) v_endIn u8 _ _ _ hu8 hP hS (lv_sub hl [1, 2, 0] rfl) ?_
  intro H locs ls hP hS hl
  refine lv_iconst (v := 0) hx hb dX11_findAny_58 (by decide) ?_
  refine lv_istore_n (lv' := [(2, .int (0 : Int32)), (0, .ref a_t), (1, .int u1.1)]) hx hb dX11_findAny_59 rfl hl (by decide) rfl (fun ls hl => ?_)
  have L60_9 : ∀ (n : Nat) (y2_60 : Int32) (z_rowsTo_60 : Nat → Int64) (o : (Nat → Int64)) (H : Heap) (locs : List Loc) (ls : Array Slot), f_X11_findAny_60 u1 u4 n y2_60 z_rowsTo_60 = some o → va_P D vwCl [(a_t, .inr (11, [.ref a_signs, .int v_signMany, .int v_seats, .ref a_links, .ref a_worths, .int v_bearIs, .ref a_far, .ref a_mays, .ref a_rowsTo, .ref a_endIn, .long u4, .ref a_ends, .ref a_pairSets, .ref a_awayIn, .ref a_now, .ref a_then, .long v_awayUpper, .long v_lower, .ref a_comers, .int v_comerMany, .ref a_seen, .ref a_seenMany, .int v_seenRows, .ref a_kept, .ref a_isKept, .int v_place, .int v_isWriting])), (a_far, eI cI 144 v_far), (a_mays, eI cI 4096 u1.2), (a_endIn, eJ cJ 13 u8), (a_rowsTo, eJ cJ 4096 z_rowsTo_60)] H → va_S A s.heap H locs → lv_has ls 6 [(0, .ref a_t), (1, .int u1.1), (2, .int y2_60)] → (∀ (H : Heap) (locs : List Loc) (ls : Array Slot), va_P D vwCl [(a_t, .inr (11, [.ref a_signs, .int v_signMany, .int v_seats, .ref a_links, .ref a_worths, .int v_bearIs, .ref a_far, .ref a_mays, .ref a_rowsTo, .ref a_endIn, .long u4, .ref a_ends, .ref a_pairSets, .ref a_awayIn, .ref a_now, .ref a_then, .long v_awayUpper, .long v_lower, .ref a_comers, .int v_comerMany, .ref a_seen, .ref a_seenMany, .int v_seenRows, .ref a_kept, .ref a_isKept, .int v_place, .int v_isWriting])), (a_far, eI cI 144 v_far), (a_mays, eI cI 4096 u1.2), (a_endIn, eJ cJ 13 u8), (a_rowsTo, eJ cJ 4096 o)] H → va_S A s.heap H locs → lv_has ls 6 [(0, .ref a_t), (1, .int u1.1)] → W p l e { frames := 4, cells := 0, slots := 0, locals := 90 } s m args below meth c H locs 0 0 Q (F0 m 89 ls [])) → W p l e { frames := 4, cells := 0, slots := 0, locals := 90 } s m args below meth c H locs 0 0 Q (F0 m 60 ls []) := by
    intro n
    induction n with
    | zero => intro y2_60 z_rowsTo_60 o H locs ls hf; exact (ob_n hf).elim
    | succ n ih =>
      intro y2_60 z_rowsTo_60 o H locs ls hf hP hS hl kk
      rw [f_X11_findAny_60_s] at hf
      refine lv_iload_n hx hb dX11_findAny_60 rfl (lv_at hl 2 rfl) ?_
      refine lv_iload_n hx hb dX11_findAny_61 rfl (lv_at hl 1 rfl) ?_
      refine lv_icmp_ge (tgt := 89) hx hb dX11_findAny_62 (by decide) (fun c10 => ?_) (fun c10 => ?_)
      · have hf := ob_t c10 hf
        obtain rfl := Option.some.inj hf
        exact kk _ _ _ hP hS (lv_sub hl [0, 1] rfl)
      · have hf := ob_f c10 hf
        refine lv_aload_n hx hb dX11_findAny_65 rfl (lv_at hl 0 rfl) ?_
        refine gf_X11_25 Cx hP 0 rfl rfl dX11_findAny_66 ?_
        refine lv_iload_n hx hb dX11_findAny_69 rfl (lv_at hl 2 rfl) ?_
        refine lv_iload_n hx hb dX11_findAny_70 rfl (lv_at hl 2 rfl) ?_
        refine ob_J (P := fun w11 => ∀ (H : Heap) (locs : List Loc) (ls : Array Slot), va_P D vwCl [(a_t, .inr (11, [.ref a_signs, .int v_signMany, .int v_seats, .ref a_links, .ref a_worths, .int v_bearIs, .ref a_far, .ref a_mays, .ref a_rowsTo, .ref a_endIn, .long u4, .ref a_ends, .ref a_pairSets, .ref a_awayIn, .ref a_now, .ref a_then, .long v_awayUpper, .long v_lower, .ref a_comers, .int v_comerMany, .ref a_seen, .ref a_seenMany, .int v_seenRows, .ref a_kept, .ref a_isKept, .int v_place, .int v_isWriting])), (a_far, eI cI 144 v_far), (a_mays, eI cI 4096 u1.2), (a_endIn, eJ cJ 13 u8), (a_rowsTo, eJ cJ 4096 z_rowsTo_60)] H → va_S A s.heap H locs → lv_has ls 6 [(0, .ref a_t), (1, .int u1.1), (2, .int y2_60)] → W p l e { frames := 4, cells := 0, slots := 0, locals := 90 } s m args below meth c H locs 0 0 Q (F0 m 82 ls [.long w11, .int y2_60, .ref a_rowsTo])) hf ?_ ?_
        · intro w11 hf H locs ls hP hS hl
          obtain ⟨u13, hu13, hf⟩ := ob_b hf
          refine ba_last (X' := [(a_t, .inr (11, [.ref a_signs, .int v_signMany, .int v_seats, .ref a_links, .ref a_worths, .int v_bearIs, .ref a_far, .ref a_mays, .ref a_rowsTo, .ref a_endIn, .long u4, .ref a_ends, .ref a_pairSets, .ref a_awayIn, .ref a_now, .ref a_then, .long v_awayUpper, .long v_lower, .ref a_comers, .int v_comerMany, .ref a_seen, .ref a_seenMany, .int v_seenRows, .ref a_kept, .ref a_isKept, .int v_place, .int v_isWriting])), (a_far, eI cI 144 v_far), (a_mays, eI cI 4096 u1.2), (a_endIn, eJ cJ 13 u8), (a_rowsTo, eJ cJ 4096 u13)]) Cx hP hS rfl 4 rfl rfl hu13 dX11_findAny_82 (fun H locs hP hS => ?_)
          refine lv_iinc (v := (y2_60 + 1)) (lv' := [(2, .int (y2_60 + 1)), (0, .ref a_t), (1, .int u1.1)]) hx hb dX11_findAny_83 hl (k := 2) rfl rfl (by decide) rfl (fun ls hl => ?_)
          refine lv_goto (tgt := 60) hx hb dX11_findAny_86 (by decide) ?_
          exact ih (y2_60 + 1) u13 _ _ _ _ hf hP hS (lv_sub hl [1, 2, 0] rfl) kk
        · intro J82_12 hf
          refine lv_if_ne (tgt := 81) hx hb dX11_findAny_71 (by decide) (fun c14 => ?_) (fun c14 => ?_)
          · have hf := ob_fk c14 hf
            refine lv_lconst (v := 0) hx hb dX11_findAny_81 (by decide) ?_
            exact J82_12 (0 : Int64) hf _ _ _ hP hS (lv_sub hl [0, 1, 2] rfl)
          · have hf := ob_tk c14 hf
            refine lv_aload_n hx hb dX11_findAny_74 rfl (lv_at hl 0 rfl) ?_
            refine gf_X11_149 Cx hP 0 rfl rfl dX11_findAny_75 ?_
            refine lv_goto (tgt := 82) hx hb dX11_findAny_78 (by decide) ?_
            exact J82_12 u4 hf _ _ _ hP hS (lv_sub hl [0, 1, 2] rfl)
  obtain ⟨u15, hu15, hf⟩ := ob_b hf
  refine L60_9 FU (0 : Int32) v_rowsTo u15 _ _ _ hu15 hP hS (lv_sub hl [1, 2, 0] rfl) ?_
  intro H locs ls hP hS hl
  refine lv_iconst (v := 0) hx hb dX11_findAny_89 (by decide) ?_
  refine lv_istore_n (lv' := [(2, .int (0 : Int32)), (0, .ref a_t), (1, .int u1.1)]) hx hb dX11_findAny_90 rfl hl (by decide) rfl (fun ls hl => ?_)
  have L91_16 : ∀ (n : Nat) (y2_91 : Int32) (z_endIn_91 : Nat → Int64) (z_rowsTo_91 : Nat → Int64) (o : (Nat → Int64) × (Nat → Int64)) (H : Heap) (locs : List Loc) (ls : Array Slot), f_X11_findAny_91 v_seats u1 n y2_91 z_endIn_91 z_rowsTo_91 = some o → va_P D vwCl [(a_t, .inr (11, [.ref a_signs, .int v_signMany, .int v_seats, .ref a_links, .ref a_worths, .int v_bearIs, .ref a_far, .ref a_mays, .ref a_rowsTo, .ref a_endIn, .long u4, .ref a_ends, .ref a_pairSets, .ref a_awayIn, .ref a_now, .ref a_then, .long v_awayUpper, .long v_lower, .ref a_comers, .int v_comerMany, .ref a_seen, .ref a_seenMany, .int v_seenRows, .ref a_kept, .ref a_isKept, .int v_place, .int v_isWriting])), (a_far, eI cI 144 v_far), (a_mays, eI cI 4096 u1.2), (a_endIn, eJ cJ 13 z_endIn_91), (a_rowsTo, eJ cJ 4096 z_rowsTo_91)] H → va_S A s.heap H locs → lv_has ls 6 [(0, .ref a_t), (1, .int u1.1), (2, .int y2_91)] → (∀ (H : Heap) (locs : List Loc) (ls : Array Slot), va_P D vwCl [(a_t, .inr (11, [.ref a_signs, .int v_signMany, .int v_seats, .ref a_links, .ref a_worths, .int v_bearIs, .ref a_far, .ref a_mays, .ref a_rowsTo, .ref a_endIn, .long u4, .ref a_ends, .ref a_pairSets, .ref a_awayIn, .ref a_now, .ref a_then, .long v_awayUpper, .long v_lower, .ref a_comers, .int v_comerMany, .ref a_seen, .ref a_seenMany, .int v_seenRows, .ref a_kept, .ref a_isKept, .int v_place, .int v_isWriting])), (a_far, eI cI 144 v_far), (a_mays, eI cI 4096 u1.2), (a_endIn, eJ cJ 13 o.1), (a_rowsTo, eJ cJ 4096 o.2)] H → va_S A s.heap H locs → lv_has ls 6 [] → W p l e { frames := 4, cells := 0, slots := 0, locals := 90 } s m args below meth c H locs 0 0 Q (F0 m 211 ls [])) → W p l e { frames := 4, cells := 0, slots := 0, locals := 90 } s m args below meth c H locs 0 0 Q (F0 m 91 ls []) := by
    intro n
    induction n with
    | zero => intro y2_91 z_endIn_91 z_rowsTo_91 o H locs ls hf; exact (ob_n hf).elim
    | succ n ih =>
      intro y2_91 z_endIn_91 z_rowsTo_91 o H locs ls hf hP hS hl kk
      rw [f_X11_findAny_91_s] at hf
      refine lv_iload_n hx hb dX11_findAny_91 rfl (lv_at hl 2 rfl) ?_
      refine lv_iload_n hx hb dX11_findAny_92 rfl (lv_at hl 1 rfl) ?_
      refine lv_icmp_ge (tgt := 211) hx hb dX11_findAny_93 (by decide) (fun c17 => ?_) (fun c17 => ?_)
      · have hf := ob_t c17 hf
        obtain rfl := Option.some.inj hf
        exact kk _ _ _ hP hS (lv_sub hl [] rfl)
      · have hf := ob_f c17 hf
        refine lv_aload_n hx hb dX11_findAny_96 rfl (lv_at hl 0 rfl) ?_
        refine gf_X11_22 Cx hP 0 rfl rfl dX11_findAny_97 ?_
        refine lv_iload_n hx hb dX11_findAny_100 rfl (lv_at hl 2 rfl) ?_
        obtain ⟨u18, hu18, hf⟩ := ob_b hf
        refine ba_iald Cx hP 2 rfl hu18 dX11_findAny_101 ?_
        refine ob_J (P := fun w19 => ∀ (H : Heap) (locs : List Loc) (ls : Array Slot), va_P D vwCl [(a_t, .inr (11, [.ref a_signs, .int v_signMany, .int v_seats, .ref a_links, .ref a_worths, .int v_bearIs, .ref a_far, .ref a_mays, .ref a_rowsTo, .ref a_endIn, .long u4, .ref a_ends, .ref a_pairSets, .ref a_awayIn, .ref a_now, .ref a_then, .long v_awayUpper, .long v_lower, .ref a_comers, .int v_comerMany, .ref a_seen, .ref a_seenMany, .int v_seenRows, .ref a_kept, .ref a_isKept, .int v_place, .int v_isWriting])), (a_far, eI cI 144 v_far), (a_mays, eI cI 4096 u1.2), (a_endIn, eJ cJ 13 w19.1), (a_rowsTo, eJ cJ 4096 w19.2)] H → va_S A s.heap H locs → lv_has ls 6 [(0, .ref a_t), (1, .int u1.1), (2, .int y2_91)] → W p l e { frames := 4, cells := 0, slots := 0, locals := 90 } s m args below meth c H locs 0 0 Q (F0 m 205 ls [])) hf ?_ ?_
        · intro w19 hf H locs ls hP hS hl
          refine lv_iinc (v := (y2_91 + 1)) (lv' := [(2, .int (y2_91 + 1)), (0, .ref a_t), (1, .int u1.1)]) hx hb dX11_findAny_205 hl (k := 2) rfl rfl (by decide) rfl (fun ls hl => ?_)
          refine lv_goto (tgt := 91) hx hb dX11_findAny_208 (by decide) ?_
          exact ih (y2_91 + 1) w19.1 w19.2 _ _ _ _ hf hP hS (lv_sub hl [1, 2, 0] rfl) kk
        · intro J205_20 hf
          refine lv_if_ne (tgt := 126) hx hb dX11_findAny_102 (by decide) (fun c21 => ?_) (fun c21 => ?_)
          · have hf := ob_fk c21 hf
            refine lv_aload_n hx hb dX11_findAny_126 rfl (lv_at hl 0 rfl) ?_
            refine gf_X11_22 Cx hP 0 rfl rfl dX11_findAny_127 ?_
            refine lv_iload_n hx hb dX11_findAny_130 rfl (lv_at hl 2 rfl) ?_
            obtain ⟨u22, hu22, hf⟩ := ob_bk hf
            refine ba_iald Cx hP 2 rfl hu22 dX11_findAny_131 ?_
            refine lv_if_le (tgt := 205) hx hb dX11_findAny_132 (by decide) (fun c23 => ?_) (fun c23 => ?_)
            · have hf := ob_tk c23 hf
              exact J205_20 (z_endIn_91, z_rowsTo_91) hf _ _ _ hP hS (lv_sub hl [0, 1, 2] rfl)
            · have hf := ob_fk c23 hf
              refine lv_aload_n hx hb dX11_findAny_135 rfl (lv_at hl 0 rfl) ?_
              refine gf_X11_25 Cx hP 0 rfl rfl dX11_findAny_136 ?_
              refine lv_iload_n hx hb dX11_findAny_139 rfl (lv_at hl 2 rfl) ?_
              obtain ⟨u24, hu24, hf⟩ := ob_bk hf
              refine ba_lald Cx hP 4 rfl hu24 dX11_findAny_140 ?_
              refine lv_aload_n hx hb dX11_findAny_141 rfl (lv_at hl 0 rfl) ?_
              refine gf_X11_22 Cx hP 0 rfl rfl dX11_findAny_142 ?_
              refine lv_iload_n hx hb dX11_findAny_145 rfl (lv_at hl 2 rfl) ?_
              obtain ⟨u25, hu25, hf⟩ := ob_bk hf
              refine ba_iald Cx hP 2 rfl hu25 dX11_findAny_146 ?_
              obtain ⟨u26, hu26, hf⟩ := ob_bk hf
              refine iv_X11_144 (As := [.int u25]) (rest := [.long u24]) (is := []) (X' := [(a_t, .inr (11, [.ref a_signs, .int v_signMany, .int v_seats, .ref a_links, .ref a_worths, .int v_bearIs, .ref a_far, .ref a_mays, .ref a_rowsTo, .ref a_endIn, .long u4, .ref a_ends, .ref a_pairSets, .ref a_awayIn, .ref a_now, .ref a_then, .long v_awayUpper, .long v_lower, .ref a_comers, .int v_comerMany, .ref a_seen, .ref a_seenMany, .int v_seenRows, .ref a_kept, .ref a_isKept, .int v_place, .int v_isWriting])), (a_far, eI cI 144 v_far), (a_mays, eI cI 4096 u1.2), (a_endIn, eJ cJ 13 z_endIn_91), (a_rowsTo, eJ cJ 4096 z_rowsTo_91)]) Cx (c_X11_ones l D cI cJ cZ cO  u25 u26 hu26) hP hS rfl rfl rfl rfl rfl rfl hl.1 (Nat.le_of_ble_eq_true rfl) dX11_findAny_147 rfl rfl ⟨Nat.le_of_ble_eq_true rfl, Nat.le_of_ble_eq_true rfl⟩ ⟨Nat.zero_le _, Nat.zero_le _⟩ rfl (fun H locs hP hS => ?_)
              refine lv_i2l (v := (u26).toInt64) hx hb dX11_findAny_150 rfl ?_
              obtain ⟨u27, hu27, hf⟩ := ob_bk hf
              refine ba_ldiv hx hb hu27 dX11_findAny_151 ?_
              refine lv_lstore_n (lv' := [(3, .long u27), (0, .ref a_t), (1, .int u1.1), (2, .int y2_91)]) hx hb dX11_findAny_152 rfl hl (by decide) rfl (fun ls hl => ?_)
              refine lv_iconst (v := 0) hx hb dX11_findAny_153 (by decide) ?_
              refine lv_istore (lv' := [(5, .int (0 : Int32)), (3, .long u27), (0, .ref a_t), (1, .int u1.1), (2, .int y2_91)]) hx hb dX11_findAny_154 hl (by decide) rfl (fun ls hl => ?_)
              have L156_28 : ∀ (n : Nat) (y5_156 : Int32) (z_rowsTo_156 : Nat → Int64) (o : (Nat → Int64)) (H : Heap) (locs : List Loc) (ls : Array Slot), f_X11_findAny_156 v_seats u1 u27 y2_91 n y5_156 z_rowsTo_156 = some o → va_P D vwCl [(a_t, .inr (11, [.ref a_signs, .int v_signMany, .int v_seats, .ref a_links, .ref a_worths, .int v_bearIs, .ref a_far, .ref a_mays, .ref a_rowsTo, .ref a_endIn, .long u4, .ref a_ends, .ref a_pairSets, .ref a_awayIn, .ref a_now, .ref a_then, .long v_awayUpper, .long v_lower, .ref a_comers, .int v_comerMany, .ref a_seen, .ref a_seenMany, .int v_seenRows, .ref a_kept, .ref a_isKept, .int v_place, .int v_isWriting])), (a_far, eI cI 144 v_far), (a_mays, eI cI 4096 u1.2), (a_endIn, eJ cJ 13 z_endIn_91), (a_rowsTo, eJ cJ 4096 z_rowsTo_156)] H → va_S A s.heap H locs → lv_has ls 6 [(0, .ref a_t), (1, .int u1.1), (2, .int y2_91), (3, .long u27), (5, .int y5_156)] → (∀ (H : Heap) (locs : List Loc) (ls : Array Slot), va_P D vwCl [(a_t, .inr (11, [.ref a_signs, .int v_signMany, .int v_seats, .ref a_links, .ref a_worths, .int v_bearIs, .ref a_far, .ref a_mays, .ref a_rowsTo, .ref a_endIn, .long u4, .ref a_ends, .ref a_pairSets, .ref a_awayIn, .ref a_now, .ref a_then, .long v_awayUpper, .long v_lower, .ref a_comers, .int v_comerMany, .ref a_seen, .ref a_seenMany, .int v_seenRows, .ref a_kept, .ref a_isKept, .int v_place, .int v_isWriting])), (a_far, eI cI 144 v_far), (a_mays, eI cI 4096 u1.2), (a_endIn, eJ cJ 13 z_endIn_91), (a_rowsTo, eJ cJ 4096 o)] H → va_S A s.heap H locs → lv_has ls 6 [(0, .ref a_t), (1, .int u1.1), (2, .int y2_91)] → W p l e { frames := 4, cells := 0, slots := 0, locals := 90 } s m args below meth c H locs 0 0 Q (F0 m 205 ls [])) → W p l e { frames := 4, cells := 0, slots := 0, locals := 90 } s m args below meth c H locs 0 0 Q (F0 m 156 ls []) := by
                intro n
                induction n with
                | zero => intro y5_156 z_rowsTo_156 o H locs ls hf; exact (ob_n hf).elim
                | succ n ih =>
                  intro y5_156 z_rowsTo_156 o H locs ls hf hP hS hl kk
                  rw [f_X11_findAny_156_s] at hf
                  refine lv_iload hx hb dX11_findAny_156 (lv_at hl 4 rfl) ?_
                  refine lv_aload_n hx hb dX11_findAny_158 rfl (lv_at hl 0 rfl) ?_
                  refine gf_X11_63 Cx hP 0 rfl rfl dX11_findAny_159 ?_
                  refine lv_icmp_ge (tgt := 205) hx hb dX11_findAny_162 (by decide) (fun c29 => ?_) (fun c29 => ?_)
                  · have hf := ob_t c29 hf
                    obtain rfl := Option.some.inj hf
                    exact kk _ _ _ hP hS (lv_sub hl [0, 1, 2] rfl)
                  · have hf := ob_f c29 hf
                    refine lv_aload_n hx hb dX11_findAny_165 rfl (lv_at hl 0 rfl) ?_
                    refine gf_X11_25 Cx hP 0 rfl rfl dX11_findAny_166 ?_
                    refine lv_iload_n hx hb dX11_findAny_169 rfl (lv_at hl 2 rfl) ?_
                    refine lv_iconst (v := 1) hx hb dX11_findAny_170 (by decide) ?_
                    refine lv_iload hx hb dX11_findAny_171 (lv_at hl 4 rfl) ?_
                    refine lv_ishl hx hb dX11_findAny_173 ?_
                    refine lv_ior hx hb dX11_findAny_174 ?_
                    refine lv_dup2_11 hx hb dX11_findAny_175 rfl rfl ?_
                    obtain ⟨u30, hu30, hf⟩ := ob_b hf
                    refine ba_lald Cx hP 4 rfl hu30 dX11_findAny_176 ?_
                    refine lv_aload_n hx hb dX11_findAny_177 rfl (lv_at hl 0 rfl) ?_
                    refine gf_X11_22 Cx hP 0 rfl rfl dX11_findAny_178 ?_
                    refine lv_iload_n hx hb dX11_findAny_181 rfl (lv_at hl 2 rfl) ?_
                    obtain ⟨u31, hu31, hf⟩ := ob_b hf
                    refine ba_iald Cx hP 2 rfl hu31 dX11_findAny_182 ?_
                    refine lv_iload hx hb dX11_findAny_183 (lv_at hl 4 rfl) ?_
                    refine lv_ishr hx hb dX11_findAny_185 ?_
                    refine lv_iconst (v := 1) hx hb dX11_findAny_186 (by decide) ?_
                    refine lv_iand hx hb dX11_findAny_187 ?_
                    refine lv_iconst (v := 1) hx hb dX11_findAny_188 (by decide) ?_
                    refine ob_J (P := fun w32 => ∀ (H : Heap) (locs : List Loc) (ls : Array Slot), va_P D vwCl [(a_t, .inr (11, [.ref a_signs, .int v_signMany, .int v_seats, .ref a_links, .ref a_worths, .int v_bearIs, .ref a_far, .ref a_mays, .ref a_rowsTo, .ref a_endIn, .long u4, .ref a_ends, .ref a_pairSets, .ref a_awayIn, .ref a_now, .ref a_then, .long v_awayUpper, .long v_lower, .ref a_comers, .int v_comerMany, .ref a_seen, .ref a_seenMany, .int v_seenRows, .ref a_kept, .ref a_isKept, .int v_place, .int v_isWriting])), (a_far, eI cI 144 v_far), (a_mays, eI cI 4096 u1.2), (a_endIn, eJ cJ 13 z_endIn_91), (a_rowsTo, eJ cJ 4096 z_rowsTo_156)] H → va_S A s.heap H locs → lv_has ls 6 [(0, .ref a_t), (1, .int u1.1), (2, .int y2_91), (3, .long u27), (5, .int y5_156)] → W p l e { frames := 4, cells := 0, slots := 0, locals := 90 } s m args below meth c H locs 0 0 Q (F0 m 197 ls [.long w32, .long u30, .int (y2_91 ||| ((1 : Int32) <<< (y5_156 &&& 31))), .ref a_rowsTo])) hf ?_ ?_
                    · intro w32 hf H locs ls hP hS hl
                      refine lv_ladd hx hb dX11_findAny_197 ?_
                      obtain ⟨u34, hu34, hf⟩ := ob_b hf
                      refine ba_last (X' := [(a_t, .inr (11, [.ref a_signs, .int v_signMany, .int v_seats, .ref a_links, .ref a_worths, .int v_bearIs, .ref a_far, .ref a_mays, .ref a_rowsTo, .ref a_endIn, .long u4, .ref a_ends, .ref a_pairSets, .ref a_awayIn, .ref a_now, .ref a_then, .long v_awayUpper, .long v_lower, .ref a_comers, .int v_comerMany, .ref a_seen, .ref a_seenMany, .int v_seenRows, .ref a_kept, .ref a_isKept, .int v_place, .int v_isWriting])), (a_far, eI cI 144 v_far), (a_mays, eI cI 4096 u1.2), (a_endIn, eJ cJ 13 z_endIn_91), (a_rowsTo, eJ cJ 4096 u34)]) Cx hP hS rfl 4 rfl rfl hu34 dX11_findAny_198 (fun H locs hP hS => ?_)
                      refine lv_iinc (v := (y5_156 + 1)) (lv' := [(5, .int (y5_156 + 1)), (0, .ref a_t), (1, .int u1.1), (2, .int y2_91), (3, .long u27)]) hx hb dX11_findAny_199 hl (k := 4) rfl rfl (by decide) rfl (fun ls hl => ?_)
                      refine lv_goto (tgt := 156) hx hb dX11_findAny_202 (by decide) ?_
                      exact ih (y5_156 + 1) u34 _ _ _ _ hf hP hS (lv_sub hl [1, 2, 3, 4, 0] rfl) kk
                    · intro J197_33 hf
                      refine lv_icmp_ne (tgt := 196) hx hb dX11_findAny_189 (by decide) (fun c35 => ?_) (fun c35 => ?_)
                      · have hf := ob_fk c35 hf
                        refine lv_lconst (v := 0) hx hb dX11_findAny_196 (by decide) ?_
                        exact J197_33 (0 : Int64) hf _ _ _ hP hS (lv_sub hl [0, 1, 2, 3, 4] rfl)
                      · have hf := ob_tk c35 hf
                        refine lv_lload_n hx hb dX11_findAny_192 rfl (lv_at hl 3 rfl) ?_
                        refine lv_goto (tgt := 197) hx hb dX11_findAny_193 (by decide) ?_
                        exact J197_33 u27 hf _ _ _ hP hS (lv_sub hl [0, 1, 2, 3, 4] rfl)
              obtain ⟨u36, hu36, hf⟩ := ob_bk hf
              refine L156_28 FU (0 : Int32) z_rowsTo_91 u36 _ _ _ hu36 hP hS (lv_sub hl [2, 3, 4, 1, 0] rfl) ?_
              intro H locs ls hP hS hl
              exact J205_20 (z_endIn_91, u36) hf _ _ _ hP hS (lv_sub hl [0, 1, 2] rfl)
          · have hf := ob_tk c21 hf
            refine lv_aload_n hx hb dX11_findAny_105 rfl (lv_at hl 0 rfl) ?_
            refine gf_X11_29 Cx hP 0 rfl rfl dX11_findAny_106 ?_
            refine lv_iload_n hx hb dX11_findAny_109 rfl (lv_at hl 2 rfl) ?_
            obtain ⟨u37, hu37, hf⟩ := ob_bk hf
            refine iv_X11_144 (As := [.int y2_91]) (rest := [.ref a_endIn]) (is := []) (X' := [(a_t, .inr (11, [.ref a_signs, .int v_signMany, .int v_seats, .ref a_links, .ref a_worths, .int v_bearIs, .ref a_far, .ref a_mays, .ref a_rowsTo, .ref a_endIn, .long u4, .ref a_ends, .ref a_pairSets, .ref a_awayIn, .ref a_now, .ref a_then, .long v_awayUpper, .long v_lower, .ref a_comers, .int v_comerMany, .ref a_seen, .ref a_seenMany, .int v_seenRows, .ref a_kept, .ref a_isKept, .int v_place, .int v_isWriting])), (a_far, eI cI 144 v_far), (a_mays, eI cI 4096 u1.2), (a_endIn, eJ cJ 13 z_endIn_91), (a_rowsTo, eJ cJ 4096 z_rowsTo_91)]) Cx (c_X11_ones l D cI cJ cZ cO  y2_91 u37 hu37) hP hS rfl rfl rfl rfl rfl rfl hl.1 (Nat.le_of_ble_eq_true rfl) dX11_findAny_110 rfl rfl ⟨Nat.le_of_ble_eq_true rfl, Nat.le_of_ble_eq_true rfl⟩ ⟨Nat.zero_le _, Nat.zero_le _⟩ rfl (fun H locs hP hS => ?_)
            refine lv_dup2_11 hx hb dX11_findAny_113 rfl rfl ?_
            obtain ⟨u38, hu38, hf⟩ := ob_bk hf
            refine ba_lald Cx hP 3 rfl hu38 dX11_findAny_114 ?_
            refine lv_aload_n hx hb dX11_findAny_115 rfl (lv_at hl 0 rfl) ?_
            refine gf_X11_25 Cx hP 0 rfl rfl dX11_findAny_116 ?_
            refine lv_iload_n hx hb dX11_findAny_119 rfl (lv_at hl 2 rfl) ?_
            obtain ⟨u39, hu39, hf⟩ := ob_bk hf
            refine ba_lald Cx hP 4 rfl hu39 dX11_findAny_120 ?_
            refine lv_ladd hx hb dX11_findAny_121 ?_
            obtain ⟨u40, hu40, hf⟩ := ob_bk hf
            refine ba_last (X' := [(a_t, .inr (11, [.ref a_signs, .int v_signMany, .int v_seats, .ref a_links, .ref a_worths, .int v_bearIs, .ref a_far, .ref a_mays, .ref a_rowsTo, .ref a_endIn, .long u4, .ref a_ends, .ref a_pairSets, .ref a_awayIn, .ref a_now, .ref a_then, .long v_awayUpper, .long v_lower, .ref a_comers, .int v_comerMany, .ref a_seen, .ref a_seenMany, .int v_seenRows, .ref a_kept, .ref a_isKept, .int v_place, .int v_isWriting])), (a_far, eI cI 144 v_far), (a_mays, eI cI 4096 u1.2), (a_endIn, eJ cJ 13 u40), (a_rowsTo, eJ cJ 4096 z_rowsTo_91)]) Cx hP hS rfl 3 rfl rfl hu40 dX11_findAny_122 (fun H locs hP hS => ?_)
            refine lv_goto (tgt := 205) hx hb dX11_findAny_123 (by decide) ?_
            exact J205_20 (u40, z_rowsTo_91) hf _ _ _ hP hS (lv_sub hl [0, 1, 2] rfl)
  obtain ⟨u41, hu41, hf⟩ := ob_b hf
  refine L91_16 FU (0 : Int32) u8 u15 u41 _ _ _ hu41 hP hS (lv_sub hl [1, 2, 0] rfl) ?_
  intro H locs ls hP hS hl
  obtain rfl := Option.some.inj hf
  exact ret _ _ _ _ dX11_findAny_211 hP hS

def f_X11_meanUpper_4 (v_endIn : Nat → Int64) : Nat → Int64 → Int32 → Option (Int64)
  | 0, _, _ => none
  | n + 1, y1_4, y3_4 =>
  if (12 : Int32) < y3_4 then
  some (y1_4)
  else
  (aget 13 v_endIn y3_4).bind (fun u3 =>
  f_X11_meanUpper_4 v_endIn n (y1_4 + ((y3_4).toInt64 * u3)) (y3_4 + 1))
theorem f_X11_meanUpper_4_s (v_endIn : Nat → Int64) (n : Nat) (y1_4 : Int64) (y3_4 : Int32) : f_X11_meanUpper_4 v_endIn (n + 1) y1_4 y3_4 =
  (if (12 : Int32) < y3_4 then
  some (y1_4)
  else
  (aget 13 v_endIn y3_4).bind (fun u3 =>
  f_X11_meanUpper_4 v_endIn n (y1_4 + ((y3_4).toInt64 * u3)) (y3_4 + 1))) := rfl
def f_X11_meanUpper (v_endIn : Nat → Int64) : Option (Int64) :=
  (f_X11_meanUpper_4 v_endIn FU (0 : Int64) (0 : Int32)).bind (fun u4 =>
  some (u4))
set_option maxHeartbeats 4000000 in
set_option maxRecDepth 100000 in
theorem c_X11_meanUpper (l : Launch) (D : va_G) (cI cJ cZ cO : ClassId) (a_t a_signs a_links a_worths a_far a_mays a_rowsTo a_endIn a_ends a_pairSets a_awayIn a_now a_then a_comers a_seen a_seenMany a_kept a_isKept : Nat) (v_signMany : Int32) (v_seats : Int32) (v_bearIs : Int32) (v_rowsAll : Int64) (v_awayUpper : Int64) (v_lower : Int64) (v_comerMany : Int32) (v_seenRows : Int32) (v_place : Int32) (v_isWriting : Int32) (v_endIn : Nat → Int64) (out : Int64) (hf : f_X11_meanUpper v_endIn = some out) : MetR l yX11_meanUpper (Cond.code yX11_meanUpper cX11_meanUpper 4 (some .long) :: tbG) { frames := 0, cells := 0, slots := 0, locals := 0 } D (tyL cI cJ cZ cO) [.ref a_t] [(a_t, .inr (11, [.ref a_signs, .int v_signMany, .int v_seats, .ref a_links, .ref a_worths, .int v_bearIs, .ref a_far, .ref a_mays, .ref a_rowsTo, .ref a_endIn, .long v_rowsAll, .ref a_ends, .ref a_pairSets, .ref a_awayIn, .ref a_now, .ref a_then, .long v_awayUpper, .long v_lower, .ref a_comers, .int v_comerMany, .ref a_seen, .ref a_seenMany, .int v_seenRows, .ref a_kept, .ref a_isKept, .int v_place, .int v_isWriting])), (a_endIn, eJ cJ 13 v_endIn)] (some (.long out)) [(a_t, .inr (11, [.ref a_signs, .int v_signMany, .int v_seats, .ref a_links, .ref a_worths, .int v_bearIs, .ref a_far, .ref a_mays, .ref a_rowsTo, .ref a_endIn, .long v_rowsAll, .ref a_ends, .ref a_pairSets, .ref a_awayIn, .ref a_now, .ref a_then, .long v_awayUpper, .long v_lower, .ref a_comers, .int v_comerMany, .ref a_seen, .ref a_seenMany, .int v_seenRows, .ref a_kept, .ref a_isKept, .int v_place, .int v_isWriting])), (a_endIn, eJ cJ 13 v_endIn)] := by
  refine ba_ofL RX11 [(0, .ref a_t)] (by decide +kernel) rfl (Nat.le_of_ble_eq_true rfl) rfl ?_
  intro p e s m args below meth c Q A Cx hP ret ls hl
  obtain ⟨⟨hx, hb, hml, hown, hts⟩, hK, hD, hA⟩ := id Cx
  have hS : va_S A s.heap s.heap [] := va_S.rf
  unfold f_X11_meanUpper at hf
  refine lv_lconst (v := 0) hx hb dX11_meanUpper_0 (by decide) ?_
  refine lv_lstore_n (lv' := [(1, .long (0 : Int64)), (0, .ref a_t)]) hx hb dX11_meanUpper_1 rfl hl (by decide) rfl (fun ls hl => ?_)
  refine lv_iconst (v := 0) hx hb dX11_meanUpper_2 (by decide) ?_
  refine lv_istore_n (lv' := [(3, .int (0 : Int32)), (1, .long (0 : Int64)), (0, .ref a_t)]) hx hb dX11_meanUpper_3 rfl hl (by decide) rfl (fun ls hl => ?_)
  have L4_1 : ∀ (n : Nat) (y1_4 : Int64) (y3_4 : Int32) (o : Int64) (H : Heap) (locs : List Loc) (ls : Array Slot), f_X11_meanUpper_4 v_endIn n y1_4 y3_4 = some o → va_P D vwCl [(a_t, .inr (11, [.ref a_signs, .int v_signMany, .int v_seats, .ref a_links, .ref a_worths, .int v_bearIs, .ref a_far, .ref a_mays, .ref a_rowsTo, .ref a_endIn, .long v_rowsAll, .ref a_ends, .ref a_pairSets, .ref a_awayIn, .ref a_now, .ref a_then, .long v_awayUpper, .long v_lower, .ref a_comers, .int v_comerMany, .ref a_seen, .ref a_seenMany, .int v_seenRows, .ref a_kept, .ref a_isKept, .int v_place, .int v_isWriting])), (a_endIn, eJ cJ 13 v_endIn)] H → va_S A s.heap H locs → lv_has ls 4 [(0, .ref a_t), (1, .long y1_4), (3, .int y3_4)] → (∀ (H : Heap) (locs : List Loc) (ls : Array Slot), va_P D vwCl [(a_t, .inr (11, [.ref a_signs, .int v_signMany, .int v_seats, .ref a_links, .ref a_worths, .int v_bearIs, .ref a_far, .ref a_mays, .ref a_rowsTo, .ref a_endIn, .long v_rowsAll, .ref a_ends, .ref a_pairSets, .ref a_awayIn, .ref a_now, .ref a_then, .long v_awayUpper, .long v_lower, .ref a_comers, .int v_comerMany, .ref a_seen, .ref a_seenMany, .int v_seenRows, .ref a_kept, .ref a_isKept, .int v_place, .int v_isWriting])), (a_endIn, eJ cJ 13 v_endIn)] H → va_S A s.heap H locs → lv_has ls 4 [(1, .long o)] → W p l e { frames := 0, cells := 0, slots := 0, locals := 0 } s m args below meth c H locs 0 0 Q (F0 m 28 ls [])) → W p l e { frames := 0, cells := 0, slots := 0, locals := 0 } s m args below meth c H locs 0 0 Q (F0 m 4 ls []) := by
    intro n
    induction n with
    | zero => intro y1_4 y3_4 o H locs ls hf; exact (ob_n hf).elim
    | succ n ih =>
      intro y1_4 y3_4 o H locs ls hf hP hS hl kk
      rw [f_X11_meanUpper_4_s] at hf
      refine lv_iload_n hx hb dX11_meanUpper_4 rfl (lv_at hl 2 rfl) ?_
      refine lv_bipush (v := 12) hx hb dX11_meanUpper_5 (by decide) ?_
      refine lv_icmp_gt (tgt := 28) hx hb dX11_meanUpper_7 (by decide) (fun c2 => ?_) (fun c2 => ?_)
      · have hf := ob_t c2 hf
        obtain rfl := Option.some.inj hf
        exact kk _ _ _ hP hS (lv_sub hl [1] rfl)
      · have hf := ob_f c2 hf
        refine lv_lload_n hx hb dX11_meanUpper_10 rfl (lv_at hl 1 rfl) ?_
        refine lv_iload_n hx hb dX11_meanUpper_11 rfl (lv_at hl 2 rfl) ?_
        refine lv_i2l (v := (y3_4).toInt64) hx hb dX11_meanUpper_12 rfl ?_
        refine lv_aload_n hx hb dX11_meanUpper_13 rfl (lv_at hl 0 rfl) ?_
        refine gf_X11_29 Cx hP 0 rfl rfl dX11_meanUpper_14 ?_
        refine lv_iload_n hx hb dX11_meanUpper_17 rfl (lv_at hl 2 rfl) ?_
        obtain ⟨u3, hu3, hf⟩ := ob_b hf
        refine ba_lald Cx hP 1 rfl hu3 dX11_meanUpper_18 ?_
        refine lv_lmul hx hb dX11_meanUpper_19 ?_
        refine lv_ladd hx hb dX11_meanUpper_20 ?_
        refine lv_lstore_n (lv' := [(1, .long (y1_4 + ((y3_4).toInt64 * u3))), (0, .ref a_t), (3, .int y3_4)]) hx hb dX11_meanUpper_21 rfl hl (by decide) rfl (fun ls hl => ?_)
        refine lv_iinc (v := (y3_4 + 1)) (lv' := [(3, .int (y3_4 + 1)), (1, .long (y1_4 + ((y3_4).toInt64 * u3))), (0, .ref a_t)]) hx hb dX11_meanUpper_22 hl (k := 2) rfl rfl (by decide) rfl (fun ls hl => ?_)
        refine lv_goto (tgt := 4) hx hb dX11_meanUpper_25 (by decide) ?_
        exact ih (y1_4 + ((y3_4).toInt64 * u3)) (y3_4 + 1) _ _ _ _ hf hP hS (lv_sub hl [2, 1, 0] rfl) kk
  obtain ⟨u4, hu4, hf⟩ := ob_b hf
  refine L4_1 FU (0 : Int64) (0 : Int32) u4 _ _ _ hu4 hP hS (lv_sub hl [2, 1, 0] rfl) ?_
  intro H locs ls hP hS hl
  refine lv_lload_n hx hb dX11_meanUpper_28 rfl (lv_at hl 0 rfl) ?_
  obtain rfl := Option.some.inj hf
  exact ret _ _ _ _ dX11_meanUpper_29 hP hS

def f_X11_mean (v_seats : Int32) (v_bearIs : Int32) (v_rowsAll : Int64) (v_far : Nat → Int32) (v_mays : Nat → Int32) (v_endIn : Nat → Int64) (v_rowsTo : Nat → Int64) (x1 : Int32) : Option (Int64 × Int64 × (Nat → Int32) × (Nat → Int64) × (Nat → Int64)) :=
  (f_X11_isPart x1).bind (fun u1 =>
  if u1 = 0 then
  some ((-1000000000000000002 : Int64), v_rowsAll, v_mays, v_endIn, v_rowsTo)
  else
  (f_X11_findAny v_seats v_bearIs v_far v_mays v_endIn v_rowsTo).bind (fun u3 =>
  (f_X11_meanUpper u3.2.2.1).bind (fun u4 =>
  (f_X11_lowest u4 u3.1 x1).bind (fun u5 =>
  some (u5, u3.1, u3.2.1, u3.2.2.1, u3.2.2.2)))))
set_option maxHeartbeats 4000000 in
set_option maxRecDepth 100000 in
theorem c_X11_mean (l : Launch) (D : va_G) (cI cJ cZ cO : ClassId) (a_t a_signs a_links a_worths a_far a_mays a_rowsTo a_endIn a_ends a_pairSets a_awayIn a_now a_then a_comers a_seen a_seenMany a_kept a_isKept : Nat) (v_signMany : Int32) (v_seats : Int32) (v_bearIs : Int32) (v_rowsAll : Int64) (v_awayUpper : Int64) (v_lower : Int64) (v_comerMany : Int32) (v_seenRows : Int32) (v_place : Int32) (v_isWriting : Int32) (v_far : Nat → Int32) (v_mays : Nat → Int32) (v_endIn : Nat → Int64) (v_rowsTo : Nat → Int64) (x1 : Int32) (out : Int64 × Int64 × (Nat → Int32) × (Nat → Int64) × (Nat → Int64)) (hf : f_X11_mean v_seats v_bearIs v_rowsAll v_far v_mays v_endIn v_rowsTo x1 = some out) : MetR l yX11_mean (Cond.code yX11_mean cX11_mean 2 (some .long) :: tbG) { frames := 5, cells := 0, slots := 0, locals := 115 } D (tyL cI cJ cZ cO) [.ref a_t, .int x1] [(a_t, .inr (11, [.ref a_signs, .int v_signMany, .int v_seats, .ref a_links, .ref a_worths, .int v_bearIs, .ref a_far, .ref a_mays, .ref a_rowsTo, .ref a_endIn, .long v_rowsAll, .ref a_ends, .ref a_pairSets, .ref a_awayIn, .ref a_now, .ref a_then, .long v_awayUpper, .long v_lower, .ref a_comers, .int v_comerMany, .ref a_seen, .ref a_seenMany, .int v_seenRows, .ref a_kept, .ref a_isKept, .int v_place, .int v_isWriting])), (a_far, eI cI 144 v_far), (a_mays, eI cI 4096 v_mays), (a_endIn, eJ cJ 13 v_endIn), (a_rowsTo, eJ cJ 4096 v_rowsTo)] (some (.long out.1)) [(a_t, .inr (11, [.ref a_signs, .int v_signMany, .int v_seats, .ref a_links, .ref a_worths, .int v_bearIs, .ref a_far, .ref a_mays, .ref a_rowsTo, .ref a_endIn, .long out.2.1, .ref a_ends, .ref a_pairSets, .ref a_awayIn, .ref a_now, .ref a_then, .long v_awayUpper, .long v_lower, .ref a_comers, .int v_comerMany, .ref a_seen, .ref a_seenMany, .int v_seenRows, .ref a_kept, .ref a_isKept, .int v_place, .int v_isWriting])), (a_far, eI cI 144 v_far), (a_mays, eI cI 4096 out.2.2.1), (a_endIn, eJ cJ 13 out.2.2.2.1), (a_rowsTo, eJ cJ 4096 out.2.2.2.2)] := by
  refine ba_ofL RX11 [(0, .ref a_t), (1, .int x1)] (by decide +kernel) rfl (Nat.le_of_ble_eq_true rfl) rfl ?_
  intro p e s m args below meth c Q A Cx hP ret ls hl
  obtain ⟨⟨hx, hb, hml, hown, hts⟩, hK, hD, hA⟩ := id Cx
  have hS : va_S A s.heap s.heap [] := va_S.rf
  unfold f_X11_mean at hf
  refine lv_iload_n hx hb dX11_mean_0 rfl (lv_at hl 1 rfl) ?_
  obtain ⟨u1, hu1, hf⟩ := ob_b hf
  refine iv_X11_153 (As := [.int x1]) (rest := []) (is := []) (X' := [(a_t, .inr (11, [.ref a_signs, .int v_signMany, .int v_seats, .ref a_links, .ref a_worths, .int v_bearIs, .ref a_far, .ref a_mays, .ref a_rowsTo, .ref a_endIn, .long v_rowsAll, .ref a_ends, .ref a_pairSets, .ref a_awayIn, .ref a_now, .ref a_then, .long v_awayUpper, .long v_lower, .ref a_comers, .int v_comerMany, .ref a_seen, .ref a_seenMany, .int v_seenRows, .ref a_kept, .ref a_isKept, .int v_place, .int v_isWriting])), (a_far, eI cI 144 v_far), (a_mays, eI cI 4096 v_mays), (a_endIn, eJ cJ 13 v_endIn), (a_rowsTo, eJ cJ 4096 v_rowsTo)]) Cx (c_X11_isPart l D cI cJ cZ cO  x1 u1 hu1) hP hS rfl rfl rfl rfl rfl rfl hl.1 (Nat.le_of_ble_eq_true rfl) dX11_mean_1 rfl rfl ⟨Nat.le_of_ble_eq_true rfl, Nat.le_of_ble_eq_true rfl⟩ ⟨Nat.zero_le _, Nat.zero_le _⟩ rfl (fun H locs hP hS => ?_)
  refine lv_if_ne (tgt := 11) hx hb dX11_mean_4 (by decide) (fun c2 => ?_) (fun c2 => ?_)
  · have hf := ob_f c2 hf
    refine lv_aload_n hx hb dX11_mean_11 rfl (lv_at hl 0 rfl) ?_
    obtain ⟨u3, hu3, hf⟩ := ob_b hf
    refine iv_X11_158 (As := []) (rest := []) (is := [0, 1, 2, 3, 4]) (q0 := 0) (X' := [(a_t, .inr (11, [.ref a_signs, .int v_signMany, .int v_seats, .ref a_links, .ref a_worths, .int v_bearIs, .ref a_far, .ref a_mays, .ref a_rowsTo, .ref a_endIn, .long u3.1, .ref a_ends, .ref a_pairSets, .ref a_awayIn, .ref a_now, .ref a_then, .long v_awayUpper, .long v_lower, .ref a_comers, .int v_comerMany, .ref a_seen, .ref a_seenMany, .int v_seenRows, .ref a_kept, .ref a_isKept, .int v_place, .int v_isWriting])), (a_far, eI cI 144 v_far), (a_mays, eI cI 4096 u3.2.1), (a_endIn, eJ cJ 13 u3.2.2.1), (a_rowsTo, eJ cJ 4096 u3.2.2.2)]) Cx (c_X11_findAny l D cI cJ cZ cO a_t a_signs a_links a_worths a_far a_mays a_rowsTo a_endIn a_ends a_pairSets a_awayIn a_now a_then a_comers a_seen a_seenMany a_kept a_isKept v_signMany v_seats v_bearIs v_rowsAll v_awayUpper v_lower v_comerMany v_seenRows v_place v_isWriting v_far v_mays v_endIn v_rowsTo u3 hu3) hP hS rfl rfl rfl rfl rfl rfl rfl hl.1 (Nat.le_of_ble_eq_true rfl) dX11_mean_12 rfl rfl ⟨Nat.le_of_ble_eq_true rfl, Nat.le_of_ble_eq_true rfl⟩ ⟨Nat.zero_le _, Nat.zero_le _⟩ rfl (fun H locs hP hS => ?_)
    refine lv_aload_n hx hb dX11_mean_15 rfl (lv_at hl 0 rfl) ?_
    obtain ⟨u4, hu4, hf⟩ := ob_b hf
    refine iv_X11_161 (As := []) (rest := []) (is := [0, 3]) (q0 := 0) (X' := [(a_t, .inr (11, [.ref a_signs, .int v_signMany, .int v_seats, .ref a_links, .ref a_worths, .int v_bearIs, .ref a_far, .ref a_mays, .ref a_rowsTo, .ref a_endIn, .long u3.1, .ref a_ends, .ref a_pairSets, .ref a_awayIn, .ref a_now, .ref a_then, .long v_awayUpper, .long v_lower, .ref a_comers, .int v_comerMany, .ref a_seen, .ref a_seenMany, .int v_seenRows, .ref a_kept, .ref a_isKept, .int v_place, .int v_isWriting])), (a_far, eI cI 144 v_far), (a_mays, eI cI 4096 u3.2.1), (a_endIn, eJ cJ 13 u3.2.2.1), (a_rowsTo, eJ cJ 4096 u3.2.2.2)]) Cx (c_X11_meanUpper l D cI cJ cZ cO a_t a_signs a_links a_worths a_far a_mays a_rowsTo a_endIn a_ends a_pairSets a_awayIn a_now a_then a_comers a_seen a_seenMany a_kept a_isKept v_signMany v_seats v_bearIs u3.1 v_awayUpper v_lower v_comerMany v_seenRows v_place v_isWriting u3.2.2.1 u4 hu4) hP hS rfl rfl rfl rfl rfl rfl rfl hl.1 (Nat.le_of_ble_eq_true rfl) dX11_mean_16 rfl rfl ⟨Nat.le_of_ble_eq_true rfl, Nat.le_of_ble_eq_true rfl⟩ ⟨Nat.zero_le _, Nat.zero_le _⟩ rfl (fun H locs hP hS => ?_)
    refine lv_aload_n hx hb dX11_mean_19 rfl (lv_at hl 0 rfl) ?_
    refine gf_X11_149 Cx hP 0 rfl rfl dX11_mean_20 ?_
    refine lv_iload_n hx hb dX11_mean_23 rfl (lv_at hl 1 rfl) ?_
    obtain ⟨u5, hu5, hf⟩ := ob_b hf
    refine iv_X11_165 (As := [.long u4, .long u3.1, .int x1]) (rest := []) (is := []) (X' := [(a_t, .inr (11, [.ref a_signs, .int v_signMany, .int v_seats, .ref a_links, .ref a_worths, .int v_bearIs, .ref a_far, .ref a_mays, .ref a_rowsTo, .ref a_endIn, .long u3.1, .ref a_ends, .ref a_pairSets, .ref a_awayIn, .ref a_now, .ref a_then, .long v_awayUpper, .long v_lower, .ref a_comers, .int v_comerMany, .ref a_seen, .ref a_seenMany, .int v_seenRows, .ref a_kept, .ref a_isKept, .int v_place, .int v_isWriting])), (a_far, eI cI 144 v_far), (a_mays, eI cI 4096 u3.2.1), (a_endIn, eJ cJ 13 u3.2.2.1), (a_rowsTo, eJ cJ 4096 u3.2.2.2)]) Cx (c_X11_lowest l D cI cJ cZ cO  u4 u3.1 x1 u5 hu5) hP hS rfl rfl rfl rfl rfl rfl hl.1 (Nat.le_of_ble_eq_true rfl) dX11_mean_24 rfl rfl ⟨Nat.le_of_ble_eq_true rfl, Nat.le_of_ble_eq_true rfl⟩ ⟨Nat.zero_le _, Nat.zero_le _⟩ rfl (fun H locs hP hS => ?_)
    obtain rfl := Option.some.inj hf
    exact ret _ _ _ _ dX11_mean_27 hP hS
  · have hf := ob_t c2 hf
    refine lv_ldc2 hx hb hown (hts _ kw_949) dX11_mean_7 ?_
    obtain rfl := Option.some.inj hf
    exact ret _ _ _ _ dX11_mean_10 hP hS

def f_X11_odds (v_seats : Int32) (v_bearIs : Int32) (v_rowsAll : Int64) (v_far : Nat → Int32) (v_mays : Nat → Int32) (v_endIn : Nat → Int64) (v_rowsTo : Nat → Int64) (x1 : Int32) (x2 : Int32) : Option (Int64 × Int64 × (Nat → Int32) × (Nat → Int64) × (Nat → Int64)) :=
  (f_X11_in ((x1).toInt64) (0 : Int64) (12 : Int64)).bind (fun u1 =>
  if u1 = 0 then
  some ((-1000000000000000002 : Int64), v_rowsAll, v_mays, v_endIn, v_rowsTo)
  else
  (f_X11_isPart x2).bind (fun u3 =>
  if u3 = 0 then
  some ((-1000000000000000002 : Int64), v_rowsAll, v_mays, v_endIn, v_rowsTo)
  else
  (f_X11_findAny v_seats v_bearIs v_far v_mays v_endIn v_rowsTo).bind (fun u5 =>
  (aget 13 u5.2.2.1 x1).bind (fun u6 =>
  (f_X11_lowest u6 u5.1 x2).bind (fun u7 =>
  some (u7, u5.1, u5.2.1, u5.2.2.1, u5.2.2.2))))))
set_option maxHeartbeats 4000000 in
set_option maxRecDepth 100000 in
theorem c_X11_odds (l : Launch) (D : va_G) (cI cJ cZ cO : ClassId) (a_t a_signs a_links a_worths a_far a_mays a_rowsTo a_endIn a_ends a_pairSets a_awayIn a_now a_then a_comers a_seen a_seenMany a_kept a_isKept : Nat) (v_signMany : Int32) (v_seats : Int32) (v_bearIs : Int32) (v_rowsAll : Int64) (v_awayUpper : Int64) (v_lower : Int64) (v_comerMany : Int32) (v_seenRows : Int32) (v_place : Int32) (v_isWriting : Int32) (v_far : Nat → Int32) (v_mays : Nat → Int32) (v_endIn : Nat → Int64) (v_rowsTo : Nat → Int64) (x1 : Int32) (x2 : Int32) (out : Int64 × Int64 × (Nat → Int32) × (Nat → Int64) × (Nat → Int64)) (hf : f_X11_odds v_seats v_bearIs v_rowsAll v_far v_mays v_endIn v_rowsTo x1 x2 = some out) : MetR l yX11_odds (Cond.code yX11_odds cX11_odds 3 (some .long) :: tbG) { frames := 5, cells := 0, slots := 0, locals := 115 } D (tyL cI cJ cZ cO) [.ref a_t, .int x1, .int x2] [(a_t, .inr (11, [.ref a_signs, .int v_signMany, .int v_seats, .ref a_links, .ref a_worths, .int v_bearIs, .ref a_far, .ref a_mays, .ref a_rowsTo, .ref a_endIn, .long v_rowsAll, .ref a_ends, .ref a_pairSets, .ref a_awayIn, .ref a_now, .ref a_then, .long v_awayUpper, .long v_lower, .ref a_comers, .int v_comerMany, .ref a_seen, .ref a_seenMany, .int v_seenRows, .ref a_kept, .ref a_isKept, .int v_place, .int v_isWriting])), (a_far, eI cI 144 v_far), (a_mays, eI cI 4096 v_mays), (a_endIn, eJ cJ 13 v_endIn), (a_rowsTo, eJ cJ 4096 v_rowsTo)] (some (.long out.1)) [(a_t, .inr (11, [.ref a_signs, .int v_signMany, .int v_seats, .ref a_links, .ref a_worths, .int v_bearIs, .ref a_far, .ref a_mays, .ref a_rowsTo, .ref a_endIn, .long out.2.1, .ref a_ends, .ref a_pairSets, .ref a_awayIn, .ref a_now, .ref a_then, .long v_awayUpper, .long v_lower, .ref a_comers, .int v_comerMany, .ref a_seen, .ref a_seenMany, .int v_seenRows, .ref a_kept, .ref a_isKept, .int v_place, .int v_isWriting])), (a_far, eI cI 144 v_far), (a_mays, eI cI 4096 out.2.2.1), (a_endIn, eJ cJ 13 out.2.2.2.1), (a_rowsTo, eJ cJ 4096 out.2.2.2.2)] := by
  refine ba_ofL RX11 [(0, .ref a_t), (1, .int x1), (2, .int x2)] (by decide +kernel) rfl (Nat.le_of_ble_eq_true rfl) rfl ?_
  intro p e s m args below meth c Q A Cx hP ret ls hl
  obtain ⟨⟨hx, hb, hml, hown, hts⟩, hK, hD, hA⟩ := id Cx
  have hS : va_S A s.heap s.heap [] := va_S.rf
  unfold f_X11_odds at hf
  refine lv_iload_n hx hb dX11_odds_0 rfl (lv_at hl 1 rfl) ?_
  refine lv_i2l (v := (x1).toInt64) hx hb dX11_odds_1 rfl ?_
  refine lv_lconst (v := 0) hx hb dX11_odds_2 (by decide) ?_
  refine lv_ldc2 hx hb hown (hts _ kw_941) dX11_odds_3 ?_
  obtain ⟨u1, hu1, hf⟩ := ob_b hf
  refine iv_X11_74 (As := [.long ((x1).toInt64), .long (0 : Int64), .long (12 : Int64)]) (rest := []) (is := []) (X' := [(a_t, .inr (11, [.ref a_signs, .int v_signMany, .int v_seats, .ref a_links, .ref a_worths, .int v_bearIs, .ref a_far, .ref a_mays, .ref a_rowsTo, .ref a_endIn, .long v_rowsAll, .ref a_ends, .ref a_pairSets, .ref a_awayIn, .ref a_now, .ref a_then, .long v_awayUpper, .long v_lower, .ref a_comers, .int v_comerMany, .ref a_seen, .ref a_seenMany, .int v_seenRows, .ref a_kept, .ref a_isKept, .int v_place, .int v_isWriting])), (a_far, eI cI 144 v_far), (a_mays, eI cI 4096 v_mays), (a_endIn, eJ cJ 13 v_endIn), (a_rowsTo, eJ cJ 4096 v_rowsTo)]) Cx (c_X11_in l D cI cJ cZ cO  ((x1).toInt64) (0 : Int64) (12 : Int64) u1 hu1) hP hS rfl rfl rfl rfl rfl rfl hl.1 (Nat.le_of_ble_eq_true rfl) dX11_odds_6 rfl rfl ⟨Nat.le_of_ble_eq_true rfl, Nat.le_of_ble_eq_true rfl⟩ ⟨Nat.zero_le _, Nat.zero_le _⟩ rfl (fun H locs hP hS => ?_)
  refine lv_if_eq (tgt := 19) hx hb dX11_odds_9 (by decide) (fun c2 => ?_) (fun c2 => ?_)
  · have hf := ob_t c2 hf
    refine lv_ldc2 hx hb hown (hts _ kw_949) dX11_odds_19 ?_
    obtain rfl := Option.some.inj hf
    exact ret _ _ _ _ dX11_odds_22 hP hS
  · have hf := ob_f c2 hf
    refine lv_iload_n hx hb dX11_odds_12 rfl (lv_at hl 2 rfl) ?_
    obtain ⟨u3, hu3, hf⟩ := ob_b hf
    refine iv_X11_153 (As := [.int x2]) (rest := []) (is := []) (X' := [(a_t, .inr (11, [.ref a_signs, .int v_signMany, .int v_seats, .ref a_links, .ref a_worths, .int v_bearIs, .ref a_far, .ref a_mays, .ref a_rowsTo, .ref a_endIn, .long v_rowsAll, .ref a_ends, .ref a_pairSets, .ref a_awayIn, .ref a_now, .ref a_then, .long v_awayUpper, .long v_lower, .ref a_comers, .int v_comerMany, .ref a_seen, .ref a_seenMany, .int v_seenRows, .ref a_kept, .ref a_isKept, .int v_place, .int v_isWriting])), (a_far, eI cI 144 v_far), (a_mays, eI cI 4096 v_mays), (a_endIn, eJ cJ 13 v_endIn), (a_rowsTo, eJ cJ 4096 v_rowsTo)]) Cx (c_X11_isPart l D cI cJ cZ cO  x2 u3 hu3) hP hS rfl rfl rfl rfl rfl rfl hl.1 (Nat.le_of_ble_eq_true rfl) dX11_odds_13 rfl rfl ⟨Nat.le_of_ble_eq_true rfl, Nat.le_of_ble_eq_true rfl⟩ ⟨Nat.zero_le _, Nat.zero_le _⟩ rfl (fun H locs hP hS => ?_)
    refine lv_if_ne (tgt := 23) hx hb dX11_odds_16 (by decide) (fun c4 => ?_) (fun c4 => ?_)
    · have hf := ob_f c4 hf
      refine lv_aload_n hx hb dX11_odds_23 rfl (lv_at hl 0 rfl) ?_
      obtain ⟨u5, hu5, hf⟩ := ob_b hf
      refine iv_X11_158 (As := []) (rest := []) (is := [0, 1, 2, 3, 4]) (q0 := 0) (X' := [(a_t, .inr (11, [.ref a_signs, .int v_signMany, .int v_seats, .ref a_links, .ref a_worths, .int v_bearIs, .ref a_far, .ref a_mays, .ref a_rowsTo, .ref a_endIn, .long u5.1, .ref a_ends, .ref a_pairSets, .ref a_awayIn, .ref a_now, .ref a_then, .long v_awayUpper, .long v_lower, .ref a_comers, .int v_comerMany, .ref a_seen, .ref a_seenMany, .int v_seenRows, .ref a_kept, .ref a_isKept, .int v_place, .int v_isWriting])), (a_far, eI cI 144 v_far), (a_mays, eI cI 4096 u5.2.1), (a_endIn, eJ cJ 13 u5.2.2.1), (a_rowsTo, eJ cJ 4096 u5.2.2.2)]) Cx (c_X11_findAny l D cI cJ cZ cO a_t a_signs a_links a_worths a_far a_mays a_rowsTo a_endIn a_ends a_pairSets a_awayIn a_now a_then a_comers a_seen a_seenMany a_kept a_isKept v_signMany v_seats v_bearIs v_rowsAll v_awayUpper v_lower v_comerMany v_seenRows v_place v_isWriting v_far v_mays v_endIn v_rowsTo u5 hu5) hP hS rfl rfl rfl rfl rfl rfl rfl hl.1 (Nat.le_of_ble_eq_true rfl) dX11_odds_24 rfl rfl ⟨Nat.le_of_ble_eq_true rfl, Nat.le_of_ble_eq_true rfl⟩ ⟨Nat.zero_le _, Nat.zero_le _⟩ rfl (fun H locs hP hS => ?_)
      refine lv_aload_n hx hb dX11_odds_27 rfl (lv_at hl 0 rfl) ?_
      refine gf_X11_29 Cx hP 0 rfl rfl dX11_odds_28 ?_
      refine lv_iload_n hx hb dX11_odds_31 rfl (lv_at hl 1 rfl) ?_
      obtain ⟨u6, hu6, hf⟩ := ob_b hf
      refine ba_lald Cx hP 3 rfl hu6 dX11_odds_32 ?_
      refine lv_aload_n hx hb dX11_odds_33 rfl (lv_at hl 0 rfl) ?_
      refine gf_X11_149 Cx hP 0 rfl rfl dX11_odds_34 ?_
      refine lv_iload_n hx hb dX11_odds_37 rfl (lv_at hl 2 rfl) ?_
      obtain ⟨u7, hu7, hf⟩ := ob_b hf
      refine iv_X11_165 (As := [.long u6, .long u5.1, .int x2]) (rest := []) (is := []) (X' := [(a_t, .inr (11, [.ref a_signs, .int v_signMany, .int v_seats, .ref a_links, .ref a_worths, .int v_bearIs, .ref a_far, .ref a_mays, .ref a_rowsTo, .ref a_endIn, .long u5.1, .ref a_ends, .ref a_pairSets, .ref a_awayIn, .ref a_now, .ref a_then, .long v_awayUpper, .long v_lower, .ref a_comers, .int v_comerMany, .ref a_seen, .ref a_seenMany, .int v_seenRows, .ref a_kept, .ref a_isKept, .int v_place, .int v_isWriting])), (a_far, eI cI 144 v_far), (a_mays, eI cI 4096 u5.2.1), (a_endIn, eJ cJ 13 u5.2.2.1), (a_rowsTo, eJ cJ 4096 u5.2.2.2)]) Cx (c_X11_lowest l D cI cJ cZ cO  u6 u5.1 x2 u7 hu7) hP hS rfl rfl rfl rfl rfl rfl hl.1 (Nat.le_of_ble_eq_true rfl) dX11_odds_38 rfl rfl ⟨Nat.le_of_ble_eq_true rfl, Nat.le_of_ble_eq_true rfl⟩ ⟨Nat.zero_le _, Nat.zero_le _⟩ rfl (fun H locs hP hS => ?_)
      obtain rfl := Option.some.inj hf
      exact ret _ _ _ _ dX11_odds_41 hP hS
    · have hf := ob_t c4 hf
      refine lv_ldc2 hx hb hown (hts _ kw_949) dX11_odds_19 ?_
      obtain rfl := Option.some.inj hf
      exact ret _ _ _ _ dX11_odds_22 hP hS

def f_X11_first_38 (v_seats : Int32) (v_bearIs : Int32) (v_far : Nat → Int32) (v_worths : Nat → Int32) (x1 : Int32) : Nat → Int32 → Int32 → Int32 → Int32 → Int32 → Option (Int32 × Int32 × Int32 × Int32)
  | 0, _, _, _, _, _ => none
  | n + 1, y3_38, y4_38, y5_38, y6_38, y7_38 =>
  if v_seats ≤ y7_38 then
  some (y3_38, y4_38, y5_38, y6_38)
  else
  (f_X11_filledBy v_seats v_bearIs v_far v_worths ((1 : Int32) <<< (y7_38 &&& 31)) x1).bind (fun u7 =>
  (f_X11_ones u7).bind (fun u8 =>
  (if y3_38 < 0 then
  some (y7_38, u8)
  else
  if u8 ≤ y5_38 then
  some (y3_38, y5_38)
  else
  some (y7_38, u8)).bind (fun w9 =>
  (if y4_38 < 0 then
  some (y7_38, u8)
  else
  if y6_38 ≤ u8 then
  some (y4_38, y6_38)
  else
  some (y7_38, u8)).bind (fun w11 =>
  f_X11_first_38 v_seats v_bearIs v_far v_worths x1 n w9.1 w11.1 w9.2 w11.2 (y7_38 + 1)))))
theorem f_X11_first_38_s (v_seats : Int32) (v_bearIs : Int32) (v_far : Nat → Int32) (v_worths : Nat → Int32) (x1 : Int32) (n : Nat) (y3_38 : Int32) (y4_38 : Int32) (y5_38 : Int32) (y6_38 : Int32) (y7_38 : Int32) : f_X11_first_38 v_seats v_bearIs v_far v_worths x1 (n + 1) y3_38 y4_38 y5_38 y6_38 y7_38 =
  (if v_seats ≤ y7_38 then
  some (y3_38, y4_38, y5_38, y6_38)
  else
  (f_X11_filledBy v_seats v_bearIs v_far v_worths ((1 : Int32) <<< (y7_38 &&& 31)) x1).bind (fun u7 =>
  (f_X11_ones u7).bind (fun u8 =>
  (if y3_38 < 0 then
  some (y7_38, u8)
  else
  if u8 ≤ y5_38 then
  some (y3_38, y5_38)
  else
  some (y7_38, u8)).bind (fun w9 =>
  (if y4_38 < 0 then
  some (y7_38, u8)
  else
  if y6_38 ≤ u8 then
  some (y4_38, y6_38)
  else
  some (y7_38, u8)).bind (fun w11 =>
  f_X11_first_38 v_seats v_bearIs v_far v_worths x1 n w9.1 w11.1 w9.2 w11.2 (y7_38 + 1)))))) := rfl
def f_X11_first (v_seats : Int32) (v_bearIs : Int32) (v_far : Nat → Int32) (v_worths : Nat → Int32) (x1 : Int32) (x2 : Int32) : Option (Int32) :=
  (f_X11_isHabit x1).bind (fun u1 =>
  if u1 = 0 then
  some (-2 : Int32)
  else
  (f_X11_in ((x2).toInt64) (0 : Int64) (3 : Int64)).bind (fun u3 =>
  if u3 = 0 then
  some (-2 : Int32)
  else
  (f_X11_first_38 v_seats v_bearIs v_far v_worths x1 FU (-6 : Int32) (-6 : Int32) (0 : Int32) (0 : Int32) (0 : Int32)).bind (fun u17 =>
  (if x2 = 0 then
  some (u17.1)
  else
  if x2 = (1 : Int32) then
  some (u17.2.1)
  else
  if x2 = (2 : Int32) then
  some (u17.2.2.1)
  else
  some (u17.2.2.2)).bind (fun w18 =>
  some (w18)))))
set_option maxHeartbeats 4000000 in
set_option maxRecDepth 100000 in
theorem c_X11_first (l : Launch) (D : va_G) (cI cJ cZ cO : ClassId) (a_t a_signs a_links a_worths a_far a_mays a_rowsTo a_endIn a_ends a_pairSets a_awayIn a_now a_then a_comers a_seen a_seenMany a_kept a_isKept : Nat) (v_signMany : Int32) (v_seats : Int32) (v_bearIs : Int32) (v_rowsAll : Int64) (v_awayUpper : Int64) (v_lower : Int64) (v_comerMany : Int32) (v_seenRows : Int32) (v_place : Int32) (v_isWriting : Int32) (v_far : Nat → Int32) (v_worths : Nat → Int32) (x1 : Int32) (x2 : Int32) (out : Int32) (hf : f_X11_first v_seats v_bearIs v_far v_worths x1 x2 = some out) : MetR l yX11_first (Cond.code yX11_first cX11_first 9 (some .int) :: tbG) { frames := 5, cells := 0, slots := 0, locals := 120 } D (tyL cI cJ cZ cO) [.ref a_t, .int x1, .int x2] [(a_t, .inr (11, [.ref a_signs, .int v_signMany, .int v_seats, .ref a_links, .ref a_worths, .int v_bearIs, .ref a_far, .ref a_mays, .ref a_rowsTo, .ref a_endIn, .long v_rowsAll, .ref a_ends, .ref a_pairSets, .ref a_awayIn, .ref a_now, .ref a_then, .long v_awayUpper, .long v_lower, .ref a_comers, .int v_comerMany, .ref a_seen, .ref a_seenMany, .int v_seenRows, .ref a_kept, .ref a_isKept, .int v_place, .int v_isWriting])), (a_far, eI cI 144 v_far), (a_worths, eI cI 12 v_worths)] (some (.int out)) [(a_t, .inr (11, [.ref a_signs, .int v_signMany, .int v_seats, .ref a_links, .ref a_worths, .int v_bearIs, .ref a_far, .ref a_mays, .ref a_rowsTo, .ref a_endIn, .long v_rowsAll, .ref a_ends, .ref a_pairSets, .ref a_awayIn, .ref a_now, .ref a_then, .long v_awayUpper, .long v_lower, .ref a_comers, .int v_comerMany, .ref a_seen, .ref a_seenMany, .int v_seenRows, .ref a_kept, .ref a_isKept, .int v_place, .int v_isWriting])), (a_far, eI cI 144 v_far), (a_worths, eI cI 12 v_worths)] := by
  refine ba_ofI RX11 [(0, .ref a_t), (1, .int x1), (2, .int x2)] (by decide +kernel) rfl (Nat.le_of_ble_eq_true rfl) rfl ?_
  intro p e s m args below meth c Q A Cx hP ret ls hl
  obtain ⟨⟨hx, hb, hml, hown, hts⟩, hK, hD, hA⟩ := id Cx
  have hS : va_S A s.heap s.heap [] := va_S.rf
  unfold f_X11_first at hf
  refine lv_iload_n hx hb dX11_first_0 rfl (lv_at hl 1 rfl) ?_
  obtain ⟨u1, hu1, hf⟩ := ob_b hf
  refine iv_X11_133 (As := [.int x1]) (rest := []) (is := []) (X' := [(a_t, .inr (11, [.ref a_signs, .int v_signMany, .int v_seats, .ref a_links, .ref a_worths, .int v_bearIs, .ref a_far, .ref a_mays, .ref a_rowsTo, .ref a_endIn, .long v_rowsAll, .ref a_ends, .ref a_pairSets, .ref a_awayIn, .ref a_now, .ref a_then, .long v_awayUpper, .long v_lower, .ref a_comers, .int v_comerMany, .ref a_seen, .ref a_seenMany, .int v_seenRows, .ref a_kept, .ref a_isKept, .int v_place, .int v_isWriting])), (a_far, eI cI 144 v_far), (a_worths, eI cI 12 v_worths)]) Cx (c_X11_isHabit l D cI cJ cZ cO  x1 u1 hu1) hP hS rfl rfl rfl rfl rfl rfl hl.1 (Nat.le_of_ble_eq_true rfl) dX11_first_1 rfl rfl ⟨Nat.le_of_ble_eq_true rfl, Nat.le_of_ble_eq_true rfl⟩ ⟨Nat.zero_le _, Nat.zero_le _⟩ rfl (fun H locs hP hS => ?_)
  refine lv_if_eq (tgt := 19) hx hb dX11_first_4 (by decide) (fun c2 => ?_) (fun c2 => ?_)
  · have hf := ob_t c2 hf
    refine lv_bipush (v := (-2)) hx hb dX11_first_19 (by decide) ?_
    obtain rfl := Option.some.inj hf
    exact ret _ _ _ _ dX11_first_21 hP hS
  · have hf := ob_f c2 hf
    refine lv_iload_n hx hb dX11_first_7 rfl (lv_at hl 2 rfl) ?_
    refine lv_i2l (v := (x2).toInt64) hx hb dX11_first_8 rfl ?_
    refine lv_lconst (v := 0) hx hb dX11_first_9 (by decide) ?_
    refine lv_ldc2 hx hb hown (hts _ kw_929) dX11_first_10 ?_
    obtain ⟨u3, hu3, hf⟩ := ob_b hf
    refine iv_X11_74 (As := [.long ((x2).toInt64), .long (0 : Int64), .long (3 : Int64)]) (rest := []) (is := []) (X' := [(a_t, .inr (11, [.ref a_signs, .int v_signMany, .int v_seats, .ref a_links, .ref a_worths, .int v_bearIs, .ref a_far, .ref a_mays, .ref a_rowsTo, .ref a_endIn, .long v_rowsAll, .ref a_ends, .ref a_pairSets, .ref a_awayIn, .ref a_now, .ref a_then, .long v_awayUpper, .long v_lower, .ref a_comers, .int v_comerMany, .ref a_seen, .ref a_seenMany, .int v_seenRows, .ref a_kept, .ref a_isKept, .int v_place, .int v_isWriting])), (a_far, eI cI 144 v_far), (a_worths, eI cI 12 v_worths)]) Cx (c_X11_in l D cI cJ cZ cO  ((x2).toInt64) (0 : Int64) (3 : Int64) u3 hu3) hP hS rfl rfl rfl rfl rfl rfl hl.1 (Nat.le_of_ble_eq_true rfl) dX11_first_13 rfl rfl ⟨Nat.le_of_ble_eq_true rfl, Nat.le_of_ble_eq_true rfl⟩ ⟨Nat.zero_le _, Nat.zero_le _⟩ rfl (fun H locs hP hS => ?_)
    refine lv_if_ne (tgt := 22) hx hb dX11_first_16 (by decide) (fun c4 => ?_) (fun c4 => ?_)
    · have hf := ob_f c4 hf
      refine lv_bipush (v := (-6)) hx hb dX11_first_22 (by decide) ?_
      refine lv_istore_n (lv' := [(3, .int (-6 : Int32)), (0, .ref a_t), (1, .int x1), (2, .int x2)]) hx hb dX11_first_24 rfl hl (by decide) rfl (fun ls hl => ?_)
      refine lv_bipush (v := (-6)) hx hb dX11_first_25 (by decide) ?_
      refine lv_istore (lv' := [(4, .int (-6 : Int32)), (3, .int (-6 : Int32)), (0, .ref a_t), (1, .int x1), (2, .int x2)]) hx hb dX11_first_27 hl (by decide) rfl (fun ls hl => ?_)
      refine lv_iconst (v := 0) hx hb dX11_first_29 (by decide) ?_
      refine lv_istore (lv' := [(5, .int (0 : Int32)), (4, .int (-6 : Int32)), (3, .int (-6 : Int32)), (0, .ref a_t), (1, .int x1), (2, .int x2)]) hx hb dX11_first_30 hl (by decide) rfl (fun ls hl => ?_)
      refine lv_iconst (v := 0) hx hb dX11_first_32 (by decide) ?_
      refine lv_istore (lv' := [(6, .int (0 : Int32)), (5, .int (0 : Int32)), (4, .int (-6 : Int32)), (3, .int (-6 : Int32)), (0, .ref a_t), (1, .int x1), (2, .int x2)]) hx hb dX11_first_33 hl (by decide) rfl (fun ls hl => ?_)
      refine lv_iconst (v := 0) hx hb dX11_first_35 (by decide) ?_
      refine lv_istore (lv' := [(7, .int (0 : Int32)), (6, .int (0 : Int32)), (5, .int (0 : Int32)), (4, .int (-6 : Int32)), (3, .int (-6 : Int32)), (0, .ref a_t), (1, .int x1), (2, .int x2)]) hx hb dX11_first_36 hl (by decide) rfl (fun ls hl => ?_)
      have L38_5 : ∀ (n : Nat) (y3_38 : Int32) (y4_38 : Int32) (y5_38 : Int32) (y6_38 : Int32) (y7_38 : Int32) (o : Int32 × Int32 × Int32 × Int32) (H : Heap) (locs : List Loc) (ls : Array Slot), f_X11_first_38 v_seats v_bearIs v_far v_worths x1 n y3_38 y4_38 y5_38 y6_38 y7_38 = some o → va_P D vwCl [(a_t, .inr (11, [.ref a_signs, .int v_signMany, .int v_seats, .ref a_links, .ref a_worths, .int v_bearIs, .ref a_far, .ref a_mays, .ref a_rowsTo, .ref a_endIn, .long v_rowsAll, .ref a_ends, .ref a_pairSets, .ref a_awayIn, .ref a_now, .ref a_then, .long v_awayUpper, .long v_lower, .ref a_comers, .int v_comerMany, .ref a_seen, .ref a_seenMany, .int v_seenRows, .ref a_kept, .ref a_isKept, .int v_place, .int v_isWriting])), (a_far, eI cI 144 v_far), (a_worths, eI cI 12 v_worths)] H → va_S A s.heap H locs → lv_has ls 9 [(0, .ref a_t), (1, .int x1), (2, .int x2), (3, .int y3_38), (4, .int y4_38), (5, .int y5_38), (6, .int y6_38), (7, .int y7_38)] → (∀ (H : Heap) (locs : List Loc) (ls : Array Slot), va_P D vwCl [(a_t, .inr (11, [.ref a_signs, .int v_signMany, .int v_seats, .ref a_links, .ref a_worths, .int v_bearIs, .ref a_far, .ref a_mays, .ref a_rowsTo, .ref a_endIn, .long v_rowsAll, .ref a_ends, .ref a_pairSets, .ref a_awayIn, .ref a_now, .ref a_then, .long v_awayUpper, .long v_lower, .ref a_comers, .int v_comerMany, .ref a_seen, .ref a_seenMany, .int v_seenRows, .ref a_kept, .ref a_isKept, .int v_place, .int v_isWriting])), (a_far, eI cI 144 v_far), (a_worths, eI cI 12 v_worths)] H → va_S A s.heap H locs → lv_has ls 9 [(2, .int x2), (3, .int o.1), (4, .int o.2.1), (5, .int o.2.2.1), (6, .int o.2.2.2)] → W p l e { frames := 5, cells := 0, slots := 0, locals := 120 } s m args below meth c H locs 0 0 Q (F0 m 105 ls [])) → W p l e { frames := 5, cells := 0, slots := 0, locals := 120 } s m args below meth c H locs 0 0 Q (F0 m 38 ls []) := by
        intro n
        induction n with
        | zero => intro y3_38 y4_38 y5_38 y6_38 y7_38 o H locs ls hf; exact (ob_n hf).elim
        | succ n ih =>
          intro y3_38 y4_38 y5_38 y6_38 y7_38 o H locs ls hf hP hS hl kk
          rw [f_X11_first_38_s] at hf
          refine lv_iload hx hb dX11_first_38 (lv_at hl 7 rfl) ?_
          refine lv_aload_n hx hb dX11_first_40 rfl (lv_at hl 0 rfl) ?_
          refine gf_X11_63 Cx hP 0 rfl rfl dX11_first_41 ?_
          refine lv_icmp_ge (tgt := 105) hx hb dX11_first_44 (by decide) (fun c6 => ?_) (fun c6 => ?_)
          · have hf := ob_t c6 hf
            obtain rfl := Option.some.inj hf
            exact kk _ _ _ hP hS (lv_sub hl [2, 3, 4, 5, 6] rfl)
          · have hf := ob_f c6 hf
            refine lv_aload_n hx hb dX11_first_47 rfl (lv_at hl 0 rfl) ?_
            refine lv_iconst (v := 1) hx hb dX11_first_48 (by decide) ?_
            refine lv_iload hx hb dX11_first_49 (lv_at hl 7 rfl) ?_
            refine lv_ishl hx hb dX11_first_51 ?_
            refine lv_iload_n hx hb dX11_first_52 rfl (lv_at hl 1 rfl) ?_
            obtain ⟨u7, hu7, hf⟩ := ob_b hf
            refine iv_X11_136 (As := [.int ((1 : Int32) <<< (y7_38 &&& 31)), .int x1]) (rest := []) (is := [0, 1, 2]) (q0 := 0) (X' := [(a_t, .inr (11, [.ref a_signs, .int v_signMany, .int v_seats, .ref a_links, .ref a_worths, .int v_bearIs, .ref a_far, .ref a_mays, .ref a_rowsTo, .ref a_endIn, .long v_rowsAll, .ref a_ends, .ref a_pairSets, .ref a_awayIn, .ref a_now, .ref a_then, .long v_awayUpper, .long v_lower, .ref a_comers, .int v_comerMany, .ref a_seen, .ref a_seenMany, .int v_seenRows, .ref a_kept, .ref a_isKept, .int v_place, .int v_isWriting])), (a_far, eI cI 144 v_far), (a_worths, eI cI 12 v_worths)]) Cx (c_X11_filledBy l D cI cJ cZ cO a_t a_signs a_links a_worths a_far a_mays a_rowsTo a_endIn a_ends a_pairSets a_awayIn a_now a_then a_comers a_seen a_seenMany a_kept a_isKept v_signMany v_seats v_bearIs v_rowsAll v_awayUpper v_lower v_comerMany v_seenRows v_place v_isWriting v_far v_worths ((1 : Int32) <<< (y7_38 &&& 31)) x1 u7 hu7) hP hS rfl rfl rfl rfl rfl rfl rfl hl.1 (Nat.le_of_ble_eq_true rfl) dX11_first_53 rfl rfl ⟨Nat.le_of_ble_eq_true rfl, Nat.le_of_ble_eq_true rfl⟩ ⟨Nat.zero_le _, Nat.zero_le _⟩ rfl (fun H locs hP hS => ?_)
            obtain ⟨u8, hu8, hf⟩ := ob_b hf
            refine iv_X11_144 (As := [.int u7]) (rest := []) (is := []) (X' := [(a_t, .inr (11, [.ref a_signs, .int v_signMany, .int v_seats, .ref a_links, .ref a_worths, .int v_bearIs, .ref a_far, .ref a_mays, .ref a_rowsTo, .ref a_endIn, .long v_rowsAll, .ref a_ends, .ref a_pairSets, .ref a_awayIn, .ref a_now, .ref a_then, .long v_awayUpper, .long v_lower, .ref a_comers, .int v_comerMany, .ref a_seen, .ref a_seenMany, .int v_seenRows, .ref a_kept, .ref a_isKept, .int v_place, .int v_isWriting])), (a_far, eI cI 144 v_far), (a_worths, eI cI 12 v_worths)]) Cx (c_X11_ones l D cI cJ cZ cO  u7 u8 hu8) hP hS rfl rfl rfl rfl rfl rfl hl.1 (Nat.le_of_ble_eq_true rfl) dX11_first_56 rfl rfl ⟨Nat.le_of_ble_eq_true rfl, Nat.le_of_ble_eq_true rfl⟩ ⟨Nat.zero_le _, Nat.zero_le _⟩ rfl (fun H locs hP hS => ?_)
            refine lv_istore (lv' := [(8, .int u8), (0, .ref a_t), (1, .int x1), (2, .int x2), (3, .int y3_38), (4, .int y4_38), (5, .int y5_38), (6, .int y6_38), (7, .int y7_38)]) hx hb dX11_first_59 hl (by decide) rfl (fun ls hl => ?_)
            refine lv_iload_n hx hb dX11_first_61 rfl (lv_at hl 4 rfl) ?_
            refine ob_J (P := fun w9 => ∀ (H : Heap) (locs : List Loc) (ls : Array Slot), va_P D vwCl [(a_t, .inr (11, [.ref a_signs, .int v_signMany, .int v_seats, .ref a_links, .ref a_worths, .int v_bearIs, .ref a_far, .ref a_mays, .ref a_rowsTo, .ref a_endIn, .long v_rowsAll, .ref a_ends, .ref a_pairSets, .ref a_awayIn, .ref a_now, .ref a_then, .long v_awayUpper, .long v_lower, .ref a_comers, .int v_comerMany, .ref a_seen, .ref a_seenMany, .int v_seenRows, .ref a_kept, .ref a_isKept, .int v_place, .int v_isWriting])), (a_far, eI cI 144 v_far), (a_worths, eI cI 12 v_worths)] H → va_S A s.heap H locs → lv_has ls 9 [(0, .ref a_t), (1, .int x1), (2, .int x2), (3, .int w9.1), (4, .int y4_38), (5, .int w9.2), (6, .int y6_38), (7, .int y7_38), (8, .int u8)] → W p l e { frames := 5, cells := 0, slots := 0, locals := 120 } s m args below meth c H locs 0 0 Q (F0 m 79 ls [])) hf ?_ ?_
            · intro w9 hf H locs ls hP hS hl
              refine lv_iload hx hb dX11_first_79 (lv_at hl 4 rfl) ?_
              refine ob_J (P := fun w11 => ∀ (H : Heap) (locs : List Loc) (ls : Array Slot), va_P D vwCl [(a_t, .inr (11, [.ref a_signs, .int v_signMany, .int v_seats, .ref a_links, .ref a_worths, .int v_bearIs, .ref a_far, .ref a_mays, .ref a_rowsTo, .ref a_endIn, .long v_rowsAll, .ref a_ends, .ref a_pairSets, .ref a_awayIn, .ref a_now, .ref a_then, .long v_awayUpper, .long v_lower, .ref a_comers, .int v_comerMany, .ref a_seen, .ref a_seenMany, .int v_seenRows, .ref a_kept, .ref a_isKept, .int v_place, .int v_isWriting])), (a_far, eI cI 144 v_far), (a_worths, eI cI 12 v_worths)] H → va_S A s.heap H locs → lv_has ls 9 [(0, .ref a_t), (1, .int x1), (2, .int x2), (3, .int w9.1), (4, .int w11.1), (5, .int w9.2), (6, .int w11.2), (7, .int y7_38)] → W p l e { frames := 5, cells := 0, slots := 0, locals := 120 } s m args below meth c H locs 0 0 Q (F0 m 99 ls [])) hf ?_ ?_
              · intro w11 hf H locs ls hP hS hl
                refine lv_iinc (v := (y7_38 + 1)) (lv' := [(7, .int (y7_38 + 1)), (0, .ref a_t), (1, .int x1), (2, .int x2), (3, .int w9.1), (4, .int w11.1), (5, .int w9.2), (6, .int w11.2)]) hx hb dX11_first_99 hl (k := 7) rfl rfl (by decide) rfl (fun ls hl => ?_)
                refine lv_goto (tgt := 38) hx hb dX11_first_102 (by decide) ?_
                exact ih w9.1 w11.1 w9.2 w11.2 (y7_38 + 1) _ _ _ _ hf hP hS (lv_sub hl [1, 2, 3, 4, 5, 6, 7, 0] rfl) kk
              · intro J99_12 hf
                refine lv_if_lt (tgt := 91) hx hb dX11_first_81 (by decide) (fun c13 => ?_) (fun c13 => ?_)
                · have hf := ob_tk c13 hf
                  refine lv_iload hx hb dX11_first_91 (lv_at hl 7 rfl) ?_
                  refine lv_istore (lv' := [(4, .int y7_38), (0, .ref a_t), (1, .int x1), (2, .int x2), (3, .int w9.1), (5, .int w9.2), (6, .int y6_38), (7, .int y7_38), (8, .int u8)]) hx hb dX11_first_93 hl (by decide) rfl (fun ls hl => ?_)
                  refine lv_iload hx hb dX11_first_95 (lv_at hl 8 rfl) ?_
                  refine lv_istore (lv' := [(6, .int u8), (4, .int y7_38), (0, .ref a_t), (1, .int x1), (2, .int x2), (3, .int w9.1), (5, .int w9.2), (7, .int y7_38), (8, .int u8)]) hx hb dX11_first_97 hl (by decide) rfl (fun ls hl => ?_)
                  exact J99_12 (y7_38, u8) hf _ _ _ hP hS (lv_sub hl [2, 3, 4, 5, 1, 6, 0, 7] rfl)
                · have hf := ob_fk c13 hf
                  refine lv_iload hx hb dX11_first_84 (lv_at hl 8 rfl) ?_
                  refine lv_iload hx hb dX11_first_86 (lv_at hl 6 rfl) ?_
                  refine lv_icmp_ge (tgt := 99) hx hb dX11_first_88 (by decide) (fun c14 => ?_) (fun c14 => ?_)
                  · have hf := ob_tk c14 hf
                    exact J99_12 (y4_38, y6_38) hf _ _ _ hP hS (lv_sub hl [0, 1, 2, 3, 4, 5, 6, 7] rfl)
                  · have hf := ob_fk c14 hf
                    refine lv_iload hx hb dX11_first_91 (lv_at hl 7 rfl) ?_
                    refine lv_istore (lv' := [(4, .int y7_38), (0, .ref a_t), (1, .int x1), (2, .int x2), (3, .int w9.1), (5, .int w9.2), (6, .int y6_38), (7, .int y7_38), (8, .int u8)]) hx hb dX11_first_93 hl (by decide) rfl (fun ls hl => ?_)
                    refine lv_iload hx hb dX11_first_95 (lv_at hl 8 rfl) ?_
                    refine lv_istore (lv' := [(6, .int u8), (4, .int y7_38), (0, .ref a_t), (1, .int x1), (2, .int x2), (3, .int w9.1), (5, .int w9.2), (7, .int y7_38), (8, .int u8)]) hx hb dX11_first_97 hl (by decide) rfl (fun ls hl => ?_)
                    exact J99_12 (y7_38, u8) hf _ _ _ hP hS (lv_sub hl [2, 3, 4, 5, 1, 6, 0, 7] rfl)
            · intro J79_10 hf
              refine lv_if_lt (tgt := 72) hx hb dX11_first_62 (by decide) (fun c15 => ?_) (fun c15 => ?_)
              · have hf := ob_tk c15 hf
                refine lv_iload hx hb dX11_first_72 (lv_at hl 8 rfl) ?_
                refine lv_istore_n (lv' := [(3, .int y7_38), (8, .int u8), (0, .ref a_t), (1, .int x1), (2, .int x2), (4, .int y4_38), (5, .int y5_38), (6, .int y6_38), (7, .int y7_38)]) hx hb dX11_first_74 rfl hl (by decide) rfl (fun ls hl => ?_)
                refine lv_iload hx hb dX11_first_75 (lv_at hl 1 rfl) ?_
                refine lv_istore (lv' := [(5, .int u8), (3, .int y7_38), (8, .int u8), (0, .ref a_t), (1, .int x1), (2, .int x2), (4, .int y4_38), (6, .int y6_38), (7, .int y7_38)]) hx hb dX11_first_77 hl (by decide) rfl (fun ls hl => ?_)
                exact J79_10 (y7_38, u8) hf _ _ _ hP hS (lv_sub hl [3, 4, 5, 1, 6, 0, 7, 8, 2] rfl)
              · have hf := ob_fk c15 hf
                refine lv_iload hx hb dX11_first_65 (lv_at hl 0 rfl) ?_
                refine lv_iload hx hb dX11_first_67 (lv_at hl 6 rfl) ?_
                refine lv_icmp_le (tgt := 79) hx hb dX11_first_69 (by decide) (fun c16 => ?_) (fun c16 => ?_)
                · have hf := ob_tk c16 hf
                  exact J79_10 (y3_38, y5_38) hf _ _ _ hP hS (lv_sub hl [1, 2, 3, 4, 5, 6, 7, 8, 0] rfl)
                · have hf := ob_fk c16 hf
                  refine lv_iload hx hb dX11_first_72 (lv_at hl 8 rfl) ?_
                  refine lv_istore_n (lv' := [(3, .int y7_38), (8, .int u8), (0, .ref a_t), (1, .int x1), (2, .int x2), (4, .int y4_38), (5, .int y5_38), (6, .int y6_38), (7, .int y7_38)]) hx hb dX11_first_74 rfl hl (by decide) rfl (fun ls hl => ?_)
                  refine lv_iload hx hb dX11_first_75 (lv_at hl 1 rfl) ?_
                  refine lv_istore (lv' := [(5, .int u8), (3, .int y7_38), (8, .int u8), (0, .ref a_t), (1, .int x1), (2, .int x2), (4, .int y4_38), (6, .int y6_38), (7, .int y7_38)]) hx hb dX11_first_77 hl (by decide) rfl (fun ls hl => ?_)
                  exact J79_10 (y7_38, u8) hf _ _ _ hP hS (lv_sub hl [3, 4, 5, 1, 6, 0, 7, 8, 2] rfl)
      obtain ⟨u17, hu17, hf⟩ := ob_b hf
      refine L38_5 FU (-6 : Int32) (-6 : Int32) (0 : Int32) (0 : Int32) (0 : Int32) u17 _ _ _ hu17 hP hS (lv_sub hl [5, 6, 7, 4, 3, 2, 1, 0] rfl) ?_
      intro H locs ls hP hS hl
      refine lv_iload_n hx hb dX11_first_105 rfl (lv_at hl 0 rfl) ?_
      refine ob_J (P := fun w18 => ∀ (H : Heap) (locs : List Loc) (ls : Array Slot), va_P D vwCl [(a_t, .inr (11, [.ref a_signs, .int v_signMany, .int v_seats, .ref a_links, .ref a_worths, .int v_bearIs, .ref a_far, .ref a_mays, .ref a_rowsTo, .ref a_endIn, .long v_rowsAll, .ref a_ends, .ref a_pairSets, .ref a_awayIn, .ref a_now, .ref a_then, .long v_awayUpper, .long v_lower, .ref a_comers, .int v_comerMany, .ref a_seen, .ref a_seenMany, .int v_seenRows, .ref a_kept, .ref a_isKept, .int v_place, .int v_isWriting])), (a_far, eI cI 144 v_far), (a_worths, eI cI 12 v_worths)] H → va_S A s.heap H locs → lv_has ls 9 [] → W p l e { frames := 5, cells := 0, slots := 0, locals := 120 } s m args below meth c H locs 0 0 Q (F0 m 135 ls [.int w18])) hf ?_ ?_
      · intro w18 hf H locs ls hP hS hl
        obtain rfl := Option.some.inj hf
        exact ret _ _ _ _ dX11_first_135 hP hS
      · intro J135_19 hf
        refine lv_if_ne (tgt := 113) hx hb dX11_first_106 (by decide) (fun c20 => ?_) (fun c20 => ?_)
        · have hf := ob_fk c20 hf
          refine lv_iload_n hx hb dX11_first_113 rfl (lv_at hl 0 rfl) ?_
          refine lv_iconst (v := 1) hx hb dX11_first_114 (by decide) ?_
          refine lv_icmp_ne (tgt := 123) hx hb dX11_first_115 (by decide) (fun c21 => ?_) (fun c21 => ?_)
          · have hf := ob_fk c21 hf
            refine lv_iload_n hx hb dX11_first_123 rfl (lv_at hl 0 rfl) ?_
            refine lv_iconst (v := 2) hx hb dX11_first_124 (by decide) ?_
            refine lv_icmp_ne (tgt := 133) hx hb dX11_first_125 (by decide) (fun c22 => ?_) (fun c22 => ?_)
            · have hf := ob_fk c22 hf
              refine lv_iload hx hb dX11_first_133 (lv_at hl 4 rfl) ?_
              exact J135_19 u17.2.2.2 hf _ _ _ hP hS (lv_sub hl [] rfl)
            · have hf := ob_tk c22 hf
              refine lv_iload hx hb dX11_first_128 (lv_at hl 3 rfl) ?_
              refine lv_goto (tgt := 135) hx hb dX11_first_130 (by decide) ?_
              exact J135_19 u17.2.2.1 hf _ _ _ hP hS (lv_sub hl [] rfl)
          · have hf := ob_tk c21 hf
            refine lv_iload hx hb dX11_first_118 (lv_at hl 2 rfl) ?_
            refine lv_goto (tgt := 135) hx hb dX11_first_120 (by decide) ?_
            exact J135_19 u17.2.1 hf _ _ _ hP hS (lv_sub hl [] rfl)
        · have hf := ob_tk c20 hf
          refine lv_iload_n hx hb dX11_first_109 rfl (lv_at hl 1 rfl) ?_
          refine lv_goto (tgt := 135) hx hb dX11_first_110 (by decide) ?_
          exact J135_19 u17.1 hf _ _ _ hP hS (lv_sub hl [] rfl)
    · have hf := ob_t c4 hf
      refine lv_bipush (v := (-2)) hx hb dX11_first_19 (by decide) ?_
      obtain rfl := Option.some.inj hf
      exact ret _ _ _ _ dX11_first_21 hP hS

