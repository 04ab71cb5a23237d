def f_X11_rowsOf_2 (x1 : Int32) : Nat → Int32 → (Nat → Int32) → Option ((Nat → Int32))
  | 0, _, _ => none
  | n + 1, y3_2, z_awayIn_2 =>
  if x1 ≤ y3_2 then
  some (z_awayIn_2)
  else
  (asetI 200 z_awayIn_2 y3_2 (1000 : Int32)).bind (fun u3 =>
  f_X11_rowsOf_2 x1 n (y3_2 + 1) u3)
theorem f_X11_rowsOf_2_s (x1 : Int32) (n : Nat) (y3_2 : Int32) (z_awayIn_2 : Nat → Int32) : f_X11_rowsOf_2 x1 (n + 1) y3_2 z_awayIn_2 =
  (if x1 ≤ y3_2 then
  some (z_awayIn_2)
  else
  (asetI 200 z_awayIn_2 y3_2 (1000 : Int32)).bind (fun u3 =>
  f_X11_rowsOf_2 x1 n (y3_2 + 1) u3)) := rfl
def f_X11_rowsOf_52 (x1 : Int32) (u7 : (Nat → Int32)) : Nat → Int32 → Int32 → Int32 → Option (Int32)
  | 0, _, _, _ => none
  | n + 1, y4_52, y5_52, y6_52 =>
  if x1 ≤ y6_52 then
  some (y4_52)
  else
  (aget 200 u7 y6_52).bind (fun u10 =>
  (if u10 ≤ y5_52 then
  some (y4_52, y5_52)
  else
  (aget 200 u7 y6_52).bind (fun u14 =>
  some (y6_52, u14))).bind (fun w11 =>
  f_X11_rowsOf_52 x1 u7 n w11.1 w11.2 (y6_52 + 1)))
theorem f_X11_rowsOf_52_s (x1 : Int32) (u7 : (Nat → Int32)) (n : Nat) (y4_52 : Int32) (y5_52 : Int32) (y6_52 : Int32) : f_X11_rowsOf_52 x1 u7 (n + 1) y4_52 y5_52 y6_52 =
  (if x1 ≤ y6_52 then
  some (y4_52)
  else
  (aget 200 u7 y6_52).bind (fun u10 =>
  (if u10 ≤ y5_52 then
  some (y4_52, y5_52)
  else
  (aget 200 u7 y6_52).bind (fun u14 =>
  some (y6_52, u14))).bind (fun w11 =>
  f_X11_rowsOf_52 x1 u7 n w11.1 w11.2 (y6_52 + 1)))) := rfl
def f_X11_rowsOf_27 (x1 : Int32) : Nat → Int32 → Int32 → (Nat → Int32) → Option (Int32 × (Nat → Int32))
  | 0, _, _, _ => none
  | n + 1, y3_27, y4_27, z_awayIn_27 =>
  if y4_27 < 0 then
  some (y3_27, z_awayIn_27)
  else
  (f_X11_sitIn z_awayIn_27 x1 y4_27).bind (fun u7 =>
  (f_X11_rowsOf_52 x1 u7 FU (-6 : Int32) (1 : Int32) (0 : Int32)).bind (fun u15 =>
  f_X11_rowsOf_27 x1 n (y3_27 + 1) u15 u7))
theorem f_X11_rowsOf_27_s (x1 : Int32) (n : Nat) (y3_27 : Int32) (y4_27 : Int32) (z_awayIn_27 : Nat → Int32) : f_X11_rowsOf_27 x1 (n + 1) y3_27 y4_27 z_awayIn_27 =
  (if y4_27 < 0 then
  some (y3_27, z_awayIn_27)
  else
  (f_X11_sitIn z_awayIn_27 x1 y4_27).bind (fun u7 =>
  (f_X11_rowsOf_52 x1 u7 FU (-6 : Int32) (1 : Int32) (0 : Int32)).bind (fun u15 =>
  f_X11_rowsOf_27 x1 n (y3_27 + 1) u15 u7))) := rfl
def f_X11_rowsOf (v_awayIn : Nat → Int32) (x1 : Int32) (x2 : Int32) : Option (Int32 × (Nat → Int32)) :=
  (f_X11_rowsOf_2 x1 FU (0 : Int32) v_awayIn).bind (fun u4 =>
  (f_X11_rowsOf_27 x1 FU (0 : Int32) x2 u4).bind (fun u16 =>
  some (u16.1, u16.2)))
set_option maxHeartbeats 4000000 in
set_option maxRecDepth 100000 in
theorem c_X11_rowsOf (l : Launch) (D : va_G) (cI cJ cZ cO : ClassId) (a_t a_signs a_links a_worths a_far a_mays a_rowsTo a_endIn a_ends a_pairSets a_awayIn a_now a_then a_comers a_seen a_seenMany a_kept a_isKept : Nat) (v_signMany : Int32) (v_seats : Int32) (v_bearIs : Int32) (v_rowsAll : Int64) (v_awayUpper : Int64) (v_lower : Int64) (v_comerMany : Int32) (v_seenRows : Int32) (v_place : Int32) (v_isWriting : Int32) (v_awayIn : Nat → Int32) (x1 : Int32) (x2 : Int32) (out : Int32 × (Nat → Int32)) (hf : f_X11_rowsOf v_awayIn x1 x2 = some out) : MetR l yX11_rowsOf (Cond.code yX11_rowsOf cX11_rowsOf 7 (some .int) :: tbG) { frames := 1, cells := 0, slots := 0, locals := 24 } D (tyL cI cJ cZ cO) [.ref a_t, .int x1, .int x2] [(a_t, .inr (11, [.ref a_signs, .int v_signMany, .int v_seats, .ref a_links, .ref a_worths, .int v_bearIs, .ref a_far, .ref a_mays, .ref a_rowsTo, .ref a_endIn, .long v_rowsAll, .ref a_ends, .ref a_pairSets, .ref a_awayIn, .ref a_now, .ref a_then, .long v_awayUpper, .long v_lower, .ref a_comers, .int v_comerMany, .ref a_seen, .ref a_seenMany, .int v_seenRows, .ref a_kept, .ref a_isKept, .int v_place, .int v_isWriting])), (a_awayIn, eI cI 200 v_awayIn)] (some (.int out.1)) [(a_t, .inr (11, [.ref a_signs, .int v_signMany, .int v_seats, .ref a_links, .ref a_worths, .int v_bearIs, .ref a_far, .ref a_mays, .ref a_rowsTo, .ref a_endIn, .long v_rowsAll, .ref a_ends, .ref a_pairSets, .ref a_awayIn, .ref a_now, .ref a_then, .long v_awayUpper, .long v_lower, .ref a_comers, .int v_comerMany, .ref a_seen, .ref a_seenMany, .int v_seenRows, .ref a_kept, .ref a_isKept, .int v_place, .int v_isWriting])), (a_awayIn, eI cI 200 out.2)] := by
  refine ba_ofI RX11 [(0, .ref a_t), (1, .int x1), (2, .int x2)] (by decide +kernel) rfl (Nat.le_of_ble_eq_true rfl) rfl ?_
  intro p e s m args below meth c Q A Cx hP ret ls hl
  obtain ⟨⟨hx, hb, hml, hown, hts⟩, hK, hD, hA⟩ := id Cx
  have hS : va_S A s.heap s.heap [] := va_S.rf
  unfold f_X11_rowsOf at hf
  refine lv_iconst (v := 0) hx hb dX11_rowsOf_0 (by decide) ?_
  refine lv_istore_n (lv' := [(3, .int (0 : Int32)), (0, .ref a_t), (1, .int x1), (2, .int x2)]) hx hb dX11_rowsOf_1 rfl hl (by decide) rfl (fun ls hl => ?_)
  have L2_1 : ∀ (n : Nat) (y3_2 : Int32) (z_awayIn_2 : Nat → Int32) (o : (Nat → Int32)) (H : Heap) (locs : List Loc) (ls : Array Slot), f_X11_rowsOf_2 x1 n y3_2 z_awayIn_2 = some o → va_P D vwCl [(a_t, .inr (11, [.ref a_signs, .int v_signMany, .int v_seats, .ref a_links, .ref a_worths, .int v_bearIs, .ref a_far, .ref a_mays, .ref a_rowsTo, .ref a_endIn, .long v_rowsAll, .ref a_ends, .ref a_pairSets, .ref a_awayIn, .ref a_now, .ref a_then, .long v_awayUpper, .long v_lower, .ref a_comers, .int v_comerMany, .ref a_seen, .ref a_seenMany, .int v_seenRows, .ref a_kept, .ref a_isKept, .int v_place, .int v_isWriting])), (a_awayIn, eI cI 200 z_awayIn_2)] H → va_S A s.heap H locs → lv_has ls 7 [(0, .ref a_t), (1, .int x1), (2, .int x2), (3, .int y3_2)] → (∀ (H : Heap) (locs : List Loc) (ls : Array Slot), va_P D vwCl [(a_t, .inr (11, [.ref a_signs, .int v_signMany, .int v_seats, .ref a_links, .ref a_worths, .int v_bearIs, .ref a_far, .ref a_mays, .ref a_rowsTo, .ref a_endIn, .long v_rowsAll, .ref a_ends, .ref a_pairSets, .ref a_awayIn, .ref a_now, .ref a_then, .long v_awayUpper, .long v_lower, .ref a_comers, .int v_comerMany, .ref a_seen, .ref a_seenMany, .int v_seenRows, .ref a_kept, .ref a_isKept, .int v_place, .int v_isWriting])), (a_awayIn, eI cI 200 o)] H → va_S A s.heap H locs → lv_has ls 7 [(0, .ref a_t), (1, .int x1), (2, .int x2)] → W p l e { frames := 1, cells := 0, slots := 0, locals := 24 } s m args below meth c H locs 0 0 Q (F0 m 22 ls [])) → W p l e { frames := 1, cells := 0, slots := 0, locals := 24 } s m args below meth c H locs 0 0 Q (F0 m 2 ls []) := by
    intro n
    induction n with
    | zero => intro y3_2 z_awayIn_2 o H locs ls hf; exact (ob_n hf).elim
    | succ n ih =>
      intro y3_2 z_awayIn_2 o H locs ls hf hP hS hl kk
      rw [f_X11_rowsOf_2_s] at hf
      refine lv_iload_n hx hb dX11_rowsOf_2 rfl (lv_at hl 3 rfl) ?_
      refine lv_iload_n hx hb dX11_rowsOf_3 rfl (lv_at hl 1 rfl) ?_
      refine lv_icmp_ge (tgt := 22) hx hb dX11_rowsOf_4 (by decide) (fun c2 => ?_) (fun c2 => ?_)
      · have hf := ob_t c2 hf
        obtain rfl := Option.some.inj hf
        exact kk _ _ _ hP hS (lv_sub hl [0, 1, 2] rfl)
      · have hf := ob_f c2 hf
        refine lv_aload_n hx hb dX11_rowsOf_7 rfl (lv_at hl 0 rfl) ?_
        refine gf_X11_38 Cx hP 0 rfl rfl dX11_rowsOf_8 ?_
        refine lv_iload_n hx hb dX11_rowsOf_11 rfl (lv_at hl 3 rfl) ?_
        refine lv_sipush (v := 1000) hx hb dX11_rowsOf_12 (by decide) ?_
        obtain ⟨u3, hu3, hf⟩ := ob_b hf
        refine ba_iast (X' := [(a_t, .inr (11, [.ref a_signs, .int v_signMany, .int v_seats, .ref a_links, .ref a_worths, .int v_bearIs, .ref a_far, .ref a_mays, .ref a_rowsTo, .ref a_endIn, .long v_rowsAll, .ref a_ends, .ref a_pairSets, .ref a_awayIn, .ref a_now, .ref a_then, .long v_awayUpper, .long v_lower, .ref a_comers, .int v_comerMany, .ref a_seen, .ref a_seenMany, .int v_seenRows, .ref a_kept, .ref a_isKept, .int v_place, .int v_isWriting])), (a_awayIn, eI cI 200 u3)]) Cx hP hS rfl 1 rfl rfl hu3 dX11_rowsOf_15 (fun H locs hP hS => ?_)
        refine lv_iinc (v := (y3_2 + 1)) (lv' := [(3, .int (y3_2 + 1)), (0, .ref a_t), (1, .int x1), (2, .int x2)]) hx hb dX11_rowsOf_16 hl (k := 3) rfl rfl (by decide) rfl (fun ls hl => ?_)
        refine lv_goto (tgt := 2) hx hb dX11_rowsOf_19 (by decide) ?_
        exact ih (y3_2 + 1) u3 _ _ _ _ hf hP hS (lv_sub hl [1, 2, 3, 0] rfl) kk
  obtain ⟨u4, hu4, hf⟩ := ob_b hf
  refine L2_1 FU (0 : Int32) v_awayIn u4 _ _ _ hu4 hP hS (lv_sub hl [1, 2, 3, 0] rfl) ?_
  intro H locs ls hP hS hl
  refine lv_iconst (v := 0) hx hb dX11_rowsOf_22 (by decide) ?_
  refine lv_istore_n (lv' := [(3, .int (0 : Int32)), (0, .ref a_t), (1, .int x1), (2, .int x2)]) hx hb dX11_rowsOf_23 rfl hl (by decide) rfl (fun ls hl => ?_)
  refine lv_iload_n hx hb dX11_rowsOf_24 rfl (lv_at hl 3 rfl) ?_
  refine lv_istore (lv' := [(4, .int x2), (3, .int (0 : Int32)), (0, .ref a_t), (1, .int x1), (2, .int x2)]) hx hb dX11_rowsOf_25 hl (by decide) rfl (fun ls hl => ?_)
  have L27_5 : ∀ (n : Nat) (y3_27 : Int32) (y4_27 : Int32) (z_awayIn_27 : Nat → Int32) (o : Int32 × (Nat → Int32)) (H : Heap) (locs : List Loc) (ls : Array Slot), f_X11_rowsOf_27 x1 n y3_27 y4_27 z_awayIn_27 = some o → va_P D vwCl [(a_t, .inr (11, [.ref a_signs, .int v_signMany, .int v_seats, .ref a_links, .ref a_worths, .int v_bearIs, .ref a_far, .ref a_mays, .ref a_rowsTo, .ref a_endIn, .long v_rowsAll, .ref a_ends, .ref a_pairSets, .ref a_awayIn, .ref a_now, .ref a_then, .long v_awayUpper, .long v_lower, .ref a_comers, .int v_comerMany, .ref a_seen, .ref a_seenMany, .int v_seenRows, .ref a_kept, .ref a_isKept, .int v_place, .int v_isWriting])), (a_awayIn, eI cI 200 z_awayIn_27)] H → va_S A s.heap H locs → lv_has ls 7 [(0, .ref a_t), (1, .int x1), (3, .int y3_27), (4, .int y4_27)] → (∀ (H : Heap) (locs : List Loc) (ls : Array Slot), va_P D vwCl [(a_t, .inr (11, [.ref a_signs, .int v_signMany, .int v_seats, .ref a_links, .ref a_worths, .int v_bearIs, .ref a_far, .ref a_mays, .ref a_rowsTo, .ref a_endIn, .long v_rowsAll, .ref a_ends, .ref a_pairSets, .ref a_awayIn, .ref a_now, .ref a_then, .long v_awayUpper, .long v_lower, .ref a_comers, .int v_comerMany, .ref a_seen, .ref a_seenMany, .int v_seenRows, .ref a_kept, .ref a_isKept, .int v_place, .int v_isWriting])), (a_awayIn, eI cI 200 o.2)] H → va_S A s.heap H locs → lv_has ls 7 [(3, .int o.1)] → W p l e { frames := 1, cells := 0, slots := 0, locals := 24 } s m args below meth c H locs 0 0 Q (F0 m 92 ls [])) → W p l e { frames := 1, cells := 0, slots := 0, locals := 24 } s m args below meth c H locs 0 0 Q (F0 m 27 ls []) := by
    intro n
    induction n with
    | zero => intro y3_27 y4_27 z_awayIn_27 o H locs ls hf; exact (ob_n hf).elim
    | succ n ih =>
      intro y3_27 y4_27 z_awayIn_27 o H locs ls hf hP hS hl kk
      rw [f_X11_rowsOf_27_s] at hf
      refine lv_iload hx hb dX11_rowsOf_27 (lv_at hl 3 rfl) ?_
      refine lv_if_lt (tgt := 92) hx hb dX11_rowsOf_29 (by decide) (fun c6 => ?_) (fun c6 => ?_)
      · have hf := ob_t c6 hf
        obtain rfl := Option.some.inj hf
        exact kk _ _ _ hP hS (lv_sub hl [2] rfl)
      · have hf := ob_f c6 hf
        refine lv_aload_n hx hb dX11_rowsOf_32 rfl (lv_at hl 0 rfl) ?_
        refine lv_iload_n hx hb dX11_rowsOf_33 rfl (lv_at hl 1 rfl) ?_
        refine lv_iload hx hb dX11_rowsOf_34 (lv_at hl 3 rfl) ?_
        obtain ⟨u7, hu7, hf⟩ := ob_b hf
        refine iv_X11_186 (As := [.int x1, .int y4_27]) (rest := []) (is := [0, 1]) (q0 := 0) (X' := [(a_t, .inr (11, [.ref a_signs, .int v_signMany, .int v_seats, .ref a_links, .ref a_worths, .int v_bearIs, .ref a_far, .ref a_mays, .ref a_rowsTo, .ref a_endIn, .long v_rowsAll, .ref a_ends, .ref a_pairSets, .ref a_awayIn, .ref a_now, .ref a_then, .long v_awayUpper, .long v_lower, .ref a_comers, .int v_comerMany, .ref a_seen, .ref a_seenMany, .int v_seenRows, .ref a_kept, .ref a_isKept, .int v_place, .int v_isWriting])), (a_awayIn, eI cI 200 u7)]) Cx (c_X11_sitIn l D cI cJ cZ cO a_t a_signs a_links a_worths a_far a_mays a_rowsTo a_endIn a_ends a_pairSets a_awayIn a_now a_then a_comers a_seen a_seenMany a_kept a_isKept v_signMany v_seats v_bearIs v_rowsAll v_awayUpper v_lower v_comerMany v_seenRows v_place v_isWriting z_awayIn_27 x1 y4_27 u7 hu7) hP hS rfl rfl rfl rfl rfl rfl rfl hl.1 (Nat.le_of_ble_eq_true rfl) dX11_rowsOf_36 rfl rfl ⟨Nat.le_of_ble_eq_true rfl, Nat.le_of_ble_eq_true rfl⟩ ⟨Nat.zero_le _, Nat.zero_le _⟩ rfl (fun H locs hP hS => ?_)
        refine lv_iinc (v := (y3_27 + 1)) (lv' := [(3, .int (y3_27 + 1)), (0, .ref a_t), (1, .int x1), (4, .int y4_27)]) hx hb dX11_rowsOf_39 hl (k := 2) rfl rfl (by decide) rfl (fun ls hl => ?_)
        refine lv_bipush (v := (-6)) hx hb dX11_rowsOf_42 (by decide) ?_
        refine lv_istore (lv' := [(4, .int (-6 : Int32)), (3, .int (y3_27 + 1)), (0, .ref a_t), (1, .int x1)]) hx hb dX11_rowsOf_44 hl (by decide) rfl (fun ls hl => ?_)
        refine lv_iconst (v := 1) hx hb dX11_rowsOf_46 (by decide) ?_
        refine lv_istore (lv' := [(5, .int (1 : Int32)), (4, .int (-6 : Int32)), (3, .int (y3_27 + 1)), (0, .ref a_t), (1, .int x1)]) hx hb dX11_rowsOf_47 hl (by decide) rfl (fun ls hl => ?_)
        refine lv_iconst (v := 0) hx hb dX11_rowsOf_49 (by decide) ?_
        refine lv_istore (lv' := [(6, .int (0 : Int32)), (5, .int (1 : Int32)), (4, .int (-6 : Int32)), (3, .int (y3_27 + 1)), (0, .ref a_t), (1, .int x1)]) hx hb dX11_rowsOf_50 hl (by decide) rfl (fun ls hl => ?_)
        have L52_8 : ∀ (n : Nat) (y4_52 : Int32) (y5_52 : Int32) (y6_52 : Int32) (o : Int32) (H : Heap) (locs : List Loc) (ls : Array Slot), f_X11_rowsOf_52 x1 u7 n y4_52 y5_52 y6_52 = some o → va_P D vwCl [(a_t, .inr (11, [.ref a_signs, .int v_signMany, .int v_seats, .ref a_links, .ref a_worths, .int v_bearIs, .ref a_far, .ref a_mays, .ref a_rowsTo, .ref a_endIn, .long v_rowsAll, .ref a_ends, .ref a_pairSets, .ref a_awayIn, .ref a_now, .ref a_then, .long v_awayUpper, .long v_lower, .ref a_comers, .int v_comerMany, .ref a_seen, .ref a_seenMany, .int v_seenRows, .ref a_kept, .ref a_isKept, .int v_place, .int v_isWriting])), (a_awayIn, eI cI 200 u7)] H → va_S A s.heap H locs → lv_has ls 7 [(0, .ref a_t), (1, .int x1), (3, .int (y3_27 + 1)), (4, .int y4_52), (5, .int y5_52), (6, .int y6_52)] → (∀ (H : Heap) (locs : List Loc) (ls : Array Slot), va_P D vwCl [(a_t, .inr (11, [.ref a_signs, .int v_signMany, .int v_seats, .ref a_links, .ref a_worths, .int v_bearIs, .ref a_far, .ref a_mays, .ref a_rowsTo, .ref a_endIn, .long v_rowsAll, .ref a_ends, .ref a_pairSets, .ref a_awayIn, .ref a_now, .ref a_then, .long v_awayUpper, .long v_lower, .ref a_comers, .int v_comerMany, .ref a_seen, .ref a_seenMany, .int v_seenRows, .ref a_kept, .ref a_isKept, .int v_place, .int v_isWriting])), (a_awayIn, eI cI 200 u7)] H → va_S A s.heap H locs → lv_has ls 7 [(0, .ref a_t), (1, .int x1), (3, .int (y3_27 + 1)), (4, .int o)] → W p l e { frames := 1, cells := 0, slots := 0, locals := 24 } s m args below meth c H locs 0 0 Q (F0 m 89 ls [])) → W p l e { frames := 1, cells := 0, slots := 0, locals := 24 } s m args below meth c H locs 0 0 Q (F0 m 52 ls []) := by
          intro n
          induction n with
          | zero => intro y4_52 y5_52 y6_52 o H locs ls hf; exact (ob_n hf).elim
          | succ n ih =>
            intro y4_52 y5_52 y6_52 o H locs ls hf hP hS hl kk
            rw [f_X11_rowsOf_52_s] at hf
            refine lv_iload hx hb dX11_rowsOf_52 (lv_at hl 5 rfl) ?_
            refine lv_iload_n hx hb dX11_rowsOf_54 rfl (lv_at hl 1 rfl) ?_
            refine lv_icmp_ge (tgt := 89) hx hb dX11_rowsOf_55 (by decide) (fun c9 => ?_) (fun c9 => ?_)
            · have hf := ob_t c9 hf
              obtain rfl := Option.some.inj hf
              exact kk _ _ _ hP hS (lv_sub hl [0, 1, 2, 3] rfl)
            · have hf := ob_f c9 hf
              refine lv_aload_n hx hb dX11_rowsOf_58 rfl (lv_at hl 0 rfl) ?_
              refine gf_X11_38 Cx hP 0 rfl rfl dX11_rowsOf_59 ?_
              refine lv_iload hx hb dX11_rowsOf_62 (lv_at hl 5 rfl) ?_
              obtain ⟨u10, hu10, hf⟩ := ob_b hf
              refine ba_iald Cx hP 1 rfl hu10 dX11_rowsOf_64 ?_
              refine lv_iload hx hb dX11_rowsOf_65 (lv_at hl 4 rfl) ?_
              refine ob_J (P := fun w11 => ∀ (H : Heap) (locs : List Loc) (ls : Array Slot), va_P D vwCl [(a_t, .inr (11, [.ref a_signs, .int v_signMany, .int v_seats, .ref a_links, .ref a_worths, .int v_bearIs, .ref a_far, .ref a_mays, .ref a_rowsTo, .ref a_endIn, .long v_rowsAll, .ref a_ends, .ref a_pairSets, .ref a_awayIn, .ref a_now, .ref a_then, .long v_awayUpper, .long v_lower, .ref a_comers, .int v_comerMany, .ref a_seen, .ref a_seenMany, .int v_seenRows, .ref a_kept, .ref a_isKept, .int v_place, .int v_isWriting])), (a_awayIn, eI cI 200 u7)] H → va_S A s.heap H locs → lv_has ls 7 [(0, .ref a_t), (1, .int x1), (3, .int (y3_27 + 1)), (4, .int w11.1), (5, .int w11.2), (6, .int y6_52)] → W p l e { frames := 1, cells := 0, slots := 0, locals := 24 } s m args below meth c H locs 0 0 Q (F0 m 83 ls [])) hf ?_ ?_
              · intro w11 hf H locs ls hP hS hl
                refine lv_iinc (v := (y6_52 + 1)) (lv' := [(6, .int (y6_52 + 1)), (0, .ref a_t), (1, .int x1), (3, .int (y3_27 + 1)), (4, .int w11.1), (5, .int w11.2)]) hx hb dX11_rowsOf_83 hl (k := 5) rfl rfl (by decide) rfl (fun ls hl => ?_)
                refine lv_goto (tgt := 52) hx hb dX11_rowsOf_86 (by decide) ?_
                exact ih w11.1 w11.2 (y6_52 + 1) _ _ _ _ hf hP hS (lv_sub hl [1, 2, 3, 4, 5, 0] rfl) kk
              · intro J83_12 hf
                refine lv_icmp_le (tgt := 83) hx hb dX11_rowsOf_67 (by decide) (fun c13 => ?_) (fun c13 => ?_)
                · have hf := ob_tk c13 hf
                  exact J83_12 (y4_52, y5_52) hf _ _ _ hP hS (lv_sub hl [0, 1, 2, 3, 4, 5] rfl)
                · have hf := ob_fk c13 hf
                  refine lv_aload_n hx hb dX11_rowsOf_70 rfl (lv_at hl 0 rfl) ?_
                  refine gf_X11_38 Cx hP 0 rfl rfl dX11_rowsOf_71 ?_
                  refine lv_iload hx hb dX11_rowsOf_74 (lv_at hl 5 rfl) ?_
                  obtain ⟨u14, hu14, hf⟩ := ob_bk hf
                  refine ba_iald Cx hP 1 rfl hu14 dX11_rowsOf_76 ?_
                  refine lv_istore (lv' := [(5, .int u14), (0, .ref a_t), (1, .int x1), (3, .int (y3_27 + 1)), (4, .int y4_52), (6, .int y6_52)]) hx hb dX11_rowsOf_77 hl (by decide) rfl (fun ls hl => ?_)
                  refine lv_iload hx hb dX11_rowsOf_79 (lv_at hl 5 rfl) ?_
                  refine lv_istore (lv' := [(4, .int y6_52), (5, .int u14), (0, .ref a_t), (1, .int x1), (3, .int (y3_27 + 1)), (6, .int y6_52)]) hx hb dX11_rowsOf_81 hl (by decide) rfl (fun ls hl => ?_)
                  exact J83_12 (y6_52, u14) hf _ _ _ hP hS (lv_sub hl [2, 3, 4, 0, 1, 5] rfl)
        obtain ⟨u15, hu15, hf⟩ := ob_b hf
        refine L52_8 FU (-6 : Int32) (1 : Int32) (0 : Int32) u15 _ _ _ hu15 hP hS (lv_sub hl [4, 5, 3, 2, 1, 0] rfl) ?_
        intro H locs ls hP hS hl
        refine lv_goto (tgt := 27) hx hb dX11_rowsOf_89 (by decide) ?_
        exact ih (y3_27 + 1) u15 u7 _ _ _ _ hf hP hS (lv_sub hl [0, 1, 2, 3] rfl) kk
  obtain ⟨u16, hu16, hf⟩ := ob_b hf
  refine L27_5 FU (0 : Int32) x2 u4 u16 _ _ _ hu16 hP hS (lv_sub hl [2, 3, 1, 0] rfl) ?_
  intro H locs ls hP hS hl
  refine lv_iload_n hx hb dX11_rowsOf_92 rfl (lv_at hl 0 rfl) ?_
  obtain rfl := Option.some.inj hf
  exact ret _ _ _ _ dX11_rowsOf_93 hP hS

def f_X11_rows (v_awayIn : Nat → Int32) (x1 : Int32) (x2 : Int32) : Option (Int32 × (Nat → Int32)) :=
  (f_X11_in ((x1).toInt64) (1 : Int64) (200 : Int64)).bind (fun u1 =>
  if u1 = 0 then
  some ((-2 : Int32), v_awayIn)
  else
  (f_X11_in ((x2).toInt64) (0 : Int64) (((x1 - (1 : Int32))).toInt64)).bind (fun u3 =>
  (if u3 = 0 then
  some ((-1 : Int32), v_awayIn)
  else
  (f_X11_rowsOf v_awayIn x1 x2).bind (fun u7 =>
  some (u7.1, u7.2))).bind (fun w4 =>
  some (w4.1, w4.2))))
set_option maxHeartbeats 4000000 in
set_option maxRecDepth 100000 in
theorem c_X11_rows (l : Launch) (D : va_G) (cI cJ cZ cO : ClassId) (a_t a_signs a_links a_worths a_far a_mays a_rowsTo a_endIn a_ends a_pairSets a_awayIn a_now a_then a_comers a_seen a_seenMany a_kept a_isKept : Nat) (v_signMany : Int32) (v_seats : Int32) (v_bearIs : Int32) (v_rowsAll : Int64) (v_awayUpper : Int64) (v_lower : Int64) (v_comerMany : Int32) (v_seenRows : Int32) (v_place : Int32) (v_isWriting : Int32) (v_awayIn : Nat → Int32) (x1 : Int32) (x2 : Int32) (out : Int32 × (Nat → Int32)) (hf : f_X11_rows v_awayIn x1 x2 = some out) : MetR l yX11_rows (Cond.code yX11_rows cX11_rows 3 (some .int) :: tbG) { frames := 2, cells := 0, slots := 0, locals := 50 } D (tyL cI cJ cZ cO) [.ref a_t, .int x1, .int x2] [(a_t, .inr (11, [.ref a_signs, .int v_signMany, .int v_seats, .ref a_links, .ref a_worths, .int v_bearIs, .ref a_far, .ref a_mays, .ref a_rowsTo, .ref a_endIn, .long v_rowsAll, .ref a_ends, .ref a_pairSets, .ref a_awayIn, .ref a_now, .ref a_then, .long v_awayUpper, .long v_lower, .ref a_comers, .int v_comerMany, .ref a_seen, .ref a_seenMany, .int v_seenRows, .ref a_kept, .ref a_isKept, .int v_place, .int v_isWriting])), (a_awayIn, eI cI 200 v_awayIn)] (some (.int out.1)) [(a_t, .inr (11, [.ref a_signs, .int v_signMany, .int v_seats, .ref a_links, .ref a_worths, .int v_bearIs, .ref a_far, .ref a_mays, .ref a_rowsTo, .ref a_endIn, .long v_rowsAll, .ref a_ends, .ref a_pairSets, .ref a_awayIn, .ref a_now, .ref a_then, .long v_awayUpper, .long v_lower, .ref a_comers, .int v_comerMany, .ref a_seen, .ref a_seenMany, .int v_seenRows, .ref a_kept, .ref a_isKept, .int v_place, .int v_isWriting])), (a_awayIn, eI cI 200 out.2)] := by
  refine ba_ofI RX11 [(0, .ref a_t), (1, .int x1), (2, .int x2)] (by decide +kernel) rfl (Nat.le_of_ble_eq_true rfl) rfl ?_
  intro p e s m args below meth c Q A Cx hP ret ls hl
  obtain ⟨⟨hx, hb, hml, hown, hts⟩, hK, hD, hA⟩ := id Cx
  have hS : va_S A s.heap s.heap [] := va_S.rf
  unfold f_X11_rows at hf
  refine lv_iload_n hx hb dX11_rows_0 rfl (lv_at hl 1 rfl) ?_
  refine lv_i2l (v := (x1).toInt64) hx hb dX11_rows_1 rfl ?_
  refine lv_lconst (v := 1) hx hb dX11_rows_2 (by decide) ?_
  refine lv_ldc2 hx hb hown (hts _ kw_1005) dX11_rows_3 ?_
  obtain ⟨u1, hu1, hf⟩ := ob_b hf
  refine iv_X11_74 (As := [.long ((x1).toInt64), .long (1 : Int64), .long (200 : Int64)]) (rest := []) (is := []) (X' := [(a_t, .inr (11, [.ref a_signs, .int v_signMany, .int v_seats, .ref a_links, .ref a_worths, .int v_bearIs, .ref a_far, .ref a_mays, .ref a_rowsTo, .ref a_endIn, .long v_rowsAll, .ref a_ends, .ref a_pairSets, .ref a_awayIn, .ref a_now, .ref a_then, .long v_awayUpper, .long v_lower, .ref a_comers, .int v_comerMany, .ref a_seen, .ref a_seenMany, .int v_seenRows, .ref a_kept, .ref a_isKept, .int v_place, .int v_isWriting])), (a_awayIn, eI cI 200 v_awayIn)]) Cx (c_X11_in l D cI cJ cZ cO  ((x1).toInt64) (1 : Int64) (200 : Int64) u1 hu1) hP hS rfl rfl rfl rfl rfl rfl hl.1 (Nat.le_of_ble_eq_true rfl) dX11_rows_6 rfl rfl ⟨Nat.le_of_ble_eq_true rfl, Nat.le_of_ble_eq_true rfl⟩ ⟨Nat.zero_le _, Nat.zero_le _⟩ rfl (fun H locs hP hS => ?_)
  refine lv_if_ne (tgt := 15) hx hb dX11_rows_9 (by decide) (fun c2 => ?_) (fun c2 => ?_)
  · have hf := ob_f c2 hf
    refine lv_iload_n hx hb dX11_rows_15 rfl (lv_at hl 2 rfl) ?_
    refine lv_i2l (v := (x2).toInt64) hx hb dX11_rows_16 rfl ?_
    refine lv_lconst (v := 0) hx hb dX11_rows_17 (by decide) ?_
    refine lv_iload_n hx hb dX11_rows_18 rfl (lv_at hl 1 rfl) ?_
    refine lv_iconst (v := 1) hx hb dX11_rows_19 (by decide) ?_
    refine lv_isub hx hb dX11_rows_20 ?_
    refine lv_i2l (v := ((x1 - (1 : Int32))).toInt64) hx hb dX11_rows_21 rfl ?_
    obtain ⟨u3, hu3, hf⟩ := ob_b hf
    refine iv_X11_74 (As := [.long ((x2).toInt64), .long (0 : Int64), .long (((x1 - (1 : Int32))).toInt64)]) (rest := []) (is := []) (X' := [(a_t, .inr (11, [.ref a_signs, .int v_signMany, .int v_seats, .ref a_links, .ref a_worths, .int v_bearIs, .ref a_far, .ref a_mays, .ref a_rowsTo, .ref a_endIn, .long v_rowsAll, .ref a_ends, .ref a_pairSets, .ref a_awayIn, .ref a_now, .ref a_then, .long v_awayUpper, .long v_lower, .ref a_comers, .int v_comerMany, .ref a_seen, .ref a_seenMany, .int v_seenRows, .ref a_kept, .ref a_isKept, .int v_place, .int v_isWriting])), (a_awayIn, eI cI 200 v_awayIn)]) Cx (c_X11_in l D cI cJ cZ cO  ((x2).toInt64) (0 : Int64) (((x1 - (1 : Int32))).toInt64) u3 hu3) hP hS rfl rfl rfl rfl rfl rfl hl.1 (Nat.le_of_ble_eq_true rfl) dX11_rows_22 rfl rfl ⟨Nat.le_of_ble_eq_true rfl, Nat.le_of_ble_eq_true rfl⟩ ⟨Nat.zero_le _, Nat.zero_le _⟩ rfl (fun H locs hP hS => ?_)
    refine ob_J (P := fun w4 => ∀ (H : Heap) (locs : List Loc) (ls : Array Slot), va_P D vwCl [(a_t, .inr (11, [.ref a_signs, .int v_signMany, .int v_seats, .ref a_links, .ref a_worths, .int v_bearIs, .ref a_far, .ref a_mays, .ref a_rowsTo, .ref a_endIn, .long v_rowsAll, .ref a_ends, .ref a_pairSets, .ref a_awayIn, .ref a_now, .ref a_then, .long v_awayUpper, .long v_lower, .ref a_comers, .int v_comerMany, .ref a_seen, .ref a_seenMany, .int v_seenRows, .ref a_kept, .ref a_isKept, .int v_place, .int v_isWriting])), (a_awayIn, eI cI 200 w4.2)] H → va_S A s.heap H locs → lv_has ls 3 [] → W p l e { frames := 2, cells := 0, slots := 0, locals := 50 } s m args below meth c H locs 0 0 Q (F0 m 38 ls [.int w4.1])) hf ?_ ?_
    · intro w4 hf H locs ls hP hS hl
      obtain rfl := Option.some.inj hf
      exact ret _ _ _ _ dX11_rows_38 hP hS
    · intro J38_5 hf
      refine lv_if_eq (tgt := 37) hx hb dX11_rows_25 (by decide) (fun c6 => ?_) (fun c6 => ?_)
      · have hf := ob_tk c6 hf
        refine lv_iconst (v := (-1)) hx hb dX11_rows_37 (by decide) ?_
        exact J38_5 ((-1 : Int32), v_awayIn) hf _ _ _ hP hS (lv_sub hl [] rfl)
      · have hf := ob_fk c6 hf
        refine lv_aload_n hx hb dX11_rows_28 rfl (lv_at hl 0 rfl) ?_
        refine lv_iload_n hx hb dX11_rows_29 rfl (lv_at hl 1 rfl) ?_
        refine lv_iload_n hx hb dX11_rows_30 rfl (lv_at hl 2 rfl) ?_
        obtain ⟨u7, hu7, hf⟩ := ob_bk hf
        refine iv_X11_192 (As := [.int x1, .int x2]) (rest := []) (is := [0, 1]) (q0 := 0) (X' := [(a_t, .inr (11, [.ref a_signs, .int v_signMany, .int v_seats, .ref a_links, .ref a_worths, .int v_bearIs, .ref a_far, .ref a_mays, .ref a_rowsTo, .ref a_endIn, .long v_rowsAll, .ref a_ends, .ref a_pairSets, .ref a_awayIn, .ref a_now, .ref a_then, .long v_awayUpper, .long v_lower, .ref a_comers, .int v_comerMany, .ref a_seen, .ref a_seenMany, .int v_seenRows, .ref a_kept, .ref a_isKept, .int v_place, .int v_isWriting])), (a_awayIn, eI cI 200 u7.2)]) Cx (c_X11_rowsOf l D cI cJ cZ cO a_t a_signs a_links a_worths a_far a_mays a_rowsTo a_endIn a_ends a_pairSets a_awayIn a_now a_then a_comers a_seen a_seenMany a_kept a_isKept v_signMany v_seats v_bearIs v_rowsAll v_awayUpper v_lower v_comerMany v_seenRows v_place v_isWriting v_awayIn x1 x2 u7 hu7) hP hS rfl rfl rfl rfl rfl rfl rfl hl.1 (Nat.le_of_ble_eq_true rfl) dX11_rows_31 rfl rfl ⟨Nat.le_of_ble_eq_true rfl, Nat.le_of_ble_eq_true rfl⟩ ⟨Nat.zero_le _, Nat.zero_le _⟩ rfl (fun H locs hP hS => ?_)
        refine lv_goto (tgt := 38) hx hb dX11_rows_34 (by decide) ?_
        exact J38_5 (u7.1, u7.2) hf _ _ _ hP hS (lv_sub hl [] rfl)
  · have hf := ob_t c2 hf
    refine lv_bipush (v := (-2)) hx hb dX11_rows_12 (by decide) ?_
    obtain rfl := Option.some.inj hf
    exact ret _ _ _ _ dX11_rows_14 hP hS

def f_X11_longer_17 (x1 : Int32) : Nat → Int32 → (Nat → Int32) → Option (((Nat → Int32)) ⊕ (Int32 × (Nat → Int32)))
  | 0, _, _ => none
  | n + 1, y2_17, z_awayIn_17 =>
  if (200 : Int32) < y2_17 then
  some (Sum.inl (z_awayIn_17))
  else
  (f_X11_rowsOf z_awayIn_17 y2_17 (0 : Int32)).bind (fun u5 =>
  if u5.1 < x1 then
  f_X11_longer_17 x1 n (y2_17 + 1) u5.2
  else
  some (Sum.inr (y2_17, u5.2)))
theorem f_X11_longer_17_s (x1 : Int32) (n : Nat) (y2_17 : Int32) (z_awayIn_17 : Nat → Int32) : f_X11_longer_17 x1 (n + 1) y2_17 z_awayIn_17 =
  (if (200 : Int32) < y2_17 then
  some (Sum.inl (z_awayIn_17))
  else
  (f_X11_rowsOf z_awayIn_17 y2_17 (0 : Int32)).bind (fun u5 =>
  if u5.1 < x1 then
  f_X11_longer_17 x1 n (y2_17 + 1) u5.2
  else
  some (Sum.inr (y2_17, u5.2)))) := rfl
def f_X11_longer (v_awayIn : Nat → Int32) (x1 : Int32) : Option (Int32 × (Nat → Int32)) :=
  (f_X11_in ((x1).toInt64) (1 : Int64) (100 : Int64)).bind (fun u1 =>
  if u1 = 0 then
  some ((-2 : Int32), v_awayIn)
  else
  (f_X11_longer_17 x1 FU (1 : Int32) v_awayIn).bind (fun u7 => Sum.elim (fun w8 =>
  some ((-6 : Int32), w8)) (fun r => some r) u7))
set_option maxHeartbeats 4000000 in
set_option maxRecDepth 100000 in
theorem c_X11_longer (l : Launch) (D : va_G) (cI cJ cZ cO : ClassId) (a_t a_signs a_links a_worths a_far a_mays a_rowsTo a_endIn a_ends a_pairSets a_awayIn a_now a_then a_comers a_seen a_seenMany a_kept a_isKept : Nat) (v_signMany : Int32) (v_seats : Int32) (v_bearIs : Int32) (v_rowsAll : Int64) (v_awayUpper : Int64) (v_lower : Int64) (v_comerMany : Int32) (v_seenRows : Int32) (v_place : Int32) (v_isWriting : Int32) (v_awayIn : Nat → Int32) (x1 : Int32) (out : Int32 × (Nat → Int32)) (hf : f_X11_longer v_awayIn x1 = some out) : MetR l yX11_longer (Cond.code yX11_longer cX11_longer 3 (some .int) :: tbG) { frames := 2, cells := 0, slots := 0, locals := 50 } D (tyL cI cJ cZ cO) [.ref a_t, .int x1] [(a_t, .inr (11, [.ref a_signs, .int v_signMany, .int v_seats, .ref a_links, .ref a_worths, .int v_bearIs, .ref a_far, .ref a_mays, .ref a_rowsTo, .ref a_endIn, .long v_rowsAll, .ref a_ends, .ref a_pairSets, .ref a_awayIn, .ref a_now, .ref a_then, .long v_awayUpper, .long v_lower, .ref a_comers, .int v_comerMany, .ref a_seen, .ref a_seenMany, .int v_seenRows, .ref a_kept, .ref a_isKept, .int v_place, .int v_isWriting])), (a_awayIn, eI cI 200 v_awayIn)] (some (.int out.1)) [(a_t, .inr (11, [.ref a_signs, .int v_signMany, .int v_seats, .ref a_links, .ref a_worths, .int v_bearIs, .ref a_far, .ref a_mays, .ref a_rowsTo, .ref a_endIn, .long v_rowsAll, .ref a_ends, .ref a_pairSets, .ref a_awayIn, .ref a_now, .ref a_then, .long v_awayUpper, .long v_lower, .ref a_comers, .int v_comerMany, .ref a_seen, .ref a_seenMany, .int v_seenRows, .ref a_kept, .ref a_isKept, .int v_place, .int v_isWriting])), (a_awayIn, eI cI 200 out.2)] := by
  refine ba_ofI RX11 [(0, .ref a_t), (1, .int x1)] (by decide +kernel) rfl (Nat.le_of_ble_eq_true rfl) rfl ?_
  intro p e s m args below meth c Q A Cx hP ret ls hl
  obtain ⟨⟨hx, hb, hml, hown, hts⟩, hK, hD, hA⟩ := id Cx
  have hS : va_S A s.heap s.heap [] := va_S.rf
  unfold f_X11_longer at hf
  refine lv_iload_n hx hb dX11_longer_0 rfl (lv_at hl 1 rfl) ?_
  refine lv_i2l (v := (x1).toInt64) hx hb dX11_longer_1 rfl ?_
  refine lv_lconst (v := 1) hx hb dX11_longer_2 (by decide) ?_
  refine lv_ldc2 hx hb hown (hts _ kw_1018) dX11_longer_3 ?_
  obtain ⟨u1, hu1, hf⟩ := ob_b hf
  refine iv_X11_74 (As := [.long ((x1).toInt64), .long (1 : Int64), .long (100 : Int64)]) (rest := []) (is := []) (X' := [(a_t, .inr (11, [.ref a_signs, .int v_signMany, .int v_seats, .ref a_links, .ref a_worths, .int v_bearIs, .ref a_far, .ref a_mays, .ref a_rowsTo, .ref a_endIn, .long v_rowsAll, .ref a_ends, .ref a_pairSets, .ref a_awayIn, .ref a_now, .ref a_then, .long v_awayUpper, .long v_lower, .ref a_comers, .int v_comerMany, .ref a_seen, .ref a_seenMany, .int v_seenRows, .ref a_kept, .ref a_isKept, .int v_place, .int v_isWriting])), (a_awayIn, eI cI 200 v_awayIn)]) Cx (c_X11_in l D cI cJ cZ cO  ((x1).toInt64) (1 : Int64) (100 : Int64) u1 hu1) hP hS rfl rfl rfl rfl rfl rfl hl.1 (Nat.le_of_ble_eq_true rfl) dX11_longer_6 rfl rfl ⟨Nat.le_of_ble_eq_true rfl, Nat.le_of_ble_eq_true rfl⟩ ⟨Nat.zero_le _, Nat.zero_le _⟩ rfl (fun H locs hP hS => ?_)
  refine lv_if_ne (tgt := 15) hx hb dX11_longer_9 (by decide) (fun c2 => ?_) (fun c2 => ?_)
  · have hf := ob_f c2 hf
    refine lv_iconst (v := 1) hx hb dX11_longer_15 (by decide) ?_
    refine lv_istore_n (lv' := [(2, .int (1 : Int32)), (0, .ref a_t), (1, .int x1)]) hx hb dX11_longer_16 rfl hl (by decide) rfl (fun ls hl => ?_)
    have L17_3 : ∀ (n : Nat) (y2_17 : Int32) (z_awayIn_17 : Nat → Int32) (o : ((Nat → Int32)) ⊕ (Int32 × (Nat → Int32))) (H : Heap) (locs : List Loc) (ls : Array Slot), f_X11_longer_17 x1 n y2_17 z_awayIn_17 = some o → va_P D vwCl [(a_t, .inr (11, [.ref a_signs, .int v_signMany, .int v_seats, .ref a_links, .ref a_worths, .int v_bearIs, .ref a_far, .ref a_mays, .ref a_rowsTo, .ref a_endIn, .long v_rowsAll, .ref a_ends, .ref a_pairSets, .ref a_awayIn, .ref a_now, .ref a_then, .long v_awayUpper, .long v_lower, .ref a_comers, .int v_comerMany, .ref a_seen, .ref a_seenMany, .int v_seenRows, .ref a_kept, .ref a_isKept, .int v_place, .int v_isWriting])), (a_awayIn, eI cI 200 z_awayIn_17)] H → va_S A s.heap H locs → lv_has ls 3 [(0, .ref a_t), (1, .int x1), (2, .int y2_17)] → (∀ w, o = Sum.inl w → ∀ (H : Heap) (locs : List Loc) (ls : Array Slot), va_P D vwCl [(a_t, .inr (11, [.ref a_signs, .int v_signMany, .int v_seats, .ref a_links, .ref a_worths, .int v_bearIs, .ref a_far, .ref a_mays, .ref a_rowsTo, .ref a_endIn, .long v_rowsAll, .ref a_ends, .ref a_pairSets, .ref a_awayIn, .ref a_now, .ref a_then, .long v_awayUpper, .long v_lower, .ref a_comers, .int v_comerMany, .ref a_seen, .ref a_seenMany, .int v_seenRows, .ref a_kept, .ref a_isKept, .int v_place, .int v_isWriting])), (a_awayIn, eI cI 200 w)] H → va_S A s.heap H locs → lv_has ls 3 [] → W p l e { frames := 2, cells := 0, slots := 0, locals := 50 } s m args below meth c H locs 0 0 Q (F0 m 42 ls [])) → (∀ r, o = Sum.inr r → ∀ (pc : Nat) (H : Heap) (locs : List Loc) (ls : Array Slot), decode cX11_longer pc = .ok (.ireturn, 1) → va_P D vwCl [(a_t, .inr (11, [.ref a_signs, .int v_signMany, .int v_seats, .ref a_links, .ref a_worths, .int v_bearIs, .ref a_far, .ref a_mays, .ref a_rowsTo, .ref a_endIn, .long v_rowsAll, .ref a_ends, .ref a_pairSets, .ref a_awayIn, .ref a_now, .ref a_then, .long v_awayUpper, .long v_lower, .ref a_comers, .int v_comerMany, .ref a_seen, .ref a_seenMany, .int v_seenRows, .ref a_kept, .ref a_isKept, .int v_place, .int v_isWriting])), (a_awayIn, eI cI 200 r.2)] H → va_S A s.heap H locs → W p l e { frames := 2, cells := 0, slots := 0, locals := 50 } s m args below meth c H locs 0 0 Q (F0 m pc ls [.int r.1])) → W p l e { frames := 2, cells := 0, slots := 0, locals := 50 } s m args below meth c H locs 0 0 Q (F0 m 17 ls []) := by
      intro n
      induction n with
      | zero => intro y2_17 z_awayIn_17 o H locs ls hf; exact (ob_n hf).elim
      | succ n ih =>
        intro y2_17 z_awayIn_17 o H locs ls hf hP hS hl kk kr
        rw [f_X11_longer_17_s] at hf
        refine lv_iload_n hx hb dX11_longer_17 rfl (lv_at hl 2 rfl) ?_
        refine lv_sipush (v := 200) hx hb dX11_longer_18 (by decide) ?_
        refine lv_icmp_gt (tgt := 42) hx hb dX11_longer_21 (by decide) (fun c4 => ?_) (fun c4 => ?_)
        · have hf := ob_t c4 hf
          obtain rfl := Option.some.inj hf
          exact kk _ rfl _ _ _ hP hS (lv_sub hl [] rfl)
        · have hf := ob_f c4 hf
          refine lv_aload_n hx hb dX11_longer_24 rfl (lv_at hl 0 rfl) ?_
          refine lv_iload_n hx hb dX11_longer_25 rfl (lv_at hl 2 rfl) ?_
          refine lv_iconst (v := 0) hx hb dX11_longer_26 (by decide) ?_
          obtain ⟨u5, hu5, hf⟩ := ob_b hf
          refine iv_X11_192 (As := [.int y2_17, .int (0 : Int32)]) (rest := []) (is := [0, 1]) (q0 := 0) (X' := [(a_t, .inr (11, [.ref a_signs, .int v_signMany, .int v_seats, .ref a_links, .ref a_worths, .int v_bearIs, .ref a_far, .ref a_mays, .ref a_rowsTo, .ref a_endIn, .long v_rowsAll, .ref a_ends, .ref a_pairSets, .ref a_awayIn, .ref a_now, .ref a_then, .long v_awayUpper, .long v_lower, .ref a_comers, .int v_comerMany, .ref a_seen, .ref a_seenMany, .int v_seenRows, .ref a_kept, .ref a_isKept, .int v_place, .int v_isWriting])), (a_awayIn, eI cI 200 u5.2)]) Cx (c_X11_rowsOf l D cI cJ cZ cO a_t a_signs a_links a_worths a_far a_mays a_rowsTo a_endIn a_ends a_pairSets a_awayIn a_now a_then a_comers a_seen a_seenMany a_kept a_isKept v_signMany v_seats v_bearIs v_rowsAll v_awayUpper v_lower v_comerMany v_seenRows v_place v_isWriting z_awayIn_17 y2_17 (0 : Int32) u5 hu5) hP hS rfl rfl rfl rfl rfl rfl rfl hl.1 (Nat.le_of_ble_eq_true rfl) dX11_longer_27 rfl rfl ⟨Nat.le_of_ble_eq_true rfl, Nat.le_of_ble_eq_true rfl⟩ ⟨Nat.zero_le _, Nat.zero_le _⟩ rfl (fun H locs hP hS => ?_)
          refine lv_iload_n hx hb dX11_longer_30 rfl (lv_at hl 1 rfl) ?_
          refine lv_icmp_lt (tgt := 36) hx hb dX11_longer_31 (by decide) (fun c6 => ?_) (fun c6 => ?_)
          · have hf := ob_t c6 hf
            refine lv_iinc (v := (y2_17 + 1)) (lv' := [(2, .int (y2_17 + 1)), (0, .ref a_t), (1, .int x1)]) hx hb dX11_longer_36 hl (k := 2) rfl rfl (by decide) rfl (fun ls hl => ?_)
            refine lv_goto (tgt := 17) hx hb dX11_longer_39 (by decide) ?_
            exact ih (y2_17 + 1) u5.2 _ _ _ _ hf hP hS (lv_sub hl [1, 2, 0] rfl) kk kr
          · have hf := ob_f c6 hf
            refine lv_iload_n hx hb dX11_longer_34 rfl (lv_at hl 2 rfl) ?_
            obtain rfl := Option.some.inj hf
            exact kr _ rfl _ _ _ _ dX11_longer_35 hP hS
    obtain ⟨u7, hu7, hf⟩ := ob_b hf
    refine L17_3 FU (1 : Int32) v_awayIn u7 _ _ _ hu7 hP hS (lv_sub hl [1, 2, 0] rfl) ?_ ?_
    · intro w8 hw H locs ls hP hS hl
      rw [hw] at hf
      have hf := ob_l hf
      refine lv_bipush (v := (-6)) hx hb dX11_longer_42 (by decide) ?_
      obtain rfl := Option.some.inj hf
      exact ret _ _ _ _ dX11_longer_44 hP hS
    · intro r hr pc H locs ls hd hP hS
      rw [hr] at hf
      have hf := ob_r hf
      obtain rfl := Option.some.inj hf
      exact ret _ _ _ _ hd hP hS
  · have hf := ob_t c2 hf
    refine lv_bipush (v := (-2)) hx hb dX11_longer_12 (by decide) ?_
    obtain rfl := Option.some.inj hf
    exact ret _ _ _ _ dX11_longer_14 hP hS

def f_X11_arms_42 (v_seats : Int32) (v_bearIs : Int32) (v_links : Nat → Int32) (v_worths : Nat → Int32) (x1 : Int32) (x2 : Int32) : Nat → Int32 → Int32 → Int32 → (Nat → Int32) → Option (Int32 × Int32 × (Nat → Int32))
  | 0, _, _, _, _ => none
  | n + 1, y4_42, y5_42, y6_42, z_far_42 =>
  if ((1 : Int32) <<< ((v_seats - (1 : Int32)) &&& 31)) ≤ y6_42 then
  some (y4_42, y5_42, z_far_42)
  else
  (f_X11_ones y6_42).bind (fun u9 =>
  (if x2 < u9 then
  some (y4_42, y5_42, z_far_42)
  else
  (f_X11_findFar v_seats z_far_42 v_links y6_42).bind (fun u13 =>
  (f_X11_filledBy v_seats v_bearIs u13 v_worths (0 : Int32) x1).bind (fun u14 =>
  (f_X11_ones u14).bind (fun u15 =>
  if y4_42 < 0 then
  some (y6_42, u15, u13)
  else
  if y5_42 < u15 then
  some (y6_42, u15, u13)
  else
  if u15 = y5_42 then
  (f_X11_ones y6_42).bind (fun u19 =>
  (f_X11_ones y4_42).bind (fun u20 =>
  if u20 ≤ u19 then
  some (y4_42, y5_42, u13)
  else
  some (y6_42, u15, u13)))
  else
  some (y4_42, y5_42, u13))))).bind (fun w10 =>
  f_X11_arms_42 v_seats v_bearIs v_links v_worths x1 x2 n w10.1 w10.2.1 (y6_42 + 1) w10.2.2))
theorem f_X11_arms_42_s (v_seats : Int32) (v_bearIs : Int32) (v_links : Nat → Int32) (v_worths : Nat → Int32) (x1 : Int32) (x2 : Int32) (n : Nat) (y4_42 : Int32) (y5_42 : Int32) (y6_42 : Int32) (z_far_42 : Nat → Int32) : f_X11_arms_42 v_seats v_bearIs v_links v_worths x1 x2 (n + 1) y4_42 y5_42 y6_42 z_far_42 =
  (if ((1 : Int32) <<< ((v_seats - (1 : Int32)) &&& 31)) ≤ y6_42 then
  some (y4_42, y5_42, z_far_42)
  else
  (f_X11_ones y6_42).bind (fun u9 =>
  (if x2 < u9 then
  some (y4_42, y5_42, z_far_42)
  else
  (f_X11_findFar v_seats z_far_42 v_links y6_42).bind (fun u13 =>
  (f_X11_filledBy v_seats v_bearIs u13 v_worths (0 : Int32) x1).bind (fun u14 =>
  (f_X11_ones u14).bind (fun u15 =>
  if y4_42 < 0 then
  some (y6_42, u15, u13)
  else
  if y5_42 < u15 then
  some (y6_42, u15, u13)
  else
  if u15 = y5_42 then
  (f_X11_ones y6_42).bind (fun u19 =>
  (f_X11_ones y4_42).bind (fun u20 =>
  if u20 ≤ u19 then
  some (y4_42, y5_42, u13)
  else
  some (y6_42, u15, u13)))
  else
  some (y4_42, y5_42, u13))))).bind (fun w10 =>
  f_X11_arms_42 v_seats v_bearIs v_links v_worths x1 x2 n w10.1 w10.2.1 (y6_42 + 1) w10.2.2))) := rfl
def f_X11_arms (v_seats : Int32) (v_bearIs : Int32) (v_far : Nat → Int32) (v_links : Nat → Int32) (v_worths : Nat → Int32) (x1 : Int32) (x2 : Int32) (x3 : Int32) : Option (Int32 × (Nat → Int32)) :=
  (f_X11_isHabit x1).bind (fun u1 =>
  if u1 = 0 then
  some ((-2 : Int32), v_far)
  else
  (f_X11_in ((x2).toInt64) (0 : Int64) (3 : Int64)).bind (fun u3 =>
  if u3 = 0 then
  some ((-2 : Int32), v_far)
  else
  (f_X11_in ((x3).toInt64) (0 : Int64) (1 : Int64)).bind (fun u5 =>
  if u5 = 0 then
  some ((-2 : Int32), v_far)
  else
  (f_X11_arms_42 v_seats v_bearIs v_links v_worths x1 x2 FU (-6 : Int32) (0 : Int32) (0 : Int32) v_far).bind (fun u22 =>
  (f_X11_findFar v_seats u22.2.2 v_links (0 : Int32)).bind (fun u23 =>
  (if x3 = 0 then
  some (u22.1)
  else
  some (u22.2.1)).bind (fun w24 =>
  some (w24, u23)))))))
set_option maxHeartbeats 4000000 in
set_option maxRecDepth 100000 in
theorem c_X11_arms (l : Launch) (D : va_G) (cI cJ cZ cO : ClassId) (a_t a_signs a_links a_worths a_far a_mays a_rowsTo a_endIn a_ends a_pairSets a_awayIn a_now a_then a_comers a_seen a_seenMany a_kept a_isKept : Nat) (v_signMany : Int32) (v_seats : Int32) (v_bearIs : Int32) (v_rowsAll : Int64) (v_awayUpper : Int64) (v_lower : Int64) (v_comerMany : Int32) (v_seenRows : Int32) (v_place : Int32) (v_isWriting : Int32) (v_far : Nat → Int32) (v_links : Nat → Int32) (v_worths : Nat → Int32) (x1 : Int32) (x2 : Int32) (x3 : Int32) (out : Int32 × (Nat → Int32)) (hf : f_X11_arms v_seats v_bearIs v_far v_links v_worths x1 x2 x3 = some out) : MetR l yX11_arms (Cond.code yX11_arms cX11_arms 8 (some .int) :: tbG) { frames := 5, cells := 0, slots := 0, locals := 120 } D (tyL cI cJ cZ cO) [.ref a_t, .int x1, .int x2, .int x3] [(a_t, .inr (11, [.ref a_signs, .int v_signMany, .int v_seats, .ref a_links, .ref a_worths, .int v_bearIs, .ref a_far, .ref a_mays, .ref a_rowsTo, .ref a_endIn, .long v_rowsAll, .ref a_ends, .ref a_pairSets, .ref a_awayIn, .ref a_now, .ref a_then, .long v_awayUpper, .long v_lower, .ref a_comers, .int v_comerMany, .ref a_seen, .ref a_seenMany, .int v_seenRows, .ref a_kept, .ref a_isKept, .int v_place, .int v_isWriting])), (a_far, eI cI 144 v_far), (a_links, eI cI 12 v_links), (a_worths, eI cI 12 v_worths)] (some (.int out.1)) [(a_t, .inr (11, [.ref a_signs, .int v_signMany, .int v_seats, .ref a_links, .ref a_worths, .int v_bearIs, .ref a_far, .ref a_mays, .ref a_rowsTo, .ref a_endIn, .long v_rowsAll, .ref a_ends, .ref a_pairSets, .ref a_awayIn, .ref a_now, .ref a_then, .long v_awayUpper, .long v_lower, .ref a_comers, .int v_comerMany, .ref a_seen, .ref a_seenMany, .int v_seenRows, .ref a_kept, .ref a_isKept, .int v_place, .int v_isWriting])), (a_far, eI cI 144 out.2), (a_links, eI cI 12 v_links), (a_worths, eI cI 12 v_worths)] := by
  refine ba_ofI RX11 [(0, .ref a_t), (1, .int x1), (2, .int x2), (3, .int x3)] (by decide +kernel) rfl (Nat.le_of_ble_eq_true rfl) rfl ?_
  intro p e s m args below meth c Q A Cx hP ret ls hl
  obtain ⟨⟨hx, hb, hml, hown, hts⟩, hK, hD, hA⟩ := id Cx
  have hS : va_S A s.heap s.heap [] := va_S.rf
  unfold f_X11_arms at hf
  refine lv_iload_n hx hb dX11_arms_0 rfl (lv_at hl 1 rfl) ?_
  obtain ⟨u1, hu1, hf⟩ := ob_b hf
  refine iv_X11_133 (As := [.int x1]) (rest := []) (is := []) (X' := [(a_t, .inr (11, [.ref a_signs, .int v_signMany, .int v_seats, .ref a_links, .ref a_worths, .int v_bearIs, .ref a_far, .ref a_mays, .ref a_rowsTo, .ref a_endIn, .long v_rowsAll, .ref a_ends, .ref a_pairSets, .ref a_awayIn, .ref a_now, .ref a_then, .long v_awayUpper, .long v_lower, .ref a_comers, .int v_comerMany, .ref a_seen, .ref a_seenMany, .int v_seenRows, .ref a_kept, .ref a_isKept, .int v_place, .int v_isWriting])), (a_far, eI cI 144 v_far), (a_links, eI cI 12 v_links), (a_worths, eI cI 12 v_worths)]) Cx (c_X11_isHabit l D cI cJ cZ cO  x1 u1 hu1) hP hS rfl rfl rfl rfl rfl rfl hl.1 (Nat.le_of_ble_eq_true rfl) dX11_arms_1 rfl rfl ⟨Nat.le_of_ble_eq_true rfl, Nat.le_of_ble_eq_true rfl⟩ ⟨Nat.zero_le _, Nat.zero_le _⟩ rfl (fun H locs hP hS => ?_)
  refine lv_if_eq (tgt := 29) hx hb dX11_arms_4 (by decide) (fun c2 => ?_) (fun c2 => ?_)
  · have hf := ob_t c2 hf
    refine lv_bipush (v := (-2)) hx hb dX11_arms_29 (by decide) ?_
    obtain rfl := Option.some.inj hf
    exact ret _ _ _ _ dX11_arms_31 hP hS
  · have hf := ob_f c2 hf
    refine lv_iload_n hx hb dX11_arms_7 rfl (lv_at hl 2 rfl) ?_
    refine lv_i2l (v := (x2).toInt64) hx hb dX11_arms_8 rfl ?_
    refine lv_lconst (v := 0) hx hb dX11_arms_9 (by decide) ?_
    refine lv_ldc2 hx hb hown (hts _ kw_929) dX11_arms_10 ?_
    obtain ⟨u3, hu3, hf⟩ := ob_b hf
    refine iv_X11_74 (As := [.long ((x2).toInt64), .long (0 : Int64), .long (3 : Int64)]) (rest := []) (is := []) (X' := [(a_t, .inr (11, [.ref a_signs, .int v_signMany, .int v_seats, .ref a_links, .ref a_worths, .int v_bearIs, .ref a_far, .ref a_mays, .ref a_rowsTo, .ref a_endIn, .long v_rowsAll, .ref a_ends, .ref a_pairSets, .ref a_awayIn, .ref a_now, .ref a_then, .long v_awayUpper, .long v_lower, .ref a_comers, .int v_comerMany, .ref a_seen, .ref a_seenMany, .int v_seenRows, .ref a_kept, .ref a_isKept, .int v_place, .int v_isWriting])), (a_far, eI cI 144 v_far), (a_links, eI cI 12 v_links), (a_worths, eI cI 12 v_worths)]) Cx (c_X11_in l D cI cJ cZ cO  ((x2).toInt64) (0 : Int64) (3 : Int64) u3 hu3) hP hS rfl rfl rfl rfl rfl rfl hl.1 (Nat.le_of_ble_eq_true rfl) dX11_arms_13 rfl rfl ⟨Nat.le_of_ble_eq_true rfl, Nat.le_of_ble_eq_true rfl⟩ ⟨Nat.zero_le _, Nat.zero_le _⟩ rfl (fun H locs hP hS => ?_)
    refine lv_if_eq (tgt := 29) hx hb dX11_arms_16 (by decide) (fun c4 => ?_) (fun c4 => ?_)
    · have hf := ob_t c4 hf
      refine lv_bipush (v := (-2)) hx hb dX11_arms_29 (by decide) ?_
      obtain rfl := Option.some.inj hf
      exact ret _ _ _ _ dX11_arms_31 hP hS
    · have hf := ob_f c4 hf
      refine lv_iload_n hx hb dX11_arms_19 rfl (lv_at hl 3 rfl) ?_
      refine lv_i2l (v := (x3).toInt64) hx hb dX11_arms_20 rfl ?_
      refine lv_lconst (v := 0) hx hb dX11_arms_21 (by decide) ?_
      refine lv_lconst (v := 1) hx hb dX11_arms_22 (by decide) ?_
      obtain ⟨u5, hu5, hf⟩ := ob_b hf
      refine iv_X11_74 (As := [.long ((x3).toInt64), .long (0 : Int64), .long (1 : Int64)]) (rest := []) (is := []) (X' := [(a_t, .inr (11, [.ref a_signs, .int v_signMany, .int v_seats, .ref a_links, .ref a_worths, .int v_bearIs, .ref a_far, .ref a_mays, .ref a_rowsTo, .ref a_endIn, .long v_rowsAll, .ref a_ends, .ref a_pairSets, .ref a_awayIn, .ref a_now, .ref a_then, .long v_awayUpper, .long v_lower, .ref a_comers, .int v_comerMany, .ref a_seen, .ref a_seenMany, .int v_seenRows, .ref a_kept, .ref a_isKept, .int v_place, .int v_isWriting])), (a_far, eI cI 144 v_far), (a_links, eI cI 12 v_links), (a_worths, eI cI 12 v_worths)]) Cx (c_X11_in l D cI cJ cZ cO  ((x3).toInt64) (0 : Int64) (1 : Int64) u5 hu5) hP hS rfl rfl rfl rfl rfl rfl hl.1 (Nat.le_of_ble_eq_true rfl) dX11_arms_23 rfl rfl ⟨Nat.le_of_ble_eq_true rfl, Nat.le_of_ble_eq_true rfl⟩ ⟨Nat.zero_le _, Nat.zero_le _⟩ rfl (fun H locs hP hS => ?_)
      refine lv_if_ne (tgt := 32) hx hb dX11_arms_26 (by decide) (fun c6 => ?_) (fun c6 => ?_)
      · have hf := ob_f c6 hf
        refine lv_bipush (v := (-6)) hx hb dX11_arms_32 (by decide) ?_
        refine lv_istore (lv' := [(4, .int (-6 : Int32)), (0, .ref a_t), (1, .int x1), (2, .int x2), (3, .int x3)]) hx hb dX11_arms_34 hl (by decide) rfl (fun ls hl => ?_)
        refine lv_iconst (v := 0) hx hb dX11_arms_36 (by decide) ?_
        refine lv_istore (lv' := [(5, .int (0 : Int32)), (4, .int (-6 : Int32)), (0, .ref a_t), (1, .int x1), (2, .int x2), (3, .int x3)]) hx hb dX11_arms_37 hl (by decide) rfl (fun ls hl => ?_)
        refine lv_iconst (v := 0) hx hb dX11_arms_39 (by decide) ?_
        refine lv_istore (lv' := [(6, .int (0 : Int32)), (5, .int (0 : Int32)), (4, .int (-6 : Int32)), (0, .ref a_t), (1, .int x1), (2, .int x2), (3, .int x3)]) hx hb dX11_arms_40 hl (by decide) rfl (fun ls hl => ?_)
        have L42_7 : ∀ (n : Nat) (y4_42 : Int32) (y5_42 : Int32) (y6_42 : Int32) (z_far_42 : Nat → Int32) (o : Int32 × Int32 × (Nat → Int32)) (H : Heap) (locs : List Loc) (ls : Array Slot), f_X11_arms_42 v_seats v_bearIs v_links v_worths x1 x2 n y4_42 y5_42 y6_42 z_far_42 = some o → va_P D vwCl [(a_t, .inr (11, [.ref a_signs, .int v_signMany, .int v_seats, .ref a_links, .ref a_worths, .int v_bearIs, .ref a_far, .ref a_mays, .ref a_rowsTo, .ref a_endIn, .long v_rowsAll, .ref a_ends, .ref a_pairSets, .ref a_awayIn, .ref a_now, .ref a_then, .long v_awayUpper, .long v_lower, .ref a_comers, .int v_comerMany, .ref a_seen, .ref a_seenMany, .int v_seenRows, .ref a_kept, .ref a_isKept, .int v_place, .int v_isWriting])), (a_far, eI cI 144 z_far_42), (a_links, eI cI 12 v_links), (a_worths, eI cI 12 v_worths)] H → va_S A s.heap H locs → lv_has ls 8 [(0, .ref a_t), (1, .int x1), (2, .int x2), (3, .int x3), (4, .int y4_42), (5, .int y5_42), (6, .int y6_42)] → (∀ (H : Heap) (locs : List Loc) (ls : Array Slot), va_P D vwCl [(a_t, .inr (11, [.ref a_signs, .int v_signMany, .int v_seats, .ref a_links, .ref a_worths, .int v_bearIs, .ref a_far, .ref a_mays, .ref a_rowsTo, .ref a_endIn, .long v_rowsAll, .ref a_ends, .ref a_pairSets, .ref a_awayIn, .ref a_now, .ref a_then, .long v_awayUpper, .long v_lower, .ref a_comers, .int v_comerMany, .ref a_seen, .ref a_seenMany, .int v_seenRows, .ref a_kept, .ref a_isKept, .int v_place, .int v_isWriting])), (a_far, eI cI 144 o.2.2), (a_links, eI cI 12 v_links), (a_worths, eI cI 12 v_worths)] H → va_S A s.heap H locs → lv_has ls 8 [(0, .ref a_t), (3, .int x3), (4, .int o.1), (5, .int o.2.1)] → W p l e { frames := 5, cells := 0, slots := 0, locals := 120 } s m args below meth c H locs 0 0 Q (F0 m 127 ls [])) → W p l e { frames := 5, cells := 0, slots := 0, locals := 120 } s m args below meth c H locs 0 0 Q (F0 m 42 ls []) := by
          intro n
          induction n with
          | zero => intro y4_42 y5_42 y6_42 z_far_42 o H locs ls hf; exact (ob_n hf).elim
          | succ n ih =>
            intro y4_42 y5_42 y6_42 z_far_42 o H locs ls hf hP hS hl kk
            rw [f_X11_arms_42_s] at hf
            refine lv_iload hx hb dX11_arms_42 (lv_at hl 6 rfl) ?_
            refine lv_iconst (v := 1) hx hb dX11_arms_44 (by decide) ?_
            refine lv_aload_n hx hb dX11_arms_45 rfl (lv_at hl 0 rfl) ?_
            refine gf_X11_63 Cx hP 0 rfl rfl dX11_arms_46 ?_
            refine lv_iconst (v := 1) hx hb dX11_arms_49 (by decide) ?_
            refine lv_isub hx hb dX11_arms_50 ?_
            refine lv_ishl hx hb dX11_arms_51 ?_
            refine lv_icmp_ge (tgt := 127) hx hb dX11_arms_52 (by decide) (fun c8 => ?_) (fun c8 => ?_)
            · have hf := ob_t c8 hf
              obtain rfl := Option.some.inj hf
              exact kk _ _ _ hP hS (lv_sub hl [0, 3, 4, 5] rfl)
            · have hf := ob_f c8 hf
              refine lv_iload hx hb dX11_arms_55 (lv_at hl 6 rfl) ?_
              obtain ⟨u9, hu9, hf⟩ := ob_b hf
              refine iv_X11_144 (As := [.int y6_42]) (rest := []) (is := []) (X' := [(a_t, .inr (11, [.ref a_signs, .int v_signMany, .int v_seats, .ref a_links, .ref a_worths, .int v_bearIs, .ref a_far, .ref a_mays, .ref a_rowsTo, .ref a_endIn, .long v_rowsAll, .ref a_ends, .ref a_pairSets, .ref a_awayIn, .ref a_now, .ref a_then, .long v_awayUpper, .long v_lower, .ref a_comers, .int v_comerMany, .ref a_seen, .ref a_seenMany, .int v_seenRows, .ref a_kept, .ref a_isKept, .int v_place, .int v_isWriting])), (a_far, eI cI 144 z_far_42), (a_links, eI cI 12 v_links), (a_worths, eI cI 12 v_worths)]) Cx (c_X11_ones l D cI cJ cZ cO  y6_42 u9 hu9) hP hS rfl rfl rfl rfl rfl rfl hl.1 (Nat.le_of_ble_eq_true rfl) dX11_arms_57 rfl rfl ⟨Nat.le_of_ble_eq_true rfl, Nat.le_of_ble_eq_true rfl⟩ ⟨Nat.zero_le _, Nat.zero_le _⟩ rfl (fun H locs hP hS => ?_)
              refine lv_iload_n hx hb dX11_arms_60 rfl (lv_at hl 2 rfl) ?_
              refine ob_J (P := fun w10 => ∀ (H : Heap) (locs : List Loc) (ls : Array Slot), va_P D vwCl [(a_t, .inr (11, [.ref a_signs, .int v_signMany, .int v_seats, .ref a_links, .ref a_worths, .int v_bearIs, .ref a_far, .ref a_mays, .ref a_rowsTo, .ref a_endIn, .long v_rowsAll, .ref a_ends, .ref a_pairSets, .ref a_awayIn, .ref a_now, .ref a_then, .long v_awayUpper, .long v_lower, .ref a_comers, .int v_comerMany, .ref a_seen, .ref a_seenMany, .int v_seenRows, .ref a_kept, .ref a_isKept, .int v_place, .int v_isWriting])), (a_far, eI cI 144 w10.2.2), (a_links, eI cI 12 v_links), (a_worths, eI cI 12 v_worths)] H → va_S A s.heap H locs → lv_has ls 8 [(0, .ref a_t), (1, .int x1), (2, .int x2), (3, .int x3), (4, .int w10.1), (5, .int w10.2.1), (6, .int y6_42)] → W p l e { frames := 5, cells := 0, slots := 0, locals := 120 } s m args below meth c H locs 0 0 Q (F0 m 121 ls [])) hf ?_ ?_
              · intro w10 hf H locs ls hP hS hl
                refine lv_iinc (v := (y6_42 + 1)) (lv' := [(6, .int (y6_42 + 1)), (0, .ref a_t), (1, .int x1), (2, .int x2), (3, .int x3), (4, .int w10.1), (5, .int w10.2.1)]) hx hb dX11_arms_121 hl (k := 6) rfl rfl (by decide) rfl (fun ls hl => ?_)
                refine lv_goto (tgt := 42) hx hb dX11_arms_124 (by decide) ?_
                exact ih w10.1 w10.2.1 (y6_42 + 1) w10.2.2 _ _ _ _ hf hP hS (lv_sub hl [1, 2, 3, 4, 5, 6, 0] rfl) kk
              · intro J121_11 hf
                refine lv_icmp_gt (tgt := 121) hx hb dX11_arms_61 (by decide) (fun c12 => ?_) (fun c12 => ?_)
                · have hf := ob_tk c12 hf
                  exact J121_11 (y4_42, y5_42, z_far_42) hf _ _ _ hP hS (lv_sub hl [0, 1, 2, 3, 4, 5, 6] rfl)
                · have hf := ob_fk c12 hf
                  refine lv_aload_n hx hb dX11_arms_64 rfl (lv_at hl 0 rfl) ?_
                  refine lv_iload hx hb dX11_arms_65 (lv_at hl 6 rfl) ?_
                  obtain ⟨u13, hu13, hf⟩ := ob_bk hf
                  refine iv_X11_70 (As := [.int y6_42]) (rest := []) (is := [0, 1, 2]) (q0 := 0) (X' := [(a_t, .inr (11, [.ref a_signs, .int v_signMany, .int v_seats, .ref a_links, .ref a_worths, .int v_bearIs, .ref a_far, .ref a_mays, .ref a_rowsTo, .ref a_endIn, .long v_rowsAll, .ref a_ends, .ref a_pairSets, .ref a_awayIn, .ref a_now, .ref a_then, .long v_awayUpper, .long v_lower, .ref a_comers, .int v_comerMany, .ref a_seen, .ref a_seenMany, .int v_seenRows, .ref a_kept, .ref a_isKept, .int v_place, .int v_isWriting])), (a_far, eI cI 144 u13), (a_links, eI cI 12 v_links), (a_worths, eI cI 12 v_worths)]) Cx (c_X11_findFar l D cI cJ cZ cO a_t a_signs a_links a_worths a_far a_mays a_rowsTo a_endIn a_ends a_pairSets a_awayIn a_now a_then a_comers a_seen a_seenMany a_kept a_isKept v_signMany v_seats v_bearIs v_rowsAll v_awayUpper v_lower v_comerMany v_seenRows v_place v_isWriting z_far_42 v_links y6_42 u13 hu13) hP hS rfl rfl rfl rfl rfl rfl rfl hl.1 (Nat.le_of_ble_eq_true rfl) dX11_arms_67 rfl rfl ⟨Nat.le_of_ble_eq_true rfl, Nat.le_of_ble_eq_true rfl⟩ ⟨Nat.zero_le _, Nat.zero_le _⟩ rfl (fun H locs hP hS => ?_)
                  refine lv_aload_n hx hb dX11_arms_70 rfl (lv_at hl 0 rfl) ?_
                  refine lv_iconst (v := 0) hx hb dX11_arms_71 (by decide) ?_
                  refine lv_iload_n hx hb dX11_arms_72 rfl (lv_at hl 1 rfl) ?_
                  obtain ⟨u14, hu14, hf⟩ := ob_bk hf
                  refine iv_X11_136 (As := [.int (0 : Int32), .int x1]) (rest := []) (is := [0, 1, 3]) (q0 := 0) (X' := [(a_t, .inr (11, [.ref a_signs, .int v_signMany, .int v_seats, .ref a_links, .ref a_worths, .int v_bearIs, .ref a_far, .ref a_mays, .ref a_rowsTo, .ref a_endIn, .long v_rowsAll, .ref a_ends, .ref a_pairSets, .ref a_awayIn, .ref a_now, .ref a_then, .long v_awayUpper, .long v_lower, .ref a_comers, .int v_comerMany, .ref a_seen, .ref a_seenMany, .int v_seenRows, .ref a_kept, .ref a_isKept, .int v_place, .int v_isWriting])), (a_far, eI cI 144 u13), (a_links, eI cI 12 v_links), (a_worths, eI cI 12 v_worths)]) Cx (c_X11_filledBy l D cI cJ cZ cO a_t a_signs a_links a_worths a_far a_mays a_rowsTo a_endIn a_ends a_pairSets a_awayIn a_now a_then a_comers a_seen a_seenMany a_kept a_isKept v_signMany v_seats v_bearIs v_rowsAll v_awayUpper v_lower v_comerMany v_seenRows v_place v_isWriting u13 v_worths (0 : Int32) x1 u14 hu14) hP hS rfl rfl rfl rfl rfl rfl rfl hl.1 (Nat.le_of_ble_eq_true rfl) dX11_arms_73 rfl rfl ⟨Nat.le_of_ble_eq_true rfl, Nat.le_of_ble_eq_true rfl⟩ ⟨Nat.zero_le _, Nat.zero_le _⟩ rfl (fun H locs hP hS => ?_)
                  obtain ⟨u15, hu15, hf⟩ := ob_bk hf
                  refine iv_X11_144 (As := [.int u14]) (rest := []) (is := []) (X' := [(a_t, .inr (11, [.ref a_signs, .int v_signMany, .int v_seats, .ref a_links, .ref a_worths, .int v_bearIs, .ref a_far, .ref a_mays, .ref a_rowsTo, .ref a_endIn, .long v_rowsAll, .ref a_ends, .ref a_pairSets, .ref a_awayIn, .ref a_now, .ref a_then, .long v_awayUpper, .long v_lower, .ref a_comers, .int v_comerMany, .ref a_seen, .ref a_seenMany, .int v_seenRows, .ref a_kept, .ref a_isKept, .int v_place, .int v_isWriting])), (a_far, eI cI 144 u13), (a_links, eI cI 12 v_links), (a_worths, eI cI 12 v_worths)]) Cx (c_X11_ones l D cI cJ cZ cO  u14 u15 hu15) hP hS rfl rfl rfl rfl rfl rfl hl.1 (Nat.le_of_ble_eq_true rfl) dX11_arms_76 rfl rfl ⟨Nat.le_of_ble_eq_true rfl, Nat.le_of_ble_eq_true rfl⟩ ⟨Nat.zero_le _, Nat.zero_le _⟩ rfl (fun H locs hP hS => ?_)
                  refine lv_istore (lv' := [(7, .int u15), (0, .ref a_t), (1, .int x1), (2, .int x2), (3, .int x3), (4, .int y4_42), (5, .int y5_42), (6, .int y6_42)]) hx hb dX11_arms_79 hl (by decide) rfl (fun ls hl => ?_)
                  refine lv_iload hx hb dX11_arms_81 (lv_at hl 5 rfl) ?_
                  refine lv_if_lt (tgt := 113) hx hb dX11_arms_83 (by decide) (fun c16 => ?_) (fun c16 => ?_)
                  · have hf := ob_tk c16 hf
                    refine lv_iload hx hb dX11_arms_113 (lv_at hl 7 rfl) ?_
                    refine lv_istore (lv' := [(4, .int y6_42), (7, .int u15), (0, .ref a_t), (1, .int x1), (2, .int x2), (3, .int x3), (5, .int y5_42), (6, .int y6_42)]) hx hb dX11_arms_115 hl (by decide) rfl (fun ls hl => ?_)
                    refine lv_iload hx hb dX11_arms_117 (lv_at hl 1 rfl) ?_
                    refine lv_istore (lv' := [(5, .int u15), (4, .int y6_42), (7, .int u15), (0, .ref a_t), (1, .int x1), (2, .int x2), (3, .int x3), (6, .int y6_42)]) hx hb dX11_arms_119 hl (by decide) rfl (fun ls hl => ?_)
                    exact J121_11 (y6_42, u15, u13) hf _ _ _ hP hS (lv_sub hl [3, 4, 5, 6, 1, 0, 7] rfl)
                  · have hf := ob_fk c16 hf
                    refine lv_iload hx hb dX11_arms_86 (lv_at hl 0 rfl) ?_
                    refine lv_iload hx hb dX11_arms_88 (lv_at hl 6 rfl) ?_
                    refine lv_icmp_gt (tgt := 113) hx hb dX11_arms_90 (by decide) (fun c17 => ?_) (fun c17 => ?_)
                    · have hf := ob_tk c17 hf
                      refine lv_iload hx hb dX11_arms_113 (lv_at hl 7 rfl) ?_
                      refine lv_istore (lv' := [(4, .int y6_42), (7, .int u15), (0, .ref a_t), (1, .int x1), (2, .int x2), (3, .int x3), (5, .int y5_42), (6, .int y6_42)]) hx hb dX11_arms_115 hl (by decide) rfl (fun ls hl => ?_)
                      refine lv_iload hx hb dX11_arms_117 (lv_at hl 1 rfl) ?_
                      refine lv_istore (lv' := [(5, .int u15), (4, .int y6_42), (7, .int u15), (0, .ref a_t), (1, .int x1), (2, .int x2), (3, .int x3), (6, .int y6_42)]) hx hb dX11_arms_119 hl (by decide) rfl (fun ls hl => ?_)
                      exact J121_11 (y6_42, u15, u13) hf _ _ _ hP hS (lv_sub hl [3, 4, 5, 6, 1, 0, 7] rfl)
                    · have hf := ob_fk c17 hf
                      refine lv_iload hx hb dX11_arms_93 (lv_at hl 0 rfl) ?_
                      refine lv_iload hx hb dX11_arms_95 (lv_at hl 6 rfl) ?_
                      refine lv_icmp_ne (tgt := 121) hx hb dX11_arms_97 (by decide) (fun c18 => ?_) (fun c18 => ?_)
                      · have hf := ob_fk c18 hf
                        exact J121_11 (y4_42, y5_42, u13) hf _ _ _ hP hS (lv_sub hl [1, 2, 3, 4, 5, 6, 7] rfl)
                      · have hf := ob_tk c18 hf
                        refine lv_iload hx hb dX11_arms_100 (lv_at hl 7 rfl) ?_
                        obtain ⟨u19, hu19, hf⟩ := ob_bk hf
                        refine iv_X11_144 (As := [.int y6_42]) (rest := []) (is := []) (X' := [(a_t, .inr (11, [.ref a_signs, .int v_signMany, .int v_seats, .ref a_links, .ref a_worths, .int v_bearIs, .ref a_far, .ref a_mays, .ref a_rowsTo, .ref a_endIn, .long v_rowsAll, .ref a_ends, .ref a_pairSets, .ref a_awayIn, .ref a_now, .ref a_then, .long v_awayUpper, .long v_lower, .ref a_comers, .int v_comerMany, .ref a_seen, .ref a_seenMany, .int v_seenRows, .ref a_kept, .ref a_isKept, .int v_place, .int v_isWriting])), (a_far, eI cI 144 u13), (a_links, eI cI 12 v_links), (a_worths, eI cI 12 v_worths)]) Cx (c_X11_ones l D cI cJ cZ cO  y6_42 u19 hu19) hP hS rfl rfl rfl rfl rfl rfl hl.1 (Nat.le_of_ble_eq_true rfl) dX11_arms_102 rfl rfl ⟨Nat.le_of_ble_eq_true rfl, Nat.le_of_ble_eq_true rfl⟩ ⟨Nat.zero_le _, Nat.zero_le _⟩ rfl (fun H locs hP hS => ?_)
                        refine lv_iload hx hb dX11_arms_105 (lv_at hl 5 rfl) ?_
                        obtain ⟨u20, hu20, hf⟩ := ob_bk hf
                        refine iv_X11_144 (As := [.int y4_42]) (rest := [.int u19]) (is := []) (X' := [(a_t, .inr (11, [.ref a_signs, .int v_signMany, .int v_seats, .ref a_links, .ref a_worths, .int v_bearIs, .ref a_far, .ref a_mays, .ref a_rowsTo, .ref a_endIn, .long v_rowsAll, .ref a_ends, .ref a_pairSets, .ref a_awayIn, .ref a_now, .ref a_then, .long v_awayUpper, .long v_lower, .ref a_comers, .int v_comerMany, .ref a_seen, .ref a_seenMany, .int v_seenRows, .ref a_kept, .ref a_isKept, .int v_place, .int v_isWriting])), (a_far, eI cI 144 u13), (a_links, eI cI 12 v_links), (a_worths, eI cI 12 v_worths)]) Cx (c_X11_ones l D cI cJ cZ cO  y4_42 u20 hu20) hP hS rfl rfl rfl rfl rfl rfl hl.1 (Nat.le_of_ble_eq_true rfl) dX11_arms_107 rfl rfl ⟨Nat.le_of_ble_eq_true rfl, Nat.le_of_ble_eq_true rfl⟩ ⟨Nat.zero_le _, Nat.zero_le _⟩ rfl (fun H locs hP hS => ?_)
                        refine lv_icmp_ge (tgt := 121) hx hb dX11_arms_110 (by decide) (fun c21 => ?_) (fun c21 => ?_)
                        · have hf := ob_tk c21 hf
                          exact J121_11 (y4_42, y5_42, u13) hf _ _ _ hP hS (lv_sub hl [1, 2, 3, 4, 5, 6, 7] rfl)
                        · have hf := ob_fk c21 hf
                          refine lv_iload hx hb dX11_arms_113 (lv_at hl 7 rfl) ?_
                          refine lv_istore (lv' := [(4, .int y6_42), (7, .int u15), (0, .ref a_t), (1, .int x1), (2, .int x2), (3, .int x3), (5, .int y5_42), (6, .int y6_42)]) hx hb dX11_arms_115 hl (by decide) rfl (fun ls hl => ?_)
                          refine lv_iload hx hb dX11_arms_117 (lv_at hl 1 rfl) ?_
                          refine lv_istore (lv' := [(5, .int u15), (4, .int y6_42), (7, .int u15), (0, .ref a_t), (1, .int x1), (2, .int x2), (3, .int x3), (6, .int y6_42)]) hx hb dX11_arms_119 hl (by decide) rfl (fun ls hl => ?_)
                          exact J121_11 (y6_42, u15, u13) hf _ _ _ hP hS (lv_sub hl [3, 4, 5, 6, 1, 0, 7] rfl)
        obtain ⟨u22, hu22, hf⟩ := ob_b hf
        refine L42_7 FU (-6 : Int32) (0 : Int32) (0 : Int32) v_far u22 _ _ _ hu22 hP hS (lv_sub hl [3, 4, 5, 6, 2, 1, 0] rfl) ?_
        intro H locs ls hP hS hl
        refine lv_aload_n hx hb dX11_arms_127 rfl (lv_at hl 0 rfl) ?_
        refine lv_iconst (v := 0) hx hb dX11_arms_128 (by decide) ?_
        obtain ⟨u23, hu23, hf⟩ := ob_b hf
        refine iv_X11_70 (As := [.int (0 : Int32)]) (rest := []) (is := [0, 1, 2]) (q0 := 0) (X' := [(a_t, .inr (11, [.ref a_signs, .int v_signMany, .int v_seats, .ref a_links, .ref a_worths, .int v_bearIs, .ref a_far, .ref a_mays, .ref a_rowsTo, .ref a_endIn, .long v_rowsAll, .ref a_ends, .ref a_pairSets, .ref a_awayIn, .ref a_now, .ref a_then, .long v_awayUpper, .long v_lower, .ref a_comers, .int v_comerMany, .ref a_seen, .ref a_seenMany, .int v_seenRows, .ref a_kept, .ref a_isKept, .int v_place, .int v_isWriting])), (a_far, eI cI 144 u23), (a_links, eI cI 12 v_links), (a_worths, eI cI 12 v_worths)]) Cx (c_X11_findFar l D cI cJ cZ cO a_t a_signs a_links a_worths a_far a_mays a_rowsTo a_endIn a_ends a_pairSets a_awayIn a_now a_then a_comers a_seen a_seenMany a_kept a_isKept v_signMany v_seats v_bearIs v_rowsAll v_awayUpper v_lower v_comerMany v_seenRows v_place v_isWriting u22.2.2 v_links (0 : Int32) u23 hu23) hP hS rfl rfl rfl rfl rfl rfl rfl hl.1 (Nat.le_of_ble_eq_true rfl) dX11_arms_129 rfl rfl ⟨Nat.le_of_ble_eq_true rfl, Nat.le_of_ble_eq_true rfl⟩ ⟨Nat.zero_le _, Nat.zero_le _⟩ rfl (fun H locs hP hS => ?_)
        refine lv_iload_n hx hb dX11_arms_132 rfl (lv_at hl 1 rfl) ?_
        refine ob_J (P := fun w24 => ∀ (H : Heap) (locs : List Loc) (ls : Array Slot), va_P D vwCl [(a_t, .inr (11, [.ref a_signs, .int v_signMany, .int v_seats, .ref a_links, .ref a_worths, .int v_bearIs, .ref a_far, .ref a_mays, .ref a_rowsTo, .ref a_endIn, .long v_rowsAll, .ref a_ends, .ref a_pairSets, .ref a_awayIn, .ref a_now, .ref a_then, .long v_awayUpper, .long v_lower, .ref a_comers, .int v_comerMany, .ref a_seen, .ref a_seenMany, .int v_seenRows, .ref a_kept, .ref a_isKept, .int v_place, .int v_isWriting])), (a_far, eI cI 144 u23), (a_links, eI cI 12 v_links), (a_worths, eI cI 12 v_worths)] H → va_S A s.heap H locs → lv_has ls 8 [] → W p l e { frames := 5, cells := 0, slots := 0, locals := 120 } s m args below meth c H locs 0 0 Q (F0 m 143 ls [.int w24])) hf ?_ ?_
        · intro w24 hf H locs ls hP hS hl
          obtain rfl := Option.some.inj hf
          exact ret _ _ _ _ dX11_arms_143 hP hS
        · intro J143_25 hf
          refine lv_if_ne (tgt := 141) hx hb dX11_arms_133 (by decide) (fun c26 => ?_) (fun c26 => ?_)
          · have hf := ob_fk c26 hf
            refine lv_iload hx hb dX11_arms_141 (lv_at hl 3 rfl) ?_
            exact J143_25 u22.2.1 hf _ _ _ hP hS (lv_sub hl [] rfl)
          · have hf := ob_tk c26 hf
            refine lv_iload hx hb dX11_arms_136 (lv_at hl 2 rfl) ?_
            refine lv_goto (tgt := 143) hx hb dX11_arms_138 (by decide) ?_
            exact J143_25 u22.1 hf _ _ _ hP hS (lv_sub hl [] rfl)
      · have hf := ob_t c6 hf
        refine lv_bipush (v := (-2)) hx hb dX11_arms_29 (by decide) ?_
        obtain rfl := Option.some.inj hf
        exact ret _ _ _ _ dX11_arms_31 hP hS

def f_X11_rests_23 (v_seats : Int32) (v_bearIs : Int32) (v_links : Nat → Int32) (x1 : Int32) : Nat → Int32 → Int64 → Int32 → Int64 → (Nat → Int32) → (Nat → Int32) → (Nat → Int64) → (Nat → Int64) → Option (Int32 × Int64 × (Nat → Int32) × (Nat → Int32) × (Nat → Int64) × (Nat → Int64))
  | 0, _, _, _, _, _, _, _, _ => none
  | n + 1, y2_23, y3_23, y5_23, z_rowsAll_23, z_far_23, z_mays_23, z_endIn_23, z_rowsTo_23 =>
  if ((1 : Int32) <<< ((v_seats - (1 : Int32)) &&& 31)) ≤ y5_23 then
  some (y2_23, z_rowsAll_23, z_far_23, z_mays_23, z_endIn_23, z_rowsTo_23)
  else
  (f_X11_ones y5_23).bind (fun u5 =>
  (if x1 < u5 then
  some (y2_23, y3_23, z_rowsAll_23, z_far_23, z_mays_23, z_endIn_23, z_rowsTo_23)
  else
  (f_X11_findFar v_seats z_far_23 v_links y5_23).bind (fun u9 =>
  (f_X11_findAny v_seats v_bearIs u9 z_mays_23 z_endIn_23 z_rowsTo_23).bind (fun u10 =>
  (f_X11_meanUpper u10.2.2.1).bind (fun u11 =>
  if y2_23 < 0 then
  some (y5_23, u11, u10.1, u9, u10.2.1, u10.2.2.1, u10.2.2.2)
  else
  if 0 < (lg_cmp u11 y3_23) then
  some (y5_23, u11, u10.1, u9, u10.2.1, u10.2.2.1, u10.2.2.2)
  else
  if (lg_cmp u11 y3_23) = 0 then
  (f_X11_ones y5_23).bind (fun u15 =>
  (f_X11_ones y2_23).bind (fun u16 =>
  if u16 ≤ u15 then
  some (y2_23, y3_23, u10.1, u9, u10.2.1, u10.2.2.1, u10.2.2.2)
  else
  some (y5_23, u11, u10.1, u9, u10.2.1, u10.2.2.1, u10.2.2.2)))
  else
  some (y2_23, y3_23, u10.1, u9, u10.2.1, u10.2.2.1, u10.2.2.2))))).bind (fun w6 =>
  f_X11_rests_23 v_seats v_bearIs v_links x1 n w6.1 w6.2.1 (y5_23 + 1) w6.2.2.1 w6.2.2.2.1 w6.2.2.2.2.1 w6.2.2.2.2.2.1 w6.2.2.2.2.2.2))
theorem f_X11_rests_23_s (v_seats : Int32) (v_bearIs : Int32) (v_links : Nat → Int32) (x1 : Int32) (n : Nat) (y2_23 : Int32) (y3_23 : Int64) (y5_23 : Int32) (z_rowsAll_23 : Int64) (z_far_23 : Nat → Int32) (z_mays_23 : Nat → Int32) (z_endIn_23 : Nat → Int64) (z_rowsTo_23 : Nat → Int64) : f_X11_rests_23 v_seats v_bearIs v_links x1 (n + 1) y2_23 y3_23 y5_23 z_rowsAll_23 z_far_23 z_mays_23 z_endIn_23 z_rowsTo_23 =
  (if ((1 : Int32) <<< ((v_seats - (1 : Int32)) &&& 31)) ≤ y5_23 then
  some (y2_23, z_rowsAll_23, z_far_23, z_mays_23, z_endIn_23, z_rowsTo_23)
  else
  (f_X11_ones y5_23).bind (fun u5 =>
  (if x1 < u5 then
  some (y2_23, y3_23, z_rowsAll_23, z_far_23, z_mays_23, z_endIn_23, z_rowsTo_23)
  else
  (f_X11_findFar v_seats z_far_23 v_links y5_23).bind (fun u9 =>
  (f_X11_findAny v_seats v_bearIs u9 z_mays_23 z_endIn_23 z_rowsTo_23).bind (fun u10 =>
  (f_X11_meanUpper u10.2.2.1).bind (fun u11 =>
  if y2_23 < 0 then
  some (y5_23, u11, u10.1, u9, u10.2.1, u10.2.2.1, u10.2.2.2)
  else
  if 0 < (lg_cmp u11 y3_23) then
  some (y5_23, u11, u10.1, u9, u10.2.1, u10.2.2.1, u10.2.2.2)
  else
  if (lg_cmp u11 y3_23) = 0 then
  (f_X11_ones y5_23).bind (fun u15 =>
  (f_X11_ones y2_23).bind (fun u16 =>
  if u16 ≤ u15 then
  some (y2_23, y3_23, u10.1, u9, u10.2.1, u10.2.2.1, u10.2.2.2)
  else
  some (y5_23, u11, u10.1, u9, u10.2.1, u10.2.2.1, u10.2.2.2)))
  else
  some (y2_23, y3_23, u10.1, u9, u10.2.1, u10.2.2.1, u10.2.2.2))))).bind (fun w6 =>
  f_X11_rests_23 v_seats v_bearIs v_links x1 n w6.1 w6.2.1 (y5_23 + 1) w6.2.2.1 w6.2.2.2.1 w6.2.2.2.2.1 w6.2.2.2.2.2.1 w6.2.2.2.2.2.2))) := rfl
def f_X11_rests (v_seats : Int32) (v_bearIs : Int32) (v_rowsAll : Int64) (v_far : Nat → Int32) (v_links : Nat → Int32) (v_mays : Nat → Int32) (v_endIn : Nat → Int64) (v_rowsTo : Nat → Int64) (x1 : Int32) : Option (Int32 × Int64 × (Nat → Int32) × (Nat → Int32) × (Nat → Int64) × (Nat → Int64)) :=
  (f_X11_in ((x1).toInt64) (0 : Int64) (3 : Int64)).bind (fun u1 =>
  if u1 = 0 then
  some ((-2 : Int32), v_rowsAll, v_far, v_mays, v_endIn, v_rowsTo)
  else
  (f_X11_rests_23 v_seats v_bearIs v_links x1 FU (-6 : Int32) (0 : Int64) (0 : Int32) v_rowsAll v_far v_mays v_endIn v_rowsTo).bind (fun u18 =>
  (f_X11_findFar v_seats u18.2.2.1 v_links (0 : Int32)).bind (fun u19 =>
  some (u18.1, u18.2.1, u19, u18.2.2.2.1, u18.2.2.2.2.1, u18.2.2.2.2.2))))
set_option maxHeartbeats 4000000 in
set_option maxRecDepth 100000 in
theorem c_X11_rests (l : Launch) (D : va_G) (cI cJ cZ cO : ClassId) (a_t a_signs a_links a_worths a_far a_mays a_rowsTo a_endIn a_ends a_pairSets a_awayIn a_now a_then a_comers a_seen a_seenMany a_kept a_isKept : Nat) (v_signMany : Int32) (v_seats : Int32) (v_bearIs : Int32) (v_rowsAll : Int64) (v_awayUpper : Int64) (v_lower : Int64) (v_comerMany : Int32) (v_seenRows : Int32) (v_place : Int32) (v_isWriting : Int32) (v_far : Nat → Int32) (v_links : Nat → Int32) (v_mays : Nat → Int32) (v_endIn : Nat → Int64) (v_rowsTo : Nat → Int64) (x1 : Int32) (out : Int32 × Int64 × (Nat → Int32) × (Nat → Int32) × (Nat → Int64) × (Nat → Int64)) (hf : f_X11_rests v_seats v_bearIs v_rowsAll v_far v_links v_mays v_endIn v_rowsTo x1 = some out) : MetR l yX11_rests (Cond.code yX11_rests cX11_rests 8 (some .int) :: tbG) { frames := 5, cells := 0, slots := 0, locals := 115 } D (tyL cI cJ cZ cO) [.ref a_t, .int x1] [(a_t, .inr (11, [.ref a_signs, .int v_signMany, .int v_seats, .ref a_links, .ref a_worths, .int v_bearIs, .ref a_far, .ref a_mays, .ref a_rowsTo, .ref a_endIn, .long v_rowsAll, .ref a_ends, .ref a_pairSets, .ref a_awayIn, .ref a_now, .ref a_then, .long v_awayUpper, .long v_lower, .ref a_comers, .int v_comerMany, .ref a_seen, .ref a_seenMany, .int v_seenRows, .ref a_kept, .ref a_isKept, .int v_place, .int v_isWriting])), (a_far, eI cI 144 v_far), (a_links, eI cI 12 v_links), (a_mays, eI cI 4096 v_mays), (a_endIn, eJ cJ 13 v_endIn), (a_rowsTo, eJ cJ 4096 v_rowsTo)] (some (.int out.1)) [(a_t, .inr (11, [.ref a_signs, .int v_signMany, .int v_seats, .ref a_links, .ref a_worths, .int v_bearIs, .ref a_far, .ref a_mays, .ref a_rowsTo, .ref a_endIn, .long out.2.1, .ref a_ends, .ref a_pairSets, .ref a_awayIn, .ref a_now, .ref a_then, .long v_awayUpper, .long v_lower, .ref a_comers, .int v_comerMany, .ref a_seen, .ref a_seenMany, .int v_seenRows, .ref a_kept, .ref a_isKept, .int v_place, .int v_isWriting])), (a_far, eI cI 144 out.2.2.1), (a_links, eI cI 12 v_links), (a_mays, eI cI 4096 out.2.2.2.1), (a_endIn, eJ cJ 13 out.2.2.2.2.1), (a_rowsTo, eJ cJ 4096 out.2.2.2.2.2)] := by
  refine ba_ofI RX11 [(0, .ref a_t), (1, .int x1)] (by decide +kernel) rfl (Nat.le_of_ble_eq_true rfl) rfl ?_
  intro p e s m args below meth c Q A Cx hP ret ls hl
  obtain ⟨⟨hx, hb, hml, hown, hts⟩, hK, hD, hA⟩ := id Cx
  have hS : va_S A s.heap s.heap [] := va_S.rf
  unfold f_X11_rests at hf
  refine lv_iload_n hx hb dX11_rests_0 rfl (lv_at hl 1 rfl) ?_
  refine lv_i2l (v := (x1).toInt64) hx hb dX11_rests_1 rfl ?_
  refine lv_lconst (v := 0) hx hb dX11_rests_2 (by decide) ?_
  refine lv_ldc2 hx hb hown (hts _ kw_929) dX11_rests_3 ?_
  obtain ⟨u1, hu1, hf⟩ := ob_b hf
  refine iv_X11_74 (As := [.long ((x1).toInt64), .long (0 : Int64), .long (3 : Int64)]) (rest := []) (is := []) (X' := [(a_t, .inr (11, [.ref a_signs, .int v_signMany, .int v_seats, .ref a_links, .ref a_worths, .int v_bearIs, .ref a_far, .ref a_mays, .ref a_rowsTo, .ref a_endIn, .long v_rowsAll, .ref a_ends, .ref a_pairSets, .ref a_awayIn, .ref a_now, .ref a_then, .long v_awayUpper, .long v_lower, .ref a_comers, .int v_comerMany, .ref a_seen, .ref a_seenMany, .int v_seenRows, .ref a_kept, .ref a_isKept, .int v_place, .int v_isWriting])), (a_far, eI cI 144 v_far), (a_links, eI cI 12 v_links), (a_mays, eI cI 4096 v_mays), (a_endIn, eJ cJ 13 v_endIn), (a_rowsTo, eJ cJ 4096 v_rowsTo)]) Cx (c_X11_in l D cI cJ cZ cO  ((x1).toInt64) (0 : Int64) (3 : Int64) u1 hu1) hP hS rfl rfl rfl rfl rfl rfl hl.1 (Nat.le_of_ble_eq_true rfl) dX11_rests_6 rfl rfl ⟨Nat.le_of_ble_eq_true rfl, Nat.le_of_ble_eq_true rfl⟩ ⟨Nat.zero_le _, Nat.zero_le _⟩ rfl (fun H locs hP hS => ?_)
  refine lv_if_ne (tgt := 15) hx hb dX11_rests_9 (by decide) (fun c2 => ?_) (fun c2 => ?_)
  · have hf := ob_f c2 hf
    refine lv_bipush (v := (-6)) hx hb dX11_rests_15 (by decide) ?_
    refine lv_istore_n (lv' := [(2, .int (-6 : Int32)), (0, .ref a_t), (1, .int x1)]) hx hb dX11_rests_17 rfl hl (by decide) rfl (fun ls hl => ?_)
    refine lv_lconst (v := 0) hx hb dX11_rests_18 (by decide) ?_
    refine lv_lstore_n (lv' := [(3, .long (0 : Int64)), (2, .int (-6 : Int32)), (0, .ref a_t), (1, .int x1)]) hx hb dX11_rests_19 rfl hl (by decide) rfl (fun ls hl => ?_)
    refine lv_iconst (v := 0) hx hb dX11_rests_20 (by decide) ?_
    refine lv_istore (lv' := [(5, .int (0 : Int32)), (3, .long (0 : Int64)), (2, .int (-6 : Int32)), (0, .ref a_t), (1, .int x1)]) hx hb dX11_rests_21 hl (by decide) rfl (fun ls hl => ?_)
    have L23_3 : ∀ (n : Nat) (y2_23 : Int32) (y3_23 : Int64) (y5_23 : Int32) (z_rowsAll_23 : Int64) (z_far_23 : Nat → Int32) (z_mays_23 : Nat → Int32) (z_endIn_23 : Nat → Int64) (z_rowsTo_23 : Nat → Int64) (o : Int32 × Int64 × (Nat → Int32) × (Nat → Int32) × (Nat → Int64) × (Nat → Int64)) (H : Heap) (locs : List Loc) (ls : Array Slot), f_X11_rests_23 v_seats v_bearIs v_links x1 n y2_23 y3_23 y5_23 z_rowsAll_23 z_far_23 z_mays_23 z_endIn_23 z_rowsTo_23 = some o → va_P D vwCl [(a_t, .inr (11, [.ref a_signs, .int v_signMany, .int v_seats, .ref a_links, .ref a_worths, .int v_bearIs, .ref a_far, .ref a_mays, .ref a_rowsTo, .ref a_endIn, .long z_rowsAll_23, .ref a_ends, .ref a_pairSets, .ref a_awayIn, .ref a_now, .ref a_then, .long v_awayUpper, .long v_lower, .ref a_comers, .int v_comerMany, .ref a_seen, .ref a_seenMany, .int v_seenRows, .ref a_kept, .ref a_isKept, .int v_place, .int v_isWriting])), (a_far, eI cI 144 z_far_23), (a_links, eI cI 12 v_links), (a_mays, eI cI 4096 z_mays_23), (a_endIn, eJ cJ 13 z_endIn_23), (a_rowsTo, eJ cJ 4096 z_rowsTo_23)] H → va_S A s.heap H locs → lv_has ls 8 [(0, .ref a_t), (1, .int x1), (2, .int y2_23), (3, .long y3_23), (5, .int y5_23)] → (∀ (H : Heap) (locs : List Loc) (ls : Array Slot), va_P D vwCl [(a_t, .inr (11, [.ref a_signs, .int v_signMany, .int v_seats, .ref a_links, .ref a_worths, .int v_bearIs, .ref a_far, .ref a_mays, .ref a_rowsTo, .ref a_endIn, .long o.2.1, .ref a_ends, .ref a_pairSets, .ref a_awayIn, .ref a_now, .ref a_then, .long v_awayUpper, .long v_lower, .ref a_comers, .int v_comerMany, .ref a_seen, .ref a_seenMany, .int v_seenRows, .ref a_kept, .ref a_isKept, .int v_place, .int v_isWriting])), (a_far, eI cI 144 o.2.2.1), (a_links, eI cI 12 v_links), (a_mays, eI cI 4096 o.2.2.2.1), (a_endIn, eJ cJ 13 o.2.2.2.2.1), (a_rowsTo, eJ cJ 4096 o.2.2.2.2.2)] H → va_S A s.heap H locs → lv_has ls 8 [(0, .ref a_t), (2, .int o.1)] → W p l e { frames := 5, cells := 0, slots := 0, locals := 115 } s m args below meth c H locs 0 0 Q (F0 m 103 ls [])) → W p l e { frames := 5, cells := 0, slots := 0, locals := 115 } s m args below meth c H locs 0 0 Q (F0 m 23 ls []) := by
      intro n
      induction n with
      | zero => intro y2_23 y3_23 y5_23 z_rowsAll_23 z_far_23 z_mays_23 z_endIn_23 z_rowsTo_23 o H locs ls hf; exact (ob_n hf).elim
      | succ n ih =>
        intro y2_23 y3_23 y5_23 z_rowsAll_23 z_far_23 z_mays_23 z_endIn_23 z_rowsTo_23 o H locs ls hf hP hS hl kk
        rw [f_X11_rests_23_s] at hf
        refine lv_iload hx hb dX11_rests_23 (lv_at hl 4 rfl) ?_
        refine lv_iconst (v := 1) hx hb dX11_rests_25 (by decide) ?_
        refine lv_aload_n hx hb dX11_rests_26 rfl (lv_at hl 0 rfl) ?_
        refine gf_X11_63 Cx hP 0 rfl rfl dX11_rests_27 ?_
        refine lv_iconst (v := 1) hx hb dX11_rests_30 (by decide) ?_
        refine lv_isub hx hb dX11_rests_31 ?_
        refine lv_ishl hx hb dX11_rests_32 ?_
        refine lv_icmp_ge (tgt := 103) hx hb dX11_rests_33 (by decide) (fun c4 => ?_) (fun c4 => ?_)
        · have hf := ob_t c4 hf
          obtain rfl := Option.some.inj hf
          exact kk _ _ _ hP hS (lv_sub hl [0, 2] rfl)
        · have hf := ob_f c4 hf
          refine lv_iload hx hb dX11_rests_36 (lv_at hl 4 rfl) ?_
          obtain ⟨u5, hu5, hf⟩ := ob_b hf
          refine iv_X11_144 (As := [.int y5_23]) (rest := []) (is := []) (X' := [(a_t, .inr (11, [.ref a_signs, .int v_signMany, .int v_seats, .ref a_links, .ref a_worths, .int v_bearIs, .ref a_far, .ref a_mays, .ref a_rowsTo, .ref a_endIn, .long z_rowsAll_23, .ref a_ends, .ref a_pairSets, .ref a_awayIn, .ref a_now, .ref a_then, .long v_awayUpper, .long v_lower, .ref a_comers, .int v_comerMany, .ref a_seen, .ref a_seenMany, .int v_seenRows, .ref a_kept, .ref a_isKept, .int v_place, .int v_isWriting])), (a_far, eI cI 144 z_far_23), (a_links, eI cI 12 v_links), (a_mays, eI cI 4096 z_mays_23), (a_endIn, eJ cJ 13 z_endIn_23), (a_rowsTo, eJ cJ 4096 z_rowsTo_23)]) Cx (c_X11_ones l D cI cJ cZ cO  y5_23 u5 hu5) hP hS rfl rfl rfl rfl rfl rfl hl.1 (Nat.le_of_ble_eq_true rfl) dX11_rests_38 rfl rfl ⟨Nat.le_of_ble_eq_true rfl, Nat.le_of_ble_eq_true rfl⟩ ⟨Nat.zero_le _, Nat.zero_le _⟩ rfl (fun H locs hP hS => ?_)
          refine lv_iload_n hx hb dX11_rests_41 rfl (lv_at hl 1 rfl) ?_
          refine ob_J (P := fun w6 => ∀ (H : Heap) (locs : List Loc) (ls : Array Slot), va_P D vwCl [(a_t, .inr (11, [.ref a_signs, .int v_signMany, .int v_seats, .ref a_links, .ref a_worths, .int v_bearIs, .ref a_far, .ref a_mays, .ref a_rowsTo, .ref a_endIn, .long w6.2.2.1, .ref a_ends, .ref a_pairSets, .ref a_awayIn, .ref a_now, .ref a_then, .long v_awayUpper, .long v_lower, .ref a_comers, .int v_comerMany, .ref a_seen, .ref a_seenMany, .int v_seenRows, .ref a_kept, .ref a_isKept, .int v_place, .int v_isWriting])), (a_far, eI cI 144 w6.2.2.2.1), (a_links, eI cI 12 v_links), (a_mays, eI cI 4096 w6.2.2.2.2.1), (a_endIn, eJ cJ 13 w6.2.2.2.2.2.1), (a_rowsTo, eJ cJ 4096 w6.2.2.2.2.2.2)] H → va_S A s.heap H locs → lv_has ls 8 [(0, .ref a_t), (1, .int x1), (2, .int w6.1), (3, .long w6.2.1), (5, .int y5_23)] → W p l e { frames := 5, cells := 0, slots := 0, locals := 115 } s m args below meth c H locs 0 0 Q (F0 m 97 ls [])) hf ?_ ?_
          · intro w6 hf H locs ls hP hS hl
            refine lv_iinc (v := (y5_23 + 1)) (lv' := [(5, .int (y5_23 + 1)), (0, .ref a_t), (1, .int x1), (2, .int w6.1), (3, .long w6.2.1)]) hx hb dX11_rests_97 hl (k := 4) rfl rfl (by decide) rfl (fun ls hl => ?_)
            refine lv_goto (tgt := 23) hx hb dX11_rests_100 (by decide) ?_
            exact ih w6.1 w6.2.1 (y5_23 + 1) w6.2.2.1 w6.2.2.2.1 w6.2.2.2.2.1 w6.2.2.2.2.2.1 w6.2.2.2.2.2.2 _ _ _ _ hf hP hS (lv_sub hl [1, 2, 3, 4, 0] rfl) kk
          · intro J97_7 hf
            refine lv_icmp_gt (tgt := 97) hx hb dX11_rests_42 (by decide) (fun c8 => ?_) (fun c8 => ?_)
            · have hf := ob_tk c8 hf
              exact J97_7 (y2_23, y3_23, z_rowsAll_23, z_far_23, z_mays_23, z_endIn_23, z_rowsTo_23) hf _ _ _ hP hS (lv_sub hl [0, 1, 2, 3, 4] rfl)
            · have hf := ob_fk c8 hf
              refine lv_aload_n hx hb dX11_rests_45 rfl (lv_at hl 0 rfl) ?_
              refine lv_iload hx hb dX11_rests_46 (lv_at hl 4 rfl) ?_
              obtain ⟨u9, hu9, hf⟩ := ob_bk hf
              refine iv_X11_70 (As := [.int y5_23]) (rest := []) (is := [0, 1, 2]) (q0 := 0) (X' := [(a_t, .inr (11, [.ref a_signs, .int v_signMany, .int v_seats, .ref a_links, .ref a_worths, .int v_bearIs, .ref a_far, .ref a_mays, .ref a_rowsTo, .ref a_endIn, .long z_rowsAll_23, .ref a_ends, .ref a_pairSets, .ref a_awayIn, .ref a_now, .ref a_then, .long v_awayUpper, .long v_lower, .ref a_comers, .int v_comerMany, .ref a_seen, .ref a_seenMany, .int v_seenRows, .ref a_kept, .ref a_isKept, .int v_place, .int v_isWriting])), (a_far, eI cI 144 u9), (a_links, eI cI 12 v_links), (a_mays, eI cI 4096 z_mays_23), (a_endIn, eJ cJ 13 z_endIn_23), (a_rowsTo, eJ cJ 4096 z_rowsTo_23)]) Cx (c_X11_findFar l D cI cJ cZ cO a_t a_signs a_links a_worths a_far a_mays a_rowsTo a_endIn a_ends a_pairSets a_awayIn a_now a_then a_comers a_seen a_seenMany a_kept a_isKept v_signMany v_seats v_bearIs z_rowsAll_23 v_awayUpper v_lower v_comerMany v_seenRows v_place v_isWriting z_far_23 v_links y5_23 u9 hu9) hP hS rfl rfl rfl rfl rfl rfl rfl hl.1 (Nat.le_of_ble_eq_true rfl) dX11_rests_48 rfl rfl ⟨Nat.le_of_ble_eq_true rfl, Nat.le_of_ble_eq_true rfl⟩ ⟨Nat.zero_le _, Nat.zero_le _⟩ rfl (fun H locs hP hS => ?_)
              refine lv_aload_n hx hb dX11_rests_51 rfl (lv_at hl 0 rfl) ?_
              obtain ⟨u10, hu10, hf⟩ := ob_bk hf
              refine iv_X11_158 (As := []) (rest := []) (is := [0, 1, 3, 4, 5]) (q0 := 0) (X' := [(a_t, .inr (11, [.ref a_signs, .int v_signMany, .int v_seats, .ref a_links, .ref a_worths, .int v_bearIs, .ref a_far, .ref a_mays, .ref a_rowsTo, .ref a_endIn, .long u10.1, .ref a_ends, .ref a_pairSets, .ref a_awayIn, .ref a_now, .ref a_then, .long v_awayUpper, .long v_lower, .ref a_comers, .int v_comerMany, .ref a_seen, .ref a_seenMany, .int v_seenRows, .ref a_kept, .ref a_isKept, .int v_place, .int v_isWriting])), (a_far, eI cI 144 u9), (a_links, eI cI 12 v_links), (a_mays, eI cI 4096 u10.2.1), (a_endIn, eJ cJ 13 u10.2.2.1), (a_rowsTo, eJ cJ 4096 u10.2.2.2)]) Cx (c_X11_findAny l D cI cJ cZ cO a_t a_signs a_links a_worths a_far a_mays a_rowsTo a_endIn a_ends a_pairSets a_awayIn a_now a_then a_comers a_seen a_seenMany a_kept a_isKept v_signMany v_seats v_bearIs z_rowsAll_23 v_awayUpper v_lower v_comerMany v_seenRows v_place v_isWriting u9 z_mays_23 z_endIn_23 z_rowsTo_23 u10 hu10) hP hS rfl rfl rfl rfl rfl rfl rfl hl.1 (Nat.le_of_ble_eq_true rfl) dX11_rests_52 rfl rfl ⟨Nat.le_of_ble_eq_true rfl, Nat.le_of_ble_eq_true rfl⟩ ⟨Nat.zero_le _, Nat.zero_le _⟩ rfl (fun H locs hP hS => ?_)
              refine lv_aload_n hx hb dX11_rests_55 rfl (lv_at hl 0 rfl) ?_
              obtain ⟨u11, hu11, hf⟩ := ob_bk hf
              refine iv_X11_161 (As := []) (rest := []) (is := [0, 4]) (q0 := 0) (X' := [(a_t, .inr (11, [.ref a_signs, .int v_signMany, .int v_seats, .ref a_links, .ref a_worths, .int v_bearIs, .ref a_far, .ref a_mays, .ref a_rowsTo, .ref a_endIn, .long u10.1, .ref a_ends, .ref a_pairSets, .ref a_awayIn, .ref a_now, .ref a_then, .long v_awayUpper, .long v_lower, .ref a_comers, .int v_comerMany, .ref a_seen, .ref a_seenMany, .int v_seenRows, .ref a_kept, .ref a_isKept, .int v_place, .int v_isWriting])), (a_far, eI cI 144 u9), (a_links, eI cI 12 v_links), (a_mays, eI cI 4096 u10.2.1), (a_endIn, eJ cJ 13 u10.2.2.1), (a_rowsTo, eJ cJ 4096 u10.2.2.2)]) Cx (c_X11_meanUpper l D cI cJ cZ cO a_t a_signs a_links a_worths a_far a_mays a_rowsTo a_endIn a_ends a_pairSets a_awayIn a_now a_then a_comers a_seen a_seenMany a_kept a_isKept v_signMany v_seats v_bearIs u10.1 v_awayUpper v_lower v_comerMany v_seenRows v_place v_isWriting u10.2.2.1 u11 hu11) hP hS rfl rfl rfl rfl rfl rfl rfl hl.1 (Nat.le_of_ble_eq_true rfl) dX11_rests_56 rfl rfl ⟨Nat.le_of_ble_eq_true rfl, Nat.le_of_ble_eq_true rfl⟩ ⟨Nat.zero_le _, Nat.zero_le _⟩ rfl (fun H locs hP hS => ?_)
              refine lv_lstore (lv' := [(6, .long u11), (0, .ref a_t), (1, .int x1), (2, .int y2_23), (3, .long y3_23), (5, .int y5_23)]) hx hb dX11_rests_59 hl (by decide) rfl (fun ls hl => ?_)
              refine lv_iload_n hx hb dX11_rests_61 rfl (lv_at hl 3 rfl) ?_
              refine lv_if_lt (tgt := 91) hx hb dX11_rests_62 (by decide) (fun c12 => ?_) (fun c12 => ?_)
              · have hf := ob_tk c12 hf
                refine lv_iload hx hb dX11_rests_91 (lv_at hl 5 rfl) ?_
                refine lv_istore_n (lv' := [(2, .int y5_23), (6, .long u11), (0, .ref a_t), (1, .int x1), (3, .long y3_23), (5, .int y5_23)]) hx hb dX11_rests_93 rfl hl (by decide) rfl (fun ls hl => ?_)
                refine lv_lload hx hb dX11_rests_94 (lv_at hl 1 rfl) ?_
                refine lv_lstore_n (lv' := [(3, .long u11), (2, .int y5_23), (6, .long u11), (0, .ref a_t), (1, .int x1), (5, .int y5_23)]) hx hb dX11_rests_96 rfl hl (by decide) rfl (fun ls hl => ?_)
                exact J97_7 (y5_23, u11, u10.1, u9, u10.2.1, u10.2.2.1, u10.2.2.2) hf _ _ _ hP hS (lv_sub hl [3, 4, 1, 0, 5] rfl)
              · have hf := ob_fk c12 hf
                refine lv_lload hx hb dX11_rests_65 (lv_at hl 0 rfl) ?_
                refine lv_lload_n hx hb dX11_rests_67 rfl (lv_at hl 4 rfl) ?_
                refine W.lcmp hx hb dX11_rests_68 ?_
                refine lv_if_gt (tgt := 91) hx hb dX11_rests_69 (by decide) (fun c13 => ?_) (fun c13 => ?_)
                · have hf := ob_tk c13 hf
                  refine lv_iload hx hb dX11_rests_91 (lv_at hl 5 rfl) ?_
                  refine lv_istore_n (lv' := [(2, .int y5_23), (6, .long u11), (0, .ref a_t), (1, .int x1), (3, .long y3_23), (5, .int y5_23)]) hx hb dX11_rests_93 rfl hl (by decide) rfl (fun ls hl => ?_)
                  refine lv_lload hx hb dX11_rests_94 (lv_at hl 1 rfl) ?_
                  refine lv_lstore_n (lv' := [(3, .long u11), (2, .int y5_23), (6, .long u11), (0, .ref a_t), (1, .int x1), (5, .int y5_23)]) hx hb dX11_rests_96 rfl hl (by decide) rfl (fun ls hl => ?_)
                  exact J97_7 (y5_23, u11, u10.1, u9, u10.2.1, u10.2.2.1, u10.2.2.2) hf _ _ _ hP hS (lv_sub hl [3, 4, 1, 0, 5] rfl)
                · have hf := ob_fk c13 hf
                  refine lv_lload hx hb dX11_rests_72 (lv_at hl 0 rfl) ?_
                  refine lv_lload_n hx hb dX11_rests_74 rfl (lv_at hl 4 rfl) ?_
                  refine W.lcmp hx hb dX11_rests_75 ?_
                  refine lv_if_ne (tgt := 97) hx hb dX11_rests_76 (by decide) (fun c14 => ?_) (fun c14 => ?_)
                  · have hf := ob_fk c14 hf
                    exact J97_7 (y2_23, y3_23, u10.1, u9, u10.2.1, u10.2.2.1, u10.2.2.2) hf _ _ _ hP hS (lv_sub hl [1, 2, 3, 4, 5] rfl)
                  · have hf := ob_tk c14 hf
                    refine lv_iload hx hb dX11_rests_79 (lv_at hl 5 rfl) ?_
                    obtain ⟨u15, hu15, hf⟩ := ob_bk hf
                    refine iv_X11_144 (As := [.int y5_23]) (rest := []) (is := []) (X' := [(a_t, .inr (11, [.ref a_signs, .int v_signMany, .int v_seats, .ref a_links, .ref a_worths, .int v_bearIs, .ref a_far, .ref a_mays, .ref a_rowsTo, .ref a_endIn, .long u10.1, .ref a_ends, .ref a_pairSets, .ref a_awayIn, .ref a_now, .ref a_then, .long v_awayUpper, .long v_lower, .ref a_comers, .int v_comerMany, .ref a_seen, .ref a_seenMany, .int v_seenRows, .ref a_kept, .ref a_isKept, .int v_place, .int v_isWriting])), (a_far, eI cI 144 u9), (a_links, eI cI 12 v_links), (a_mays, eI cI 4096 u10.2.1), (a_endIn, eJ cJ 13 u10.2.2.1), (a_rowsTo, eJ cJ 4096 u10.2.2.2)]) Cx (c_X11_ones l D cI cJ cZ cO  y5_23 u15 hu15) hP hS rfl rfl rfl rfl rfl rfl hl.1 (Nat.le_of_ble_eq_true rfl) dX11_rests_81 rfl rfl ⟨Nat.le_of_ble_eq_true rfl, Nat.le_of_ble_eq_true rfl⟩ ⟨Nat.zero_le _, Nat.zero_le _⟩ rfl (fun H locs hP hS => ?_)
                    refine lv_iload_n hx hb dX11_rests_84 rfl (lv_at hl 3 rfl) ?_
                    obtain ⟨u16, hu16, hf⟩ := ob_bk hf
                    refine iv_X11_144 (As := [.int y2_23]) (rest := [.int u15]) (is := []) (X' := [(a_t, .inr (11, [.ref a_signs, .int v_signMany, .int v_seats, .ref a_links, .ref a_worths, .int v_bearIs, .ref a_far, .ref a_mays, .ref a_rowsTo, .ref a_endIn, .long u10.1, .ref a_ends, .ref a_pairSets, .ref a_awayIn, .ref a_now, .ref a_then, .long v_awayUpper, .long v_lower, .ref a_comers, .int v_comerMany, .ref a_seen, .ref a_seenMany, .int v_seenRows, .ref a_kept, .ref a_isKept, .int v_place, .int v_isWriting])), (a_far, eI cI 144 u9), (a_links, eI cI 12 v_links), (a_mays, eI cI 4096 u10.2.1), (a_endIn, eJ cJ 13 u10.2.2.1), (a_rowsTo, eJ cJ 4096 u10.2.2.2)]) Cx (c_X11_ones l D cI cJ cZ cO  y2_23 u16 hu16) hP hS rfl rfl rfl rfl rfl rfl hl.1 (Nat.le_of_ble_eq_true rfl) dX11_rests_85 rfl rfl ⟨Nat.le_of_ble_eq_true rfl, Nat.le_of_ble_eq_true rfl⟩ ⟨Nat.zero_le _, Nat.zero_le _⟩ rfl (fun H locs hP hS => ?_)
                    refine lv_icmp_ge (tgt := 97) hx hb dX11_rests_88 (by decide) (fun c17 => ?_) (fun c17 => ?_)
                    · have hf := ob_tk c17 hf
                      exact J97_7 (y2_23, y3_23, u10.1, u9, u10.2.1, u10.2.2.1, u10.2.2.2) hf _ _ _ hP hS (lv_sub hl [1, 2, 3, 4, 5] rfl)
                    · have hf := ob_fk c17 hf
                      refine lv_iload hx hb dX11_rests_91 (lv_at hl 5 rfl) ?_
                      refine lv_istore_n (lv' := [(2, .int y5_23), (6, .long u11), (0, .ref a_t), (1, .int x1), (3, .long y3_23), (5, .int y5_23)]) hx hb dX11_rests_93 rfl hl (by decide) rfl (fun ls hl => ?_)
                      refine lv_lload hx hb dX11_rests_94 (lv_at hl 1 rfl) ?_
                      refine lv_lstore_n (lv' := [(3, .long u11), (2, .int y5_23), (6, .long u11), (0, .ref a_t), (1, .int x1), (5, .int y5_23)]) hx hb dX11_rests_96 rfl hl (by decide) rfl (fun ls hl => ?_)
                      exact J97_7 (y5_23, u11, u10.1, u9, u10.2.1, u10.2.2.1, u10.2.2.2) hf _ _ _ hP hS (lv_sub hl [3, 4, 1, 0, 5] rfl)
    obtain ⟨u18, hu18, hf⟩ := ob_b hf
    refine L23_3 FU (-6 : Int32) (0 : Int64) (0 : Int32) v_rowsAll v_far v_mays v_endIn v_rowsTo u18 _ _ _ hu18 hP hS (lv_sub hl [3, 4, 2, 1, 0] rfl) ?_
    intro H locs ls hP hS hl
    refine lv_aload_n hx hb dX11_rests_103 rfl (lv_at hl 0 rfl) ?_
    refine lv_iconst (v := 0) hx hb dX11_rests_104 (by decide) ?_
    obtain ⟨u19, hu19, hf⟩ := ob_b hf
    refine iv_X11_70 (As := [.int (0 : Int32)]) (rest := []) (is := [0, 1, 2]) (q0 := 0) (X' := [(a_t, .inr (11, [.ref a_signs, .int v_signMany, .int v_seats, .ref a_links, .ref a_worths, .int v_bearIs, .ref a_far, .ref a_mays, .ref a_rowsTo, .ref a_endIn, .long u18.2.1, .ref a_ends, .ref a_pairSets, .ref a_awayIn, .ref a_now, .ref a_then, .long v_awayUpper, .long v_lower, .ref a_comers, .int v_comerMany, .ref a_seen, .ref a_seenMany, .int v_seenRows, .ref a_kept, .ref a_isKept, .int v_place, .int v_isWriting])), (a_far, eI cI 144 u19), (a_links, eI cI 12 v_links), (a_mays, eI cI 4096 u18.2.2.2.1), (a_endIn, eJ cJ 13 u18.2.2.2.2.1), (a_rowsTo, eJ cJ 4096 u18.2.2.2.2.2)]) Cx (c_X11_findFar l D cI cJ cZ cO a_t a_signs a_links a_worths a_far a_mays a_rowsTo a_endIn a_ends a_pairSets a_awayIn a_now a_then a_comers a_seen a_seenMany a_kept a_isKept v_signMany v_seats v_bearIs u18.2.1 v_awayUpper v_lower v_comerMany v_seenRows v_place v_isWriting u18.2.2.1 v_links (0 : Int32) u19 hu19) hP hS rfl rfl rfl rfl rfl rfl rfl hl.1 (Nat.le_of_ble_eq_true rfl) dX11_rests_105 rfl rfl ⟨Nat.le_of_ble_eq_true rfl, Nat.le_of_ble_eq_true rfl⟩ ⟨Nat.zero_le _, Nat.zero_le _⟩ rfl (fun H locs hP hS => ?_)
    refine lv_iload_n hx hb dX11_rests_108 rfl (lv_at hl 1 rfl) ?_
    obtain rfl := Option.some.inj hf
    exact ret _ _ _ _ dX11_rests_109 hP hS
  · have hf := ob_t c2 hf
    refine lv_bipush (v := (-2)) hx hb dX11_rests_12 (by decide) ?_
    obtain rfl := Option.some.inj hf
    exact ret _ _ _ _ dX11_rests_14 hP hS

def f_X11_passOne_94 (v_seats : Int32) (v_now : Nat → Int64) (x1 : Int32) (u9 : Int32) : Nat → Int32 → (Nat → Int64) → Option ((Nat → Int64))
  | 0, _, _ => none
  | n + 1, y5_94, z_then_94 =>
  if v_seats ≤ y5_94 then
  some (z_then_94)
  else
  (if ((x1 >>> (y5_94 &&& 31)) &&& (1 : Int32)) = (1 : Int32) then
  (aget 4096 z_then_94 (x1 &&& (((1 : Int32) <<< (y5_94 &&& 31)) ^^^ (-1 : Int32)))).bind (fun u17 =>
  (aget 4096 v_now x1).bind (fun u18 =>
  (odivL (27720 : Int64) (u9).toInt64).bind (fun u19 =>
  (asetL 4096 z_then_94 (x1 &&& (((1 : Int32) <<< (y5_94 &&& 31)) ^^^ (-1 : Int32))) (u17 + (u18 * u19))).bind (fun u20 =>
  some (u20)))))
  else
  some (z_then_94)).bind (fun w14 =>
  f_X11_passOne_94 v_seats v_now x1 u9 n (y5_94 + 1) w14)
theorem f_X11_passOne_94_s (v_seats : Int32) (v_now : Nat → Int64) (x1 : Int32) (u9 : Int32) (n : Nat) (y5_94 : Int32) (z_then_94 : Nat → Int64) : f_X11_passOne_94 v_seats v_now x1 u9 (n + 1) y5_94 z_then_94 =
  (if v_seats ≤ y5_94 then
  some (z_then_94)
  else
  (if ((x1 >>> (y5_94 &&& 31)) &&& (1 : Int32)) = (1 : Int32) then
  (aget 4096 z_then_94 (x1 &&& (((1 : Int32) <<< (y5_94 &&& 31)) ^^^ (-1 : Int32)))).bind (fun u17 =>
  (aget 4096 v_now x1).bind (fun u18 =>
  (odivL (27720 : Int64) (u9).toInt64).bind (fun u19 =>
  (asetL 4096 z_then_94 (x1 &&& (((1 : Int32) <<< (y5_94 &&& 31)) ^^^ (-1 : Int32))) (u17 + (u18 * u19))).bind (fun u20 =>
  some (u20)))))
  else
  some (z_then_94)).bind (fun w14 =>
  f_X11_passOne_94 v_seats v_now x1 u9 n (y5_94 + 1) w14)) := rfl
def f_X11_passOne (v_seats : Int32) (v_bearIs : Int32) (v_awayUpper : Int64) (v_far : Nat → Int32) (v_worths : Nat → Int32) (v_now : Nat → Int64) (v_then : Nat → Int64) (x1 : Int32) (x2 : Int32) : Option (Int64 × (Nat → Int64)) :=
  (f_X11_takenBy v_seats v_bearIs v_far v_worths x1 x2).bind (fun u1 =>
  (if 0 ≤ u1 then
  some (v_awayUpper)
  else
  (aget 4096 v_now x1).bind (fun u28 =>
  some (v_awayUpper + (u28 * (27720 : Int64))))).bind (fun w2 =>
  (if 0 ≤ u1 then
  some (x1 ||| ((1 : Int32) <<< (u1 &&& 31)))
  else
  some (x1)).bind (fun w4 =>
  (aget 4096 v_then w4).bind (fun u6 =>
  (aget 4096 v_now x1).bind (fun u7 =>
  (asetL 4096 v_then w4 (u6 + (u7 * (27720 : Int64)))).bind (fun u8 =>
  (f_X11_ones x1).bind (fun u9 =>
  (if u9 = 0 then
  (aget 4096 u8 (0 : Int32)).bind (fun u23 =>
  (aget 4096 v_now x1).bind (fun u24 =>
  (asetL 4096 u8 (0 : Int32) (u23 + (u24 * (27720 : Int64)))).bind (fun u25 =>
  some (u25))))
  else
  some (u8)).bind (fun w10 =>
  (f_X11_passOne_94 v_seats v_now x1 u9 FU (0 : Int32) w10).bind (fun u21 =>
  some (w2, u21))))))))))
set_option maxHeartbeats 4000000 in
set_option maxRecDepth 100000 in
theorem c_X11_passOne (l : Launch) (D : va_G) (cI cJ cZ cO : ClassId) (a_t a_signs a_links a_worths a_far a_mays a_rowsTo a_endIn a_ends a_pairSets a_awayIn a_now a_then a_comers a_seen a_seenMany a_kept a_isKept : Nat) (v_signMany : Int32) (v_seats : Int32) (v_bearIs : Int32) (v_rowsAll : Int64) (v_awayUpper : Int64) (v_lower : Int64) (v_comerMany : Int32) (v_seenRows : Int32) (v_place : Int32) (v_isWriting : Int32) (v_far : Nat → Int32) (v_worths : Nat → Int32) (v_now : Nat → Int64) (v_then : Nat → Int64) (x1 : Int32) (x2 : Int32) (out : Int64 × (Nat → Int64)) (hf : f_X11_passOne v_seats v_bearIs v_awayUpper v_far v_worths v_now v_then x1 x2 = some out) : MetR l yX11_passOne (Cond.code yX11_passOne cX11_passOne 6 none :: tbG) { frames := 4, cells := 0, slots := 0, locals := 96 } D (tyL cI cJ cZ cO) [.ref a_t, .int x1, .int x2] [(a_t, .inr (11, [.ref a_signs, .int v_signMany, .int v_seats, .ref a_links, .ref a_worths, .int v_bearIs, .ref a_far, .ref a_mays, .ref a_rowsTo, .ref a_endIn, .long v_rowsAll, .ref a_ends, .ref a_pairSets, .ref a_awayIn, .ref a_now, .ref a_then, .long v_awayUpper, .long v_lower, .ref a_comers, .int v_comerMany, .ref a_seen, .ref a_seenMany, .int v_seenRows, .ref a_kept, .ref a_isKept, .int v_place, .int v_isWriting])), (a_far, eI cI 144 v_far), (a_worths, eI cI 12 v_worths), (a_now, eJ cJ 4096 v_now), (a_then, eJ cJ 4096 v_then)] none [(a_t, .inr (11, [.ref a_signs, .int v_signMany, .int v_seats, .ref a_links, .ref a_worths, .int v_bearIs, .ref a_far, .ref a_mays, .ref a_rowsTo, .ref a_endIn, .long v_rowsAll, .ref a_ends, .ref a_pairSets, .ref a_awayIn, .ref a_now, .ref a_then, .long out.1, .long v_lower, .ref a_comers, .int v_comerMany, .ref a_seen, .ref a_seenMany, .int v_seenRows, .ref a_kept, .ref a_isKept, .int v_place, .int v_isWriting])), (a_far, eI cI 144 v_far), (a_worths, eI cI 12 v_worths), (a_now, eJ cJ 4096 v_now), (a_then, eJ cJ 4096 out.2)] := by
  refine ba_ofV RX11 [(0, .ref a_t), (1, .int x1), (2, .int x2)] (by decide +kernel) rfl (Nat.le_of_ble_eq_true rfl) rfl ?_
  intro p e s m args below meth c Q A Cx hP ret ls hl
  obtain ⟨⟨hx, hb, hml, hown, hts⟩, hK, hD, hA⟩ := id Cx
  have hS : va_S A s.heap s.heap [] := va_S.rf
  unfold f_X11_passOne at hf
  refine lv_aload_n hx hb dX11_passOne_0 rfl (lv_at hl 0 rfl) ?_
  refine lv_iload_n hx hb dX11_passOne_1 rfl (lv_at hl 1 rfl) ?_
  refine lv_iload_n hx hb dX11_passOne_2 rfl (lv_at hl 2 rfl) ?_
  obtain ⟨u1, hu1, hf⟩ := ob_b hf
  refine iv_X11_122 (As := [.int x1, .int x2]) (rest := []) (is := [0, 1, 2]) (q0 := 0) (X' := [(a_t, .inr (11, [.ref a_signs, .int v_signMany, .int v_seats, .ref a_links, .ref a_worths, .int v_bearIs, .ref a_far, .ref a_mays, .ref a_rowsTo, .ref a_endIn, .long v_rowsAll, .ref a_ends, .ref a_pairSets, .ref a_awayIn, .ref a_now, .ref a_then, .long v_awayUpper, .long v_lower, .ref a_comers, .int v_comerMany, .ref a_seen, .ref a_seenMany, .int v_seenRows, .ref a_kept, .ref a_isKept, .int v_place, .int v_isWriting])), (a_far, eI cI 144 v_far), (a_worths, eI cI 12 v_worths), (a_now, eJ cJ 4096 v_now), (a_then, eJ cJ 4096 v_then)]) Cx (c_X11_takenBy l D cI cJ cZ cO a_t a_signs a_links a_worths a_far a_mays a_rowsTo a_endIn a_ends a_pairSets a_awayIn a_now a_then a_comers a_seen a_seenMany a_kept a_isKept v_signMany v_seats v_bearIs v_rowsAll v_awayUpper v_lower v_comerMany v_seenRows v_place v_isWriting v_far v_worths x1 x2 u1 hu1) hP hS rfl rfl rfl rfl rfl rfl rfl hl.1 (Nat.le_of_ble_eq_true rfl) dX11_passOne_3 rfl rfl ⟨Nat.le_of_ble_eq_true rfl, Nat.le_of_ble_eq_true rfl⟩ ⟨Nat.zero_le _, Nat.zero_le _⟩ rfl (fun H locs hP hS => ?_)
  refine lv_istore_n (lv' := [(3, .int u1), (0, .ref a_t), (1, .int x1), (2, .int x2)]) hx hb dX11_passOne_6 rfl hl (by decide) rfl (fun ls hl => ?_)
  refine lv_iload_n hx hb dX11_passOne_7 rfl (lv_at hl 0 rfl) ?_
  refine ob_J (P := fun w2 => ∀ (H : Heap) (locs : List Loc) (ls : Array Slot), va_P D vwCl [(a_t, .inr (11, [.ref a_signs, .int v_signMany, .int v_seats, .ref a_links, .ref a_worths, .int v_bearIs, .ref a_far, .ref a_mays, .ref a_rowsTo, .ref a_endIn, .long v_rowsAll, .ref a_ends, .ref a_pairSets, .ref a_awayIn, .ref a_now, .ref a_then, .long w2, .long v_lower, .ref a_comers, .int v_comerMany, .ref a_seen, .ref a_seenMany, .int v_seenRows, .ref a_kept, .ref a_isKept, .int v_place, .int v_isWriting])), (a_far, eI cI 144 v_far), (a_worths, eI cI 12 v_worths), (a_now, eJ cJ 4096 v_now), (a_then, eJ cJ 4096 v_then)] H → va_S A s.heap H locs → lv_has ls 6 [(0, .ref a_t), (1, .int x1), (3, .int u1)] → W p l e { frames := 4, cells := 0, slots := 0, locals := 96 } s m args below meth c H locs 0 0 Q (F0 m 30 ls [])) hf ?_ ?_
  · intro w2 hf H locs ls hP hS hl
    refine lv_aload_n hx hb dX11_passOne_30 rfl (lv_at hl 0 rfl) ?_
    refine gf_X11_44 Cx hP 0 rfl rfl dX11_passOne_31 ?_
    refine lv_iload_n hx hb dX11_passOne_34 rfl (lv_at hl 2 rfl) ?_
    refine ob_J (P := fun w4 => ∀ (H : Heap) (locs : List Loc) (ls : Array Slot), va_P D vwCl [(a_t, .inr (11, [.ref a_signs, .int v_signMany, .int v_seats, .ref a_links, .ref a_worths, .int v_bearIs, .ref a_far, .ref a_mays, .ref a_rowsTo, .ref a_endIn, .long v_rowsAll, .ref a_ends, .ref a_pairSets, .ref a_awayIn, .ref a_now, .ref a_then, .long w2, .long v_lower, .ref a_comers, .int v_comerMany, .ref a_seen, .ref a_seenMany, .int v_seenRows, .ref a_kept, .ref a_isKept, .int v_place, .int v_isWriting])), (a_far, eI cI 144 v_far), (a_worths, eI cI 12 v_worths), (a_now, eJ cJ 4096 v_now), (a_then, eJ cJ 4096 v_then)] H → va_S A s.heap H locs → lv_has ls 6 [(0, .ref a_t), (1, .int x1)] → W p l e { frames := 4, cells := 0, slots := 0, locals := 96 } s m args below meth c H locs 0 0 Q (F0 m 47 ls [.int w4, .ref a_then])) hf ?_ ?_
    · intro w4 hf H locs ls hP hS hl
      refine lv_dup2_11 hx hb dX11_passOne_47 rfl rfl ?_
      obtain ⟨u6, hu6, hf⟩ := ob_b hf
      refine ba_lald Cx hP 4 rfl hu6 dX11_passOne_48 ?_
      refine lv_aload_n hx hb dX11_passOne_49 rfl (lv_at hl 0 rfl) ?_
      refine gf_X11_41 Cx hP 0 rfl rfl dX11_passOne_50 ?_
      refine lv_iload_n hx hb dX11_passOne_53 rfl (lv_at hl 1 rfl) ?_
      obtain ⟨u7, hu7, hf⟩ := ob_b hf
      refine ba_lald Cx hP 3 rfl hu7 dX11_passOne_54 ?_
      refine lv_ldc2 hx hb hown (hts _ kw_1045) dX11_passOne_55 ?_
      refine lv_lmul hx hb dX11_passOne_58 ?_
      refine lv_ladd hx hb dX11_passOne_59 ?_
      obtain ⟨u8, hu8, hf⟩ := ob_b hf
      refine ba_last (X' := [(a_t, .inr (11, [.ref a_signs, .int v_signMany, .int v_seats, .ref a_links, .ref a_worths, .int v_bearIs, .ref a_far, .ref a_mays, .ref a_rowsTo, .ref a_endIn, .long v_rowsAll, .ref a_ends, .ref a_pairSets, .ref a_awayIn, .ref a_now, .ref a_then, .long w2, .long v_lower, .ref a_comers, .int v_comerMany, .ref a_seen, .ref a_seenMany, .int v_seenRows, .ref a_kept, .ref a_isKept, .int v_place, .int v_isWriting])), (a_far, eI cI 144 v_far), (a_worths, eI cI 12 v_worths), (a_now, eJ cJ 4096 v_now), (a_then, eJ cJ 4096 u8)]) Cx hP hS rfl 4 rfl rfl hu8 dX11_passOne_60 (fun H locs hP hS => ?_)
      refine lv_iload_n hx hb dX11_passOne_61 rfl (lv_at hl 1 rfl) ?_
      obtain ⟨u9, hu9, hf⟩ := ob_b hf
      refine iv_X11_144 (As := [.int x1]) (rest := []) (is := []) (X' := [(a_t, .inr (11, [.ref a_signs, .int v_signMany, .int v_seats, .ref a_links, .ref a_worths, .int v_bearIs, .ref a_far, .ref a_mays, .ref a_rowsTo, .ref a_endIn, .long v_rowsAll, .ref a_ends, .ref a_pairSets, .ref a_awayIn, .ref a_now, .ref a_then, .long w2, .long v_lower, .ref a_comers, .int v_comerMany, .ref a_seen, .ref a_seenMany, .int v_seenRows, .ref a_kept, .ref a_isKept, .int v_place, .int v_isWriting])), (a_far, eI cI 144 v_far), (a_worths, eI cI 12 v_worths), (a_now, eJ cJ 4096 v_now), (a_then, eJ cJ 4096 u8)]) Cx (c_X11_ones l D cI cJ cZ cO  x1 u9 hu9) hP hS rfl rfl rfl rfl rfl rfl hl.1 (Nat.le_of_ble_eq_true rfl) dX11_passOne_62 rfl rfl ⟨Nat.le_of_ble_eq_true rfl, Nat.le_of_ble_eq_true rfl⟩ ⟨Nat.zero_le _, Nat.zero_le _⟩ rfl (fun H locs hP hS => ?_)
      refine lv_istore (lv' := [(4, .int u9), (0, .ref a_t), (1, .int x1)]) hx hb dX11_passOne_65 hl (by decide) rfl (fun ls hl => ?_)
      refine lv_iload hx hb dX11_passOne_67 (lv_at hl 0 rfl) ?_
      refine ob_J (P := fun w10 => ∀ (H : Heap) (locs : List Loc) (ls : Array Slot), va_P D vwCl [(a_t, .inr (11, [.ref a_signs, .int v_signMany, .int v_seats, .ref a_links, .ref a_worths, .int v_bearIs, .ref a_far, .ref a_mays, .ref a_rowsTo, .ref a_endIn, .long v_rowsAll, .ref a_ends, .ref a_pairSets, .ref a_awayIn, .ref a_now, .ref a_then, .long w2, .long v_lower, .ref a_comers, .int v_comerMany, .ref a_seen, .ref a_seenMany, .int v_seenRows, .ref a_kept, .ref a_isKept, .int v_place, .int v_isWriting])), (a_far, eI cI 144 v_far), (a_worths, eI cI 12 v_worths), (a_now, eJ cJ 4096 v_now), (a_then, eJ cJ 4096 w10)] H → va_S A s.heap H locs → lv_has ls 6 [(0, .ref a_t), (1, .int x1), (4, .int u9)] → W p l e { frames := 4, cells := 0, slots := 0, locals := 96 } s m args below meth c H locs 0 0 Q (F0 m 91 ls [])) hf ?_ ?_
      · intro w10 hf H locs ls hP hS hl
        refine lv_iconst (v := 0) hx hb dX11_passOne_91 (by decide) ?_
        refine lv_istore (lv' := [(5, .int (0 : Int32)), (0, .ref a_t), (1, .int x1), (4, .int u9)]) hx hb dX11_passOne_92 hl (by decide) rfl (fun ls hl => ?_)
        have L94_12 : ∀ (n : Nat) (y5_94 : Int32) (z_then_94 : Nat → Int64) (o : (Nat → Int64)) (H : Heap) (locs : List Loc) (ls : Array Slot), f_X11_passOne_94 v_seats v_now x1 u9 n y5_94 z_then_94 = some o → va_P D vwCl [(a_t, .inr (11, [.ref a_signs, .int v_signMany, .int v_seats, .ref a_links, .ref a_worths, .int v_bearIs, .ref a_far, .ref a_mays, .ref a_rowsTo, .ref a_endIn, .long v_rowsAll, .ref a_ends, .ref a_pairSets, .ref a_awayIn, .ref a_now, .ref a_then, .long w2, .long v_lower, .ref a_comers, .int v_comerMany, .ref a_seen, .ref a_seenMany, .int v_seenRows, .ref a_kept, .ref a_isKept, .int v_place, .int v_isWriting])), (a_far, eI cI 144 v_far), (a_worths, eI cI 12 v_worths), (a_now, eJ cJ 4096 v_now), (a_then, eJ cJ 4096 z_then_94)] H → va_S A s.heap H locs → lv_has ls 6 [(0, .ref a_t), (1, .int x1), (4, .int u9), (5, .int y5_94)] → (∀ (H : Heap) (locs : List Loc) (ls : Array Slot), va_P D vwCl [(a_t, .inr (11, [.ref a_signs, .int v_signMany, .int v_seats, .ref a_links, .ref a_worths, .int v_bearIs, .ref a_far, .ref a_mays, .ref a_rowsTo, .ref a_endIn, .long v_rowsAll, .ref a_ends, .ref a_pairSets, .ref a_awayIn, .ref a_now, .ref a_then, .long w2, .long v_lower, .ref a_comers, .int v_comerMany, .ref a_seen, .ref a_seenMany, .int v_seenRows, .ref a_kept, .ref a_isKept, .int v_place, .int v_isWriting])), (a_far, eI cI 144 v_far), (a_worths, eI cI 12 v_worths), (a_now, eJ cJ 4096 v_now), (a_then, eJ cJ 4096 o)] H → va_S A s.heap H locs → lv_has ls 6 [] → W p l e { frames := 4, cells := 0, slots := 0, locals := 96 } s m args below meth c H locs 0 0 Q (F0 m 149 ls [])) → W p l e { frames := 4, cells := 0, slots := 0, locals := 96 } s m args below meth c H locs 0 0 Q (F0 m 94 ls []) := by
          intro n
          induction n with
          | zero => intro y5_94 z_then_94 o H locs ls hf; exact (ob_n hf).elim
          | succ n ih =>
            intro y5_94 z_then_94 o H locs ls hf hP hS hl kk
            rw [f_X11_passOne_94_s] at hf
            refine lv_iload hx hb dX11_passOne_94 (lv_at hl 3 rfl) ?_
            refine lv_aload_n hx hb dX11_passOne_96 rfl (lv_at hl 0 rfl) ?_
            refine gf_X11_63 Cx hP 0 rfl rfl dX11_passOne_97 ?_
            refine lv_icmp_ge (tgt := 149) hx hb dX11_passOne_100 (by decide) (fun c13 => ?_) (fun c13 => ?_)
            · have hf := ob_t c13 hf
              obtain rfl := Option.some.inj hf
              exact kk _ _ _ hP hS (lv_sub hl [] rfl)
            · have hf := ob_f c13 hf
              refine lv_iload_n hx hb dX11_passOne_103 rfl (lv_at hl 1 rfl) ?_
              refine lv_iload hx hb dX11_passOne_104 (lv_at hl 3 rfl) ?_
              refine lv_ishr hx hb dX11_passOne_106 ?_
              refine lv_iconst (v := 1) hx hb dX11_passOne_107 (by decide) ?_
              refine lv_iand hx hb dX11_passOne_108 ?_
              refine lv_iconst (v := 1) hx hb dX11_passOne_109 (by decide) ?_
              refine ob_J (P := fun w14 => ∀ (H : Heap) (locs : List Loc) (ls : Array Slot), va_P D vwCl [(a_t, .inr (11, [.ref a_signs, .int v_signMany, .int v_seats, .ref a_links, .ref a_worths, .int v_bearIs, .ref a_far, .ref a_mays, .ref a_rowsTo, .ref a_endIn, .long v_rowsAll, .ref a_ends, .ref a_pairSets, .ref a_awayIn, .ref a_now, .ref a_then, .long w2, .long v_lower, .ref a_comers, .int v_comerMany, .ref a_seen, .ref a_seenMany, .int v_seenRows, .ref a_kept, .ref a_isKept, .int v_place, .int v_isWriting])), (a_far, eI cI 144 v_far), (a_worths, eI cI 12 v_worths), (a_now, eJ cJ 4096 v_now), (a_then, eJ cJ 4096 w14)] H → va_S A s.heap H locs → lv_has ls 6 [(0, .ref a_t), (1, .int x1), (4, .int u9), (5, .int y5_94)] → W p l e { frames := 4, cells := 0, slots := 0, locals := 96 } s m args below meth c H locs 0 0 Q (F0 m 143 ls [])) hf ?_ ?_
              · intro w14 hf H locs ls hP hS hl
                refine lv_iinc (v := (y5_94 + 1)) (lv' := [(5, .int (y5_94 + 1)), (0, .ref a_t), (1, .int x1), (4, .int u9)]) hx hb dX11_passOne_143 hl (k := 3) rfl rfl (by decide) rfl (fun ls hl => ?_)
                refine lv_goto (tgt := 94) hx hb dX11_passOne_146 (by decide) ?_
                exact ih (y5_94 + 1) w14 _ _ _ _ hf hP hS (lv_sub hl [1, 2, 3, 0] rfl) kk
              · intro J143_15 hf
                refine lv_icmp_ne (tgt := 143) hx hb dX11_passOne_110 (by decide) (fun c16 => ?_) (fun c16 => ?_)
                · have hf := ob_fk c16 hf
                  exact J143_15 z_then_94 hf _ _ _ hP hS (lv_sub hl [0, 1, 2, 3] rfl)
                · have hf := ob_tk c16 hf
                  refine lv_aload_n hx hb dX11_passOne_113 rfl (lv_at hl 0 rfl) ?_
                  refine gf_X11_44 Cx hP 0 rfl rfl dX11_passOne_114 ?_
                  refine lv_iload_n hx hb dX11_passOne_117 rfl (lv_at hl 1 rfl) ?_
                  refine lv_iconst (v := 1) hx hb dX11_passOne_118 (by decide) ?_
                  refine lv_iload hx hb dX11_passOne_119 (lv_at hl 3 rfl) ?_
                  refine lv_ishl hx hb dX11_passOne_121 ?_
                  refine lv_iconst (v := (-1)) hx hb dX11_passOne_122 (by decide) ?_
                  refine lv_ixor hx hb dX11_passOne_123 ?_
                  refine lv_iand hx hb dX11_passOne_124 ?_
                  refine lv_dup2_11 hx hb dX11_passOne_125 rfl rfl ?_
                  obtain ⟨u17, hu17, hf⟩ := ob_bk hf
                  refine ba_lald Cx hP 4 rfl hu17 dX11_passOne_126 ?_
                  refine lv_aload_n hx hb dX11_passOne_127 rfl (lv_at hl 0 rfl) ?_
                  refine gf_X11_41 Cx hP 0 rfl rfl dX11_passOne_128 ?_
                  refine lv_iload_n hx hb dX11_passOne_131 rfl (lv_at hl 1 rfl) ?_
                  obtain ⟨u18, hu18, hf⟩ := ob_bk hf
                  refine ba_lald Cx hP 3 rfl hu18 dX11_passOne_132 ?_
                  refine lv_ldc2 hx hb hown (hts _ kw_1045) dX11_passOne_133 ?_
                  refine lv_iload hx hb dX11_passOne_136 (lv_at hl 2 rfl) ?_
                  refine lv_i2l (v := (u9).toInt64) hx hb dX11_passOne_138 rfl ?_
                  obtain ⟨u19, hu19, hf⟩ := ob_bk hf
                  refine ba_ldiv hx hb hu19 dX11_passOne_139 ?_
                  refine lv_lmul hx hb dX11_passOne_140 ?_
                  refine lv_ladd hx hb dX11_passOne_141 ?_
                  obtain ⟨u20, hu20, hf⟩ := ob_bk hf
                  refine ba_last (X' := [(a_t, .inr (11, [.ref a_signs, .int v_signMany, .int v_seats, .ref a_links, .ref a_worths, .int v_bearIs, .ref a_far, .ref a_mays, .ref a_rowsTo, .ref a_endIn, .long v_rowsAll, .ref a_ends, .ref a_pairSets, .ref a_awayIn, .ref a_now, .ref a_then, .long w2, .long v_lower, .ref a_comers, .int v_comerMany, .ref a_seen, .ref a_seenMany, .int v_seenRows, .ref a_kept, .ref a_isKept, .int v_place, .int v_isWriting])), (a_far, eI cI 144 v_far), (a_worths, eI cI 12 v_worths), (a_now, eJ cJ 4096 v_now), (a_then, eJ cJ 4096 u20)]) Cx hP hS rfl 4 rfl rfl hu20 dX11_passOne_142 (fun H locs hP hS => ?_)
                  exact J143_15 u20 hf _ _ _ hP hS (lv_sub hl [0, 1, 2, 3] rfl)
        obtain ⟨u21, hu21, hf⟩ := ob_b hf
        refine L94_12 FU (0 : Int32) w10 u21 _ _ _ hu21 hP hS (lv_sub hl [1, 2, 3, 0] rfl) ?_
        intro H locs ls hP hS hl
        obtain rfl := Option.some.inj hf
        exact ret _ _ _ _ dX11_passOne_149 hP hS
      · intro J91_11 hf
        refine lv_if_ne (tgt := 91) hx hb dX11_passOne_69 (by decide) (fun c22 => ?_) (fun c22 => ?_)
        · have hf := ob_fk c22 hf
          exact J91_11 u8 hf _ _ _ hP hS (lv_sub hl [1, 2, 0] rfl)
        · have hf := ob_tk c22 hf
          refine lv_aload_n hx hb dX11_passOne_72 rfl (lv_at hl 1 rfl) ?_
          refine gf_X11_44 Cx hP 0 rfl rfl dX11_passOne_73 ?_
          refine lv_iconst (v := 0) hx hb dX11_passOne_76 (by decide) ?_
          refine lv_dup2_11 hx hb dX11_passOne_77 rfl rfl ?_
          obtain ⟨u23, hu23, hf⟩ := ob_bk hf
          refine ba_lald Cx hP 4 rfl hu23 dX11_passOne_78 ?_
          refine lv_aload_n hx hb dX11_passOne_79 rfl (lv_at hl 1 rfl) ?_
          refine gf_X11_41 Cx hP 0 rfl rfl dX11_passOne_80 ?_
          refine lv_iload_n hx hb dX11_passOne_83 rfl (lv_at hl 2 rfl) ?_
          obtain ⟨u24, hu24, hf⟩ := ob_bk hf
          refine ba_lald Cx hP 3 rfl hu24 dX11_passOne_84 ?_
          refine lv_ldc2 hx hb hown (hts _ kw_1045) dX11_passOne_85 ?_
          refine lv_lmul hx hb dX11_passOne_88 ?_
          refine lv_ladd hx hb dX11_passOne_89 ?_
          obtain ⟨u25, hu25, hf⟩ := ob_bk hf
          refine ba_last (X' := [(a_t, .inr (11, [.ref a_signs, .int v_signMany, .int v_seats, .ref a_links, .ref a_worths, .int v_bearIs, .ref a_far, .ref a_mays, .ref a_rowsTo, .ref a_endIn, .long v_rowsAll, .ref a_ends, .ref a_pairSets, .ref a_awayIn, .ref a_now, .ref a_then, .long w2, .long v_lower, .ref a_comers, .int v_comerMany, .ref a_seen, .ref a_seenMany, .int v_seenRows, .ref a_kept, .ref a_isKept, .int v_place, .int v_isWriting])), (a_far, eI cI 144 v_far), (a_worths, eI cI 12 v_worths), (a_now, eJ cJ 4096 v_now), (a_then, eJ cJ 4096 u25)]) Cx hP hS rfl 4 rfl rfl hu25 dX11_passOne_90 (fun H locs hP hS => ?_)
          exact J91_11 u25 hf _ _ _ hP hS (lv_sub hl [1, 2, 0] rfl)
    · intro J47_5 hf
      refine lv_if_ge (tgt := 42) hx hb dX11_passOne_35 (by decide) (fun c26 => ?_) (fun c26 => ?_)
      · have hf := ob_tk c26 hf
        refine lv_iload_n hx hb dX11_passOne_42 rfl (lv_at hl 1 rfl) ?_
        refine lv_iconst (v := 1) hx hb dX11_passOne_43 (by decide) ?_
        refine lv_iload_n hx hb dX11_passOne_44 rfl (lv_at hl 2 rfl) ?_
        refine lv_ishl hx hb dX11_passOne_45 ?_
        refine lv_ior hx hb dX11_passOne_46 ?_
        exact J47_5 (x1 ||| ((1 : Int32) <<< (u1 &&& 31))) hf _ _ _ hP hS (lv_sub hl [0, 1] rfl)
      · have hf := ob_fk c26 hf
        refine lv_iload_n hx hb dX11_passOne_38 rfl (lv_at hl 1 rfl) ?_
        refine lv_goto (tgt := 47) hx hb dX11_passOne_39 (by decide) ?_
        exact J47_5 x1 hf _ _ _ hP hS (lv_sub hl [0, 1] rfl)
  · intro J30_3 hf
    refine lv_if_ge (tgt := 30) hx hb dX11_passOne_8 (by decide) (fun c27 => ?_) (fun c27 => ?_)
    · have hf := ob_tk c27 hf
      exact J30_3 v_awayUpper hf _ _ _ hP hS (lv_sub hl [1, 2, 0] rfl)
    · have hf := ob_fk c27 hf
      refine lv_aload_n hx hb dX11_passOne_11 rfl (lv_at hl 1 rfl) ?_
      refine lv_dup hx hb dX11_passOne_12 rfl ?_
      refine gf_X11_197 Cx hP 0 rfl rfl dX11_passOne_13 ?_
      refine lv_aload_n hx hb dX11_passOne_16 rfl (lv_at hl 1 rfl) ?_
      refine gf_X11_41 Cx hP 0 rfl rfl dX11_passOne_17 ?_
      refine lv_iload_n hx hb dX11_passOne_20 rfl (lv_at hl 2 rfl) ?_
      obtain ⟨u28, hu28, hf⟩ := ob_bk hf
      refine ba_lald Cx hP 3 rfl hu28 dX11_passOne_21 ?_
      refine lv_ldc2 hx hb hown (hts _ kw_1045) dX11_passOne_22 ?_
      refine lv_lmul hx hb dX11_passOne_25 ?_
      refine lv_ladd hx hb dX11_passOne_26 ?_
      refine pf_X11_197 (X' := [(a_t, .inr (11, [.ref a_signs, .int v_signMany, .int v_seats, .ref a_links, .ref a_worths, .int v_bearIs, .ref a_far, .ref a_mays, .ref a_rowsTo, .ref a_endIn, .long v_rowsAll, .ref a_ends, .ref a_pairSets, .ref a_awayIn, .ref a_now, .ref a_then, .long (v_awayUpper + (u28 * (27720 : Int64))), .long v_lower, .ref a_comers, .int v_comerMany, .ref a_seen, .ref a_seenMany, .int v_seenRows, .ref a_kept, .ref a_isKept, .int v_place, .int v_isWriting])), (a_far, eI cI 144 v_far), (a_worths, eI cI 12 v_worths), (a_now, eJ cJ 4096 v_now), (a_then, eJ cJ 4096 v_then)]) Cx hP hS rfl 0 rfl rfl (Nat.le_of_ble_eq_true rfl) dX11_passOne_27 (fun H locs hP hS => ?_)
      exact J30_3 (v_awayUpper + (u28 * (27720 : Int64))) hf _ _ _ hP hS (lv_sub hl [1, 2, 0] rfl)

def f_X11_passMinutes_11 (v_seats : Int32) (x1 : Int32) : Nat → Int32 → (Nat → Int64) → Option ((Nat → Int64))
  | 0, _, _ => none
  | n + 1, y5_11, z_now_11 =>
  if ((1 : Int32) <<< (v_seats &&& 31)) ≤ y5_11 then
  some (z_now_11)
  else
  (if y5_11 = x1 then
  some (1 : Int64)
  else
  some (0 : Int64)).bind (fun w3 =>
  (asetL 4096 z_now_11 y5_11 w3).bind (fun u5 =>
  f_X11_passMinutes_11 v_seats x1 n (y5_11 + 1) u5))
theorem f_X11_passMinutes_11_s (v_seats : Int32) (x1 : Int32) (n : Nat) (y5_11 : Int32) (z_now_11 : Nat → Int64) : f_X11_passMinutes_11 v_seats x1 (n + 1) y5_11 z_now_11 =
  (if ((1 : Int32) <<< (v_seats &&& 31)) ≤ y5_11 then
  some (z_now_11)
  else
  (if y5_11 = x1 then
  some (1 : Int64)
  else
  some (0 : Int64)).bind (fun w3 =>
  (asetL 4096 z_now_11 y5_11 w3).bind (fun u5 =>
  f_X11_passMinutes_11 v_seats x1 n (y5_11 + 1) u5))) := rfl
def f_X11_passMinutes_64 (v_seats : Int32) : Nat → Int32 → (Nat → Int64) → Option ((Nat → Int64))
  | 0, _, _ => none
  | n + 1, y6_64, z_then_64 =>
  if ((1 : Int32) <<< (v_seats &&& 31)) ≤ y6_64 then
  some (z_then_64)
  else
  (asetL 4096 z_then_64 y6_64 (0 : Int64)).bind (fun u12 =>
  f_X11_passMinutes_64 v_seats n (y6_64 + 1) u12)
theorem f_X11_passMinutes_64_s (v_seats : Int32) (n : Nat) (y6_64 : Int32) (z_then_64 : Nat → Int64) : f_X11_passMinutes_64 v_seats (n + 1) y6_64 z_then_64 =
  (if ((1 : Int32) <<< (v_seats &&& 31)) ≤ y6_64 then
  some (z_then_64)
  else
  (asetL 4096 z_then_64 y6_64 (0 : Int64)).bind (fun u12 =>
  f_X11_passMinutes_64 v_seats n (y6_64 + 1) u12)) := rfl
def f_X11_passMinutes_100 (v_seats : Int32) (v_bearIs : Int32) (v_far : Nat → Int32) (v_worths : Nat → Int32) (x2 : Int32) (z_now_55 : Nat → Int64) : Nat → Int32 → Int64 → (Nat → Int64) → Option (Int64 × (Nat → Int64))
  | 0, _, _, _ => none
  | n + 1, y6_100, z_awayUpper_100, z_then_100 =>
  if ((1 : Int32) <<< (v_seats &&& 31)) ≤ y6_100 then
  some (z_awayUpper_100, z_then_100)
  else
  (aget 4096 z_now_55 y6_100).bind (fun u16 =>
  (if (lg_cmp u16 (0 : Int64)) ≤ 0 then
  some (z_awayUpper_100, z_then_100)
  else
  (f_X11_passOne v_seats v_bearIs z_awayUpper_100 v_far v_worths z_now_55 z_then_100 y6_100 x2).bind (fun u20 =>
  some (u20.1, u20.2))).bind (fun w17 =>
  f_X11_passMinutes_100 v_seats v_bearIs v_far v_worths x2 z_now_55 n (y6_100 + 1) w17.1 w17.2))
theorem f_X11_passMinutes_100_s (v_seats : Int32) (v_bearIs : Int32) (v_far : Nat → Int32) (v_worths : Nat → Int32) (x2 : Int32) (z_now_55 : Nat → Int64) (n : Nat) (y6_100 : Int32) (z_awayUpper_100 : Int64) (z_then_100 : Nat → Int64) : f_X11_passMinutes_100 v_seats v_bearIs v_far v_worths x2 z_now_55 (n + 1) y6_100 z_awayUpper_100 z_then_100 =
  (if ((1 : Int32) <<< (v_seats &&& 31)) ≤ y6_100 then
  some (z_awayUpper_100, z_then_100)
  else
  (aget 4096 z_now_55 y6_100).bind (fun u16 =>
  (if (lg_cmp u16 (0 : Int64)) ≤ 0 then
  some (z_awayUpper_100, z_then_100)
  else
  (f_X11_passOne v_seats v_bearIs z_awayUpper_100 v_far v_worths z_now_55 z_then_100 y6_100 x2).bind (fun u20 =>
  some (u20.1, u20.2))).bind (fun w17 =>
  f_X11_passMinutes_100 v_seats v_bearIs v_far v_worths x2 z_now_55 n (y6_100 + 1) w17.1 w17.2))) := rfl
def f_X11_passMinutes_135 (v_seats : Int32) (u21 : Int64 × (Nat → Int64)) : Nat → Int32 → (Nat → Int64) → Option ((Nat → Int64))
  | 0, _, _ => none
  | n + 1, y6_135, z_now_135 =>
  if ((1 : Int32) <<< (v_seats &&& 31)) ≤ y6_135 then
  some (z_now_135)
  else
  (aget 4096 u21.2 y6_135).bind (fun u24 =>
  (asetL 4096 z_now_135 y6_135 u24).bind (fun u25 =>
  f_X11_passMinutes_135 v_seats u21 n (y6_135 + 1) u25))
theorem f_X11_passMinutes_135_s (v_seats : Int32) (u21 : Int64 × (Nat → Int64)) (n : Nat) (y6_135 : Int32) (z_now_135 : Nat → Int64) : f_X11_passMinutes_135 v_seats u21 (n + 1) y6_135 z_now_135 =
  (if ((1 : Int32) <<< (v_seats &&& 31)) ≤ y6_135 then
  some (z_now_135)
  else
  (aget 4096 u21.2 y6_135).bind (fun u24 =>
  (asetL 4096 z_now_135 y6_135 u24).bind (fun u25 =>
  f_X11_passMinutes_135 v_seats u21 n (y6_135 + 1) u25))) := rfl
def f_X11_passMinutes_55 (v_seats : Int32) (v_bearIs : Int32) (v_far : Nat → Int32) (v_worths : Nat → Int32) (x2 : Int32) (x3 : Int32) : Nat → Int32 → Int64 → Int64 → (Nat → Int64) → (Nat → Int64) → Option (Int64 × Int64 × (Nat → Int64) × (Nat → Int64))
  | 0, _, _, _, _, _ => none
  | n + 1, y5_55, z_awayUpper_55, z_lower_55, z_now_55, z_then_55 =>
  if x3 ≤ y5_55 then
  some (z_awayUpper_55, z_lower_55, z_now_55, z_then_55)
  else
  (f_X11_passMinutes_64 v_seats FU (0 : Int32) z_then_55).bind (fun u13 =>
  (f_X11_passMinutes_100 v_seats v_bearIs v_far v_worths x2 z_now_55 FU (0 : Int32) (z_awayUpper_55 * (55440 : Int64)) u13).bind (fun u21 =>
  (f_X11_passMinutes_135 v_seats u21 FU (0 : Int32) z_now_55).bind (fun u26 =>
  f_X11_passMinutes_55 v_seats v_bearIs v_far v_worths x2 x3 n (y5_55 + 1) u21.1 (z_lower_55 * (55440 : Int64)) u26 u21.2)))
theorem f_X11_passMinutes_55_s (v_seats : Int32) (v_bearIs : Int32) (v_far : Nat → Int32) (v_worths : Nat → Int32) (x2 : Int32) (x3 : Int32) (n : Nat) (y5_55 : Int32) (z_awayUpper_55 : Int64) (z_lower_55 : Int64) (z_now_55 : Nat → Int64) (z_then_55 : Nat → Int64) : f_X11_passMinutes_55 v_seats v_bearIs v_far v_worths x2 x3 (n + 1) y5_55 z_awayUpper_55 z_lower_55 z_now_55 z_then_55 =
  (if x3 ≤ y5_55 then
  some (z_awayUpper_55, z_lower_55, z_now_55, z_then_55)
  else
  (f_X11_passMinutes_64 v_seats FU (0 : Int32) z_then_55).bind (fun u13 =>
  (f_X11_passMinutes_100 v_seats v_bearIs v_far v_worths x2 z_now_55 FU (0 : Int32) (z_awayUpper_55 * (55440 : Int64)) u13).bind (fun u21 =>
  (f_X11_passMinutes_135 v_seats u21 FU (0 : Int32) z_now_55).bind (fun u26 =>
  f_X11_passMinutes_55 v_seats v_bearIs v_far v_worths x2 x3 n (y5_55 + 1) u21.1 (z_lower_55 * (55440 : Int64)) u26 u21.2)))) := rfl
def f_X11_passMinutes (v_seats : Int32) (v_bearIs : Int32) (v_now : Nat → Int64) (v_then : Nat → Int64) (v_far : Nat → Int32) (v_worths : Nat → Int32) (x1 : Int32) (x2 : Int32) (x3 : Int32) : Option (Int64 × Int64 × (Nat → Int64) × (Nat → Int64)) :=
  (f_X11_passMinutes_11 v_seats x1 FU (0 : Int32) v_now).bind (fun u7 =>
  (f_X11_passMinutes_55 v_seats v_bearIs v_far v_worths x2 x3 FU (0 : Int32) (0 : Int64) (1 : Int64) u7 v_then).bind (fun u27 =>
  some (u27.1, u27.2.1, u27.2.2.1, u27.2.2.2)))
set_option maxHeartbeats 4000000 in
set_option maxRecDepth 100000 in
theorem c_X11_passMinutes (l : Launch) (D : va_G) (cI cJ cZ cO : ClassId) (a_t a_signs a_links a_worths a_far a_mays a_rowsTo a_endIn a_ends a_pairSets a_awayIn a_now a_then a_comers a_seen a_seenMany a_kept a_isKept : Nat) (v_signMany : Int32) (v_seats : Int32) (v_bearIs : Int32) (v_rowsAll : Int64) (v_awayUpper : Int64) (v_lower : Int64) (v_comerMany : Int32) (v_seenRows : Int32) (v_place : Int32) (v_isWriting : Int32) (v_now : Nat → Int64) (v_then : Nat → Int64) (v_far : Nat → Int32) (v_worths : Nat → Int32) (x1 : Int32) (x2 : Int32) (x3 : Int32) (out : Int64 × Int64 × (Nat → Int64) × (Nat → Int64)) (hf : f_X11_passMinutes v_seats v_bearIs v_now v_then v_far v_worths x1 x2 x3 = some out) : MetR l yX11_passMinutes (Cond.code yX11_passMinutes cX11_passMinutes 7 none :: tbG) { frames := 5, cells := 0, slots := 0, locals := 121 } D (tyL cI cJ cZ cO) [.ref a_t, .int x1, .int x2, .int x3] [(a_t, .inr (11, [.ref a_signs, .int v_signMany, .int v_seats, .ref a_links, .ref a_worths, .int v_bearIs, .ref a_far, .ref a_mays, .ref a_rowsTo, .ref a_endIn, .long v_rowsAll, .ref a_ends, .ref a_pairSets, .ref a_awayIn, .ref a_now, .ref a_then, .long v_awayUpper, .long v_lower, .ref a_comers, .int v_comerMany, .ref a_seen, .ref a_seenMany, .int v_seenRows, .ref a_kept, .ref a_isKept, .int v_place, .int v_isWriting])), (a_now, eJ cJ 4096 v_now), (a_then, eJ cJ 4096 v_then), (a_far, eI cI 144 v_far), (a_worths, eI cI 12 v_worths)] none [(a_t, .inr (11, [.ref a_signs, .int v_signMany, .int v_seats, .ref a_links, .ref a_worths, .int v_bearIs, .ref a_far, .ref a_mays, .ref a_rowsTo, .ref a_endIn, .long v_rowsAll, .ref a_ends, .ref a_pairSets, .ref a_awayIn, .ref a_now, .ref a_then, .long out.1, .long out.2.1, .ref a_comers, .int v_comerMany, .ref a_seen, .ref a_seenMany, .int v_seenRows, .ref a_kept, .ref a_isKept, .int v_place, .int v_isWriting])), (a_now, eJ cJ 4096 out.2.2.1), (a_then, eJ cJ 4096 out.2.2.2), (a_far, eI cI 144 v_far), (a_worths, eI cI 12 v_worths)] := by
  refine ba_ofV RX11 [(0, .ref a_t), (1, .int x1), (2, .int x2), (3, .int x3)] (by decide +kernel) rfl (Nat.le_of_ble_eq_true rfl) rfl ?_
  intro p e s m args below meth c Q A Cx hP ret ls hl
  obtain ⟨⟨hx, hb, hml, hown, hts⟩, hK, hD, hA⟩ := id Cx
  have hS : va_S A s.heap s.heap [] := va_S.rf
  unfold f_X11_passMinutes at hf
  refine lv_iconst (v := 1) hx hb dX11_passMinutes_0 (by decide) ?_
  refine lv_aload_n hx hb dX11_passMinutes_1 rfl (lv_at hl 0 rfl) ?_
  refine gf_X11_63 Cx hP 0 rfl rfl dX11_passMinutes_2 ?_
  refine lv_ishl hx hb dX11_passMinutes_5 ?_
  refine lv_istore (lv' := [(4, .int ((1 : Int32) <<< (v_seats &&& 31))), (0, .ref a_t), (1, .int x1), (2, .int x2), (3, .int x3)]) hx hb dX11_passMinutes_6 hl (by decide) rfl (fun ls hl => ?_)
  refine lv_iconst (v := 0) hx hb dX11_passMinutes_8 (by decide) ?_
  refine lv_istore (lv' := [(5, .int (0 : Int32)), (4, .int ((1 : Int32) <<< (v_seats &&& 31))), (0, .ref a_t), (1, .int x1), (2, .int x2), (3, .int x3)]) hx hb dX11_passMinutes_9 hl (by decide) rfl (fun ls hl => ?_)
  have L11_1 : ∀ (n : Nat) (y5_11 : Int32) (z_now_11 : Nat → Int64) (o : (Nat → Int64)) (H : Heap) (locs : List Loc) (ls : Array Slot), f_X11_passMinutes_11 v_seats x1 n y5_11 z_now_11 = some o → va_P D vwCl [(a_t, .inr (11, [.ref a_signs, .int v_signMany, .int v_seats, .ref a_links, .ref a_worths, .int v_bearIs, .ref a_far, .ref a_mays, .ref a_rowsTo, .ref a_endIn, .long v_rowsAll, .ref a_ends, .ref a_pairSets, .ref a_awayIn, .ref a_now, .ref a_then, .long v_awayUpper, .long v_lower, .ref a_comers, .int v_comerMany, .ref a_seen, .ref a_seenMany, .int v_seenRows, .ref a_kept, .ref a_isKept, .int v_place, .int v_isWriting])), (a_now, eJ cJ 4096 z_now_11), (a_then, eJ cJ 4096 v_then), (a_far, eI cI 144 v_far), (a_worths, eI cI 12 v_worths)] H → va_S A s.heap H locs → lv_has ls 7 [(0, .ref a_t), (1, .int x1), (2, .int x2), (3, .int x3), (4, .int ((1 : Int32) <<< (v_seats &&& 31))), (5, .int y5_11)] → (∀ (H : Heap) (locs : List Loc) (ls : Array Slot), va_P D vwCl [(a_t, .inr (11, [.ref a_signs, .int v_signMany, .int v_seats, .ref a_links, .ref a_worths, .int v_bearIs, .ref a_far, .ref a_mays, .ref a_rowsTo, .ref a_endIn, .long v_rowsAll, .ref a_ends, .ref a_pairSets, .ref a_awayIn, .ref a_now, .ref a_then, .long v_awayUpper, .long v_lower, .ref a_comers, .int v_comerMany, .ref a_seen, .ref a_seenMany, .int v_seenRows, .ref a_kept, .ref a_isKept, .int v_place, .int v_isWriting])), (a_now, eJ cJ 4096 o), (a_then, eJ cJ 4096 v_then), (a_far, eI cI 144 v_far), (a_worths, eI cI 12 v_worths)] H → va_S A s.heap H locs → lv_has ls 7 [(0, .ref a_t), (2, .int x2), (3, .int x3), (4, .int ((1 : Int32) <<< (v_seats &&& 31)))] → W p l e { frames := 5, cells := 0, slots := 0, locals := 121 } s m args below meth c H locs 0 0 Q (F0 m 42 ls [])) → W p l e { frames := 5, cells := 0, slots := 0, locals := 121 } s m args below meth c H locs 0 0 Q (F0 m 11 ls []) := by
    intro n
    induction n with
    | zero => intro y5_11 z_now_11 o H locs ls hf; exact (ob_n hf).elim
    | succ n ih =>
      intro y5_11 z_now_11 o H locs ls hf hP hS hl kk
      rw [f_X11_passMinutes_11_s] at hf
      refine lv_iload hx hb dX11_passMinutes_11 (lv_at hl 5 rfl) ?_
      refine lv_iload hx hb dX11_passMinutes_13 (lv_at hl 4 rfl) ?_
      refine lv_icmp_ge (tgt := 42) hx hb dX11_passMinutes_15 (by decide) (fun c2 => ?_) (fun c2 => ?_)
      · have hf := ob_t c2 hf
        obtain rfl := Option.some.inj hf
        exact kk _ _ _ hP hS (lv_sub hl [0, 2, 3, 4] rfl)
      · have hf := ob_f c2 hf
        refine lv_aload_n hx hb dX11_passMinutes_18 rfl (lv_at hl 0 rfl) ?_
        refine gf_X11_41 Cx hP 0 rfl rfl dX11_passMinutes_19 ?_
        refine lv_iload hx hb dX11_passMinutes_22 (lv_at hl 5 rfl) ?_
        refine lv_iload hx hb dX11_passMinutes_24 (lv_at hl 5 rfl) ?_
        refine lv_iload_n hx hb dX11_passMinutes_26 rfl (lv_at hl 1 rfl) ?_
        refine ob_J (P := fun w3 => ∀ (H : Heap) (locs : List Loc) (ls : Array Slot), va_P D vwCl [(a_t, .inr (11, [.ref a_signs, .int v_signMany, .int v_seats, .ref a_links, .ref a_worths, .int v_bearIs, .ref a_far, .ref a_mays, .ref a_rowsTo, .ref a_endIn, .long v_rowsAll, .ref a_ends, .ref a_pairSets, .ref a_awayIn, .ref a_now, .ref a_then, .long v_awayUpper, .long v_lower, .ref a_comers, .int v_comerMany, .ref a_seen, .ref a_seenMany, .int v_seenRows, .ref a_kept, .ref a_isKept, .int v_place, .int v_isWriting])), (a_now, eJ cJ 4096 z_now_11), (a_then, eJ cJ 4096 v_then), (a_far, eI cI 144 v_far), (a_worths, eI cI 12 v_worths)] H → va_S A s.heap H locs → lv_has ls 7 [(0, .ref a_t), (1, .int x1), (2, .int x2), (3, .int x3), (4, .int ((1 : Int32) <<< (v_seats &&& 31))), (5, .int y5_11)] → W p l e { frames := 5, cells := 0, slots := 0, locals := 121 } s m args below meth c H locs 0 0 Q (F0 m 35 ls [.long w3, .int y5_11, .ref a_now])) hf ?_ ?_
        · intro w3 hf H locs ls hP hS hl
          obtain ⟨u5, hu5, hf⟩ := ob_b hf
          refine ba_last (X' := [(a_t, .inr (11, [.ref a_signs, .int v_signMany, .int v_seats, .ref a_links, .ref a_worths, .int v_bearIs, .ref a_far, .ref a_mays, .ref a_rowsTo, .ref a_endIn, .long v_rowsAll, .ref a_ends, .ref a_pairSets, .ref a_awayIn, .ref a_now, .ref a_then, .long v_awayUpper, .long v_lower, .ref a_comers, .int v_comerMany, .ref a_seen, .ref a_seenMany, .int v_seenRows, .ref a_kept, .ref a_isKept, .int v_place, .int v_isWriting])), (a_now, eJ cJ 4096 u5), (a_then, eJ cJ 4096 v_then), (a_far, eI cI 144 v_far), (a_worths, eI cI 12 v_worths)]) Cx hP hS rfl 1 rfl rfl hu5 dX11_passMinutes_35 (fun H locs hP hS => ?_)
          refine lv_iinc (v := (y5_11 + 1)) (lv' := [(5, .int (y5_11 + 1)), (0, .ref a_t), (1, .int x1), (2, .int x2), (3, .int x3), (4, .int ((1 : Int32) <<< (v_seats &&& 31)))]) hx hb dX11_passMinutes_36 hl (k := 5) rfl rfl (by decide) rfl (fun ls hl => ?_)
          refine lv_goto (tgt := 11) hx hb dX11_passMinutes_39 (by decide) ?_
          exact ih (y5_11 + 1) u5 _ _ _ _ hf hP hS (lv_sub hl [1, 2, 3, 4, 5, 0] rfl) kk
        · intro J35_4 hf
          refine lv_icmp_ne (tgt := 34) hx hb dX11_passMinutes_27 (by decide) (fun c6 => ?_) (fun c6 => ?_)
          · have hf := ob_fk c6 hf
            refine lv_lconst (v := 0) hx hb dX11_passMinutes_34 (by decide) ?_
            exact J35_4 (0 : Int64) hf _ _ _ hP hS (lv_sub hl [0, 1, 2, 3, 4, 5] rfl)
          · have hf := ob_tk c6 hf
            refine lv_lconst (v := 1) hx hb dX11_passMinutes_30 (by decide) ?_
            refine lv_goto (tgt := 35) hx hb dX11_passMinutes_31 (by decide) ?_
            exact J35_4 (1 : Int64) hf _ _ _ hP hS (lv_sub hl [0, 1, 2, 3, 4, 5] rfl)
  obtain ⟨u7, hu7, hf⟩ := ob_b hf
  refine L11_1 FU (0 : Int32) v_now u7 _ _ _ hu7 hP hS (lv_sub hl [2, 3, 4, 5, 1, 0] rfl) ?_
  intro H locs ls hP hS hl
  refine lv_aload_n hx hb dX11_passMinutes_42 rfl (lv_at hl 0 rfl) ?_
  refine lv_lconst (v := 0) hx hb dX11_passMinutes_43 (by decide) ?_
  refine pf_X11_197 (X' := [(a_t, .inr (11, [.ref a_signs, .int v_signMany, .int v_seats, .ref a_links, .ref a_worths, .int v_bearIs, .ref a_far, .ref a_mays, .ref a_rowsTo, .ref a_endIn, .long v_rowsAll, .ref a_ends, .ref a_pairSets, .ref a_awayIn, .ref a_now, .ref a_then, .long (0 : Int64), .long v_lower, .ref a_comers, .int v_comerMany, .ref a_seen, .ref a_seenMany, .int v_seenRows, .ref a_kept, .ref a_isKept, .int v_place, .int v_isWriting])), (a_now, eJ cJ 4096 u7), (a_then, eJ cJ 4096 v_then), (a_far, eI cI 144 v_far), (a_worths, eI cI 12 v_worths)]) Cx hP hS rfl 0 rfl rfl (Nat.le_of_ble_eq_true rfl) dX11_passMinutes_44 (fun H locs hP hS => ?_)
  refine lv_aload_n hx hb dX11_passMinutes_47 rfl (lv_at hl 0 rfl) ?_
  refine lv_lconst (v := 1) hx hb dX11_passMinutes_48 (by decide) ?_
  refine pf_X11_200 (X' := [(a_t, .inr (11, [.ref a_signs, .int v_signMany, .int v_seats, .ref a_links, .ref a_worths, .int v_bearIs, .ref a_far, .ref a_mays, .ref a_rowsTo, .ref a_endIn, .long v_rowsAll, .ref a_ends, .ref a_pairSets, .ref a_awayIn, .ref a_now, .ref a_then, .long (0 : Int64), .long (1 : Int64), .ref a_comers, .int v_comerMany, .ref a_seen, .ref a_seenMany, .int v_seenRows, .ref a_kept, .ref a_isKept, .int v_place, .int v_isWriting])), (a_now, eJ cJ 4096 u7), (a_then, eJ cJ 4096 v_then), (a_far, eI cI 144 v_far), (a_worths, eI cI 12 v_worths)]) Cx hP hS rfl 0 rfl rfl (Nat.le_of_ble_eq_true rfl) dX11_passMinutes_49 (fun H locs hP hS => ?_)
  refine lv_iconst (v := 0) hx hb dX11_passMinutes_52 (by decide) ?_
  refine lv_istore (lv' := [(5, .int (0 : Int32)), (0, .ref a_t), (2, .int x2), (3, .int x3), (4, .int ((1 : Int32) <<< (v_seats &&& 31)))]) hx hb dX11_passMinutes_53 hl (by decide) rfl (fun ls hl => ?_)
  have L55_8 : ∀ (n : Nat) (y5_55 : Int32) (z_awayUpper_55 : Int64) (z_lower_55 : Int64) (z_now_55 : Nat → Int64) (z_then_55 : Nat → Int64) (o : Int64 × Int64 × (Nat → Int64) × (Nat → Int64)) (H : Heap) (locs : List Loc) (ls : Array Slot), f_X11_passMinutes_55 v_seats v_bearIs v_far v_worths x2 x3 n y5_55 z_awayUpper_55 z_lower_55 z_now_55 z_then_55 = some o → va_P D vwCl [(a_t, .inr (11, [.ref a_signs, .int v_signMany, .int v_seats, .ref a_links, .ref a_worths, .int v_bearIs, .ref a_far, .ref a_mays, .ref a_rowsTo, .ref a_endIn, .long v_rowsAll, .ref a_ends, .ref a_pairSets, .ref a_awayIn, .ref a_now, .ref a_then, .long z_awayUpper_55, .long z_lower_55, .ref a_comers, .int v_comerMany, .ref a_seen, .ref a_seenMany, .int v_seenRows, .ref a_kept, .ref a_isKept, .int v_place, .int v_isWriting])), (a_now, eJ cJ 4096 z_now_55), (a_then, eJ cJ 4096 z_then_55), (a_far, eI cI 144 v_far), (a_worths, eI cI 12 v_worths)] H → va_S A s.heap H locs → lv_has ls 7 [(0, .ref a_t), (2, .int x2), (3, .int x3), (4, .int ((1 : Int32) <<< (v_seats &&& 31))), (5, .int y5_55)] → (∀ (H : Heap) (locs : List Loc) (ls : Array Slot), va_P D vwCl [(a_t, .inr (11, [.ref a_signs, .int v_signMany, .int v_seats, .ref a_links, .ref a_worths, .int v_bearIs, .ref a_far, .ref a_mays, .ref a_rowsTo, .ref a_endIn, .long v_rowsAll, .ref a_ends, .ref a_pairSets, .ref a_awayIn, .ref a_now, .ref a_then, .long o.1, .long o.2.1, .ref a_comers, .int v_comerMany, .ref a_seen, .ref a_seenMany, .int v_seenRows, .ref a_kept, .ref a_isKept, .int v_place, .int v_isWriting])), (a_now, eJ cJ 4096 o.2.2.1), (a_then, eJ cJ 4096 o.2.2.2), (a_far, eI cI 144 v_far), (a_worths, eI cI 12 v_worths)] H → va_S A s.heap H locs → lv_has ls 7 [] → W p l e { frames := 5, cells := 0, slots := 0, locals := 121 } s m args below meth c H locs 0 0 Q (F0 m 180 ls [])) → W p l e { frames := 5, cells := 0, slots := 0, locals := 121 } s m args below meth c H locs 0 0 Q (F0 m 55 ls []) := by
    intro n
    induction n with
    | zero => intro y5_55 z_awayUpper_55 z_lower_55 z_now_55 z_then_55 o H locs ls hf; exact (ob_n hf).elim
    | succ n ih =>
      intro y5_55 z_awayUpper_55 z_lower_55 z_now_55 z_then_55 o H locs ls hf hP hS hl kk
      rw [f_X11_passMinutes_55_s] at hf
      refine lv_iload hx hb dX11_passMinutes_55 (lv_at hl 4 rfl) ?_
      refine lv_iload_n hx hb dX11_passMinutes_57 rfl (lv_at hl 2 rfl) ?_
      refine lv_icmp_ge (tgt := 180) hx hb dX11_passMinutes_58 (by decide) (fun c9 => ?_) (fun c9 => ?_)
      · have hf := ob_t c9 hf
        obtain rfl := Option.some.inj hf
        exact kk _ _ _ hP hS (lv_sub hl [] rfl)
      · have hf := ob_f c9 hf
        refine lv_iconst (v := 0) hx hb dX11_passMinutes_61 (by decide) ?_
        refine lv_istore (lv' := [(6, .int (0 : Int32)), (0, .ref a_t), (2, .int x2), (3, .int x3), (4, .int ((1 : Int32) <<< (v_seats &&& 31))), (5, .int y5_55)]) hx hb dX11_passMinutes_62 hl (by decide) rfl (fun ls hl => ?_)
        have L64_10 : ∀ (n : Nat) (y6_64 : Int32) (z_then_64 : Nat → Int64) (o : (Nat → Int64)) (H : Heap) (locs : List Loc) (ls : Array Slot), f_X11_passMinutes_64 v_seats n y6_64 z_then_64 = some o → va_P D vwCl [(a_t, .inr (11, [.ref a_signs, .int v_signMany, .int v_seats, .ref a_links, .ref a_worths, .int v_bearIs, .ref a_far, .ref a_mays, .ref a_rowsTo, .ref a_endIn, .long v_rowsAll, .ref a_ends, .ref a_pairSets, .ref a_awayIn, .ref a_now, .ref a_then, .long z_awayUpper_55, .long z_lower_55, .ref a_comers, .int v_comerMany, .ref a_seen, .ref a_seenMany, .int v_seenRows, .ref a_kept, .ref a_isKept, .int v_place, .int v_isWriting])), (a_now, eJ cJ 4096 z_now_55), (a_then, eJ cJ 4096 z_then_64), (a_far, eI cI 144 v_far), (a_worths, eI cI 12 v_worths)] H → va_S A s.heap H locs → lv_has ls 7 [(0, .ref a_t), (2, .int x2), (3, .int x3), (4, .int ((1 : Int32) <<< (v_seats &&& 31))), (5, .int y5_55), (6, .int y6_64)] → (∀ (H : Heap) (locs : List Loc) (ls : Array Slot), va_P D vwCl [(a_t, .inr (11, [.ref a_signs, .int v_signMany, .int v_seats, .ref a_links, .ref a_worths, .int v_bearIs, .ref a_far, .ref a_mays, .ref a_rowsTo, .ref a_endIn, .long v_rowsAll, .ref a_ends, .ref a_pairSets, .ref a_awayIn, .ref a_now, .ref a_then, .long z_awayUpper_55, .long z_lower_55, .ref a_comers, .int v_comerMany, .ref a_seen, .ref a_seenMany, .int v_seenRows, .ref a_kept, .ref a_isKept, .int v_place, .int v_isWriting])), (a_now, eJ cJ 4096 z_now_55), (a_then, eJ cJ 4096 o), (a_far, eI cI 144 v_far), (a_worths, eI cI 12 v_worths)] H → va_S A s.heap H locs → lv_has ls 7 [(0, .ref a_t), (2, .int x2), (3, .int x3), (4, .int ((1 : Int32) <<< (v_seats &&& 31))), (5, .int y5_55)] → W p l e { frames := 5, cells := 0, slots := 0, locals := 121 } s m args below meth c H locs 0 0 Q (F0 m 85 ls [])) → W p l e { frames := 5, cells := 0, slots := 0, locals := 121 } s m args below meth c H locs 0 0 Q (F0 m 64 ls []) := by
          intro n
          induction n with
          | zero => intro y6_64 z_then_64 o H locs ls hf; exact (ob_n hf).elim
          | succ n ih =>
            intro y6_64 z_then_64 o H locs ls hf hP hS hl kk
            rw [f_X11_passMinutes_64_s] at hf
            refine lv_iload hx hb dX11_passMinutes_64 (lv_at hl 5 rfl) ?_
            refine lv_iload hx hb dX11_passMinutes_66 (lv_at hl 3 rfl) ?_
            refine lv_icmp_ge (tgt := 85) hx hb dX11_passMinutes_68 (by decide) (fun c11 => ?_) (fun c11 => ?_)
            · have hf := ob_t c11 hf
              obtain rfl := Option.some.inj hf
              exact kk _ _ _ hP hS (lv_sub hl [0, 1, 2, 3, 4] rfl)
            · have hf := ob_f c11 hf
              refine lv_aload_n hx hb dX11_passMinutes_71 rfl (lv_at hl 0 rfl) ?_
              refine gf_X11_44 Cx hP 0 rfl rfl dX11_passMinutes_72 ?_
              refine lv_iload hx hb dX11_passMinutes_75 (lv_at hl 5 rfl) ?_
              refine lv_lconst (v := 0) hx hb dX11_passMinutes_77 (by decide) ?_
              obtain ⟨u12, hu12, hf⟩ := ob_b hf
              refine ba_last (X' := [(a_t, .inr (11, [.ref a_signs, .int v_signMany, .int v_seats, .ref a_links, .ref a_worths, .int v_bearIs, .ref a_far, .ref a_mays, .ref a_rowsTo, .ref a_endIn, .long v_rowsAll, .ref a_ends, .ref a_pairSets, .ref a_awayIn, .ref a_now, .ref a_then, .long z_awayUpper_55, .long z_lower_55, .ref a_comers, .int v_comerMany, .ref a_seen, .ref a_seenMany, .int v_seenRows, .ref a_kept, .ref a_isKept, .int v_place, .int v_isWriting])), (a_now, eJ cJ 4096 z_now_55), (a_then, eJ cJ 4096 u12), (a_far, eI cI 144 v_far), (a_worths, eI cI 12 v_worths)]) Cx hP hS rfl 2 rfl rfl hu12 dX11_passMinutes_78 (fun H locs hP hS => ?_)
              refine lv_iinc (v := (y6_64 + 1)) (lv' := [(6, .int (y6_64 + 1)), (0, .ref a_t), (2, .int x2), (3, .int x3), (4, .int ((1 : Int32) <<< (v_seats &&& 31))), (5, .int y5_55)]) hx hb dX11_passMinutes_79 hl (k := 5) rfl rfl (by decide) rfl (fun ls hl => ?_)
              refine lv_goto (tgt := 64) hx hb dX11_passMinutes_82 (by decide) ?_
              exact ih (y6_64 + 1) u12 _ _ _ _ hf hP hS (lv_sub hl [1, 2, 3, 4, 5, 0] rfl) kk
        obtain ⟨u13, hu13, hf⟩ := ob_b hf
        refine L64_10 FU (0 : Int32) z_then_55 u13 _ _ _ hu13 hP hS (lv_sub hl [1, 2, 3, 4, 5, 0] rfl) ?_
        intro H locs ls hP hS hl
        refine lv_aload_n hx hb dX11_passMinutes_85 rfl (lv_at hl 0 rfl) ?_
        refine lv_dup hx hb dX11_passMinutes_86 rfl ?_
        refine gf_X11_197 Cx hP 0 rfl rfl dX11_passMinutes_87 ?_
        refine lv_ldc2 hx hb hown (hts _ kw_1040) dX11_passMinutes_90 ?_
        refine lv_lmul hx hb dX11_passMinutes_93 ?_
        refine pf_X11_197 (X' := [(a_t, .inr (11, [.ref a_signs, .int v_signMany, .int v_seats, .ref a_links, .ref a_worths, .int v_bearIs, .ref a_far, .ref a_mays, .ref a_rowsTo, .ref a_endIn, .long v_rowsAll, .ref a_ends, .ref a_pairSets, .ref a_awayIn, .ref a_now, .ref a_then, .long (z_awayUpper_55 * (55440 : Int64)), .long z_lower_55, .ref a_comers, .int v_comerMany, .ref a_seen, .ref a_seenMany, .int v_seenRows, .ref a_kept, .ref a_isKept, .int v_place, .int v_isWriting])), (a_now, eJ cJ 4096 z_now_55), (a_then, eJ cJ 4096 u13), (a_far, eI cI 144 v_far), (a_worths, eI cI 12 v_worths)]) Cx hP hS rfl 0 rfl rfl (Nat.le_of_ble_eq_true rfl) dX11_passMinutes_94 (fun H locs hP hS => ?_)
        refine lv_iconst (v := 0) hx hb dX11_passMinutes_97 (by decide) ?_
        refine lv_istore (lv' := [(6, .int (0 : Int32)), (0, .ref a_t), (2, .int x2), (3, .int x3), (4, .int ((1 : Int32) <<< (v_seats &&& 31))), (5, .int y5_55)]) hx hb dX11_passMinutes_98 hl (by decide) rfl (fun ls hl => ?_)
        have L100_14 : ∀ (n : Nat) (y6_100 : Int32) (z_awayUpper_100 : Int64) (z_then_100 : Nat → Int64) (o : Int64 × (Nat → Int64)) (H : Heap) (locs : List Loc) (ls : Array Slot), f_X11_passMinutes_100 v_seats v_bearIs v_far v_worths x2 z_now_55 n y6_100 z_awayUpper_100 z_then_100 = some o → va_P D vwCl [(a_t, .inr (11, [.ref a_signs, .int v_signMany, .int v_seats, .ref a_links, .ref a_worths, .int v_bearIs, .ref a_far, .ref a_mays, .ref a_rowsTo, .ref a_endIn, .long v_rowsAll, .ref a_ends, .ref a_pairSets, .ref a_awayIn, .ref a_now, .ref a_then, .long z_awayUpper_100, .long z_lower_55, .ref a_comers, .int v_comerMany, .ref a_seen, .ref a_seenMany, .int v_seenRows, .ref a_kept, .ref a_isKept, .int v_place, .int v_isWriting])), (a_now, eJ cJ 4096 z_now_55), (a_then, eJ cJ 4096 z_then_100), (a_far, eI cI 144 v_far), (a_worths, eI cI 12 v_worths)] H → va_S A s.heap H locs → lv_has ls 7 [(0, .ref a_t), (2, .int x2), (3, .int x3), (4, .int ((1 : Int32) <<< (v_seats &&& 31))), (5, .int y5_55), (6, .int y6_100)] → (∀ (H : Heap) (locs : List Loc) (ls : Array Slot), va_P D vwCl [(a_t, .inr (11, [.ref a_signs, .int v_signMany, .int v_seats, .ref a_links, .ref a_worths, .int v_bearIs, .ref a_far, .ref a_mays, .ref a_rowsTo, .ref a_endIn, .long v_rowsAll, .ref a_ends, .ref a_pairSets, .ref a_awayIn, .ref a_now, .ref a_then, .long o.1, .long z_lower_55, .ref a_comers, .int v_comerMany, .ref a_seen, .ref a_seenMany, .int v_seenRows, .ref a_kept, .ref a_isKept, .int v_place, .int v_isWriting])), (a_now, eJ cJ 4096 z_now_55), (a_then, eJ cJ 4096 o.2), (a_far, eI cI 144 v_far), (a_worths, eI cI 12 v_worths)] H → va_S A s.heap H locs → lv_has ls 7 [(0, .ref a_t), (2, .int x2), (3, .int x3), (4, .int ((1 : Int32) <<< (v_seats &&& 31))), (5, .int y5_55)] → W p l e { frames := 5, cells := 0, slots := 0, locals := 121 } s m args below meth c H locs 0 0 Q (F0 m 132 ls [])) → W p l e { frames := 5, cells := 0, slots := 0, locals := 121 } s m args below meth c H locs 0 0 Q (F0 m 100 ls []) := by
          intro n
          induction n with
          | zero => intro y6_100 z_awayUpper_100 z_then_100 o H locs ls hf; exact (ob_n hf).elim
          | succ n ih =>
            intro y6_100 z_awayUpper_100 z_then_100 o H locs ls hf hP hS hl kk
            rw [f_X11_passMinutes_100_s] at hf
            refine lv_iload hx hb dX11_passMinutes_100 (lv_at hl 5 rfl) ?_
            refine lv_iload hx hb dX11_passMinutes_102 (lv_at hl 3 rfl) ?_
            refine lv_icmp_ge (tgt := 132) hx hb dX11_passMinutes_104 (by decide) (fun c15 => ?_) (fun c15 => ?_)
            · have hf := ob_t c15 hf
              obtain rfl := Option.some.inj hf
              exact kk _ _ _ hP hS (lv_sub hl [0, 1, 2, 3, 4] rfl)
            · have hf := ob_f c15 hf
              refine lv_aload_n hx hb dX11_passMinutes_107 rfl (lv_at hl 0 rfl) ?_
              refine gf_X11_41 Cx hP 0 rfl rfl dX11_passMinutes_108 ?_
              refine lv_iload hx hb dX11_passMinutes_111 (lv_at hl 5 rfl) ?_
              obtain ⟨u16, hu16, hf⟩ := ob_b hf
              refine ba_lald Cx hP 1 rfl hu16 dX11_passMinutes_113 ?_
              refine lv_lconst (v := 0) hx hb dX11_passMinutes_114 (by decide) ?_
              refine W.lcmp hx hb dX11_passMinutes_115 ?_
              refine ob_J (P := fun w17 => ∀ (H : Heap) (locs : List Loc) (ls : Array Slot), va_P D vwCl [(a_t, .inr (11, [.ref a_signs, .int v_signMany, .int v_seats, .ref a_links, .ref a_worths, .int v_bearIs, .ref a_far, .ref a_mays, .ref a_rowsTo, .ref a_endIn, .long v_rowsAll, .ref a_ends, .ref a_pairSets, .ref a_awayIn, .ref a_now, .ref a_then, .long w17.1, .long z_lower_55, .ref a_comers, .int v_comerMany, .ref a_seen, .ref a_seenMany, .int v_seenRows, .ref a_kept, .ref a_isKept, .int v_place, .int v_isWriting])), (a_now, eJ cJ 4096 z_now_55), (a_then, eJ cJ 4096 w17.2), (a_far, eI cI 144 v_far), (a_worths, eI cI 12 v_worths)] H → va_S A s.heap H locs → lv_has ls 7 [(0, .ref a_t), (2, .int x2), (3, .int x3), (4, .int ((1 : Int32) <<< (v_seats &&& 31))), (5, .int y5_55), (6, .int y6_100)] → W p l e { frames := 5, cells := 0, slots := 0, locals := 121 } s m args below meth c H locs 0 0 Q (F0 m 126 ls [])) hf ?_ ?_
              · intro w17 hf H locs ls hP hS hl
                refine lv_iinc (v := (y6_100 + 1)) (lv' := [(6, .int (y6_100 + 1)), (0, .ref a_t), (2, .int x2), (3, .int x3), (4, .int ((1 : Int32) <<< (v_seats &&& 31))), (5, .int y5_55)]) hx hb dX11_passMinutes_126 hl (k := 5) rfl rfl (by decide) rfl (fun ls hl => ?_)
                refine lv_goto (tgt := 100) hx hb dX11_passMinutes_129 (by decide) ?_
                exact ih (y6_100 + 1) w17.1 w17.2 _ _ _ _ hf hP hS (lv_sub hl [1, 2, 3, 4, 5, 0] rfl) kk
              · intro J126_18 hf
                refine lv_if_le (tgt := 126) hx hb dX11_passMinutes_116 (by decide) (fun c19 => ?_) (fun c19 => ?_)
                · have hf := ob_tk c19 hf
                  exact J126_18 (z_awayUpper_100, z_then_100) hf _ _ _ hP hS (lv_sub hl [0, 1, 2, 3, 4, 5] rfl)
                · have hf := ob_fk c19 hf
                  refine lv_aload_n hx hb dX11_passMinutes_119 rfl (lv_at hl 0 rfl) ?_
                  refine lv_iload hx hb dX11_passMinutes_120 (lv_at hl 5 rfl) ?_
                  refine lv_iload_n hx hb dX11_passMinutes_122 rfl (lv_at hl 1 rfl) ?_
                  obtain ⟨u20, hu20, hf⟩ := ob_bk hf
                  refine iv_X11_205 (As := [.int y6_100, .int x2]) (rest := []) (is := [0, 3, 4, 1, 2]) (q0 := 0) (X' := [(a_t, .inr (11, [.ref a_signs, .int v_signMany, .int v_seats, .ref a_links, .ref a_worths, .int v_bearIs, .ref a_far, .ref a_mays, .ref a_rowsTo, .ref a_endIn, .long v_rowsAll, .ref a_ends, .ref a_pairSets, .ref a_awayIn, .ref a_now, .ref a_then, .long u20.1, .long z_lower_55, .ref a_comers, .int v_comerMany, .ref a_seen, .ref a_seenMany, .int v_seenRows, .ref a_kept, .ref a_isKept, .int v_place, .int v_isWriting])), (a_now, eJ cJ 4096 z_now_55), (a_then, eJ cJ 4096 u20.2), (a_far, eI cI 144 v_far), (a_worths, eI cI 12 v_worths)]) Cx (c_X11_passOne l D cI cJ cZ cO a_t a_signs a_links a_worths a_far a_mays a_rowsTo a_endIn a_ends a_pairSets a_awayIn a_now a_then a_comers a_seen a_seenMany a_kept a_isKept v_signMany v_seats v_bearIs v_rowsAll z_awayUpper_100 z_lower_55 v_comerMany v_seenRows v_place v_isWriting v_far v_worths z_now_55 z_then_100 y6_100 x2 u20 hu20) hP hS rfl rfl rfl rfl rfl rfl rfl hl.1 (Nat.le_of_ble_eq_true rfl) dX11_passMinutes_123 rfl rfl ⟨Nat.le_of_ble_eq_true rfl, Nat.le_of_ble_eq_true rfl⟩ ⟨Nat.zero_le _, Nat.zero_le _⟩ rfl (fun H locs hP hS => ?_)
                  exact J126_18 (u20.1, u20.2) hf _ _ _ hP hS (lv_sub hl [0, 1, 2, 3, 4, 5] rfl)
        obtain ⟨u21, hu21, hf⟩ := ob_b hf
        refine L100_14 FU (0 : Int32) (z_awayUpper_55 * (55440 : Int64)) u13 u21 _ _ _ hu21 hP hS (lv_sub hl [1, 2, 3, 4, 5, 0] rfl) ?_
        intro H locs ls hP hS hl
        refine lv_iconst (v := 0) hx hb dX11_passMinutes_132 (by decide) ?_
        refine lv_istore (lv' := [(6, .int (0 : Int32)), (0, .ref a_t), (2, .int x2), (3, .int x3), (4, .int ((1 : Int32) <<< (v_seats &&& 31))), (5, .int y5_55)]) hx hb dX11_passMinutes_133 hl (by decide) rfl (fun ls hl => ?_)
        have L135_22 : ∀ (n : Nat) (y6_135 : Int32) (z_now_135 : Nat → Int64) (o : (Nat → Int64)) (H : Heap) (locs : List Loc) (ls : Array Slot), f_X11_passMinutes_135 v_seats u21 n y6_135 z_now_135 = some o → va_P D vwCl [(a_t, .inr (11, [.ref a_signs, .int v_signMany, .int v_seats, .ref a_links, .ref a_worths, .int v_bearIs, .ref a_far, .ref a_mays, .ref a_rowsTo, .ref a_endIn, .long v_rowsAll, .ref a_ends, .ref a_pairSets, .ref a_awayIn, .ref a_now, .ref a_then, .long u21.1, .long z_lower_55, .ref a_comers, .int v_comerMany, .ref a_seen, .ref a_seenMany, .int v_seenRows, .ref a_kept, .ref a_isKept, .int v_place, .int v_isWriting])), (a_now, eJ cJ 4096 z_now_135), (a_then, eJ cJ 4096 u21.2), (a_far, eI cI 144 v_far), (a_worths, eI cI 12 v_worths)] H → va_S A s.heap H locs → lv_has ls 7 [(0, .ref a_t), (2, .int x2), (3, .int x3), (4, .int ((1 : Int32) <<< (v_seats &&& 31))), (5, .int y5_55), (6, .int y6_135)] → (∀ (H : Heap) (locs : List Loc) (ls : Array Slot), va_P D vwCl [(a_t, .inr (11, [.ref a_signs, .int v_signMany, .int v_seats, .ref a_links, .ref a_worths, .int v_bearIs, .ref a_far, .ref a_mays, .ref a_rowsTo, .ref a_endIn, .long v_rowsAll, .ref a_ends, .ref a_pairSets, .ref a_awayIn, .ref a_now, .ref a_then, .long u21.1, .long z_lower_55, .ref a_comers, .int v_comerMany, .ref a_seen, .ref a_seenMany, .int v_seenRows, .ref a_kept, .ref a_isKept, .int v_place, .int v_isWriting])), (a_now, eJ cJ 4096 o), (a_then, eJ cJ 4096 u21.2), (a_far, eI cI 144 v_far), (a_worths, eI cI 12 v_worths)] H → va_S A s.heap H locs → lv_has ls 7 [(0, .ref a_t), (2, .int x2), (3, .int x3), (4, .int ((1 : Int32) <<< (v_seats &&& 31))), (5, .int y5_55)] → W p l e { frames := 5, cells := 0, slots := 0, locals := 121 } s m args below meth c H locs 0 0 Q (F0 m 162 ls [])) → W p l e { frames := 5, cells := 0, slots := 0, locals := 121 } s m args below meth c H locs 0 0 Q (F0 m 135 ls []) := by
          intro n
          induction n with
          | zero => intro y6_135 z_now_135 o H locs ls hf; exact (ob_n hf).elim
          | succ n ih =>
            intro y6_135 z_now_135 o H locs ls hf hP hS hl kk
            rw [f_X11_passMinutes_135_s] at hf
            refine lv_iload hx hb dX11_passMinutes_135 (lv_at hl 5 rfl) ?_
            refine lv_iload hx hb dX11_passMinutes_137 (lv_at hl 3 rfl) ?_
            refine lv_icmp_ge (tgt := 162) hx hb dX11_passMinutes_139 (by decide) (fun c23 => ?_) (fun c23 => ?_)
            · have hf := ob_t c23 hf
              obtain rfl := Option.some.inj hf
              exact kk _ _ _ hP hS (lv_sub hl [0, 1, 2, 3, 4] rfl)
            · have hf := ob_f c23 hf
              refine lv_aload_n hx hb dX11_passMinutes_142 rfl (lv_at hl 0 rfl) ?_
              refine gf_X11_41 Cx hP 0 rfl rfl dX11_passMinutes_143 ?_
              refine lv_iload hx hb dX11_passMinutes_146 (lv_at hl 5 rfl) ?_
              refine lv_aload_n hx hb dX11_passMinutes_148 rfl (lv_at hl 0 rfl) ?_
              refine gf_X11_44 Cx hP 0 rfl rfl dX11_passMinutes_149 ?_
              refine lv_iload hx hb dX11_passMinutes_152 (lv_at hl 5 rfl) ?_
              obtain ⟨u24, hu24, hf⟩ := ob_b hf
              refine ba_lald Cx hP 2 rfl hu24 dX11_passMinutes_154 ?_
              obtain ⟨u25, hu25, hf⟩ := ob_b hf
              refine ba_last (X' := [(a_t, .inr (11, [.ref a_signs, .int v_signMany, .int v_seats, .ref a_links, .ref a_worths, .int v_bearIs, .ref a_far, .ref a_mays, .ref a_rowsTo, .ref a_endIn, .long v_rowsAll, .ref a_ends, .ref a_pairSets, .ref a_awayIn, .ref a_now, .ref a_then, .long u21.1, .long z_lower_55, .ref a_comers, .int v_comerMany, .ref a_seen, .ref a_seenMany, .int v_seenRows, .ref a_kept, .ref a_isKept, .int v_place, .int v_isWriting])), (a_now, eJ cJ 4096 u25), (a_then, eJ cJ 4096 u21.2), (a_far, eI cI 144 v_far), (a_worths, eI cI 12 v_worths)]) Cx hP hS rfl 1 rfl rfl hu25 dX11_passMinutes_155 (fun H locs hP hS => ?_)
              refine lv_iinc (v := (y6_135 + 1)) (lv' := [(6, .int (y6_135 + 1)), (0, .ref a_t), (2, .int x2), (3, .int x3), (4, .int ((1 : Int32) <<< (v_seats &&& 31))), (5, .int y5_55)]) hx hb dX11_passMinutes_156 hl (k := 5) rfl rfl (by decide) rfl (fun ls hl => ?_)
              refine lv_goto (tgt := 135) hx hb dX11_passMinutes_159 (by decide) ?_
              exact ih (y6_135 + 1) u25 _ _ _ _ hf hP hS (lv_sub hl [1, 2, 3, 4, 5, 0] rfl) kk
        obtain ⟨u26, hu26, hf⟩ := ob_b hf
        refine L135_22 FU (0 : Int32) z_now_55 u26 _ _ _ hu26 hP hS (lv_sub hl [1, 2, 3, 4, 5, 0] rfl) ?_
        intro H locs ls hP hS hl
        refine lv_aload_n hx hb dX11_passMinutes_162 rfl (lv_at hl 0 rfl) ?_
        refine lv_dup hx hb dX11_passMinutes_163 rfl ?_
        refine gf_X11_200 Cx hP 0 rfl rfl dX11_passMinutes_164 ?_
        refine lv_ldc2 hx hb hown (hts _ kw_1040) dX11_passMinutes_167 ?_
        refine lv_lmul hx hb dX11_passMinutes_170 ?_
        refine pf_X11_200 (X' := [(a_t, .inr (11, [.ref a_signs, .int v_signMany, .int v_seats, .ref a_links, .ref a_worths, .int v_bearIs, .ref a_far, .ref a_mays, .ref a_rowsTo, .ref a_endIn, .long v_rowsAll, .ref a_ends, .ref a_pairSets, .ref a_awayIn, .ref a_now, .ref a_then, .long u21.1, .long (z_lower_55 * (55440 : Int64)), .ref a_comers, .int v_comerMany, .ref a_seen, .ref a_seenMany, .int v_seenRows, .ref a_kept, .ref a_isKept, .int v_place, .int v_isWriting])), (a_now, eJ cJ 4096 u26), (a_then, eJ cJ 4096 u21.2), (a_far, eI cI 144 v_far), (a_worths, eI cI 12 v_worths)]) Cx hP hS rfl 0 rfl rfl (Nat.le_of_ble_eq_true rfl) dX11_passMinutes_171 (fun H locs hP hS => ?_)
        refine lv_iinc (v := (y5_55 + 1)) (lv' := [(5, .int (y5_55 + 1)), (0, .ref a_t), (2, .int x2), (3, .int x3), (4, .int ((1 : Int32) <<< (v_seats &&& 31)))]) hx hb dX11_passMinutes_174 hl (k := 4) rfl rfl (by decide) rfl (fun ls hl => ?_)
        refine lv_goto (tgt := 55) hx hb dX11_passMinutes_177 (by decide) ?_
        exact ih (y5_55 + 1) u21.1 (z_lower_55 * (55440 : Int64)) u26 u21.2 _ _ _ _ hf hP hS (lv_sub hl [1, 2, 3, 4, 0] rfl) kk
  obtain ⟨u27, hu27, hf⟩ := ob_b hf
  refine L55_8 FU (0 : Int32) (0 : Int64) (1 : Int64) u7 v_then u27 _ _ _ hu27 hP hS (lv_sub hl [1, 2, 3, 4, 0] rfl) ?_
  intro H locs ls hP hS hl
  obtain rfl := Option.some.inj hf
  exact ret _ _ _ _ dX11_passMinutes_180 hP hS

def f_X11_refuseMinutes (v_seats : Int32) (v_bearIs : Int32) (v_far : Nat → Int32) (x1 : Int32) (x2 : Int32) (x3 : Int32) (x4 : Int32) (x5 : Int32) : Option (Int32) :=
  (f_X11_isSet v_seats x1).bind (fun u1 =>
  if u1 = 0 then
  some (-2 : Int32)
  else
  (f_X11_isHabit x2).bind (fun u3 =>
  if u3 = 0 then
  some (-2 : Int32)
  else
  (f_X11_in ((x3).toInt64) (1 : Int64) (3 : Int64)).bind (fun u5 =>
  if u5 = 0 then
  some (-2 : Int32)
  else
  (f_X11_in ((x4).toInt64) (0 : Int64) (12 : Int64)).bind (fun u7 =>
  if u7 = 0 then
  some (-2 : Int32)
  else
  (f_X11_isPart x5).bind (fun u9 =>
  if u9 = 0 then
  some (-2 : Int32)
  else
  (f_X11_isFilled v_seats v_bearIs v_far x1).bind (fun u11 =>
  (if u11 = 0 then
  some (-3 : Int32)
  else
  some (0 : Int32)).bind (fun w12 =>
  some (w12))))))))
set_option maxHeartbeats 4000000 in
set_option maxRecDepth 100000 in
theorem c_X11_refuseMinutes (l : Launch) (D : va_G) (cI cJ cZ cO : ClassId) (a_t a_signs a_links a_worths a_far a_mays a_rowsTo a_endIn a_ends a_pairSets a_awayIn a_now a_then a_comers a_seen a_seenMany a_kept a_isKept : Nat) (v_signMany : Int32) (v_seats : Int32) (v_bearIs : Int32) (v_rowsAll : Int64) (v_awayUpper : Int64) (v_lower : Int64) (v_comerMany : Int32) (v_seenRows : Int32) (v_place : Int32) (v_isWriting : Int32) (v_far : Nat → Int32) (x1 : Int32) (x2 : Int32) (x3 : Int32) (x4 : Int32) (x5 : Int32) (out : Int32) (hf : f_X11_refuseMinutes v_seats v_bearIs v_far x1 x2 x3 x4 x5 = some out) : MetR l yX11_refuseMinutes (Cond.code yX11_refuseMinutes cX11_refuseMinutes 6 (some .int) :: tbG) { frames := 3, cells := 0, slots := 0, locals := 68 } D (tyL cI cJ cZ cO) [.ref a_t, .int x1, .int x2, .int x3, .int x4, .int x5] [(a_t, .inr (11, [.ref a_signs, .int v_signMany, .int v_seats, .ref a_links, .ref a_worths, .int v_bearIs, .ref a_far, .ref a_mays, .ref a_rowsTo, .ref a_endIn, .long v_rowsAll, .ref a_ends, .ref a_pairSets, .ref a_awayIn, .ref a_now, .ref a_then, .long v_awayUpper, .long v_lower, .ref a_comers, .int v_comerMany, .ref a_seen, .ref a_seenMany, .int v_seenRows, .ref a_kept, .ref a_isKept, .int v_place, .int v_isWriting])), (a_far, eI cI 144 v_far)] (some (.int out)) [(a_t, .inr (11, [.ref a_signs, .int v_signMany, .int v_seats, .ref a_links, .ref a_worths, .int v_bearIs, .ref a_far, .ref a_mays, .ref a_rowsTo, .ref a_endIn, .long v_rowsAll, .ref a_ends, .ref a_pairSets, .ref a_awayIn, .ref a_now, .ref a_then, .long v_awayUpper, .long v_lower, .ref a_comers, .int v_comerMany, .ref a_seen, .ref a_seenMany, .int v_seenRows, .ref a_kept, .ref a_isKept, .int v_place, .int v_isWriting])), (a_far, eI cI 144 v_far)] := by
  refine ba_ofI RX11 [(0, .ref a_t), (1, .int x1), (2, .int x2), (3, .int x3), (4, .int x4), (5, .int x5)] (by decide +kernel) rfl (Nat.le_of_ble_eq_true rfl) rfl ?_
  intro p e s m args below meth c Q A Cx hP ret ls hl
  obtain ⟨⟨hx, hb, hml, hown, hts⟩, hK, hD, hA⟩ := id Cx
  have hS : va_S A s.heap s.heap [] := va_S.rf
  unfold f_X11_refuseMinutes at hf
  refine lv_aload_n hx hb dX11_refuseMinutes_0 rfl (lv_at hl 0 rfl) ?_
  refine lv_iload_n hx hb dX11_refuseMinutes_1 rfl (lv_at hl 1 rfl) ?_
  obtain ⟨u1, hu1, hf⟩ := ob_b hf
  refine iv_X11_127 (As := [.int x1]) (rest := []) (is := [0]) (q0 := 0) (X' := [(a_t, .inr (11, [.ref a_signs, .int v_signMany, .int v_seats, .ref a_links, .ref a_worths, .int v_bearIs, .ref a_far, .ref a_mays, .ref a_rowsTo, .ref a_endIn, .long v_rowsAll, .ref a_ends, .ref a_pairSets, .ref a_awayIn, .ref a_now, .ref a_then, .long v_awayUpper, .long v_lower, .ref a_comers, .int v_comerMany, .ref a_seen, .ref a_seenMany, .int v_seenRows, .ref a_kept, .ref a_isKept, .int v_place, .int v_isWriting])), (a_far, eI cI 144 v_far)]) Cx (c_X11_isSet l D cI cJ cZ cO a_t a_signs a_links a_worths a_far a_mays a_rowsTo a_endIn a_ends a_pairSets a_awayIn a_now a_then a_comers a_seen a_seenMany a_kept a_isKept v_signMany v_seats v_bearIs v_rowsAll v_awayUpper v_lower v_comerMany v_seenRows v_place v_isWriting x1 u1 hu1) hP hS rfl rfl rfl rfl rfl rfl rfl hl.1 (Nat.le_of_ble_eq_true rfl) dX11_refuseMinutes_2 rfl rfl ⟨Nat.le_of_ble_eq_true rfl, Nat.le_of_ble_eq_true rfl⟩ ⟨Nat.zero_le _, Nat.zero_le _⟩ rfl (fun H locs hP hS => ?_)
  refine lv_if_eq (tgt := 48) hx hb dX11_refuseMinutes_5 (by decide) (fun c2 => ?_) (fun c2 => ?_)
  · have hf := ob_t c2 hf
    refine lv_bipush (v := (-2)) hx hb dX11_refuseMinutes_48 (by decide) ?_
    obtain rfl := Option.some.inj hf
    exact ret _ _ _ _ dX11_refuseMinutes_50 hP hS
  · have hf := ob_f c2 hf
    refine lv_iload_n hx hb dX11_refuseMinutes_8 rfl (lv_at hl 2 rfl) ?_
    obtain ⟨u3, hu3, hf⟩ := ob_b hf
    refine iv_X11_133 (As := [.int x2]) (rest := []) (is := []) (X' := [(a_t, .inr (11, [.ref a_signs, .int v_signMany, .int v_seats, .ref a_links, .ref a_worths, .int v_bearIs, .ref a_far, .ref a_mays, .ref a_rowsTo, .ref a_endIn, .long v_rowsAll, .ref a_ends, .ref a_pairSets, .ref a_awayIn, .ref a_now, .ref a_then, .long v_awayUpper, .long v_lower, .ref a_comers, .int v_comerMany, .ref a_seen, .ref a_seenMany, .int v_seenRows, .ref a_kept, .ref a_isKept, .int v_place, .int v_isWriting])), (a_far, eI cI 144 v_far)]) Cx (c_X11_isHabit l D cI cJ cZ cO  x2 u3 hu3) hP hS rfl rfl rfl rfl rfl rfl hl.1 (Nat.le_of_ble_eq_true rfl) dX11_refuseMinutes_9 rfl rfl ⟨Nat.le_of_ble_eq_true rfl, Nat.le_of_ble_eq_true rfl⟩ ⟨Nat.zero_le _, Nat.zero_le _⟩ rfl (fun H locs hP hS => ?_)
    refine lv_if_eq (tgt := 48) hx hb dX11_refuseMinutes_12 (by decide) (fun c4 => ?_) (fun c4 => ?_)
    · have hf := ob_t c4 hf
      refine lv_bipush (v := (-2)) hx hb dX11_refuseMinutes_48 (by decide) ?_
      obtain rfl := Option.some.inj hf
      exact ret _ _ _ _ dX11_refuseMinutes_50 hP hS
    · have hf := ob_f c4 hf
      refine lv_iload_n hx hb dX11_refuseMinutes_15 rfl (lv_at hl 3 rfl) ?_
      refine lv_i2l (v := (x3).toInt64) hx hb dX11_refuseMinutes_16 rfl ?_
      refine lv_lconst (v := 1) hx hb dX11_refuseMinutes_17 (by decide) ?_
      refine lv_ldc2 hx hb hown (hts _ kw_929) dX11_refuseMinutes_18 ?_
      obtain ⟨u5, hu5, hf⟩ := ob_b hf
      refine iv_X11_74 (As := [.long ((x3).toInt64), .long (1 : Int64), .long (3 : Int64)]) (rest := []) (is := []) (X' := [(a_t, .inr (11, [.ref a_signs, .int v_signMany, .int v_seats, .ref a_links, .ref a_worths, .int v_bearIs, .ref a_far, .ref a_mays, .ref a_rowsTo, .ref a_endIn, .long v_rowsAll, .ref a_ends, .ref a_pairSets, .ref a_awayIn, .ref a_now, .ref a_then, .long v_awayUpper, .long v_lower, .ref a_comers, .int v_comerMany, .ref a_seen, .ref a_seenMany, .int v_seenRows, .ref a_kept, .ref a_isKept, .int v_place, .int v_isWriting])), (a_far, eI cI 144 v_far)]) Cx (c_X11_in l D cI cJ cZ cO  ((x3).toInt64) (1 : Int64) (3 : Int64) u5 hu5) hP hS rfl rfl rfl rfl rfl rfl hl.1 (Nat.le_of_ble_eq_true rfl) dX11_refuseMinutes_21 rfl rfl ⟨Nat.le_of_ble_eq_true rfl, Nat.le_of_ble_eq_true rfl⟩ ⟨Nat.zero_le _, Nat.zero_le _⟩ rfl (fun H locs hP hS => ?_)
      refine lv_if_eq (tgt := 48) hx hb dX11_refuseMinutes_24 (by decide) (fun c6 => ?_) (fun c6 => ?_)
      · have hf := ob_t c6 hf
        refine lv_bipush (v := (-2)) hx hb dX11_refuseMinutes_48 (by decide) ?_
        obtain rfl := Option.some.inj hf
        exact ret _ _ _ _ dX11_refuseMinutes_50 hP hS
      · have hf := ob_f c6 hf
        refine lv_iload hx hb dX11_refuseMinutes_27 (lv_at hl 4 rfl) ?_
        refine lv_i2l (v := (x4).toInt64) hx hb dX11_refuseMinutes_29 rfl ?_
        refine lv_lconst (v := 0) hx hb dX11_refuseMinutes_30 (by decide) ?_
        refine lv_ldc2 hx hb hown (hts _ kw_941) dX11_refuseMinutes_31 ?_
        obtain ⟨u7, hu7, hf⟩ := ob_b hf
        refine iv_X11_74 (As := [.long ((x4).toInt64), .long (0 : Int64), .long (12 : Int64)]) (rest := []) (is := []) (X' := [(a_t, .inr (11, [.ref a_signs, .int v_signMany, .int v_seats, .ref a_links, .ref a_worths, .int v_bearIs, .ref a_far, .ref a_mays, .ref a_rowsTo, .ref a_endIn, .long v_rowsAll, .ref a_ends, .ref a_pairSets, .ref a_awayIn, .ref a_now, .ref a_then, .long v_awayUpper, .long v_lower, .ref a_comers, .int v_comerMany, .ref a_seen, .ref a_seenMany, .int v_seenRows, .ref a_kept, .ref a_isKept, .int v_place, .int v_isWriting])), (a_far, eI cI 144 v_far)]) Cx (c_X11_in l D cI cJ cZ cO  ((x4).toInt64) (0 : Int64) (12 : Int64) u7 hu7) hP hS rfl rfl rfl rfl rfl rfl hl.1 (Nat.le_of_ble_eq_true rfl) dX11_refuseMinutes_34 rfl rfl ⟨Nat.le_of_ble_eq_true rfl, Nat.le_of_ble_eq_true rfl⟩ ⟨Nat.zero_le _, Nat.zero_le _⟩ rfl (fun H locs hP hS => ?_)
        refine lv_if_eq (tgt := 48) hx hb dX11_refuseMinutes_37 (by decide) (fun c8 => ?_) (fun c8 => ?_)
        · have hf := ob_t c8 hf
          refine lv_bipush (v := (-2)) hx hb dX11_refuseMinutes_48 (by decide) ?_
          obtain rfl := Option.some.inj hf
          exact ret _ _ _ _ dX11_refuseMinutes_50 hP hS
        · have hf := ob_f c8 hf
          refine lv_iload hx hb dX11_refuseMinutes_40 (lv_at hl 5 rfl) ?_
          obtain ⟨u9, hu9, hf⟩ := ob_b hf
          refine iv_X11_153 (As := [.int x5]) (rest := []) (is := []) (X' := [(a_t, .inr (11, [.ref a_signs, .int v_signMany, .int v_seats, .ref a_links, .ref a_worths, .int v_bearIs, .ref a_far, .ref a_mays, .ref a_rowsTo, .ref a_endIn, .long v_rowsAll, .ref a_ends, .ref a_pairSets, .ref a_awayIn, .ref a_now, .ref a_then, .long v_awayUpper, .long v_lower, .ref a_comers, .int v_comerMany, .ref a_seen, .ref a_seenMany, .int v_seenRows, .ref a_kept, .ref a_isKept, .int v_place, .int v_isWriting])), (a_far, eI cI 144 v_far)]) Cx (c_X11_isPart l D cI cJ cZ cO  x5 u9 hu9) hP hS rfl rfl rfl rfl rfl rfl hl.1 (Nat.le_of_ble_eq_true rfl) dX11_refuseMinutes_42 rfl rfl ⟨Nat.le_of_ble_eq_true rfl, Nat.le_of_ble_eq_true rfl⟩ ⟨Nat.zero_le _, Nat.zero_le _⟩ rfl (fun H locs hP hS => ?_)
          refine lv_if_ne (tgt := 51) hx hb dX11_refuseMinutes_45 (by decide) (fun c10 => ?_) (fun c10 => ?_)
          · have hf := ob_f c10 hf
            refine lv_aload_n hx hb dX11_refuseMinutes_51 rfl (lv_at hl 0 rfl) ?_
            refine lv_iload_n hx hb dX11_refuseMinutes_52 rfl (lv_at hl 1 rfl) ?_
            obtain ⟨u11, hu11, hf⟩ := ob_b hf
            refine iv_X11_130 (As := [.int x1]) (rest := []) (is := [0, 1]) (q0 := 0) (X' := [(a_t, .inr (11, [.ref a_signs, .int v_signMany, .int v_seats, .ref a_links, .ref a_worths, .int v_bearIs, .ref a_far, .ref a_mays, .ref a_rowsTo, .ref a_endIn, .long v_rowsAll, .ref a_ends, .ref a_pairSets, .ref a_awayIn, .ref a_now, .ref a_then, .long v_awayUpper, .long v_lower, .ref a_comers, .int v_comerMany, .ref a_seen, .ref a_seenMany, .int v_seenRows, .ref a_kept, .ref a_isKept, .int v_place, .int v_isWriting])), (a_far, eI cI 144 v_far)]) Cx (c_X11_isFilled l D cI cJ cZ cO a_t a_signs a_links a_worths a_far a_mays a_rowsTo a_endIn a_ends a_pairSets a_awayIn a_now a_then a_comers a_seen a_seenMany a_kept a_isKept v_signMany v_seats v_bearIs v_rowsAll v_awayUpper v_lower v_comerMany v_seenRows v_place v_isWriting v_far x1 u11 hu11) hP hS rfl rfl rfl rfl rfl rfl rfl hl.1 (Nat.le_of_ble_eq_true rfl) dX11_refuseMinutes_53 rfl rfl ⟨Nat.le_of_ble_eq_true rfl, Nat.le_of_ble_eq_true rfl⟩ ⟨Nat.zero_le _, Nat.zero_le _⟩ rfl (fun H locs hP hS => ?_)
            refine ob_J (P := fun w12 => ∀ (H : Heap) (locs : List Loc) (ls : Array Slot), va_P D vwCl [(a_t, .inr (11, [.ref a_signs, .int v_signMany, .int v_seats, .ref a_links, .ref a_worths, .int v_bearIs, .ref a_far, .ref a_mays, .ref a_rowsTo, .ref a_endIn, .long v_rowsAll, .ref a_ends, .ref a_pairSets, .ref a_awayIn, .ref a_now, .ref a_then, .long v_awayUpper, .long v_lower, .ref a_comers, .int v_comerMany, .ref a_seen, .ref a_seenMany, .int v_seenRows, .ref a_kept, .ref a_isKept, .int v_place, .int v_isWriting])), (a_far, eI cI 144 v_far)] H → va_S A s.heap H locs → lv_has ls 6 [] → W p l e { frames := 3, cells := 0, slots := 0, locals := 68 } s m args below meth c H locs 0 0 Q (F0 m 65 ls [.int w12])) hf ?_ ?_
            · intro w12 hf H locs ls hP hS hl
              obtain rfl := Option.some.inj hf
              exact ret _ _ _ _ dX11_refuseMinutes_65 hP hS
            · intro J65_13 hf
              refine lv_if_eq (tgt := 63) hx hb dX11_refuseMinutes_56 (by decide) (fun c14 => ?_) (fun c14 => ?_)
              · have hf := ob_tk c14 hf
                refine lv_bipush (v := (-3)) hx hb dX11_refuseMinutes_63 (by decide) ?_
                exact J65_13 (-3 : Int32) hf _ _ _ hP hS (lv_sub hl [] rfl)
              · have hf := ob_fk c14 hf
                refine lv_iconst (v := 0) hx hb dX11_refuseMinutes_59 (by decide) ?_
                refine lv_goto (tgt := 65) hx hb dX11_refuseMinutes_60 (by decide) ?_
                exact J65_13 (0 : Int32) hf _ _ _ hP hS (lv_sub hl [] rfl)
          · have hf := ob_t c10 hf
            refine lv_bipush (v := (-2)) hx hb dX11_refuseMinutes_48 (by decide) ?_
            obtain rfl := Option.some.inj hf
            exact ret _ _ _ _ dX11_refuseMinutes_50 hP hS

