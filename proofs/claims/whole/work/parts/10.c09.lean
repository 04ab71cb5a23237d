def f_X11_findEnds_27 (v_seats : Int32) (u1 : Int32 × (Nat → Int32)) (y2_9 : Int32) (y3_15 : Int32) (z_ends_15 : Nat → Int32) : Nat → Int32 → Int32 → Option (Int32)
  | 0, _, _ => none
  | n + 1, y4_27, y5_27 =>
  if v_seats ≤ y5_27 then
  some (y4_27)
  else
  (aget 4096 u1.2 y2_9).bind (fun u8 =>
  if u8 ≤ 0 then
  some (y4_27)
  else
  (aget 4096 u1.2 y2_9).bind (fun u10 =>
  (if ((u10 >>> (y5_27 &&& 31)) &&& (1 : Int32)) = (1 : Int32) then
  (aget 8192 z_ends_15 (((4096 : Int32) * ((1 : Int32) - y3_15)) + (y2_9 ||| ((1 : Int32) <<< (y5_27 &&& 31))))).bind (fun u14 =>
  (if y4_27 < 0 then
  some (u14)
  else
  if y3_15 = 0 then
  if u14 ≤ y4_27 then
  some (y4_27)
  else
  some (u14)
  else
  if y4_27 ≤ u14 then
  some (y4_27)
  else
  some (u14)).bind (fun w15 =>
  some (w15)))
  else
  some (y4_27)).bind (fun w11 =>
  f_X11_findEnds_27 v_seats u1 y2_9 y3_15 z_ends_15 n w11 (y5_27 + 1))))
theorem f_X11_findEnds_27_s (v_seats : Int32) (u1 : Int32 × (Nat → Int32)) (y2_9 : Int32) (y3_15 : Int32) (z_ends_15 : Nat → Int32) (n : Nat) (y4_27 : Int32) (y5_27 : Int32) : f_X11_findEnds_27 v_seats u1 y2_9 y3_15 z_ends_15 (n + 1) y4_27 y5_27 =
  (if v_seats ≤ y5_27 then
  some (y4_27)
  else
  (aget 4096 u1.2 y2_9).bind (fun u8 =>
  if u8 ≤ 0 then
  some (y4_27)
  else
  (aget 4096 u1.2 y2_9).bind (fun u10 =>
  (if ((u10 >>> (y5_27 &&& 31)) &&& (1 : Int32)) = (1 : Int32) then
  (aget 8192 z_ends_15 (((4096 : Int32) * ((1 : Int32) - y3_15)) + (y2_9 ||| ((1 : Int32) <<< (y5_27 &&& 31))))).bind (fun u14 =>
  (if y4_27 < 0 then
  some (u14)
  else
  if y3_15 = 0 then
  if u14 ≤ y4_27 then
  some (y4_27)
  else
  some (u14)
  else
  if y4_27 ≤ u14 then
  some (y4_27)
  else
  some (u14)).bind (fun w15 =>
  some (w15)))
  else
  some (y4_27)).bind (fun w11 =>
  f_X11_findEnds_27 v_seats u1 y2_9 y3_15 z_ends_15 n w11 (y5_27 + 1))))) := rfl
def f_X11_findEnds_15 (v_seats : Int32) (u1 : Int32 × (Nat → Int32)) (y2_9 : Int32) : Nat → Int32 → (Nat → Int32) → Option ((Nat → Int32))
  | 0, _, _ => none
  | n + 1, y3_15, z_ends_15 =>
  if (2 : Int32) ≤ y3_15 then
  some (z_ends_15)
  else
  (f_X11_findEnds_27 v_seats u1 y2_9 y3_15 z_ends_15 FU (-6 : Int32) (0 : Int32)).bind (fun u21 =>
  (aget 4096 u1.2 y2_9).bind (fun u22 =>
  (if u22 = 0 then
  (f_X11_ones y2_9).bind (fun u27 =>
  some (u27))
  else
  some (u21)).bind (fun w23 =>
  (asetI 8192 z_ends_15 (((4096 : Int32) * y3_15) + y2_9) w23).bind (fun u25 =>
  f_X11_findEnds_15 v_seats u1 y2_9 n (y3_15 + 1) u25))))
theorem f_X11_findEnds_15_s (v_seats : Int32) (u1 : Int32 × (Nat → Int32)) (y2_9 : Int32) (n : Nat) (y3_15 : Int32) (z_ends_15 : Nat → Int32) : f_X11_findEnds_15 v_seats u1 y2_9 (n + 1) y3_15 z_ends_15 =
  (if (2 : Int32) ≤ y3_15 then
  some (z_ends_15)
  else
  (f_X11_findEnds_27 v_seats u1 y2_9 y3_15 z_ends_15 FU (-6 : Int32) (0 : Int32)).bind (fun u21 =>
  (aget 4096 u1.2 y2_9).bind (fun u22 =>
  (if u22 = 0 then
  (f_X11_ones y2_9).bind (fun u27 =>
  some (u27))
  else
  some (u21)).bind (fun w23 =>
  (asetI 8192 z_ends_15 (((4096 : Int32) * y3_15) + y2_9) w23).bind (fun u25 =>
  f_X11_findEnds_15 v_seats u1 y2_9 n (y3_15 + 1) u25))))) := rfl
def f_X11_findEnds_9 (v_seats : Int32) (u1 : Int32 × (Nat → Int32)) : Nat → Int32 → (Nat → Int32) → Option ((Nat → Int32))
  | 0, _, _ => none
  | n + 1, y2_9, z_ends_9 =>
  if y2_9 < 0 then
  some (z_ends_9)
  else
  (f_X11_findEnds_15 v_seats u1 y2_9 FU (0 : Int32) z_ends_9).bind (fun u28 =>
  f_X11_findEnds_9 v_seats u1 n (y2_9 + (-1)) u28)
theorem f_X11_findEnds_9_s (v_seats : Int32) (u1 : Int32 × (Nat → Int32)) (n : Nat) (y2_9 : Int32) (z_ends_9 : Nat → Int32) : f_X11_findEnds_9 v_seats u1 (n + 1) y2_9 z_ends_9 =
  (if y2_9 < 0 then
  some (z_ends_9)
  else
  (f_X11_findEnds_15 v_seats u1 y2_9 FU (0 : Int32) z_ends_9).bind (fun u28 =>
  f_X11_findEnds_9 v_seats u1 n (y2_9 + (-1)) u28)) := rfl
def f_X11_findEnds (v_seats : Int32) (v_bearIs : Int32) (v_far : Nat → Int32) (v_mays : Nat → Int32) (v_ends : Nat → Int32) : Option ((Nat → Int32) × (Nat → Int32)) :=
  (f_X11_findMays v_seats v_bearIs v_far v_mays).bind (fun u1 =>
  (f_X11_findEnds_9 v_seats u1 FU (u1.1 - (1 : Int32)) v_ends).bind (fun u29 =>
  some (u1.2, u29)))
set_option maxHeartbeats 4000000 in
set_option maxRecDepth 100000 in
theorem c_X11_findEnds (l : Launch) (D : va_G) (cI cJ cZ cO : ClassId) (a_t a_signs a_links a_worths a_far a_mays a_rowsTo a_endIn a_ends a_pairSets a_awayIn a_now a_then a_comers a_seen a_seenMany a_kept a_isKept : Nat) (v_signMany : Int32) (v_seats : Int32) (v_bearIs : Int32) (v_rowsAll : Int64) (v_awayUpper : Int64) (v_lower : Int64) (v_comerMany : Int32) (v_seenRows : Int32) (v_place : Int32) (v_isWriting : Int32) (v_far : Nat → Int32) (v_mays : Nat → Int32) (v_ends : Nat → Int32) (out : (Nat → Int32) × (Nat → Int32)) (hf : f_X11_findEnds v_seats v_bearIs v_far v_mays v_ends = some out) : MetR l yX11_findEnds (Cond.code yX11_findEnds cX11_findEnds 7 none :: tbG) { frames := 4, cells := 0, slots := 0, locals := 90 } D (tyL cI cJ cZ cO) [.ref a_t] [(a_t, .inr (11, [.ref a_signs, .int v_signMany, .int v_seats, .ref a_links, .ref a_worths, .int v_bearIs, .ref a_far, .ref a_mays, .ref a_rowsTo, .ref a_endIn, .long v_rowsAll, .ref a_ends, .ref a_pairSets, .ref a_awayIn, .ref a_now, .ref a_then, .long v_awayUpper, .long v_lower, .ref a_comers, .int v_comerMany, .ref a_seen, .ref a_seenMany, .int v_seenRows, .ref a_kept, .ref a_isKept, .int v_place, .int v_isWriting])), (a_far, eI cI 144 v_far), (a_mays, eI cI 4096 v_mays), (a_ends, eI cI 8192 v_ends)] none [(a_t, .inr (11, [.ref a_signs, .int v_signMany, .int v_seats, .ref a_links, .ref a_worths, .int v_bearIs, .ref a_far, .ref a_mays, .ref a_rowsTo, .ref a_endIn, .long v_rowsAll, .ref a_ends, .ref a_pairSets, .ref a_awayIn, .ref a_now, .ref a_then, .long v_awayUpper, .long v_lower, .ref a_comers, .int v_comerMany, .ref a_seen, .ref a_seenMany, .int v_seenRows, .ref a_kept, .ref a_isKept, .int v_place, .int v_isWriting])), (a_far, eI cI 144 v_far), (a_mays, eI cI 4096 out.1), (a_ends, eI cI 8192 out.2)] := by
  refine ba_ofV RX11 [(0, .ref a_t)] (by decide +kernel) rfl (Nat.le_of_ble_eq_true rfl) rfl ?_
  intro p e s m args below meth c Q A Cx hP ret ls hl
  obtain ⟨⟨hx, hb, hml, hown, hts⟩, hK, hD, hA⟩ := id Cx
  have hS : va_S A s.heap s.heap [] := va_S.rf
  unfold f_X11_findEnds at hf
  refine lv_aload_n hx hb dX11_findEnds_0 rfl (lv_at hl 0 rfl) ?_
  obtain ⟨u1, hu1, hf⟩ := ob_b hf
  refine iv_X11_141 (As := []) (rest := []) (is := [0, 1, 2]) (q0 := 0) (X' := [(a_t, .inr (11, [.ref a_signs, .int v_signMany, .int v_seats, .ref a_links, .ref a_worths, .int v_bearIs, .ref a_far, .ref a_mays, .ref a_rowsTo, .ref a_endIn, .long v_rowsAll, .ref a_ends, .ref a_pairSets, .ref a_awayIn, .ref a_now, .ref a_then, .long v_awayUpper, .long v_lower, .ref a_comers, .int v_comerMany, .ref a_seen, .ref a_seenMany, .int v_seenRows, .ref a_kept, .ref a_isKept, .int v_place, .int v_isWriting])), (a_far, eI cI 144 v_far), (a_mays, eI cI 4096 u1.2), (a_ends, eI cI 8192 v_ends)]) Cx (c_X11_findMays l D cI cJ cZ cO a_t a_signs a_links a_worths a_far a_mays a_rowsTo a_endIn a_ends a_pairSets a_awayIn a_now a_then a_comers a_seen a_seenMany a_kept a_isKept v_signMany v_seats v_bearIs v_rowsAll v_awayUpper v_lower v_comerMany v_seenRows v_place v_isWriting v_far v_mays u1 hu1) hP hS rfl rfl rfl rfl rfl rfl rfl hl.1 (Nat.le_of_ble_eq_true rfl) dX11_findEnds_1 rfl rfl ⟨Nat.le_of_ble_eq_true rfl, Nat.le_of_ble_eq_true rfl⟩ ⟨Nat.zero_le _, Nat.zero_le _⟩ rfl (fun H locs hP hS => ?_)
  refine lv_istore_n (lv' := [(1, .int u1.1), (0, .ref a_t)]) hx hb dX11_findEnds_4 rfl hl (by decide) rfl (fun ls hl => ?_)
  refine lv_iload_n hx hb dX11_findEnds_5 rfl (lv_at hl 0 rfl) ?_
  refine lv_iconst (v := 1) hx hb dX11_findEnds_6 (by decide) ?_
  refine lv_isub hx hb dX11_findEnds_7 ?_
  refine lv_istore_n (lv' := [(2, .int (u1.1 - (1 : Int32))), (1, .int u1.1), (0, .ref a_t)]) hx hb dX11_findEnds_8 rfl hl (by decide) rfl (fun ls hl => ?_)
  have L9_2 : ∀ (n : Nat) (y2_9 : Int32) (z_ends_9 : Nat → Int32) (o : (Nat → Int32)) (H : Heap) (locs : List Loc) (ls : Array Slot), f_X11_findEnds_9 v_seats u1 n y2_9 z_ends_9 = some o → va_P D vwCl [(a_t, .inr (11, [.ref a_signs, .int v_signMany, .int v_seats, .ref a_links, .ref a_worths, .int v_bearIs, .ref a_far, .ref a_mays, .ref a_rowsTo, .ref a_endIn, .long v_rowsAll, .ref a_ends, .ref a_pairSets, .ref a_awayIn, .ref a_now, .ref a_then, .long v_awayUpper, .long v_lower, .ref a_comers, .int v_comerMany, .ref a_seen, .ref a_seenMany, .int v_seenRows, .ref a_kept, .ref a_isKept, .int v_place, .int v_isWriting])), (a_far, eI cI 144 v_far), (a_mays, eI cI 4096 u1.2), (a_ends, eI cI 8192 z_ends_9)] H → va_S A s.heap H locs → lv_has ls 7 [(0, .ref a_t), (2, .int y2_9)] → (∀ (H : Heap) (locs : List Loc) (ls : Array Slot), va_P D vwCl [(a_t, .inr (11, [.ref a_signs, .int v_signMany, .int v_seats, .ref a_links, .ref a_worths, .int v_bearIs, .ref a_far, .ref a_mays, .ref a_rowsTo, .ref a_endIn, .long v_rowsAll, .ref a_ends, .ref a_pairSets, .ref a_awayIn, .ref a_now, .ref a_then, .long v_awayUpper, .long v_lower, .ref a_comers, .int v_comerMany, .ref a_seen, .ref a_seenMany, .int v_seenRows, .ref a_kept, .ref a_isKept, .int v_place, .int v_isWriting])), (a_far, eI cI 144 v_far), (a_mays, eI cI 4096 u1.2), (a_ends, eI cI 8192 o)] H → va_S A s.heap H locs → lv_has ls 7 [] → W p l e { frames := 4, cells := 0, slots := 0, locals := 90 } s m args below meth c H locs 0 0 Q (F0 m 164 ls [])) → W p l e { frames := 4, cells := 0, slots := 0, locals := 90 } s m args below meth c H locs 0 0 Q (F0 m 9 ls []) := by
    intro n
    induction n with
    | zero => intro y2_9 z_ends_9 o H locs ls hf; exact (ob_n hf).elim
    | succ n ih =>
      intro y2_9 z_ends_9 o H locs ls hf hP hS hl kk
      rw [f_X11_findEnds_9_s] at hf
      refine lv_iload_n hx hb dX11_findEnds_9 rfl (lv_at hl 1 rfl) ?_
      refine lv_if_lt (tgt := 164) hx hb dX11_findEnds_10 (by decide) (fun c3 => ?_) (fun c3 => ?_)
      · have hf := ob_t c3 hf
        obtain rfl := Option.some.inj hf
        exact kk _ _ _ hP hS (lv_sub hl [] rfl)
      · have hf := ob_f c3 hf
        refine lv_iconst (v := 0) hx hb dX11_findEnds_13 (by decide) ?_
        refine lv_istore_n (lv' := [(3, .int (0 : Int32)), (0, .ref a_t), (2, .int y2_9)]) hx hb dX11_findEnds_14 rfl hl (by decide) rfl (fun ls hl => ?_)
        have L15_4 : ∀ (n : Nat) (y3_15 : Int32) (z_ends_15 : Nat → Int32) (o : (Nat → Int32)) (H : Heap) (locs : List Loc) (ls : Array Slot), f_X11_findEnds_15 v_seats u1 y2_9 n y3_15 z_ends_15 = some o → va_P D vwCl [(a_t, .inr (11, [.ref a_signs, .int v_signMany, .int v_seats, .ref a_links, .ref a_worths, .int v_bearIs, .ref a_far, .ref a_mays, .ref a_rowsTo, .ref a_endIn, .long v_rowsAll, .ref a_ends, .ref a_pairSets, .ref a_awayIn, .ref a_now, .ref a_then, .long v_awayUpper, .long v_lower, .ref a_comers, .int v_comerMany, .ref a_seen, .ref a_seenMany, .int v_seenRows, .ref a_kept, .ref a_isKept, .int v_place, .int v_isWriting])), (a_far, eI cI 144 v_far), (a_mays, eI cI 4096 u1.2), (a_ends, eI cI 8192 z_ends_15)] H → va_S A s.heap H locs → lv_has ls 7 [(0, .ref a_t), (2, .int y2_9), (3, .int y3_15)] → (∀ (H : Heap) (locs : List Loc) (ls : Array Slot), va_P D vwCl [(a_t, .inr (11, [.ref a_signs, .int v_signMany, .int v_seats, .ref a_links, .ref a_worths, .int v_bearIs, .ref a_far, .ref a_mays, .ref a_rowsTo, .ref a_endIn, .long v_rowsAll, .ref a_ends, .ref a_pairSets, .ref a_awayIn, .ref a_now, .ref a_then, .long v_awayUpper, .long v_lower, .ref a_comers, .int v_comerMany, .ref a_seen, .ref a_seenMany, .int v_seenRows, .ref a_kept, .ref a_isKept, .int v_place, .int v_isWriting])), (a_far, eI cI 144 v_far), (a_mays, eI cI 4096 u1.2), (a_ends, eI cI 8192 o)] H → va_S A s.heap H locs → lv_has ls 7 [(0, .ref a_t), (2, .int y2_9)] → W p l e { frames := 4, cells := 0, slots := 0, locals := 90 } s m args below meth c H locs 0 0 Q (F0 m 158 ls [])) → W p l e { frames := 4, cells := 0, slots := 0, locals := 90 } s m args below meth c H locs 0 0 Q (F0 m 15 ls []) := by
          intro n
          induction n with
          | zero => intro y3_15 z_ends_15 o H locs ls hf; exact (ob_n hf).elim
          | succ n ih =>
            intro y3_15 z_ends_15 o H locs ls hf hP hS hl kk
            rw [f_X11_findEnds_15_s] at hf
            refine lv_iload_n hx hb dX11_findEnds_15 rfl (lv_at hl 2 rfl) ?_
            refine lv_iconst (v := 2) hx hb dX11_findEnds_16 (by decide) ?_
            refine lv_icmp_ge (tgt := 158) hx hb dX11_findEnds_17 (by decide) (fun c5 => ?_) (fun c5 => ?_)
            · have hf := ob_t c5 hf
              obtain rfl := Option.some.inj hf
              exact kk _ _ _ hP hS (lv_sub hl [0, 1] rfl)
            · have hf := ob_f c5 hf
              refine lv_bipush (v := (-6)) hx hb dX11_findEnds_20 (by decide) ?_
              refine lv_istore (lv' := [(4, .int (-6 : Int32)), (0, .ref a_t), (2, .int y2_9), (3, .int y3_15)]) hx hb dX11_findEnds_22 hl (by decide) rfl (fun ls hl => ?_)
              refine lv_iconst (v := 0) hx hb dX11_findEnds_24 (by decide) ?_
              refine lv_istore (lv' := [(5, .int (0 : Int32)), (4, .int (-6 : Int32)), (0, .ref a_t), (2, .int y2_9), (3, .int y3_15)]) hx hb dX11_findEnds_25 hl (by decide) rfl (fun ls hl => ?_)
              have L27_6 : ∀ (n : Nat) (y4_27 : Int32) (y5_27 : Int32) (o : Int32) (H : Heap) (locs : List Loc) (ls : Array Slot), f_X11_findEnds_27 v_seats u1 y2_9 y3_15 z_ends_15 n y4_27 y5_27 = some o → va_P D vwCl [(a_t, .inr (11, [.ref a_signs, .int v_signMany, .int v_seats, .ref a_links, .ref a_worths, .int v_bearIs, .ref a_far, .ref a_mays, .ref a_rowsTo, .ref a_endIn, .long v_rowsAll, .ref a_ends, .ref a_pairSets, .ref a_awayIn, .ref a_now, .ref a_then, .long v_awayUpper, .long v_lower, .ref a_comers, .int v_comerMany, .ref a_seen, .ref a_seenMany, .int v_seenRows, .ref a_kept, .ref a_isKept, .int v_place, .int v_isWriting])), (a_far, eI cI 144 v_far), (a_mays, eI cI 4096 u1.2), (a_ends, eI cI 8192 z_ends_15)] H → va_S A s.heap H locs → lv_has ls 7 [(0, .ref a_t), (2, .int y2_9), (3, .int y3_15), (4, .int y4_27), (5, .int y5_27)] → (∀ (H : Heap) (locs : List Loc) (ls : Array Slot), va_P D vwCl [(a_t, .inr (11, [.ref a_signs, .int v_signMany, .int v_seats, .ref a_links, .ref a_worths, .int v_bearIs, .ref a_far, .ref a_mays, .ref a_rowsTo, .ref a_endIn, .long v_rowsAll, .ref a_ends, .ref a_pairSets, .ref a_awayIn, .ref a_now, .ref a_then, .long v_awayUpper, .long v_lower, .ref a_comers, .int v_comerMany, .ref a_seen, .ref a_seenMany, .int v_seenRows, .ref a_kept, .ref a_isKept, .int v_place, .int v_isWriting])), (a_far, eI cI 144 v_far), (a_mays, eI cI 4096 u1.2), (a_ends, eI cI 8192 z_ends_15)] H → va_S A s.heap H locs → lv_has ls 7 [(0, .ref a_t), (2, .int y2_9), (3, .int y3_15), (4, .int o)] → W p l e { frames := 4, cells := 0, slots := 0, locals := 90 } s m args below meth c H locs 0 0 Q (F0 m 122 ls [])) → W p l e { frames := 4, cells := 0, slots := 0, locals := 90 } s m args below meth c H locs 0 0 Q (F0 m 27 ls []) := by
                intro n
                induction n with
                | zero => intro y4_27 y5_27 o H locs ls hf; exact (ob_n hf).elim
                | succ n ih =>
                  intro y4_27 y5_27 o H locs ls hf hP hS hl kk
                  rw [f_X11_findEnds_27_s] at hf
                  refine lv_iload hx hb dX11_findEnds_27 (lv_at hl 4 rfl) ?_
                  refine lv_aload_n hx hb dX11_findEnds_29 rfl (lv_at hl 0 rfl) ?_
                  refine gf_X11_63 Cx hP 0 rfl rfl dX11_findEnds_30 ?_
                  refine lv_icmp_ge (tgt := 122) hx hb dX11_findEnds_33 (by decide) (fun c7 => ?_) (fun c7 => ?_)
                  · have hf := ob_t c7 hf
                    obtain rfl := Option.some.inj hf
                    exact kk _ _ _ hP hS (lv_sub hl [0, 1, 2, 3] rfl)
                  · have hf := ob_f c7 hf
                    refine lv_aload_n hx hb dX11_findEnds_36 rfl (lv_at hl 0 rfl) ?_
                    refine gf_X11_22 Cx hP 0 rfl rfl dX11_findEnds_37 ?_
                    refine lv_iload_n hx hb dX11_findEnds_40 rfl (lv_at hl 1 rfl) ?_
                    obtain ⟨u8, hu8, hf⟩ := ob_b hf
                    refine ba_iald Cx hP 2 rfl hu8 dX11_findEnds_41 ?_
                    refine lv_if_le (tgt := 122) hx hb dX11_findEnds_42 (by decide) (fun c9 => ?_) (fun c9 => ?_)
                    · have hf := ob_t c9 hf
                      obtain rfl := Option.some.inj hf
                      exact kk _ _ _ hP hS (lv_sub hl [0, 1, 2, 3] rfl)
                    · have hf := ob_f c9 hf
                      refine lv_aload_n hx hb dX11_findEnds_45 rfl (lv_at hl 0 rfl) ?_
                      refine gf_X11_22 Cx hP 0 rfl rfl dX11_findEnds_46 ?_
                      refine lv_iload_n hx hb dX11_findEnds_49 rfl (lv_at hl 1 rfl) ?_
                      obtain ⟨u10, hu10, hf⟩ := ob_b hf
                      refine ba_iald Cx hP 2 rfl hu10 dX11_findEnds_50 ?_
                      refine lv_iload hx hb dX11_findEnds_51 (lv_at hl 4 rfl) ?_
                      refine lv_ishr hx hb dX11_findEnds_53 ?_
                      refine lv_iconst (v := 1) hx hb dX11_findEnds_54 (by decide) ?_
                      refine lv_iand hx hb dX11_findEnds_55 ?_
                      refine lv_iconst (v := 1) hx hb dX11_findEnds_56 (by decide) ?_
                      refine ob_J (P := fun w11 => ∀ (H : Heap) (locs : List Loc) (ls : Array Slot), va_P D vwCl [(a_t, .inr (11, [.ref a_signs, .int v_signMany, .int v_seats, .ref a_links, .ref a_worths, .int v_bearIs, .ref a_far, .ref a_mays, .ref a_rowsTo, .ref a_endIn, .long v_rowsAll, .ref a_ends, .ref a_pairSets, .ref a_awayIn, .ref a_now, .ref a_then, .long v_awayUpper, .long v_lower, .ref a_comers, .int v_comerMany, .ref a_seen, .ref a_seenMany, .int v_seenRows, .ref a_kept, .ref a_isKept, .int v_place, .int v_isWriting])), (a_far, eI cI 144 v_far), (a_mays, eI cI 4096 u1.2), (a_ends, eI cI 8192 z_ends_15)] H → va_S A s.heap H locs → lv_has ls 7 [(0, .ref a_t), (2, .int y2_9), (3, .int y3_15), (4, .int w11), (5, .int y5_27)] → W p l e { frames := 4, cells := 0, slots := 0, locals := 90 } s m args below meth c H locs 0 0 Q (F0 m 116 ls [])) hf ?_ ?_
                      · intro w11 hf H locs ls hP hS hl
                        refine lv_iinc (v := (y5_27 + 1)) (lv' := [(5, .int (y5_27 + 1)), (0, .ref a_t), (2, .int y2_9), (3, .int y3_15), (4, .int w11)]) hx hb dX11_findEnds_116 hl (k := 4) rfl rfl (by decide) rfl (fun ls hl => ?_)
                        refine lv_goto (tgt := 27) hx hb dX11_findEnds_119 (by decide) ?_
                        exact ih w11 (y5_27 + 1) _ _ _ _ hf hP hS (lv_sub hl [1, 2, 3, 4, 0] rfl) kk
                      · intro J116_12 hf
                        refine lv_icmp_ne (tgt := 116) hx hb dX11_findEnds_57 (by decide) (fun c13 => ?_) (fun c13 => ?_)
                        · have hf := ob_fk c13 hf
                          exact J116_12 y4_27 hf _ _ _ hP hS (lv_sub hl [0, 1, 2, 3, 4] rfl)
                        · have hf := ob_tk c13 hf
                          refine lv_aload_n hx hb dX11_findEnds_60 rfl (lv_at hl 0 rfl) ?_
                          refine gf_X11_32 Cx hP 0 rfl rfl dX11_findEnds_61 ?_
                          refine lv_sipush (v := 4096) hx hb dX11_findEnds_64 (by decide) ?_
                          refine lv_iconst (v := 1) hx hb dX11_findEnds_67 (by decide) ?_
                          refine lv_iload_n hx hb dX11_findEnds_68 rfl (lv_at hl 2 rfl) ?_
                          refine lv_isub hx hb dX11_findEnds_69 ?_
                          refine lv_imul hx hb dX11_findEnds_70 ?_
                          refine lv_iload_n hx hb dX11_findEnds_71 rfl (lv_at hl 1 rfl) ?_
                          refine lv_iconst (v := 1) hx hb dX11_findEnds_72 (by decide) ?_
                          refine lv_iload hx hb dX11_findEnds_73 (lv_at hl 4 rfl) ?_
                          refine lv_ishl hx hb dX11_findEnds_75 ?_
                          refine lv_ior hx hb dX11_findEnds_76 ?_
                          refine lv_iadd hx hb dX11_findEnds_77 ?_
                          obtain ⟨u14, hu14, hf⟩ := ob_bk hf
                          refine ba_iald Cx hP 3 rfl hu14 dX11_findEnds_78 ?_
                          refine lv_istore (lv' := [(6, .int u14), (0, .ref a_t), (2, .int y2_9), (3, .int y3_15), (4, .int y4_27), (5, .int y5_27)]) hx hb dX11_findEnds_79 hl (by decide) rfl (fun ls hl => ?_)
                          refine lv_iload hx hb dX11_findEnds_81 (lv_at hl 4 rfl) ?_
                          have hf := ob_as hf
                          refine ob_J (P := fun w15 => ∀ (H : Heap) (locs : List Loc) (ls : Array Slot), va_P D vwCl [(a_t, .inr (11, [.ref a_signs, .int v_signMany, .int v_seats, .ref a_links, .ref a_worths, .int v_bearIs, .ref a_far, .ref a_mays, .ref a_rowsTo, .ref a_endIn, .long v_rowsAll, .ref a_ends, .ref a_pairSets, .ref a_awayIn, .ref a_now, .ref a_then, .long v_awayUpper, .long v_lower, .ref a_comers, .int v_comerMany, .ref a_seen, .ref a_seenMany, .int v_seenRows, .ref a_kept, .ref a_isKept, .int v_place, .int v_isWriting])), (a_far, eI cI 144 v_far), (a_mays, eI cI 4096 u1.2), (a_ends, eI cI 8192 z_ends_15)] H → va_S A s.heap H locs → lv_has ls 7 [(0, .ref a_t), (2, .int y2_9), (3, .int y3_15), (5, .int y5_27)] → W p l e { frames := 4, cells := 0, slots := 0, locals := 90 } s m args below meth c H locs 0 0 Q (F0 m 114 ls [.int w15])) hf ?_ ?_
                          · intro w15 hf H locs ls hP hS hl
                            refine lv_istore (lv' := [(4, .int w15), (0, .ref a_t), (2, .int y2_9), (3, .int y3_15), (5, .int y5_27)]) hx hb dX11_findEnds_114 hl (by decide) rfl (fun ls hl => ?_)
                            exact J116_12 w15 hf _ _ _ hP hS (lv_sub hl [1, 2, 3, 0, 4] rfl)
                          · intro J114_16 hf
                            refine lv_if_lt (tgt := 107) hx hb dX11_findEnds_83 (by decide) (fun c17 => ?_) (fun c17 => ?_)
                            · have hf := ob_tk c17 hf
                              refine lv_iload hx hb dX11_findEnds_107 (lv_at hl 0 rfl) ?_
                              refine lv_goto (tgt := 114) hx hb dX11_findEnds_109 (by decide) ?_
                              exact J114_16 u14 hf _ _ _ hP hS (lv_sub hl [1, 2, 3, 5] rfl)
                            · have hf := ob_fk c17 hf
                              refine lv_iload_n hx hb dX11_findEnds_86 rfl (lv_at hl 3 rfl) ?_
                              refine lv_if_ne (tgt := 100) hx hb dX11_findEnds_87 (by decide) (fun c18 => ?_) (fun c18 => ?_)
                              · have hf := ob_fk c18 hf
                                refine lv_iload hx hb dX11_findEnds_100 (lv_at hl 0 rfl) ?_
                                refine lv_iload hx hb dX11_findEnds_102 (lv_at hl 4 rfl) ?_
                                refine lv_icmp_ge (tgt := 112) hx hb dX11_findEnds_104 (by decide) (fun c19 => ?_) (fun c19 => ?_)
                                · have hf := ob_tk c19 hf
                                  refine lv_iload hx hb dX11_findEnds_112 (lv_at hl 4 rfl) ?_
                                  exact J114_16 y4_27 hf _ _ _ hP hS (lv_sub hl [1, 2, 3, 5] rfl)
                                · have hf := ob_fk c19 hf
                                  refine lv_iload hx hb dX11_findEnds_107 (lv_at hl 0 rfl) ?_
                                  refine lv_goto (tgt := 114) hx hb dX11_findEnds_109 (by decide) ?_
                                  exact J114_16 u14 hf _ _ _ hP hS (lv_sub hl [1, 2, 3, 5] rfl)
                              · have hf := ob_tk c18 hf
                                refine lv_iload hx hb dX11_findEnds_90 (lv_at hl 0 rfl) ?_
                                refine lv_iload hx hb dX11_findEnds_92 (lv_at hl 4 rfl) ?_
                                refine lv_icmp_le (tgt := 112) hx hb dX11_findEnds_94 (by decide) (fun c20 => ?_) (fun c20 => ?_)
                                · have hf := ob_tk c20 hf
                                  refine lv_iload hx hb dX11_findEnds_112 (lv_at hl 4 rfl) ?_
                                  exact J114_16 y4_27 hf _ _ _ hP hS (lv_sub hl [1, 2, 3, 5] rfl)
                                · have hf := ob_fk c20 hf
                                  refine lv_goto (tgt := 107) hx hb dX11_findEnds_97 (by decide) ?_
                                  refine lv_iload hx hb dX11_findEnds_107 (lv_at hl 0 rfl) ?_
                                  refine lv_goto (tgt := 114) hx hb dX11_findEnds_109 (by decide) ?_
                                  exact J114_16 u14 hf _ _ _ hP hS (lv_sub hl [1, 2, 3, 5] rfl)
              obtain ⟨u21, hu21, hf⟩ := ob_b hf
              refine L27_6 FU (-6 : Int32) (0 : Int32) u21 _ _ _ hu21 hP hS (lv_sub hl [2, 3, 4, 1, 0] rfl) ?_
              intro H locs ls hP hS hl
              refine lv_aload_n hx hb dX11_findEnds_122 rfl (lv_at hl 0 rfl) ?_
              refine gf_X11_32 Cx hP 0 rfl rfl dX11_findEnds_123 ?_
              refine lv_sipush (v := 4096) hx hb dX11_findEnds_126 (by decide) ?_
              refine lv_iload_n hx hb dX11_findEnds_129 rfl (lv_at hl 2 rfl) ?_
              refine lv_imul hx hb dX11_findEnds_130 ?_
              refine lv_iload_n hx hb dX11_findEnds_131 rfl (lv_at hl 1 rfl) ?_
              refine lv_iadd hx hb dX11_findEnds_132 ?_
              refine lv_aload_n hx hb dX11_findEnds_133 rfl (lv_at hl 0 rfl) ?_
              refine gf_X11_22 Cx hP 0 rfl rfl dX11_findEnds_134 ?_
              refine lv_iload_n hx hb dX11_findEnds_137 rfl (lv_at hl 1 rfl) ?_
              obtain ⟨u22, hu22, hf⟩ := ob_b hf
              refine ba_iald Cx hP 2 rfl hu22 dX11_findEnds_138 ?_
              refine ob_J (P := fun w23 => ∀ (H : Heap) (locs : List Loc) (ls : Array Slot), va_P D vwCl [(a_t, .inr (11, [.ref a_signs, .int v_signMany, .int v_seats, .ref a_links, .ref a_worths, .int v_bearIs, .ref a_far, .ref a_mays, .ref a_rowsTo, .ref a_endIn, .long v_rowsAll, .ref a_ends, .ref a_pairSets, .ref a_awayIn, .ref a_now, .ref a_then, .long v_awayUpper, .long v_lower, .ref a_comers, .int v_comerMany, .ref a_seen, .ref a_seenMany, .int v_seenRows, .ref a_kept, .ref a_isKept, .int v_place, .int v_isWriting])), (a_far, eI cI 144 v_far), (a_mays, eI cI 4096 u1.2), (a_ends, eI cI 8192 z_ends_15)] H → va_S A s.heap H locs → lv_has ls 7 [(0, .ref a_t), (2, .int y2_9), (3, .int y3_15)] → W p l e { frames := 4, cells := 0, slots := 0, locals := 90 } s m args below meth c H locs 0 0 Q (F0 m 151 ls [.int w23, .int (((4096 : Int32) * y3_15) + y2_9), .ref a_ends])) hf ?_ ?_
              · intro w23 hf H locs ls hP hS hl
                obtain ⟨u25, hu25, hf⟩ := ob_b hf
                refine ba_iast (X' := [(a_t, .inr (11, [.ref a_signs, .int v_signMany, .int v_seats, .ref a_links, .ref a_worths, .int v_bearIs, .ref a_far, .ref a_mays, .ref a_rowsTo, .ref a_endIn, .long v_rowsAll, .ref a_ends, .ref a_pairSets, .ref a_awayIn, .ref a_now, .ref a_then, .long v_awayUpper, .long v_lower, .ref a_comers, .int v_comerMany, .ref a_seen, .ref a_seenMany, .int v_seenRows, .ref a_kept, .ref a_isKept, .int v_place, .int v_isWriting])), (a_far, eI cI 144 v_far), (a_mays, eI cI 4096 u1.2), (a_ends, eI cI 8192 u25)]) Cx hP hS rfl 3 rfl rfl hu25 dX11_findEnds_151 (fun H locs hP hS => ?_)
                refine lv_iinc (v := (y3_15 + 1)) (lv' := [(3, .int (y3_15 + 1)), (0, .ref a_t), (2, .int y2_9)]) hx hb dX11_findEnds_152 hl (k := 2) rfl rfl (by decide) rfl (fun ls hl => ?_)
                refine lv_goto (tgt := 15) hx hb dX11_findEnds_155 (by decide) ?_
                exact ih (y3_15 + 1) u25 _ _ _ _ hf hP hS (lv_sub hl [1, 2, 0] rfl) kk
              · intro J151_24 hf
                refine lv_if_ne (tgt := 149) hx hb dX11_findEnds_139 (by decide) (fun c26 => ?_) (fun c26 => ?_)
                · have hf := ob_fk c26 hf
                  refine lv_iload hx hb dX11_findEnds_149 (lv_at hl 3 rfl) ?_
                  exact J151_24 u21 hf _ _ _ hP hS (lv_sub hl [0, 1, 2] rfl)
                · have hf := ob_tk c26 hf
                  refine lv_iload_n hx hb dX11_findEnds_142 rfl (lv_at hl 1 rfl) ?_
                  obtain ⟨u27, hu27, hf⟩ := ob_bk hf
                  refine iv_X11_144 (As := [.int y2_9]) (rest := [.int (((4096 : Int32) * y3_15) + y2_9), .ref a_ends]) (is := []) (X' := [(a_t, .inr (11, [.ref a_signs, .int v_signMany, .int v_seats, .ref a_links, .ref a_worths, .int v_bearIs, .ref a_far, .ref a_mays, .ref a_rowsTo, .ref a_endIn, .long v_rowsAll, .ref a_ends, .ref a_pairSets, .ref a_awayIn, .ref a_now, .ref a_then, .long v_awayUpper, .long v_lower, .ref a_comers, .int v_comerMany, .ref a_seen, .ref a_seenMany, .int v_seenRows, .ref a_kept, .ref a_isKept, .int v_place, .int v_isWriting])), (a_far, eI cI 144 v_far), (a_mays, eI cI 4096 u1.2), (a_ends, eI cI 8192 z_ends_15)]) Cx (c_X11_ones l D cI cJ cZ cO  y2_9 u27 hu27) hP hS rfl rfl rfl rfl rfl rfl hl.1 (Nat.le_of_ble_eq_true rfl) dX11_findEnds_143 rfl rfl ⟨Nat.le_of_ble_eq_true rfl, Nat.le_of_ble_eq_true rfl⟩ ⟨Nat.zero_le _, Nat.zero_le _⟩ rfl (fun H locs hP hS => ?_)
                  refine lv_goto (tgt := 151) hx hb dX11_findEnds_146 (by decide) ?_
                  exact J151_24 u27 hf _ _ _ hP hS (lv_sub hl [0, 1, 2] rfl)
        obtain ⟨u28, hu28, hf⟩ := ob_b hf
        refine L15_4 FU (0 : Int32) z_ends_9 u28 _ _ _ hu28 hP hS (lv_sub hl [1, 2, 0] rfl) ?_
        intro H locs ls hP hS hl
        refine lv_iinc (v := (y2_9 + (-1))) (lv' := [(2, .int (y2_9 + (-1))), (0, .ref a_t)]) hx hb dX11_findEnds_158 hl (k := 1) rfl rfl (by decide) rfl (fun ls hl => ?_)
        refine lv_goto (tgt := 9) hx hb dX11_findEnds_161 (by decide) ?_
        exact ih (y2_9 + (-1)) u28 _ _ _ _ hf hP hS (lv_sub hl [1, 0] rfl) kk
  obtain ⟨u29, hu29, hf⟩ := ob_b hf
  refine L9_2 FU (u1.1 - (1 : Int32)) v_ends u29 _ _ _ hu29 hP hS (lv_sub hl [2, 0] rfl) ?_
  intro H locs ls hP hS hl
  obtain rfl := Option.some.inj hf
  exact ret _ _ _ _ dX11_findEnds_164 hP hS

def f_X11_game_79 (x1 : Int32) (x2 : Int32) (u9 : (Nat → Int32) × (Nat → Int32)) (u10 : Int32) : Nat → Int32 → Int32 → Option (Int32)
  | 0, _, _ => none
  | n + 1, y5_79, y6_79 =>
  if y6_79 < 0 then
  some (y5_79)
  else
  (aget 4096 u9.1 x1).bind (fun u14 =>
  (if ((u14 >>> (y6_79 &&& 31)) &&& (1 : Int32)) = (1 : Int32) then
  (aget 8192 u9.2 (((4096 : Int32) * ((1 : Int32) - x2)) + (x1 ||| ((1 : Int32) <<< (y6_79 &&& 31))))).bind (fun u21 =>
  if u21 = u10 then
  some (1 : Int32)
  else
  some (0 : Int32))
  else
  some (0 : Int32)).bind (fun w15 =>
  (if w15 = 0 then
  some (y5_79)
  else
  some (y6_79)).bind (fun w17 =>
  f_X11_game_79 x1 x2 u9 u10 n w17 (y6_79 + (-1)))))
theorem f_X11_game_79_s (x1 : Int32) (x2 : Int32) (u9 : (Nat → Int32) × (Nat → Int32)) (u10 : Int32) (n : Nat) (y5_79 : Int32) (y6_79 : Int32) : f_X11_game_79 x1 x2 u9 u10 (n + 1) y5_79 y6_79 =
  (if y6_79 < 0 then
  some (y5_79)
  else
  (aget 4096 u9.1 x1).bind (fun u14 =>
  (if ((u14 >>> (y6_79 &&& 31)) &&& (1 : Int32)) = (1 : Int32) then
  (aget 8192 u9.2 (((4096 : Int32) * ((1 : Int32) - x2)) + (x1 ||| ((1 : Int32) <<< (y6_79 &&& 31))))).bind (fun u21 =>
  if u21 = u10 then
  some (1 : Int32)
  else
  some (0 : Int32))
  else
  some (0 : Int32)).bind (fun w15 =>
  (if w15 = 0 then
  some (y5_79)
  else
  some (y6_79)).bind (fun w17 =>
  f_X11_game_79 x1 x2 u9 u10 n w17 (y6_79 + (-1)))))) := rfl
def f_X11_game (v_seats : Int32) (v_bearIs : Int32) (v_far : Nat → Int32) (v_mays : Nat → Int32) (v_ends : Nat → Int32) (x1 : Int32) (x2 : Int32) (x3 : Int32) : Option (Int32 × (Nat → Int32) × (Nat → Int32)) :=
  (f_X11_isSet v_seats x1).bind (fun u1 =>
  if u1 = 0 then
  some ((-2 : Int32), v_mays, v_ends)
  else
  (f_X11_in ((x2).toInt64) (0 : Int64) (1 : Int64)).bind (fun u3 =>
  if u3 = 0 then
  some ((-2 : Int32), v_mays, v_ends)
  else
  (f_X11_in ((x3).toInt64) (0 : Int64) (1 : Int64)).bind (fun u5 =>
  if u5 = 0 then
  some ((-2 : Int32), v_mays, v_ends)
  else
  (f_X11_isFilled v_seats v_bearIs v_far x1).bind (fun u7 =>
  if u7 = 0 then
  some ((-3 : Int32), v_mays, v_ends)
  else
  (f_X11_findEnds v_seats v_bearIs v_far v_mays v_ends).bind (fun u9 =>
  (aget 8192 u9.2 (((4096 : Int32) * x2) + x1)).bind (fun u10 =>
  if x3 = 0 then
  some (u10, u9.1, u9.2)
  else
  (f_X11_game_79 x1 x2 u9 u10 FU (-6 : Int32) (v_seats - (1 : Int32))).bind (fun u23 =>
  some (u23, u9.1, u9.2))))))))
set_option maxHeartbeats 4000000 in
set_option maxRecDepth 100000 in
theorem c_X11_game (l : Launch) (D : va_G) (cI cJ cZ cO : ClassId) (a_t a_signs a_links a_worths a_far a_mays a_rowsTo a_endIn a_ends a_pairSets a_awayIn a_now a_then a_comers a_seen a_seenMany a_kept a_isKept : Nat) (v_signMany : Int32) (v_seats : Int32) (v_bearIs : Int32) (v_rowsAll : Int64) (v_awayUpper : Int64) (v_lower : Int64) (v_comerMany : Int32) (v_seenRows : Int32) (v_place : Int32) (v_isWriting : Int32) (v_far : Nat → Int32) (v_mays : Nat → Int32) (v_ends : Nat → Int32) (x1 : Int32) (x2 : Int32) (x3 : Int32) (out : Int32 × (Nat → Int32) × (Nat → Int32)) (hf : f_X11_game v_seats v_bearIs v_far v_mays v_ends x1 x2 x3 = some out) : MetR l yX11_game (Cond.code yX11_game cX11_game 8 (some .int) :: tbG) { frames := 5, cells := 0, slots := 0, locals := 116 } D (tyL cI cJ cZ cO) [.ref a_t, .int x1, .int x2, .int x3] [(a_t, .inr (11, [.ref a_signs, .int v_signMany, .int v_seats, .ref a_links, .ref a_worths, .int v_bearIs, .ref a_far, .ref a_mays, .ref a_rowsTo, .ref a_endIn, .long v_rowsAll, .ref a_ends, .ref a_pairSets, .ref a_awayIn, .ref a_now, .ref a_then, .long v_awayUpper, .long v_lower, .ref a_comers, .int v_comerMany, .ref a_seen, .ref a_seenMany, .int v_seenRows, .ref a_kept, .ref a_isKept, .int v_place, .int v_isWriting])), (a_far, eI cI 144 v_far), (a_mays, eI cI 4096 v_mays), (a_ends, eI cI 8192 v_ends)] (some (.int out.1)) [(a_t, .inr (11, [.ref a_signs, .int v_signMany, .int v_seats, .ref a_links, .ref a_worths, .int v_bearIs, .ref a_far, .ref a_mays, .ref a_rowsTo, .ref a_endIn, .long v_rowsAll, .ref a_ends, .ref a_pairSets, .ref a_awayIn, .ref a_now, .ref a_then, .long v_awayUpper, .long v_lower, .ref a_comers, .int v_comerMany, .ref a_seen, .ref a_seenMany, .int v_seenRows, .ref a_kept, .ref a_isKept, .int v_place, .int v_isWriting])), (a_far, eI cI 144 v_far), (a_mays, eI cI 4096 out.2.1), (a_ends, eI cI 8192 out.2.2)] := by
  refine ba_ofI RX11 [(0, .ref a_t), (1, .int x1), (2, .int x2), (3, .int x3)] (by decide +kernel) rfl (Nat.le_of_ble_eq_true rfl) rfl ?_
  intro p e s m args below meth c Q A Cx hP ret ls hl
  obtain ⟨⟨hx, hb, hml, hown, hts⟩, hK, hD, hA⟩ := id Cx
  have hS : va_S A s.heap s.heap [] := va_S.rf
  unfold f_X11_game at hf
  refine lv_aload_n hx hb dX11_game_0 rfl (lv_at hl 0 rfl) ?_
  refine lv_iload_n hx hb dX11_game_1 rfl (lv_at hl 1 rfl) ?_
  obtain ⟨u1, hu1, hf⟩ := ob_b hf
  refine iv_X11_127 (As := [.int x1]) (rest := []) (is := [0]) (q0 := 0) (X' := [(a_t, .inr (11, [.ref a_signs, .int v_signMany, .int v_seats, .ref a_links, .ref a_worths, .int v_bearIs, .ref a_far, .ref a_mays, .ref a_rowsTo, .ref a_endIn, .long v_rowsAll, .ref a_ends, .ref a_pairSets, .ref a_awayIn, .ref a_now, .ref a_then, .long v_awayUpper, .long v_lower, .ref a_comers, .int v_comerMany, .ref a_seen, .ref a_seenMany, .int v_seenRows, .ref a_kept, .ref a_isKept, .int v_place, .int v_isWriting])), (a_far, eI cI 144 v_far), (a_mays, eI cI 4096 v_mays), (a_ends, eI cI 8192 v_ends)]) Cx (c_X11_isSet l D cI cJ cZ cO a_t a_signs a_links a_worths a_far a_mays a_rowsTo a_endIn a_ends a_pairSets a_awayIn a_now a_then a_comers a_seen a_seenMany a_kept a_isKept v_signMany v_seats v_bearIs v_rowsAll v_awayUpper v_lower v_comerMany v_seenRows v_place v_isWriting x1 u1 hu1) hP hS rfl rfl rfl rfl rfl rfl rfl hl.1 (Nat.le_of_ble_eq_true rfl) dX11_game_2 rfl rfl ⟨Nat.le_of_ble_eq_true rfl, Nat.le_of_ble_eq_true rfl⟩ ⟨Nat.zero_le _, Nat.zero_le _⟩ rfl (fun H locs hP hS => ?_)
  refine lv_if_eq (tgt := 28) hx hb dX11_game_5 (by decide) (fun c2 => ?_) (fun c2 => ?_)
  · have hf := ob_t c2 hf
    refine lv_bipush (v := (-2)) hx hb dX11_game_28 (by decide) ?_
    obtain rfl := Option.some.inj hf
    exact ret _ _ _ _ dX11_game_30 hP hS
  · have hf := ob_f c2 hf
    refine lv_iload_n hx hb dX11_game_8 rfl (lv_at hl 2 rfl) ?_
    refine lv_i2l (v := (x2).toInt64) hx hb dX11_game_9 rfl ?_
    refine lv_lconst (v := 0) hx hb dX11_game_10 (by decide) ?_
    refine lv_lconst (v := 1) hx hb dX11_game_11 (by decide) ?_
    obtain ⟨u3, hu3, hf⟩ := ob_b hf
    refine iv_X11_74 (As := [.long ((x2).toInt64), .long (0 : Int64), .long (1 : Int64)]) (rest := []) (is := []) (X' := [(a_t, .inr (11, [.ref a_signs, .int v_signMany, .int v_seats, .ref a_links, .ref a_worths, .int v_bearIs, .ref a_far, .ref a_mays, .ref a_rowsTo, .ref a_endIn, .long v_rowsAll, .ref a_ends, .ref a_pairSets, .ref a_awayIn, .ref a_now, .ref a_then, .long v_awayUpper, .long v_lower, .ref a_comers, .int v_comerMany, .ref a_seen, .ref a_seenMany, .int v_seenRows, .ref a_kept, .ref a_isKept, .int v_place, .int v_isWriting])), (a_far, eI cI 144 v_far), (a_mays, eI cI 4096 v_mays), (a_ends, eI cI 8192 v_ends)]) Cx (c_X11_in l D cI cJ cZ cO  ((x2).toInt64) (0 : Int64) (1 : Int64) u3 hu3) hP hS rfl rfl rfl rfl rfl rfl hl.1 (Nat.le_of_ble_eq_true rfl) dX11_game_12 rfl rfl ⟨Nat.le_of_ble_eq_true rfl, Nat.le_of_ble_eq_true rfl⟩ ⟨Nat.zero_le _, Nat.zero_le _⟩ rfl (fun H locs hP hS => ?_)
    refine lv_if_eq (tgt := 28) hx hb dX11_game_15 (by decide) (fun c4 => ?_) (fun c4 => ?_)
    · have hf := ob_t c4 hf
      refine lv_bipush (v := (-2)) hx hb dX11_game_28 (by decide) ?_
      obtain rfl := Option.some.inj hf
      exact ret _ _ _ _ dX11_game_30 hP hS
    · have hf := ob_f c4 hf
      refine lv_iload_n hx hb dX11_game_18 rfl (lv_at hl 3 rfl) ?_
      refine lv_i2l (v := (x3).toInt64) hx hb dX11_game_19 rfl ?_
      refine lv_lconst (v := 0) hx hb dX11_game_20 (by decide) ?_
      refine lv_lconst (v := 1) hx hb dX11_game_21 (by decide) ?_
      obtain ⟨u5, hu5, hf⟩ := ob_b hf
      refine iv_X11_74 (As := [.long ((x3).toInt64), .long (0 : Int64), .long (1 : Int64)]) (rest := []) (is := []) (X' := [(a_t, .inr (11, [.ref a_signs, .int v_signMany, .int v_seats, .ref a_links, .ref a_worths, .int v_bearIs, .ref a_far, .ref a_mays, .ref a_rowsTo, .ref a_endIn, .long v_rowsAll, .ref a_ends, .ref a_pairSets, .ref a_awayIn, .ref a_now, .ref a_then, .long v_awayUpper, .long v_lower, .ref a_comers, .int v_comerMany, .ref a_seen, .ref a_seenMany, .int v_seenRows, .ref a_kept, .ref a_isKept, .int v_place, .int v_isWriting])), (a_far, eI cI 144 v_far), (a_mays, eI cI 4096 v_mays), (a_ends, eI cI 8192 v_ends)]) Cx (c_X11_in l D cI cJ cZ cO  ((x3).toInt64) (0 : Int64) (1 : Int64) u5 hu5) hP hS rfl rfl rfl rfl rfl rfl hl.1 (Nat.le_of_ble_eq_true rfl) dX11_game_22 rfl rfl ⟨Nat.le_of_ble_eq_true rfl, Nat.le_of_ble_eq_true rfl⟩ ⟨Nat.zero_le _, Nat.zero_le _⟩ rfl (fun H locs hP hS => ?_)
      refine lv_if_ne (tgt := 31) hx hb dX11_game_25 (by decide) (fun c6 => ?_) (fun c6 => ?_)
      · have hf := ob_f c6 hf
        refine lv_aload_n hx hb dX11_game_31 rfl (lv_at hl 0 rfl) ?_
        refine lv_iload_n hx hb dX11_game_32 rfl (lv_at hl 1 rfl) ?_
        obtain ⟨u7, hu7, hf⟩ := ob_b hf
        refine iv_X11_130 (As := [.int x1]) (rest := []) (is := [0, 1]) (q0 := 0) (X' := [(a_t, .inr (11, [.ref a_signs, .int v_signMany, .int v_seats, .ref a_links, .ref a_worths, .int v_bearIs, .ref a_far, .ref a_mays, .ref a_rowsTo, .ref a_endIn, .long v_rowsAll, .ref a_ends, .ref a_pairSets, .ref a_awayIn, .ref a_now, .ref a_then, .long v_awayUpper, .long v_lower, .ref a_comers, .int v_comerMany, .ref a_seen, .ref a_seenMany, .int v_seenRows, .ref a_kept, .ref a_isKept, .int v_place, .int v_isWriting])), (a_far, eI cI 144 v_far), (a_mays, eI cI 4096 v_mays), (a_ends, eI cI 8192 v_ends)]) Cx (c_X11_isFilled l D cI cJ cZ cO a_t a_signs a_links a_worths a_far a_mays a_rowsTo a_endIn a_ends a_pairSets a_awayIn a_now a_then a_comers a_seen a_seenMany a_kept a_isKept v_signMany v_seats v_bearIs v_rowsAll v_awayUpper v_lower v_comerMany v_seenRows v_place v_isWriting v_far x1 u7 hu7) hP hS rfl rfl rfl rfl rfl rfl rfl hl.1 (Nat.le_of_ble_eq_true rfl) dX11_game_33 rfl rfl ⟨Nat.le_of_ble_eq_true rfl, Nat.le_of_ble_eq_true rfl⟩ ⟨Nat.zero_le _, Nat.zero_le _⟩ rfl (fun H locs hP hS => ?_)
        refine lv_if_ne (tgt := 42) hx hb dX11_game_36 (by decide) (fun c8 => ?_) (fun c8 => ?_)
        · have hf := ob_f c8 hf
          refine lv_aload_n hx hb dX11_game_42 rfl (lv_at hl 0 rfl) ?_
          obtain ⟨u9, hu9, hf⟩ := ob_b hf
          refine iv_X11_169 (As := []) (rest := []) (is := [0, 1, 2, 3]) (q0 := 0) (X' := [(a_t, .inr (11, [.ref a_signs, .int v_signMany, .int v_seats, .ref a_links, .ref a_worths, .int v_bearIs, .ref a_far, .ref a_mays, .ref a_rowsTo, .ref a_endIn, .long v_rowsAll, .ref a_ends, .ref a_pairSets, .ref a_awayIn, .ref a_now, .ref a_then, .long v_awayUpper, .long v_lower, .ref a_comers, .int v_comerMany, .ref a_seen, .ref a_seenMany, .int v_seenRows, .ref a_kept, .ref a_isKept, .int v_place, .int v_isWriting])), (a_far, eI cI 144 v_far), (a_mays, eI cI 4096 u9.1), (a_ends, eI cI 8192 u9.2)]) Cx (c_X11_findEnds l D cI cJ cZ cO a_t a_signs a_links a_worths a_far a_mays a_rowsTo a_endIn a_ends a_pairSets a_awayIn a_now a_then a_comers a_seen a_seenMany a_kept a_isKept v_signMany v_seats v_bearIs v_rowsAll v_awayUpper v_lower v_comerMany v_seenRows v_place v_isWriting v_far v_mays v_ends u9 hu9) hP hS rfl rfl rfl rfl rfl rfl rfl hl.1 (Nat.le_of_ble_eq_true rfl) dX11_game_43 rfl rfl ⟨Nat.le_of_ble_eq_true rfl, Nat.le_of_ble_eq_true rfl⟩ ⟨Nat.zero_le _, Nat.zero_le _⟩ rfl (fun H locs hP hS => ?_)
          refine lv_aload_n hx hb dX11_game_46 rfl (lv_at hl 0 rfl) ?_
          refine gf_X11_32 Cx hP 0 rfl rfl dX11_game_47 ?_
          refine lv_sipush (v := 4096) hx hb dX11_game_50 (by decide) ?_
          refine lv_iload_n hx hb dX11_game_53 rfl (lv_at hl 2 rfl) ?_
          refine lv_imul hx hb dX11_game_54 ?_
          refine lv_iload_n hx hb dX11_game_55 rfl (lv_at hl 1 rfl) ?_
          refine lv_iadd hx hb dX11_game_56 ?_
          obtain ⟨u10, hu10, hf⟩ := ob_b hf
          refine ba_iald Cx hP 3 rfl hu10 dX11_game_57 ?_
          refine lv_istore (lv' := [(4, .int u10), (0, .ref a_t), (1, .int x1), (2, .int x2), (3, .int x3)]) hx hb dX11_game_58 hl (by decide) rfl (fun ls hl => ?_)
          refine lv_iload_n hx hb dX11_game_60 rfl (lv_at hl 4 rfl) ?_
          refine lv_if_ne (tgt := 67) hx hb dX11_game_61 (by decide) (fun c11 => ?_) (fun c11 => ?_)
          · have hf := ob_f c11 hf
            refine lv_bipush (v := (-6)) hx hb dX11_game_67 (by decide) ?_
            refine lv_istore (lv' := [(5, .int (-6 : Int32)), (4, .int u10), (0, .ref a_t), (1, .int x1), (2, .int x2), (3, .int x3)]) hx hb dX11_game_69 hl (by decide) rfl (fun ls hl => ?_)
            refine lv_aload_n hx hb dX11_game_71 rfl (lv_at hl 2 rfl) ?_
            refine gf_X11_63 Cx hP 0 rfl rfl dX11_game_72 ?_
            refine lv_iconst (v := 1) hx hb dX11_game_75 (by decide) ?_
            refine lv_isub hx hb dX11_game_76 ?_
            refine lv_istore (lv' := [(6, .int (v_seats - (1 : Int32))), (5, .int (-6 : Int32)), (4, .int u10), (0, .ref a_t), (1, .int x1), (2, .int x2), (3, .int x3)]) hx hb dX11_game_77 hl (by decide) rfl (fun ls hl => ?_)
            have L79_12 : ∀ (n : Nat) (y5_79 : Int32) (y6_79 : Int32) (o : Int32) (H : Heap) (locs : List Loc) (ls : Array Slot), f_X11_game_79 x1 x2 u9 u10 n y5_79 y6_79 = some o → va_P D vwCl [(a_t, .inr (11, [.ref a_signs, .int v_signMany, .int v_seats, .ref a_links, .ref a_worths, .int v_bearIs, .ref a_far, .ref a_mays, .ref a_rowsTo, .ref a_endIn, .long v_rowsAll, .ref a_ends, .ref a_pairSets, .ref a_awayIn, .ref a_now, .ref a_then, .long v_awayUpper, .long v_lower, .ref a_comers, .int v_comerMany, .ref a_seen, .ref a_seenMany, .int v_seenRows, .ref a_kept, .ref a_isKept, .int v_place, .int v_isWriting])), (a_far, eI cI 144 v_far), (a_mays, eI cI 4096 u9.1), (a_ends, eI cI 8192 u9.2)] H → va_S A s.heap H locs → lv_has ls 8 [(0, .ref a_t), (1, .int x1), (2, .int x2), (4, .int u10), (5, .int y5_79), (6, .int y6_79)] → (∀ (H : Heap) (locs : List Loc) (ls : Array Slot), va_P D vwCl [(a_t, .inr (11, [.ref a_signs, .int v_signMany, .int v_seats, .ref a_links, .ref a_worths, .int v_bearIs, .ref a_far, .ref a_mays, .ref a_rowsTo, .ref a_endIn, .long v_rowsAll, .ref a_ends, .ref a_pairSets, .ref a_awayIn, .ref a_now, .ref a_then, .long v_awayUpper, .long v_lower, .ref a_comers, .int v_comerMany, .ref a_seen, .ref a_seenMany, .int v_seenRows, .ref a_kept, .ref a_isKept, .int v_place, .int v_isWriting])), (a_far, eI cI 144 v_far), (a_mays, eI cI 4096 u9.1), (a_ends, eI cI 8192 u9.2)] H → va_S A s.heap H locs → lv_has ls 8 [(5, .int o)] → W p l e { frames := 5, cells := 0, slots := 0, locals := 116 } s m args below meth c H locs 0 0 Q (F0 m 150 ls [])) → W p l e { frames := 5, cells := 0, slots := 0, locals := 116 } s m args below meth c H locs 0 0 Q (F0 m 79 ls []) := by
              intro n
              induction n with
              | zero => intro y5_79 y6_79 o H locs ls hf; exact (ob_n hf).elim
              | succ n ih =>
                intro y5_79 y6_79 o H locs ls hf hP hS hl kk
                rw [f_X11_game_79_s] at hf
                refine lv_iload hx hb dX11_game_79 (lv_at hl 5 rfl) ?_
                refine lv_if_lt (tgt := 150) hx hb dX11_game_81 (by decide) (fun c13 => ?_) (fun c13 => ?_)
                · have hf := ob_t c13 hf
                  obtain rfl := Option.some.inj hf
                  exact kk _ _ _ hP hS (lv_sub hl [4] rfl)
                · have hf := ob_f c13 hf
                  refine lv_aload_n hx hb dX11_game_84 rfl (lv_at hl 0 rfl) ?_
                  refine gf_X11_22 Cx hP 0 rfl rfl dX11_game_85 ?_
                  refine lv_iload_n hx hb dX11_game_88 rfl (lv_at hl 1 rfl) ?_
                  obtain ⟨u14, hu14, hf⟩ := ob_b hf
                  refine ba_iald Cx hP 2 rfl hu14 dX11_game_89 ?_
                  refine lv_iload hx hb dX11_game_90 (lv_at hl 5 rfl) ?_
                  refine lv_ishr hx hb dX11_game_92 ?_
                  refine lv_iconst (v := 1) hx hb dX11_game_93 (by decide) ?_
                  refine lv_iand hx hb dX11_game_94 ?_
                  refine lv_iconst (v := 1) hx hb dX11_game_95 (by decide) ?_
                  refine ob_J (P := fun w15 => ∀ (H : Heap) (locs : List Loc) (ls : Array Slot), va_P D vwCl [(a_t, .inr (11, [.ref a_signs, .int v_signMany, .int v_seats, .ref a_links, .ref a_worths, .int v_bearIs, .ref a_far, .ref a_mays, .ref a_rowsTo, .ref a_endIn, .long v_rowsAll, .ref a_ends, .ref a_pairSets, .ref a_awayIn, .ref a_now, .ref a_then, .long v_awayUpper, .long v_lower, .ref a_comers, .int v_comerMany, .ref a_seen, .ref a_seenMany, .int v_seenRows, .ref a_kept, .ref a_isKept, .int v_place, .int v_isWriting])), (a_far, eI cI 144 v_far), (a_mays, eI cI 4096 u9.1), (a_ends, eI cI 8192 u9.2)] H → va_S A s.heap H locs → lv_has ls 8 [(0, .ref a_t), (1, .int x1), (2, .int x2), (4, .int u10), (5, .int y5_79), (6, .int y6_79)] → W p l e { frames := 5, cells := 0, slots := 0, locals := 116 } s m args below meth c H locs 0 0 Q (F0 m 128 ls [.int w15])) hf ?_ ?_
                  · intro w15 hf H locs ls hP hS hl
                    refine lv_istore (lv' := [(7, .int w15), (0, .ref a_t), (1, .int x1), (2, .int x2), (4, .int u10), (5, .int y5_79), (6, .int y6_79)]) hx hb dX11_game_128 hl (by decide) rfl (fun ls hl => ?_)
                    refine lv_iload hx hb dX11_game_130 (lv_at hl 0 rfl) ?_
                    refine ob_J (P := fun w17 => ∀ (H : Heap) (locs : List Loc) (ls : Array Slot), va_P D vwCl [(a_t, .inr (11, [.ref a_signs, .int v_signMany, .int v_seats, .ref a_links, .ref a_worths, .int v_bearIs, .ref a_far, .ref a_mays, .ref a_rowsTo, .ref a_endIn, .long v_rowsAll, .ref a_ends, .ref a_pairSets, .ref a_awayIn, .ref a_now, .ref a_then, .long v_awayUpper, .long v_lower, .ref a_comers, .int v_comerMany, .ref a_seen, .ref a_seenMany, .int v_seenRows, .ref a_kept, .ref a_isKept, .int v_place, .int v_isWriting])), (a_far, eI cI 144 v_far), (a_mays, eI cI 4096 u9.1), (a_ends, eI cI 8192 u9.2)] H → va_S A s.heap H locs → lv_has ls 8 [(0, .ref a_t), (1, .int x1), (2, .int x2), (4, .int u10), (6, .int y6_79)] → W p l e { frames := 5, cells := 0, slots := 0, locals := 116 } s m args below meth c H locs 0 0 Q (F0 m 142 ls [.int w17])) hf ?_ ?_
                    · intro w17 hf H locs ls hP hS hl
                      refine lv_istore (lv' := [(5, .int w17), (0, .ref a_t), (1, .int x1), (2, .int x2), (4, .int u10), (6, .int y6_79)]) hx hb dX11_game_142 hl (by decide) rfl (fun ls hl => ?_)
                      refine lv_iinc (v := (y6_79 + (-1))) (lv' := [(6, .int (y6_79 + (-1))), (5, .int w17), (0, .ref a_t), (1, .int x1), (2, .int x2), (4, .int u10)]) hx hb dX11_game_144 hl (k := 5) rfl rfl (by decide) rfl (fun ls hl => ?_)
                      refine lv_goto (tgt := 79) hx hb dX11_game_147 (by decide) ?_
                      exact ih w17 (y6_79 + (-1)) _ _ _ _ hf hP hS (lv_sub hl [2, 3, 4, 5, 1, 0] rfl) kk
                    · intro J142_18 hf
                      refine lv_if_eq (tgt := 140) hx hb dX11_game_132 (by decide) (fun c19 => ?_) (fun c19 => ?_)
                      · have hf := ob_tk c19 hf
                        refine lv_iload hx hb dX11_game_140 (lv_at hl 5 rfl) ?_
                        exact J142_18 y5_79 hf _ _ _ hP hS (lv_sub hl [1, 2, 3, 4, 6] rfl)
                      · have hf := ob_fk c19 hf
                        refine lv_iload hx hb dX11_game_135 (lv_at hl 6 rfl) ?_
                        refine lv_goto (tgt := 142) hx hb dX11_game_137 (by decide) ?_
                        exact J142_18 y6_79 hf _ _ _ hP hS (lv_sub hl [1, 2, 3, 4, 6] rfl)
                  · intro J128_16 hf
                    refine lv_icmp_ne (tgt := 127) hx hb dX11_game_96 (by decide) (fun c20 => ?_) (fun c20 => ?_)
                    · have hf := ob_fk c20 hf
                      refine lv_iconst (v := 0) hx hb dX11_game_127 (by decide) ?_
                      exact J128_16 (0 : Int32) hf _ _ _ hP hS (lv_sub hl [0, 1, 2, 3, 4, 5] rfl)
                    · have hf := ob_tk c20 hf
                      refine lv_aload_n hx hb dX11_game_99 rfl (lv_at hl 0 rfl) ?_
                      refine gf_X11_32 Cx hP 0 rfl rfl dX11_game_100 ?_
                      refine lv_sipush (v := 4096) hx hb dX11_game_103 (by decide) ?_
                      refine lv_iconst (v := 1) hx hb dX11_game_106 (by decide) ?_
                      refine lv_iload_n hx hb dX11_game_107 rfl (lv_at hl 2 rfl) ?_
                      refine lv_isub hx hb dX11_game_108 ?_
                      refine lv_imul hx hb dX11_game_109 ?_
                      refine lv_iload_n hx hb dX11_game_110 rfl (lv_at hl 1 rfl) ?_
                      refine lv_iconst (v := 1) hx hb dX11_game_111 (by decide) ?_
                      refine lv_iload hx hb dX11_game_112 (lv_at hl 5 rfl) ?_
                      refine lv_ishl hx hb dX11_game_114 ?_
                      refine lv_ior hx hb dX11_game_115 ?_
                      refine lv_iadd hx hb dX11_game_116 ?_
                      obtain ⟨u21, hu21, hf⟩ := ob_bk hf
                      refine ba_iald Cx hP 3 rfl hu21 dX11_game_117 ?_
                      refine lv_iload hx hb dX11_game_118 (lv_at hl 3 rfl) ?_
                      refine lv_icmp_ne (tgt := 127) hx hb dX11_game_120 (by decide) (fun c22 => ?_) (fun c22 => ?_)
                      · have hf := ob_fk c22 hf
                        refine lv_iconst (v := 0) hx hb dX11_game_127 (by decide) ?_
                        exact J128_16 (0 : Int32) hf _ _ _ hP hS (lv_sub hl [0, 1, 2, 3, 4, 5] rfl)
                      · have hf := ob_tk c22 hf
                        refine lv_iconst (v := 1) hx hb dX11_game_123 (by decide) ?_
                        refine lv_goto (tgt := 128) hx hb dX11_game_124 (by decide) ?_
                        exact J128_16 (1 : Int32) hf _ _ _ hP hS (lv_sub hl [0, 1, 2, 3, 4, 5] rfl)
            obtain ⟨u23, hu23, hf⟩ := ob_b hf
            refine L79_12 FU (-6 : Int32) (v_seats - (1 : Int32)) u23 _ _ _ hu23 hP hS (lv_sub hl [3, 4, 5, 2, 1, 0] rfl) ?_
            intro H locs ls hP hS hl
            refine lv_iload hx hb dX11_game_150 (lv_at hl 0 rfl) ?_
            obtain rfl := Option.some.inj hf
            exact ret _ _ _ _ dX11_game_152 hP hS
          · have hf := ob_t c11 hf
            refine lv_iload hx hb dX11_game_64 (lv_at hl 0 rfl) ?_
            obtain rfl := Option.some.inj hf
            exact ret _ _ _ _ dX11_game_66 hP hS
        · have hf := ob_t c8 hf
          refine lv_bipush (v := (-3)) hx hb dX11_game_39 (by decide) ?_
          obtain rfl := Option.some.inj hf
          exact ret _ _ _ _ dX11_game_41 hP hS
      · have hf := ob_t c6 hf
        refine lv_bipush (v := (-2)) hx hb dX11_game_28 (by decide) ?_
        obtain rfl := Option.some.inj hf
        exact ret _ _ _ _ dX11_game_30 hP hS

def f_X11_isPair (v_seats : Int32) (v_bearIs : Int32) (v_far : Nat → Int32) (x1 : Int32) (x2 : Int32) (x3 : Int32) : Option (Int32) :=
  (f_X11_at x1 x2).bind (fun u1 =>
  (aget 144 v_far u1).bind (fun u2 =>
  (if u2 = (1 : Int32) then
  (f_X11_awayOf v_seats v_far x1 x3).bind (fun u7 =>
  if u7 < v_bearIs then
  some (0 : Int32)
  else
  (f_X11_awayOf v_seats v_far x2 x3).bind (fun u9 =>
  if u9 < v_bearIs then
  some (0 : Int32)
  else
  some (1 : Int32)))
  else
  some (0 : Int32)).bind (fun w3 =>
  (oz w3).bind (fun u5 =>
  some (u5)))))
set_option maxHeartbeats 4000000 in
set_option maxRecDepth 100000 in
theorem c_X11_isPair (l : Launch) (D : va_G) (cI cJ cZ cO : ClassId) (a_t a_signs a_links a_worths a_far a_mays a_rowsTo a_endIn a_ends a_pairSets a_awayIn a_now a_then a_comers a_seen a_seenMany a_kept a_isKept : Nat) (v_signMany : Int32) (v_seats : Int32) (v_bearIs : Int32) (v_rowsAll : Int64) (v_awayUpper : Int64) (v_lower : Int64) (v_comerMany : Int32) (v_seenRows : Int32) (v_place : Int32) (v_isWriting : Int32) (v_far : Nat → Int32) (x1 : Int32) (x2 : Int32) (x3 : Int32) (out : Int32) (hf : f_X11_isPair v_seats v_bearIs v_far x1 x2 x3 = some out) : MetR l yX11_isPair (Cond.code yX11_isPair cX11_isPair 4 (some .boolean) :: tbG) { frames := 2, cells := 0, slots := 0, locals := 45 } D (tyL cI cJ cZ cO) [.ref a_t, .int x1, .int x2, .int x3] [(a_t, .inr (11, [.ref a_signs, .int v_signMany, .int v_seats, .ref a_links, .ref a_worths, .int v_bearIs, .ref a_far, .ref a_mays, .ref a_rowsTo, .ref a_endIn, .long v_rowsAll, .ref a_ends, .ref a_pairSets, .ref a_awayIn, .ref a_now, .ref a_then, .long v_awayUpper, .long v_lower, .ref a_comers, .int v_comerMany, .ref a_seen, .ref a_seenMany, .int v_seenRows, .ref a_kept, .ref a_isKept, .int v_place, .int v_isWriting])), (a_far, eI cI 144 v_far)] (some (.int out)) [(a_t, .inr (11, [.ref a_signs, .int v_signMany, .int v_seats, .ref a_links, .ref a_worths, .int v_bearIs, .ref a_far, .ref a_mays, .ref a_rowsTo, .ref a_endIn, .long v_rowsAll, .ref a_ends, .ref a_pairSets, .ref a_awayIn, .ref a_now, .ref a_then, .long v_awayUpper, .long v_lower, .ref a_comers, .int v_comerMany, .ref a_seen, .ref a_seenMany, .int v_seenRows, .ref a_kept, .ref a_isKept, .int v_place, .int v_isWriting])), (a_far, eI cI 144 v_far)] := by
  refine ba_ofZ RX11 [(0, .ref a_t), (1, .int x1), (2, .int x2), (3, .int x3)] (by decide +kernel) rfl (Nat.le_of_ble_eq_true rfl) rfl ?_
  intro p e s m args below meth c Q A Cx hP ret ls hl
  obtain ⟨⟨hx, hb, hml, hown, hts⟩, hK, hD, hA⟩ := id Cx
  have hS : va_S A s.heap s.heap [] := va_S.rf
  unfold f_X11_isPair at hf
  refine lv_aload_n hx hb dX11_isPair_0 rfl (lv_at hl 0 rfl) ?_
  refine gf_X11_19 Cx hP 0 rfl rfl dX11_isPair_1 ?_
  refine lv_iload_n hx hb dX11_isPair_4 rfl (lv_at hl 1 rfl) ?_
  refine lv_iload_n hx hb dX11_isPair_5 rfl (lv_at hl 2 rfl) ?_
  obtain ⟨u1, hu1, hf⟩ := ob_b hf
  refine iv_X11_92 (As := [.int x1, .int x2]) (rest := [.ref a_far]) (is := []) (X' := [(a_t, .inr (11, [.ref a_signs, .int v_signMany, .int v_seats, .ref a_links, .ref a_worths, .int v_bearIs, .ref a_far, .ref a_mays, .ref a_rowsTo, .ref a_endIn, .long v_rowsAll, .ref a_ends, .ref a_pairSets, .ref a_awayIn, .ref a_now, .ref a_then, .long v_awayUpper, .long v_lower, .ref a_comers, .int v_comerMany, .ref a_seen, .ref a_seenMany, .int v_seenRows, .ref a_kept, .ref a_isKept, .int v_place, .int v_isWriting])), (a_far, eI cI 144 v_far)]) Cx (c_X11_at l D cI cJ cZ cO  x1 x2 u1 hu1) hP hS rfl rfl rfl rfl rfl rfl hl.1 (Nat.le_of_ble_eq_true rfl) dX11_isPair_6 rfl rfl ⟨Nat.le_of_ble_eq_true rfl, Nat.le_of_ble_eq_true rfl⟩ ⟨Nat.zero_le _, Nat.zero_le _⟩ rfl (fun H locs hP hS => ?_)
  obtain ⟨u2, hu2, hf⟩ := ob_b hf
  refine ba_iald Cx hP 1 rfl hu2 dX11_isPair_9 ?_
  refine lv_iconst (v := 1) hx hb dX11_isPair_10 (by decide) ?_
  refine ob_J (P := fun w3 => ∀ (H : Heap) (locs : List Loc) (ls : Array Slot), va_P D vwCl [(a_t, .inr (11, [.ref a_signs, .int v_signMany, .int v_seats, .ref a_links, .ref a_worths, .int v_bearIs, .ref a_far, .ref a_mays, .ref a_rowsTo, .ref a_endIn, .long v_rowsAll, .ref a_ends, .ref a_pairSets, .ref a_awayIn, .ref a_now, .ref a_then, .long v_awayUpper, .long v_lower, .ref a_comers, .int v_comerMany, .ref a_seen, .ref a_seenMany, .int v_seenRows, .ref a_kept, .ref a_isKept, .int v_place, .int v_isWriting])), (a_far, eI cI 144 v_far)] H → va_S A s.heap H locs → lv_has ls 4 [] → W p l e { frames := 2, cells := 0, slots := 0, locals := 45 } s m args below meth c H locs 0 0 Q (F0 m 45 ls [.int w3])) hf ?_ ?_
  · intro w3 hf H locs ls hP hS hl
    obtain ⟨u5, hu5, hf⟩ := ob_b hf
    obtain ⟨hz1, hz2⟩ := oz_ok hu5
    obtain rfl := Option.some.inj hf
    exact ret _ _ _ _ _ hz1 hz2 dX11_isPair_45 hP hS
  · intro J45_4 hf
    refine lv_icmp_ne (tgt := 44) hx hb dX11_isPair_11 (by decide) (fun c6 => ?_) (fun c6 => ?_)
    · have hf := ob_fk c6 hf
      refine lv_iconst (v := 0) hx hb dX11_isPair_44 (by decide) ?_
      exact J45_4 (0 : Int32) hf _ _ _ hP hS (lv_sub hl [] rfl)
    · have hf := ob_tk c6 hf
      refine lv_aload_n hx hb dX11_isPair_14 rfl (lv_at hl 0 rfl) ?_
      refine lv_iload_n hx hb dX11_isPair_15 rfl (lv_at hl 1 rfl) ?_
      refine lv_iload_n hx hb dX11_isPair_16 rfl (lv_at hl 3 rfl) ?_
      obtain ⟨u7, hu7, hf⟩ := ob_bk hf
      refine iv_X11_108 (As := [.int x1, .int x3]) (rest := []) (is := [0, 1]) (q0 := 0) (X' := [(a_t, .inr (11, [.ref a_signs, .int v_signMany, .int v_seats, .ref a_links, .ref a_worths, .int v_bearIs, .ref a_far, .ref a_mays, .ref a_rowsTo, .ref a_endIn, .long v_rowsAll, .ref a_ends, .ref a_pairSets, .ref a_awayIn, .ref a_now, .ref a_then, .long v_awayUpper, .long v_lower, .ref a_comers, .int v_comerMany, .ref a_seen, .ref a_seenMany, .int v_seenRows, .ref a_kept, .ref a_isKept, .int v_place, .int v_isWriting])), (a_far, eI cI 144 v_far)]) Cx (c_X11_awayOf l D cI cJ cZ cO a_t a_signs a_links a_worths a_far a_mays a_rowsTo a_endIn a_ends a_pairSets a_awayIn a_now a_then a_comers a_seen a_seenMany a_kept a_isKept v_signMany v_seats v_bearIs v_rowsAll v_awayUpper v_lower v_comerMany v_seenRows v_place v_isWriting v_far x1 x3 u7 hu7) hP hS rfl rfl rfl rfl rfl rfl rfl hl.1 (Nat.le_of_ble_eq_true rfl) dX11_isPair_17 rfl rfl ⟨Nat.le_of_ble_eq_true rfl, Nat.le_of_ble_eq_true rfl⟩ ⟨Nat.zero_le _, Nat.zero_le _⟩ rfl (fun H locs hP hS => ?_)
      refine lv_aload_n hx hb dX11_isPair_20 rfl (lv_at hl 0 rfl) ?_
      refine gf_X11_67 Cx hP 0 rfl rfl dX11_isPair_21 ?_
      refine lv_icmp_lt (tgt := 44) hx hb dX11_isPair_24 (by decide) (fun c8 => ?_) (fun c8 => ?_)
      · have hf := ob_tk c8 hf
        refine lv_iconst (v := 0) hx hb dX11_isPair_44 (by decide) ?_
        exact J45_4 (0 : Int32) hf _ _ _ hP hS (lv_sub hl [] rfl)
      · have hf := ob_fk c8 hf
        refine lv_aload_n hx hb dX11_isPair_27 rfl (lv_at hl 0 rfl) ?_
        refine lv_iload_n hx hb dX11_isPair_28 rfl (lv_at hl 2 rfl) ?_
        refine lv_iload_n hx hb dX11_isPair_29 rfl (lv_at hl 3 rfl) ?_
        obtain ⟨u9, hu9, hf⟩ := ob_bk hf
        refine iv_X11_108 (As := [.int x2, .int x3]) (rest := []) (is := [0, 1]) (q0 := 0) (X' := [(a_t, .inr (11, [.ref a_signs, .int v_signMany, .int v_seats, .ref a_links, .ref a_worths, .int v_bearIs, .ref a_far, .ref a_mays, .ref a_rowsTo, .ref a_endIn, .long v_rowsAll, .ref a_ends, .ref a_pairSets, .ref a_awayIn, .ref a_now, .ref a_then, .long v_awayUpper, .long v_lower, .ref a_comers, .int v_comerMany, .ref a_seen, .ref a_seenMany, .int v_seenRows, .ref a_kept, .ref a_isKept, .int v_place, .int v_isWriting])), (a_far, eI cI 144 v_far)]) Cx (c_X11_awayOf l D cI cJ cZ cO a_t a_signs a_links a_worths a_far a_mays a_rowsTo a_endIn a_ends a_pairSets a_awayIn a_now a_then a_comers a_seen a_seenMany a_kept a_isKept v_signMany v_seats v_bearIs v_rowsAll v_awayUpper v_lower v_comerMany v_seenRows v_place v_isWriting v_far x2 x3 u9 hu9) hP hS rfl rfl rfl rfl rfl rfl rfl hl.1 (Nat.le_of_ble_eq_true rfl) dX11_isPair_30 rfl rfl ⟨Nat.le_of_ble_eq_true rfl, Nat.le_of_ble_eq_true rfl⟩ ⟨Nat.zero_le _, Nat.zero_le _⟩ rfl (fun H locs hP hS => ?_)
        refine lv_aload_n hx hb dX11_isPair_33 rfl (lv_at hl 0 rfl) ?_
        refine gf_X11_67 Cx hP 0 rfl rfl dX11_isPair_34 ?_
        refine lv_icmp_lt (tgt := 44) hx hb dX11_isPair_37 (by decide) (fun c10 => ?_) (fun c10 => ?_)
        · have hf := ob_tk c10 hf
          refine lv_iconst (v := 0) hx hb dX11_isPair_44 (by decide) ?_
          exact J45_4 (0 : Int32) hf _ _ _ hP hS (lv_sub hl [] rfl)
        · have hf := ob_fk c10 hf
          refine lv_iconst (v := 1) hx hb dX11_isPair_40 (by decide) ?_
          refine lv_goto (tgt := 45) hx hb dX11_isPair_41 (by decide) ?_
          exact J45_4 (1 : Int32) hf _ _ _ hP hS (lv_sub hl [] rfl)

def f_X11_pairsInTurn_34 (v_seats : Int32) (v_bearIs : Int32) (v_far : Nat → Int32) (y4_15 : Int32) : Nat → Int32 → Int32 → Int32 → Int32 → Option (Int32 × Int32 × Int32)
  | 0, _, _, _, _ => none
  | n + 1, y1_34, y2_34, y3_34, y5_34 =>
  if v_seats ≤ y5_34 then
  some (y1_34, y2_34, y3_34)
  else
  if y3_34 = 0 then
  (f_X11_isPair v_seats v_bearIs v_far y4_15 y5_34 y1_34).bind (fun u9 =>
  (if u9 = 0 then
  some (y1_34, y2_34, y3_34)
  else
  some ((y1_34 ||| (((1 : Int32) <<< (y4_15 &&& 31)) ||| ((1 : Int32) <<< (y5_34 &&& 31)))), (y2_34 + 1), (1 : Int32))).bind (fun w10 =>
  f_X11_pairsInTurn_34 v_seats v_bearIs v_far y4_15 n w10.1 w10.2.1 w10.2.2 (y5_34 + 1)))
  else
  some (y1_34, y2_34, y3_34)
theorem f_X11_pairsInTurn_34_s (v_seats : Int32) (v_bearIs : Int32) (v_far : Nat → Int32) (y4_15 : Int32) (n : Nat) (y1_34 : Int32) (y2_34 : Int32) (y3_34 : Int32) (y5_34 : Int32) : f_X11_pairsInTurn_34 v_seats v_bearIs v_far y4_15 (n + 1) y1_34 y2_34 y3_34 y5_34 =
  (if v_seats ≤ y5_34 then
  some (y1_34, y2_34, y3_34)
  else
  if y3_34 = 0 then
  (f_X11_isPair v_seats v_bearIs v_far y4_15 y5_34 y1_34).bind (fun u9 =>
  (if u9 = 0 then
  some (y1_34, y2_34, y3_34)
  else
  some ((y1_34 ||| (((1 : Int32) <<< (y4_15 &&& 31)) ||| ((1 : Int32) <<< (y5_34 &&& 31)))), (y2_34 + 1), (1 : Int32))).bind (fun w10 =>
  f_X11_pairsInTurn_34 v_seats v_bearIs v_far y4_15 n w10.1 w10.2.1 w10.2.2 (y5_34 + 1)))
  else
  some (y1_34, y2_34, y3_34)) := rfl
def f_X11_pairsInTurn_15 (v_seats : Int32) (v_bearIs : Int32) (v_far : Nat → Int32) : Nat → Int32 → Int32 → Int32 → Int32 → Option (Int32 × Int32 × Int32)
  | 0, _, _, _, _ => none
  | n + 1, y1_15, y2_15, y3_15, y4_15 =>
  if v_seats ≤ y4_15 then
  some (y1_15, y2_15, y3_15)
  else
  if y3_15 = 0 then
  (f_X11_pairsInTurn_34 v_seats v_bearIs v_far y4_15 FU y1_15 y2_15 y3_15 (y4_15 + (1 : Int32))).bind (fun u13 =>
  f_X11_pairsInTurn_15 v_seats v_bearIs v_far n u13.1 u13.2.1 u13.2.2 (y4_15 + 1))
  else
  some (y1_15, y2_15, y3_15)
theorem f_X11_pairsInTurn_15_s (v_seats : Int32) (v_bearIs : Int32) (v_far : Nat → Int32) (n : Nat) (y1_15 : Int32) (y2_15 : Int32) (y3_15 : Int32) (y4_15 : Int32) : f_X11_pairsInTurn_15 v_seats v_bearIs v_far (n + 1) y1_15 y2_15 y3_15 y4_15 =
  (if v_seats ≤ y4_15 then
  some (y1_15, y2_15, y3_15)
  else
  if y3_15 = 0 then
  (f_X11_pairsInTurn_34 v_seats v_bearIs v_far y4_15 FU y1_15 y2_15 y3_15 (y4_15 + (1 : Int32))).bind (fun u13 =>
  f_X11_pairsInTurn_15 v_seats v_bearIs v_far n u13.1 u13.2.1 u13.2.2 (y4_15 + 1))
  else
  some (y1_15, y2_15, y3_15)) := rfl
def f_X11_pairsInTurn_6 (v_seats : Int32) (v_bearIs : Int32) (v_far : Nat → Int32) : Nat → Int32 → Int32 → Int32 → Option (Int32)
  | 0, _, _, _ => none
  | n + 1, y1_6, y2_6, y3_6 =>
  if y3_6 = 0 then
  some (y2_6)
  else
  (f_X11_pairsInTurn_15 v_seats v_bearIs v_far FU y1_6 y2_6 (0 : Int32) (0 : Int32)).bind (fun u14 =>
  f_X11_pairsInTurn_6 v_seats v_bearIs v_far n u14.1 u14.2.1 u14.2.2)
theorem f_X11_pairsInTurn_6_s (v_seats : Int32) (v_bearIs : Int32) (v_far : Nat → Int32) (n : Nat) (y1_6 : Int32) (y2_6 : Int32) (y3_6 : Int32) : f_X11_pairsInTurn_6 v_seats v_bearIs v_far (n + 1) y1_6 y2_6 y3_6 =
  (if y3_6 = 0 then
  some (y2_6)
  else
  (f_X11_pairsInTurn_15 v_seats v_bearIs v_far FU y1_6 y2_6 (0 : Int32) (0 : Int32)).bind (fun u14 =>
  f_X11_pairsInTurn_6 v_seats v_bearIs v_far n u14.1 u14.2.1 u14.2.2)) := rfl
def f_X11_pairsInTurn (v_seats : Int32) (v_bearIs : Int32) (v_far : Nat → Int32) : Option (Int32) :=
  (f_X11_pairsInTurn_6 v_seats v_bearIs v_far FU (0 : Int32) (0 : Int32) (1 : Int32)).bind (fun u15 =>
  some (u15))
set_option maxHeartbeats 4000000 in
set_option maxRecDepth 100000 in
theorem c_X11_pairsInTurn (l : Launch) (D : va_G) (cI cJ cZ cO : ClassId) (a_t a_signs a_links a_worths a_far a_mays a_rowsTo a_endIn a_ends a_pairSets a_awayIn a_now a_then a_comers a_seen a_seenMany a_kept a_isKept : Nat) (v_signMany : Int32) (v_seats : Int32) (v_bearIs : Int32) (v_rowsAll : Int64) (v_awayUpper : Int64) (v_lower : Int64) (v_comerMany : Int32) (v_seenRows : Int32) (v_place : Int32) (v_isWriting : Int32) (v_far : Nat → Int32) (out : Int32) (hf : f_X11_pairsInTurn v_seats v_bearIs v_far = some out) : MetR l yX11_pairsInTurn (Cond.code yX11_pairsInTurn cX11_pairsInTurn 6 (some .int) :: tbG) { frames := 3, cells := 0, slots := 0, locals := 68 } D (tyL cI cJ cZ cO) [.ref a_t] [(a_t, .inr (11, [.ref a_signs, .int v_signMany, .int v_seats, .ref a_links, .ref a_worths, .int v_bearIs, .ref a_far, .ref a_mays, .ref a_rowsTo, .ref a_endIn, .long v_rowsAll, .ref a_ends, .ref a_pairSets, .ref a_awayIn, .ref a_now, .ref a_then, .long v_awayUpper, .long v_lower, .ref a_comers, .int v_comerMany, .ref a_seen, .ref a_seenMany, .int v_seenRows, .ref a_kept, .ref a_isKept, .int v_place, .int v_isWriting])), (a_far, eI cI 144 v_far)] (some (.int out)) [(a_t, .inr (11, [.ref a_signs, .int v_signMany, .int v_seats, .ref a_links, .ref a_worths, .int v_bearIs, .ref a_far, .ref a_mays, .ref a_rowsTo, .ref a_endIn, .long v_rowsAll, .ref a_ends, .ref a_pairSets, .ref a_awayIn, .ref a_now, .ref a_then, .long v_awayUpper, .long v_lower, .ref a_comers, .int v_comerMany, .ref a_seen, .ref a_seenMany, .int v_seenRows, .ref a_kept, .ref a_isKept, .int v_place, .int v_isWriting])), (a_far, eI cI 144 v_far)] := by
  refine ba_ofI RX11 [(0, .ref a_t)] (by decide +kernel) rfl (Nat.le_of_ble_eq_true rfl) rfl ?_
  intro p e s m args below meth c Q A Cx hP ret ls hl
  obtain ⟨⟨hx, hb, hml, hown, hts⟩, hK, hD, hA⟩ := id Cx
  have hS : va_S A s.heap s.heap [] := va_S.rf
  unfold f_X11_pairsInTurn at hf
  refine lv_iconst (v := 0) hx hb dX11_pairsInTurn_0 (by decide) ?_
  refine lv_istore_n (lv' := [(1, .int (0 : Int32)), (0, .ref a_t)]) hx hb dX11_pairsInTurn_1 rfl hl (by decide) rfl (fun ls hl => ?_)
  refine lv_iconst (v := 0) hx hb dX11_pairsInTurn_2 (by decide) ?_
  refine lv_istore_n (lv' := [(2, .int (0 : Int32)), (1, .int (0 : Int32)), (0, .ref a_t)]) hx hb dX11_pairsInTurn_3 rfl hl (by decide) rfl (fun ls hl => ?_)
  refine lv_iconst (v := 1) hx hb dX11_pairsInTurn_4 (by decide) ?_
  refine lv_istore_n (lv' := [(3, .int (1 : Int32)), (2, .int (0 : Int32)), (1, .int (0 : Int32)), (0, .ref a_t)]) hx hb dX11_pairsInTurn_5 rfl hl (by decide) rfl (fun ls hl => ?_)
  have L6_1 : ∀ (n : Nat) (y1_6 : Int32) (y2_6 : Int32) (y3_6 : Int32) (o : Int32) (H : Heap) (locs : List Loc) (ls : Array Slot), f_X11_pairsInTurn_6 v_seats v_bearIs v_far n y1_6 y2_6 y3_6 = some o → va_P D vwCl [(a_t, .inr (11, [.ref a_signs, .int v_signMany, .int v_seats, .ref a_links, .ref a_worths, .int v_bearIs, .ref a_far, .ref a_mays, .ref a_rowsTo, .ref a_endIn, .long v_rowsAll, .ref a_ends, .ref a_pairSets, .ref a_awayIn, .ref a_now, .ref a_then, .long v_awayUpper, .long v_lower, .ref a_comers, .int v_comerMany, .ref a_seen, .ref a_seenMany, .int v_seenRows, .ref a_kept, .ref a_isKept, .int v_place, .int v_isWriting])), (a_far, eI cI 144 v_far)] H → va_S A s.heap H locs → lv_has ls 6 [(0, .ref a_t), (1, .int y1_6), (2, .int y2_6), (3, .int y3_6)] → (∀ (H : Heap) (locs : List Loc) (ls : Array Slot), va_P D vwCl [(a_t, .inr (11, [.ref a_signs, .int v_signMany, .int v_seats, .ref a_links, .ref a_worths, .int v_bearIs, .ref a_far, .ref a_mays, .ref a_rowsTo, .ref a_endIn, .long v_rowsAll, .ref a_ends, .ref a_pairSets, .ref a_awayIn, .ref a_now, .ref a_then, .long v_awayUpper, .long v_lower, .ref a_comers, .int v_comerMany, .ref a_seen, .ref a_seenMany, .int v_seenRows, .ref a_kept, .ref a_isKept, .int v_place, .int v_isWriting])), (a_far, eI cI 144 v_far)] H → va_S A s.heap H locs → lv_has ls 6 [(2, .int o)] → W p l e { frames := 3, cells := 0, slots := 0, locals := 68 } s m args below meth c H locs 0 0 Q (F0 m 91 ls [])) → W p l e { frames := 3, cells := 0, slots := 0, locals := 68 } s m args below meth c H locs 0 0 Q (F0 m 6 ls []) := by
    intro n
    induction n with
    | zero => intro y1_6 y2_6 y3_6 o H locs ls hf; exact (ob_n hf).elim
    | succ n ih =>
      intro y1_6 y2_6 y3_6 o H locs ls hf hP hS hl kk
      rw [f_X11_pairsInTurn_6_s] at hf
      refine lv_iload_n hx hb dX11_pairsInTurn_6 rfl (lv_at hl 3 rfl) ?_
      refine lv_if_eq (tgt := 91) hx hb dX11_pairsInTurn_7 (by decide) (fun c2 => ?_) (fun c2 => ?_)
      · have hf := ob_t c2 hf
        obtain rfl := Option.some.inj hf
        exact kk _ _ _ hP hS (lv_sub hl [2] rfl)
      · have hf := ob_f c2 hf
        refine lv_iconst (v := 0) hx hb dX11_pairsInTurn_10 (by decide) ?_
        refine lv_istore_n (lv' := [(3, .int (0 : Int32)), (0, .ref a_t), (1, .int y1_6), (2, .int y2_6)]) hx hb dX11_pairsInTurn_11 rfl hl (by decide) rfl (fun ls hl => ?_)
        refine lv_iconst (v := 0) hx hb dX11_pairsInTurn_12 (by decide) ?_
        refine lv_istore (lv' := [(4, .int (0 : Int32)), (3, .int (0 : Int32)), (0, .ref a_t), (1, .int y1_6), (2, .int y2_6)]) hx hb dX11_pairsInTurn_13 hl (by decide) rfl (fun ls hl => ?_)
        have L15_3 : ∀ (n : Nat) (y1_15 : Int32) (y2_15 : Int32) (y3_15 : Int32) (y4_15 : Int32) (o : Int32 × Int32 × Int32) (H : Heap) (locs : List Loc) (ls : Array Slot), f_X11_pairsInTurn_15 v_seats v_bearIs v_far n y1_15 y2_15 y3_15 y4_15 = some o → va_P D vwCl [(a_t, .inr (11, [.ref a_signs, .int v_signMany, .int v_seats, .ref a_links, .ref a_worths, .int v_bearIs, .ref a_far, .ref a_mays, .ref a_rowsTo, .ref a_endIn, .long v_rowsAll, .ref a_ends, .ref a_pairSets, .ref a_awayIn, .ref a_now, .ref a_then, .long v_awayUpper, .long v_lower, .ref a_comers, .int v_comerMany, .ref a_seen, .ref a_seenMany, .int v_seenRows, .ref a_kept, .ref a_isKept, .int v_place, .int v_isWriting])), (a_far, eI cI 144 v_far)] H → va_S A s.heap H locs → lv_has ls 6 [(0, .ref a_t), (1, .int y1_15), (2, .int y2_15), (3, .int y3_15), (4, .int y4_15)] → (∀ (H : Heap) (locs : List Loc) (ls : Array Slot), va_P D vwCl [(a_t, .inr (11, [.ref a_signs, .int v_signMany, .int v_seats, .ref a_links, .ref a_worths, .int v_bearIs, .ref a_far, .ref a_mays, .ref a_rowsTo, .ref a_endIn, .long v_rowsAll, .ref a_ends, .ref a_pairSets, .ref a_awayIn, .ref a_now, .ref a_then, .long v_awayUpper, .long v_lower, .ref a_comers, .int v_comerMany, .ref a_seen, .ref a_seenMany, .int v_seenRows, .ref a_kept, .ref a_isKept, .int v_place, .int v_isWriting])), (a_far, eI cI 144 v_far)] H → va_S A s.heap H locs → lv_has ls 6 [(0, .ref a_t), (1, .int o.1), (2, .int o.2.1), (3, .int o.2.2)] → W p l e { frames := 3, cells := 0, slots := 0, locals := 68 } s m args below meth c H locs 0 0 Q (F0 m 88 ls [])) → W p l e { frames := 3, cells := 0, slots := 0, locals := 68 } s m args below meth c H locs 0 0 Q (F0 m 15 ls []) := by
          intro n
          induction n with
          | zero => intro y1_15 y2_15 y3_15 y4_15 o H locs ls hf; exact (ob_n hf).elim
          | succ n ih =>
            intro y1_15 y2_15 y3_15 y4_15 o H locs ls hf hP hS hl kk
            rw [f_X11_pairsInTurn_15_s] at hf
            refine lv_iload hx hb dX11_pairsInTurn_15 (lv_at hl 4 rfl) ?_
            refine lv_aload_n hx hb dX11_pairsInTurn_17 rfl (lv_at hl 0 rfl) ?_
            refine gf_X11_63 Cx hP 0 rfl rfl dX11_pairsInTurn_18 ?_
            refine lv_icmp_ge (tgt := 88) hx hb dX11_pairsInTurn_21 (by decide) (fun c4 => ?_) (fun c4 => ?_)
            · have hf := ob_t c4 hf
              obtain rfl := Option.some.inj hf
              exact kk _ _ _ hP hS (lv_sub hl [0, 1, 2, 3] rfl)
            · have hf := ob_f c4 hf
              refine lv_iload_n hx hb dX11_pairsInTurn_24 rfl (lv_at hl 3 rfl) ?_
              refine lv_if_ne (tgt := 88) hx hb dX11_pairsInTurn_25 (by decide) (fun c5 => ?_) (fun c5 => ?_)
              · have hf := ob_f c5 hf
                obtain rfl := Option.some.inj hf
                exact kk _ _ _ hP hS (lv_sub hl [0, 1, 2, 3] rfl)
              · have hf := ob_t c5 hf
                refine lv_iload hx hb dX11_pairsInTurn_28 (lv_at hl 4 rfl) ?_
                refine lv_iconst (v := 1) hx hb dX11_pairsInTurn_30 (by decide) ?_
                refine lv_iadd hx hb dX11_pairsInTurn_31 ?_
                refine lv_istore (lv' := [(5, .int (y4_15 + (1 : Int32))), (0, .ref a_t), (1, .int y1_15), (2, .int y2_15), (3, .int y3_15), (4, .int y4_15)]) hx hb dX11_pairsInTurn_32 hl (by decide) rfl (fun ls hl => ?_)
                have L34_6 : ∀ (n : Nat) (y1_34 : Int32) (y2_34 : Int32) (y3_34 : Int32) (y5_34 : Int32) (o : Int32 × Int32 × Int32) (H : Heap) (locs : List Loc) (ls : Array Slot), f_X11_pairsInTurn_34 v_seats v_bearIs v_far y4_15 n y1_34 y2_34 y3_34 y5_34 = some o → va_P D vwCl [(a_t, .inr (11, [.ref a_signs, .int v_signMany, .int v_seats, .ref a_links, .ref a_worths, .int v_bearIs, .ref a_far, .ref a_mays, .ref a_rowsTo, .ref a_endIn, .long v_rowsAll, .ref a_ends, .ref a_pairSets, .ref a_awayIn, .ref a_now, .ref a_then, .long v_awayUpper, .long v_lower, .ref a_comers, .int v_comerMany, .ref a_seen, .ref a_seenMany, .int v_seenRows, .ref a_kept, .ref a_isKept, .int v_place, .int v_isWriting])), (a_far, eI cI 144 v_far)] H → va_S A s.heap H locs → lv_has ls 6 [(0, .ref a_t), (1, .int y1_34), (2, .int y2_34), (3, .int y3_34), (4, .int y4_15), (5, .int y5_34)] → (∀ (H : Heap) (locs : List Loc) (ls : Array Slot), va_P D vwCl [(a_t, .inr (11, [.ref a_signs, .int v_signMany, .int v_seats, .ref a_links, .ref a_worths, .int v_bearIs, .ref a_far, .ref a_mays, .ref a_rowsTo, .ref a_endIn, .long v_rowsAll, .ref a_ends, .ref a_pairSets, .ref a_awayIn, .ref a_now, .ref a_then, .long v_awayUpper, .long v_lower, .ref a_comers, .int v_comerMany, .ref a_seen, .ref a_seenMany, .int v_seenRows, .ref a_kept, .ref a_isKept, .int v_place, .int v_isWriting])), (a_far, eI cI 144 v_far)] H → va_S A s.heap H locs → lv_has ls 6 [(0, .ref a_t), (1, .int o.1), (2, .int o.2.1), (3, .int o.2.2), (4, .int y4_15)] → W p l e { frames := 3, cells := 0, slots := 0, locals := 68 } s m args below meth c H locs 0 0 Q (F0 m 82 ls [])) → W p l e { frames := 3, cells := 0, slots := 0, locals := 68 } s m args below meth c H locs 0 0 Q (F0 m 34 ls []) := by
                  intro n
                  induction n with
                  | zero => intro y1_34 y2_34 y3_34 y5_34 o H locs ls hf; exact (ob_n hf).elim
                  | succ n ih =>
                    intro y1_34 y2_34 y3_34 y5_34 o H locs ls hf hP hS hl kk
                    rw [f_X11_pairsInTurn_34_s] at hf
                    refine lv_iload hx hb dX11_pairsInTurn_34 (lv_at hl 5 rfl) ?_
                    refine lv_aload_n hx hb dX11_pairsInTurn_36 rfl (lv_at hl 0 rfl) ?_
                    refine gf_X11_63 Cx hP 0 rfl rfl dX11_pairsInTurn_37 ?_
                    refine lv_icmp_ge (tgt := 82) hx hb dX11_pairsInTurn_40 (by decide) (fun c7 => ?_) (fun c7 => ?_)
                    · have hf := ob_t c7 hf
                      obtain rfl := Option.some.inj hf
                      exact kk _ _ _ hP hS (lv_sub hl [0, 1, 2, 3, 4] rfl)
                    · have hf := ob_f c7 hf
                      refine lv_iload_n hx hb dX11_pairsInTurn_43 rfl (lv_at hl 3 rfl) ?_
                      refine lv_if_ne (tgt := 82) hx hb dX11_pairsInTurn_44 (by decide) (fun c8 => ?_) (fun c8 => ?_)
                      · have hf := ob_f c8 hf
                        obtain rfl := Option.some.inj hf
                        exact kk _ _ _ hP hS (lv_sub hl [0, 1, 2, 3, 4] rfl)
                      · have hf := ob_t c8 hf
                        refine lv_aload_n hx hb dX11_pairsInTurn_47 rfl (lv_at hl 0 rfl) ?_
                        refine lv_iload hx hb dX11_pairsInTurn_48 (lv_at hl 4 rfl) ?_
                        refine lv_iload hx hb dX11_pairsInTurn_50 (lv_at hl 5 rfl) ?_
                        refine lv_iload_n hx hb dX11_pairsInTurn_52 rfl (lv_at hl 1 rfl) ?_
                        obtain ⟨u9, hu9, hf⟩ := ob_b hf
                        refine iv_X11_172 (As := [.int y4_15, .int y5_34, .int y1_34]) (rest := []) (is := [0, 1]) (q0 := 0) (X' := [(a_t, .inr (11, [.ref a_signs, .int v_signMany, .int v_seats, .ref a_links, .ref a_worths, .int v_bearIs, .ref a_far, .ref a_mays, .ref a_rowsTo, .ref a_endIn, .long v_rowsAll, .ref a_ends, .ref a_pairSets, .ref a_awayIn, .ref a_now, .ref a_then, .long v_awayUpper, .long v_lower, .ref a_comers, .int v_comerMany, .ref a_seen, .ref a_seenMany, .int v_seenRows, .ref a_kept, .ref a_isKept, .int v_place, .int v_isWriting])), (a_far, eI cI 144 v_far)]) Cx (c_X11_isPair l D cI cJ cZ cO a_t a_signs a_links a_worths a_far a_mays a_rowsTo a_endIn a_ends a_pairSets a_awayIn a_now a_then a_comers a_seen a_seenMany a_kept a_isKept v_signMany v_seats v_bearIs v_rowsAll v_awayUpper v_lower v_comerMany v_seenRows v_place v_isWriting v_far y4_15 y5_34 y1_34 u9 hu9) hP hS rfl rfl rfl rfl rfl rfl rfl hl.1 (Nat.le_of_ble_eq_true rfl) dX11_pairsInTurn_53 rfl rfl ⟨Nat.le_of_ble_eq_true rfl, Nat.le_of_ble_eq_true rfl⟩ ⟨Nat.zero_le _, Nat.zero_le _⟩ rfl (fun H locs hP hS => ?_)
                        refine ob_J (P := fun w10 => ∀ (H : Heap) (locs : List Loc) (ls : Array Slot), va_P D vwCl [(a_t, .inr (11, [.ref a_signs, .int v_signMany, .int v_seats, .ref a_links, .ref a_worths, .int v_bearIs, .ref a_far, .ref a_mays, .ref a_rowsTo, .ref a_endIn, .long v_rowsAll, .ref a_ends, .ref a_pairSets, .ref a_awayIn, .ref a_now, .ref a_then, .long v_awayUpper, .long v_lower, .ref a_comers, .int v_comerMany, .ref a_seen, .ref a_seenMany, .int v_seenRows, .ref a_kept, .ref a_isKept, .int v_place, .int v_isWriting])), (a_far, eI cI 144 v_far)] H → va_S A s.heap H locs → lv_has ls 6 [(0, .ref a_t), (1, .int w10.1), (2, .int w10.2.1), (3, .int w10.2.2), (4, .int y4_15), (5, .int y5_34)] → W p l e { frames := 3, cells := 0, slots := 0, locals := 68 } s m args below meth c H locs 0 0 Q (F0 m 76 ls [])) hf ?_ ?_
                        · intro w10 hf H locs ls hP hS hl
                          refine lv_iinc (v := (y5_34 + 1)) (lv' := [(5, .int (y5_34 + 1)), (0, .ref a_t), (1, .int w10.1), (2, .int w10.2.1), (3, .int w10.2.2), (4, .int y4_15)]) hx hb dX11_pairsInTurn_76 hl (k := 5) rfl rfl (by decide) rfl (fun ls hl => ?_)
                          refine lv_goto (tgt := 34) hx hb dX11_pairsInTurn_79 (by decide) ?_
                          exact ih w10.1 w10.2.1 w10.2.2 (y5_34 + 1) _ _ _ _ hf hP hS (lv_sub hl [1, 2, 3, 4, 5, 0] rfl) kk
                        · intro J76_11 hf
                          refine lv_if_eq (tgt := 76) hx hb dX11_pairsInTurn_56 (by decide) (fun c12 => ?_) (fun c12 => ?_)
                          · have hf := ob_tk c12 hf
                            exact J76_11 (y1_34, y2_34, y3_34) hf _ _ _ hP hS (lv_sub hl [0, 1, 2, 3, 4, 5] rfl)
                          · have hf := ob_fk c12 hf
                            refine lv_iload_n hx hb dX11_pairsInTurn_59 rfl (lv_at hl 1 rfl) ?_
                            refine lv_iconst (v := 1) hx hb dX11_pairsInTurn_60 (by decide) ?_
                            refine lv_iload hx hb dX11_pairsInTurn_61 (lv_at hl 4 rfl) ?_
                            refine lv_ishl hx hb dX11_pairsInTurn_63 ?_
                            refine lv_iconst (v := 1) hx hb dX11_pairsInTurn_64 (by decide) ?_
                            refine lv_iload hx hb dX11_pairsInTurn_65 (lv_at hl 5 rfl) ?_
                            refine lv_ishl hx hb dX11_pairsInTurn_67 ?_
                            refine lv_ior hx hb dX11_pairsInTurn_68 ?_
                            refine lv_ior hx hb dX11_pairsInTurn_69 ?_
                            refine lv_istore_n (lv' := [(1, .int (y1_34 ||| (((1 : Int32) <<< (y4_15 &&& 31)) ||| ((1 : Int32) <<< (y5_34 &&& 31))))), (0, .ref a_t), (2, .int y2_34), (3, .int y3_34), (4, .int y4_15), (5, .int y5_34)]) hx hb dX11_pairsInTurn_70 rfl hl (by decide) rfl (fun ls hl => ?_)
                            refine lv_iinc (v := (y2_34 + 1)) (lv' := [(2, .int (y2_34 + 1)), (1, .int (y1_34 ||| (((1 : Int32) <<< (y4_15 &&& 31)) ||| ((1 : Int32) <<< (y5_34 &&& 31))))), (0, .ref a_t), (3, .int y3_34), (4, .int y4_15), (5, .int y5_34)]) hx hb dX11_pairsInTurn_71 hl (k := 2) rfl rfl (by decide) rfl (fun ls hl => ?_)
                            refine lv_iconst (v := 1) hx hb dX11_pairsInTurn_74 (by decide) ?_
                            refine lv_istore_n (lv' := [(3, .int (1 : Int32)), (2, .int (y2_34 + 1)), (1, .int (y1_34 ||| (((1 : Int32) <<< (y4_15 &&& 31)) ||| ((1 : Int32) <<< (y5_34 &&& 31))))), (0, .ref a_t), (4, .int y4_15), (5, .int y5_34)]) hx hb dX11_pairsInTurn_75 rfl hl (by decide) rfl (fun ls hl => ?_)
                            exact J76_11 ((y1_34 ||| (((1 : Int32) <<< (y4_15 &&& 31)) ||| ((1 : Int32) <<< (y5_34 &&& 31)))), (y2_34 + 1), (1 : Int32)) hf _ _ _ hP hS (lv_sub hl [3, 2, 1, 0, 4, 5] rfl)
                obtain ⟨u13, hu13, hf⟩ := ob_b hf
                refine L34_6 FU y1_15 y2_15 y3_15 (y4_15 + (1 : Int32)) u13 _ _ _ hu13 hP hS (lv_sub hl [1, 2, 3, 4, 5, 0] rfl) ?_
                intro H locs ls hP hS hl
                refine lv_iinc (v := (y4_15 + 1)) (lv' := [(4, .int (y4_15 + 1)), (0, .ref a_t), (1, .int u13.1), (2, .int u13.2.1), (3, .int u13.2.2)]) hx hb dX11_pairsInTurn_82 hl (k := 4) rfl rfl (by decide) rfl (fun ls hl => ?_)
                refine lv_goto (tgt := 15) hx hb dX11_pairsInTurn_85 (by decide) ?_
                exact ih u13.1 u13.2.1 u13.2.2 (y4_15 + 1) _ _ _ _ hf hP hS (lv_sub hl [1, 2, 3, 4, 0] rfl) kk
        obtain ⟨u14, hu14, hf⟩ := ob_b hf
        refine L15_3 FU y1_6 y2_6 (0 : Int32) (0 : Int32) u14 _ _ _ hu14 hP hS (lv_sub hl [2, 3, 4, 1, 0] rfl) ?_
        intro H locs ls hP hS hl
        refine lv_goto (tgt := 6) hx hb dX11_pairsInTurn_88 (by decide) ?_
        exact ih u14.1 u14.2.1 u14.2.2 _ _ _ _ hf hP hS (lv_sub hl [0, 1, 2, 3] rfl) kk
  obtain ⟨u15, hu15, hf⟩ := ob_b hf
  refine L6_1 FU (0 : Int32) (0 : Int32) (1 : Int32) u15 _ _ _ hu15 hP hS (lv_sub hl [3, 2, 1, 0] rfl) ?_
  intro H locs ls hP hS hl
  refine lv_iload_n hx hb dX11_pairsInTurn_91 rfl (lv_at hl 0 rfl) ?_
  obtain rfl := Option.some.inj hf
  exact ret _ _ _ _ dX11_pairsInTurn_92 hP hS

def f_X11_areApart_17 (v_pairSets : Nat → Int32) (x1 : Int32) (x2 : Int32) (y4_5 : Int32) : Nat → Int32 → Int32 → Option (Int32)
  | 0, _, _ => none
  | n + 1, y5_17, y6_17 =>
  if x2 ≤ y6_17 then
  some (y5_17)
  else
  (if y6_17 = y4_5 then
  some (0 : Int32)
  else
  if ((x1 >>> (y6_17 &&& 31)) &&& (1 : Int32)) = (1 : Int32) then
  (aget 66 v_pairSets y6_17).bind (fun u9 =>
  some (u9))
  else
  some (0 : Int32)).bind (fun w5 =>
  f_X11_areApart_17 v_pairSets x1 x2 y4_5 n (y5_17 ||| w5) (y6_17 + 1))
theorem f_X11_areApart_17_s (v_pairSets : Nat → Int32) (x1 : Int32) (x2 : Int32) (y4_5 : Int32) (n : Nat) (y5_17 : Int32) (y6_17 : Int32) : f_X11_areApart_17 v_pairSets x1 x2 y4_5 (n + 1) y5_17 y6_17 =
  (if x2 ≤ y6_17 then
  some (y5_17)
  else
  (if y6_17 = y4_5 then
  some (0 : Int32)
  else
  if ((x1 >>> (y6_17 &&& 31)) &&& (1 : Int32)) = (1 : Int32) then
  (aget 66 v_pairSets y6_17).bind (fun u9 =>
  some (u9))
  else
  some (0 : Int32)).bind (fun w5 =>
  f_X11_areApart_17 v_pairSets x1 x2 y4_5 n (y5_17 ||| w5) (y6_17 + 1))) := rfl
def f_X11_areApart_65 (v_seats : Int32) (v_bearIs : Int32) (v_pairSets : Nat → Int32) (v_far : Nat → Int32) (x1 : Int32) (y4_5 : Int32) (u10 : Int32) : Nat → Int32 → Int32 → Option (Int32)
  | 0, _, _ => none
  | n + 1, y3_65, y6_65 =>
  if v_seats ≤ y6_65 then
  some (y3_65)
  else
  if ((x1 >>> (y4_5 &&& 31)) &&& (1 : Int32)) = (1 : Int32) then
  (if y3_65 = 0 then
  some (0 : Int32)
  else
  (aget 66 v_pairSets y4_5).bind (fun u17 =>
  if ((u17 >>> (y6_65 &&& 31)) &&& (1 : Int32)) = 0 then
  some (1 : Int32)
  else
  (f_X11_awayOf v_seats v_far y6_65 u10).bind (fun u19 =>
  if u19 < v_bearIs then
  some (0 : Int32)
  else
  some (1 : Int32)))).bind (fun w14 =>
  f_X11_areApart_65 v_seats v_bearIs v_pairSets v_far x1 y4_5 u10 n w14 (y6_65 + 1))
  else
  some (y3_65)
theorem f_X11_areApart_65_s (v_seats : Int32) (v_bearIs : Int32) (v_pairSets : Nat → Int32) (v_far : Nat → Int32) (x1 : Int32) (y4_5 : Int32) (u10 : Int32) (n : Nat) (y3_65 : Int32) (y6_65 : Int32) : f_X11_areApart_65 v_seats v_bearIs v_pairSets v_far x1 y4_5 u10 (n + 1) y3_65 y6_65 =
  (if v_seats ≤ y6_65 then
  some (y3_65)
  else
  if ((x1 >>> (y4_5 &&& 31)) &&& (1 : Int32)) = (1 : Int32) then
  (if y3_65 = 0 then
  some (0 : Int32)
  else
  (aget 66 v_pairSets y4_5).bind (fun u17 =>
  if ((u17 >>> (y6_65 &&& 31)) &&& (1 : Int32)) = 0 then
  some (1 : Int32)
  else
  (f_X11_awayOf v_seats v_far y6_65 u10).bind (fun u19 =>
  if u19 < v_bearIs then
  some (0 : Int32)
  else
  some (1 : Int32)))).bind (fun w14 =>
  f_X11_areApart_65 v_seats v_bearIs v_pairSets v_far x1 y4_5 u10 n w14 (y6_65 + 1))
  else
  some (y3_65)) := rfl
def f_X11_areApart_5 (v_seats : Int32) (v_bearIs : Int32) (v_pairSets : Nat → Int32) (v_far : Nat → Int32) (x1 : Int32) (x2 : Int32) : Nat → Int32 → Int32 → Option (Int32)
  | 0, _, _ => none
  | n + 1, y3_5, y4_5 =>
  if x2 ≤ y4_5 then
  some (y3_5)
  else
  (f_X11_areApart_17 v_pairSets x1 x2 y4_5 FU (0 : Int32) (0 : Int32)).bind (fun u10 =>
  (f_X11_areApart_65 v_seats v_bearIs v_pairSets v_far x1 y4_5 u10 FU y3_5 (0 : Int32)).bind (fun u21 =>
  f_X11_areApart_5 v_seats v_bearIs v_pairSets v_far x1 x2 n u21 (y4_5 + 1)))
theorem f_X11_areApart_5_s (v_seats : Int32) (v_bearIs : Int32) (v_pairSets : Nat → Int32) (v_far : Nat → Int32) (x1 : Int32) (x2 : Int32) (n : Nat) (y3_5 : Int32) (y4_5 : Int32) : f_X11_areApart_5 v_seats v_bearIs v_pairSets v_far x1 x2 (n + 1) y3_5 y4_5 =
  (if x2 ≤ y4_5 then
  some (y3_5)
  else
  (f_X11_areApart_17 v_pairSets x1 x2 y4_5 FU (0 : Int32) (0 : Int32)).bind (fun u10 =>
  (f_X11_areApart_65 v_seats v_bearIs v_pairSets v_far x1 y4_5 u10 FU y3_5 (0 : Int32)).bind (fun u21 =>
  f_X11_areApart_5 v_seats v_bearIs v_pairSets v_far x1 x2 n u21 (y4_5 + 1)))) := rfl
def f_X11_areApart (v_seats : Int32) (v_bearIs : Int32) (v_pairSets : Nat → Int32) (v_far : Nat → Int32) (x1 : Int32) (x2 : Int32) : Option (Int32) :=
  (f_X11_areApart_5 v_seats v_bearIs v_pairSets v_far x1 x2 FU (1 : Int32) (0 : Int32)).bind (fun u22 =>
  (oz u22).bind (fun u23 =>
  some (u23)))
set_option maxHeartbeats 4000000 in
set_option maxRecDepth 100000 in
theorem c_X11_areApart (l : Launch) (D : va_G) (cI cJ cZ cO : ClassId) (a_t a_signs a_links a_worths a_far a_mays a_rowsTo a_endIn a_ends a_pairSets a_awayIn a_now a_then a_comers a_seen a_seenMany a_kept a_isKept : Nat) (v_signMany : Int32) (v_seats : Int32) (v_bearIs : Int32) (v_rowsAll : Int64) (v_awayUpper : Int64) (v_lower : Int64) (v_comerMany : Int32) (v_seenRows : Int32) (v_place : Int32) (v_isWriting : Int32) (v_pairSets : Nat → Int32) (v_far : Nat → Int32) (x1 : Int32) (x2 : Int32) (out : Int32) (hf : f_X11_areApart v_seats v_bearIs v_pairSets v_far x1 x2 = some out) : MetR l yX11_areApart (Cond.code yX11_areApart cX11_areApart 7 (some .boolean) :: tbG) { frames := 2, cells := 0, slots := 0, locals := 45 } D (tyL cI cJ cZ cO) [.ref a_t, .int x1, .int x2] [(a_t, .inr (11, [.ref a_signs, .int v_signMany, .int v_seats, .ref a_links, .ref a_worths, .int v_bearIs, .ref a_far, .ref a_mays, .ref a_rowsTo, .ref a_endIn, .long v_rowsAll, .ref a_ends, .ref a_pairSets, .ref a_awayIn, .ref a_now, .ref a_then, .long v_awayUpper, .long v_lower, .ref a_comers, .int v_comerMany, .ref a_seen, .ref a_seenMany, .int v_seenRows, .ref a_kept, .ref a_isKept, .int v_place, .int v_isWriting])), (a_pairSets, eI cI 66 v_pairSets), (a_far, eI cI 144 v_far)] (some (.int out)) [(a_t, .inr (11, [.ref a_signs, .int v_signMany, .int v_seats, .ref a_links, .ref a_worths, .int v_bearIs, .ref a_far, .ref a_mays, .ref a_rowsTo, .ref a_endIn, .long v_rowsAll, .ref a_ends, .ref a_pairSets, .ref a_awayIn, .ref a_now, .ref a_then, .long v_awayUpper, .long v_lower, .ref a_comers, .int v_comerMany, .ref a_seen, .ref a_seenMany, .int v_seenRows, .ref a_kept, .ref a_isKept, .int v_place, .int v_isWriting])), (a_pairSets, eI cI 66 v_pairSets), (a_far, eI cI 144 v_far)] := by
  refine ba_ofZ RX11 [(0, .ref a_t), (1, .int x1), (2, .int x2)] (by decide +kernel) rfl (Nat.le_of_ble_eq_true rfl) rfl ?_
  intro p e s m args below meth c Q A Cx hP ret ls hl
  obtain ⟨⟨hx, hb, hml, hown, hts⟩, hK, hD, hA⟩ := id Cx
  have hS : va_S A s.heap s.heap [] := va_S.rf
  unfold f_X11_areApart at hf
  refine lv_iconst (v := 1) hx hb dX11_areApart_0 (by decide) ?_
  refine lv_istore_n (lv' := [(3, .int (1 : Int32)), (0, .ref a_t), (1, .int x1), (2, .int x2)]) hx hb dX11_areApart_1 rfl hl (by decide) rfl (fun ls hl => ?_)
  refine lv_iconst (v := 0) hx hb dX11_areApart_2 (by decide) ?_
  refine lv_istore (lv' := [(4, .int (0 : Int32)), (3, .int (1 : Int32)), (0, .ref a_t), (1, .int x1), (2, .int x2)]) hx hb dX11_areApart_3 hl (by decide) rfl (fun ls hl => ?_)
  have L5_1 : ∀ (n : Nat) (y3_5 : Int32) (y4_5 : Int32) (o : Int32) (H : Heap) (locs : List Loc) (ls : Array Slot), f_X11_areApart_5 v_seats v_bearIs v_pairSets v_far x1 x2 n y3_5 y4_5 = some o → va_P D vwCl [(a_t, .inr (11, [.ref a_signs, .int v_signMany, .int v_seats, .ref a_links, .ref a_worths, .int v_bearIs, .ref a_far, .ref a_mays, .ref a_rowsTo, .ref a_endIn, .long v_rowsAll, .ref a_ends, .ref a_pairSets, .ref a_awayIn, .ref a_now, .ref a_then, .long v_awayUpper, .long v_lower, .ref a_comers, .int v_comerMany, .ref a_seen, .ref a_seenMany, .int v_seenRows, .ref a_kept, .ref a_isKept, .int v_place, .int v_isWriting])), (a_pairSets, eI cI 66 v_pairSets), (a_far, eI cI 144 v_far)] H → va_S A s.heap H locs → lv_has ls 7 [(0, .ref a_t), (1, .int x1), (2, .int x2), (3, .int y3_5), (4, .int y4_5)] → (∀ (H : Heap) (locs : List Loc) (ls : Array Slot), va_P D vwCl [(a_t, .inr (11, [.ref a_signs, .int v_signMany, .int v_seats, .ref a_links, .ref a_worths, .int v_bearIs, .ref a_far, .ref a_mays, .ref a_rowsTo, .ref a_endIn, .long v_rowsAll, .ref a_ends, .ref a_pairSets, .ref a_awayIn, .ref a_now, .ref a_then, .long v_awayUpper, .long v_lower, .ref a_comers, .int v_comerMany, .ref a_seen, .ref a_seenMany, .int v_seenRows, .ref a_kept, .ref a_isKept, .int v_place, .int v_isWriting])), (a_pairSets, eI cI 66 v_pairSets), (a_far, eI cI 144 v_far)] H → va_S A s.heap H locs → lv_has ls 7 [(3, .int o)] → W p l e { frames := 2, cells := 0, slots := 0, locals := 45 } s m args below meth c H locs 0 0 Q (F0 m 136 ls [])) → W p l e { frames := 2, cells := 0, slots := 0, locals := 45 } s m args below meth c H locs 0 0 Q (F0 m 5 ls []) := by
    intro n
    induction n with
    | zero => intro y3_5 y4_5 o H locs ls hf; exact (ob_n hf).elim
    | succ n ih =>
      intro y3_5 y4_5 o H locs ls hf hP hS hl kk
      rw [f_X11_areApart_5_s] at hf
      refine lv_iload hx hb dX11_areApart_5 (lv_at hl 4 rfl) ?_
      refine lv_iload_n hx hb dX11_areApart_7 rfl (lv_at hl 2 rfl) ?_
      refine lv_icmp_ge (tgt := 136) hx hb dX11_areApart_8 (by decide) (fun c2 => ?_) (fun c2 => ?_)
      · have hf := ob_t c2 hf
        obtain rfl := Option.some.inj hf
        exact kk _ _ _ hP hS (lv_sub hl [3] rfl)
      · have hf := ob_f c2 hf
        refine lv_iconst (v := 0) hx hb dX11_areApart_11 (by decide) ?_
        refine lv_istore (lv' := [(5, .int (0 : Int32)), (0, .ref a_t), (1, .int x1), (2, .int x2), (3, .int y3_5), (4, .int y4_5)]) hx hb dX11_areApart_12 hl (by decide) rfl (fun ls hl => ?_)
        refine lv_iconst (v := 0) hx hb dX11_areApart_14 (by decide) ?_
        refine lv_istore (lv' := [(6, .int (0 : Int32)), (5, .int (0 : Int32)), (0, .ref a_t), (1, .int x1), (2, .int x2), (3, .int y3_5), (4, .int y4_5)]) hx hb dX11_areApart_15 hl (by decide) rfl (fun ls hl => ?_)
        have L17_3 : ∀ (n : Nat) (y5_17 : Int32) (y6_17 : Int32) (o : Int32) (H : Heap) (locs : List Loc) (ls : Array Slot), f_X11_areApart_17 v_pairSets x1 x2 y4_5 n y5_17 y6_17 = some o → va_P D vwCl [(a_t, .inr (11, [.ref a_signs, .int v_signMany, .int v_seats, .ref a_links, .ref a_worths, .int v_bearIs, .ref a_far, .ref a_mays, .ref a_rowsTo, .ref a_endIn, .long v_rowsAll, .ref a_ends, .ref a_pairSets, .ref a_awayIn, .ref a_now, .ref a_then, .long v_awayUpper, .long v_lower, .ref a_comers, .int v_comerMany, .ref a_seen, .ref a_seenMany, .int v_seenRows, .ref a_kept, .ref a_isKept, .int v_place, .int v_isWriting])), (a_pairSets, eI cI 66 v_pairSets), (a_far, eI cI 144 v_far)] H → va_S A s.heap H locs → lv_has ls 7 [(0, .ref a_t), (1, .int x1), (2, .int x2), (3, .int y3_5), (4, .int y4_5), (5, .int y5_17), (6, .int y6_17)] → (∀ (H : Heap) (locs : List Loc) (ls : Array Slot), va_P D vwCl [(a_t, .inr (11, [.ref a_signs, .int v_signMany, .int v_seats, .ref a_links, .ref a_worths, .int v_bearIs, .ref a_far, .ref a_mays, .ref a_rowsTo, .ref a_endIn, .long v_rowsAll, .ref a_ends, .ref a_pairSets, .ref a_awayIn, .ref a_now, .ref a_then, .long v_awayUpper, .long v_lower, .ref a_comers, .int v_comerMany, .ref a_seen, .ref a_seenMany, .int v_seenRows, .ref a_kept, .ref a_isKept, .int v_place, .int v_isWriting])), (a_pairSets, eI cI 66 v_pairSets), (a_far, eI cI 144 v_far)] H → va_S A s.heap H locs → lv_has ls 7 [(0, .ref a_t), (1, .int x1), (2, .int x2), (3, .int y3_5), (4, .int y4_5), (5, .int o)] → W p l e { frames := 2, cells := 0, slots := 0, locals := 45 } s m args below meth c H locs 0 0 Q (F0 m 62 ls [])) → W p l e { frames := 2, cells := 0, slots := 0, locals := 45 } s m args below meth c H locs 0 0 Q (F0 m 17 ls []) := by
          intro n
          induction n with
          | zero => intro y5_17 y6_17 o H locs ls hf; exact (ob_n hf).elim
          | succ n ih =>
            intro y5_17 y6_17 o H locs ls hf hP hS hl kk
            rw [f_X11_areApart_17_s] at hf
            refine lv_iload hx hb dX11_areApart_17 (lv_at hl 6 rfl) ?_
            refine lv_iload_n hx hb dX11_areApart_19 rfl (lv_at hl 2 rfl) ?_
            refine lv_icmp_ge (tgt := 62) hx hb dX11_areApart_20 (by decide) (fun c4 => ?_) (fun c4 => ?_)
            · have hf := ob_t c4 hf
              obtain rfl := Option.some.inj hf
              exact kk _ _ _ hP hS (lv_sub hl [0, 1, 2, 3, 4, 5] rfl)
            · have hf := ob_f c4 hf
              refine lv_iload hx hb dX11_areApart_23 (lv_at hl 5 rfl) ?_
              refine lv_iload hx hb dX11_areApart_25 (lv_at hl 6 rfl) ?_
              refine lv_iload hx hb dX11_areApart_27 (lv_at hl 4 rfl) ?_
              refine ob_J (P := fun w5 => ∀ (H : Heap) (locs : List Loc) (ls : Array Slot), va_P D vwCl [(a_t, .inr (11, [.ref a_signs, .int v_signMany, .int v_seats, .ref a_links, .ref a_worths, .int v_bearIs, .ref a_far, .ref a_mays, .ref a_rowsTo, .ref a_endIn, .long v_rowsAll, .ref a_ends, .ref a_pairSets, .ref a_awayIn, .ref a_now, .ref a_then, .long v_awayUpper, .long v_lower, .ref a_comers, .int v_comerMany, .ref a_seen, .ref a_seenMany, .int v_seenRows, .ref a_kept, .ref a_isKept, .int v_place, .int v_isWriting])), (a_pairSets, eI cI 66 v_pairSets), (a_far, eI cI 144 v_far)] H → va_S A s.heap H locs → lv_has ls 7 [(0, .ref a_t), (1, .int x1), (2, .int x2), (3, .int y3_5), (4, .int y4_5), (6, .int y6_17)] → W p l e { frames := 2, cells := 0, slots := 0, locals := 45 } s m args below meth c H locs 0 0 Q (F0 m 53 ls [.int w5, .int y5_17])) hf ?_ ?_
              · intro w5 hf H locs ls hP hS hl
                refine lv_ior hx hb dX11_areApart_53 ?_
                refine lv_istore (lv' := [(5, .int (y5_17 ||| w5)), (0, .ref a_t), (1, .int x1), (2, .int x2), (3, .int y3_5), (4, .int y4_5), (6, .int y6_17)]) hx hb dX11_areApart_54 hl (by decide) rfl (fun ls hl => ?_)
                refine lv_iinc (v := (y6_17 + 1)) (lv' := [(6, .int (y6_17 + 1)), (5, .int (y5_17 ||| w5)), (0, .ref a_t), (1, .int x1), (2, .int x2), (3, .int y3_5), (4, .int y4_5)]) hx hb dX11_areApart_56 hl (k := 6) rfl rfl (by decide) rfl (fun ls hl => ?_)
                refine lv_goto (tgt := 17) hx hb dX11_areApart_59 (by decide) ?_
                exact ih (y5_17 ||| w5) (y6_17 + 1) _ _ _ _ hf hP hS (lv_sub hl [2, 3, 4, 5, 6, 1, 0] rfl) kk
              · intro J53_6 hf
                refine lv_icmp_eq (tgt := 52) hx hb dX11_areApart_29 (by decide) (fun c7 => ?_) (fun c7 => ?_)
                · have hf := ob_tk c7 hf
                  refine lv_iconst (v := 0) hx hb dX11_areApart_52 (by decide) ?_
                  exact J53_6 (0 : Int32) hf _ _ _ hP hS (lv_sub hl [0, 1, 2, 3, 4, 6] rfl)
                · have hf := ob_fk c7 hf
                  refine lv_iload_n hx hb dX11_areApart_32 rfl (lv_at hl 1 rfl) ?_
                  refine lv_iload hx hb dX11_areApart_33 (lv_at hl 6 rfl) ?_
                  refine lv_ishr hx hb dX11_areApart_35 ?_
                  refine lv_iconst (v := 1) hx hb dX11_areApart_36 (by decide) ?_
                  refine lv_iand hx hb dX11_areApart_37 ?_
                  refine lv_iconst (v := 1) hx hb dX11_areApart_38 (by decide) ?_
                  refine lv_icmp_ne (tgt := 52) hx hb dX11_areApart_39 (by decide) (fun c8 => ?_) (fun c8 => ?_)
                  · have hf := ob_fk c8 hf
                    refine lv_iconst (v := 0) hx hb dX11_areApart_52 (by decide) ?_
                    exact J53_6 (0 : Int32) hf _ _ _ hP hS (lv_sub hl [0, 1, 2, 3, 4, 6] rfl)
                  · have hf := ob_tk c8 hf
                    refine lv_aload_n hx hb dX11_areApart_42 rfl (lv_at hl 0 rfl) ?_
                    refine gf_X11_35 Cx hP 0 rfl rfl dX11_areApart_43 ?_
                    refine lv_iload hx hb dX11_areApart_46 (lv_at hl 6 rfl) ?_
                    obtain ⟨u9, hu9, hf⟩ := ob_bk hf
                    refine ba_iald Cx hP 1 rfl hu9 dX11_areApart_48 ?_
                    refine lv_goto (tgt := 53) hx hb dX11_areApart_49 (by decide) ?_
                    exact J53_6 u9 hf _ _ _ hP hS (lv_sub hl [0, 1, 2, 3, 4, 6] rfl)
        obtain ⟨u10, hu10, hf⟩ := ob_b hf
        refine L17_3 FU (0 : Int32) (0 : Int32) u10 _ _ _ hu10 hP hS (lv_sub hl [2, 3, 4, 5, 6, 1, 0] rfl) ?_
        intro H locs ls hP hS hl
        refine lv_iconst (v := 0) hx hb dX11_areApart_62 (by decide) ?_
        refine lv_istore (lv' := [(6, .int (0 : Int32)), (0, .ref a_t), (1, .int x1), (2, .int x2), (3, .int y3_5), (4, .int y4_5), (5, .int u10)]) hx hb dX11_areApart_63 hl (by decide) rfl (fun ls hl => ?_)
        have L65_11 : ∀ (n : Nat) (y3_65 : Int32) (y6_65 : Int32) (o : Int32) (H : Heap) (locs : List Loc) (ls : Array Slot), f_X11_areApart_65 v_seats v_bearIs v_pairSets v_far x1 y4_5 u10 n y3_65 y6_65 = some o → va_P D vwCl [(a_t, .inr (11, [.ref a_signs, .int v_signMany, .int v_seats, .ref a_links, .ref a_worths, .int v_bearIs, .ref a_far, .ref a_mays, .ref a_rowsTo, .ref a_endIn, .long v_rowsAll, .ref a_ends, .ref a_pairSets, .ref a_awayIn, .ref a_now, .ref a_then, .long v_awayUpper, .long v_lower, .ref a_comers, .int v_comerMany, .ref a_seen, .ref a_seenMany, .int v_seenRows, .ref a_kept, .ref a_isKept, .int v_place, .int v_isWriting])), (a_pairSets, eI cI 66 v_pairSets), (a_far, eI cI 144 v_far)] H → va_S A s.heap H locs → lv_has ls 7 [(0, .ref a_t), (1, .int x1), (2, .int x2), (3, .int y3_65), (4, .int y4_5), (5, .int u10), (6, .int y6_65)] → (∀ (H : Heap) (locs : List Loc) (ls : Array Slot), va_P D vwCl [(a_t, .inr (11, [.ref a_signs, .int v_signMany, .int v_seats, .ref a_links, .ref a_worths, .int v_bearIs, .ref a_far, .ref a_mays, .ref a_rowsTo, .ref a_endIn, .long v_rowsAll, .ref a_ends, .ref a_pairSets, .ref a_awayIn, .ref a_now, .ref a_then, .long v_awayUpper, .long v_lower, .ref a_comers, .int v_comerMany, .ref a_seen, .ref a_seenMany, .int v_seenRows, .ref a_kept, .ref a_isKept, .int v_place, .int v_isWriting])), (a_pairSets, eI cI 66 v_pairSets), (a_far, eI cI 144 v_far)] H → va_S A s.heap H locs → lv_has ls 7 [(0, .ref a_t), (1, .int x1), (2, .int x2), (3, .int o), (4, .int y4_5)] → W p l e { frames := 2, cells := 0, slots := 0, locals := 45 } s m args below meth c H locs 0 0 Q (F0 m 130 ls [])) → W p l e { frames := 2, cells := 0, slots := 0, locals := 45 } s m args below meth c H locs 0 0 Q (F0 m 65 ls []) := by
          intro n
          induction n with
          | zero => intro y3_65 y6_65 o H locs ls hf; exact (ob_n hf).elim
          | succ n ih =>
            intro y3_65 y6_65 o H locs ls hf hP hS hl kk
            rw [f_X11_areApart_65_s] at hf
            refine lv_iload hx hb dX11_areApart_65 (lv_at hl 6 rfl) ?_
            refine lv_aload_n hx hb dX11_areApart_67 rfl (lv_at hl 0 rfl) ?_
            refine gf_X11_63 Cx hP 0 rfl rfl dX11_areApart_68 ?_
            refine lv_icmp_ge (tgt := 130) hx hb dX11_areApart_71 (by decide) (fun c12 => ?_) (fun c12 => ?_)
            · have hf := ob_t c12 hf
              obtain rfl := Option.some.inj hf
              exact kk _ _ _ hP hS (lv_sub hl [0, 1, 2, 3, 4] rfl)
            · have hf := ob_f c12 hf
              refine lv_iload_n hx hb dX11_areApart_74 rfl (lv_at hl 1 rfl) ?_
              refine lv_iload hx hb dX11_areApart_75 (lv_at hl 4 rfl) ?_
              refine lv_ishr hx hb dX11_areApart_77 ?_
              refine lv_iconst (v := 1) hx hb dX11_areApart_78 (by decide) ?_
              refine lv_iand hx hb dX11_areApart_79 ?_
              refine lv_iconst (v := 1) hx hb dX11_areApart_80 (by decide) ?_
              refine lv_icmp_ne (tgt := 130) hx hb dX11_areApart_81 (by decide) (fun c13 => ?_) (fun c13 => ?_)
              · have hf := ob_f c13 hf
                obtain rfl := Option.some.inj hf
                exact kk _ _ _ hP hS (lv_sub hl [0, 1, 2, 3, 4] rfl)
              · have hf := ob_t c13 hf
                refine lv_iload_n hx hb dX11_areApart_84 rfl (lv_at hl 3 rfl) ?_
                refine ob_J (P := fun w14 => ∀ (H : Heap) (locs : List Loc) (ls : Array Slot), va_P D vwCl [(a_t, .inr (11, [.ref a_signs, .int v_signMany, .int v_seats, .ref a_links, .ref a_worths, .int v_bearIs, .ref a_far, .ref a_mays, .ref a_rowsTo, .ref a_endIn, .long v_rowsAll, .ref a_ends, .ref a_pairSets, .ref a_awayIn, .ref a_now, .ref a_then, .long v_awayUpper, .long v_lower, .ref a_comers, .int v_comerMany, .ref a_seen, .ref a_seenMany, .int v_seenRows, .ref a_kept, .ref a_isKept, .int v_place, .int v_isWriting])), (a_pairSets, eI cI 66 v_pairSets), (a_far, eI cI 144 v_far)] H → va_S A s.heap H locs → lv_has ls 7 [(0, .ref a_t), (1, .int x1), (2, .int x2), (4, .int y4_5), (5, .int u10), (6, .int y6_65)] → W p l e { frames := 2, cells := 0, slots := 0, locals := 45 } s m args below meth c H locs 0 0 Q (F0 m 123 ls [.int w14])) hf ?_ ?_
                · intro w14 hf H locs ls hP hS hl
                  refine lv_istore_n (lv' := [(3, .int w14), (0, .ref a_t), (1, .int x1), (2, .int x2), (4, .int y4_5), (5, .int u10), (6, .int y6_65)]) hx hb dX11_areApart_123 rfl hl (by decide) rfl (fun ls hl => ?_)
                  refine lv_iinc (v := (y6_65 + 1)) (lv' := [(6, .int (y6_65 + 1)), (3, .int w14), (0, .ref a_t), (1, .int x1), (2, .int x2), (4, .int y4_5), (5, .int u10)]) hx hb dX11_areApart_124 hl (k := 6) rfl rfl (by decide) rfl (fun ls hl => ?_)
                  refine lv_goto (tgt := 65) hx hb dX11_areApart_127 (by decide) ?_
                  exact ih w14 (y6_65 + 1) _ _ _ _ hf hP hS (lv_sub hl [2, 3, 4, 1, 5, 6, 0] rfl) kk
                · intro J123_15 hf
                  refine lv_if_eq (tgt := 122) hx hb dX11_areApart_85 (by decide) (fun c16 => ?_) (fun c16 => ?_)
                  · have hf := ob_tk c16 hf
                    refine lv_iconst (v := 0) hx hb dX11_areApart_122 (by decide) ?_
                    exact J123_15 (0 : Int32) hf _ _ _ hP hS (lv_sub hl [0, 1, 2, 4, 5, 6] rfl)
                  · have hf := ob_fk c16 hf
                    refine lv_aload_n hx hb dX11_areApart_88 rfl (lv_at hl 0 rfl) ?_
                    refine gf_X11_35 Cx hP 0 rfl rfl dX11_areApart_89 ?_
                    refine lv_iload hx hb dX11_areApart_92 (lv_at hl 4 rfl) ?_
                    obtain ⟨u17, hu17, hf⟩ := ob_bk hf
                    refine ba_iald Cx hP 1 rfl hu17 dX11_areApart_94 ?_
                    refine lv_iload hx hb dX11_areApart_95 (lv_at hl 6 rfl) ?_
                    refine lv_ishr hx hb dX11_areApart_97 ?_
                    refine lv_iconst (v := 1) hx hb dX11_areApart_98 (by decide) ?_
                    refine lv_iand hx hb dX11_areApart_99 ?_
                    refine lv_if_eq (tgt := 118) hx hb dX11_areApart_100 (by decide) (fun c18 => ?_) (fun c18 => ?_)
                    · have hf := ob_tk c18 hf
                      refine lv_iconst (v := 1) hx hb dX11_areApart_118 (by decide) ?_
                      refine lv_goto (tgt := 123) hx hb dX11_areApart_119 (by decide) ?_
                      exact J123_15 (1 : Int32) hf _ _ _ hP hS (lv_sub hl [0, 1, 2, 4, 5, 6] rfl)
                    · have hf := ob_fk c18 hf
                      refine lv_aload_n hx hb dX11_areApart_103 rfl (lv_at hl 0 rfl) ?_
                      refine lv_iload hx hb dX11_areApart_104 (lv_at hl 6 rfl) ?_
                      refine lv_iload hx hb dX11_areApart_106 (lv_at hl 5 rfl) ?_
                      obtain ⟨u19, hu19, hf⟩ := ob_bk hf
                      refine iv_X11_108 (As := [.int y6_65, .int u10]) (rest := []) (is := [0, 2]) (q0 := 0) (X' := [(a_t, .inr (11, [.ref a_signs, .int v_signMany, .int v_seats, .ref a_links, .ref a_worths, .int v_bearIs, .ref a_far, .ref a_mays, .ref a_rowsTo, .ref a_endIn, .long v_rowsAll, .ref a_ends, .ref a_pairSets, .ref a_awayIn, .ref a_now, .ref a_then, .long v_awayUpper, .long v_lower, .ref a_comers, .int v_comerMany, .ref a_seen, .ref a_seenMany, .int v_seenRows, .ref a_kept, .ref a_isKept, .int v_place, .int v_isWriting])), (a_pairSets, eI cI 66 v_pairSets), (a_far, eI cI 144 v_far)]) Cx (c_X11_awayOf l D cI cJ cZ cO a_t a_signs a_links a_worths a_far a_mays a_rowsTo a_endIn a_ends a_pairSets a_awayIn a_now a_then a_comers a_seen a_seenMany a_kept a_isKept v_signMany v_seats v_bearIs v_rowsAll v_awayUpper v_lower v_comerMany v_seenRows v_place v_isWriting v_far y6_65 u10 u19 hu19) hP hS rfl rfl rfl rfl rfl rfl rfl hl.1 (Nat.le_of_ble_eq_true rfl) dX11_areApart_108 rfl rfl ⟨Nat.le_of_ble_eq_true rfl, Nat.le_of_ble_eq_true rfl⟩ ⟨Nat.zero_le _, Nat.zero_le _⟩ rfl (fun H locs hP hS => ?_)
                      refine lv_aload_n hx hb dX11_areApart_111 rfl (lv_at hl 0 rfl) ?_
                      refine gf_X11_67 Cx hP 0 rfl rfl dX11_areApart_112 ?_
                      refine lv_icmp_lt (tgt := 122) hx hb dX11_areApart_115 (by decide) (fun c20 => ?_) (fun c20 => ?_)
                      · have hf := ob_tk c20 hf
                        refine lv_iconst (v := 0) hx hb dX11_areApart_122 (by decide) ?_
                        exact J123_15 (0 : Int32) hf _ _ _ hP hS (lv_sub hl [0, 1, 2, 4, 5, 6] rfl)
                      · have hf := ob_fk c20 hf
                        refine lv_iconst (v := 1) hx hb dX11_areApart_118 (by decide) ?_
                        refine lv_goto (tgt := 123) hx hb dX11_areApart_119 (by decide) ?_
                        exact J123_15 (1 : Int32) hf _ _ _ hP hS (lv_sub hl [0, 1, 2, 4, 5, 6] rfl)
        obtain ⟨u21, hu21, hf⟩ := ob_b hf
        refine L65_11 FU y3_5 (0 : Int32) u21 _ _ _ hu21 hP hS (lv_sub hl [1, 2, 3, 4, 5, 6, 0] rfl) ?_
        intro H locs ls hP hS hl
        refine lv_iinc (v := (y4_5 + 1)) (lv' := [(4, .int (y4_5 + 1)), (0, .ref a_t), (1, .int x1), (2, .int x2), (3, .int u21)]) hx hb dX11_areApart_130 hl (k := 4) rfl rfl (by decide) rfl (fun ls hl => ?_)
        refine lv_goto (tgt := 5) hx hb dX11_areApart_133 (by decide) ?_
        exact ih u21 (y4_5 + 1) _ _ _ _ hf hP hS (lv_sub hl [1, 2, 3, 4, 0] rfl) kk
  obtain ⟨u22, hu22, hf⟩ := ob_b hf
  refine L5_1 FU (1 : Int32) (0 : Int32) u22 _ _ _ hu22 hP hS (lv_sub hl [2, 3, 4, 1, 0] rfl) ?_
  intro H locs ls hP hS hl
  refine lv_iload_n hx hb dX11_areApart_136 rfl (lv_at hl 0 rfl) ?_
  obtain ⟨u23, hu23, hf⟩ := ob_b hf
  obtain ⟨hz1, hz2⟩ := oz_ok hu23
  obtain rfl := Option.some.inj hf
  exact ret _ _ _ _ _ hz1 hz2 dX11_areApart_137 hP hS

def f_X11_mostPairs_16 (v_seats : Int32) (v_far : Nat → Int32) (y2_4 : Int32) : Nat → Int32 → Int32 → (Nat → Int32) → Option (Int32 × (Nat → Int32))
  | 0, _, _, _ => none
  | n + 1, y1_16, y3_16, z_pairSets_16 =>
  if v_seats ≤ y3_16 then
  some (y1_16, z_pairSets_16)
  else
  (f_X11_at y2_4 y3_16).bind (fun u5 =>
  (aget 144 v_far u5).bind (fun u6 =>
  (if u6 = (1 : Int32) then
  (asetI 66 z_pairSets_16 y1_16 (((1 : Int32) <<< (y2_4 &&& 31)) ||| ((1 : Int32) <<< (y3_16 &&& 31)))).bind (fun u10 =>
  some ((y1_16 + 1), u10))
  else
  some (y1_16, z_pairSets_16)).bind (fun w7 =>
  f_X11_mostPairs_16 v_seats v_far y2_4 n w7.1 (y3_16 + 1) w7.2)))
theorem f_X11_mostPairs_16_s (v_seats : Int32) (v_far : Nat → Int32) (y2_4 : Int32) (n : Nat) (y1_16 : Int32) (y3_16 : Int32) (z_pairSets_16 : Nat → Int32) : f_X11_mostPairs_16 v_seats v_far y2_4 (n + 1) y1_16 y3_16 z_pairSets_16 =
  (if v_seats ≤ y3_16 then
  some (y1_16, z_pairSets_16)
  else
  (f_X11_at y2_4 y3_16).bind (fun u5 =>
  (aget 144 v_far u5).bind (fun u6 =>
  (if u6 = (1 : Int32) then
  (asetI 66 z_pairSets_16 y1_16 (((1 : Int32) <<< (y2_4 &&& 31)) ||| ((1 : Int32) <<< (y3_16 &&& 31)))).bind (fun u10 =>
  some ((y1_16 + 1), u10))
  else
  some (y1_16, z_pairSets_16)).bind (fun w7 =>
  f_X11_mostPairs_16 v_seats v_far y2_4 n w7.1 (y3_16 + 1) w7.2)))) := rfl
def f_X11_mostPairs_4 (v_seats : Int32) (v_far : Nat → Int32) : Nat → Int32 → Int32 → (Nat → Int32) → Option (Int32 × (Nat → Int32))
  | 0, _, _, _ => none
  | n + 1, y1_4, y2_4, z_pairSets_4 =>
  if v_seats ≤ y2_4 then
  some (y1_4, z_pairSets_4)
  else
  (f_X11_mostPairs_16 v_seats v_far y2_4 FU y1_4 (y2_4 + (1 : Int32)) z_pairSets_4).bind (fun u11 =>
  f_X11_mostPairs_4 v_seats v_far n u11.1 (y2_4 + 1) u11.2)
theorem f_X11_mostPairs_4_s (v_seats : Int32) (v_far : Nat → Int32) (n : Nat) (y1_4 : Int32) (y2_4 : Int32) (z_pairSets_4 : Nat → Int32) : f_X11_mostPairs_4 v_seats v_far (n + 1) y1_4 y2_4 z_pairSets_4 =
  (if v_seats ≤ y2_4 then
  some (y1_4, z_pairSets_4)
  else
  (f_X11_mostPairs_16 v_seats v_far y2_4 FU y1_4 (y2_4 + (1 : Int32)) z_pairSets_4).bind (fun u11 =>
  f_X11_mostPairs_4 v_seats v_far n u11.1 (y2_4 + 1) u11.2)) := rfl
def f_X11_mostPairs_70 (v_seats : Int32) (v_bearIs : Int32) (v_far : Nat → Int32) (u12 : Int32 × (Nat → Int32)) : Nat → Int32 → Int32 → Option (Int32)
  | 0, _, _ => none
  | n + 1, y2_70, y3_70 =>
  if ((1 : Int32) <<< (u12.1 &&& 31)) ≤ y3_70 then
  some (y2_70)
  else
  (f_X11_ones y3_70).bind (fun u15 =>
  (if u15 ≤ y2_70 then
  some (y2_70)
  else
  (f_X11_areApart v_seats v_bearIs u12.2 v_far y3_70 u12.1).bind (fun u19 =>
  if u19 = 0 then
  some (y2_70)
  else
  (f_X11_ones y3_70).bind (fun u21 =>
  some (u21)))).bind (fun w16 =>
  f_X11_mostPairs_70 v_seats v_bearIs v_far u12 n w16 (y3_70 + 1)))
theorem f_X11_mostPairs_70_s (v_seats : Int32) (v_bearIs : Int32) (v_far : Nat → Int32) (u12 : Int32 × (Nat → Int32)) (n : Nat) (y2_70 : Int32) (y3_70 : Int32) : f_X11_mostPairs_70 v_seats v_bearIs v_far u12 (n + 1) y2_70 y3_70 =
  (if ((1 : Int32) <<< (u12.1 &&& 31)) ≤ y3_70 then
  some (y2_70)
  else
  (f_X11_ones y3_70).bind (fun u15 =>
  (if u15 ≤ y2_70 then
  some (y2_70)
  else
  (f_X11_areApart v_seats v_bearIs u12.2 v_far y3_70 u12.1).bind (fun u19 =>
  if u19 = 0 then
  some (y2_70)
  else
  (f_X11_ones y3_70).bind (fun u21 =>
  some (u21)))).bind (fun w16 =>
  f_X11_mostPairs_70 v_seats v_bearIs v_far u12 n w16 (y3_70 + 1)))) := rfl
def f_X11_mostPairs (v_seats : Int32) (v_bearIs : Int32) (v_far : Nat → Int32) (v_pairSets : Nat → Int32) : Option (Int32 × (Nat → Int32)) :=
  (f_X11_mostPairs_4 v_seats v_far FU (0 : Int32) (0 : Int32) v_pairSets).bind (fun u12 =>
  (f_X11_mostPairs_70 v_seats v_bearIs v_far u12 FU (0 : Int32) (0 : Int32)).bind (fun u22 =>
  some (u22, u12.2)))
set_option maxHeartbeats 4000000 in
set_option maxRecDepth 100000 in
theorem c_X11_mostPairs (l : Launch) (D : va_G) (cI cJ cZ cO : ClassId) (a_t a_signs a_links a_worths a_far a_mays a_rowsTo a_endIn a_ends a_pairSets a_awayIn a_now a_then a_comers a_seen a_seenMany a_kept a_isKept : Nat) (v_signMany : Int32) (v_seats : Int32) (v_bearIs : Int32) (v_rowsAll : Int64) (v_awayUpper : Int64) (v_lower : Int64) (v_comerMany : Int32) (v_seenRows : Int32) (v_place : Int32) (v_isWriting : Int32) (v_far : Nat → Int32) (v_pairSets : Nat → Int32) (out : Int32 × (Nat → Int32)) (hf : f_X11_mostPairs v_seats v_bearIs v_far v_pairSets = some out) : MetR l yX11_mostPairs (Cond.code yX11_mostPairs cX11_mostPairs 4 (some .int) :: tbG) { frames := 3, cells := 0, slots := 0, locals := 71 } D (tyL cI cJ cZ cO) [.ref a_t] [(a_t, .inr (11, [.ref a_signs, .int v_signMany, .int v_seats, .ref a_links, .ref a_worths, .int v_bearIs, .ref a_far, .ref a_mays, .ref a_rowsTo, .ref a_endIn, .long v_rowsAll, .ref a_ends, .ref a_pairSets, .ref a_awayIn, .ref a_now, .ref a_then, .long v_awayUpper, .long v_lower, .ref a_comers, .int v_comerMany, .ref a_seen, .ref a_seenMany, .int v_seenRows, .ref a_kept, .ref a_isKept, .int v_place, .int v_isWriting])), (a_far, eI cI 144 v_far), (a_pairSets, eI cI 66 v_pairSets)] (some (.int out.1)) [(a_t, .inr (11, [.ref a_signs, .int v_signMany, .int v_seats, .ref a_links, .ref a_worths, .int v_bearIs, .ref a_far, .ref a_mays, .ref a_rowsTo, .ref a_endIn, .long v_rowsAll, .ref a_ends, .ref a_pairSets, .ref a_awayIn, .ref a_now, .ref a_then, .long v_awayUpper, .long v_lower, .ref a_comers, .int v_comerMany, .ref a_seen, .ref a_seenMany, .int v_seenRows, .ref a_kept, .ref a_isKept, .int v_place, .int v_isWriting])), (a_far, eI cI 144 v_far), (a_pairSets, eI cI 66 out.2)] := by
  refine ba_ofI RX11 [(0, .ref a_t)] (by decide +kernel) rfl (Nat.le_of_ble_eq_true rfl) rfl ?_
  intro p e s m args below meth c Q A Cx hP ret ls hl
  obtain ⟨⟨hx, hb, hml, hown, hts⟩, hK, hD, hA⟩ := id Cx
  have hS : va_S A s.heap s.heap [] := va_S.rf
  unfold f_X11_mostPairs at hf
  refine lv_iconst (v := 0) hx hb dX11_mostPairs_0 (by decide) ?_
  refine lv_istore_n (lv' := [(1, .int (0 : Int32)), (0, .ref a_t)]) hx hb dX11_mostPairs_1 rfl hl (by decide) rfl (fun ls hl => ?_)
  refine lv_iconst (v := 0) hx hb dX11_mostPairs_2 (by decide) ?_
  refine lv_istore_n (lv' := [(2, .int (0 : Int32)), (1, .int (0 : Int32)), (0, .ref a_t)]) hx hb dX11_mostPairs_3 rfl hl (by decide) rfl (fun ls hl => ?_)
  have L4_1 : ∀ (n : Nat) (y1_4 : Int32) (y2_4 : Int32) (z_pairSets_4 : Nat → Int32) (o : Int32 × (Nat → Int32)) (H : Heap) (locs : List Loc) (ls : Array Slot), f_X11_mostPairs_4 v_seats v_far n y1_4 y2_4 z_pairSets_4 = some o → va_P D vwCl [(a_t, .inr (11, [.ref a_signs, .int v_signMany, .int v_seats, .ref a_links, .ref a_worths, .int v_bearIs, .ref a_far, .ref a_mays, .ref a_rowsTo, .ref a_endIn, .long v_rowsAll, .ref a_ends, .ref a_pairSets, .ref a_awayIn, .ref a_now, .ref a_then, .long v_awayUpper, .long v_lower, .ref a_comers, .int v_comerMany, .ref a_seen, .ref a_seenMany, .int v_seenRows, .ref a_kept, .ref a_isKept, .int v_place, .int v_isWriting])), (a_far, eI cI 144 v_far), (a_pairSets, eI cI 66 z_pairSets_4)] H → va_S A s.heap H locs → lv_has ls 4 [(0, .ref a_t), (1, .int y1_4), (2, .int y2_4)] → (∀ (H : Heap) (locs : List Loc) (ls : Array Slot), va_P D vwCl [(a_t, .inr (11, [.ref a_signs, .int v_signMany, .int v_seats, .ref a_links, .ref a_worths, .int v_bearIs, .ref a_far, .ref a_mays, .ref a_rowsTo, .ref a_endIn, .long v_rowsAll, .ref a_ends, .ref a_pairSets, .ref a_awayIn, .ref a_now, .ref a_then, .long v_awayUpper, .long v_lower, .ref a_comers, .int v_comerMany, .ref a_seen, .ref a_seenMany, .int v_seenRows, .ref a_kept, .ref a_isKept, .int v_place, .int v_isWriting])), (a_far, eI cI 144 v_far), (a_pairSets, eI cI 66 o.2)] H → va_S A s.heap H locs → lv_has ls 4 [(0, .ref a_t), (1, .int o.1)] → W p l e { frames := 3, cells := 0, slots := 0, locals := 71 } s m args below meth c H locs 0 0 Q (F0 m 66 ls [])) → W p l e { frames := 3, cells := 0, slots := 0, locals := 71 } s m args below meth c H locs 0 0 Q (F0 m 4 ls []) := by
    intro n
    induction n with
    | zero => intro y1_4 y2_4 z_pairSets_4 o H locs ls hf; exact (ob_n hf).elim
    | succ n ih =>
      intro y1_4 y2_4 z_pairSets_4 o H locs ls hf hP hS hl kk
      rw [f_X11_mostPairs_4_s] at hf
      refine lv_iload_n hx hb dX11_mostPairs_4 rfl (lv_at hl 2 rfl) ?_
      refine lv_aload_n hx hb dX11_mostPairs_5 rfl (lv_at hl 0 rfl) ?_
      refine gf_X11_63 Cx hP 0 rfl rfl dX11_mostPairs_6 ?_
      refine lv_icmp_ge (tgt := 66) hx hb dX11_mostPairs_9 (by decide) (fun c2 => ?_) (fun c2 => ?_)
      · have hf := ob_t c2 hf
        obtain rfl := Option.some.inj hf
        exact kk _ _ _ hP hS (lv_sub hl [0, 1] rfl)
      · have hf := ob_f c2 hf
        refine lv_iload_n hx hb dX11_mostPairs_12 rfl (lv_at hl 2 rfl) ?_
        refine lv_iconst (v := 1) hx hb dX11_mostPairs_13 (by decide) ?_
        refine lv_iadd hx hb dX11_mostPairs_14 ?_
        refine lv_istore_n (lv' := [(3, .int (y2_4 + (1 : Int32))), (0, .ref a_t), (1, .int y1_4), (2, .int y2_4)]) hx hb dX11_mostPairs_15 rfl hl (by decide) rfl (fun ls hl => ?_)
        have L16_3 : ∀ (n : Nat) (y1_16 : Int32) (y3_16 : Int32) (z_pairSets_16 : Nat → Int32) (o : Int32 × (Nat → Int32)) (H : Heap) (locs : List Loc) (ls : Array Slot), f_X11_mostPairs_16 v_seats v_far y2_4 n y1_16 y3_16 z_pairSets_16 = some o → va_P D vwCl [(a_t, .inr (11, [.ref a_signs, .int v_signMany, .int v_seats, .ref a_links, .ref a_worths, .int v_bearIs, .ref a_far, .ref a_mays, .ref a_rowsTo, .ref a_endIn, .long v_rowsAll, .ref a_ends, .ref a_pairSets, .ref a_awayIn, .ref a_now, .ref a_then, .long v_awayUpper, .long v_lower, .ref a_comers, .int v_comerMany, .ref a_seen, .ref a_seenMany, .int v_seenRows, .ref a_kept, .ref a_isKept, .int v_place, .int v_isWriting])), (a_far, eI cI 144 v_far), (a_pairSets, eI cI 66 z_pairSets_16)] H → va_S A s.heap H locs → lv_has ls 4 [(0, .ref a_t), (1, .int y1_16), (2, .int y2_4), (3, .int y3_16)] → (∀ (H : Heap) (locs : List Loc) (ls : Array Slot), va_P D vwCl [(a_t, .inr (11, [.ref a_signs, .int v_signMany, .int v_seats, .ref a_links, .ref a_worths, .int v_bearIs, .ref a_far, .ref a_mays, .ref a_rowsTo, .ref a_endIn, .long v_rowsAll, .ref a_ends, .ref a_pairSets, .ref a_awayIn, .ref a_now, .ref a_then, .long v_awayUpper, .long v_lower, .ref a_comers, .int v_comerMany, .ref a_seen, .ref a_seenMany, .int v_seenRows, .ref a_kept, .ref a_isKept, .int v_place, .int v_isWriting])), (a_far, eI cI 144 v_far), (a_pairSets, eI cI 66 o.2)] H → va_S A s.heap H locs → lv_has ls 4 [(0, .ref a_t), (1, .int o.1), (2, .int y2_4)] → W p l e { frames := 3, cells := 0, slots := 0, locals := 71 } s m args below meth c H locs 0 0 Q (F0 m 60 ls [])) → W p l e { frames := 3, cells := 0, slots := 0, locals := 71 } s m args below meth c H locs 0 0 Q (F0 m 16 ls []) := by
          intro n
          induction n with
          | zero => intro y1_16 y3_16 z_pairSets_16 o H locs ls hf; exact (ob_n hf).elim
          | succ n ih =>
            intro y1_16 y3_16 z_pairSets_16 o H locs ls hf hP hS hl kk
            rw [f_X11_mostPairs_16_s] at hf
            refine lv_iload_n hx hb dX11_mostPairs_16 rfl (lv_at hl 3 rfl) ?_
            refine lv_aload_n hx hb dX11_mostPairs_17 rfl (lv_at hl 0 rfl) ?_
            refine gf_X11_63 Cx hP 0 rfl rfl dX11_mostPairs_18 ?_
            refine lv_icmp_ge (tgt := 60) hx hb dX11_mostPairs_21 (by decide) (fun c4 => ?_) (fun c4 => ?_)
            · have hf := ob_t c4 hf
              obtain rfl := Option.some.inj hf
              exact kk _ _ _ hP hS (lv_sub hl [0, 1, 2] rfl)
            · have hf := ob_f c4 hf
              refine lv_aload_n hx hb dX11_mostPairs_24 rfl (lv_at hl 0 rfl) ?_
              refine gf_X11_19 Cx hP 0 rfl rfl dX11_mostPairs_25 ?_
              refine lv_iload_n hx hb dX11_mostPairs_28 rfl (lv_at hl 2 rfl) ?_
              refine lv_iload_n hx hb dX11_mostPairs_29 rfl (lv_at hl 3 rfl) ?_
              obtain ⟨u5, hu5, hf⟩ := ob_b hf
              refine iv_X11_92 (As := [.int y2_4, .int y3_16]) (rest := [.ref a_far]) (is := []) (X' := [(a_t, .inr (11, [.ref a_signs, .int v_signMany, .int v_seats, .ref a_links, .ref a_worths, .int v_bearIs, .ref a_far, .ref a_mays, .ref a_rowsTo, .ref a_endIn, .long v_rowsAll, .ref a_ends, .ref a_pairSets, .ref a_awayIn, .ref a_now, .ref a_then, .long v_awayUpper, .long v_lower, .ref a_comers, .int v_comerMany, .ref a_seen, .ref a_seenMany, .int v_seenRows, .ref a_kept, .ref a_isKept, .int v_place, .int v_isWriting])), (a_far, eI cI 144 v_far), (a_pairSets, eI cI 66 z_pairSets_16)]) Cx (c_X11_at l D cI cJ cZ cO  y2_4 y3_16 u5 hu5) hP hS rfl rfl rfl rfl rfl rfl hl.1 (Nat.le_of_ble_eq_true rfl) dX11_mostPairs_30 rfl rfl ⟨Nat.le_of_ble_eq_true rfl, Nat.le_of_ble_eq_true rfl⟩ ⟨Nat.zero_le _, Nat.zero_le _⟩ rfl (fun H locs hP hS => ?_)
              obtain ⟨u6, hu6, hf⟩ := ob_b hf
              refine ba_iald Cx hP 1 rfl hu6 dX11_mostPairs_33 ?_
              refine lv_iconst (v := 1) hx hb dX11_mostPairs_34 (by decide) ?_
              refine ob_J (P := fun w7 => ∀ (H : Heap) (locs : List Loc) (ls : Array Slot), va_P D vwCl [(a_t, .inr (11, [.ref a_signs, .int v_signMany, .int v_seats, .ref a_links, .ref a_worths, .int v_bearIs, .ref a_far, .ref a_mays, .ref a_rowsTo, .ref a_endIn, .long v_rowsAll, .ref a_ends, .ref a_pairSets, .ref a_awayIn, .ref a_now, .ref a_then, .long v_awayUpper, .long v_lower, .ref a_comers, .int v_comerMany, .ref a_seen, .ref a_seenMany, .int v_seenRows, .ref a_kept, .ref a_isKept, .int v_place, .int v_isWriting])), (a_far, eI cI 144 v_far), (a_pairSets, eI cI 66 w7.2)] H → va_S A s.heap H locs → lv_has ls 4 [(0, .ref a_t), (1, .int w7.1), (2, .int y2_4), (3, .int y3_16)] → W p l e { frames := 3, cells := 0, slots := 0, locals := 71 } s m args below meth c H locs 0 0 Q (F0 m 54 ls [])) hf ?_ ?_
              · intro w7 hf H locs ls hP hS hl
                refine lv_iinc (v := (y3_16 + 1)) (lv' := [(3, .int (y3_16 + 1)), (0, .ref a_t), (1, .int w7.1), (2, .int y2_4)]) hx hb dX11_mostPairs_54 hl (k := 3) rfl rfl (by decide) rfl (fun ls hl => ?_)
                refine lv_goto (tgt := 16) hx hb dX11_mostPairs_57 (by decide) ?_
                exact ih w7.1 (y3_16 + 1) w7.2 _ _ _ _ hf hP hS (lv_sub hl [1, 2, 3, 0] rfl) kk
              · intro J54_8 hf
                refine lv_icmp_ne (tgt := 54) hx hb dX11_mostPairs_35 (by decide) (fun c9 => ?_) (fun c9 => ?_)
                · have hf := ob_fk c9 hf
                  exact J54_8 (y1_16, z_pairSets_16) hf _ _ _ hP hS (lv_sub hl [0, 1, 2, 3] rfl)
                · have hf := ob_tk c9 hf
                  refine lv_aload_n hx hb dX11_mostPairs_38 rfl (lv_at hl 0 rfl) ?_
                  refine gf_X11_35 Cx hP 0 rfl rfl dX11_mostPairs_39 ?_
                  refine lv_iload_n hx hb dX11_mostPairs_42 rfl (lv_at hl 1 rfl) ?_
                  refine lv_iconst (v := 1) hx hb dX11_mostPairs_43 (by decide) ?_
                  refine lv_iload_n hx hb dX11_mostPairs_44 rfl (lv_at hl 2 rfl) ?_
                  refine lv_ishl hx hb dX11_mostPairs_45 ?_
                  refine lv_iconst (v := 1) hx hb dX11_mostPairs_46 (by decide) ?_
                  refine lv_iload_n hx hb dX11_mostPairs_47 rfl (lv_at hl 3 rfl) ?_
                  refine lv_ishl hx hb dX11_mostPairs_48 ?_
                  refine lv_ior hx hb dX11_mostPairs_49 ?_
                  obtain ⟨u10, hu10, hf⟩ := ob_bk hf
                  refine ba_iast (X' := [(a_t, .inr (11, [.ref a_signs, .int v_signMany, .int v_seats, .ref a_links, .ref a_worths, .int v_bearIs, .ref a_far, .ref a_mays, .ref a_rowsTo, .ref a_endIn, .long v_rowsAll, .ref a_ends, .ref a_pairSets, .ref a_awayIn, .ref a_now, .ref a_then, .long v_awayUpper, .long v_lower, .ref a_comers, .int v_comerMany, .ref a_seen, .ref a_seenMany, .int v_seenRows, .ref a_kept, .ref a_isKept, .int v_place, .int v_isWriting])), (a_far, eI cI 144 v_far), (a_pairSets, eI cI 66 u10)]) Cx hP hS rfl 2 rfl rfl hu10 dX11_mostPairs_50 (fun H locs hP hS => ?_)
                  refine lv_iinc (v := (y1_16 + 1)) (lv' := [(1, .int (y1_16 + 1)), (0, .ref a_t), (2, .int y2_4), (3, .int y3_16)]) hx hb dX11_mostPairs_51 hl (k := 1) rfl rfl (by decide) rfl (fun ls hl => ?_)
                  exact J54_8 ((y1_16 + 1), u10) hf _ _ _ hP hS (lv_sub hl [1, 0, 2, 3] rfl)
        obtain ⟨u11, hu11, hf⟩ := ob_b hf
        refine L16_3 FU y1_4 (y2_4 + (1 : Int32)) z_pairSets_4 u11 _ _ _ hu11 hP hS (lv_sub hl [1, 2, 3, 0] rfl) ?_
        intro H locs ls hP hS hl
        refine lv_iinc (v := (y2_4 + 1)) (lv' := [(2, .int (y2_4 + 1)), (0, .ref a_t), (1, .int u11.1)]) hx hb dX11_mostPairs_60 hl (k := 2) rfl rfl (by decide) rfl (fun ls hl => ?_)
        refine lv_goto (tgt := 4) hx hb dX11_mostPairs_63 (by decide) ?_
        exact ih u11.1 (y2_4 + 1) u11.2 _ _ _ _ hf hP hS (lv_sub hl [1, 2, 0] rfl) kk
  obtain ⟨u12, hu12, hf⟩ := ob_b hf
  refine L4_1 FU (0 : Int32) (0 : Int32) v_pairSets u12 _ _ _ hu12 hP hS (lv_sub hl [2, 1, 0] rfl) ?_
  intro H locs ls hP hS hl
  refine lv_iconst (v := 0) hx hb dX11_mostPairs_66 (by decide) ?_
  refine lv_istore_n (lv' := [(2, .int (0 : Int32)), (0, .ref a_t), (1, .int u12.1)]) hx hb dX11_mostPairs_67 rfl hl (by decide) rfl (fun ls hl => ?_)
  refine lv_iconst (v := 0) hx hb dX11_mostPairs_68 (by decide) ?_
  refine lv_istore_n (lv' := [(3, .int (0 : Int32)), (2, .int (0 : Int32)), (0, .ref a_t), (1, .int u12.1)]) hx hb dX11_mostPairs_69 rfl hl (by decide) rfl (fun ls hl => ?_)
  have L70_13 : ∀ (n : Nat) (y2_70 : Int32) (y3_70 : Int32) (o : Int32) (H : Heap) (locs : List Loc) (ls : Array Slot), f_X11_mostPairs_70 v_seats v_bearIs v_far u12 n y2_70 y3_70 = some o → va_P D vwCl [(a_t, .inr (11, [.ref a_signs, .int v_signMany, .int v_seats, .ref a_links, .ref a_worths, .int v_bearIs, .ref a_far, .ref a_mays, .ref a_rowsTo, .ref a_endIn, .long v_rowsAll, .ref a_ends, .ref a_pairSets, .ref a_awayIn, .ref a_now, .ref a_then, .long v_awayUpper, .long v_lower, .ref a_comers, .int v_comerMany, .ref a_seen, .ref a_seenMany, .int v_seenRows, .ref a_kept, .ref a_isKept, .int v_place, .int v_isWriting])), (a_far, eI cI 144 v_far), (a_pairSets, eI cI 66 u12.2)] H → va_S A s.heap H locs → lv_has ls 4 [(0, .ref a_t), (1, .int u12.1), (2, .int y2_70), (3, .int y3_70)] → (∀ (H : Heap) (locs : List Loc) (ls : Array Slot), va_P D vwCl [(a_t, .inr (11, [.ref a_signs, .int v_signMany, .int v_seats, .ref a_links, .ref a_worths, .int v_bearIs, .ref a_far, .ref a_mays, .ref a_rowsTo, .ref a_endIn, .long v_rowsAll, .ref a_ends, .ref a_pairSets, .ref a_awayIn, .ref a_now, .ref a_then, .long v_awayUpper, .long v_lower, .ref a_comers, .int v_comerMany, .ref a_seen, .ref a_seenMany, .int v_seenRows, .ref a_kept, .ref a_isKept, .int v_place, .int v_isWriting])), (a_far, eI cI 144 v_far), (a_pairSets, eI cI 66 u12.2)] H → va_S A s.heap H locs → lv_has ls 4 [(2, .int o)] → W p l e { frames := 3, cells := 0, slots := 0, locals := 71 } s m args below meth c H locs 0 0 Q (F0 m 109 ls [])) → W p l e { frames := 3, cells := 0, slots := 0, locals := 71 } s m args below meth c H locs 0 0 Q (F0 m 70 ls []) := by
    intro n
    induction n with
    | zero => intro y2_70 y3_70 o H locs ls hf; exact (ob_n hf).elim
    | succ n ih =>
      intro y2_70 y3_70 o H locs ls hf hP hS hl kk
      rw [f_X11_mostPairs_70_s] at hf
      refine lv_iload_n hx hb dX11_mostPairs_70 rfl (lv_at hl 3 rfl) ?_
      refine lv_iconst (v := 1) hx hb dX11_mostPairs_71 (by decide) ?_
      refine lv_iload_n hx hb dX11_mostPairs_72 rfl (lv_at hl 1 rfl) ?_
      refine lv_ishl hx hb dX11_mostPairs_73 ?_
      refine lv_icmp_ge (tgt := 109) hx hb dX11_mostPairs_74 (by decide) (fun c14 => ?_) (fun c14 => ?_)
      · have hf := ob_t c14 hf
        obtain rfl := Option.some.inj hf
        exact kk _ _ _ hP hS (lv_sub hl [2] rfl)
      · have hf := ob_f c14 hf
        refine lv_iload_n hx hb dX11_mostPairs_77 rfl (lv_at hl 3 rfl) ?_
        obtain ⟨u15, hu15, hf⟩ := ob_b hf
        refine iv_X11_144 (As := [.int y3_70]) (rest := []) (is := []) (X' := [(a_t, .inr (11, [.ref a_signs, .int v_signMany, .int v_seats, .ref a_links, .ref a_worths, .int v_bearIs, .ref a_far, .ref a_mays, .ref a_rowsTo, .ref a_endIn, .long v_rowsAll, .ref a_ends, .ref a_pairSets, .ref a_awayIn, .ref a_now, .ref a_then, .long v_awayUpper, .long v_lower, .ref a_comers, .int v_comerMany, .ref a_seen, .ref a_seenMany, .int v_seenRows, .ref a_kept, .ref a_isKept, .int v_place, .int v_isWriting])), (a_far, eI cI 144 v_far), (a_pairSets, eI cI 66 u12.2)]) Cx (c_X11_ones l D cI cJ cZ cO  y3_70 u15 hu15) hP hS rfl rfl rfl rfl rfl rfl hl.1 (Nat.le_of_ble_eq_true rfl) dX11_mostPairs_78 rfl rfl ⟨Nat.le_of_ble_eq_true rfl, Nat.le_of_ble_eq_true rfl⟩ ⟨Nat.zero_le _, Nat.zero_le _⟩ rfl (fun H locs hP hS => ?_)
        refine lv_iload_n hx hb dX11_mostPairs_81 rfl (lv_at hl 2 rfl) ?_
        refine ob_J (P := fun w16 => ∀ (H : Heap) (locs : List Loc) (ls : Array Slot), va_P D vwCl [(a_t, .inr (11, [.ref a_signs, .int v_signMany, .int v_seats, .ref a_links, .ref a_worths, .int v_bearIs, .ref a_far, .ref a_mays, .ref a_rowsTo, .ref a_endIn, .long v_rowsAll, .ref a_ends, .ref a_pairSets, .ref a_awayIn, .ref a_now, .ref a_then, .long v_awayUpper, .long v_lower, .ref a_comers, .int v_comerMany, .ref a_seen, .ref a_seenMany, .int v_seenRows, .ref a_kept, .ref a_isKept, .int v_place, .int v_isWriting])), (a_far, eI cI 144 v_far), (a_pairSets, eI cI 66 u12.2)] H → va_S A s.heap H locs → lv_has ls 4 [(0, .ref a_t), (1, .int u12.1), (3, .int y3_70)] → W p l e { frames := 3, cells := 0, slots := 0, locals := 71 } s m args below meth c H locs 0 0 Q (F0 m 102 ls [.int w16])) hf ?_ ?_
        · intro w16 hf H locs ls hP hS hl
          refine lv_istore_n (lv' := [(2, .int w16), (0, .ref a_t), (1, .int u12.1), (3, .int y3_70)]) hx hb dX11_mostPairs_102 rfl hl (by decide) rfl (fun ls hl => ?_)
          refine lv_iinc (v := (y3_70 + 1)) (lv' := [(3, .int (y3_70 + 1)), (2, .int w16), (0, .ref a_t), (1, .int u12.1)]) hx hb dX11_mostPairs_103 hl (k := 3) rfl rfl (by decide) rfl (fun ls hl => ?_)
          refine lv_goto (tgt := 70) hx hb dX11_mostPairs_106 (by decide) ?_
          exact ih w16 (y3_70 + 1) _ _ _ _ hf hP hS (lv_sub hl [2, 3, 1, 0] rfl) kk
        · intro J102_17 hf
          refine lv_icmp_le (tgt := 101) hx hb dX11_mostPairs_82 (by decide) (fun c18 => ?_) (fun c18 => ?_)
          · have hf := ob_tk c18 hf
            refine lv_iload_n hx hb dX11_mostPairs_101 rfl (lv_at hl 2 rfl) ?_
            exact J102_17 y2_70 hf _ _ _ hP hS (lv_sub hl [0, 1, 3] rfl)
          · have hf := ob_fk c18 hf
            refine lv_aload_n hx hb dX11_mostPairs_85 rfl (lv_at hl 0 rfl) ?_
            refine lv_iload_n hx hb dX11_mostPairs_86 rfl (lv_at hl 3 rfl) ?_
            refine lv_iload_n hx hb dX11_mostPairs_87 rfl (lv_at hl 1 rfl) ?_
            obtain ⟨u19, hu19, hf⟩ := ob_bk hf
            refine iv_X11_176 (As := [.int y3_70, .int u12.1]) (rest := []) (is := [0, 2, 1]) (q0 := 0) (X' := [(a_t, .inr (11, [.ref a_signs, .int v_signMany, .int v_seats, .ref a_links, .ref a_worths, .int v_bearIs, .ref a_far, .ref a_mays, .ref a_rowsTo, .ref a_endIn, .long v_rowsAll, .ref a_ends, .ref a_pairSets, .ref a_awayIn, .ref a_now, .ref a_then, .long v_awayUpper, .long v_lower, .ref a_comers, .int v_comerMany, .ref a_seen, .ref a_seenMany, .int v_seenRows, .ref a_kept, .ref a_isKept, .int v_place, .int v_isWriting])), (a_far, eI cI 144 v_far), (a_pairSets, eI cI 66 u12.2)]) Cx (c_X11_areApart l D cI cJ cZ cO a_t a_signs a_links a_worths a_far a_mays a_rowsTo a_endIn a_ends a_pairSets a_awayIn a_now a_then a_comers a_seen a_seenMany a_kept a_isKept v_signMany v_seats v_bearIs v_rowsAll v_awayUpper v_lower v_comerMany v_seenRows v_place v_isWriting u12.2 v_far y3_70 u12.1 u19 hu19) hP hS rfl rfl rfl rfl rfl rfl rfl hl.1 (Nat.le_of_ble_eq_true rfl) dX11_mostPairs_88 rfl rfl ⟨Nat.le_of_ble_eq_true rfl, Nat.le_of_ble_eq_true rfl⟩ ⟨Nat.zero_le _, Nat.zero_le _⟩ rfl (fun H locs hP hS => ?_)
            refine lv_if_eq (tgt := 101) hx hb dX11_mostPairs_91 (by decide) (fun c20 => ?_) (fun c20 => ?_)
            · have hf := ob_tk c20 hf
              refine lv_iload_n hx hb dX11_mostPairs_101 rfl (lv_at hl 2 rfl) ?_
              exact J102_17 y2_70 hf _ _ _ hP hS (lv_sub hl [0, 1, 3] rfl)
            · have hf := ob_fk c20 hf
              refine lv_iload_n hx hb dX11_mostPairs_94 rfl (lv_at hl 3 rfl) ?_
              obtain ⟨u21, hu21, hf⟩ := ob_bk hf
              refine iv_X11_144 (As := [.int y3_70]) (rest := []) (is := []) (X' := [(a_t, .inr (11, [.ref a_signs, .int v_signMany, .int v_seats, .ref a_links, .ref a_worths, .int v_bearIs, .ref a_far, .ref a_mays, .ref a_rowsTo, .ref a_endIn, .long v_rowsAll, .ref a_ends, .ref a_pairSets, .ref a_awayIn, .ref a_now, .ref a_then, .long v_awayUpper, .long v_lower, .ref a_comers, .int v_comerMany, .ref a_seen, .ref a_seenMany, .int v_seenRows, .ref a_kept, .ref a_isKept, .int v_place, .int v_isWriting])), (a_far, eI cI 144 v_far), (a_pairSets, eI cI 66 u12.2)]) Cx (c_X11_ones l D cI cJ cZ cO  y3_70 u21 hu21) hP hS rfl rfl rfl rfl rfl rfl hl.1 (Nat.le_of_ble_eq_true rfl) dX11_mostPairs_95 rfl rfl ⟨Nat.le_of_ble_eq_true rfl, Nat.le_of_ble_eq_true rfl⟩ ⟨Nat.zero_le _, Nat.zero_le _⟩ rfl (fun H locs hP hS => ?_)
              refine lv_goto (tgt := 102) hx hb dX11_mostPairs_98 (by decide) ?_
              exact J102_17 u21 hf _ _ _ hP hS (lv_sub hl [0, 1, 3] rfl)
  obtain ⟨u22, hu22, hf⟩ := ob_b hf
  refine L70_13 FU (0 : Int32) (0 : Int32) u22 _ _ _ hu22 hP hS (lv_sub hl [2, 3, 1, 0] rfl) ?_
  intro H locs ls hP hS hl
  refine lv_iload_n hx hb dX11_mostPairs_109 rfl (lv_at hl 0 rfl) ?_
  obtain rfl := Option.some.inj hf
  exact ret _ _ _ _ dX11_mostPairs_110 hP hS

def f_X11_pairs (v_seats : Int32) (v_bearIs : Int32) (v_far : Nat → Int32) (v_pairSets : Nat → Int32) (x1 : Int32) : Option (Int32 × (Nat → Int32)) :=
  (f_X11_in ((x1).toInt64) (0 : Int64) (1 : Int64)).bind (fun u1 =>
  if u1 = 0 then
  some ((-2 : Int32), v_pairSets)
  else
  (if x1 = 0 then
  (f_X11_pairsInTurn v_seats v_bearIs v_far).bind (fun u7 =>
  some (u7, v_pairSets))
  else
  (f_X11_mostPairs v_seats v_bearIs v_far v_pairSets).bind (fun u6 =>
  some (u6.1, u6.2))).bind (fun w3 =>
  some (w3.1, w3.2)))
set_option maxHeartbeats 4000000 in
set_option maxRecDepth 100000 in
theorem c_X11_pairs (l : Launch) (D : va_G) (cI cJ cZ cO : ClassId) (a_t a_signs a_links a_worths a_far a_mays a_rowsTo a_endIn a_ends a_pairSets a_awayIn a_now a_then a_comers a_seen a_seenMany a_kept a_isKept : Nat) (v_signMany : Int32) (v_seats : Int32) (v_bearIs : Int32) (v_rowsAll : Int64) (v_awayUpper : Int64) (v_lower : Int64) (v_comerMany : Int32) (v_seenRows : Int32) (v_place : Int32) (v_isWriting : Int32) (v_far : Nat → Int32) (v_pairSets : Nat → Int32) (x1 : Int32) (out : Int32 × (Nat → Int32)) (hf : f_X11_pairs v_seats v_bearIs v_far v_pairSets x1 = some out) : MetR l yX11_pairs (Cond.code yX11_pairs cX11_pairs 2 (some .int) :: tbG) { frames := 4, cells := 0, slots := 0, locals := 94 } D (tyL cI cJ cZ cO) [.ref a_t, .int x1] [(a_t, .inr (11, [.ref a_signs, .int v_signMany, .int v_seats, .ref a_links, .ref a_worths, .int v_bearIs, .ref a_far, .ref a_mays, .ref a_rowsTo, .ref a_endIn, .long v_rowsAll, .ref a_ends, .ref a_pairSets, .ref a_awayIn, .ref a_now, .ref a_then, .long v_awayUpper, .long v_lower, .ref a_comers, .int v_comerMany, .ref a_seen, .ref a_seenMany, .int v_seenRows, .ref a_kept, .ref a_isKept, .int v_place, .int v_isWriting])), (a_far, eI cI 144 v_far), (a_pairSets, eI cI 66 v_pairSets)] (some (.int out.1)) [(a_t, .inr (11, [.ref a_signs, .int v_signMany, .int v_seats, .ref a_links, .ref a_worths, .int v_bearIs, .ref a_far, .ref a_mays, .ref a_rowsTo, .ref a_endIn, .long v_rowsAll, .ref a_ends, .ref a_pairSets, .ref a_awayIn, .ref a_now, .ref a_then, .long v_awayUpper, .long v_lower, .ref a_comers, .int v_comerMany, .ref a_seen, .ref a_seenMany, .int v_seenRows, .ref a_kept, .ref a_isKept, .int v_place, .int v_isWriting])), (a_far, eI cI 144 v_far), (a_pairSets, eI cI 66 out.2)] := by
  refine ba_ofI RX11 [(0, .ref a_t), (1, .int x1)] (by decide +kernel) rfl (Nat.le_of_ble_eq_true rfl) rfl ?_
  intro p e s m args below meth c Q A Cx hP ret ls hl
  obtain ⟨⟨hx, hb, hml, hown, hts⟩, hK, hD, hA⟩ := id Cx
  have hS : va_S A s.heap s.heap [] := va_S.rf
  unfold f_X11_pairs at hf
  refine lv_iload_n hx hb dX11_pairs_0 rfl (lv_at hl 1 rfl) ?_
  refine lv_i2l (v := (x1).toInt64) hx hb dX11_pairs_1 rfl ?_
  refine lv_lconst (v := 0) hx hb dX11_pairs_2 (by decide) ?_
  refine lv_lconst (v := 1) hx hb dX11_pairs_3 (by decide) ?_
  obtain ⟨u1, hu1, hf⟩ := ob_b hf
  refine iv_X11_74 (As := [.long ((x1).toInt64), .long (0 : Int64), .long (1 : Int64)]) (rest := []) (is := []) (X' := [(a_t, .inr (11, [.ref a_signs, .int v_signMany, .int v_seats, .ref a_links, .ref a_worths, .int v_bearIs, .ref a_far, .ref a_mays, .ref a_rowsTo, .ref a_endIn, .long v_rowsAll, .ref a_ends, .ref a_pairSets, .ref a_awayIn, .ref a_now, .ref a_then, .long v_awayUpper, .long v_lower, .ref a_comers, .int v_comerMany, .ref a_seen, .ref a_seenMany, .int v_seenRows, .ref a_kept, .ref a_isKept, .int v_place, .int v_isWriting])), (a_far, eI cI 144 v_far), (a_pairSets, eI cI 66 v_pairSets)]) Cx (c_X11_in l D cI cJ cZ cO  ((x1).toInt64) (0 : Int64) (1 : Int64) u1 hu1) hP hS rfl rfl rfl rfl rfl rfl hl.1 (Nat.le_of_ble_eq_true rfl) dX11_pairs_4 rfl rfl ⟨Nat.le_of_ble_eq_true rfl, Nat.le_of_ble_eq_true rfl⟩ ⟨Nat.zero_le _, Nat.zero_le _⟩ rfl (fun H locs hP hS => ?_)
  refine lv_if_ne (tgt := 13) hx hb dX11_pairs_7 (by decide) (fun c2 => ?_) (fun c2 => ?_)
  · have hf := ob_f c2 hf
    refine lv_iload_n hx hb dX11_pairs_13 rfl (lv_at hl 1 rfl) ?_
    refine ob_J (P := fun w3 => ∀ (H : Heap) (locs : List Loc) (ls : Array Slot), va_P D vwCl [(a_t, .inr (11, [.ref a_signs, .int v_signMany, .int v_seats, .ref a_links, .ref a_worths, .int v_bearIs, .ref a_far, .ref a_mays, .ref a_rowsTo, .ref a_endIn, .long v_rowsAll, .ref a_ends, .ref a_pairSets, .ref a_awayIn, .ref a_now, .ref a_then, .long v_awayUpper, .long v_lower, .ref a_comers, .int v_comerMany, .ref a_seen, .ref a_seenMany, .int v_seenRows, .ref a_kept, .ref a_isKept, .int v_place, .int v_isWriting])), (a_far, eI cI 144 v_far), (a_pairSets, eI cI 66 w3.2)] H → va_S A s.heap H locs → lv_has ls 2 [] → W p l e { frames := 4, cells := 0, slots := 0, locals := 94 } s m args below meth c H locs 0 0 Q (F0 m 28 ls [.int w3.1])) hf ?_ ?_
    · intro w3 hf H locs ls hP hS hl
      obtain rfl := Option.some.inj hf
      exact ret _ _ _ _ dX11_pairs_28 hP hS
    · intro J28_4 hf
      refine lv_if_ne (tgt := 24) hx hb dX11_pairs_14 (by decide) (fun c5 => ?_) (fun c5 => ?_)
      · have hf := ob_fk c5 hf
        refine lv_aload_n hx hb dX11_pairs_24 rfl (lv_at hl 0 rfl) ?_
        obtain ⟨u6, hu6, hf⟩ := ob_bk hf
        refine iv_X11_183 (As := []) (rest := []) (is := [0, 1, 2]) (q0 := 0) (X' := [(a_t, .inr (11, [.ref a_signs, .int v_signMany, .int v_seats, .ref a_links, .ref a_worths, .int v_bearIs, .ref a_far, .ref a_mays, .ref a_rowsTo, .ref a_endIn, .long v_rowsAll, .ref a_ends, .ref a_pairSets, .ref a_awayIn, .ref a_now, .ref a_then, .long v_awayUpper, .long v_lower, .ref a_comers, .int v_comerMany, .ref a_seen, .ref a_seenMany, .int v_seenRows, .ref a_kept, .ref a_isKept, .int v_place, .int v_isWriting])), (a_far, eI cI 144 v_far), (a_pairSets, eI cI 66 u6.2)]) Cx (c_X11_mostPairs l D cI cJ cZ cO a_t a_signs a_links a_worths a_far a_mays a_rowsTo a_endIn a_ends a_pairSets a_awayIn a_now a_then a_comers a_seen a_seenMany a_kept a_isKept v_signMany v_seats v_bearIs v_rowsAll v_awayUpper v_lower v_comerMany v_seenRows v_place v_isWriting v_far v_pairSets u6 hu6) hP hS rfl rfl rfl rfl rfl rfl rfl hl.1 (Nat.le_of_ble_eq_true rfl) dX11_pairs_25 rfl rfl ⟨Nat.le_of_ble_eq_true rfl, Nat.le_of_ble_eq_true rfl⟩ ⟨Nat.zero_le _, Nat.zero_le _⟩ rfl (fun H locs hP hS => ?_)
        exact J28_4 (u6.1, u6.2) hf _ _ _ hP hS (lv_sub hl [] rfl)
      · have hf := ob_tk c5 hf
        refine lv_aload_n hx hb dX11_pairs_17 rfl (lv_at hl 0 rfl) ?_
        obtain ⟨u7, hu7, hf⟩ := ob_bk hf
        refine iv_X11_180 (As := []) (rest := []) (is := [0, 1]) (q0 := 0) (X' := [(a_t, .inr (11, [.ref a_signs, .int v_signMany, .int v_seats, .ref a_links, .ref a_worths, .int v_bearIs, .ref a_far, .ref a_mays, .ref a_rowsTo, .ref a_endIn, .long v_rowsAll, .ref a_ends, .ref a_pairSets, .ref a_awayIn, .ref a_now, .ref a_then, .long v_awayUpper, .long v_lower, .ref a_comers, .int v_comerMany, .ref a_seen, .ref a_seenMany, .int v_seenRows, .ref a_kept, .ref a_isKept, .int v_place, .int v_isWriting])), (a_far, eI cI 144 v_far), (a_pairSets, eI cI 66 v_pairSets)]) Cx (c_X11_pairsInTurn l D cI cJ cZ cO a_t a_signs a_links a_worths a_far a_mays a_rowsTo a_endIn a_ends a_pairSets a_awayIn a_now a_then a_comers a_seen a_seenMany a_kept a_isKept v_signMany v_seats v_bearIs v_rowsAll v_awayUpper v_lower v_comerMany v_seenRows v_place v_isWriting v_far u7 hu7) hP hS rfl rfl rfl rfl rfl rfl rfl hl.1 (Nat.le_of_ble_eq_true rfl) dX11_pairs_18 rfl rfl ⟨Nat.le_of_ble_eq_true rfl, Nat.le_of_ble_eq_true rfl⟩ ⟨Nat.zero_le _, Nat.zero_le _⟩ rfl (fun H locs hP hS => ?_)
        refine lv_goto (tgt := 28) hx hb dX11_pairs_21 (by decide) ?_
        exact J28_4 (u7, v_pairSets) hf _ _ _ hP hS (lv_sub hl [] rfl)
  · have hf := ob_t c2 hf
    refine lv_bipush (v := (-2)) hx hb dX11_pairs_10 (by decide) ?_
    obtain rfl := Option.some.inj hf
    exact ret _ _ _ _ dX11_pairs_12 hP hS

def f_X11_late_32 (v_seats : Int32) (v_far : Nat → Int32) (v_worths : Nat → Int32) (x1 : Int32) (x2 : Int32) : Nat → Int32 → Int32 → Option (Int32 × Int32)
  | 0, _, _ => none
  | n + 1, y4_32, z_bearIs_32 =>
  if z_bearIs_32 < x2 then
  some (y4_32, z_bearIs_32)
  else
  (f_X11_filledBy v_seats z_bearIs_32 v_far v_worths y4_32 x1).bind (fun u7 =>
  f_X11_late_32 v_seats v_far v_worths x1 x2 n u7 (z_bearIs_32 - (1 : Int32)))
theorem f_X11_late_32_s (v_seats : Int32) (v_far : Nat → Int32) (v_worths : Nat → Int32) (x1 : Int32) (x2 : Int32) (n : Nat) (y4_32 : Int32) (z_bearIs_32 : Int32) : f_X11_late_32 v_seats v_far v_worths x1 x2 (n + 1) y4_32 z_bearIs_32 =
  (if z_bearIs_32 < x2 then
  some (y4_32, z_bearIs_32)
  else
  (f_X11_filledBy v_seats z_bearIs_32 v_far v_worths y4_32 x1).bind (fun u7 =>
  f_X11_late_32 v_seats v_far v_worths x1 x2 n u7 (z_bearIs_32 - (1 : Int32)))) := rfl
def f_X11_late (v_seats : Int32) (v_bearIs : Int32) (v_far : Nat → Int32) (v_worths : Nat → Int32) (x1 : Int32) (x2 : Int32) : Option (Int32 × Int32) :=
  (f_X11_isHabit x1).bind (fun u1 =>
  if u1 = 0 then
  some ((-2 : Int32), v_bearIs)
  else
  (f_X11_in ((x2).toInt64) (1 : Int64) ((v_bearIs).toInt64)).bind (fun u3 =>
  if u3 = 0 then
  some ((-2 : Int32), v_bearIs)
  else
  (f_X11_late_32 v_seats v_far v_worths x1 x2 FU (0 : Int32) v_bearIs).bind (fun u8 =>
  (f_X11_ones u8.1).bind (fun u9 =>
  some (u9, v_bearIs)))))
set_option maxHeartbeats 4000000 in
set_option maxRecDepth 100000 in
theorem c_X11_late (l : Launch) (D : va_G) (cI cJ cZ cO : ClassId) (a_t a_signs a_links a_worths a_far a_mays a_rowsTo a_endIn a_ends a_pairSets a_awayIn a_now a_then a_comers a_seen a_seenMany a_kept a_isKept : Nat) (v_signMany : Int32) (v_seats : Int32) (v_bearIs : Int32) (v_rowsAll : Int64) (v_awayUpper : Int64) (v_lower : Int64) (v_comerMany : Int32) (v_seenRows : Int32) (v_place : Int32) (v_isWriting : Int32) (v_far : Nat → Int32) (v_worths : Nat → Int32) (x1 : Int32) (x2 : Int32) (out : Int32 × Int32) (hf : f_X11_late v_seats v_bearIs v_far v_worths x1 x2 = some out) : MetR l yX11_late (Cond.code yX11_late cX11_late 5 (some .int) :: tbG) { frames := 5, cells := 0, slots := 0, locals := 120 } D (tyL cI cJ cZ cO) [.ref a_t, .int x1, .int x2] [(a_t, .inr (11, [.ref a_signs, .int v_signMany, .int v_seats, .ref a_links, .ref a_worths, .int v_bearIs, .ref a_far, .ref a_mays, .ref a_rowsTo, .ref a_endIn, .long v_rowsAll, .ref a_ends, .ref a_pairSets, .ref a_awayIn, .ref a_now, .ref a_then, .long v_awayUpper, .long v_lower, .ref a_comers, .int v_comerMany, .ref a_seen, .ref a_seenMany, .int v_seenRows, .ref a_kept, .ref a_isKept, .int v_place, .int v_isWriting])), (a_far, eI cI 144 v_far), (a_worths, eI cI 12 v_worths)] (some (.int out.1)) [(a_t, .inr (11, [.ref a_signs, .int v_signMany, .int v_seats, .ref a_links, .ref a_worths, .int out.2, .ref a_far, .ref a_mays, .ref a_rowsTo, .ref a_endIn, .long v_rowsAll, .ref a_ends, .ref a_pairSets, .ref a_awayIn, .ref a_now, .ref a_then, .long v_awayUpper, .long v_lower, .ref a_comers, .int v_comerMany, .ref a_seen, .ref a_seenMany, .int v_seenRows, .ref a_kept, .ref a_isKept, .int v_place, .int v_isWriting])), (a_far, eI cI 144 v_far), (a_worths, eI cI 12 v_worths)] := by
  refine ba_ofI RX11 [(0, .ref a_t), (1, .int x1), (2, .int x2)] (by decide +kernel) rfl (Nat.le_of_ble_eq_true rfl) rfl ?_
  intro p e s m args below meth c Q A Cx hP ret ls hl
  obtain ⟨⟨hx, hb, hml, hown, hts⟩, hK, hD, hA⟩ := id Cx
  have hS : va_S A s.heap s.heap [] := va_S.rf
  unfold f_X11_late at hf
  refine lv_iload_n hx hb dX11_late_0 rfl (lv_at hl 1 rfl) ?_
  obtain ⟨u1, hu1, hf⟩ := ob_b hf
  refine iv_X11_133 (As := [.int x1]) (rest := []) (is := []) (X' := [(a_t, .inr (11, [.ref a_signs, .int v_signMany, .int v_seats, .ref a_links, .ref a_worths, .int v_bearIs, .ref a_far, .ref a_mays, .ref a_rowsTo, .ref a_endIn, .long v_rowsAll, .ref a_ends, .ref a_pairSets, .ref a_awayIn, .ref a_now, .ref a_then, .long v_awayUpper, .long v_lower, .ref a_comers, .int v_comerMany, .ref a_seen, .ref a_seenMany, .int v_seenRows, .ref a_kept, .ref a_isKept, .int v_place, .int v_isWriting])), (a_far, eI cI 144 v_far), (a_worths, eI cI 12 v_worths)]) Cx (c_X11_isHabit l D cI cJ cZ cO  x1 u1 hu1) hP hS rfl rfl rfl rfl rfl rfl hl.1 (Nat.le_of_ble_eq_true rfl) dX11_late_1 rfl rfl ⟨Nat.le_of_ble_eq_true rfl, Nat.le_of_ble_eq_true rfl⟩ ⟨Nat.zero_le _, Nat.zero_le _⟩ rfl (fun H locs hP hS => ?_)
  refine lv_if_eq (tgt := 21) hx hb dX11_late_4 (by decide) (fun c2 => ?_) (fun c2 => ?_)
  · have hf := ob_t c2 hf
    refine lv_bipush (v := (-2)) hx hb dX11_late_21 (by decide) ?_
    obtain rfl := Option.some.inj hf
    exact ret _ _ _ _ dX11_late_23 hP hS
  · have hf := ob_f c2 hf
    refine lv_iload_n hx hb dX11_late_7 rfl (lv_at hl 2 rfl) ?_
    refine lv_i2l (v := (x2).toInt64) hx hb dX11_late_8 rfl ?_
    refine lv_lconst (v := 1) hx hb dX11_late_9 (by decide) ?_
    refine lv_aload_n hx hb dX11_late_10 rfl (lv_at hl 0 rfl) ?_
    refine gf_X11_67 Cx hP 0 rfl rfl dX11_late_11 ?_
    refine lv_i2l (v := (v_bearIs).toInt64) hx hb dX11_late_14 rfl ?_
    obtain ⟨u3, hu3, hf⟩ := ob_b hf
    refine iv_X11_74 (As := [.long ((x2).toInt64), .long (1 : Int64), .long ((v_bearIs).toInt64)]) (rest := []) (is := []) (X' := [(a_t, .inr (11, [.ref a_signs, .int v_signMany, .int v_seats, .ref a_links, .ref a_worths, .int v_bearIs, .ref a_far, .ref a_mays, .ref a_rowsTo, .ref a_endIn, .long v_rowsAll, .ref a_ends, .ref a_pairSets, .ref a_awayIn, .ref a_now, .ref a_then, .long v_awayUpper, .long v_lower, .ref a_comers, .int v_comerMany, .ref a_seen, .ref a_seenMany, .int v_seenRows, .ref a_kept, .ref a_isKept, .int v_place, .int v_isWriting])), (a_far, eI cI 144 v_far), (a_worths, eI cI 12 v_worths)]) Cx (c_X11_in l D cI cJ cZ cO  ((x2).toInt64) (1 : Int64) ((v_bearIs).toInt64) u3 hu3) hP hS rfl rfl rfl rfl rfl rfl hl.1 (Nat.le_of_ble_eq_true rfl) dX11_late_15 rfl rfl ⟨Nat.le_of_ble_eq_true rfl, Nat.le_of_ble_eq_true rfl⟩ ⟨Nat.zero_le _, Nat.zero_le _⟩ rfl (fun H locs hP hS => ?_)
    refine lv_if_ne (tgt := 24) hx hb dX11_late_18 (by decide) (fun c4 => ?_) (fun c4 => ?_)
    · have hf := ob_f c4 hf
      refine lv_aload_n hx hb dX11_late_24 rfl (lv_at hl 0 rfl) ?_
      refine gf_X11_67 Cx hP 0 rfl rfl dX11_late_25 ?_
      refine lv_istore_n (lv' := [(3, .int v_bearIs), (0, .ref a_t), (1, .int x1), (2, .int x2)]) hx hb dX11_late_28 rfl hl (by decide) rfl (fun ls hl => ?_)
      refine lv_iconst (v := 0) hx hb dX11_late_29 (by decide) ?_
      refine lv_istore (lv' := [(4, .int (0 : Int32)), (3, .int v_bearIs), (0, .ref a_t), (1, .int x1), (2, .int x2)]) hx hb dX11_late_30 hl (by decide) rfl (fun ls hl => ?_)
      have L32_5 : ∀ (n : Nat) (y4_32 : Int32) (z_bearIs_32 : Int32) (o : Int32 × Int32) (H : Heap) (locs : List Loc) (ls : Array Slot), f_X11_late_32 v_seats v_far v_worths x1 x2 n y4_32 z_bearIs_32 = some o → va_P D vwCl [(a_t, .inr (11, [.ref a_signs, .int v_signMany, .int v_seats, .ref a_links, .ref a_worths, .int z_bearIs_32, .ref a_far, .ref a_mays, .ref a_rowsTo, .ref a_endIn, .long v_rowsAll, .ref a_ends, .ref a_pairSets, .ref a_awayIn, .ref a_now, .ref a_then, .long v_awayUpper, .long v_lower, .ref a_comers, .int v_comerMany, .ref a_seen, .ref a_seenMany, .int v_seenRows, .ref a_kept, .ref a_isKept, .int v_place, .int v_isWriting])), (a_far, eI cI 144 v_far), (a_worths, eI cI 12 v_worths)] H → va_S A s.heap H locs → lv_has ls 5 [(0, .ref a_t), (1, .int x1), (2, .int x2), (3, .int v_bearIs), (4, .int y4_32)] → (∀ (H : Heap) (locs : List Loc) (ls : Array Slot), va_P D vwCl [(a_t, .inr (11, [.ref a_signs, .int v_signMany, .int v_seats, .ref a_links, .ref a_worths, .int o.2, .ref a_far, .ref a_mays, .ref a_rowsTo, .ref a_endIn, .long v_rowsAll, .ref a_ends, .ref a_pairSets, .ref a_awayIn, .ref a_now, .ref a_then, .long v_awayUpper, .long v_lower, .ref a_comers, .int v_comerMany, .ref a_seen, .ref a_seenMany, .int v_seenRows, .ref a_kept, .ref a_isKept, .int v_place, .int v_isWriting])), (a_far, eI cI 144 v_far), (a_worths, eI cI 12 v_worths)] H → va_S A s.heap H locs → lv_has ls 5 [(0, .ref a_t), (3, .int v_bearIs), (4, .int o.1)] → W p l e { frames := 5, cells := 0, slots := 0, locals := 120 } s m args below meth c H locs 0 0 Q (F0 m 62 ls [])) → W p l e { frames := 5, cells := 0, slots := 0, locals := 120 } s m args below meth c H locs 0 0 Q (F0 m 32 ls []) := by
        intro n
        induction n with
        | zero => intro y4_32 z_bearIs_32 o H locs ls hf; exact (ob_n hf).elim
        | succ n ih =>
          intro y4_32 z_bearIs_32 o H locs ls hf hP hS hl kk
          rw [f_X11_late_32_s] at hf
          refine lv_aload_n hx hb dX11_late_32 rfl (lv_at hl 0 rfl) ?_
          refine gf_X11_67 Cx hP 0 rfl rfl dX11_late_33 ?_
          refine lv_iload_n hx hb dX11_late_36 rfl (lv_at hl 2 rfl) ?_
          refine lv_icmp_lt (tgt := 62) hx hb dX11_late_37 (by decide) (fun c6 => ?_) (fun c6 => ?_)
          · have hf := ob_t c6 hf
            obtain rfl := Option.some.inj hf
            exact kk _ _ _ hP hS (lv_sub hl [0, 3, 4] rfl)
          · have hf := ob_f c6 hf
            refine lv_aload_n hx hb dX11_late_40 rfl (lv_at hl 0 rfl) ?_
            refine lv_iload hx hb dX11_late_41 (lv_at hl 4 rfl) ?_
            refine lv_iload_n hx hb dX11_late_43 rfl (lv_at hl 1 rfl) ?_
            obtain ⟨u7, hu7, hf⟩ := ob_b hf
            refine iv_X11_136 (As := [.int y4_32, .int x1]) (rest := []) (is := [0, 1, 2]) (q0 := 0) (X' := [(a_t, .inr (11, [.ref a_signs, .int v_signMany, .int v_seats, .ref a_links, .ref a_worths, .int z_bearIs_32, .ref a_far, .ref a_mays, .ref a_rowsTo, .ref a_endIn, .long v_rowsAll, .ref a_ends, .ref a_pairSets, .ref a_awayIn, .ref a_now, .ref a_then, .long v_awayUpper, .long v_lower, .ref a_comers, .int v_comerMany, .ref a_seen, .ref a_seenMany, .int v_seenRows, .ref a_kept, .ref a_isKept, .int v_place, .int v_isWriting])), (a_far, eI cI 144 v_far), (a_worths, eI cI 12 v_worths)]) Cx (c_X11_filledBy l D cI cJ cZ cO a_t a_signs a_links a_worths a_far a_mays a_rowsTo a_endIn a_ends a_pairSets a_awayIn a_now a_then a_comers a_seen a_seenMany a_kept a_isKept v_signMany v_seats z_bearIs_32 v_rowsAll v_awayUpper v_lower v_comerMany v_seenRows v_place v_isWriting v_far v_worths y4_32 x1 u7 hu7) hP hS rfl rfl rfl rfl rfl rfl rfl hl.1 (Nat.le_of_ble_eq_true rfl) dX11_late_44 rfl rfl ⟨Nat.le_of_ble_eq_true rfl, Nat.le_of_ble_eq_true rfl⟩ ⟨Nat.zero_le _, Nat.zero_le _⟩ rfl (fun H locs hP hS => ?_)
            refine lv_istore (lv' := [(4, .int u7), (0, .ref a_t), (1, .int x1), (2, .int x2), (3, .int v_bearIs)]) hx hb dX11_late_47 hl (by decide) rfl (fun ls hl => ?_)
            refine lv_aload_n hx hb dX11_late_49 rfl (lv_at hl 1 rfl) ?_
            refine lv_dup hx hb dX11_late_50 rfl ?_
            refine gf_X11_67 Cx hP 0 rfl rfl dX11_late_51 ?_
            refine lv_iconst (v := 1) hx hb dX11_late_54 (by decide) ?_
            refine lv_isub hx hb dX11_late_55 ?_
            refine pf_X11_67 (X' := [(a_t, .inr (11, [.ref a_signs, .int v_signMany, .int v_seats, .ref a_links, .ref a_worths, .int (z_bearIs_32 - (1 : Int32)), .ref a_far, .ref a_mays, .ref a_rowsTo, .ref a_endIn, .long v_rowsAll, .ref a_ends, .ref a_pairSets, .ref a_awayIn, .ref a_now, .ref a_then, .long v_awayUpper, .long v_lower, .ref a_comers, .int v_comerMany, .ref a_seen, .ref a_seenMany, .int v_seenRows, .ref a_kept, .ref a_isKept, .int v_place, .int v_isWriting])), (a_far, eI cI 144 v_far), (a_worths, eI cI 12 v_worths)]) Cx hP hS rfl 0 rfl rfl (Nat.le_of_ble_eq_true rfl) dX11_late_56 (fun H locs hP hS => ?_)
            refine lv_goto (tgt := 32) hx hb dX11_late_59 (by decide) ?_
            exact ih u7 (z_bearIs_32 - (1 : Int32)) _ _ _ _ hf hP hS (lv_sub hl [1, 2, 3, 4, 0] rfl) kk
      obtain ⟨u8, hu8, hf⟩ := ob_b hf
      refine L32_5 FU (0 : Int32) v_bearIs u8 _ _ _ hu8 hP hS (lv_sub hl [2, 3, 4, 1, 0] rfl) ?_
      intro H locs ls hP hS hl
      refine lv_aload_n hx hb dX11_late_62 rfl (lv_at hl 0 rfl) ?_
      refine lv_iload_n hx hb dX11_late_63 rfl (lv_at hl 1 rfl) ?_
      refine pf_X11_67 (X' := [(a_t, .inr (11, [.ref a_signs, .int v_signMany, .int v_seats, .ref a_links, .ref a_worths, .int v_bearIs, .ref a_far, .ref a_mays, .ref a_rowsTo, .ref a_endIn, .long v_rowsAll, .ref a_ends, .ref a_pairSets, .ref a_awayIn, .ref a_now, .ref a_then, .long v_awayUpper, .long v_lower, .ref a_comers, .int v_comerMany, .ref a_seen, .ref a_seenMany, .int v_seenRows, .ref a_kept, .ref a_isKept, .int v_place, .int v_isWriting])), (a_far, eI cI 144 v_far), (a_worths, eI cI 12 v_worths)]) Cx hP hS rfl 0 rfl rfl (Nat.le_of_ble_eq_true rfl) dX11_late_64 (fun H locs hP hS => ?_)
      refine lv_iload hx hb dX11_late_67 (lv_at hl 2 rfl) ?_
      obtain ⟨u9, hu9, hf⟩ := ob_b hf
      refine iv_X11_144 (As := [.int u8.1]) (rest := []) (is := []) (X' := [(a_t, .inr (11, [.ref a_signs, .int v_signMany, .int v_seats, .ref a_links, .ref a_worths, .int v_bearIs, .ref a_far, .ref a_mays, .ref a_rowsTo, .ref a_endIn, .long v_rowsAll, .ref a_ends, .ref a_pairSets, .ref a_awayIn, .ref a_now, .ref a_then, .long v_awayUpper, .long v_lower, .ref a_comers, .int v_comerMany, .ref a_seen, .ref a_seenMany, .int v_seenRows, .ref a_kept, .ref a_isKept, .int v_place, .int v_isWriting])), (a_far, eI cI 144 v_far), (a_worths, eI cI 12 v_worths)]) Cx (c_X11_ones l D cI cJ cZ cO  u8.1 u9 hu9) hP hS rfl rfl rfl rfl rfl rfl hl.1 (Nat.le_of_ble_eq_true rfl) dX11_late_69 rfl rfl ⟨Nat.le_of_ble_eq_true rfl, Nat.le_of_ble_eq_true rfl⟩ ⟨Nat.zero_le _, Nat.zero_le _⟩ rfl (fun H locs hP hS => ?_)
      obtain rfl := Option.some.inj hf
      exact ret _ _ _ _ dX11_late_72 hP hS
    · have hf := ob_t c4 hf
      refine lv_bipush (v := (-2)) hx hb dX11_late_21 (by decide) ?_
      obtain rfl := Option.some.inj hf
      exact ret _ _ _ _ dX11_late_23 hP hS

def f_X11_sitIn_2 (x1 : Int32) (x2 : Int32) : Nat → Int32 → (Nat → Int32) → Option ((Nat → Int32))
  | 0, _, _ => none
  | n + 1, y3_2, z_awayIn_2 =>
  if x1 ≤ y3_2 then
  some (z_awayIn_2)
  else
  (if x2 ≤ y3_2 then
  some (y3_2 - x2)
  else
  some (x2 - y3_2)).bind (fun w3 =>
  (aget 200 z_awayIn_2 y3_2).bind (fun u5 =>
  (if u5 ≤ w3 then
  (aget 200 z_awayIn_2 y3_2).bind (fun u10 =>
  some (u10))
  else
  some (w3)).bind (fun w6 =>
  (asetI 200 z_awayIn_2 y3_2 w6).bind (fun u8 =>
  f_X11_sitIn_2 x1 x2 n (y3_2 + 1) u8))))
theorem f_X11_sitIn_2_s (x1 : Int32) (x2 : Int32) (n : Nat) (y3_2 : Int32) (z_awayIn_2 : Nat → Int32) : f_X11_sitIn_2 x1 x2 (n + 1) y3_2 z_awayIn_2 =
  (if x1 ≤ y3_2 then
  some (z_awayIn_2)
  else
  (if x2 ≤ y3_2 then
  some (y3_2 - x2)
  else
  some (x2 - y3_2)).bind (fun w3 =>
  (aget 200 z_awayIn_2 y3_2).bind (fun u5 =>
  (if u5 ≤ w3 then
  (aget 200 z_awayIn_2 y3_2).bind (fun u10 =>
  some (u10))
  else
  some (w3)).bind (fun w6 =>
  (asetI 200 z_awayIn_2 y3_2 w6).bind (fun u8 =>
  f_X11_sitIn_2 x1 x2 n (y3_2 + 1) u8))))) := rfl
def f_X11_sitIn (v_awayIn : Nat → Int32) (x1 : Int32) (x2 : Int32) : Option ((Nat → Int32)) :=
  (f_X11_sitIn_2 x1 x2 FU (0 : Int32) v_awayIn).bind (fun u12 =>
  some (u12))
set_option maxHeartbeats 4000000 in
set_option maxRecDepth 100000 in
theorem c_X11_sitIn (l : Launch) (D : va_G) (cI cJ cZ cO : ClassId) (a_t a_signs a_links a_worths a_far a_mays a_rowsTo a_endIn a_ends a_pairSets a_awayIn a_now a_then a_comers a_seen a_seenMany a_kept a_isKept : Nat) (v_signMany : Int32) (v_seats : Int32) (v_bearIs : Int32) (v_rowsAll : Int64) (v_awayUpper : Int64) (v_lower : Int64) (v_comerMany : Int32) (v_seenRows : Int32) (v_place : Int32) (v_isWriting : Int32) (v_awayIn : Nat → Int32) (x1 : Int32) (x2 : Int32) (out : (Nat → Int32)) (hf : f_X11_sitIn v_awayIn x1 x2 = some out) : MetR l yX11_sitIn (Cond.code yX11_sitIn cX11_sitIn 5 none :: tbG) { frames := 0, cells := 0, slots := 0, locals := 0 } D (tyL cI cJ cZ cO) [.ref a_t, .int x1, .int x2] [(a_t, .inr (11, [.ref a_signs, .int v_signMany, .int v_seats, .ref a_links, .ref a_worths, .int v_bearIs, .ref a_far, .ref a_mays, .ref a_rowsTo, .ref a_endIn, .long v_rowsAll, .ref a_ends, .ref a_pairSets, .ref a_awayIn, .ref a_now, .ref a_then, .long v_awayUpper, .long v_lower, .ref a_comers, .int v_comerMany, .ref a_seen, .ref a_seenMany, .int v_seenRows, .ref a_kept, .ref a_isKept, .int v_place, .int v_isWriting])), (a_awayIn, eI cI 200 v_awayIn)] none [(a_t, .inr (11, [.ref a_signs, .int v_signMany, .int v_seats, .ref a_links, .ref a_worths, .int v_bearIs, .ref a_far, .ref a_mays, .ref a_rowsTo, .ref a_endIn, .long v_rowsAll, .ref a_ends, .ref a_pairSets, .ref a_awayIn, .ref a_now, .ref a_then, .long v_awayUpper, .long v_lower, .ref a_comers, .int v_comerMany, .ref a_seen, .ref a_seenMany, .int v_seenRows, .ref a_kept, .ref a_isKept, .int v_place, .int v_isWriting])), (a_awayIn, eI cI 200 out)] := by
  refine ba_ofV RX11 [(0, .ref a_t), (1, .int x1), (2, .int x2)] (by decide +kernel) rfl (Nat.le_of_ble_eq_true rfl) rfl ?_
  intro p e s m args below meth c Q A Cx hP ret ls hl
  obtain ⟨⟨hx, hb, hml, hown, hts⟩, hK, hD, hA⟩ := id Cx
  have hS : va_S A s.heap s.heap [] := va_S.rf
  unfold f_X11_sitIn at hf
  refine lv_iconst (v := 0) hx hb dX11_sitIn_0 (by decide) ?_
  refine lv_istore_n (lv' := [(3, .int (0 : Int32)), (0, .ref a_t), (1, .int x1), (2, .int x2)]) hx hb dX11_sitIn_1 rfl hl (by decide) rfl (fun ls hl => ?_)
  have L2_1 : ∀ (n : Nat) (y3_2 : Int32) (z_awayIn_2 : Nat → Int32) (o : (Nat → Int32)) (H : Heap) (locs : List Loc) (ls : Array Slot), f_X11_sitIn_2 x1 x2 n y3_2 z_awayIn_2 = some o → va_P D vwCl [(a_t, .inr (11, [.ref a_signs, .int v_signMany, .int v_seats, .ref a_links, .ref a_worths, .int v_bearIs, .ref a_far, .ref a_mays, .ref a_rowsTo, .ref a_endIn, .long v_rowsAll, .ref a_ends, .ref a_pairSets, .ref a_awayIn, .ref a_now, .ref a_then, .long v_awayUpper, .long v_lower, .ref a_comers, .int v_comerMany, .ref a_seen, .ref a_seenMany, .int v_seenRows, .ref a_kept, .ref a_isKept, .int v_place, .int v_isWriting])), (a_awayIn, eI cI 200 z_awayIn_2)] H → va_S A s.heap H locs → lv_has ls 5 [(0, .ref a_t), (1, .int x1), (2, .int x2), (3, .int y3_2)] → (∀ (H : Heap) (locs : List Loc) (ls : Array Slot), va_P D vwCl [(a_t, .inr (11, [.ref a_signs, .int v_signMany, .int v_seats, .ref a_links, .ref a_worths, .int v_bearIs, .ref a_far, .ref a_mays, .ref a_rowsTo, .ref a_endIn, .long v_rowsAll, .ref a_ends, .ref a_pairSets, .ref a_awayIn, .ref a_now, .ref a_then, .long v_awayUpper, .long v_lower, .ref a_comers, .int v_comerMany, .ref a_seen, .ref a_seenMany, .int v_seenRows, .ref a_kept, .ref a_isKept, .int v_place, .int v_isWriting])), (a_awayIn, eI cI 200 o)] H → va_S A s.heap H locs → lv_has ls 5 [] → W p l e { frames := 0, cells := 0, slots := 0, locals := 0 } s m args below meth c H locs 0 0 Q (F0 m 57 ls [])) → W p l e { frames := 0, cells := 0, slots := 0, locals := 0 } s m args below meth c H locs 0 0 Q (F0 m 2 ls []) := by
    intro n
    induction n with
    | zero => intro y3_2 z_awayIn_2 o H locs ls hf; exact (ob_n hf).elim
    | succ n ih =>
      intro y3_2 z_awayIn_2 o H locs ls hf hP hS hl kk
      rw [f_X11_sitIn_2_s] at hf
      refine lv_iload_n hx hb dX11_sitIn_2 rfl (lv_at hl 3 rfl) ?_
      refine lv_iload_n hx hb dX11_sitIn_3 rfl (lv_at hl 1 rfl) ?_
      refine lv_icmp_ge (tgt := 57) hx hb dX11_sitIn_4 (by decide) (fun c2 => ?_) (fun c2 => ?_)
      · have hf := ob_t c2 hf
        obtain rfl := Option.some.inj hf
        exact kk _ _ _ hP hS (lv_sub hl [] rfl)
      · have hf := ob_f c2 hf
        refine lv_iload_n hx hb dX11_sitIn_7 rfl (lv_at hl 3 rfl) ?_
        refine lv_iload_n hx hb dX11_sitIn_8 rfl (lv_at hl 2 rfl) ?_
        refine ob_J (P := fun w3 => ∀ (H : Heap) (locs : List Loc) (ls : Array Slot), va_P D vwCl [(a_t, .inr (11, [.ref a_signs, .int v_signMany, .int v_seats, .ref a_links, .ref a_worths, .int v_bearIs, .ref a_far, .ref a_mays, .ref a_rowsTo, .ref a_endIn, .long v_rowsAll, .ref a_ends, .ref a_pairSets, .ref a_awayIn, .ref a_now, .ref a_then, .long v_awayUpper, .long v_lower, .ref a_comers, .int v_comerMany, .ref a_seen, .ref a_seenMany, .int v_seenRows, .ref a_kept, .ref a_isKept, .int v_place, .int v_isWriting])), (a_awayIn, eI cI 200 z_awayIn_2)] H → va_S A s.heap H locs → lv_has ls 5 [(0, .ref a_t), (1, .int x1), (2, .int x2), (3, .int y3_2)] → W p l e { frames := 0, cells := 0, slots := 0, locals := 0 } s m args below meth c H locs 0 0 Q (F0 m 21 ls [.int w3])) hf ?_ ?_
        · intro w3 hf H locs ls hP hS hl
          refine lv_istore (lv' := [(4, .int w3), (0, .ref a_t), (1, .int x1), (2, .int x2), (3, .int y3_2)]) hx hb dX11_sitIn_21 hl (by decide) rfl (fun ls hl => ?_)
          refine lv_aload_n hx hb dX11_sitIn_23 rfl (lv_at hl 1 rfl) ?_
          refine gf_X11_38 Cx hP 0 rfl rfl dX11_sitIn_24 ?_
          refine lv_iload_n hx hb dX11_sitIn_27 rfl (lv_at hl 4 rfl) ?_
          refine lv_iload hx hb dX11_sitIn_28 (lv_at hl 0 rfl) ?_
          refine lv_aload_n hx hb dX11_sitIn_30 rfl (lv_at hl 1 rfl) ?_
          refine gf_X11_38 Cx hP 0 rfl rfl dX11_sitIn_31 ?_
          refine lv_iload_n hx hb dX11_sitIn_34 rfl (lv_at hl 4 rfl) ?_
          obtain ⟨u5, hu5, hf⟩ := ob_b hf
          refine ba_iald Cx hP 1 rfl hu5 dX11_sitIn_35 ?_
          refine ob_J (P := fun w6 => ∀ (H : Heap) (locs : List Loc) (ls : Array Slot), va_P D vwCl [(a_t, .inr (11, [.ref a_signs, .int v_signMany, .int v_seats, .ref a_links, .ref a_worths, .int v_bearIs, .ref a_far, .ref a_mays, .ref a_rowsTo, .ref a_endIn, .long v_rowsAll, .ref a_ends, .ref a_pairSets, .ref a_awayIn, .ref a_now, .ref a_then, .long v_awayUpper, .long v_lower, .ref a_comers, .int v_comerMany, .ref a_seen, .ref a_seenMany, .int v_seenRows, .ref a_kept, .ref a_isKept, .int v_place, .int v_isWriting])), (a_awayIn, eI cI 200 z_awayIn_2)] H → va_S A s.heap H locs → lv_has ls 5 [(0, .ref a_t), (1, .int x1), (2, .int x2), (3, .int y3_2)] → W p l e { frames := 0, cells := 0, slots := 0, locals := 0 } s m args below meth c H locs 0 0 Q (F0 m 50 ls [.int w6, .int y3_2, .ref a_awayIn])) hf ?_ ?_
          · intro w6 hf H locs ls hP hS hl
            obtain ⟨u8, hu8, hf⟩ := ob_b hf
            refine ba_iast (X' := [(a_t, .inr (11, [.ref a_signs, .int v_signMany, .int v_seats, .ref a_links, .ref a_worths, .int v_bearIs, .ref a_far, .ref a_mays, .ref a_rowsTo, .ref a_endIn, .long v_rowsAll, .ref a_ends, .ref a_pairSets, .ref a_awayIn, .ref a_now, .ref a_then, .long v_awayUpper, .long v_lower, .ref a_comers, .int v_comerMany, .ref a_seen, .ref a_seenMany, .int v_seenRows, .ref a_kept, .ref a_isKept, .int v_place, .int v_isWriting])), (a_awayIn, eI cI 200 u8)]) Cx hP hS rfl 1 rfl rfl hu8 dX11_sitIn_50 (fun H locs hP hS => ?_)
            refine lv_iinc (v := (y3_2 + 1)) (lv' := [(3, .int (y3_2 + 1)), (0, .ref a_t), (1, .int x1), (2, .int x2)]) hx hb dX11_sitIn_51 hl (k := 3) rfl rfl (by decide) rfl (fun ls hl => ?_)
            refine lv_goto (tgt := 2) hx hb dX11_sitIn_54 (by decide) ?_
            exact ih (y3_2 + 1) u8 _ _ _ _ hf hP hS (lv_sub hl [1, 2, 3, 0] rfl) kk
          · intro J50_7 hf
            refine lv_icmp_ge (tgt := 44) hx hb dX11_sitIn_36 (by decide) (fun c9 => ?_) (fun c9 => ?_)
            · have hf := ob_tk c9 hf
              refine lv_aload_n hx hb dX11_sitIn_44 rfl (lv_at hl 1 rfl) ?_
              refine gf_X11_38 Cx hP 0 rfl rfl dX11_sitIn_45 ?_
              refine lv_iload_n hx hb dX11_sitIn_48 rfl (lv_at hl 4 rfl) ?_
              obtain ⟨u10, hu10, hf⟩ := ob_bk hf
              refine ba_iald Cx hP 1 rfl hu10 dX11_sitIn_49 ?_
              exact J50_7 u10 hf _ _ _ hP hS (lv_sub hl [1, 2, 3, 4] rfl)
            · have hf := ob_fk c9 hf
              refine lv_iload hx hb dX11_sitIn_39 (lv_at hl 0 rfl) ?_
              refine lv_goto (tgt := 50) hx hb dX11_sitIn_41 (by decide) ?_
              exact J50_7 w3 hf _ _ _ hP hS (lv_sub hl [1, 2, 3, 4] rfl)
        · intro J21_4 hf
          refine lv_icmp_ge (tgt := 18) hx hb dX11_sitIn_9 (by decide) (fun c11 => ?_) (fun c11 => ?_)
          · have hf := ob_tk c11 hf
            refine lv_iload_n hx hb dX11_sitIn_18 rfl (lv_at hl 3 rfl) ?_
            refine lv_iload_n hx hb dX11_sitIn_19 rfl (lv_at hl 2 rfl) ?_
            refine lv_isub hx hb dX11_sitIn_20 ?_
            exact J21_4 (y3_2 - x2) hf _ _ _ hP hS (lv_sub hl [0, 1, 2, 3] rfl)
          · have hf := ob_fk c11 hf
            refine lv_iload_n hx hb dX11_sitIn_12 rfl (lv_at hl 2 rfl) ?_
            refine lv_iload_n hx hb dX11_sitIn_13 rfl (lv_at hl 3 rfl) ?_
            refine lv_isub hx hb dX11_sitIn_14 ?_
            refine lv_goto (tgt := 21) hx hb dX11_sitIn_15 (by decide) ?_
            exact J21_4 (x2 - y3_2) hf _ _ _ hP hS (lv_sub hl [0, 1, 2, 3] rfl)
  obtain ⟨u12, hu12, hf⟩ := ob_b hf
  refine L2_1 FU (0 : Int32) v_awayIn u12 _ _ _ hu12 hP hS (lv_sub hl [1, 2, 3, 0] rfl) ?_
  intro H locs ls hP hS hl
  obtain rfl := Option.some.inj hf
  exact ret _ _ _ _ dX11_sitIn_57 hP hS

