def f_X11_minutes_39 (v_seats : Int32) (x4 : Int32) (u3 : Int64 × Int64 × (Nat → Int64) × (Nat → Int64)) : Nat → Int64 → Int32 → Option (Int64)
  | 0, _, _ => none
  | n + 1, y7_39, y9_39 =>
  if ((1 : Int32) <<< (v_seats &&& 31)) ≤ y9_39 then
  some (y7_39)
  else
  (f_X11_ones y9_39).bind (fun u6 =>
  (if u6 = x4 then
  (aget 4096 u3.2.2.1 y9_39).bind (fun u10 =>
  some (u10))
  else
  some (0 : Int64)).bind (fun w7 =>
  f_X11_minutes_39 v_seats x4 u3 n (y7_39 + w7) (y9_39 + 1)))
theorem f_X11_minutes_39_s (v_seats : Int32) (x4 : Int32) (u3 : Int64 × Int64 × (Nat → Int64) × (Nat → Int64)) (n : Nat) (y7_39 : Int64) (y9_39 : Int32) : f_X11_minutes_39 v_seats x4 u3 (n + 1) y7_39 y9_39 =
  (if ((1 : Int32) <<< (v_seats &&& 31)) ≤ y9_39 then
  some (y7_39)
  else
  (f_X11_ones y9_39).bind (fun u6 =>
  (if u6 = x4 then
  (aget 4096 u3.2.2.1 y9_39).bind (fun u10 =>
  some (u10))
  else
  some (0 : Int64)).bind (fun w7 =>
  f_X11_minutes_39 v_seats x4 u3 n (y7_39 + w7) (y9_39 + 1)))) := rfl
def f_X11_minutes (v_seats : Int32) (v_bearIs : Int32) (v_awayUpper : Int64) (v_lower : Int64) (v_far : Nat → Int32) (v_now : Nat → Int64) (v_then : Nat → Int64) (v_worths : Nat → Int32) (x1 : Int32) (x2 : Int32) (x3 : Int32) (x4 : Int32) (x5 : Int32) : Option (Int64 × Int64 × Int64 × (Nat → Int64) × (Nat → Int64)) :=
  (f_X11_refuseMinutes v_seats v_bearIs v_far x1 x2 x3 x4 x5).bind (fun u1 =>
  if 0 ≤ u1 then
  (f_X11_passMinutes v_seats v_bearIs v_now v_then v_far v_worths x1 x2 x3).bind (fun u3 =>
  (f_X11_minutes_39 v_seats x4 u3 FU (0 : Int64) (0 : Int32)).bind (fun u11 =>
  (f_X11_lowest u11 u3.2.1 x5).bind (fun u12 =>
  some (u12, u3.1, u3.2.1, u3.2.2.1, u3.2.2.2))))
  else
  some (((-1000000000000000000 : Int64) + (u1).toInt64), v_awayUpper, v_lower, v_now, v_then))
set_option maxHeartbeats 4000000 in
set_option maxRecDepth 100000 in
theorem c_X11_minutes (l : Launch) (D : va_G) (cI cJ cZ cO : ClassId) (a_t a_signs a_links a_worths a_far a_mays a_rowsTo a_endIn a_ends a_pairSets a_awayIn a_now a_then a_comers a_seen a_seenMany a_kept a_isKept : Nat) (v_signMany : Int32) (v_seats : Int32) (v_bearIs : Int32) (v_rowsAll : Int64) (v_awayUpper : Int64) (v_lower : Int64) (v_comerMany : Int32) (v_seenRows : Int32) (v_place : Int32) (v_isWriting : Int32) (v_far : Nat → Int32) (v_now : Nat → Int64) (v_then : Nat → Int64) (v_worths : Nat → Int32) (x1 : Int32) (x2 : Int32) (x3 : Int32) (x4 : Int32) (x5 : Int32) (out : Int64 × Int64 × Int64 × (Nat → Int64) × (Nat → Int64)) (hf : f_X11_minutes v_seats v_bearIs v_awayUpper v_lower v_far v_now v_then v_worths x1 x2 x3 x4 x5 = some out) : MetR l yX11_minutes (Cond.code yX11_minutes cX11_minutes 10 (some .long) :: tbG) { frames := 6, cells := 0, slots := 0, locals := 147 } D (tyL cI cJ cZ cO) [.ref a_t, .int x1, .int x2, .int x3, .int x4, .int x5] [(a_t, .inr (11, [.ref a_signs, .int v_signMany, .int v_seats, .ref a_links, .ref a_worths, .int v_bearIs, .ref a_far, .ref a_mays, .ref a_rowsTo, .ref a_endIn, .long v_rowsAll, .ref a_ends, .ref a_pairSets, .ref a_awayIn, .ref a_now, .ref a_then, .long v_awayUpper, .long v_lower, .ref a_comers, .int v_comerMany, .ref a_seen, .ref a_seenMany, .int v_seenRows, .ref a_kept, .ref a_isKept, .int v_place, .int v_isWriting])), (a_far, eI cI 144 v_far), (a_now, eJ cJ 4096 v_now), (a_then, eJ cJ 4096 v_then), (a_worths, eI cI 12 v_worths)] (some (.long out.1)) [(a_t, .inr (11, [.ref a_signs, .int v_signMany, .int v_seats, .ref a_links, .ref a_worths, .int v_bearIs, .ref a_far, .ref a_mays, .ref a_rowsTo, .ref a_endIn, .long v_rowsAll, .ref a_ends, .ref a_pairSets, .ref a_awayIn, .ref a_now, .ref a_then, .long out.2.1, .long out.2.2.1, .ref a_comers, .int v_comerMany, .ref a_seen, .ref a_seenMany, .int v_seenRows, .ref a_kept, .ref a_isKept, .int v_place, .int v_isWriting])), (a_far, eI cI 144 v_far), (a_now, eJ cJ 4096 out.2.2.2.1), (a_then, eJ cJ 4096 out.2.2.2.2), (a_worths, eI cI 12 v_worths)] := by
  refine ba_ofL RX11 [(0, .ref a_t), (1, .int x1), (2, .int x2), (3, .int x3), (4, .int x4), (5, .int x5)] (by decide +kernel) rfl (Nat.le_of_ble_eq_true rfl) rfl ?_
  intro p e s m args below meth c Q A Cx hP ret ls hl
  obtain ⟨⟨hx, hb, hml, hown, hts⟩, hK, hD, hA⟩ := id Cx
  have hS : va_S A s.heap s.heap [] := va_S.rf
  unfold f_X11_minutes at hf
  refine lv_aload_n hx hb dX11_minutes_0 rfl (lv_at hl 0 rfl) ?_
  refine lv_iload_n hx hb dX11_minutes_1 rfl (lv_at hl 1 rfl) ?_
  refine lv_iload_n hx hb dX11_minutes_2 rfl (lv_at hl 2 rfl) ?_
  refine lv_iload_n hx hb dX11_minutes_3 rfl (lv_at hl 3 rfl) ?_
  refine lv_iload hx hb dX11_minutes_4 (lv_at hl 4 rfl) ?_
  refine lv_iload hx hb dX11_minutes_6 (lv_at hl 5 rfl) ?_
  obtain ⟨u1, hu1, hf⟩ := ob_b hf
  refine iv_X11_210 (As := [.int x1, .int x2, .int x3, .int x4, .int x5]) (rest := []) (is := [0, 1]) (q0 := 0) (X' := [(a_t, .inr (11, [.ref a_signs, .int v_signMany, .int v_seats, .ref a_links, .ref a_worths, .int v_bearIs, .ref a_far, .ref a_mays, .ref a_rowsTo, .ref a_endIn, .long v_rowsAll, .ref a_ends, .ref a_pairSets, .ref a_awayIn, .ref a_now, .ref a_then, .long v_awayUpper, .long v_lower, .ref a_comers, .int v_comerMany, .ref a_seen, .ref a_seenMany, .int v_seenRows, .ref a_kept, .ref a_isKept, .int v_place, .int v_isWriting])), (a_far, eI cI 144 v_far), (a_now, eJ cJ 4096 v_now), (a_then, eJ cJ 4096 v_then), (a_worths, eI cI 12 v_worths)]) Cx (c_X11_refuseMinutes l D cI cJ cZ cO a_t a_signs a_links a_worths a_far a_mays a_rowsTo a_endIn a_ends a_pairSets a_awayIn a_now a_then a_comers a_seen a_seenMany a_kept a_isKept v_signMany v_seats v_bearIs v_rowsAll v_awayUpper v_lower v_comerMany v_seenRows v_place v_isWriting v_far x1 x2 x3 x4 x5 u1 hu1) hP hS rfl rfl rfl rfl rfl rfl rfl hl.1 (Nat.le_of_ble_eq_true rfl) dX11_minutes_8 rfl rfl ⟨Nat.le_of_ble_eq_true rfl, Nat.le_of_ble_eq_true rfl⟩ ⟨Nat.zero_le _, Nat.zero_le _⟩ rfl (fun H locs hP hS => ?_)
  refine lv_istore (lv' := [(6, .int u1), (0, .ref a_t), (1, .int x1), (2, .int x2), (3, .int x3), (4, .int x4), (5, .int x5)]) hx hb dX11_minutes_11 hl (by decide) rfl (fun ls hl => ?_)
  refine lv_iload hx hb dX11_minutes_13 (lv_at hl 0 rfl) ?_
  refine lv_if_ge (tgt := 26) hx hb dX11_minutes_15 (by decide) (fun c2 => ?_) (fun c2 => ?_)
  · have hf := ob_t c2 hf
    refine lv_aload_n hx hb dX11_minutes_26 rfl (lv_at hl 1 rfl) ?_
    refine lv_iload_n hx hb dX11_minutes_27 rfl (lv_at hl 2 rfl) ?_
    refine lv_iload_n hx hb dX11_minutes_28 rfl (lv_at hl 3 rfl) ?_
    refine lv_iload_n hx hb dX11_minutes_29 rfl (lv_at hl 4 rfl) ?_
    obtain ⟨u3, hu3, hf⟩ := ob_b hf
    refine iv_X11_216 (As := [.int x1, .int x2, .int x3]) (rest := []) (is := [0, 2, 3, 1, 4]) (q0 := 0) (X' := [(a_t, .inr (11, [.ref a_signs, .int v_signMany, .int v_seats, .ref a_links, .ref a_worths, .int v_bearIs, .ref a_far, .ref a_mays, .ref a_rowsTo, .ref a_endIn, .long v_rowsAll, .ref a_ends, .ref a_pairSets, .ref a_awayIn, .ref a_now, .ref a_then, .long u3.1, .long u3.2.1, .ref a_comers, .int v_comerMany, .ref a_seen, .ref a_seenMany, .int v_seenRows, .ref a_kept, .ref a_isKept, .int v_place, .int v_isWriting])), (a_far, eI cI 144 v_far), (a_now, eJ cJ 4096 u3.2.2.1), (a_then, eJ cJ 4096 u3.2.2.2), (a_worths, eI cI 12 v_worths)]) Cx (c_X11_passMinutes l D cI cJ cZ cO a_t a_signs a_links a_worths a_far a_mays a_rowsTo a_endIn a_ends a_pairSets a_awayIn a_now a_then a_comers a_seen a_seenMany a_kept a_isKept v_signMany v_seats v_bearIs v_rowsAll v_awayUpper v_lower v_comerMany v_seenRows v_place v_isWriting v_now v_then v_far v_worths x1 x2 x3 u3 hu3) hP hS rfl rfl rfl rfl rfl rfl rfl hl.1 (Nat.le_of_ble_eq_true rfl) dX11_minutes_30 rfl rfl ⟨Nat.le_of_ble_eq_true rfl, Nat.le_of_ble_eq_true rfl⟩ ⟨Nat.zero_le _, Nat.zero_le _⟩ rfl (fun H locs hP hS => ?_)
    refine lv_lconst (v := 0) hx hb dX11_minutes_33 (by decide) ?_
    refine lv_lstore (lv' := [(7, .long (0 : Int64)), (6, .int u1), (0, .ref a_t), (1, .int x1), (2, .int x2), (3, .int x3), (4, .int x4), (5, .int x5)]) hx hb dX11_minutes_34 hl (by decide) rfl (fun ls hl => ?_)
    refine lv_iconst (v := 0) hx hb dX11_minutes_36 (by decide) ?_
    refine lv_istore (lv' := [(9, .int (0 : Int32)), (7, .long (0 : Int64)), (6, .int u1), (0, .ref a_t), (1, .int x1), (2, .int x2), (3, .int x3), (4, .int x4), (5, .int x5)]) hx hb dX11_minutes_37 hl (by decide) rfl (fun ls hl => ?_)
    have L39_4 : ∀ (n : Nat) (y7_39 : Int64) (y9_39 : Int32) (o : Int64) (H : Heap) (locs : List Loc) (ls : Array Slot), f_X11_minutes_39 v_seats x4 u3 n y7_39 y9_39 = some o → va_P D vwCl [(a_t, .inr (11, [.ref a_signs, .int v_signMany, .int v_seats, .ref a_links, .ref a_worths, .int v_bearIs, .ref a_far, .ref a_mays, .ref a_rowsTo, .ref a_endIn, .long v_rowsAll, .ref a_ends, .ref a_pairSets, .ref a_awayIn, .ref a_now, .ref a_then, .long u3.1, .long u3.2.1, .ref a_comers, .int v_comerMany, .ref a_seen, .ref a_seenMany, .int v_seenRows, .ref a_kept, .ref a_isKept, .int v_place, .int v_isWriting])), (a_far, eI cI 144 v_far), (a_now, eJ cJ 4096 u3.2.2.1), (a_then, eJ cJ 4096 u3.2.2.2), (a_worths, eI cI 12 v_worths)] H → va_S A s.heap H locs → lv_has ls 10 [(0, .ref a_t), (4, .int x4), (5, .int x5), (7, .long y7_39), (9, .int y9_39)] → (∀ (H : Heap) (locs : List Loc) (ls : Array Slot), va_P D vwCl [(a_t, .inr (11, [.ref a_signs, .int v_signMany, .int v_seats, .ref a_links, .ref a_worths, .int v_bearIs, .ref a_far, .ref a_mays, .ref a_rowsTo, .ref a_endIn, .long v_rowsAll, .ref a_ends, .ref a_pairSets, .ref a_awayIn, .ref a_now, .ref a_then, .long u3.1, .long u3.2.1, .ref a_comers, .int v_comerMany, .ref a_seen, .ref a_seenMany, .int v_seenRows, .ref a_kept, .ref a_isKept, .int v_place, .int v_isWriting])), (a_far, eI cI 144 v_far), (a_now, eJ cJ 4096 u3.2.2.1), (a_then, eJ cJ 4096 u3.2.2.2), (a_worths, eI cI 12 v_worths)] H → va_S A s.heap H locs → lv_has ls 10 [(0, .ref a_t), (5, .int x5), (7, .long o)] → W p l e { frames := 6, cells := 0, slots := 0, locals := 147 } s m args below meth c H locs 0 0 Q (F0 m 82 ls [])) → W p l e { frames := 6, cells := 0, slots := 0, locals := 147 } s m args below meth c H locs 0 0 Q (F0 m 39 ls []) := by
      intro n
      induction n with
      | zero => intro y7_39 y9_39 o H locs ls hf; exact (ob_n hf).elim
      | succ n ih =>
        intro y7_39 y9_39 o H locs ls hf hP hS hl kk
        rw [f_X11_minutes_39_s] at hf
        refine lv_iload hx hb dX11_minutes_39 (lv_at hl 4 rfl) ?_
        refine lv_iconst (v := 1) hx hb dX11_minutes_41 (by decide) ?_
        refine lv_aload_n hx hb dX11_minutes_42 rfl (lv_at hl 0 rfl) ?_
        refine gf_X11_63 Cx hP 0 rfl rfl dX11_minutes_43 ?_
        refine lv_ishl hx hb dX11_minutes_46 ?_
        refine lv_icmp_ge (tgt := 82) hx hb dX11_minutes_47 (by decide) (fun c5 => ?_) (fun c5 => ?_)
        · have hf := ob_t c5 hf
          obtain rfl := Option.some.inj hf
          exact kk _ _ _ hP hS (lv_sub hl [0, 2, 3] rfl)
        · have hf := ob_f c5 hf
          refine lv_lload hx hb dX11_minutes_50 (lv_at hl 3 rfl) ?_
          refine lv_iload hx hb dX11_minutes_52 (lv_at hl 4 rfl) ?_
          obtain ⟨u6, hu6, hf⟩ := ob_b hf
          refine iv_X11_144 (As := [.int y9_39]) (rest := [.long y7_39]) (is := []) (X' := [(a_t, .inr (11, [.ref a_signs, .int v_signMany, .int v_seats, .ref a_links, .ref a_worths, .int v_bearIs, .ref a_far, .ref a_mays, .ref a_rowsTo, .ref a_endIn, .long v_rowsAll, .ref a_ends, .ref a_pairSets, .ref a_awayIn, .ref a_now, .ref a_then, .long u3.1, .long u3.2.1, .ref a_comers, .int v_comerMany, .ref a_seen, .ref a_seenMany, .int v_seenRows, .ref a_kept, .ref a_isKept, .int v_place, .int v_isWriting])), (a_far, eI cI 144 v_far), (a_now, eJ cJ 4096 u3.2.2.1), (a_then, eJ cJ 4096 u3.2.2.2), (a_worths, eI cI 12 v_worths)]) Cx (c_X11_ones l D cI cJ cZ cO  y9_39 u6 hu6) hP hS rfl rfl rfl rfl rfl rfl hl.1 (Nat.le_of_ble_eq_true rfl) dX11_minutes_54 rfl rfl ⟨Nat.le_of_ble_eq_true rfl, Nat.le_of_ble_eq_true rfl⟩ ⟨Nat.zero_le _, Nat.zero_le _⟩ rfl (fun H locs hP hS => ?_)
          refine lv_iload hx hb dX11_minutes_57 (lv_at hl 1 rfl) ?_
          refine ob_J (P := fun w7 => ∀ (H : Heap) (locs : List Loc) (ls : Array Slot), va_P D vwCl [(a_t, .inr (11, [.ref a_signs, .int v_signMany, .int v_seats, .ref a_links, .ref a_worths, .int v_bearIs, .ref a_far, .ref a_mays, .ref a_rowsTo, .ref a_endIn, .long v_rowsAll, .ref a_ends, .ref a_pairSets, .ref a_awayIn, .ref a_now, .ref a_then, .long u3.1, .long u3.2.1, .ref a_comers, .int v_comerMany, .ref a_seen, .ref a_seenMany, .int v_seenRows, .ref a_kept, .ref a_isKept, .int v_place, .int v_isWriting])), (a_far, eI cI 144 v_far), (a_now, eJ cJ 4096 u3.2.2.1), (a_then, eJ cJ 4096 u3.2.2.2), (a_worths, eI cI 12 v_worths)] H → va_S A s.heap H locs → lv_has ls 10 [(0, .ref a_t), (4, .int x4), (5, .int x5), (9, .int y9_39)] → W p l e { frames := 6, cells := 0, slots := 0, locals := 147 } s m args below meth c H locs 0 0 Q (F0 m 73 ls [.long w7, .long y7_39])) hf ?_ ?_
          · intro w7 hf H locs ls hP hS hl
            refine lv_ladd hx hb dX11_minutes_73 ?_
            refine lv_lstore (lv' := [(7, .long (y7_39 + w7)), (0, .ref a_t), (4, .int x4), (5, .int x5), (9, .int y9_39)]) hx hb dX11_minutes_74 hl (by decide) rfl (fun ls hl => ?_)
            refine lv_iinc (v := (y9_39 + 1)) (lv' := [(9, .int (y9_39 + 1)), (7, .long (y7_39 + w7)), (0, .ref a_t), (4, .int x4), (5, .int x5)]) hx hb dX11_minutes_76 hl (k := 4) rfl rfl (by decide) rfl (fun ls hl => ?_)
            refine lv_goto (tgt := 39) hx hb dX11_minutes_79 (by decide) ?_
            exact ih (y7_39 + w7) (y9_39 + 1) _ _ _ _ hf hP hS (lv_sub hl [2, 3, 4, 1, 0] rfl) kk
          · intro J73_8 hf
            refine lv_icmp_ne (tgt := 72) hx hb dX11_minutes_59 (by decide) (fun c9 => ?_) (fun c9 => ?_)
            · have hf := ob_fk c9 hf
              refine lv_lconst (v := 0) hx hb dX11_minutes_72 (by decide) ?_
              exact J73_8 (0 : Int64) hf _ _ _ hP hS (lv_sub hl [0, 1, 2, 4] rfl)
            · have hf := ob_tk c9 hf
              refine lv_aload_n hx hb dX11_minutes_62 rfl (lv_at hl 0 rfl) ?_
              refine gf_X11_41 Cx hP 0 rfl rfl dX11_minutes_63 ?_
              refine lv_iload hx hb dX11_minutes_66 (lv_at hl 4 rfl) ?_
              obtain ⟨u10, hu10, hf⟩ := ob_bk hf
              refine ba_lald Cx hP 2 rfl hu10 dX11_minutes_68 ?_
              refine lv_goto (tgt := 73) hx hb dX11_minutes_69 (by decide) ?_
              exact J73_8 u10 hf _ _ _ hP hS (lv_sub hl [0, 1, 2, 4] rfl)
    obtain ⟨u11, hu11, hf⟩ := ob_b hf
    refine L39_4 FU (0 : Int64) (0 : Int32) u11 _ _ _ hu11 hP hS (lv_sub hl [3, 7, 8, 1, 0] rfl) ?_
    intro H locs ls hP hS hl
    refine lv_lload hx hb dX11_minutes_82 (lv_at hl 2 rfl) ?_
    refine lv_aload_n hx hb dX11_minutes_84 rfl (lv_at hl 0 rfl) ?_
    refine gf_X11_200 Cx hP 0 rfl rfl dX11_minutes_85 ?_
    refine lv_iload hx hb dX11_minutes_88 (lv_at hl 1 rfl) ?_
    obtain ⟨u12, hu12, hf⟩ := ob_b hf
    refine iv_X11_165 (As := [.long u11, .long u3.2.1, .int x5]) (rest := []) (is := []) (X' := [(a_t, .inr (11, [.ref a_signs, .int v_signMany, .int v_seats, .ref a_links, .ref a_worths, .int v_bearIs, .ref a_far, .ref a_mays, .ref a_rowsTo, .ref a_endIn, .long v_rowsAll, .ref a_ends, .ref a_pairSets, .ref a_awayIn, .ref a_now, .ref a_then, .long u3.1, .long u3.2.1, .ref a_comers, .int v_comerMany, .ref a_seen, .ref a_seenMany, .int v_seenRows, .ref a_kept, .ref a_isKept, .int v_place, .int v_isWriting])), (a_far, eI cI 144 v_far), (a_now, eJ cJ 4096 u3.2.2.1), (a_then, eJ cJ 4096 u3.2.2.2), (a_worths, eI cI 12 v_worths)]) Cx (c_X11_lowest l D cI cJ cZ cO  u11 u3.2.1 x5 u12 hu12) hP hS rfl rfl rfl rfl rfl rfl hl.1 (Nat.le_of_ble_eq_true rfl) dX11_minutes_90 rfl rfl ⟨Nat.le_of_ble_eq_true rfl, Nat.le_of_ble_eq_true rfl⟩ ⟨Nat.zero_le _, Nat.zero_le _⟩ rfl (fun H locs hP hS => ?_)
    obtain rfl := Option.some.inj hf
    exact ret _ _ _ _ dX11_minutes_93 hP hS
  · have hf := ob_f c2 hf
    refine lv_ldc2 hx hb hown (hts _ kw_1035) dX11_minutes_18 ?_
    refine lv_iload hx hb dX11_minutes_21 (lv_at hl 0 rfl) ?_
    refine lv_i2l (v := (u1).toInt64) hx hb dX11_minutes_23 rfl ?_
    refine lv_ladd hx hb dX11_minutes_24 ?_
    obtain rfl := Option.some.inj hf
    exact ret _ _ _ _ dX11_minutes_25 hP hS

def f_X11_away (v_seats : Int32) (v_bearIs : Int32) (v_awayUpper : Int64) (v_lower : Int64) (v_far : Nat → Int32) (v_now : Nat → Int64) (v_then : Nat → Int64) (v_worths : Nat → Int32) (x1 : Int32) (x2 : Int32) (x3 : Int32) (x4 : Int32) : Option (Int64 × Int64 × Int64 × (Nat → Int64) × (Nat → Int64)) :=
  (f_X11_refuseMinutes v_seats v_bearIs v_far x1 x2 x3 (0 : Int32) x4).bind (fun u1 =>
  if 0 ≤ u1 then
  (f_X11_passMinutes v_seats v_bearIs v_now v_then v_far v_worths x1 x2 x3).bind (fun u3 =>
  (f_X11_lowest u3.1 u3.2.1 x4).bind (fun u4 =>
  some (u4, u3.1, u3.2.1, u3.2.2.1, u3.2.2.2)))
  else
  some (((-1000000000000000000 : Int64) + (u1).toInt64), v_awayUpper, v_lower, v_now, v_then))
set_option maxHeartbeats 4000000 in
set_option maxRecDepth 100000 in
theorem c_X11_away (l : Launch) (D : va_G) (cI cJ cZ cO : ClassId) (a_t a_signs a_links a_worths a_far a_mays a_rowsTo a_endIn a_ends a_pairSets a_awayIn a_now a_then a_comers a_seen a_seenMany a_kept a_isKept : Nat) (v_signMany : Int32) (v_seats : Int32) (v_bearIs : Int32) (v_rowsAll : Int64) (v_awayUpper : Int64) (v_lower : Int64) (v_comerMany : Int32) (v_seenRows : Int32) (v_place : Int32) (v_isWriting : Int32) (v_far : Nat → Int32) (v_now : Nat → Int64) (v_then : Nat → Int64) (v_worths : Nat → Int32) (x1 : Int32) (x2 : Int32) (x3 : Int32) (x4 : Int32) (out : Int64 × Int64 × Int64 × (Nat → Int64) × (Nat → Int64)) (hf : f_X11_away v_seats v_bearIs v_awayUpper v_lower v_far v_now v_then v_worths x1 x2 x3 x4 = some out) : MetR l yX11_away (Cond.code yX11_away cX11_away 6 (some .long) :: tbG) { frames := 6, cells := 0, slots := 0, locals := 147 } D (tyL cI cJ cZ cO) [.ref a_t, .int x1, .int x2, .int x3, .int x4] [(a_t, .inr (11, [.ref a_signs, .int v_signMany, .int v_seats, .ref a_links, .ref a_worths, .int v_bearIs, .ref a_far, .ref a_mays, .ref a_rowsTo, .ref a_endIn, .long v_rowsAll, .ref a_ends, .ref a_pairSets, .ref a_awayIn, .ref a_now, .ref a_then, .long v_awayUpper, .long v_lower, .ref a_comers, .int v_comerMany, .ref a_seen, .ref a_seenMany, .int v_seenRows, .ref a_kept, .ref a_isKept, .int v_place, .int v_isWriting])), (a_far, eI cI 144 v_far), (a_now, eJ cJ 4096 v_now), (a_then, eJ cJ 4096 v_then), (a_worths, eI cI 12 v_worths)] (some (.long out.1)) [(a_t, .inr (11, [.ref a_signs, .int v_signMany, .int v_seats, .ref a_links, .ref a_worths, .int v_bearIs, .ref a_far, .ref a_mays, .ref a_rowsTo, .ref a_endIn, .long v_rowsAll, .ref a_ends, .ref a_pairSets, .ref a_awayIn, .ref a_now, .ref a_then, .long out.2.1, .long out.2.2.1, .ref a_comers, .int v_comerMany, .ref a_seen, .ref a_seenMany, .int v_seenRows, .ref a_kept, .ref a_isKept, .int v_place, .int v_isWriting])), (a_far, eI cI 144 v_far), (a_now, eJ cJ 4096 out.2.2.2.1), (a_then, eJ cJ 4096 out.2.2.2.2), (a_worths, eI cI 12 v_worths)] := by
  refine ba_ofL RX11 [(0, .ref a_t), (1, .int x1), (2, .int x2), (3, .int x3), (4, .int x4)] (by decide +kernel) rfl (Nat.le_of_ble_eq_true rfl) rfl ?_
  intro p e s m args below meth c Q A Cx hP ret ls hl
  obtain ⟨⟨hx, hb, hml, hown, hts⟩, hK, hD, hA⟩ := id Cx
  have hS : va_S A s.heap s.heap [] := va_S.rf
  unfold f_X11_away at hf
  refine lv_aload_n hx hb dX11_away_0 rfl (lv_at hl 0 rfl) ?_
  refine lv_iload_n hx hb dX11_away_1 rfl (lv_at hl 1 rfl) ?_
  refine lv_iload_n hx hb dX11_away_2 rfl (lv_at hl 2 rfl) ?_
  refine lv_iload_n hx hb dX11_away_3 rfl (lv_at hl 3 rfl) ?_
  refine lv_iconst (v := 0) hx hb dX11_away_4 (by decide) ?_
  refine lv_iload hx hb dX11_away_5 (lv_at hl 4 rfl) ?_
  obtain ⟨u1, hu1, hf⟩ := ob_b hf
  refine iv_X11_210 (As := [.int x1, .int x2, .int x3, .int (0 : Int32), .int x4]) (rest := []) (is := [0, 1]) (q0 := 0) (X' := [(a_t, .inr (11, [.ref a_signs, .int v_signMany, .int v_seats, .ref a_links, .ref a_worths, .int v_bearIs, .ref a_far, .ref a_mays, .ref a_rowsTo, .ref a_endIn, .long v_rowsAll, .ref a_ends, .ref a_pairSets, .ref a_awayIn, .ref a_now, .ref a_then, .long v_awayUpper, .long v_lower, .ref a_comers, .int v_comerMany, .ref a_seen, .ref a_seenMany, .int v_seenRows, .ref a_kept, .ref a_isKept, .int v_place, .int v_isWriting])), (a_far, eI cI 144 v_far), (a_now, eJ cJ 4096 v_now), (a_then, eJ cJ 4096 v_then), (a_worths, eI cI 12 v_worths)]) Cx (c_X11_refuseMinutes l D cI cJ cZ cO a_t a_signs a_links a_worths a_far a_mays a_rowsTo a_endIn a_ends a_pairSets a_awayIn a_now a_then a_comers a_seen a_seenMany a_kept a_isKept v_signMany v_seats v_bearIs v_rowsAll v_awayUpper v_lower v_comerMany v_seenRows v_place v_isWriting v_far x1 x2 x3 (0 : Int32) x4 u1 hu1) hP hS rfl rfl rfl rfl rfl rfl rfl hl.1 (Nat.le_of_ble_eq_true rfl) dX11_away_7 rfl rfl ⟨Nat.le_of_ble_eq_true rfl, Nat.le_of_ble_eq_true rfl⟩ ⟨Nat.zero_le _, Nat.zero_le _⟩ rfl (fun H locs hP hS => ?_)
  refine lv_istore (lv' := [(5, .int u1), (0, .ref a_t), (1, .int x1), (2, .int x2), (3, .int x3), (4, .int x4)]) hx hb dX11_away_10 hl (by decide) rfl (fun ls hl => ?_)
  refine lv_iload hx hb dX11_away_12 (lv_at hl 0 rfl) ?_
  refine lv_if_ge (tgt := 25) hx hb dX11_away_14 (by decide) (fun c2 => ?_) (fun c2 => ?_)
  · have hf := ob_t c2 hf
    refine lv_aload_n hx hb dX11_away_25 rfl (lv_at hl 1 rfl) ?_
    refine lv_iload_n hx hb dX11_away_26 rfl (lv_at hl 2 rfl) ?_
    refine lv_iload_n hx hb dX11_away_27 rfl (lv_at hl 3 rfl) ?_
    refine lv_iload_n hx hb dX11_away_28 rfl (lv_at hl 4 rfl) ?_
    obtain ⟨u3, hu3, hf⟩ := ob_b hf
    refine iv_X11_216 (As := [.int x1, .int x2, .int x3]) (rest := []) (is := [0, 2, 3, 1, 4]) (q0 := 0) (X' := [(a_t, .inr (11, [.ref a_signs, .int v_signMany, .int v_seats, .ref a_links, .ref a_worths, .int v_bearIs, .ref a_far, .ref a_mays, .ref a_rowsTo, .ref a_endIn, .long v_rowsAll, .ref a_ends, .ref a_pairSets, .ref a_awayIn, .ref a_now, .ref a_then, .long u3.1, .long u3.2.1, .ref a_comers, .int v_comerMany, .ref a_seen, .ref a_seenMany, .int v_seenRows, .ref a_kept, .ref a_isKept, .int v_place, .int v_isWriting])), (a_far, eI cI 144 v_far), (a_now, eJ cJ 4096 u3.2.2.1), (a_then, eJ cJ 4096 u3.2.2.2), (a_worths, eI cI 12 v_worths)]) Cx (c_X11_passMinutes l D cI cJ cZ cO a_t a_signs a_links a_worths a_far a_mays a_rowsTo a_endIn a_ends a_pairSets a_awayIn a_now a_then a_comers a_seen a_seenMany a_kept a_isKept v_signMany v_seats v_bearIs v_rowsAll v_awayUpper v_lower v_comerMany v_seenRows v_place v_isWriting v_now v_then v_far v_worths x1 x2 x3 u3 hu3) hP hS rfl rfl rfl rfl rfl rfl rfl hl.1 (Nat.le_of_ble_eq_true rfl) dX11_away_29 rfl rfl ⟨Nat.le_of_ble_eq_true rfl, Nat.le_of_ble_eq_true rfl⟩ ⟨Nat.zero_le _, Nat.zero_le _⟩ rfl (fun H locs hP hS => ?_)
    refine lv_aload_n hx hb dX11_away_32 rfl (lv_at hl 1 rfl) ?_
    refine gf_X11_197 Cx hP 0 rfl rfl dX11_away_33 ?_
    refine lv_aload_n hx hb dX11_away_36 rfl (lv_at hl 1 rfl) ?_
    refine gf_X11_200 Cx hP 0 rfl rfl dX11_away_37 ?_
    refine lv_iload hx hb dX11_away_40 (lv_at hl 5 rfl) ?_
    obtain ⟨u4, hu4, hf⟩ := ob_b hf
    refine iv_X11_165 (As := [.long u3.1, .long u3.2.1, .int x4]) (rest := []) (is := []) (X' := [(a_t, .inr (11, [.ref a_signs, .int v_signMany, .int v_seats, .ref a_links, .ref a_worths, .int v_bearIs, .ref a_far, .ref a_mays, .ref a_rowsTo, .ref a_endIn, .long v_rowsAll, .ref a_ends, .ref a_pairSets, .ref a_awayIn, .ref a_now, .ref a_then, .long u3.1, .long u3.2.1, .ref a_comers, .int v_comerMany, .ref a_seen, .ref a_seenMany, .int v_seenRows, .ref a_kept, .ref a_isKept, .int v_place, .int v_isWriting])), (a_far, eI cI 144 v_far), (a_now, eJ cJ 4096 u3.2.2.1), (a_then, eJ cJ 4096 u3.2.2.2), (a_worths, eI cI 12 v_worths)]) Cx (c_X11_lowest l D cI cJ cZ cO  u3.1 u3.2.1 x4 u4 hu4) hP hS rfl rfl rfl rfl rfl rfl hl.1 (Nat.le_of_ble_eq_true rfl) dX11_away_42 rfl rfl ⟨Nat.le_of_ble_eq_true rfl, Nat.le_of_ble_eq_true rfl⟩ ⟨Nat.zero_le _, Nat.zero_le _⟩ rfl (fun H locs hP hS => ?_)
    obtain rfl := Option.some.inj hf
    exact ret _ _ _ _ dX11_away_45 hP hS
  · have hf := ob_f c2 hf
    refine lv_ldc2 hx hb hown (hts _ kw_1035) dX11_away_17 ?_
    refine lv_iload hx hb dX11_away_20 (lv_at hl 0 rfl) ?_
    refine lv_i2l (v := (u1).toInt64) hx hb dX11_away_22 rfl ?_
    refine lv_ladd hx hb dX11_away_23 ?_
    obtain rfl := Option.some.inj hf
    exact ret _ _ _ _ dX11_away_24 hP hS

def f_X11_come (v_comerMany : Int32) (v_comers : Nat → Int32) (x1 : Int32) : Option (Int32 × Int32 × (Nat → Int32)) :=
  (f_X11_isHabit x1).bind (fun u1 =>
  if u1 = 0 then
  some ((-2 : Int32), v_comerMany, v_comers)
  else
  if v_comerMany = (12 : Int32) then
  some ((-4 : Int32), v_comerMany, v_comers)
  else
  (asetI 12 v_comers v_comerMany x1).bind (fun u4 =>
  some (((v_comerMany + (1 : Int32)) - (1 : Int32)), (v_comerMany + (1 : Int32)), u4)))
set_option maxHeartbeats 4000000 in
set_option maxRecDepth 100000 in
theorem c_X11_come (l : Launch) (D : va_G) (cI cJ cZ cO : ClassId) (a_t a_signs a_links a_worths a_far a_mays a_rowsTo a_endIn a_ends a_pairSets a_awayIn a_now a_then a_comers a_seen a_seenMany a_kept a_isKept : Nat) (v_signMany : Int32) (v_seats : Int32) (v_bearIs : Int32) (v_rowsAll : Int64) (v_awayUpper : Int64) (v_lower : Int64) (v_comerMany : Int32) (v_seenRows : Int32) (v_place : Int32) (v_isWriting : Int32) (v_comers : Nat → Int32) (x1 : Int32) (out : Int32 × Int32 × (Nat → Int32)) (hf : f_X11_come v_comerMany v_comers x1 = some out) : MetR l yX11_come (Cond.code yX11_come cX11_come 2 (some .int) :: tbG) { frames := 2, cells := 0, slots := 0, locals := 45 } D (tyL cI cJ cZ cO) [.ref a_t, .int x1] [(a_t, .inr (11, [.ref a_signs, .int v_signMany, .int v_seats, .ref a_links, .ref a_worths, .int v_bearIs, .ref a_far, .ref a_mays, .ref a_rowsTo, .ref a_endIn, .long v_rowsAll, .ref a_ends, .ref a_pairSets, .ref a_awayIn, .ref a_now, .ref a_then, .long v_awayUpper, .long v_lower, .ref a_comers, .int v_comerMany, .ref a_seen, .ref a_seenMany, .int v_seenRows, .ref a_kept, .ref a_isKept, .int v_place, .int v_isWriting])), (a_comers, eI cI 12 v_comers)] (some (.int out.1)) [(a_t, .inr (11, [.ref a_signs, .int v_signMany, .int v_seats, .ref a_links, .ref a_worths, .int v_bearIs, .ref a_far, .ref a_mays, .ref a_rowsTo, .ref a_endIn, .long v_rowsAll, .ref a_ends, .ref a_pairSets, .ref a_awayIn, .ref a_now, .ref a_then, .long v_awayUpper, .long v_lower, .ref a_comers, .int out.2.1, .ref a_seen, .ref a_seenMany, .int v_seenRows, .ref a_kept, .ref a_isKept, .int v_place, .int v_isWriting])), (a_comers, eI cI 12 out.2.2)] := by
  refine ba_ofI RX11 [(0, .ref a_t), (1, .int x1)] (by decide +kernel) rfl (Nat.le_of_ble_eq_true rfl) rfl ?_
  intro p e s m args below meth c Q A Cx hP ret ls hl
  obtain ⟨⟨hx, hb, hml, hown, hts⟩, hK, hD, hA⟩ := id Cx
  have hS : va_S A s.heap s.heap [] := va_S.rf
  unfold f_X11_come at hf
  refine lv_iload_n hx hb dX11_come_0 rfl (lv_at hl 1 rfl) ?_
  obtain ⟨u1, hu1, hf⟩ := ob_b hf
  refine iv_X11_133 (As := [.int x1]) (rest := []) (is := []) (X' := [(a_t, .inr (11, [.ref a_signs, .int v_signMany, .int v_seats, .ref a_links, .ref a_worths, .int v_bearIs, .ref a_far, .ref a_mays, .ref a_rowsTo, .ref a_endIn, .long v_rowsAll, .ref a_ends, .ref a_pairSets, .ref a_awayIn, .ref a_now, .ref a_then, .long v_awayUpper, .long v_lower, .ref a_comers, .int v_comerMany, .ref a_seen, .ref a_seenMany, .int v_seenRows, .ref a_kept, .ref a_isKept, .int v_place, .int v_isWriting])), (a_comers, eI cI 12 v_comers)]) Cx (c_X11_isHabit l D cI cJ cZ cO  x1 u1 hu1) hP hS rfl rfl rfl rfl rfl rfl hl.1 (Nat.le_of_ble_eq_true rfl) dX11_come_1 rfl rfl ⟨Nat.le_of_ble_eq_true rfl, Nat.le_of_ble_eq_true rfl⟩ ⟨Nat.zero_le _, Nat.zero_le _⟩ rfl (fun H locs hP hS => ?_)
  refine lv_if_ne (tgt := 10) hx hb dX11_come_4 (by decide) (fun c2 => ?_) (fun c2 => ?_)
  · have hf := ob_f c2 hf
    refine lv_aload_n hx hb dX11_come_10 rfl (lv_at hl 0 rfl) ?_
    refine gf_X11_219 Cx hP 0 rfl rfl dX11_come_11 ?_
    refine lv_bipush (v := 12) hx hb dX11_come_14 (by decide) ?_
    refine lv_icmp_ne (tgt := 22) hx hb dX11_come_16 (by decide) (fun c3 => ?_) (fun c3 => ?_)
    · have hf := ob_f c3 hf
      refine lv_aload_n hx hb dX11_come_22 rfl (lv_at hl 0 rfl) ?_
      refine gf_X11_47 Cx hP 0 rfl rfl dX11_come_23 ?_
      refine lv_aload_n hx hb dX11_come_26 rfl (lv_at hl 0 rfl) ?_
      refine gf_X11_219 Cx hP 0 rfl rfl dX11_come_27 ?_
      refine lv_iload_n hx hb dX11_come_30 rfl (lv_at hl 1 rfl) ?_
      obtain ⟨u4, hu4, hf⟩ := ob_b hf
      refine ba_iast (X' := [(a_t, .inr (11, [.ref a_signs, .int v_signMany, .int v_seats, .ref a_links, .ref a_worths, .int v_bearIs, .ref a_far, .ref a_mays, .ref a_rowsTo, .ref a_endIn, .long v_rowsAll, .ref a_ends, .ref a_pairSets, .ref a_awayIn, .ref a_now, .ref a_then, .long v_awayUpper, .long v_lower, .ref a_comers, .int v_comerMany, .ref a_seen, .ref a_seenMany, .int v_seenRows, .ref a_kept, .ref a_isKept, .int v_place, .int v_isWriting])), (a_comers, eI cI 12 u4)]) Cx hP hS rfl 1 rfl rfl hu4 dX11_come_31 (fun H locs hP hS => ?_)
      refine lv_aload_n hx hb dX11_come_32 rfl (lv_at hl 0 rfl) ?_
      refine lv_dup hx hb dX11_come_33 rfl ?_
      refine gf_X11_219 Cx hP 0 rfl rfl dX11_come_34 ?_
      refine lv_iconst (v := 1) hx hb dX11_come_37 (by decide) ?_
      refine lv_iadd hx hb dX11_come_38 ?_
      refine pf_X11_219 (X' := [(a_t, .inr (11, [.ref a_signs, .int v_signMany, .int v_seats, .ref a_links, .ref a_worths, .int v_bearIs, .ref a_far, .ref a_mays, .ref a_rowsTo, .ref a_endIn, .long v_rowsAll, .ref a_ends, .ref a_pairSets, .ref a_awayIn, .ref a_now, .ref a_then, .long v_awayUpper, .long v_lower, .ref a_comers, .int (v_comerMany + (1 : Int32)), .ref a_seen, .ref a_seenMany, .int v_seenRows, .ref a_kept, .ref a_isKept, .int v_place, .int v_isWriting])), (a_comers, eI cI 12 u4)]) Cx hP hS rfl 0 rfl rfl (Nat.le_of_ble_eq_true rfl) dX11_come_39 (fun H locs hP hS => ?_)
      refine lv_aload_n hx hb dX11_come_42 rfl (lv_at hl 0 rfl) ?_
      refine gf_X11_219 Cx hP 0 rfl rfl dX11_come_43 ?_
      refine lv_iconst (v := 1) hx hb dX11_come_46 (by decide) ?_
      refine lv_isub hx hb dX11_come_47 ?_
      obtain rfl := Option.some.inj hf
      exact ret _ _ _ _ dX11_come_48 hP hS
    · have hf := ob_t c3 hf
      refine lv_bipush (v := (-4)) hx hb dX11_come_19 (by decide) ?_
      obtain rfl := Option.some.inj hf
      exact ret _ _ _ _ dX11_come_21 hP hS
  · have hf := ob_t c2 hf
    refine lv_bipush (v := (-2)) hx hb dX11_come_7 (by decide) ?_
    obtain rfl := Option.some.inj hf
    exact ret _ _ _ _ dX11_come_9 hP hS

def f_X11_forget (v_comerMany : Int32) : Option (Int32 × Int32) :=
  some (v_comerMany, (0 : Int32))
set_option maxHeartbeats 4000000 in
set_option maxRecDepth 100000 in
theorem c_X11_forget (l : Launch) (D : va_G) (cI cJ cZ cO : ClassId) (a_t a_signs a_links a_worths a_far a_mays a_rowsTo a_endIn a_ends a_pairSets a_awayIn a_now a_then a_comers a_seen a_seenMany a_kept a_isKept : Nat) (v_signMany : Int32) (v_seats : Int32) (v_bearIs : Int32) (v_rowsAll : Int64) (v_awayUpper : Int64) (v_lower : Int64) (v_comerMany : Int32) (v_seenRows : Int32) (v_place : Int32) (v_isWriting : Int32) (out : Int32 × Int32) (hf : f_X11_forget v_comerMany = some out) : MetR l yX11_forget (Cond.code yX11_forget cX11_forget 2 (some .int) :: tbG) { frames := 0, cells := 0, slots := 0, locals := 0 } D (tyL cI cJ cZ cO) [.ref a_t] [(a_t, .inr (11, [.ref a_signs, .int v_signMany, .int v_seats, .ref a_links, .ref a_worths, .int v_bearIs, .ref a_far, .ref a_mays, .ref a_rowsTo, .ref a_endIn, .long v_rowsAll, .ref a_ends, .ref a_pairSets, .ref a_awayIn, .ref a_now, .ref a_then, .long v_awayUpper, .long v_lower, .ref a_comers, .int v_comerMany, .ref a_seen, .ref a_seenMany, .int v_seenRows, .ref a_kept, .ref a_isKept, .int v_place, .int v_isWriting]))] (some (.int out.1)) [(a_t, .inr (11, [.ref a_signs, .int v_signMany, .int v_seats, .ref a_links, .ref a_worths, .int v_bearIs, .ref a_far, .ref a_mays, .ref a_rowsTo, .ref a_endIn, .long v_rowsAll, .ref a_ends, .ref a_pairSets, .ref a_awayIn, .ref a_now, .ref a_then, .long v_awayUpper, .long v_lower, .ref a_comers, .int out.2, .ref a_seen, .ref a_seenMany, .int v_seenRows, .ref a_kept, .ref a_isKept, .int v_place, .int v_isWriting]))] := by
  refine ba_ofI RX11 [(0, .ref a_t)] (by decide +kernel) rfl (Nat.le_of_ble_eq_true rfl) rfl ?_
  intro p e s m args below meth c Q A Cx hP ret ls hl
  obtain ⟨⟨hx, hb, hml, hown, hts⟩, hK, hD, hA⟩ := id Cx
  have hS : va_S A s.heap s.heap [] := va_S.rf
  unfold f_X11_forget at hf
  refine lv_aload_n hx hb dX11_forget_0 rfl (lv_at hl 0 rfl) ?_
  refine gf_X11_219 Cx hP 0 rfl rfl dX11_forget_1 ?_
  refine lv_istore_n (lv' := [(1, .int v_comerMany), (0, .ref a_t)]) hx hb dX11_forget_4 rfl hl (by decide) rfl (fun ls hl => ?_)
  refine lv_aload_n hx hb dX11_forget_5 rfl (lv_at hl 1 rfl) ?_
  refine lv_iconst (v := 0) hx hb dX11_forget_6 (by decide) ?_
  refine pf_X11_219 (X' := [(a_t, .inr (11, [.ref a_signs, .int v_signMany, .int v_seats, .ref a_links, .ref a_worths, .int v_bearIs, .ref a_far, .ref a_mays, .ref a_rowsTo, .ref a_endIn, .long v_rowsAll, .ref a_ends, .ref a_pairSets, .ref a_awayIn, .ref a_now, .ref a_then, .long v_awayUpper, .long v_lower, .ref a_comers, .int (0 : Int32), .ref a_seen, .ref a_seenMany, .int v_seenRows, .ref a_kept, .ref a_isKept, .int v_place, .int v_isWriting]))]) Cx hP hS rfl 0 rfl rfl (Nat.le_of_ble_eq_true rfl) dX11_forget_7 (fun H locs hP hS => ?_)
  refine lv_iload_n hx hb dX11_forget_10 rfl (lv_at hl 0 rfl) ?_
  obtain rfl := Option.some.inj hf
  exact ret _ _ _ _ dX11_forget_11 hP hS

def f_X11_sits_26 (v_seats : Int32) (v_bearIs : Int32) (v_comers : Nat → Int32) (v_far : Nat → Int32) (v_worths : Nat → Int32) (x1 : Int32) : Nat → Int32 → Int32 → Int32 → Option (Int32)
  | 0, _, _, _ => none
  | n + 1, y2_26, y3_26, y4_26 =>
  if x1 < y4_26 then
  some (y3_26)
  else
  (aget 12 v_comers y4_26).bind (fun u5 =>
  (f_X11_takenBy v_seats v_bearIs v_far v_worths y2_26 u5).bind (fun u6 =>
  (if 0 ≤ u6 then
  some ((1 : Int32) <<< (u6 &&& 31))
  else
  some (0 : Int32)).bind (fun w7 =>
  f_X11_sits_26 v_seats v_bearIs v_comers v_far v_worths x1 n (y2_26 ||| w7) u6 (y4_26 + 1))))
theorem f_X11_sits_26_s (v_seats : Int32) (v_bearIs : Int32) (v_comers : Nat → Int32) (v_far : Nat → Int32) (v_worths : Nat → Int32) (x1 : Int32) (n : Nat) (y2_26 : Int32) (y3_26 : Int32) (y4_26 : Int32) : f_X11_sits_26 v_seats v_bearIs v_comers v_far v_worths x1 (n + 1) y2_26 y3_26 y4_26 =
  (if x1 < y4_26 then
  some (y3_26)
  else
  (aget 12 v_comers y4_26).bind (fun u5 =>
  (f_X11_takenBy v_seats v_bearIs v_far v_worths y2_26 u5).bind (fun u6 =>
  (if 0 ≤ u6 then
  some ((1 : Int32) <<< (u6 &&& 31))
  else
  some (0 : Int32)).bind (fun w7 =>
  f_X11_sits_26 v_seats v_bearIs v_comers v_far v_worths x1 n (y2_26 ||| w7) u6 (y4_26 + 1))))) := rfl
def f_X11_sits (v_seats : Int32) (v_bearIs : Int32) (v_comerMany : Int32) (v_comers : Nat → Int32) (v_far : Nat → Int32) (v_worths : Nat → Int32) (x1 : Int32) : Option (Int32) :=
  (f_X11_in ((x1).toInt64) (0 : Int64) (((v_comerMany - (1 : Int32))).toInt64)).bind (fun u1 =>
  if u1 = 0 then
  some (-1 : Int32)
  else
  (f_X11_sits_26 v_seats v_bearIs v_comers v_far v_worths x1 FU (0 : Int32) (-6 : Int32) (0 : Int32)).bind (fun u10 =>
  some (u10)))
set_option maxHeartbeats 4000000 in
set_option maxRecDepth 100000 in
theorem c_X11_sits (l : Launch) (D : va_G) (cI cJ cZ cO : ClassId) (a_t a_signs a_links a_worths a_far a_mays a_rowsTo a_endIn a_ends a_pairSets a_awayIn a_now a_then a_comers a_seen a_seenMany a_kept a_isKept : Nat) (v_signMany : Int32) (v_seats : Int32) (v_bearIs : Int32) (v_rowsAll : Int64) (v_awayUpper : Int64) (v_lower : Int64) (v_comerMany : Int32) (v_seenRows : Int32) (v_place : Int32) (v_isWriting : Int32) (v_comers : Nat → Int32) (v_far : Nat → Int32) (v_worths : Nat → Int32) (x1 : Int32) (out : Int32) (hf : f_X11_sits v_seats v_bearIs v_comerMany v_comers v_far v_worths x1 = some out) : MetR l yX11_sits (Cond.code yX11_sits cX11_sits 5 (some .int) :: tbG) { frames := 4, cells := 0, slots := 0, locals := 96 } D (tyL cI cJ cZ cO) [.ref a_t, .int x1] [(a_t, .inr (11, [.ref a_signs, .int v_signMany, .int v_seats, .ref a_links, .ref a_worths, .int v_bearIs, .ref a_far, .ref a_mays, .ref a_rowsTo, .ref a_endIn, .long v_rowsAll, .ref a_ends, .ref a_pairSets, .ref a_awayIn, .ref a_now, .ref a_then, .long v_awayUpper, .long v_lower, .ref a_comers, .int v_comerMany, .ref a_seen, .ref a_seenMany, .int v_seenRows, .ref a_kept, .ref a_isKept, .int v_place, .int v_isWriting])), (a_comers, eI cI 12 v_comers), (a_far, eI cI 144 v_far), (a_worths, eI cI 12 v_worths)] (some (.int out)) [(a_t, .inr (11, [.ref a_signs, .int v_signMany, .int v_seats, .ref a_links, .ref a_worths, .int v_bearIs, .ref a_far, .ref a_mays, .ref a_rowsTo, .ref a_endIn, .long v_rowsAll, .ref a_ends, .ref a_pairSets, .ref a_awayIn, .ref a_now, .ref a_then, .long v_awayUpper, .long v_lower, .ref a_comers, .int v_comerMany, .ref a_seen, .ref a_seenMany, .int v_seenRows, .ref a_kept, .ref a_isKept, .int v_place, .int v_isWriting])), (a_comers, eI cI 12 v_comers), (a_far, eI cI 144 v_far), (a_worths, eI cI 12 v_worths)] := by
  refine ba_ofI RX11 [(0, .ref a_t), (1, .int x1)] (by decide +kernel) rfl (Nat.le_of_ble_eq_true rfl) rfl ?_
  intro p e s m args below meth c Q A Cx hP ret ls hl
  obtain ⟨⟨hx, hb, hml, hown, hts⟩, hK, hD, hA⟩ := id Cx
  have hS : va_S A s.heap s.heap [] := va_S.rf
  unfold f_X11_sits at hf
  refine lv_iload_n hx hb dX11_sits_0 rfl (lv_at hl 1 rfl) ?_
  refine lv_i2l (v := (x1).toInt64) hx hb dX11_sits_1 rfl ?_
  refine lv_lconst (v := 0) hx hb dX11_sits_2 (by decide) ?_
  refine lv_aload_n hx hb dX11_sits_3 rfl (lv_at hl 0 rfl) ?_
  refine gf_X11_219 Cx hP 0 rfl rfl dX11_sits_4 ?_
  refine lv_iconst (v := 1) hx hb dX11_sits_7 (by decide) ?_
  refine lv_isub hx hb dX11_sits_8 ?_
  refine lv_i2l (v := ((v_comerMany - (1 : Int32))).toInt64) hx hb dX11_sits_9 rfl ?_
  obtain ⟨u1, hu1, hf⟩ := ob_b hf
  refine iv_X11_74 (As := [.long ((x1).toInt64), .long (0 : Int64), .long (((v_comerMany - (1 : Int32))).toInt64)]) (rest := []) (is := []) (X' := [(a_t, .inr (11, [.ref a_signs, .int v_signMany, .int v_seats, .ref a_links, .ref a_worths, .int v_bearIs, .ref a_far, .ref a_mays, .ref a_rowsTo, .ref a_endIn, .long v_rowsAll, .ref a_ends, .ref a_pairSets, .ref a_awayIn, .ref a_now, .ref a_then, .long v_awayUpper, .long v_lower, .ref a_comers, .int v_comerMany, .ref a_seen, .ref a_seenMany, .int v_seenRows, .ref a_kept, .ref a_isKept, .int v_place, .int v_isWriting])), (a_comers, eI cI 12 v_comers), (a_far, eI cI 144 v_far), (a_worths, eI cI 12 v_worths)]) Cx (c_X11_in l D cI cJ cZ cO  ((x1).toInt64) (0 : Int64) (((v_comerMany - (1 : Int32))).toInt64) u1 hu1) hP hS rfl rfl rfl rfl rfl rfl hl.1 (Nat.le_of_ble_eq_true rfl) dX11_sits_10 rfl rfl ⟨Nat.le_of_ble_eq_true rfl, Nat.le_of_ble_eq_true rfl⟩ ⟨Nat.zero_le _, Nat.zero_le _⟩ rfl (fun H locs hP hS => ?_)
  refine lv_if_ne (tgt := 18) hx hb dX11_sits_13 (by decide) (fun c2 => ?_) (fun c2 => ?_)
  · have hf := ob_f c2 hf
    refine lv_iconst (v := 0) hx hb dX11_sits_18 (by decide) ?_
    refine lv_istore_n (lv' := [(2, .int (0 : Int32)), (0, .ref a_t), (1, .int x1)]) hx hb dX11_sits_19 rfl hl (by decide) rfl (fun ls hl => ?_)
    refine lv_bipush (v := (-6)) hx hb dX11_sits_20 (by decide) ?_
    refine lv_istore_n (lv' := [(3, .int (-6 : Int32)), (2, .int (0 : Int32)), (0, .ref a_t), (1, .int x1)]) hx hb dX11_sits_22 rfl hl (by decide) rfl (fun ls hl => ?_)
    refine lv_iconst (v := 0) hx hb dX11_sits_23 (by decide) ?_
    refine lv_istore (lv' := [(4, .int (0 : Int32)), (3, .int (-6 : Int32)), (2, .int (0 : Int32)), (0, .ref a_t), (1, .int x1)]) hx hb dX11_sits_24 hl (by decide) rfl (fun ls hl => ?_)
    have L26_3 : ∀ (n : Nat) (y2_26 : Int32) (y3_26 : Int32) (y4_26 : Int32) (o : Int32) (H : Heap) (locs : List Loc) (ls : Array Slot), f_X11_sits_26 v_seats v_bearIs v_comers v_far v_worths x1 n y2_26 y3_26 y4_26 = some o → va_P D vwCl [(a_t, .inr (11, [.ref a_signs, .int v_signMany, .int v_seats, .ref a_links, .ref a_worths, .int v_bearIs, .ref a_far, .ref a_mays, .ref a_rowsTo, .ref a_endIn, .long v_rowsAll, .ref a_ends, .ref a_pairSets, .ref a_awayIn, .ref a_now, .ref a_then, .long v_awayUpper, .long v_lower, .ref a_comers, .int v_comerMany, .ref a_seen, .ref a_seenMany, .int v_seenRows, .ref a_kept, .ref a_isKept, .int v_place, .int v_isWriting])), (a_comers, eI cI 12 v_comers), (a_far, eI cI 144 v_far), (a_worths, eI cI 12 v_worths)] H → va_S A s.heap H locs → lv_has ls 5 [(0, .ref a_t), (1, .int x1), (2, .int y2_26), (3, .int y3_26), (4, .int y4_26)] → (∀ (H : Heap) (locs : List Loc) (ls : Array Slot), va_P D vwCl [(a_t, .inr (11, [.ref a_signs, .int v_signMany, .int v_seats, .ref a_links, .ref a_worths, .int v_bearIs, .ref a_far, .ref a_mays, .ref a_rowsTo, .ref a_endIn, .long v_rowsAll, .ref a_ends, .ref a_pairSets, .ref a_awayIn, .ref a_now, .ref a_then, .long v_awayUpper, .long v_lower, .ref a_comers, .int v_comerMany, .ref a_seen, .ref a_seenMany, .int v_seenRows, .ref a_kept, .ref a_isKept, .int v_place, .int v_isWriting])), (a_comers, eI cI 12 v_comers), (a_far, eI cI 144 v_far), (a_worths, eI cI 12 v_worths)] H → va_S A s.heap H locs → lv_has ls 5 [(3, .int o)] → W p l e { frames := 4, cells := 0, slots := 0, locals := 96 } s m args below meth c H locs 0 0 Q (F0 m 65 ls [])) → W p l e { frames := 4, cells := 0, slots := 0, locals := 96 } s m args below meth c H locs 0 0 Q (F0 m 26 ls []) := by
      intro n
      induction n with
      | zero => intro y2_26 y3_26 y4_26 o H locs ls hf; exact (ob_n hf).elim
      | succ n ih =>
        intro y2_26 y3_26 y4_26 o H locs ls hf hP hS hl kk
        rw [f_X11_sits_26_s] at hf
        refine lv_iload hx hb dX11_sits_26 (lv_at hl 4 rfl) ?_
        refine lv_iload_n hx hb dX11_sits_28 rfl (lv_at hl 1 rfl) ?_
        refine lv_icmp_gt (tgt := 65) hx hb dX11_sits_29 (by decide) (fun c4 => ?_) (fun c4 => ?_)
        · have hf := ob_t c4 hf
          obtain rfl := Option.some.inj hf
          exact kk _ _ _ hP hS (lv_sub hl [3] rfl)
        · have hf := ob_f c4 hf
          refine lv_aload_n hx hb dX11_sits_32 rfl (lv_at hl 0 rfl) ?_
          refine lv_iload_n hx hb dX11_sits_33 rfl (lv_at hl 2 rfl) ?_
          refine lv_aload_n hx hb dX11_sits_34 rfl (lv_at hl 0 rfl) ?_
          refine gf_X11_47 Cx hP 0 rfl rfl dX11_sits_35 ?_
          refine lv_iload hx hb dX11_sits_38 (lv_at hl 4 rfl) ?_
          obtain ⟨u5, hu5, hf⟩ := ob_b hf
          refine ba_iald Cx hP 1 rfl hu5 dX11_sits_40 ?_
          obtain ⟨u6, hu6, hf⟩ := ob_b hf
          refine iv_X11_122 (As := [.int y2_26, .int u5]) (rest := []) (is := [0, 2, 3]) (q0 := 0) (X' := [(a_t, .inr (11, [.ref a_signs, .int v_signMany, .int v_seats, .ref a_links, .ref a_worths, .int v_bearIs, .ref a_far, .ref a_mays, .ref a_rowsTo, .ref a_endIn, .long v_rowsAll, .ref a_ends, .ref a_pairSets, .ref a_awayIn, .ref a_now, .ref a_then, .long v_awayUpper, .long v_lower, .ref a_comers, .int v_comerMany, .ref a_seen, .ref a_seenMany, .int v_seenRows, .ref a_kept, .ref a_isKept, .int v_place, .int v_isWriting])), (a_comers, eI cI 12 v_comers), (a_far, eI cI 144 v_far), (a_worths, eI cI 12 v_worths)]) Cx (c_X11_takenBy l D cI cJ cZ cO a_t a_signs a_links a_worths a_far a_mays a_rowsTo a_endIn a_ends a_pairSets a_awayIn a_now a_then a_comers a_seen a_seenMany a_kept a_isKept v_signMany v_seats v_bearIs v_rowsAll v_awayUpper v_lower v_comerMany v_seenRows v_place v_isWriting v_far v_worths y2_26 u5 u6 hu6) hP hS rfl rfl rfl rfl rfl rfl rfl hl.1 (Nat.le_of_ble_eq_true rfl) dX11_sits_41 rfl rfl ⟨Nat.le_of_ble_eq_true rfl, Nat.le_of_ble_eq_true rfl⟩ ⟨Nat.zero_le _, Nat.zero_le _⟩ rfl (fun H locs hP hS => ?_)
          refine lv_istore_n (lv' := [(3, .int u6), (0, .ref a_t), (1, .int x1), (2, .int y2_26), (4, .int y4_26)]) hx hb dX11_sits_44 rfl hl (by decide) rfl (fun ls hl => ?_)
          refine lv_iload_n hx hb dX11_sits_45 rfl (lv_at hl 3 rfl) ?_
          refine lv_iload_n hx hb dX11_sits_46 rfl (lv_at hl 0 rfl) ?_
          refine ob_J (P := fun w7 => ∀ (H : Heap) (locs : List Loc) (ls : Array Slot), va_P D vwCl [(a_t, .inr (11, [.ref a_signs, .int v_signMany, .int v_seats, .ref a_links, .ref a_worths, .int v_bearIs, .ref a_far, .ref a_mays, .ref a_rowsTo, .ref a_endIn, .long v_rowsAll, .ref a_ends, .ref a_pairSets, .ref a_awayIn, .ref a_now, .ref a_then, .long v_awayUpper, .long v_lower, .ref a_comers, .int v_comerMany, .ref a_seen, .ref a_seenMany, .int v_seenRows, .ref a_kept, .ref a_isKept, .int v_place, .int v_isWriting])), (a_comers, eI cI 12 v_comers), (a_far, eI cI 144 v_far), (a_worths, eI cI 12 v_worths)] H → va_S A s.heap H locs → lv_has ls 5 [(0, .ref a_t), (1, .int x1), (3, .int u6), (4, .int y4_26)] → W p l e { frames := 4, cells := 0, slots := 0, locals := 96 } s m args below meth c H locs 0 0 Q (F0 m 57 ls [.int w7, .int y2_26])) hf ?_ ?_
          · intro w7 hf H locs ls hP hS hl
            refine lv_ior hx hb dX11_sits_57 ?_
            refine lv_istore_n (lv' := [(2, .int (y2_26 ||| w7)), (0, .ref a_t), (1, .int x1), (3, .int u6), (4, .int y4_26)]) hx hb dX11_sits_58 rfl hl (by decide) rfl (fun ls hl => ?_)
            refine lv_iinc (v := (y4_26 + 1)) (lv' := [(4, .int (y4_26 + 1)), (2, .int (y2_26 ||| w7)), (0, .ref a_t), (1, .int x1), (3, .int u6)]) hx hb dX11_sits_59 hl (k := 4) rfl rfl (by decide) rfl (fun ls hl => ?_)
            refine lv_goto (tgt := 26) hx hb dX11_sits_62 (by decide) ?_
            exact ih (y2_26 ||| w7) u6 (y4_26 + 1) _ _ _ _ hf hP hS (lv_sub hl [2, 3, 1, 4, 0] rfl) kk
          · intro J57_8 hf
            refine lv_if_ge (tgt := 54) hx hb dX11_sits_47 (by decide) (fun c9 => ?_) (fun c9 => ?_)
            · have hf := ob_tk c9 hf
              refine lv_iconst (v := 1) hx hb dX11_sits_54 (by decide) ?_
              refine lv_iload_n hx hb dX11_sits_55 rfl (lv_at hl 0 rfl) ?_
              refine lv_ishl hx hb dX11_sits_56 ?_
              exact J57_8 ((1 : Int32) <<< (u6 &&& 31)) hf _ _ _ hP hS (lv_sub hl [1, 2, 0, 4] rfl)
            · have hf := ob_fk c9 hf
              refine lv_iconst (v := 0) hx hb dX11_sits_50 (by decide) ?_
              refine lv_goto (tgt := 57) hx hb dX11_sits_51 (by decide) ?_
              exact J57_8 (0 : Int32) hf _ _ _ hP hS (lv_sub hl [1, 2, 0, 4] rfl)
    obtain ⟨u10, hu10, hf⟩ := ob_b hf
    refine L26_3 FU (0 : Int32) (-6 : Int32) (0 : Int32) u10 _ _ _ hu10 hP hS (lv_sub hl [3, 4, 2, 1, 0] rfl) ?_
    intro H locs ls hP hS hl
    refine lv_iload_n hx hb dX11_sits_65 rfl (lv_at hl 0 rfl) ?_
    obtain rfl := Option.some.inj hf
    exact ret _ _ _ _ dX11_sits_66 hP hS
  · have hf := ob_t c2 hf
    refine lv_iconst (v := (-1)) hx hb dX11_sits_16 (by decide) ?_
    obtain rfl := Option.some.inj hf
    exact ret _ _ _ _ dX11_sits_17 hP hS

def f_X11_begin (v_seenRows : Int32) (v_seenMany : Nat → Int32) : Option (Int32 × Int32 × (Nat → Int32)) :=
  if v_seenRows = (8 : Int32) then
  some ((-4 : Int32), v_seenRows, v_seenMany)
  else
  (asetI 8 v_seenMany v_seenRows (0 : Int32)).bind (fun u2 =>
  some (((v_seenRows + (1 : Int32)) - (1 : Int32)), (v_seenRows + (1 : Int32)), u2))
set_option maxHeartbeats 4000000 in
set_option maxRecDepth 100000 in
theorem c_X11_begin (l : Launch) (D : va_G) (cI cJ cZ cO : ClassId) (a_t a_signs a_links a_worths a_far a_mays a_rowsTo a_endIn a_ends a_pairSets a_awayIn a_now a_then a_comers a_seen a_seenMany a_kept a_isKept : Nat) (v_signMany : Int32) (v_seats : Int32) (v_bearIs : Int32) (v_rowsAll : Int64) (v_awayUpper : Int64) (v_lower : Int64) (v_comerMany : Int32) (v_seenRows : Int32) (v_place : Int32) (v_isWriting : Int32) (v_seenMany : Nat → Int32) (out : Int32 × Int32 × (Nat → Int32)) (hf : f_X11_begin v_seenRows v_seenMany = some out) : MetR l yX11_begin (Cond.code yX11_begin cX11_begin 1 (some .int) :: tbG) { frames := 0, cells := 0, slots := 0, locals := 0 } D (tyL cI cJ cZ cO) [.ref a_t] [(a_t, .inr (11, [.ref a_signs, .int v_signMany, .int v_seats, .ref a_links, .ref a_worths, .int v_bearIs, .ref a_far, .ref a_mays, .ref a_rowsTo, .ref a_endIn, .long v_rowsAll, .ref a_ends, .ref a_pairSets, .ref a_awayIn, .ref a_now, .ref a_then, .long v_awayUpper, .long v_lower, .ref a_comers, .int v_comerMany, .ref a_seen, .ref a_seenMany, .int v_seenRows, .ref a_kept, .ref a_isKept, .int v_place, .int v_isWriting])), (a_seenMany, eI cI 8 v_seenMany)] (some (.int out.1)) [(a_t, .inr (11, [.ref a_signs, .int v_signMany, .int v_seats, .ref a_links, .ref a_worths, .int v_bearIs, .ref a_far, .ref a_mays, .ref a_rowsTo, .ref a_endIn, .long v_rowsAll, .ref a_ends, .ref a_pairSets, .ref a_awayIn, .ref a_now, .ref a_then, .long v_awayUpper, .long v_lower, .ref a_comers, .int v_comerMany, .ref a_seen, .ref a_seenMany, .int out.2.1, .ref a_kept, .ref a_isKept, .int v_place, .int v_isWriting])), (a_seenMany, eI cI 8 out.2.2)] := by
  refine ba_ofI RX11 [(0, .ref a_t)] (by decide +kernel) rfl (Nat.le_of_ble_eq_true rfl) rfl ?_
  intro p e s m args below meth c Q A Cx hP ret ls hl
  obtain ⟨⟨hx, hb, hml, hown, hts⟩, hK, hD, hA⟩ := id Cx
  have hS : va_S A s.heap s.heap [] := va_S.rf
  unfold f_X11_begin at hf
  refine lv_aload_n hx hb dX11_begin_0 rfl (lv_at hl 0 rfl) ?_
  refine gf_X11_89 Cx hP 0 rfl rfl dX11_begin_1 ?_
  refine lv_bipush (v := 8) hx hb dX11_begin_4 (by decide) ?_
  refine lv_icmp_ne (tgt := 12) hx hb dX11_begin_6 (by decide) (fun c1 => ?_) (fun c1 => ?_)
  · have hf := ob_f c1 hf
    refine lv_aload_n hx hb dX11_begin_12 rfl (lv_at hl 0 rfl) ?_
    refine gf_X11_53 Cx hP 0 rfl rfl dX11_begin_13 ?_
    refine lv_aload_n hx hb dX11_begin_16 rfl (lv_at hl 0 rfl) ?_
    refine gf_X11_89 Cx hP 0 rfl rfl dX11_begin_17 ?_
    refine lv_iconst (v := 0) hx hb dX11_begin_20 (by decide) ?_
    obtain ⟨u2, hu2, hf⟩ := ob_b hf
    refine ba_iast (X' := [(a_t, .inr (11, [.ref a_signs, .int v_signMany, .int v_seats, .ref a_links, .ref a_worths, .int v_bearIs, .ref a_far, .ref a_mays, .ref a_rowsTo, .ref a_endIn, .long v_rowsAll, .ref a_ends, .ref a_pairSets, .ref a_awayIn, .ref a_now, .ref a_then, .long v_awayUpper, .long v_lower, .ref a_comers, .int v_comerMany, .ref a_seen, .ref a_seenMany, .int v_seenRows, .ref a_kept, .ref a_isKept, .int v_place, .int v_isWriting])), (a_seenMany, eI cI 8 u2)]) Cx hP hS rfl 1 rfl rfl hu2 dX11_begin_21 (fun H locs hP hS => ?_)
    refine lv_aload_n hx hb dX11_begin_22 rfl (lv_at hl 0 rfl) ?_
    refine lv_dup hx hb dX11_begin_23 rfl ?_
    refine gf_X11_89 Cx hP 0 rfl rfl dX11_begin_24 ?_
    refine lv_iconst (v := 1) hx hb dX11_begin_27 (by decide) ?_
    refine lv_iadd hx hb dX11_begin_28 ?_
    refine pf_X11_89 (X' := [(a_t, .inr (11, [.ref a_signs, .int v_signMany, .int v_seats, .ref a_links, .ref a_worths, .int v_bearIs, .ref a_far, .ref a_mays, .ref a_rowsTo, .ref a_endIn, .long v_rowsAll, .ref a_ends, .ref a_pairSets, .ref a_awayIn, .ref a_now, .ref a_then, .long v_awayUpper, .long v_lower, .ref a_comers, .int v_comerMany, .ref a_seen, .ref a_seenMany, .int (v_seenRows + (1 : Int32)), .ref a_kept, .ref a_isKept, .int v_place, .int v_isWriting])), (a_seenMany, eI cI 8 u2)]) Cx hP hS rfl 0 rfl rfl (Nat.le_of_ble_eq_true rfl) dX11_begin_29 (fun H locs hP hS => ?_)
    refine lv_aload_n hx hb dX11_begin_32 rfl (lv_at hl 0 rfl) ?_
    refine gf_X11_89 Cx hP 0 rfl rfl dX11_begin_33 ?_
    refine lv_iconst (v := 1) hx hb dX11_begin_36 (by decide) ?_
    refine lv_isub hx hb dX11_begin_37 ?_
    obtain rfl := Option.some.inj hf
    exact ret _ _ _ _ dX11_begin_38 hP hS
  · have hf := ob_t c1 hf
    refine lv_bipush (v := (-4)) hx hb dX11_begin_9 (by decide) ?_
    obtain rfl := Option.some.inj hf
    exact ret _ _ _ _ dX11_begin_11 hP hS

def f_X11_seenSet_5 (v_seen : Nat → Int32) (x1 : Int32) (x2 : Int32) : Nat → Int32 → Int32 → Option (Int32)
  | 0, _, _ => none
  | n + 1, y3_5, y4_5 =>
  if x2 ≤ y4_5 then
  some (y3_5)
  else
  (aget 96 v_seen (((12 : Int32) * x1) + y4_5)).bind (fun u3 =>
  f_X11_seenSet_5 v_seen x1 x2 n (y3_5 ||| ((1 : Int32) <<< (u3 &&& 31))) (y4_5 + 1))
theorem f_X11_seenSet_5_s (v_seen : Nat → Int32) (x1 : Int32) (x2 : Int32) (n : Nat) (y3_5 : Int32) (y4_5 : Int32) : f_X11_seenSet_5 v_seen x1 x2 (n + 1) y3_5 y4_5 =
  (if x2 ≤ y4_5 then
  some (y3_5)
  else
  (aget 96 v_seen (((12 : Int32) * x1) + y4_5)).bind (fun u3 =>
  f_X11_seenSet_5 v_seen x1 x2 n (y3_5 ||| ((1 : Int32) <<< (u3 &&& 31))) (y4_5 + 1))) := rfl
def f_X11_seenSet (v_seen : Nat → Int32) (x1 : Int32) (x2 : Int32) : Option (Int32) :=
  (f_X11_seenSet_5 v_seen x1 x2 FU (0 : Int32) (0 : Int32)).bind (fun u4 =>
  some (u4))
set_option maxHeartbeats 4000000 in
set_option maxRecDepth 100000 in
theorem c_X11_seenSet (l : Launch) (D : va_G) (cI cJ cZ cO : ClassId) (a_t a_signs a_links a_worths a_far a_mays a_rowsTo a_endIn a_ends a_pairSets a_awayIn a_now a_then a_comers a_seen a_seenMany a_kept a_isKept : Nat) (v_signMany : Int32) (v_seats : Int32) (v_bearIs : Int32) (v_rowsAll : Int64) (v_awayUpper : Int64) (v_lower : Int64) (v_comerMany : Int32) (v_seenRows : Int32) (v_place : Int32) (v_isWriting : Int32) (v_seen : Nat → Int32) (x1 : Int32) (x2 : Int32) (out : Int32) (hf : f_X11_seenSet v_seen x1 x2 = some out) : MetR l yX11_seenSet (Cond.code yX11_seenSet cX11_seenSet 5 (some .int) :: tbG) { frames := 0, cells := 0, slots := 0, locals := 0 } D (tyL cI cJ cZ cO) [.ref a_t, .int x1, .int x2] [(a_t, .inr (11, [.ref a_signs, .int v_signMany, .int v_seats, .ref a_links, .ref a_worths, .int v_bearIs, .ref a_far, .ref a_mays, .ref a_rowsTo, .ref a_endIn, .long v_rowsAll, .ref a_ends, .ref a_pairSets, .ref a_awayIn, .ref a_now, .ref a_then, .long v_awayUpper, .long v_lower, .ref a_comers, .int v_comerMany, .ref a_seen, .ref a_seenMany, .int v_seenRows, .ref a_kept, .ref a_isKept, .int v_place, .int v_isWriting])), (a_seen, eI cI 96 v_seen)] (some (.int out)) [(a_t, .inr (11, [.ref a_signs, .int v_signMany, .int v_seats, .ref a_links, .ref a_worths, .int v_bearIs, .ref a_far, .ref a_mays, .ref a_rowsTo, .ref a_endIn, .long v_rowsAll, .ref a_ends, .ref a_pairSets, .ref a_awayIn, .ref a_now, .ref a_then, .long v_awayUpper, .long v_lower, .ref a_comers, .int v_comerMany, .ref a_seen, .ref a_seenMany, .int v_seenRows, .ref a_kept, .ref a_isKept, .int v_place, .int v_isWriting])), (a_seen, eI cI 96 v_seen)] := by
  refine ba_ofI RX11 [(0, .ref a_t), (1, .int x1), (2, .int x2)] (by decide +kernel) rfl (Nat.le_of_ble_eq_true rfl) rfl ?_
  intro p e s m args below meth c Q A Cx hP ret ls hl
  obtain ⟨⟨hx, hb, hml, hown, hts⟩, hK, hD, hA⟩ := id Cx
  have hS : va_S A s.heap s.heap [] := va_S.rf
  unfold f_X11_seenSet at hf
  refine lv_iconst (v := 0) hx hb dX11_seenSet_0 (by decide) ?_
  refine lv_istore_n (lv' := [(3, .int (0 : Int32)), (0, .ref a_t), (1, .int x1), (2, .int x2)]) hx hb dX11_seenSet_1 rfl hl (by decide) rfl (fun ls hl => ?_)
  refine lv_iconst (v := 0) hx hb dX11_seenSet_2 (by decide) ?_
  refine lv_istore (lv' := [(4, .int (0 : Int32)), (3, .int (0 : Int32)), (0, .ref a_t), (1, .int x1), (2, .int x2)]) hx hb dX11_seenSet_3 hl (by decide) rfl (fun ls hl => ?_)
  have L5_1 : ∀ (n : Nat) (y3_5 : Int32) (y4_5 : Int32) (o : Int32) (H : Heap) (locs : List Loc) (ls : Array Slot), f_X11_seenSet_5 v_seen x1 x2 n y3_5 y4_5 = some o → va_P D vwCl [(a_t, .inr (11, [.ref a_signs, .int v_signMany, .int v_seats, .ref a_links, .ref a_worths, .int v_bearIs, .ref a_far, .ref a_mays, .ref a_rowsTo, .ref a_endIn, .long v_rowsAll, .ref a_ends, .ref a_pairSets, .ref a_awayIn, .ref a_now, .ref a_then, .long v_awayUpper, .long v_lower, .ref a_comers, .int v_comerMany, .ref a_seen, .ref a_seenMany, .int v_seenRows, .ref a_kept, .ref a_isKept, .int v_place, .int v_isWriting])), (a_seen, eI cI 96 v_seen)] H → va_S A s.heap H locs → lv_has ls 5 [(0, .ref a_t), (1, .int x1), (2, .int x2), (3, .int y3_5), (4, .int y4_5)] → (∀ (H : Heap) (locs : List Loc) (ls : Array Slot), va_P D vwCl [(a_t, .inr (11, [.ref a_signs, .int v_signMany, .int v_seats, .ref a_links, .ref a_worths, .int v_bearIs, .ref a_far, .ref a_mays, .ref a_rowsTo, .ref a_endIn, .long v_rowsAll, .ref a_ends, .ref a_pairSets, .ref a_awayIn, .ref a_now, .ref a_then, .long v_awayUpper, .long v_lower, .ref a_comers, .int v_comerMany, .ref a_seen, .ref a_seenMany, .int v_seenRows, .ref a_kept, .ref a_isKept, .int v_place, .int v_isWriting])), (a_seen, eI cI 96 v_seen)] H → va_S A s.heap H locs → lv_has ls 5 [(3, .int o)] → W p l e { frames := 0, cells := 0, slots := 0, locals := 0 } s m args below meth c H locs 0 0 Q (F0 m 34 ls [])) → W p l e { frames := 0, cells := 0, slots := 0, locals := 0 } s m args below meth c H locs 0 0 Q (F0 m 5 ls []) := by
    intro n
    induction n with
    | zero => intro y3_5 y4_5 o H locs ls hf; exact (ob_n hf).elim
    | succ n ih =>
      intro y3_5 y4_5 o H locs ls hf hP hS hl kk
      rw [f_X11_seenSet_5_s] at hf
      refine lv_iload hx hb dX11_seenSet_5 (lv_at hl 4 rfl) ?_
      refine lv_iload_n hx hb dX11_seenSet_7 rfl (lv_at hl 2 rfl) ?_
      refine lv_icmp_ge (tgt := 34) hx hb dX11_seenSet_8 (by decide) (fun c2 => ?_) (fun c2 => ?_)
      · have hf := ob_t c2 hf
        obtain rfl := Option.some.inj hf
        exact kk _ _ _ hP hS (lv_sub hl [3] rfl)
      · have hf := ob_f c2 hf
        refine lv_iload_n hx hb dX11_seenSet_11 rfl (lv_at hl 3 rfl) ?_
        refine lv_iconst (v := 1) hx hb dX11_seenSet_12 (by decide) ?_
        refine lv_aload_n hx hb dX11_seenSet_13 rfl (lv_at hl 0 rfl) ?_
        refine gf_X11_50 Cx hP 0 rfl rfl dX11_seenSet_14 ?_
        refine lv_bipush (v := 12) hx hb dX11_seenSet_17 (by decide) ?_
        refine lv_iload_n hx hb dX11_seenSet_19 rfl (lv_at hl 1 rfl) ?_
        refine lv_imul hx hb dX11_seenSet_20 ?_
        refine lv_iload hx hb dX11_seenSet_21 (lv_at hl 4 rfl) ?_
        refine lv_iadd hx hb dX11_seenSet_23 ?_
        obtain ⟨u3, hu3, hf⟩ := ob_b hf
        refine ba_iald Cx hP 1 rfl hu3 dX11_seenSet_24 ?_
        refine lv_ishl hx hb dX11_seenSet_25 ?_
        refine lv_ior hx hb dX11_seenSet_26 ?_
        refine lv_istore_n (lv' := [(3, .int (y3_5 ||| ((1 : Int32) <<< (u3 &&& 31)))), (0, .ref a_t), (1, .int x1), (2, .int x2), (4, .int y4_5)]) hx hb dX11_seenSet_27 rfl hl (by decide) rfl (fun ls hl => ?_)
        refine lv_iinc (v := (y4_5 + 1)) (lv' := [(4, .int (y4_5 + 1)), (3, .int (y3_5 ||| ((1 : Int32) <<< (u3 &&& 31)))), (0, .ref a_t), (1, .int x1), (2, .int x2)]) hx hb dX11_seenSet_28 hl (k := 4) rfl rfl (by decide) rfl (fun ls hl => ?_)
        refine lv_goto (tgt := 5) hx hb dX11_seenSet_31 (by decide) ?_
        exact ih (y3_5 ||| ((1 : Int32) <<< (u3 &&& 31))) (y4_5 + 1) _ _ _ _ hf hP hS (lv_sub hl [2, 3, 4, 1, 0] rfl) kk
  obtain ⟨u4, hu4, hf⟩ := ob_b hf
  refine L5_1 FU (0 : Int32) (0 : Int32) u4 _ _ _ hu4 hP hS (lv_sub hl [2, 3, 4, 1, 0] rfl) ?_
  intro H locs ls hP hS hl
  refine lv_iload_n hx hb dX11_seenSet_34 rfl (lv_at hl 0 rfl) ?_
  obtain rfl := Option.some.inj hf
  exact ret _ _ _ _ dX11_seenSet_35 hP hS

def f_X11_see (v_seats : Int32) (v_bearIs : Int32) (v_seenRows : Int32) (v_seenMany : Nat → Int32) (v_seen : Nat → Int32) (v_far : Nat → Int32) (x1 : Int32) : Option (Int32 × (Nat → Int32) × (Nat → Int32)) :=
  (f_X11_isSeat v_seats x1).bind (fun u1 =>
  if u1 = 0 then
  some ((-1 : Int32), v_seenMany, v_seen)
  else
  if v_seenRows = 0 then
  some ((-3 : Int32), v_seenMany, v_seen)
  else
  (aget 8 v_seenMany (v_seenRows - (1 : Int32))).bind (fun u4 =>
  (f_X11_seenSet v_seen (v_seenRows - (1 : Int32)) u4).bind (fun u5 =>
  (f_X11_mayOf v_seats v_bearIs v_far u5).bind (fun u6 =>
  if ((u6 >>> (x1 &&& 31)) &&& (1 : Int32)) = 0 then
  some ((-5 : Int32), v_seenMany, v_seen)
  else
  (aget 8 v_seenMany (v_seenRows - (1 : Int32))).bind (fun u8 =>
  (asetI 96 v_seen (((12 : Int32) * (v_seenRows - (1 : Int32))) + u8) x1).bind (fun u9 =>
  (aget 8 v_seenMany (v_seenRows - (1 : Int32))).bind (fun u10 =>
  (asetI 8 v_seenMany (v_seenRows - (1 : Int32)) (u10 + (1 : Int32))).bind (fun u11 =>
  (aget 8 u11 (v_seenRows - (1 : Int32))).bind (fun u12 =>
  some (u12, u11, u9))))))))))
set_option maxHeartbeats 4000000 in
set_option maxRecDepth 100000 in
theorem c_X11_see (l : Launch) (D : va_G) (cI cJ cZ cO : ClassId) (a_t a_signs a_links a_worths a_far a_mays a_rowsTo a_endIn a_ends a_pairSets a_awayIn a_now a_then a_comers a_seen a_seenMany a_kept a_isKept : Nat) (v_signMany : Int32) (v_seats : Int32) (v_bearIs : Int32) (v_rowsAll : Int64) (v_awayUpper : Int64) (v_lower : Int64) (v_comerMany : Int32) (v_seenRows : Int32) (v_place : Int32) (v_isWriting : Int32) (v_seenMany : Nat → Int32) (v_seen : Nat → Int32) (v_far : Nat → Int32) (x1 : Int32) (out : Int32 × (Nat → Int32) × (Nat → Int32)) (hf : f_X11_see v_seats v_bearIs v_seenRows v_seenMany v_seen v_far x1 = some out) : MetR l yX11_see (Cond.code yX11_see cX11_see 3 (some .int) :: tbG) { frames := 3, cells := 0, slots := 0, locals := 68 } D (tyL cI cJ cZ cO) [.ref a_t, .int x1] [(a_t, .inr (11, [.ref a_signs, .int v_signMany, .int v_seats, .ref a_links, .ref a_worths, .int v_bearIs, .ref a_far, .ref a_mays, .ref a_rowsTo, .ref a_endIn, .long v_rowsAll, .ref a_ends, .ref a_pairSets, .ref a_awayIn, .ref a_now, .ref a_then, .long v_awayUpper, .long v_lower, .ref a_comers, .int v_comerMany, .ref a_seen, .ref a_seenMany, .int v_seenRows, .ref a_kept, .ref a_isKept, .int v_place, .int v_isWriting])), (a_seenMany, eI cI 8 v_seenMany), (a_seen, eI cI 96 v_seen), (a_far, eI cI 144 v_far)] (some (.int out.1)) [(a_t, .inr (11, [.ref a_signs, .int v_signMany, .int v_seats, .ref a_links, .ref a_worths, .int v_bearIs, .ref a_far, .ref a_mays, .ref a_rowsTo, .ref a_endIn, .long v_rowsAll, .ref a_ends, .ref a_pairSets, .ref a_awayIn, .ref a_now, .ref a_then, .long v_awayUpper, .long v_lower, .ref a_comers, .int v_comerMany, .ref a_seen, .ref a_seenMany, .int v_seenRows, .ref a_kept, .ref a_isKept, .int v_place, .int v_isWriting])), (a_seenMany, eI cI 8 out.2.1), (a_seen, eI cI 96 out.2.2), (a_far, eI cI 144 v_far)] := by
  refine ba_ofI RX11 [(0, .ref a_t), (1, .int x1)] (by decide +kernel) rfl (Nat.le_of_ble_eq_true rfl) rfl ?_
  intro p e s m args below meth c Q A Cx hP ret ls hl
  obtain ⟨⟨hx, hb, hml, hown, hts⟩, hK, hD, hA⟩ := id Cx
  have hS : va_S A s.heap s.heap [] := va_S.rf
  unfold f_X11_see at hf
  refine lv_aload_n hx hb dX11_see_0 rfl (lv_at hl 0 rfl) ?_
  refine lv_iload_n hx hb dX11_see_1 rfl (lv_at hl 1 rfl) ?_
  obtain ⟨u1, hu1, hf⟩ := ob_b hf
  refine iv_X11_100 (As := [.int x1]) (rest := []) (is := [0]) (q0 := 0) (X' := [(a_t, .inr (11, [.ref a_signs, .int v_signMany, .int v_seats, .ref a_links, .ref a_worths, .int v_bearIs, .ref a_far, .ref a_mays, .ref a_rowsTo, .ref a_endIn, .long v_rowsAll, .ref a_ends, .ref a_pairSets, .ref a_awayIn, .ref a_now, .ref a_then, .long v_awayUpper, .long v_lower, .ref a_comers, .int v_comerMany, .ref a_seen, .ref a_seenMany, .int v_seenRows, .ref a_kept, .ref a_isKept, .int v_place, .int v_isWriting])), (a_seenMany, eI cI 8 v_seenMany), (a_seen, eI cI 96 v_seen), (a_far, eI cI 144 v_far)]) Cx (c_X11_isSeat l D cI cJ cZ cO a_t a_signs a_links a_worths a_far a_mays a_rowsTo a_endIn a_ends a_pairSets a_awayIn a_now a_then a_comers a_seen a_seenMany a_kept a_isKept v_signMany v_seats v_bearIs v_rowsAll v_awayUpper v_lower v_comerMany v_seenRows v_place v_isWriting x1 u1 hu1) hP hS rfl rfl rfl rfl rfl rfl rfl hl.1 (Nat.le_of_ble_eq_true rfl) dX11_see_2 rfl rfl ⟨Nat.le_of_ble_eq_true rfl, Nat.le_of_ble_eq_true rfl⟩ ⟨Nat.zero_le _, Nat.zero_le _⟩ rfl (fun H locs hP hS => ?_)
  refine lv_if_ne (tgt := 10) hx hb dX11_see_5 (by decide) (fun c2 => ?_) (fun c2 => ?_)
  · have hf := ob_f c2 hf
    refine lv_aload_n hx hb dX11_see_10 rfl (lv_at hl 0 rfl) ?_
    refine gf_X11_89 Cx hP 0 rfl rfl dX11_see_11 ?_
    refine lv_if_ne (tgt := 20) hx hb dX11_see_14 (by decide) (fun c3 => ?_) (fun c3 => ?_)
    · have hf := ob_f c3 hf
      refine lv_aload_n hx hb dX11_see_20 rfl (lv_at hl 0 rfl) ?_
      refine gf_X11_89 Cx hP 0 rfl rfl dX11_see_21 ?_
      refine lv_iconst (v := 1) hx hb dX11_see_24 (by decide) ?_
      refine lv_isub hx hb dX11_see_25 ?_
      refine lv_istore_n (lv' := [(2, .int (v_seenRows - (1 : Int32))), (0, .ref a_t), (1, .int x1)]) hx hb dX11_see_26 rfl hl (by decide) rfl (fun ls hl => ?_)
      refine lv_aload_n hx hb dX11_see_27 rfl (lv_at hl 1 rfl) ?_
      refine lv_aload_n hx hb dX11_see_28 rfl (lv_at hl 1 rfl) ?_
      refine lv_iload_n hx hb dX11_see_29 rfl (lv_at hl 0 rfl) ?_
      refine lv_aload_n hx hb dX11_see_30 rfl (lv_at hl 1 rfl) ?_
      refine gf_X11_53 Cx hP 0 rfl rfl dX11_see_31 ?_
      refine lv_iload_n hx hb dX11_see_34 rfl (lv_at hl 0 rfl) ?_
      obtain ⟨u4, hu4, hf⟩ := ob_b hf
      refine ba_iald Cx hP 1 rfl hu4 dX11_see_35 ?_
      obtain ⟨u5, hu5, hf⟩ := ob_b hf
      refine iv_X11_222 (As := [.int (v_seenRows - (1 : Int32)), .int u4]) (rest := [.ref a_t]) (is := [0, 2]) (q0 := 0) (X' := [(a_t, .inr (11, [.ref a_signs, .int v_signMany, .int v_seats, .ref a_links, .ref a_worths, .int v_bearIs, .ref a_far, .ref a_mays, .ref a_rowsTo, .ref a_endIn, .long v_rowsAll, .ref a_ends, .ref a_pairSets, .ref a_awayIn, .ref a_now, .ref a_then, .long v_awayUpper, .long v_lower, .ref a_comers, .int v_comerMany, .ref a_seen, .ref a_seenMany, .int v_seenRows, .ref a_kept, .ref a_isKept, .int v_place, .int v_isWriting])), (a_seenMany, eI cI 8 v_seenMany), (a_seen, eI cI 96 v_seen), (a_far, eI cI 144 v_far)]) Cx (c_X11_seenSet l D cI cJ cZ cO a_t a_signs a_links a_worths a_far a_mays a_rowsTo a_endIn a_ends a_pairSets a_awayIn a_now a_then a_comers a_seen a_seenMany a_kept a_isKept v_signMany v_seats v_bearIs v_rowsAll v_awayUpper v_lower v_comerMany v_seenRows v_place v_isWriting v_seen (v_seenRows - (1 : Int32)) u4 u5 hu5) hP hS rfl rfl rfl rfl rfl rfl rfl hl.1 (Nat.le_of_ble_eq_true rfl) dX11_see_36 rfl rfl ⟨Nat.le_of_ble_eq_true rfl, Nat.le_of_ble_eq_true rfl⟩ ⟨Nat.zero_le _, Nat.zero_le _⟩ rfl (fun H locs hP hS => ?_)
      obtain ⟨u6, hu6, hf⟩ := ob_b hf
      refine iv_X11_115 (As := [.int u5]) (rest := []) (is := [0, 3]) (q0 := 0) (X' := [(a_t, .inr (11, [.ref a_signs, .int v_signMany, .int v_seats, .ref a_links, .ref a_worths, .int v_bearIs, .ref a_far, .ref a_mays, .ref a_rowsTo, .ref a_endIn, .long v_rowsAll, .ref a_ends, .ref a_pairSets, .ref a_awayIn, .ref a_now, .ref a_then, .long v_awayUpper, .long v_lower, .ref a_comers, .int v_comerMany, .ref a_seen, .ref a_seenMany, .int v_seenRows, .ref a_kept, .ref a_isKept, .int v_place, .int v_isWriting])), (a_seenMany, eI cI 8 v_seenMany), (a_seen, eI cI 96 v_seen), (a_far, eI cI 144 v_far)]) Cx (c_X11_mayOf l D cI cJ cZ cO a_t a_signs a_links a_worths a_far a_mays a_rowsTo a_endIn a_ends a_pairSets a_awayIn a_now a_then a_comers a_seen a_seenMany a_kept a_isKept v_signMany v_seats v_bearIs v_rowsAll v_awayUpper v_lower v_comerMany v_seenRows v_place v_isWriting v_far u5 u6 hu6) hP hS rfl rfl rfl rfl rfl rfl rfl hl.1 (Nat.le_of_ble_eq_true rfl) dX11_see_39 rfl rfl ⟨Nat.le_of_ble_eq_true rfl, Nat.le_of_ble_eq_true rfl⟩ ⟨Nat.zero_le _, Nat.zero_le _⟩ rfl (fun H locs hP hS => ?_)
      refine lv_iload_n hx hb dX11_see_42 rfl (lv_at hl 2 rfl) ?_
      refine lv_ishr hx hb dX11_see_43 ?_
      refine lv_iconst (v := 1) hx hb dX11_see_44 (by decide) ?_
      refine lv_iand hx hb dX11_see_45 ?_
      refine lv_if_ne (tgt := 52) hx hb dX11_see_46 (by decide) (fun c7 => ?_) (fun c7 => ?_)
      · have hf := ob_f c7 hf
        refine lv_aload_n hx hb dX11_see_52 rfl (lv_at hl 1 rfl) ?_
        refine gf_X11_50 Cx hP 0 rfl rfl dX11_see_53 ?_
        refine lv_bipush (v := 12) hx hb dX11_see_56 (by decide) ?_
        refine lv_iload_n hx hb dX11_see_58 rfl (lv_at hl 0 rfl) ?_
        refine lv_imul hx hb dX11_see_59 ?_
        refine lv_aload_n hx hb dX11_see_60 rfl (lv_at hl 1 rfl) ?_
        refine gf_X11_53 Cx hP 0 rfl rfl dX11_see_61 ?_
        refine lv_iload_n hx hb dX11_see_64 rfl (lv_at hl 0 rfl) ?_
        obtain ⟨u8, hu8, hf⟩ := ob_b hf
        refine ba_iald Cx hP 1 rfl hu8 dX11_see_65 ?_
        refine lv_iadd hx hb dX11_see_66 ?_
        refine lv_iload_n hx hb dX11_see_67 rfl (lv_at hl 2 rfl) ?_
        obtain ⟨u9, hu9, hf⟩ := ob_b hf
        refine ba_iast (X' := [(a_t, .inr (11, [.ref a_signs, .int v_signMany, .int v_seats, .ref a_links, .ref a_worths, .int v_bearIs, .ref a_far, .ref a_mays, .ref a_rowsTo, .ref a_endIn, .long v_rowsAll, .ref a_ends, .ref a_pairSets, .ref a_awayIn, .ref a_now, .ref a_then, .long v_awayUpper, .long v_lower, .ref a_comers, .int v_comerMany, .ref a_seen, .ref a_seenMany, .int v_seenRows, .ref a_kept, .ref a_isKept, .int v_place, .int v_isWriting])), (a_seenMany, eI cI 8 v_seenMany), (a_seen, eI cI 96 u9), (a_far, eI cI 144 v_far)]) Cx hP hS rfl 2 rfl rfl hu9 dX11_see_68 (fun H locs hP hS => ?_)
        refine lv_aload_n hx hb dX11_see_69 rfl (lv_at hl 1 rfl) ?_
        refine gf_X11_53 Cx hP 0 rfl rfl dX11_see_70 ?_
        refine lv_iload_n hx hb dX11_see_73 rfl (lv_at hl 0 rfl) ?_
        refine lv_dup2_11 hx hb dX11_see_74 rfl rfl ?_
        obtain ⟨u10, hu10, hf⟩ := ob_b hf
        refine ba_iald Cx hP 1 rfl hu10 dX11_see_75 ?_
        refine lv_iconst (v := 1) hx hb dX11_see_76 (by decide) ?_
        refine lv_iadd hx hb dX11_see_77 ?_
        obtain ⟨u11, hu11, hf⟩ := ob_b hf
        refine ba_iast (X' := [(a_t, .inr (11, [.ref a_signs, .int v_signMany, .int v_seats, .ref a_links, .ref a_worths, .int v_bearIs, .ref a_far, .ref a_mays, .ref a_rowsTo, .ref a_endIn, .long v_rowsAll, .ref a_ends, .ref a_pairSets, .ref a_awayIn, .ref a_now, .ref a_then, .long v_awayUpper, .long v_lower, .ref a_comers, .int v_comerMany, .ref a_seen, .ref a_seenMany, .int v_seenRows, .ref a_kept, .ref a_isKept, .int v_place, .int v_isWriting])), (a_seenMany, eI cI 8 u11), (a_seen, eI cI 96 u9), (a_far, eI cI 144 v_far)]) Cx hP hS rfl 1 rfl rfl hu11 dX11_see_78 (fun H locs hP hS => ?_)
        refine lv_aload_n hx hb dX11_see_79 rfl (lv_at hl 1 rfl) ?_
        refine gf_X11_53 Cx hP 0 rfl rfl dX11_see_80 ?_
        refine lv_iload_n hx hb dX11_see_83 rfl (lv_at hl 0 rfl) ?_
        obtain ⟨u12, hu12, hf⟩ := ob_b hf
        refine ba_iald Cx hP 1 rfl hu12 dX11_see_84 ?_
        obtain rfl := Option.some.inj hf
        exact ret _ _ _ _ dX11_see_85 hP hS
      · have hf := ob_t c7 hf
        refine lv_bipush (v := (-5)) hx hb dX11_see_49 (by decide) ?_
        obtain rfl := Option.some.inj hf
        exact ret _ _ _ _ dX11_see_51 hP hS
    · have hf := ob_t c3 hf
      refine lv_bipush (v := (-3)) hx hb dX11_see_17 (by decide) ?_
      obtain rfl := Option.some.inj hf
      exact ret _ _ _ _ dX11_see_19 hP hS
  · have hf := ob_t c2 hf
    refine lv_iconst (v := (-1)) hx hb dX11_see_8 (by decide) ?_
    obtain rfl := Option.some.inj hf
    exact ret _ _ _ _ dX11_see_9 hP hS

def f_X11_judged_12 (v_seats : Int32) (v_bearIs : Int32) (v_seenMany : Nat → Int32) (v_seen : Nat → Int32) (v_far : Nat → Int32) (v_worths : Nat → Int32) (x1 : Int32) (y2_2 : Int32) : Nat → Int32 → Option ((Unit) ⊕ (Int32))
  | 0, _ => none
  | n + 1, y3_12 =>
  (aget 8 v_seenMany y2_2).bind (fun u4 =>
  if u4 ≤ y3_12 then
  some (Sum.inl ())
  else
  (f_X11_seenSet v_seen y2_2 y3_12).bind (fun u6 =>
  (f_X11_takenBy v_seats v_bearIs v_far v_worths u6 x1).bind (fun u7 =>
  (aget 96 v_seen (((12 : Int32) * y2_2) + y3_12)).bind (fun u8 =>
  if u7 = u8 then
  f_X11_judged_12 v_seats v_bearIs v_seenMany v_seen v_far v_worths x1 y2_2 n (y3_12 + 1)
  else
  some (Sum.inr (((100 : Int32) * y2_2) + y3_12))))))
theorem f_X11_judged_12_s (v_seats : Int32) (v_bearIs : Int32) (v_seenMany : Nat → Int32) (v_seen : Nat → Int32) (v_far : Nat → Int32) (v_worths : Nat → Int32) (x1 : Int32) (y2_2 : Int32) (n : Nat) (y3_12 : Int32) : f_X11_judged_12 v_seats v_bearIs v_seenMany v_seen v_far v_worths x1 y2_2 (n + 1) y3_12 =
  ((aget 8 v_seenMany y2_2).bind (fun u4 =>
  if u4 ≤ y3_12 then
  some (Sum.inl ())
  else
  (f_X11_seenSet v_seen y2_2 y3_12).bind (fun u6 =>
  (f_X11_takenBy v_seats v_bearIs v_far v_worths u6 x1).bind (fun u7 =>
  (aget 96 v_seen (((12 : Int32) * y2_2) + y3_12)).bind (fun u8 =>
  if u7 = u8 then
  f_X11_judged_12 v_seats v_bearIs v_seenMany v_seen v_far v_worths x1 y2_2 n (y3_12 + 1)
  else
  some (Sum.inr (((100 : Int32) * y2_2) + y3_12))))))) := rfl
def f_X11_judged_2 (v_seats : Int32) (v_bearIs : Int32) (v_seenRows : Int32) (v_seenMany : Nat → Int32) (v_seen : Nat → Int32) (v_far : Nat → Int32) (v_worths : Nat → Int32) (x1 : Int32) : Nat → Int32 → Option ((Unit) ⊕ (Int32))
  | 0, _ => none
  | n + 1, y2_2 =>
  if v_seenRows ≤ y2_2 then
  some (Sum.inl ())
  else
  (f_X11_judged_12 v_seats v_bearIs v_seenMany v_seen v_far v_worths x1 y2_2 FU (0 : Int32)).bind (fun u10 => Sum.elim (fun w11 =>
  f_X11_judged_2 v_seats v_bearIs v_seenRows v_seenMany v_seen v_far v_worths x1 n (y2_2 + 1)) (fun r => some (Sum.inr r)) u10)
theorem f_X11_judged_2_s (v_seats : Int32) (v_bearIs : Int32) (v_seenRows : Int32) (v_seenMany : Nat → Int32) (v_seen : Nat → Int32) (v_far : Nat → Int32) (v_worths : Nat → Int32) (x1 : Int32) (n : Nat) (y2_2 : Int32) : f_X11_judged_2 v_seats v_bearIs v_seenRows v_seenMany v_seen v_far v_worths x1 (n + 1) y2_2 =
  (if v_seenRows ≤ y2_2 then
  some (Sum.inl ())
  else
  (f_X11_judged_12 v_seats v_bearIs v_seenMany v_seen v_far v_worths x1 y2_2 FU (0 : Int32)).bind (fun u10 => Sum.elim (fun w11 =>
  f_X11_judged_2 v_seats v_bearIs v_seenRows v_seenMany v_seen v_far v_worths x1 n (y2_2 + 1)) (fun r => some (Sum.inr r)) u10)) := rfl
def f_X11_judged (v_seats : Int32) (v_bearIs : Int32) (v_seenRows : Int32) (v_seenMany : Nat → Int32) (v_seen : Nat → Int32) (v_far : Nat → Int32) (v_worths : Nat → Int32) (x1 : Int32) : Option (Int32) :=
  (f_X11_judged_2 v_seats v_bearIs v_seenRows v_seenMany v_seen v_far v_worths x1 FU (0 : Int32)).bind (fun u12 => Sum.elim (fun w13 =>
  some (-6 : Int32)) (fun r => some r) u12)
set_option maxHeartbeats 4000000 in
set_option maxRecDepth 100000 in
theorem c_X11_judged (l : Launch) (D : va_G) (cI cJ cZ cO : ClassId) (a_t a_signs a_links a_worths a_far a_mays a_rowsTo a_endIn a_ends a_pairSets a_awayIn a_now a_then a_comers a_seen a_seenMany a_kept a_isKept : Nat) (v_signMany : Int32) (v_seats : Int32) (v_bearIs : Int32) (v_rowsAll : Int64) (v_awayUpper : Int64) (v_lower : Int64) (v_comerMany : Int32) (v_seenRows : Int32) (v_place : Int32) (v_isWriting : Int32) (v_seenMany : Nat → Int32) (v_seen : Nat → Int32) (v_far : Nat → Int32) (v_worths : Nat → Int32) (x1 : Int32) (out : Int32) (hf : f_X11_judged v_seats v_bearIs v_seenRows v_seenMany v_seen v_far v_worths x1 = some out) : MetR l yX11_judged (Cond.code yX11_judged cX11_judged 4 (some .int) :: tbG) { frames := 4, cells := 0, slots := 0, locals := 96 } D (tyL cI cJ cZ cO) [.ref a_t, .int x1] [(a_t, .inr (11, [.ref a_signs, .int v_signMany, .int v_seats, .ref a_links, .ref a_worths, .int v_bearIs, .ref a_far, .ref a_mays, .ref a_rowsTo, .ref a_endIn, .long v_rowsAll, .ref a_ends, .ref a_pairSets, .ref a_awayIn, .ref a_now, .ref a_then, .long v_awayUpper, .long v_lower, .ref a_comers, .int v_comerMany, .ref a_seen, .ref a_seenMany, .int v_seenRows, .ref a_kept, .ref a_isKept, .int v_place, .int v_isWriting])), (a_seenMany, eI cI 8 v_seenMany), (a_seen, eI cI 96 v_seen), (a_far, eI cI 144 v_far), (a_worths, eI cI 12 v_worths)] (some (.int out)) [(a_t, .inr (11, [.ref a_signs, .int v_signMany, .int v_seats, .ref a_links, .ref a_worths, .int v_bearIs, .ref a_far, .ref a_mays, .ref a_rowsTo, .ref a_endIn, .long v_rowsAll, .ref a_ends, .ref a_pairSets, .ref a_awayIn, .ref a_now, .ref a_then, .long v_awayUpper, .long v_lower, .ref a_comers, .int v_comerMany, .ref a_seen, .ref a_seenMany, .int v_seenRows, .ref a_kept, .ref a_isKept, .int v_place, .int v_isWriting])), (a_seenMany, eI cI 8 v_seenMany), (a_seen, eI cI 96 v_seen), (a_far, eI cI 144 v_far), (a_worths, eI cI 12 v_worths)] := by
  refine ba_ofI RX11 [(0, .ref a_t), (1, .int x1)] (by decide +kernel) rfl (Nat.le_of_ble_eq_true rfl) rfl ?_
  intro p e s m args below meth c Q A Cx hP ret ls hl
  obtain ⟨⟨hx, hb, hml, hown, hts⟩, hK, hD, hA⟩ := id Cx
  have hS : va_S A s.heap s.heap [] := va_S.rf
  unfold f_X11_judged at hf
  refine lv_iconst (v := 0) hx hb dX11_judged_0 (by decide) ?_
  refine lv_istore_n (lv' := [(2, .int (0 : Int32)), (0, .ref a_t), (1, .int x1)]) hx hb dX11_judged_1 rfl hl (by decide) rfl (fun ls hl => ?_)
  have L2_1 : ∀ (n : Nat) (y2_2 : Int32) (o : (Unit) ⊕ (Int32)) (H : Heap) (locs : List Loc) (ls : Array Slot), f_X11_judged_2 v_seats v_bearIs v_seenRows v_seenMany v_seen v_far v_worths x1 n y2_2 = some o → va_P D vwCl [(a_t, .inr (11, [.ref a_signs, .int v_signMany, .int v_seats, .ref a_links, .ref a_worths, .int v_bearIs, .ref a_far, .ref a_mays, .ref a_rowsTo, .ref a_endIn, .long v_rowsAll, .ref a_ends, .ref a_pairSets, .ref a_awayIn, .ref a_now, .ref a_then, .long v_awayUpper, .long v_lower, .ref a_comers, .int v_comerMany, .ref a_seen, .ref a_seenMany, .int v_seenRows, .ref a_kept, .ref a_isKept, .int v_place, .int v_isWriting])), (a_seenMany, eI cI 8 v_seenMany), (a_seen, eI cI 96 v_seen), (a_far, eI cI 144 v_far), (a_worths, eI cI 12 v_worths)] H → va_S A s.heap H locs → lv_has ls 4 [(0, .ref a_t), (1, .int x1), (2, .int y2_2)] → (∀ w, o = Sum.inl w → ∀ (H : Heap) (locs : List Loc) (ls : Array Slot), va_P D vwCl [(a_t, .inr (11, [.ref a_signs, .int v_signMany, .int v_seats, .ref a_links, .ref a_worths, .int v_bearIs, .ref a_far, .ref a_mays, .ref a_rowsTo, .ref a_endIn, .long v_rowsAll, .ref a_ends, .ref a_pairSets, .ref a_awayIn, .ref a_now, .ref a_then, .long v_awayUpper, .long v_lower, .ref a_comers, .int v_comerMany, .ref a_seen, .ref a_seenMany, .int v_seenRows, .ref a_kept, .ref a_isKept, .int v_place, .int v_isWriting])), (a_seenMany, eI cI 8 v_seenMany), (a_seen, eI cI 96 v_seen), (a_far, eI cI 144 v_far), (a_worths, eI cI 12 v_worths)] H → va_S A s.heap H locs → lv_has ls 4 [] → W p l e { frames := 4, cells := 0, slots := 0, locals := 96 } s m args below meth c H locs 0 0 Q (F0 m 66 ls [])) → (∀ r, o = Sum.inr r → ∀ (pc : Nat) (H : Heap) (locs : List Loc) (ls : Array Slot), decode cX11_judged pc = .ok (.ireturn, 1) → va_P D vwCl [(a_t, .inr (11, [.ref a_signs, .int v_signMany, .int v_seats, .ref a_links, .ref a_worths, .int v_bearIs, .ref a_far, .ref a_mays, .ref a_rowsTo, .ref a_endIn, .long v_rowsAll, .ref a_ends, .ref a_pairSets, .ref a_awayIn, .ref a_now, .ref a_then, .long v_awayUpper, .long v_lower, .ref a_comers, .int v_comerMany, .ref a_seen, .ref a_seenMany, .int v_seenRows, .ref a_kept, .ref a_isKept, .int v_place, .int v_isWriting])), (a_seenMany, eI cI 8 v_seenMany), (a_seen, eI cI 96 v_seen), (a_far, eI cI 144 v_far), (a_worths, eI cI 12 v_worths)] H → va_S A s.heap H locs → W p l e { frames := 4, cells := 0, slots := 0, locals := 96 } s m args below meth c H locs 0 0 Q (F0 m pc ls [.int r])) → W p l e { frames := 4, cells := 0, slots := 0, locals := 96 } s m args below meth c H locs 0 0 Q (F0 m 2 ls []) := by
    intro n
    induction n with
    | zero => intro y2_2 o H locs ls hf; exact (ob_n hf).elim
    | succ n ih =>
      intro y2_2 o H locs ls hf hP hS hl kk kr
      rw [f_X11_judged_2_s] at hf
      refine lv_iload_n hx hb dX11_judged_2 rfl (lv_at hl 2 rfl) ?_
      refine lv_aload_n hx hb dX11_judged_3 rfl (lv_at hl 0 rfl) ?_
      refine gf_X11_89 Cx hP 0 rfl rfl dX11_judged_4 ?_
      refine lv_icmp_ge (tgt := 66) hx hb dX11_judged_7 (by decide) (fun c2 => ?_) (fun c2 => ?_)
      · have hf := ob_t c2 hf
        obtain rfl := Option.some.inj hf
        exact kk _ rfl _ _ _ hP hS (lv_sub hl [] rfl)
      · have hf := ob_f c2 hf
        refine lv_iconst (v := 0) hx hb dX11_judged_10 (by decide) ?_
        refine lv_istore_n (lv' := [(3, .int (0 : Int32)), (0, .ref a_t), (1, .int x1), (2, .int y2_2)]) hx hb dX11_judged_11 rfl hl (by decide) rfl (fun ls hl => ?_)
        have L12_3 : ∀ (n : Nat) (y3_12 : Int32) (o : (Unit) ⊕ (Int32)) (H : Heap) (locs : List Loc) (ls : Array Slot), f_X11_judged_12 v_seats v_bearIs v_seenMany v_seen v_far v_worths x1 y2_2 n y3_12 = some o → va_P D vwCl [(a_t, .inr (11, [.ref a_signs, .int v_signMany, .int v_seats, .ref a_links, .ref a_worths, .int v_bearIs, .ref a_far, .ref a_mays, .ref a_rowsTo, .ref a_endIn, .long v_rowsAll, .ref a_ends, .ref a_pairSets, .ref a_awayIn, .ref a_now, .ref a_then, .long v_awayUpper, .long v_lower, .ref a_comers, .int v_comerMany, .ref a_seen, .ref a_seenMany, .int v_seenRows, .ref a_kept, .ref a_isKept, .int v_place, .int v_isWriting])), (a_seenMany, eI cI 8 v_seenMany), (a_seen, eI cI 96 v_seen), (a_far, eI cI 144 v_far), (a_worths, eI cI 12 v_worths)] H → va_S A s.heap H locs → lv_has ls 4 [(0, .ref a_t), (1, .int x1), (2, .int y2_2), (3, .int y3_12)] → (∀ w, o = Sum.inl w → ∀ (H : Heap) (locs : List Loc) (ls : Array Slot), va_P D vwCl [(a_t, .inr (11, [.ref a_signs, .int v_signMany, .int v_seats, .ref a_links, .ref a_worths, .int v_bearIs, .ref a_far, .ref a_mays, .ref a_rowsTo, .ref a_endIn, .long v_rowsAll, .ref a_ends, .ref a_pairSets, .ref a_awayIn, .ref a_now, .ref a_then, .long v_awayUpper, .long v_lower, .ref a_comers, .int v_comerMany, .ref a_seen, .ref a_seenMany, .int v_seenRows, .ref a_kept, .ref a_isKept, .int v_place, .int v_isWriting])), (a_seenMany, eI cI 8 v_seenMany), (a_seen, eI cI 96 v_seen), (a_far, eI cI 144 v_far), (a_worths, eI cI 12 v_worths)] H → va_S A s.heap H locs → lv_has ls 4 [(0, .ref a_t), (1, .int x1), (2, .int y2_2)] → W p l e { frames := 4, cells := 0, slots := 0, locals := 96 } s m args below meth c H locs 0 0 Q (F0 m 60 ls [])) → (∀ r, o = Sum.inr r → ∀ (pc : Nat) (H : Heap) (locs : List Loc) (ls : Array Slot), decode cX11_judged pc = .ok (.ireturn, 1) → va_P D vwCl [(a_t, .inr (11, [.ref a_signs, .int v_signMany, .int v_seats, .ref a_links, .ref a_worths, .int v_bearIs, .ref a_far, .ref a_mays, .ref a_rowsTo, .ref a_endIn, .long v_rowsAll, .ref a_ends, .ref a_pairSets, .ref a_awayIn, .ref a_now, .ref a_then, .long v_awayUpper, .long v_lower, .ref a_comers, .int v_comerMany, .ref a_seen, .ref a_seenMany, .int v_seenRows, .ref a_kept, .ref a_isKept, .int v_place, .int v_isWriting])), (a_seenMany, eI cI 8 v_seenMany), (a_seen, eI cI 96 v_seen), (a_far, eI cI 144 v_far), (a_worths, eI cI 12 v_worths)] H → va_S A s.heap H locs → W p l e { frames := 4, cells := 0, slots := 0, locals := 96 } s m args below meth c H locs 0 0 Q (F0 m pc ls [.int r])) → W p l e { frames := 4, cells := 0, slots := 0, locals := 96 } s m args below meth c H locs 0 0 Q (F0 m 12 ls []) := by
          intro n
          induction n with
          | zero => intro y3_12 o H locs ls hf; exact (ob_n hf).elim
          | succ n ih =>
            intro y3_12 o H locs ls hf hP hS hl kk kr
            rw [f_X11_judged_12_s] at hf
            refine lv_iload_n hx hb dX11_judged_12 rfl (lv_at hl 3 rfl) ?_
            refine lv_aload_n hx hb dX11_judged_13 rfl (lv_at hl 0 rfl) ?_
            refine gf_X11_53 Cx hP 0 rfl rfl dX11_judged_14 ?_
            refine lv_iload_n hx hb dX11_judged_17 rfl (lv_at hl 2 rfl) ?_
            obtain ⟨u4, hu4, hf⟩ := ob_b hf
            refine ba_iald Cx hP 1 rfl hu4 dX11_judged_18 ?_
            refine lv_icmp_ge (tgt := 60) hx hb dX11_judged_19 (by decide) (fun c5 => ?_) (fun c5 => ?_)
            · have hf := ob_t c5 hf
              obtain rfl := Option.some.inj hf
              exact kk _ rfl _ _ _ hP hS (lv_sub hl [0, 1, 2] rfl)
            · have hf := ob_f c5 hf
              refine lv_aload_n hx hb dX11_judged_22 rfl (lv_at hl 0 rfl) ?_
              refine lv_aload_n hx hb dX11_judged_23 rfl (lv_at hl 0 rfl) ?_
              refine lv_iload_n hx hb dX11_judged_24 rfl (lv_at hl 2 rfl) ?_
              refine lv_iload_n hx hb dX11_judged_25 rfl (lv_at hl 3 rfl) ?_
              obtain ⟨u6, hu6, hf⟩ := ob_b hf
              refine iv_X11_222 (As := [.int y2_2, .int y3_12]) (rest := [.ref a_t]) (is := [0, 2]) (q0 := 0) (X' := [(a_t, .inr (11, [.ref a_signs, .int v_signMany, .int v_seats, .ref a_links, .ref a_worths, .int v_bearIs, .ref a_far, .ref a_mays, .ref a_rowsTo, .ref a_endIn, .long v_rowsAll, .ref a_ends, .ref a_pairSets, .ref a_awayIn, .ref a_now, .ref a_then, .long v_awayUpper, .long v_lower, .ref a_comers, .int v_comerMany, .ref a_seen, .ref a_seenMany, .int v_seenRows, .ref a_kept, .ref a_isKept, .int v_place, .int v_isWriting])), (a_seenMany, eI cI 8 v_seenMany), (a_seen, eI cI 96 v_seen), (a_far, eI cI 144 v_far), (a_worths, eI cI 12 v_worths)]) Cx (c_X11_seenSet l D cI cJ cZ cO a_t a_signs a_links a_worths a_far a_mays a_rowsTo a_endIn a_ends a_pairSets a_awayIn a_now a_then a_comers a_seen a_seenMany a_kept a_isKept v_signMany v_seats v_bearIs v_rowsAll v_awayUpper v_lower v_comerMany v_seenRows v_place v_isWriting v_seen y2_2 y3_12 u6 hu6) hP hS rfl rfl rfl rfl rfl rfl rfl hl.1 (Nat.le_of_ble_eq_true rfl) dX11_judged_26 rfl rfl ⟨Nat.le_of_ble_eq_true rfl, Nat.le_of_ble_eq_true rfl⟩ ⟨Nat.zero_le _, Nat.zero_le _⟩ rfl (fun H locs hP hS => ?_)
              refine lv_iload_n hx hb dX11_judged_29 rfl (lv_at hl 1 rfl) ?_
              obtain ⟨u7, hu7, hf⟩ := ob_b hf
              refine iv_X11_122 (As := [.int u6, .int x1]) (rest := []) (is := [0, 3, 4]) (q0 := 0) (X' := [(a_t, .inr (11, [.ref a_signs, .int v_signMany, .int v_seats, .ref a_links, .ref a_worths, .int v_bearIs, .ref a_far, .ref a_mays, .ref a_rowsTo, .ref a_endIn, .long v_rowsAll, .ref a_ends, .ref a_pairSets, .ref a_awayIn, .ref a_now, .ref a_then, .long v_awayUpper, .long v_lower, .ref a_comers, .int v_comerMany, .ref a_seen, .ref a_seenMany, .int v_seenRows, .ref a_kept, .ref a_isKept, .int v_place, .int v_isWriting])), (a_seenMany, eI cI 8 v_seenMany), (a_seen, eI cI 96 v_seen), (a_far, eI cI 144 v_far), (a_worths, eI cI 12 v_worths)]) Cx (c_X11_takenBy l D cI cJ cZ cO a_t a_signs a_links a_worths a_far a_mays a_rowsTo a_endIn a_ends a_pairSets a_awayIn a_now a_then a_comers a_seen a_seenMany a_kept a_isKept v_signMany v_seats v_bearIs v_rowsAll v_awayUpper v_lower v_comerMany v_seenRows v_place v_isWriting v_far v_worths u6 x1 u7 hu7) hP hS rfl rfl rfl rfl rfl rfl rfl hl.1 (Nat.le_of_ble_eq_true rfl) dX11_judged_30 rfl rfl ⟨Nat.le_of_ble_eq_true rfl, Nat.le_of_ble_eq_true rfl⟩ ⟨Nat.zero_le _, Nat.zero_le _⟩ rfl (fun H locs hP hS => ?_)
              refine lv_aload_n hx hb dX11_judged_33 rfl (lv_at hl 0 rfl) ?_
              refine gf_X11_50 Cx hP 0 rfl rfl dX11_judged_34 ?_
              refine lv_bipush (v := 12) hx hb dX11_judged_37 (by decide) ?_
              refine lv_iload_n hx hb dX11_judged_39 rfl (lv_at hl 2 rfl) ?_
              refine lv_imul hx hb dX11_judged_40 ?_
              refine lv_iload_n hx hb dX11_judged_41 rfl (lv_at hl 3 rfl) ?_
              refine lv_iadd hx hb dX11_judged_42 ?_
              obtain ⟨u8, hu8, hf⟩ := ob_b hf
              refine ba_iald Cx hP 2 rfl hu8 dX11_judged_43 ?_
              refine lv_icmp_eq (tgt := 54) hx hb dX11_judged_44 (by decide) (fun c9 => ?_) (fun c9 => ?_)
              · have hf := ob_t c9 hf
                refine lv_iinc (v := (y3_12 + 1)) (lv' := [(3, .int (y3_12 + 1)), (0, .ref a_t), (1, .int x1), (2, .int y2_2)]) hx hb dX11_judged_54 hl (k := 3) rfl rfl (by decide) rfl (fun ls hl => ?_)
                refine lv_goto (tgt := 12) hx hb dX11_judged_57 (by decide) ?_
                exact ih (y3_12 + 1) _ _ _ _ hf hP hS (lv_sub hl [1, 2, 3, 0] rfl) kk kr
              · have hf := ob_f c9 hf
                refine lv_bipush (v := 100) hx hb dX11_judged_47 (by decide) ?_
                refine lv_iload_n hx hb dX11_judged_49 rfl (lv_at hl 2 rfl) ?_
                refine lv_imul hx hb dX11_judged_50 ?_
                refine lv_iload_n hx hb dX11_judged_51 rfl (lv_at hl 3 rfl) ?_
                refine lv_iadd hx hb dX11_judged_52 ?_
                obtain rfl := Option.some.inj hf
                exact kr _ rfl _ _ _ _ dX11_judged_53 hP hS
        obtain ⟨u10, hu10, hf⟩ := ob_b hf
        refine L12_3 FU (0 : Int32) u10 _ _ _ hu10 hP hS (lv_sub hl [1, 2, 3, 0] rfl) ?_ ?_
        · intro w11 hw H locs ls hP hS hl
          rw [hw] at hf
          have hf := ob_l hf
          refine lv_iinc (v := (y2_2 + 1)) (lv' := [(2, .int (y2_2 + 1)), (0, .ref a_t), (1, .int x1)]) hx hb dX11_judged_60 hl (k := 2) rfl rfl (by decide) rfl (fun ls hl => ?_)
          refine lv_goto (tgt := 2) hx hb dX11_judged_63 (by decide) ?_
          exact ih (y2_2 + 1) _ _ _ _ hf hP hS (lv_sub hl [1, 2, 0] rfl) kk kr
        · intro r hr pc H locs ls hd hP hS
          rw [hr] at hf
          have hf := ob_r hf
          obtain rfl := Option.some.inj hf
          exact kr _ rfl _ _ _ _ hd hP hS
  obtain ⟨u12, hu12, hf⟩ := ob_b hf
  refine L2_1 FU (0 : Int32) u12 _ _ _ hu12 hP hS (lv_sub hl [1, 2, 0] rfl) ?_ ?_
  · intro w13 hw H locs ls hP hS hl
    rw [hw] at hf
    have hf := ob_l hf
    refine lv_bipush (v := (-6)) hx hb dX11_judged_66 (by decide) ?_
    obtain rfl := Option.some.inj hf
    exact ret _ _ _ _ dX11_judged_68 hP hS
  · intro r hr pc H locs ls hd hP hS
    rw [hr] at hf
    have hf := ob_r hf
    obtain rfl := Option.some.inj hf
    exact ret _ _ _ _ hd hP hS

def f_X11_fits_4 (v_seats : Int32) (v_bearIs : Int32) (v_seenRows : Int32) (v_seenMany : Nat → Int32) (v_seen : Nat → Int32) (v_far : Nat → Int32) (v_worths : Nat → Int32) : Nat → Int32 → Int32 → Option (Int32)
  | 0, _, _ => none
  | n + 1, y1_4, y2_4 =>
  if (6 : Int32) ≤ y2_4 then
  some (y1_4)
  else
  (f_X11_judged v_seats v_bearIs v_seenRows v_seenMany v_seen v_far v_worths y2_4).bind (fun u3 =>
  (if 0 ≤ u3 then
  some (0 : Int32)
  else
  some ((1 : Int32) <<< (y2_4 &&& 31))).bind (fun w4 =>
  f_X11_fits_4 v_seats v_bearIs v_seenRows v_seenMany v_seen v_far v_worths n (y1_4 ||| w4) (y2_4 + 1)))
theorem f_X11_fits_4_s (v_seats : Int32) (v_bearIs : Int32) (v_seenRows : Int32) (v_seenMany : Nat → Int32) (v_seen : Nat → Int32) (v_far : Nat → Int32) (v_worths : Nat → Int32) (n : Nat) (y1_4 : Int32) (y2_4 : Int32) : f_X11_fits_4 v_seats v_bearIs v_seenRows v_seenMany v_seen v_far v_worths (n + 1) y1_4 y2_4 =
  (if (6 : Int32) ≤ y2_4 then
  some (y1_4)
  else
  (f_X11_judged v_seats v_bearIs v_seenRows v_seenMany v_seen v_far v_worths y2_4).bind (fun u3 =>
  (if 0 ≤ u3 then
  some (0 : Int32)
  else
  some ((1 : Int32) <<< (y2_4 &&& 31))).bind (fun w4 =>
  f_X11_fits_4 v_seats v_bearIs v_seenRows v_seenMany v_seen v_far v_worths n (y1_4 ||| w4) (y2_4 + 1)))) := rfl
def f_X11_fits (v_seats : Int32) (v_bearIs : Int32) (v_seenRows : Int32) (v_seenMany : Nat → Int32) (v_seen : Nat → Int32) (v_far : Nat → Int32) (v_worths : Nat → Int32) : Option (Int32) :=
  (f_X11_fits_4 v_seats v_bearIs v_seenRows v_seenMany v_seen v_far v_worths FU (0 : Int32) (0 : Int32)).bind (fun u7 =>
  some (u7))
set_option maxHeartbeats 4000000 in
set_option maxRecDepth 100000 in
theorem c_X11_fits (l : Launch) (D : va_G) (cI cJ cZ cO : ClassId) (a_t a_signs a_links a_worths a_far a_mays a_rowsTo a_endIn a_ends a_pairSets a_awayIn a_now a_then a_comers a_seen a_seenMany a_kept a_isKept : Nat) (v_signMany : Int32) (v_seats : Int32) (v_bearIs : Int32) (v_rowsAll : Int64) (v_awayUpper : Int64) (v_lower : Int64) (v_comerMany : Int32) (v_seenRows : Int32) (v_place : Int32) (v_isWriting : Int32) (v_seenMany : Nat → Int32) (v_seen : Nat → Int32) (v_far : Nat → Int32) (v_worths : Nat → Int32) (out : Int32) (hf : f_X11_fits v_seats v_bearIs v_seenRows v_seenMany v_seen v_far v_worths = some out) : MetR l yX11_fits (Cond.code yX11_fits cX11_fits 3 (some .int) :: tbG) { frames := 5, cells := 0, slots := 0, locals := 119 } D (tyL cI cJ cZ cO) [.ref a_t] [(a_t, .inr (11, [.ref a_signs, .int v_signMany, .int v_seats, .ref a_links, .ref a_worths, .int v_bearIs, .ref a_far, .ref a_mays, .ref a_rowsTo, .ref a_endIn, .long v_rowsAll, .ref a_ends, .ref a_pairSets, .ref a_awayIn, .ref a_now, .ref a_then, .long v_awayUpper, .long v_lower, .ref a_comers, .int v_comerMany, .ref a_seen, .ref a_seenMany, .int v_seenRows, .ref a_kept, .ref a_isKept, .int v_place, .int v_isWriting])), (a_seenMany, eI cI 8 v_seenMany), (a_seen, eI cI 96 v_seen), (a_far, eI cI 144 v_far), (a_worths, eI cI 12 v_worths)] (some (.int out)) [(a_t, .inr (11, [.ref a_signs, .int v_signMany, .int v_seats, .ref a_links, .ref a_worths, .int v_bearIs, .ref a_far, .ref a_mays, .ref a_rowsTo, .ref a_endIn, .long v_rowsAll, .ref a_ends, .ref a_pairSets, .ref a_awayIn, .ref a_now, .ref a_then, .long v_awayUpper, .long v_lower, .ref a_comers, .int v_comerMany, .ref a_seen, .ref a_seenMany, .int v_seenRows, .ref a_kept, .ref a_isKept, .int v_place, .int v_isWriting])), (a_seenMany, eI cI 8 v_seenMany), (a_seen, eI cI 96 v_seen), (a_far, eI cI 144 v_far), (a_worths, eI cI 12 v_worths)] := by
  refine ba_ofI RX11 [(0, .ref a_t)] (by decide +kernel) rfl (Nat.le_of_ble_eq_true rfl) rfl ?_
  intro p e s m args below meth c Q A Cx hP ret ls hl
  obtain ⟨⟨hx, hb, hml, hown, hts⟩, hK, hD, hA⟩ := id Cx
  have hS : va_S A s.heap s.heap [] := va_S.rf
  unfold f_X11_fits at hf
  refine lv_iconst (v := 0) hx hb dX11_fits_0 (by decide) ?_
  refine lv_istore_n (lv' := [(1, .int (0 : Int32)), (0, .ref a_t)]) hx hb dX11_fits_1 rfl hl (by decide) rfl (fun ls hl => ?_)
  refine lv_iconst (v := 0) hx hb dX11_fits_2 (by decide) ?_
  refine lv_istore_n (lv' := [(2, .int (0 : Int32)), (1, .int (0 : Int32)), (0, .ref a_t)]) hx hb dX11_fits_3 rfl hl (by decide) rfl (fun ls hl => ?_)
  have L4_1 : ∀ (n : Nat) (y1_4 : Int32) (y2_4 : Int32) (o : Int32) (H : Heap) (locs : List Loc) (ls : Array Slot), f_X11_fits_4 v_seats v_bearIs v_seenRows v_seenMany v_seen v_far v_worths n y1_4 y2_4 = some o → va_P D vwCl [(a_t, .inr (11, [.ref a_signs, .int v_signMany, .int v_seats, .ref a_links, .ref a_worths, .int v_bearIs, .ref a_far, .ref a_mays, .ref a_rowsTo, .ref a_endIn, .long v_rowsAll, .ref a_ends, .ref a_pairSets, .ref a_awayIn, .ref a_now, .ref a_then, .long v_awayUpper, .long v_lower, .ref a_comers, .int v_comerMany, .ref a_seen, .ref a_seenMany, .int v_seenRows, .ref a_kept, .ref a_isKept, .int v_place, .int v_isWriting])), (a_seenMany, eI cI 8 v_seenMany), (a_seen, eI cI 96 v_seen), (a_far, eI cI 144 v_far), (a_worths, eI cI 12 v_worths)] H → va_S A s.heap H locs → lv_has ls 3 [(0, .ref a_t), (1, .int y1_4), (2, .int y2_4)] → (∀ (H : Heap) (locs : List Loc) (ls : Array Slot), va_P D vwCl [(a_t, .inr (11, [.ref a_signs, .int v_signMany, .int v_seats, .ref a_links, .ref a_worths, .int v_bearIs, .ref a_far, .ref a_mays, .ref a_rowsTo, .ref a_endIn, .long v_rowsAll, .ref a_ends, .ref a_pairSets, .ref a_awayIn, .ref a_now, .ref a_then, .long v_awayUpper, .long v_lower, .ref a_comers, .int v_comerMany, .ref a_seen, .ref a_seenMany, .int v_seenRows, .ref a_kept, .ref a_isKept, .int v_place, .int v_isWriting])), (a_seenMany, eI cI 8 v_seenMany), (a_seen, eI cI 96 v_seen), (a_far, eI cI 144 v_far), (a_worths, eI cI 12 v_worths)] H → va_S A s.heap H locs → lv_has ls 3 [(1, .int o)] → W p l e { frames := 5, cells := 0, slots := 0, locals := 119 } s m args below meth c H locs 0 0 Q (F0 m 34 ls [])) → W p l e { frames := 5, cells := 0, slots := 0, locals := 119 } s m args below meth c H locs 0 0 Q (F0 m 4 ls []) := by
    intro n
    induction n with
    | zero => intro y1_4 y2_4 o H locs ls hf; exact (ob_n hf).elim
    | succ n ih =>
      intro y1_4 y2_4 o H locs ls hf hP hS hl kk
      rw [f_X11_fits_4_s] at hf
      refine lv_iload_n hx hb dX11_fits_4 rfl (lv_at hl 2 rfl) ?_
      refine lv_bipush (v := 6) hx hb dX11_fits_5 (by decide) ?_
      refine lv_icmp_ge (tgt := 34) hx hb dX11_fits_7 (by decide) (fun c2 => ?_) (fun c2 => ?_)
      · have hf := ob_t c2 hf
        obtain rfl := Option.some.inj hf
        exact kk _ _ _ hP hS (lv_sub hl [1] rfl)
      · have hf := ob_f c2 hf
        refine lv_iload_n hx hb dX11_fits_10 rfl (lv_at hl 1 rfl) ?_
        refine lv_aload_n hx hb dX11_fits_11 rfl (lv_at hl 0 rfl) ?_
        refine lv_iload_n hx hb dX11_fits_12 rfl (lv_at hl 2 rfl) ?_
        obtain ⟨u3, hu3, hf⟩ := ob_b hf
        refine iv_X11_225 (As := [.int y2_4]) (rest := [.int y1_4]) (is := [0, 1, 2, 3, 4]) (q0 := 0) (X' := [(a_t, .inr (11, [.ref a_signs, .int v_signMany, .int v_seats, .ref a_links, .ref a_worths, .int v_bearIs, .ref a_far, .ref a_mays, .ref a_rowsTo, .ref a_endIn, .long v_rowsAll, .ref a_ends, .ref a_pairSets, .ref a_awayIn, .ref a_now, .ref a_then, .long v_awayUpper, .long v_lower, .ref a_comers, .int v_comerMany, .ref a_seen, .ref a_seenMany, .int v_seenRows, .ref a_kept, .ref a_isKept, .int v_place, .int v_isWriting])), (a_seenMany, eI cI 8 v_seenMany), (a_seen, eI cI 96 v_seen), (a_far, eI cI 144 v_far), (a_worths, eI cI 12 v_worths)]) Cx (c_X11_judged l D cI cJ cZ cO a_t a_signs a_links a_worths a_far a_mays a_rowsTo a_endIn a_ends a_pairSets a_awayIn a_now a_then a_comers a_seen a_seenMany a_kept a_isKept v_signMany v_seats v_bearIs v_rowsAll v_awayUpper v_lower v_comerMany v_seenRows v_place v_isWriting v_seenMany v_seen v_far v_worths y2_4 u3 hu3) hP hS rfl rfl rfl rfl rfl rfl rfl hl.1 (Nat.le_of_ble_eq_true rfl) dX11_fits_13 rfl rfl ⟨Nat.le_of_ble_eq_true rfl, Nat.le_of_ble_eq_true rfl⟩ ⟨Nat.zero_le _, Nat.zero_le _⟩ rfl (fun H locs hP hS => ?_)
        refine ob_J (P := fun w4 => ∀ (H : Heap) (locs : List Loc) (ls : Array Slot), va_P D vwCl [(a_t, .inr (11, [.ref a_signs, .int v_signMany, .int v_seats, .ref a_links, .ref a_worths, .int v_bearIs, .ref a_far, .ref a_mays, .ref a_rowsTo, .ref a_endIn, .long v_rowsAll, .ref a_ends, .ref a_pairSets, .ref a_awayIn, .ref a_now, .ref a_then, .long v_awayUpper, .long v_lower, .ref a_comers, .int v_comerMany, .ref a_seen, .ref a_seenMany, .int v_seenRows, .ref a_kept, .ref a_isKept, .int v_place, .int v_isWriting])), (a_seenMany, eI cI 8 v_seenMany), (a_seen, eI cI 96 v_seen), (a_far, eI cI 144 v_far), (a_worths, eI cI 12 v_worths)] H → va_S A s.heap H locs → lv_has ls 3 [(0, .ref a_t), (2, .int y2_4)] → W p l e { frames := 5, cells := 0, slots := 0, locals := 119 } s m args below meth c H locs 0 0 Q (F0 m 26 ls [.int w4, .int y1_4])) hf ?_ ?_
        · intro w4 hf H locs ls hP hS hl
          refine lv_ior hx hb dX11_fits_26 ?_
          refine lv_istore_n (lv' := [(1, .int (y1_4 ||| w4)), (0, .ref a_t), (2, .int y2_4)]) hx hb dX11_fits_27 rfl hl (by decide) rfl (fun ls hl => ?_)
          refine lv_iinc (v := (y2_4 + 1)) (lv' := [(2, .int (y2_4 + 1)), (1, .int (y1_4 ||| w4)), (0, .ref a_t)]) hx hb dX11_fits_28 hl (k := 2) rfl rfl (by decide) rfl (fun ls hl => ?_)
          refine lv_goto (tgt := 4) hx hb dX11_fits_31 (by decide) ?_
          exact ih (y1_4 ||| w4) (y2_4 + 1) _ _ _ _ hf hP hS (lv_sub hl [2, 1, 0] rfl) kk
        · intro J26_5 hf
          refine lv_if_ge (tgt := 25) hx hb dX11_fits_16 (by decide) (fun c6 => ?_) (fun c6 => ?_)
          · have hf := ob_tk c6 hf
            refine lv_iconst (v := 0) hx hb dX11_fits_25 (by decide) ?_
            exact J26_5 (0 : Int32) hf _ _ _ hP hS (lv_sub hl [0, 2] rfl)
          · have hf := ob_fk c6 hf
            refine lv_iconst (v := 1) hx hb dX11_fits_19 (by decide) ?_
            refine lv_iload_n hx hb dX11_fits_20 rfl (lv_at hl 2 rfl) ?_
            refine lv_ishl hx hb dX11_fits_21 ?_
            refine lv_goto (tgt := 26) hx hb dX11_fits_22 (by decide) ?_
            exact J26_5 ((1 : Int32) <<< (y2_4 &&& 31)) hf _ _ _ hP hS (lv_sub hl [0, 2] rfl)
  obtain ⟨u7, hu7, hf⟩ := ob_b hf
  refine L4_1 FU (0 : Int32) (0 : Int32) u7 _ _ _ hu7 hP hS (lv_sub hl [2, 1, 0] rfl) ?_
  intro H locs ls hP hS hl
  refine lv_iload_n hx hb dX11_fits_34 rfl (lv_at hl 0 rfl) ?_
  obtain rfl := Option.some.inj hf
  exact ret _ _ _ _ dX11_fits_35 hP hS

def f_X11_judge (v_seats : Int32) (v_bearIs : Int32) (v_seenRows : Int32) (v_seenMany : Nat → Int32) (v_seen : Nat → Int32) (v_far : Nat → Int32) (v_worths : Nat → Int32) (x1 : Int32) : Option (Int32) :=
  (f_X11_isHabit x1).bind (fun u1 =>
  (if u1 = 0 then
  some (-2 : Int32)
  else
  (f_X11_judged v_seats v_bearIs v_seenRows v_seenMany v_seen v_far v_worths x1).bind (fun u5 =>
  some (u5))).bind (fun w2 =>
  some (w2)))
set_option maxHeartbeats 4000000 in
set_option maxRecDepth 100000 in
theorem c_X11_judge (l : Launch) (D : va_G) (cI cJ cZ cO : ClassId) (a_t a_signs a_links a_worths a_far a_mays a_rowsTo a_endIn a_ends a_pairSets a_awayIn a_now a_then a_comers a_seen a_seenMany a_kept a_isKept : Nat) (v_signMany : Int32) (v_seats : Int32) (v_bearIs : Int32) (v_rowsAll : Int64) (v_awayUpper : Int64) (v_lower : Int64) (v_comerMany : Int32) (v_seenRows : Int32) (v_place : Int32) (v_isWriting : Int32) (v_seenMany : Nat → Int32) (v_seen : Nat → Int32) (v_far : Nat → Int32) (v_worths : Nat → Int32) (x1 : Int32) (out : Int32) (hf : f_X11_judge v_seats v_bearIs v_seenRows v_seenMany v_seen v_far v_worths x1 = some out) : MetR l yX11_judge (Cond.code yX11_judge cX11_judge 2 (some .int) :: tbG) { frames := 5, cells := 0, slots := 0, locals := 119 } D (tyL cI cJ cZ cO) [.ref a_t, .int x1] [(a_t, .inr (11, [.ref a_signs, .int v_signMany, .int v_seats, .ref a_links, .ref a_worths, .int v_bearIs, .ref a_far, .ref a_mays, .ref a_rowsTo, .ref a_endIn, .long v_rowsAll, .ref a_ends, .ref a_pairSets, .ref a_awayIn, .ref a_now, .ref a_then, .long v_awayUpper, .long v_lower, .ref a_comers, .int v_comerMany, .ref a_seen, .ref a_seenMany, .int v_seenRows, .ref a_kept, .ref a_isKept, .int v_place, .int v_isWriting])), (a_seenMany, eI cI 8 v_seenMany), (a_seen, eI cI 96 v_seen), (a_far, eI cI 144 v_far), (a_worths, eI cI 12 v_worths)] (some (.int out)) [(a_t, .inr (11, [.ref a_signs, .int v_signMany, .int v_seats, .ref a_links, .ref a_worths, .int v_bearIs, .ref a_far, .ref a_mays, .ref a_rowsTo, .ref a_endIn, .long v_rowsAll, .ref a_ends, .ref a_pairSets, .ref a_awayIn, .ref a_now, .ref a_then, .long v_awayUpper, .long v_lower, .ref a_comers, .int v_comerMany, .ref a_seen, .ref a_seenMany, .int v_seenRows, .ref a_kept, .ref a_isKept, .int v_place, .int v_isWriting])), (a_seenMany, eI cI 8 v_seenMany), (a_seen, eI cI 96 v_seen), (a_far, eI cI 144 v_far), (a_worths, eI cI 12 v_worths)] := by
  refine ba_ofI RX11 [(0, .ref a_t), (1, .int x1)] (by decide +kernel) rfl (Nat.le_of_ble_eq_true rfl) rfl ?_
  intro p e s m args below meth c Q A Cx hP ret ls hl
  obtain ⟨⟨hx, hb, hml, hown, hts⟩, hK, hD, hA⟩ := id Cx
  have hS : va_S A s.heap s.heap [] := va_S.rf
  unfold f_X11_judge at hf
  refine lv_iload_n hx hb dX11_judge_0 rfl (lv_at hl 1 rfl) ?_
  obtain ⟨u1, hu1, hf⟩ := ob_b hf
  refine iv_X11_133 (As := [.int x1]) (rest := []) (is := []) (X' := [(a_t, .inr (11, [.ref a_signs, .int v_signMany, .int v_seats, .ref a_links, .ref a_worths, .int v_bearIs, .ref a_far, .ref a_mays, .ref a_rowsTo, .ref a_endIn, .long v_rowsAll, .ref a_ends, .ref a_pairSets, .ref a_awayIn, .ref a_now, .ref a_then, .long v_awayUpper, .long v_lower, .ref a_comers, .int v_comerMany, .ref a_seen, .ref a_seenMany, .int v_seenRows, .ref a_kept, .ref a_isKept, .int v_place, .int v_isWriting])), (a_seenMany, eI cI 8 v_seenMany), (a_seen, eI cI 96 v_seen), (a_far, eI cI 144 v_far), (a_worths, eI cI 12 v_worths)]) Cx (c_X11_isHabit l D cI cJ cZ cO  x1 u1 hu1) hP hS rfl rfl rfl rfl rfl rfl hl.1 (Nat.le_of_ble_eq_true rfl) dX11_judge_1 rfl rfl ⟨Nat.le_of_ble_eq_true rfl, Nat.le_of_ble_eq_true rfl⟩ ⟨Nat.zero_le _, Nat.zero_le _⟩ rfl (fun H locs hP hS => ?_)
  refine ob_J (P := fun w2 => ∀ (H : Heap) (locs : List Loc) (ls : Array Slot), va_P D vwCl [(a_t, .inr (11, [.ref a_signs, .int v_signMany, .int v_seats, .ref a_links, .ref a_worths, .int v_bearIs, .ref a_far, .ref a_mays, .ref a_rowsTo, .ref a_endIn, .long v_rowsAll, .ref a_ends, .ref a_pairSets, .ref a_awayIn, .ref a_now, .ref a_then, .long v_awayUpper, .long v_lower, .ref a_comers, .int v_comerMany, .ref a_seen, .ref a_seenMany, .int v_seenRows, .ref a_kept, .ref a_isKept, .int v_place, .int v_isWriting])), (a_seenMany, eI cI 8 v_seenMany), (a_seen, eI cI 96 v_seen), (a_far, eI cI 144 v_far), (a_worths, eI cI 12 v_worths)] H → va_S A s.heap H locs → lv_has ls 2 [] → W p l e { frames := 5, cells := 0, slots := 0, locals := 119 } s m args below meth c H locs 0 0 Q (F0 m 17 ls [.int w2])) hf ?_ ?_
  · intro w2 hf H locs ls hP hS hl
    obtain rfl := Option.some.inj hf
    exact ret _ _ _ _ dX11_judge_17 hP hS
  · intro J17_3 hf
    refine lv_if_eq (tgt := 15) hx hb dX11_judge_4 (by decide) (fun c4 => ?_) (fun c4 => ?_)
    · have hf := ob_tk c4 hf
      refine lv_bipush (v := (-2)) hx hb dX11_judge_15 (by decide) ?_
      exact J17_3 (-2 : Int32) hf _ _ _ hP hS (lv_sub hl [] rfl)
    · have hf := ob_fk c4 hf
      refine lv_aload_n hx hb dX11_judge_7 rfl (lv_at hl 0 rfl) ?_
      refine lv_iload_n hx hb dX11_judge_8 rfl (lv_at hl 1 rfl) ?_
      obtain ⟨u5, hu5, hf⟩ := ob_bk hf
      refine iv_X11_225 (As := [.int x1]) (rest := []) (is := [0, 1, 2, 3, 4]) (q0 := 0) (X' := [(a_t, .inr (11, [.ref a_signs, .int v_signMany, .int v_seats, .ref a_links, .ref a_worths, .int v_bearIs, .ref a_far, .ref a_mays, .ref a_rowsTo, .ref a_endIn, .long v_rowsAll, .ref a_ends, .ref a_pairSets, .ref a_awayIn, .ref a_now, .ref a_then, .long v_awayUpper, .long v_lower, .ref a_comers, .int v_comerMany, .ref a_seen, .ref a_seenMany, .int v_seenRows, .ref a_kept, .ref a_isKept, .int v_place, .int v_isWriting])), (a_seenMany, eI cI 8 v_seenMany), (a_seen, eI cI 96 v_seen), (a_far, eI cI 144 v_far), (a_worths, eI cI 12 v_worths)]) Cx (c_X11_judged l D cI cJ cZ cO a_t a_signs a_links a_worths a_far a_mays a_rowsTo a_endIn a_ends a_pairSets a_awayIn a_now a_then a_comers a_seen a_seenMany a_kept a_isKept v_signMany v_seats v_bearIs v_rowsAll v_awayUpper v_lower v_comerMany v_seenRows v_place v_isWriting v_seenMany v_seen v_far v_worths x1 u5 hu5) hP hS rfl rfl rfl rfl rfl rfl rfl hl.1 (Nat.le_of_ble_eq_true rfl) dX11_judge_9 rfl rfl ⟨Nat.le_of_ble_eq_true rfl, Nat.le_of_ble_eq_true rfl⟩ ⟨Nat.zero_le _, Nat.zero_le _⟩ rfl (fun H locs hP hS => ?_)
      refine lv_goto (tgt := 17) hx hb dX11_judge_12 (by decide) ?_
      exact J17_3 u5 hf _ _ _ hP hS (lv_sub hl [] rfl)

def f_X11_pass (v_place : Int32) (v_isWriting : Int32) (v_kept : Nat → Int32) (x1 : Int32) : Option (Int32 × Int32 × (Nat → Int32)) :=
  (if v_isWriting = 0 then
  (aget 400 v_kept v_place).bind (fun u5 =>
  some (u5))
  else
  some (x1)).bind (fun w1 =>
  (asetI 400 v_kept v_place w1).bind (fun u3 =>
  some (w1, (v_place + (1 : Int32)), u3)))
set_option maxHeartbeats 4000000 in
set_option maxRecDepth 100000 in
theorem c_X11_pass (l : Launch) (D : va_G) (cI cJ cZ cO : ClassId) (a_t a_signs a_links a_worths a_far a_mays a_rowsTo a_endIn a_ends a_pairSets a_awayIn a_now a_then a_comers a_seen a_seenMany a_kept a_isKept : Nat) (v_signMany : Int32) (v_seats : Int32) (v_bearIs : Int32) (v_rowsAll : Int64) (v_awayUpper : Int64) (v_lower : Int64) (v_comerMany : Int32) (v_seenRows : Int32) (v_place : Int32) (v_isWriting : Int32) (v_kept : Nat → Int32) (x1 : Int32) (out : Int32 × Int32 × (Nat → Int32)) (hf : f_X11_pass v_place v_isWriting v_kept x1 = some out) : MetR l yX11_pass (Cond.code yX11_pass cX11_pass 3 (some .int) :: tbG) { frames := 0, cells := 0, slots := 0, locals := 0 } D (tyL cI cJ cZ cO) [.ref a_t, .int x1] [(a_t, .inr (11, [.ref a_signs, .int v_signMany, .int v_seats, .ref a_links, .ref a_worths, .int v_bearIs, .ref a_far, .ref a_mays, .ref a_rowsTo, .ref a_endIn, .long v_rowsAll, .ref a_ends, .ref a_pairSets, .ref a_awayIn, .ref a_now, .ref a_then, .long v_awayUpper, .long v_lower, .ref a_comers, .int v_comerMany, .ref a_seen, .ref a_seenMany, .int v_seenRows, .ref a_kept, .ref a_isKept, .int v_place, .int v_isWriting])), (a_kept, eI cI 400 v_kept)] (some (.int out.1)) [(a_t, .inr (11, [.ref a_signs, .int v_signMany, .int v_seats, .ref a_links, .ref a_worths, .int v_bearIs, .ref a_far, .ref a_mays, .ref a_rowsTo, .ref a_endIn, .long v_rowsAll, .ref a_ends, .ref a_pairSets, .ref a_awayIn, .ref a_now, .ref a_then, .long v_awayUpper, .long v_lower, .ref a_comers, .int v_comerMany, .ref a_seen, .ref a_seenMany, .int v_seenRows, .ref a_kept, .ref a_isKept, .int out.2.1, .int v_isWriting])), (a_kept, eI cI 400 out.2.2)] := by
  refine ba_ofI RX11 [(0, .ref a_t), (1, .int x1)] (by decide +kernel) rfl (Nat.le_of_ble_eq_true rfl) rfl ?_
  intro p e s m args below meth c Q A Cx hP ret ls hl
  obtain ⟨⟨hx, hb, hml, hown, hts⟩, hK, hD, hA⟩ := id Cx
  have hS : va_S A s.heap s.heap [] := va_S.rf
  unfold f_X11_pass at hf
  refine lv_aload_n hx hb dX11_pass_0 rfl (lv_at hl 0 rfl) ?_
  refine gf_X11_228 Cx hP 0 rfl rfl dX11_pass_1 ?_
  refine ob_J (P := fun w1 => ∀ (H : Heap) (locs : List Loc) (ls : Array Slot), va_P D vwCl [(a_t, .inr (11, [.ref a_signs, .int v_signMany, .int v_seats, .ref a_links, .ref a_worths, .int v_bearIs, .ref a_far, .ref a_mays, .ref a_rowsTo, .ref a_endIn, .long v_rowsAll, .ref a_ends, .ref a_pairSets, .ref a_awayIn, .ref a_now, .ref a_then, .long v_awayUpper, .long v_lower, .ref a_comers, .int v_comerMany, .ref a_seen, .ref a_seenMany, .int v_seenRows, .ref a_kept, .ref a_isKept, .int v_place, .int v_isWriting])), (a_kept, eI cI 400 v_kept)] H → va_S A s.heap H locs → lv_has ls 3 [(0, .ref a_t)] → W p l e { frames := 0, cells := 0, slots := 0, locals := 0 } s m args below meth c H locs 0 0 Q (F0 m 20 ls [.int w1])) hf ?_ ?_
  · intro w1 hf H locs ls hP hS hl
    refine lv_istore_n (lv' := [(2, .int w1), (0, .ref a_t)]) hx hb dX11_pass_20 rfl hl (by decide) rfl (fun ls hl => ?_)
    refine lv_aload_n hx hb dX11_pass_21 rfl (lv_at hl 1 rfl) ?_
    refine gf_X11_56 Cx hP 0 rfl rfl dX11_pass_22 ?_
    refine lv_aload_n hx hb dX11_pass_25 rfl (lv_at hl 1 rfl) ?_
    refine gf_X11_232 Cx hP 0 rfl rfl dX11_pass_26 ?_
    refine lv_iload_n hx hb dX11_pass_29 rfl (lv_at hl 0 rfl) ?_
    obtain ⟨u3, hu3, hf⟩ := ob_b hf
    refine ba_iast (X' := [(a_t, .inr (11, [.ref a_signs, .int v_signMany, .int v_seats, .ref a_links, .ref a_worths, .int v_bearIs, .ref a_far, .ref a_mays, .ref a_rowsTo, .ref a_endIn, .long v_rowsAll, .ref a_ends, .ref a_pairSets, .ref a_awayIn, .ref a_now, .ref a_then, .long v_awayUpper, .long v_lower, .ref a_comers, .int v_comerMany, .ref a_seen, .ref a_seenMany, .int v_seenRows, .ref a_kept, .ref a_isKept, .int v_place, .int v_isWriting])), (a_kept, eI cI 400 u3)]) Cx hP hS rfl 1 rfl rfl hu3 dX11_pass_30 (fun H locs hP hS => ?_)
    refine lv_aload_n hx hb dX11_pass_31 rfl (lv_at hl 1 rfl) ?_
    refine lv_dup hx hb dX11_pass_32 rfl ?_
    refine gf_X11_232 Cx hP 0 rfl rfl dX11_pass_33 ?_
    refine lv_iconst (v := 1) hx hb dX11_pass_36 (by decide) ?_
    refine lv_iadd hx hb dX11_pass_37 ?_
    refine pf_X11_232 (X' := [(a_t, .inr (11, [.ref a_signs, .int v_signMany, .int v_seats, .ref a_links, .ref a_worths, .int v_bearIs, .ref a_far, .ref a_mays, .ref a_rowsTo, .ref a_endIn, .long v_rowsAll, .ref a_ends, .ref a_pairSets, .ref a_awayIn, .ref a_now, .ref a_then, .long v_awayUpper, .long v_lower, .ref a_comers, .int v_comerMany, .ref a_seen, .ref a_seenMany, .int v_seenRows, .ref a_kept, .ref a_isKept, .int (v_place + (1 : Int32)), .int v_isWriting])), (a_kept, eI cI 400 u3)]) Cx hP hS rfl 0 rfl rfl (Nat.le_of_ble_eq_true rfl) dX11_pass_38 (fun H locs hP hS => ?_)
    refine lv_iload_n hx hb dX11_pass_41 rfl (lv_at hl 0 rfl) ?_
    obtain rfl := Option.some.inj hf
    exact ret _ _ _ _ dX11_pass_42 hP hS
  · intro J20_2 hf
    refine lv_if_eq (tgt := 11) hx hb dX11_pass_4 (by decide) (fun c4 => ?_) (fun c4 => ?_)
    · have hf := ob_tk c4 hf
      refine lv_aload_n hx hb dX11_pass_11 rfl (lv_at hl 0 rfl) ?_
      refine gf_X11_56 Cx hP 0 rfl rfl dX11_pass_12 ?_
      refine lv_aload_n hx hb dX11_pass_15 rfl (lv_at hl 0 rfl) ?_
      refine gf_X11_232 Cx hP 0 rfl rfl dX11_pass_16 ?_
      obtain ⟨u5, hu5, hf⟩ := ob_bk hf
      refine ba_iald Cx hP 1 rfl hu5 dX11_pass_19 ?_
      exact J20_2 u5 hf _ _ _ hP hS (lv_sub hl [0] rfl)
    · have hf := ob_fk c4 hf
      refine lv_iload_n hx hb dX11_pass_7 rfl (lv_at hl 1 rfl) ?_
      refine lv_goto (tgt := 20) hx hb dX11_pass_8 (by decide) ?_
      exact J20_2 x1 hf _ _ _ hP hS (lv_sub hl [0] rfl)

def f_X11_passAll_50 (v_isWriting : Int32) : Nat → Int32 → Int32 → (Nat → Int32) → (Nat → Int32) → (Nat → Int32) → (Nat → Int32) → Option (Int32 × (Nat → Int32) × (Nat → Int32) × (Nat → Int32) × (Nat → Int32))
  | 0, _, _, _, _, _, _ => none
  | n + 1, y1_50, z_place_50, z_kept_50, z_links_50, z_worths_50, z_comers_50 =>
  if (12 : Int32) ≤ y1_50 then
  some (z_place_50, z_kept_50, z_links_50, z_worths_50, z_comers_50)
  else
  (aget 12 z_links_50 y1_50).bind (fun u7 =>
  (f_X11_pass z_place_50 v_isWriting z_kept_50 u7).bind (fun u8 =>
  (asetI 12 z_links_50 y1_50 u8.1).bind (fun u9 =>
  (aget 12 z_worths_50 y1_50).bind (fun u10 =>
  (f_X11_pass u8.2.1 v_isWriting u8.2.2 u10).bind (fun u11 =>
  (asetI 12 z_worths_50 y1_50 u11.1).bind (fun u12 =>
  (aget 12 z_comers_50 y1_50).bind (fun u13 =>
  (f_X11_pass u11.2.1 v_isWriting u11.2.2 u13).bind (fun u14 =>
  (asetI 12 z_comers_50 y1_50 u14.1).bind (fun u15 =>
  f_X11_passAll_50 v_isWriting n (y1_50 + 1) u14.2.1 u14.2.2 u9 u12 u15)))))))))
theorem f_X11_passAll_50_s (v_isWriting : Int32) (n : Nat) (y1_50 : Int32) (z_place_50 : Int32) (z_kept_50 : Nat → Int32) (z_links_50 : Nat → Int32) (z_worths_50 : Nat → Int32) (z_comers_50 : Nat → Int32) : f_X11_passAll_50 v_isWriting (n + 1) y1_50 z_place_50 z_kept_50 z_links_50 z_worths_50 z_comers_50 =
  (if (12 : Int32) ≤ y1_50 then
  some (z_place_50, z_kept_50, z_links_50, z_worths_50, z_comers_50)
  else
  (aget 12 z_links_50 y1_50).bind (fun u7 =>
  (f_X11_pass z_place_50 v_isWriting z_kept_50 u7).bind (fun u8 =>
  (asetI 12 z_links_50 y1_50 u8.1).bind (fun u9 =>
  (aget 12 z_worths_50 y1_50).bind (fun u10 =>
  (f_X11_pass u8.2.1 v_isWriting u8.2.2 u10).bind (fun u11 =>
  (asetI 12 z_worths_50 y1_50 u11.1).bind (fun u12 =>
  (aget 12 z_comers_50 y1_50).bind (fun u13 =>
  (f_X11_pass u11.2.1 v_isWriting u11.2.2 u13).bind (fun u14 =>
  (asetI 12 z_comers_50 y1_50 u14.1).bind (fun u15 =>
  f_X11_passAll_50 v_isWriting n (y1_50 + 1) u14.2.1 u14.2.2 u9 u12 u15)))))))))) := rfl
def f_X11_passAll_112 (v_isWriting : Int32) : Nat → Int32 → Int32 → (Nat → Int32) → (Nat → Int32) → Option (Int32 × (Nat → Int32) × (Nat → Int32))
  | 0, _, _, _, _ => none
  | n + 1, y1_112, z_place_112, z_kept_112, z_seenMany_112 =>
  if (8 : Int32) ≤ y1_112 then
  some (z_place_112, z_kept_112, z_seenMany_112)
  else
  (aget 8 z_seenMany_112 y1_112).bind (fun u19 =>
  (f_X11_pass z_place_112 v_isWriting z_kept_112 u19).bind (fun u20 =>
  (asetI 8 z_seenMany_112 y1_112 u20.1).bind (fun u21 =>
  f_X11_passAll_112 v_isWriting n (y1_112 + 1) u20.2.1 u20.2.2 u21)))
theorem f_X11_passAll_112_s (v_isWriting : Int32) (n : Nat) (y1_112 : Int32) (z_place_112 : Int32) (z_kept_112 : Nat → Int32) (z_seenMany_112 : Nat → Int32) : f_X11_passAll_112 v_isWriting (n + 1) y1_112 z_place_112 z_kept_112 z_seenMany_112 =
  (if (8 : Int32) ≤ y1_112 then
  some (z_place_112, z_kept_112, z_seenMany_112)
  else
  (aget 8 z_seenMany_112 y1_112).bind (fun u19 =>
  (f_X11_pass z_place_112 v_isWriting z_kept_112 u19).bind (fun u20 =>
  (asetI 8 z_seenMany_112 y1_112 u20.1).bind (fun u21 =>
  f_X11_passAll_112 v_isWriting n (y1_112 + 1) u20.2.1 u20.2.2 u21)))) := rfl
def f_X11_passAll_142 (v_isWriting : Int32) : Nat → Int32 → Int32 → (Nat → Int32) → (Nat → Int32) → Option (Int32 × (Nat → Int32) × (Nat → Int32))
  | 0, _, _, _, _ => none
  | n + 1, y1_142, z_place_142, z_kept_142, z_seen_142 =>
  if (96 : Int32) ≤ y1_142 then
  some (z_place_142, z_kept_142, z_seen_142)
  else
  (aget 96 z_seen_142 y1_142).bind (fun u25 =>
  (f_X11_pass z_place_142 v_isWriting z_kept_142 u25).bind (fun u26 =>
  (asetI 96 z_seen_142 y1_142 u26.1).bind (fun u27 =>
  f_X11_passAll_142 v_isWriting n (y1_142 + 1) u26.2.1 u26.2.2 u27)))
theorem f_X11_passAll_142_s (v_isWriting : Int32) (n : Nat) (y1_142 : Int32) (z_place_142 : Int32) (z_kept_142 : Nat → Int32) (z_seen_142 : Nat → Int32) : f_X11_passAll_142 v_isWriting (n + 1) y1_142 z_place_142 z_kept_142 z_seen_142 =
  (if (96 : Int32) ≤ y1_142 then
  some (z_place_142, z_kept_142, z_seen_142)
  else
  (aget 96 z_seen_142 y1_142).bind (fun u25 =>
  (f_X11_pass z_place_142 v_isWriting z_kept_142 u25).bind (fun u26 =>
  (asetI 96 z_seen_142 y1_142 u26.1).bind (fun u27 =>
  f_X11_passAll_142 v_isWriting n (y1_142 + 1) u26.2.1 u26.2.2 u27)))) := rfl
def f_X11_passAll (v_seats : Int32) (v_bearIs : Int32) (v_comerMany : Int32) (v_seenRows : Int32) (v_place : Int32) (v_isWriting : Int32) (v_kept : Nat → Int32) (v_links : Nat → Int32) (v_worths : Nat → Int32) (v_comers : Nat → Int32) (v_seenMany : Nat → Int32) (v_seen : Nat → Int32) : Option (Int32 × Int32 × Int32 × Int32 × Int32 × (Nat → Int32) × (Nat → Int32) × (Nat → Int32) × (Nat → Int32) × (Nat → Int32) × (Nat → Int32)) :=
  (f_X11_pass v_place v_isWriting v_kept v_seats).bind (fun u1 =>
  (f_X11_pass u1.2.1 v_isWriting u1.2.2 v_bearIs).bind (fun u2 =>
  (f_X11_pass u2.2.1 v_isWriting u2.2.2 v_comerMany).bind (fun u3 =>
  (f_X11_pass u3.2.1 v_isWriting u3.2.2 v_seenRows).bind (fun u4 =>
  (f_X11_passAll_50 v_isWriting FU (0 : Int32) u4.2.1 u4.2.2 v_links v_worths v_comers).bind (fun u16 =>
  (f_X11_passAll_112 v_isWriting FU (0 : Int32) u16.1 u16.2.1 v_seenMany).bind (fun u22 =>
  (f_X11_passAll_142 v_isWriting FU (0 : Int32) u22.1 u22.2.1 v_seen).bind (fun u28 =>
  some (u1.1, u2.1, u3.1, u4.1, u28.1, u28.2.1, u16.2.2.1, u16.2.2.2.1, u16.2.2.2.2, u22.2.2, u28.2.2))))))))
set_option maxHeartbeats 4000000 in
set_option maxRecDepth 100000 in
theorem c_X11_passAll (l : Launch) (D : va_G) (cI cJ cZ cO : ClassId) (a_t a_signs a_links a_worths a_far a_mays a_rowsTo a_endIn a_ends a_pairSets a_awayIn a_now a_then a_comers a_seen a_seenMany a_kept a_isKept : Nat) (v_signMany : Int32) (v_seats : Int32) (v_bearIs : Int32) (v_rowsAll : Int64) (v_awayUpper : Int64) (v_lower : Int64) (v_comerMany : Int32) (v_seenRows : Int32) (v_place : Int32) (v_isWriting : Int32) (v_kept : Nat → Int32) (v_links : Nat → Int32) (v_worths : Nat → Int32) (v_comers : Nat → Int32) (v_seenMany : Nat → Int32) (v_seen : Nat → Int32) (out : Int32 × Int32 × Int32 × Int32 × Int32 × (Nat → Int32) × (Nat → Int32) × (Nat → Int32) × (Nat → Int32) × (Nat → Int32) × (Nat → Int32)) (hf : f_X11_passAll v_seats v_bearIs v_comerMany v_seenRows v_place v_isWriting v_kept v_links v_worths v_comers v_seenMany v_seen = some out) : MetR l yX11_passAll (Cond.code yX11_passAll cX11_passAll 2 none :: tbG) { frames := 1, cells := 0, slots := 0, locals := 22 } D (tyL cI cJ cZ cO) [.ref a_t] [(a_t, .inr (11, [.ref a_signs, .int v_signMany, .int v_seats, .ref a_links, .ref a_worths, .int v_bearIs, .ref a_far, .ref a_mays, .ref a_rowsTo, .ref a_endIn, .long v_rowsAll, .ref a_ends, .ref a_pairSets, .ref a_awayIn, .ref a_now, .ref a_then, .long v_awayUpper, .long v_lower, .ref a_comers, .int v_comerMany, .ref a_seen, .ref a_seenMany, .int v_seenRows, .ref a_kept, .ref a_isKept, .int v_place, .int v_isWriting])), (a_kept, eI cI 400 v_kept), (a_links, eI cI 12 v_links), (a_worths, eI cI 12 v_worths), (a_comers, eI cI 12 v_comers), (a_seenMany, eI cI 8 v_seenMany), (a_seen, eI cI 96 v_seen)] none [(a_t, .inr (11, [.ref a_signs, .int v_signMany, .int out.1, .ref a_links, .ref a_worths, .int out.2.1, .ref a_far, .ref a_mays, .ref a_rowsTo, .ref a_endIn, .long v_rowsAll, .ref a_ends, .ref a_pairSets, .ref a_awayIn, .ref a_now, .ref a_then, .long v_awayUpper, .long v_lower, .ref a_comers, .int out.2.2.1, .ref a_seen, .ref a_seenMany, .int out.2.2.2.1, .ref a_kept, .ref a_isKept, .int out.2.2.2.2.1, .int v_isWriting])), (a_kept, eI cI 400 out.2.2.2.2.2.1), (a_links, eI cI 12 out.2.2.2.2.2.2.1), (a_worths, eI cI 12 out.2.2.2.2.2.2.2.1), (a_comers, eI cI 12 out.2.2.2.2.2.2.2.2.1), (a_seenMany, eI cI 8 out.2.2.2.2.2.2.2.2.2.1), (a_seen, eI cI 96 out.2.2.2.2.2.2.2.2.2.2)] := by
  refine ba_ofV RX11 [(0, .ref a_t)] (by decide +kernel) rfl (Nat.le_of_ble_eq_true rfl) rfl ?_
  intro p e s m args below meth c Q A Cx hP ret ls hl
  obtain ⟨⟨hx, hb, hml, hown, hts⟩, hK, hD, hA⟩ := id Cx
  have hS : va_S A s.heap s.heap [] := va_S.rf
  unfold f_X11_passAll at hf
  refine lv_aload_n hx hb dX11_passAll_0 rfl (lv_at hl 0 rfl) ?_
  refine lv_aload_n hx hb dX11_passAll_1 rfl (lv_at hl 0 rfl) ?_
  refine lv_aload_n hx hb dX11_passAll_2 rfl (lv_at hl 0 rfl) ?_
  refine gf_X11_63 Cx hP 0 rfl rfl dX11_passAll_3 ?_
  obtain ⟨u1, hu1, hf⟩ := ob_b hf
  refine iv_X11_235 (As := [.int v_seats]) (rest := [.ref a_t]) (is := [0, 1]) (q0 := 0) (X' := [(a_t, .inr (11, [.ref a_signs, .int v_signMany, .int v_seats, .ref a_links, .ref a_worths, .int v_bearIs, .ref a_far, .ref a_mays, .ref a_rowsTo, .ref a_endIn, .long v_rowsAll, .ref a_ends, .ref a_pairSets, .ref a_awayIn, .ref a_now, .ref a_then, .long v_awayUpper, .long v_lower, .ref a_comers, .int v_comerMany, .ref a_seen, .ref a_seenMany, .int v_seenRows, .ref a_kept, .ref a_isKept, .int u1.2.1, .int v_isWriting])), (a_kept, eI cI 400 u1.2.2), (a_links, eI cI 12 v_links), (a_worths, eI cI 12 v_worths), (a_comers, eI cI 12 v_comers), (a_seenMany, eI cI 8 v_seenMany), (a_seen, eI cI 96 v_seen)]) Cx (c_X11_pass l D cI cJ cZ cO a_t a_signs a_links a_worths a_far a_mays a_rowsTo a_endIn a_ends a_pairSets a_awayIn a_now a_then a_comers a_seen a_seenMany a_kept a_isKept v_signMany v_seats v_bearIs v_rowsAll v_awayUpper v_lower v_comerMany v_seenRows v_place v_isWriting v_kept v_seats u1 hu1) hP hS rfl rfl rfl rfl rfl rfl rfl hl.1 (Nat.le_of_ble_eq_true rfl) dX11_passAll_6 rfl rfl ⟨Nat.le_of_ble_eq_true rfl, Nat.le_of_ble_eq_true rfl⟩ ⟨Nat.zero_le _, Nat.zero_le _⟩ rfl (fun H locs hP hS => ?_)
  refine pf_X11_63 (X' := [(a_t, .inr (11, [.ref a_signs, .int v_signMany, .int u1.1, .ref a_links, .ref a_worths, .int v_bearIs, .ref a_far, .ref a_mays, .ref a_rowsTo, .ref a_endIn, .long v_rowsAll, .ref a_ends, .ref a_pairSets, .ref a_awayIn, .ref a_now, .ref a_then, .long v_awayUpper, .long v_lower, .ref a_comers, .int v_comerMany, .ref a_seen, .ref a_seenMany, .int v_seenRows, .ref a_kept, .ref a_isKept, .int u1.2.1, .int v_isWriting])), (a_kept, eI cI 400 u1.2.2), (a_links, eI cI 12 v_links), (a_worths, eI cI 12 v_worths), (a_comers, eI cI 12 v_comers), (a_seenMany, eI cI 8 v_seenMany), (a_seen, eI cI 96 v_seen)]) Cx hP hS rfl 0 rfl rfl (Nat.le_of_ble_eq_true rfl) dX11_passAll_9 (fun H locs hP hS => ?_)
  refine lv_aload_n hx hb dX11_passAll_12 rfl (lv_at hl 0 rfl) ?_
  refine lv_aload_n hx hb dX11_passAll_13 rfl (lv_at hl 0 rfl) ?_
  refine lv_aload_n hx hb dX11_passAll_14 rfl (lv_at hl 0 rfl) ?_
  refine gf_X11_67 Cx hP 0 rfl rfl dX11_passAll_15 ?_
  obtain ⟨u2, hu2, hf⟩ := ob_b hf
  refine iv_X11_235 (As := [.int v_bearIs]) (rest := [.ref a_t]) (is := [0, 1]) (q0 := 0) (X' := [(a_t, .inr (11, [.ref a_signs, .int v_signMany, .int u1.1, .ref a_links, .ref a_worths, .int v_bearIs, .ref a_far, .ref a_mays, .ref a_rowsTo, .ref a_endIn, .long v_rowsAll, .ref a_ends, .ref a_pairSets, .ref a_awayIn, .ref a_now, .ref a_then, .long v_awayUpper, .long v_lower, .ref a_comers, .int v_comerMany, .ref a_seen, .ref a_seenMany, .int v_seenRows, .ref a_kept, .ref a_isKept, .int u2.2.1, .int v_isWriting])), (a_kept, eI cI 400 u2.2.2), (a_links, eI cI 12 v_links), (a_worths, eI cI 12 v_worths), (a_comers, eI cI 12 v_comers), (a_seenMany, eI cI 8 v_seenMany), (a_seen, eI cI 96 v_seen)]) Cx (c_X11_pass l D cI cJ cZ cO a_t a_signs a_links a_worths a_far a_mays a_rowsTo a_endIn a_ends a_pairSets a_awayIn a_now a_then a_comers a_seen a_seenMany a_kept a_isKept v_signMany u1.1 v_bearIs v_rowsAll v_awayUpper v_lower v_comerMany v_seenRows u1.2.1 v_isWriting u1.2.2 v_bearIs u2 hu2) hP hS rfl rfl rfl rfl rfl rfl rfl hl.1 (Nat.le_of_ble_eq_true rfl) dX11_passAll_18 rfl rfl ⟨Nat.le_of_ble_eq_true rfl, Nat.le_of_ble_eq_true rfl⟩ ⟨Nat.zero_le _, Nat.zero_le _⟩ rfl (fun H locs hP hS => ?_)
  refine pf_X11_67 (X' := [(a_t, .inr (11, [.ref a_signs, .int v_signMany, .int u1.1, .ref a_links, .ref a_worths, .int u2.1, .ref a_far, .ref a_mays, .ref a_rowsTo, .ref a_endIn, .long v_rowsAll, .ref a_ends, .ref a_pairSets, .ref a_awayIn, .ref a_now, .ref a_then, .long v_awayUpper, .long v_lower, .ref a_comers, .int v_comerMany, .ref a_seen, .ref a_seenMany, .int v_seenRows, .ref a_kept, .ref a_isKept, .int u2.2.1, .int v_isWriting])), (a_kept, eI cI 400 u2.2.2), (a_links, eI cI 12 v_links), (a_worths, eI cI 12 v_worths), (a_comers, eI cI 12 v_comers), (a_seenMany, eI cI 8 v_seenMany), (a_seen, eI cI 96 v_seen)]) Cx hP hS rfl 0 rfl rfl (Nat.le_of_ble_eq_true rfl) dX11_passAll_21 (fun H locs hP hS => ?_)
  refine lv_aload_n hx hb dX11_passAll_24 rfl (lv_at hl 0 rfl) ?_
  refine lv_aload_n hx hb dX11_passAll_25 rfl (lv_at hl 0 rfl) ?_
  refine lv_aload_n hx hb dX11_passAll_26 rfl (lv_at hl 0 rfl) ?_
  refine gf_X11_219 Cx hP 0 rfl rfl dX11_passAll_27 ?_
  obtain ⟨u3, hu3, hf⟩ := ob_b hf
  refine iv_X11_235 (As := [.int v_comerMany]) (rest := [.ref a_t]) (is := [0, 1]) (q0 := 0) (X' := [(a_t, .inr (11, [.ref a_signs, .int v_signMany, .int u1.1, .ref a_links, .ref a_worths, .int u2.1, .ref a_far, .ref a_mays, .ref a_rowsTo, .ref a_endIn, .long v_rowsAll, .ref a_ends, .ref a_pairSets, .ref a_awayIn, .ref a_now, .ref a_then, .long v_awayUpper, .long v_lower, .ref a_comers, .int v_comerMany, .ref a_seen, .ref a_seenMany, .int v_seenRows, .ref a_kept, .ref a_isKept, .int u3.2.1, .int v_isWriting])), (a_kept, eI cI 400 u3.2.2), (a_links, eI cI 12 v_links), (a_worths, eI cI 12 v_worths), (a_comers, eI cI 12 v_comers), (a_seenMany, eI cI 8 v_seenMany), (a_seen, eI cI 96 v_seen)]) Cx (c_X11_pass l D cI cJ cZ cO a_t a_signs a_links a_worths a_far a_mays a_rowsTo a_endIn a_ends a_pairSets a_awayIn a_now a_then a_comers a_seen a_seenMany a_kept a_isKept v_signMany u1.1 u2.1 v_rowsAll v_awayUpper v_lower v_comerMany v_seenRows u2.2.1 v_isWriting u2.2.2 v_comerMany u3 hu3) hP hS rfl rfl rfl rfl rfl rfl rfl hl.1 (Nat.le_of_ble_eq_true rfl) dX11_passAll_30 rfl rfl ⟨Nat.le_of_ble_eq_true rfl, Nat.le_of_ble_eq_true rfl⟩ ⟨Nat.zero_le _, Nat.zero_le _⟩ rfl (fun H locs hP hS => ?_)
  refine pf_X11_219 (X' := [(a_t, .inr (11, [.ref a_signs, .int v_signMany, .int u1.1, .ref a_links, .ref a_worths, .int u2.1, .ref a_far, .ref a_mays, .ref a_rowsTo, .ref a_endIn, .long v_rowsAll, .ref a_ends, .ref a_pairSets, .ref a_awayIn, .ref a_now, .ref a_then, .long v_awayUpper, .long v_lower, .ref a_comers, .int u3.1, .ref a_seen, .ref a_seenMany, .int v_seenRows, .ref a_kept, .ref a_isKept, .int u3.2.1, .int v_isWriting])), (a_kept, eI cI 400 u3.2.2), (a_links, eI cI 12 v_links), (a_worths, eI cI 12 v_worths), (a_comers, eI cI 12 v_comers), (a_seenMany, eI cI 8 v_seenMany), (a_seen, eI cI 96 v_seen)]) Cx hP hS rfl 0 rfl rfl (Nat.le_of_ble_eq_true rfl) dX11_passAll_33 (fun H locs hP hS => ?_)
  refine lv_aload_n hx hb dX11_passAll_36 rfl (lv_at hl 0 rfl) ?_
  refine lv_aload_n hx hb dX11_passAll_37 rfl (lv_at hl 0 rfl) ?_
  refine lv_aload_n hx hb dX11_passAll_38 rfl (lv_at hl 0 rfl) ?_
  refine gf_X11_89 Cx hP 0 rfl rfl dX11_passAll_39 ?_
  obtain ⟨u4, hu4, hf⟩ := ob_b hf
  refine iv_X11_235 (As := [.int v_seenRows]) (rest := [.ref a_t]) (is := [0, 1]) (q0 := 0) (X' := [(a_t, .inr (11, [.ref a_signs, .int v_signMany, .int u1.1, .ref a_links, .ref a_worths, .int u2.1, .ref a_far, .ref a_mays, .ref a_rowsTo, .ref a_endIn, .long v_rowsAll, .ref a_ends, .ref a_pairSets, .ref a_awayIn, .ref a_now, .ref a_then, .long v_awayUpper, .long v_lower, .ref a_comers, .int u3.1, .ref a_seen, .ref a_seenMany, .int v_seenRows, .ref a_kept, .ref a_isKept, .int u4.2.1, .int v_isWriting])), (a_kept, eI cI 400 u4.2.2), (a_links, eI cI 12 v_links), (a_worths, eI cI 12 v_worths), (a_comers, eI cI 12 v_comers), (a_seenMany, eI cI 8 v_seenMany), (a_seen, eI cI 96 v_seen)]) Cx (c_X11_pass l D cI cJ cZ cO a_t a_signs a_links a_worths a_far a_mays a_rowsTo a_endIn a_ends a_pairSets a_awayIn a_now a_then a_comers a_seen a_seenMany a_kept a_isKept v_signMany u1.1 u2.1 v_rowsAll v_awayUpper v_lower u3.1 v_seenRows u3.2.1 v_isWriting u3.2.2 v_seenRows u4 hu4) hP hS rfl rfl rfl rfl rfl rfl rfl hl.1 (Nat.le_of_ble_eq_true rfl) dX11_passAll_42 rfl rfl ⟨Nat.le_of_ble_eq_true rfl, Nat.le_of_ble_eq_true rfl⟩ ⟨Nat.zero_le _, Nat.zero_le _⟩ rfl (fun H locs hP hS => ?_)
  refine pf_X11_89 (X' := [(a_t, .inr (11, [.ref a_signs, .int v_signMany, .int u1.1, .ref a_links, .ref a_worths, .int u2.1, .ref a_far, .ref a_mays, .ref a_rowsTo, .ref a_endIn, .long v_rowsAll, .ref a_ends, .ref a_pairSets, .ref a_awayIn, .ref a_now, .ref a_then, .long v_awayUpper, .long v_lower, .ref a_comers, .int u3.1, .ref a_seen, .ref a_seenMany, .int u4.1, .ref a_kept, .ref a_isKept, .int u4.2.1, .int v_isWriting])), (a_kept, eI cI 400 u4.2.2), (a_links, eI cI 12 v_links), (a_worths, eI cI 12 v_worths), (a_comers, eI cI 12 v_comers), (a_seenMany, eI cI 8 v_seenMany), (a_seen, eI cI 96 v_seen)]) Cx hP hS rfl 0 rfl rfl (Nat.le_of_ble_eq_true rfl) dX11_passAll_45 (fun H locs hP hS => ?_)
  refine lv_iconst (v := 0) hx hb dX11_passAll_48 (by decide) ?_
  refine lv_istore_n (lv' := [(1, .int (0 : Int32)), (0, .ref a_t)]) hx hb dX11_passAll_49 rfl hl (by decide) rfl (fun ls hl => ?_)
  have L50_5 : ∀ (n : Nat) (y1_50 : Int32) (z_place_50 : Int32) (z_kept_50 : Nat → Int32) (z_links_50 : Nat → Int32) (z_worths_50 : Nat → Int32) (z_comers_50 : Nat → Int32) (o : Int32 × (Nat → Int32) × (Nat → Int32) × (Nat → Int32) × (Nat → Int32)) (H : Heap) (locs : List Loc) (ls : Array Slot), f_X11_passAll_50 v_isWriting n y1_50 z_place_50 z_kept_50 z_links_50 z_worths_50 z_comers_50 = some o → va_P D vwCl [(a_t, .inr (11, [.ref a_signs, .int v_signMany, .int u1.1, .ref a_links, .ref a_worths, .int u2.1, .ref a_far, .ref a_mays, .ref a_rowsTo, .ref a_endIn, .long v_rowsAll, .ref a_ends, .ref a_pairSets, .ref a_awayIn, .ref a_now, .ref a_then, .long v_awayUpper, .long v_lower, .ref a_comers, .int u3.1, .ref a_seen, .ref a_seenMany, .int u4.1, .ref a_kept, .ref a_isKept, .int z_place_50, .int v_isWriting])), (a_kept, eI cI 400 z_kept_50), (a_links, eI cI 12 z_links_50), (a_worths, eI cI 12 z_worths_50), (a_comers, eI cI 12 z_comers_50), (a_seenMany, eI cI 8 v_seenMany), (a_seen, eI cI 96 v_seen)] H → va_S A s.heap H locs → lv_has ls 2 [(0, .ref a_t), (1, .int y1_50)] → (∀ (H : Heap) (locs : List Loc) (ls : Array Slot), va_P D vwCl [(a_t, .inr (11, [.ref a_signs, .int v_signMany, .int u1.1, .ref a_links, .ref a_worths, .int u2.1, .ref a_far, .ref a_mays, .ref a_rowsTo, .ref a_endIn, .long v_rowsAll, .ref a_ends, .ref a_pairSets, .ref a_awayIn, .ref a_now, .ref a_then, .long v_awayUpper, .long v_lower, .ref a_comers, .int u3.1, .ref a_seen, .ref a_seenMany, .int u4.1, .ref a_kept, .ref a_isKept, .int o.1, .int v_isWriting])), (a_kept, eI cI 400 o.2.1), (a_links, eI cI 12 o.2.2.1), (a_worths, eI cI 12 o.2.2.2.1), (a_comers, eI cI 12 o.2.2.2.2), (a_seenMany, eI cI 8 v_seenMany), (a_seen, eI cI 96 v_seen)] H → va_S A s.heap H locs → lv_has ls 2 [(0, .ref a_t)] → W p l e { frames := 1, cells := 0, slots := 0, locals := 22 } s m args below meth c H locs 0 0 Q (F0 m 110 ls [])) → W p l e { frames := 1, cells := 0, slots := 0, locals := 22 } s m args below meth c H locs 0 0 Q (F0 m 50 ls []) := by
    intro n
    induction n with
    | zero => intro y1_50 z_place_50 z_kept_50 z_links_50 z_worths_50 z_comers_50 o H locs ls hf; exact (ob_n hf).elim
    | succ n ih =>
      intro y1_50 z_place_50 z_kept_50 z_links_50 z_worths_50 z_comers_50 o H locs ls hf hP hS hl kk
      rw [f_X11_passAll_50_s] at hf
      refine lv_iload_n hx hb dX11_passAll_50 rfl (lv_at hl 1 rfl) ?_
      refine lv_bipush (v := 12) hx hb dX11_passAll_51 (by decide) ?_
      refine lv_icmp_ge (tgt := 110) hx hb dX11_passAll_53 (by decide) (fun c6 => ?_) (fun c6 => ?_)
      · have hf := ob_t c6 hf
        obtain rfl := Option.some.inj hf
        exact kk _ _ _ hP hS (lv_sub hl [0] rfl)
      · have hf := ob_f c6 hf
        refine lv_aload_n hx hb dX11_passAll_56 rfl (lv_at hl 0 rfl) ?_
        refine gf_X11_13 Cx hP 0 rfl rfl dX11_passAll_57 ?_
        refine lv_iload_n hx hb dX11_passAll_60 rfl (lv_at hl 1 rfl) ?_
        refine lv_aload_n hx hb dX11_passAll_61 rfl (lv_at hl 0 rfl) ?_
        refine lv_aload_n hx hb dX11_passAll_62 rfl (lv_at hl 0 rfl) ?_
        refine gf_X11_13 Cx hP 0 rfl rfl dX11_passAll_63 ?_
        refine lv_iload_n hx hb dX11_passAll_66 rfl (lv_at hl 1 rfl) ?_
        obtain ⟨u7, hu7, hf⟩ := ob_b hf
        refine ba_iald Cx hP 2 rfl hu7 dX11_passAll_67 ?_
        obtain ⟨u8, hu8, hf⟩ := ob_b hf
        refine iv_X11_235 (As := [.int u7]) (rest := [.int y1_50, .ref a_links]) (is := [0, 1]) (q0 := 0) (X' := [(a_t, .inr (11, [.ref a_signs, .int v_signMany, .int u1.1, .ref a_links, .ref a_worths, .int u2.1, .ref a_far, .ref a_mays, .ref a_rowsTo, .ref a_endIn, .long v_rowsAll, .ref a_ends, .ref a_pairSets, .ref a_awayIn, .ref a_now, .ref a_then, .long v_awayUpper, .long v_lower, .ref a_comers, .int u3.1, .ref a_seen, .ref a_seenMany, .int u4.1, .ref a_kept, .ref a_isKept, .int u8.2.1, .int v_isWriting])), (a_kept, eI cI 400 u8.2.2), (a_links, eI cI 12 z_links_50), (a_worths, eI cI 12 z_worths_50), (a_comers, eI cI 12 z_comers_50), (a_seenMany, eI cI 8 v_seenMany), (a_seen, eI cI 96 v_seen)]) Cx (c_X11_pass l D cI cJ cZ cO a_t a_signs a_links a_worths a_far a_mays a_rowsTo a_endIn a_ends a_pairSets a_awayIn a_now a_then a_comers a_seen a_seenMany a_kept a_isKept v_signMany u1.1 u2.1 v_rowsAll v_awayUpper v_lower u3.1 u4.1 z_place_50 v_isWriting z_kept_50 u7 u8 hu8) hP hS rfl rfl rfl rfl rfl rfl rfl hl.1 (Nat.le_of_ble_eq_true rfl) dX11_passAll_68 rfl rfl ⟨Nat.le_of_ble_eq_true rfl, Nat.le_of_ble_eq_true rfl⟩ ⟨Nat.zero_le _, Nat.zero_le _⟩ rfl (fun H locs hP hS => ?_)
        obtain ⟨u9, hu9, hf⟩ := ob_b hf
        refine ba_iast (X' := [(a_t, .inr (11, [.ref a_signs, .int v_signMany, .int u1.1, .ref a_links, .ref a_worths, .int u2.1, .ref a_far, .ref a_mays, .ref a_rowsTo, .ref a_endIn, .long v_rowsAll, .ref a_ends, .ref a_pairSets, .ref a_awayIn, .ref a_now, .ref a_then, .long v_awayUpper, .long v_lower, .ref a_comers, .int u3.1, .ref a_seen, .ref a_seenMany, .int u4.1, .ref a_kept, .ref a_isKept, .int u8.2.1, .int v_isWriting])), (a_kept, eI cI 400 u8.2.2), (a_links, eI cI 12 u9), (a_worths, eI cI 12 z_worths_50), (a_comers, eI cI 12 z_comers_50), (a_seenMany, eI cI 8 v_seenMany), (a_seen, eI cI 96 v_seen)]) Cx hP hS rfl 2 rfl rfl hu9 dX11_passAll_71 (fun H locs hP hS => ?_)
        refine lv_aload_n hx hb dX11_passAll_72 rfl (lv_at hl 0 rfl) ?_
        refine gf_X11_16 Cx hP 0 rfl rfl dX11_passAll_73 ?_
        refine lv_iload_n hx hb dX11_passAll_76 rfl (lv_at hl 1 rfl) ?_
        refine lv_aload_n hx hb dX11_passAll_77 rfl (lv_at hl 0 rfl) ?_
        refine lv_aload_n hx hb dX11_passAll_78 rfl (lv_at hl 0 rfl) ?_
        refine gf_X11_16 Cx hP 0 rfl rfl dX11_passAll_79 ?_
        refine lv_iload_n hx hb dX11_passAll_82 rfl (lv_at hl 1 rfl) ?_
        obtain ⟨u10, hu10, hf⟩ := ob_b hf
        refine ba_iald Cx hP 3 rfl hu10 dX11_passAll_83 ?_
        obtain ⟨u11, hu11, hf⟩ := ob_b hf
        refine iv_X11_235 (As := [.int u10]) (rest := [.int y1_50, .ref a_worths]) (is := [0, 1]) (q0 := 0) (X' := [(a_t, .inr (11, [.ref a_signs, .int v_signMany, .int u1.1, .ref a_links, .ref a_worths, .int u2.1, .ref a_far, .ref a_mays, .ref a_rowsTo, .ref a_endIn, .long v_rowsAll, .ref a_ends, .ref a_pairSets, .ref a_awayIn, .ref a_now, .ref a_then, .long v_awayUpper, .long v_lower, .ref a_comers, .int u3.1, .ref a_seen, .ref a_seenMany, .int u4.1, .ref a_kept, .ref a_isKept, .int u11.2.1, .int v_isWriting])), (a_kept, eI cI 400 u11.2.2), (a_links, eI cI 12 u9), (a_worths, eI cI 12 z_worths_50), (a_comers, eI cI 12 z_comers_50), (a_seenMany, eI cI 8 v_seenMany), (a_seen, eI cI 96 v_seen)]) Cx (c_X11_pass l D cI cJ cZ cO a_t a_signs a_links a_worths a_far a_mays a_rowsTo a_endIn a_ends a_pairSets a_awayIn a_now a_then a_comers a_seen a_seenMany a_kept a_isKept v_signMany u1.1 u2.1 v_rowsAll v_awayUpper v_lower u3.1 u4.1 u8.2.1 v_isWriting u8.2.2 u10 u11 hu11) hP hS rfl rfl rfl rfl rfl rfl rfl hl.1 (Nat.le_of_ble_eq_true rfl) dX11_passAll_84 rfl rfl ⟨Nat.le_of_ble_eq_true rfl, Nat.le_of_ble_eq_true rfl⟩ ⟨Nat.zero_le _, Nat.zero_le _⟩ rfl (fun H locs hP hS => ?_)
        obtain ⟨u12, hu12, hf⟩ := ob_b hf
        refine ba_iast (X' := [(a_t, .inr (11, [.ref a_signs, .int v_signMany, .int u1.1, .ref a_links, .ref a_worths, .int u2.1, .ref a_far, .ref a_mays, .ref a_rowsTo, .ref a_endIn, .long v_rowsAll, .ref a_ends, .ref a_pairSets, .ref a_awayIn, .ref a_now, .ref a_then, .long v_awayUpper, .long v_lower, .ref a_comers, .int u3.1, .ref a_seen, .ref a_seenMany, .int u4.1, .ref a_kept, .ref a_isKept, .int u11.2.1, .int v_isWriting])), (a_kept, eI cI 400 u11.2.2), (a_links, eI cI 12 u9), (a_worths, eI cI 12 u12), (a_comers, eI cI 12 z_comers_50), (a_seenMany, eI cI 8 v_seenMany), (a_seen, eI cI 96 v_seen)]) Cx hP hS rfl 3 rfl rfl hu12 dX11_passAll_87 (fun H locs hP hS => ?_)
        refine lv_aload_n hx hb dX11_passAll_88 rfl (lv_at hl 0 rfl) ?_
        refine gf_X11_47 Cx hP 0 rfl rfl dX11_passAll_89 ?_
        refine lv_iload_n hx hb dX11_passAll_92 rfl (lv_at hl 1 rfl) ?_
        refine lv_aload_n hx hb dX11_passAll_93 rfl (lv_at hl 0 rfl) ?_
        refine lv_aload_n hx hb dX11_passAll_94 rfl (lv_at hl 0 rfl) ?_
        refine gf_X11_47 Cx hP 0 rfl rfl dX11_passAll_95 ?_
        refine lv_iload_n hx hb dX11_passAll_98 rfl (lv_at hl 1 rfl) ?_
        obtain ⟨u13, hu13, hf⟩ := ob_b hf
        refine ba_iald Cx hP 4 rfl hu13 dX11_passAll_99 ?_
        obtain ⟨u14, hu14, hf⟩ := ob_b hf
        refine iv_X11_235 (As := [.int u13]) (rest := [.int y1_50, .ref a_comers]) (is := [0, 1]) (q0 := 0) (X' := [(a_t, .inr (11, [.ref a_signs, .int v_signMany, .int u1.1, .ref a_links, .ref a_worths, .int u2.1, .ref a_far, .ref a_mays, .ref a_rowsTo, .ref a_endIn, .long v_rowsAll, .ref a_ends, .ref a_pairSets, .ref a_awayIn, .ref a_now, .ref a_then, .long v_awayUpper, .long v_lower, .ref a_comers, .int u3.1, .ref a_seen, .ref a_seenMany, .int u4.1, .ref a_kept, .ref a_isKept, .int u14.2.1, .int v_isWriting])), (a_kept, eI cI 400 u14.2.2), (a_links, eI cI 12 u9), (a_worths, eI cI 12 u12), (a_comers, eI cI 12 z_comers_50), (a_seenMany, eI cI 8 v_seenMany), (a_seen, eI cI 96 v_seen)]) Cx (c_X11_pass l D cI cJ cZ cO a_t a_signs a_links a_worths a_far a_mays a_rowsTo a_endIn a_ends a_pairSets a_awayIn a_now a_then a_comers a_seen a_seenMany a_kept a_isKept v_signMany u1.1 u2.1 v_rowsAll v_awayUpper v_lower u3.1 u4.1 u11.2.1 v_isWriting u11.2.2 u13 u14 hu14) hP hS rfl rfl rfl rfl rfl rfl rfl hl.1 (Nat.le_of_ble_eq_true rfl) dX11_passAll_100 rfl rfl ⟨Nat.le_of_ble_eq_true rfl, Nat.le_of_ble_eq_true rfl⟩ ⟨Nat.zero_le _, Nat.zero_le _⟩ rfl (fun H locs hP hS => ?_)
        obtain ⟨u15, hu15, hf⟩ := ob_b hf
        refine ba_iast (X' := [(a_t, .inr (11, [.ref a_signs, .int v_signMany, .int u1.1, .ref a_links, .ref a_worths, .int u2.1, .ref a_far, .ref a_mays, .ref a_rowsTo, .ref a_endIn, .long v_rowsAll, .ref a_ends, .ref a_pairSets, .ref a_awayIn, .ref a_now, .ref a_then, .long v_awayUpper, .long v_lower, .ref a_comers, .int u3.1, .ref a_seen, .ref a_seenMany, .int u4.1, .ref a_kept, .ref a_isKept, .int u14.2.1, .int v_isWriting])), (a_kept, eI cI 400 u14.2.2), (a_links, eI cI 12 u9), (a_worths, eI cI 12 u12), (a_comers, eI cI 12 u15), (a_seenMany, eI cI 8 v_seenMany), (a_seen, eI cI 96 v_seen)]) Cx hP hS rfl 4 rfl rfl hu15 dX11_passAll_103 (fun H locs hP hS => ?_)
        refine lv_iinc (v := (y1_50 + 1)) (lv' := [(1, .int (y1_50 + 1)), (0, .ref a_t)]) hx hb dX11_passAll_104 hl (k := 1) rfl rfl (by decide) rfl (fun ls hl => ?_)
        refine lv_goto (tgt := 50) hx hb dX11_passAll_107 (by decide) ?_
        exact ih (y1_50 + 1) u14.2.1 u14.2.2 u9 u12 u15 _ _ _ _ hf hP hS (lv_sub hl [1, 0] rfl) kk
  obtain ⟨u16, hu16, hf⟩ := ob_b hf
  refine L50_5 FU (0 : Int32) u4.2.1 u4.2.2 v_links v_worths v_comers u16 _ _ _ hu16 hP hS (lv_sub hl [1, 0] rfl) ?_
  intro H locs ls hP hS hl
  refine lv_iconst (v := 0) hx hb dX11_passAll_110 (by decide) ?_
  refine lv_istore_n (lv' := [(1, .int (0 : Int32)), (0, .ref a_t)]) hx hb dX11_passAll_111 rfl hl (by decide) rfl (fun ls hl => ?_)
  have L112_17 : ∀ (n : Nat) (y1_112 : Int32) (z_place_112 : Int32) (z_kept_112 : Nat → Int32) (z_seenMany_112 : Nat → Int32) (o : Int32 × (Nat → Int32) × (Nat → Int32)) (H : Heap) (locs : List Loc) (ls : Array Slot), f_X11_passAll_112 v_isWriting n y1_112 z_place_112 z_kept_112 z_seenMany_112 = some o → va_P D vwCl [(a_t, .inr (11, [.ref a_signs, .int v_signMany, .int u1.1, .ref a_links, .ref a_worths, .int u2.1, .ref a_far, .ref a_mays, .ref a_rowsTo, .ref a_endIn, .long v_rowsAll, .ref a_ends, .ref a_pairSets, .ref a_awayIn, .ref a_now, .ref a_then, .long v_awayUpper, .long v_lower, .ref a_comers, .int u3.1, .ref a_seen, .ref a_seenMany, .int u4.1, .ref a_kept, .ref a_isKept, .int z_place_112, .int v_isWriting])), (a_kept, eI cI 400 z_kept_112), (a_links, eI cI 12 u16.2.2.1), (a_worths, eI cI 12 u16.2.2.2.1), (a_comers, eI cI 12 u16.2.2.2.2), (a_seenMany, eI cI 8 z_seenMany_112), (a_seen, eI cI 96 v_seen)] H → va_S A s.heap H locs → lv_has ls 2 [(0, .ref a_t), (1, .int y1_112)] → (∀ (H : Heap) (locs : List Loc) (ls : Array Slot), va_P D vwCl [(a_t, .inr (11, [.ref a_signs, .int v_signMany, .int u1.1, .ref a_links, .ref a_worths, .int u2.1, .ref a_far, .ref a_mays, .ref a_rowsTo, .ref a_endIn, .long v_rowsAll, .ref a_ends, .ref a_pairSets, .ref a_awayIn, .ref a_now, .ref a_then, .long v_awayUpper, .long v_lower, .ref a_comers, .int u3.1, .ref a_seen, .ref a_seenMany, .int u4.1, .ref a_kept, .ref a_isKept, .int o.1, .int v_isWriting])), (a_kept, eI cI 400 o.2.1), (a_links, eI cI 12 u16.2.2.1), (a_worths, eI cI 12 u16.2.2.2.1), (a_comers, eI cI 12 u16.2.2.2.2), (a_seenMany, eI cI 8 o.2.2), (a_seen, eI cI 96 v_seen)] H → va_S A s.heap H locs → lv_has ls 2 [(0, .ref a_t)] → W p l e { frames := 1, cells := 0, slots := 0, locals := 22 } s m args below meth c H locs 0 0 Q (F0 m 140 ls [])) → W p l e { frames := 1, cells := 0, slots := 0, locals := 22 } s m args below meth c H locs 0 0 Q (F0 m 112 ls []) := by
    intro n
    induction n with
    | zero => intro y1_112 z_place_112 z_kept_112 z_seenMany_112 o H locs ls hf; exact (ob_n hf).elim
    | succ n ih =>
      intro y1_112 z_place_112 z_kept_112 z_seenMany_112 o H locs ls hf hP hS hl kk
      rw [f_X11_passAll_112_s] at hf
      refine lv_iload_n hx hb dX11_passAll_112 rfl (lv_at hl 1 rfl) ?_
      refine lv_bipush (v := 8) hx hb dX11_passAll_113 (by decide) ?_
      refine lv_icmp_ge (tgt := 140) hx hb dX11_passAll_115 (by decide) (fun c18 => ?_) (fun c18 => ?_)
      · have hf := ob_t c18 hf
        obtain rfl := Option.some.inj hf
        exact kk _ _ _ hP hS (lv_sub hl [0] rfl)
      · have hf := ob_f c18 hf
        refine lv_aload_n hx hb dX11_passAll_118 rfl (lv_at hl 0 rfl) ?_
        refine gf_X11_53 Cx hP 0 rfl rfl dX11_passAll_119 ?_
        refine lv_iload_n hx hb dX11_passAll_122 rfl (lv_at hl 1 rfl) ?_
        refine lv_aload_n hx hb dX11_passAll_123 rfl (lv_at hl 0 rfl) ?_
        refine lv_aload_n hx hb dX11_passAll_124 rfl (lv_at hl 0 rfl) ?_
        refine gf_X11_53 Cx hP 0 rfl rfl dX11_passAll_125 ?_
        refine lv_iload_n hx hb dX11_passAll_128 rfl (lv_at hl 1 rfl) ?_
        obtain ⟨u19, hu19, hf⟩ := ob_b hf
        refine ba_iald Cx hP 5 rfl hu19 dX11_passAll_129 ?_
        obtain ⟨u20, hu20, hf⟩ := ob_b hf
        refine iv_X11_235 (As := [.int u19]) (rest := [.int y1_112, .ref a_seenMany]) (is := [0, 1]) (q0 := 0) (X' := [(a_t, .inr (11, [.ref a_signs, .int v_signMany, .int u1.1, .ref a_links, .ref a_worths, .int u2.1, .ref a_far, .ref a_mays, .ref a_rowsTo, .ref a_endIn, .long v_rowsAll, .ref a_ends, .ref a_pairSets, .ref a_awayIn, .ref a_now, .ref a_then, .long v_awayUpper, .long v_lower, .ref a_comers, .int u3.1, .ref a_seen, .ref a_seenMany, .int u4.1, .ref a_kept, .ref a_isKept, .int u20.2.1, .int v_isWriting])), (a_kept, eI cI 400 u20.2.2), (a_links, eI cI 12 u16.2.2.1), (a_worths, eI cI 12 u16.2.2.2.1), (a_comers, eI cI 12 u16.2.2.2.2), (a_seenMany, eI cI 8 z_seenMany_112), (a_seen, eI cI 96 v_seen)]) Cx (c_X11_pass l D cI cJ cZ cO a_t a_signs a_links a_worths a_far a_mays a_rowsTo a_endIn a_ends a_pairSets a_awayIn a_now a_then a_comers a_seen a_seenMany a_kept a_isKept v_signMany u1.1 u2.1 v_rowsAll v_awayUpper v_lower u3.1 u4.1 z_place_112 v_isWriting z_kept_112 u19 u20 hu20) hP hS rfl rfl rfl rfl rfl rfl rfl hl.1 (Nat.le_of_ble_eq_true rfl) dX11_passAll_130 rfl rfl ⟨Nat.le_of_ble_eq_true rfl, Nat.le_of_ble_eq_true rfl⟩ ⟨Nat.zero_le _, Nat.zero_le _⟩ rfl (fun H locs hP hS => ?_)
        obtain ⟨u21, hu21, hf⟩ := ob_b hf
        refine ba_iast (X' := [(a_t, .inr (11, [.ref a_signs, .int v_signMany, .int u1.1, .ref a_links, .ref a_worths, .int u2.1, .ref a_far, .ref a_mays, .ref a_rowsTo, .ref a_endIn, .long v_rowsAll, .ref a_ends, .ref a_pairSets, .ref a_awayIn, .ref a_now, .ref a_then, .long v_awayUpper, .long v_lower, .ref a_comers, .int u3.1, .ref a_seen, .ref a_seenMany, .int u4.1, .ref a_kept, .ref a_isKept, .int u20.2.1, .int v_isWriting])), (a_kept, eI cI 400 u20.2.2), (a_links, eI cI 12 u16.2.2.1), (a_worths, eI cI 12 u16.2.2.2.1), (a_comers, eI cI 12 u16.2.2.2.2), (a_seenMany, eI cI 8 u21), (a_seen, eI cI 96 v_seen)]) Cx hP hS rfl 5 rfl rfl hu21 dX11_passAll_133 (fun H locs hP hS => ?_)
        refine lv_iinc (v := (y1_112 + 1)) (lv' := [(1, .int (y1_112 + 1)), (0, .ref a_t)]) hx hb dX11_passAll_134 hl (k := 1) rfl rfl (by decide) rfl (fun ls hl => ?_)
        refine lv_goto (tgt := 112) hx hb dX11_passAll_137 (by decide) ?_
        exact ih (y1_112 + 1) u20.2.1 u20.2.2 u21 _ _ _ _ hf hP hS (lv_sub hl [1, 0] rfl) kk
  obtain ⟨u22, hu22, hf⟩ := ob_b hf
  refine L112_17 FU (0 : Int32) u16.1 u16.2.1 v_seenMany u22 _ _ _ hu22 hP hS (lv_sub hl [1, 0] rfl) ?_
  intro H locs ls hP hS hl
  refine lv_iconst (v := 0) hx hb dX11_passAll_140 (by decide) ?_
  refine lv_istore_n (lv' := [(1, .int (0 : Int32)), (0, .ref a_t)]) hx hb dX11_passAll_141 rfl hl (by decide) rfl (fun ls hl => ?_)
  have L142_23 : ∀ (n : Nat) (y1_142 : Int32) (z_place_142 : Int32) (z_kept_142 : Nat → Int32) (z_seen_142 : Nat → Int32) (o : Int32 × (Nat → Int32) × (Nat → Int32)) (H : Heap) (locs : List Loc) (ls : Array Slot), f_X11_passAll_142 v_isWriting n y1_142 z_place_142 z_kept_142 z_seen_142 = some o → va_P D vwCl [(a_t, .inr (11, [.ref a_signs, .int v_signMany, .int u1.1, .ref a_links, .ref a_worths, .int u2.1, .ref a_far, .ref a_mays, .ref a_rowsTo, .ref a_endIn, .long v_rowsAll, .ref a_ends, .ref a_pairSets, .ref a_awayIn, .ref a_now, .ref a_then, .long v_awayUpper, .long v_lower, .ref a_comers, .int u3.1, .ref a_seen, .ref a_seenMany, .int u4.1, .ref a_kept, .ref a_isKept, .int z_place_142, .int v_isWriting])), (a_kept, eI cI 400 z_kept_142), (a_links, eI cI 12 u16.2.2.1), (a_worths, eI cI 12 u16.2.2.2.1), (a_comers, eI cI 12 u16.2.2.2.2), (a_seenMany, eI cI 8 u22.2.2), (a_seen, eI cI 96 z_seen_142)] H → va_S A s.heap H locs → lv_has ls 2 [(0, .ref a_t), (1, .int y1_142)] → (∀ (H : Heap) (locs : List Loc) (ls : Array Slot), va_P D vwCl [(a_t, .inr (11, [.ref a_signs, .int v_signMany, .int u1.1, .ref a_links, .ref a_worths, .int u2.1, .ref a_far, .ref a_mays, .ref a_rowsTo, .ref a_endIn, .long v_rowsAll, .ref a_ends, .ref a_pairSets, .ref a_awayIn, .ref a_now, .ref a_then, .long v_awayUpper, .long v_lower, .ref a_comers, .int u3.1, .ref a_seen, .ref a_seenMany, .int u4.1, .ref a_kept, .ref a_isKept, .int o.1, .int v_isWriting])), (a_kept, eI cI 400 o.2.1), (a_links, eI cI 12 u16.2.2.1), (a_worths, eI cI 12 u16.2.2.2.1), (a_comers, eI cI 12 u16.2.2.2.2), (a_seenMany, eI cI 8 u22.2.2), (a_seen, eI cI 96 o.2.2)] H → va_S A s.heap H locs → lv_has ls 2 [] → W p l e { frames := 1, cells := 0, slots := 0, locals := 22 } s m args below meth c H locs 0 0 Q (F0 m 170 ls [])) → W p l e { frames := 1, cells := 0, slots := 0, locals := 22 } s m args below meth c H locs 0 0 Q (F0 m 142 ls []) := by
    intro n
    induction n with
    | zero => intro y1_142 z_place_142 z_kept_142 z_seen_142 o H locs ls hf; exact (ob_n hf).elim
    | succ n ih =>
      intro y1_142 z_place_142 z_kept_142 z_seen_142 o H locs ls hf hP hS hl kk
      rw [f_X11_passAll_142_s] at hf
      refine lv_iload_n hx hb dX11_passAll_142 rfl (lv_at hl 1 rfl) ?_
      refine lv_bipush (v := 96) hx hb dX11_passAll_143 (by decide) ?_
      refine lv_icmp_ge (tgt := 170) hx hb dX11_passAll_145 (by decide) (fun c24 => ?_) (fun c24 => ?_)
      · have hf := ob_t c24 hf
        obtain rfl := Option.some.inj hf
        exact kk _ _ _ hP hS (lv_sub hl [] rfl)
      · have hf := ob_f c24 hf
        refine lv_aload_n hx hb dX11_passAll_148 rfl (lv_at hl 0 rfl) ?_
        refine gf_X11_50 Cx hP 0 rfl rfl dX11_passAll_149 ?_
        refine lv_iload_n hx hb dX11_passAll_152 rfl (lv_at hl 1 rfl) ?_
        refine lv_aload_n hx hb dX11_passAll_153 rfl (lv_at hl 0 rfl) ?_
        refine lv_aload_n hx hb dX11_passAll_154 rfl (lv_at hl 0 rfl) ?_
        refine gf_X11_50 Cx hP 0 rfl rfl dX11_passAll_155 ?_
        refine lv_iload_n hx hb dX11_passAll_158 rfl (lv_at hl 1 rfl) ?_
        obtain ⟨u25, hu25, hf⟩ := ob_b hf
        refine ba_iald Cx hP 6 rfl hu25 dX11_passAll_159 ?_
        obtain ⟨u26, hu26, hf⟩ := ob_b hf
        refine iv_X11_235 (As := [.int u25]) (rest := [.int y1_142, .ref a_seen]) (is := [0, 1]) (q0 := 0) (X' := [(a_t, .inr (11, [.ref a_signs, .int v_signMany, .int u1.1, .ref a_links, .ref a_worths, .int u2.1, .ref a_far, .ref a_mays, .ref a_rowsTo, .ref a_endIn, .long v_rowsAll, .ref a_ends, .ref a_pairSets, .ref a_awayIn, .ref a_now, .ref a_then, .long v_awayUpper, .long v_lower, .ref a_comers, .int u3.1, .ref a_seen, .ref a_seenMany, .int u4.1, .ref a_kept, .ref a_isKept, .int u26.2.1, .int v_isWriting])), (a_kept, eI cI 400 u26.2.2), (a_links, eI cI 12 u16.2.2.1), (a_worths, eI cI 12 u16.2.2.2.1), (a_comers, eI cI 12 u16.2.2.2.2), (a_seenMany, eI cI 8 u22.2.2), (a_seen, eI cI 96 z_seen_142)]) Cx (c_X11_pass l D cI cJ cZ cO a_t a_signs a_links a_worths a_far a_mays a_rowsTo a_endIn a_ends a_pairSets a_awayIn a_now a_then a_comers a_seen a_seenMany a_kept a_isKept v_signMany u1.1 u2.1 v_rowsAll v_awayUpper v_lower u3.1 u4.1 z_place_142 v_isWriting z_kept_142 u25 u26 hu26) hP hS rfl rfl rfl rfl rfl rfl rfl hl.1 (Nat.le_of_ble_eq_true rfl) dX11_passAll_160 rfl rfl ⟨Nat.le_of_ble_eq_true rfl, Nat.le_of_ble_eq_true rfl⟩ ⟨Nat.zero_le _, Nat.zero_le _⟩ rfl (fun H locs hP hS => ?_)
        obtain ⟨u27, hu27, hf⟩ := ob_b hf
        refine ba_iast (X' := [(a_t, .inr (11, [.ref a_signs, .int v_signMany, .int u1.1, .ref a_links, .ref a_worths, .int u2.1, .ref a_far, .ref a_mays, .ref a_rowsTo, .ref a_endIn, .long v_rowsAll, .ref a_ends, .ref a_pairSets, .ref a_awayIn, .ref a_now, .ref a_then, .long v_awayUpper, .long v_lower, .ref a_comers, .int u3.1, .ref a_seen, .ref a_seenMany, .int u4.1, .ref a_kept, .ref a_isKept, .int u26.2.1, .int v_isWriting])), (a_kept, eI cI 400 u26.2.2), (a_links, eI cI 12 u16.2.2.1), (a_worths, eI cI 12 u16.2.2.2.1), (a_comers, eI cI 12 u16.2.2.2.2), (a_seenMany, eI cI 8 u22.2.2), (a_seen, eI cI 96 u27)]) Cx hP hS rfl 6 rfl rfl hu27 dX11_passAll_163 (fun H locs hP hS => ?_)
        refine lv_iinc (v := (y1_142 + 1)) (lv' := [(1, .int (y1_142 + 1)), (0, .ref a_t)]) hx hb dX11_passAll_164 hl (k := 1) rfl rfl (by decide) rfl (fun ls hl => ?_)
        refine lv_goto (tgt := 142) hx hb dX11_passAll_167 (by decide) ?_
        exact ih (y1_142 + 1) u26.2.1 u26.2.2 u27 _ _ _ _ hf hP hS (lv_sub hl [1, 0] rfl) kk
  obtain ⟨u28, hu28, hf⟩ := ob_b hf
  refine L142_23 FU (0 : Int32) u22.1 u22.2.1 v_seen u28 _ _ _ hu28 hP hS (lv_sub hl [1, 0] rfl) ?_
  intro H locs ls hP hS hl
  obtain rfl := Option.some.inj hf
  exact ret _ _ _ _ dX11_passAll_170 hP hS

def f_X11_image (v_seats : Int32) (v_bearIs : Int32) (v_comerMany : Int32) (v_seenRows : Int32) (v_place : Int32) (v_isWriting : Int32) (v_kept : Nat → Int32) (v_links : Nat → Int32) (v_worths : Nat → Int32) (v_comers : Nat → Int32) (v_seenMany : Nat → Int32) (v_seen : Nat → Int32) (v_isKept : Nat → Int32) (x1 : Int32) : Option (Int32 × Int32 × Int32 × Int32 × Int32 × Int32 × Int32 × (Nat → Int32) × (Nat → Int32) × (Nat → Int32) × (Nat → Int32) × (Nat → Int32) × (Nat → Int32) × (Nat → Int32)) :=
  (f_X11_in ((x1).toInt64) (0 : Int64) (1 : Int64)).bind (fun u1 =>
  if u1 = 0 then
  some ((-2 : Int32), v_seats, v_bearIs, v_comerMany, v_seenRows, v_place, v_isWriting, v_kept, v_links, v_worths, v_comers, v_seenMany, v_seen, v_isKept)
  else
  (f_X11_passAll v_seats v_bearIs v_comerMany v_seenRows ((200 : Int32) * x1) (1 : Int32) v_kept v_links v_worths v_comers v_seenMany v_seen).bind (fun u3 =>
  (asetI 2 v_isKept x1 (1 : Int32)).bind (fun u4 =>
  some ((1 : Int32), u3.1, u3.2.1, u3.2.2.1, u3.2.2.2.1, u3.2.2.2.2.1, (1 : Int32), u3.2.2.2.2.2.1, u3.2.2.2.2.2.2.1, u3.2.2.2.2.2.2.2.1, u3.2.2.2.2.2.2.2.2.1, u3.2.2.2.2.2.2.2.2.2.1, u3.2.2.2.2.2.2.2.2.2.2, u4))))
set_option maxHeartbeats 4000000 in
set_option maxRecDepth 100000 in
theorem c_X11_image (l : Launch) (D : va_G) (cI cJ cZ cO : ClassId) (a_t a_signs a_links a_worths a_far a_mays a_rowsTo a_endIn a_ends a_pairSets a_awayIn a_now a_then a_comers a_seen a_seenMany a_kept a_isKept : Nat) (v_signMany : Int32) (v_seats : Int32) (v_bearIs : Int32) (v_rowsAll : Int64) (v_awayUpper : Int64) (v_lower : Int64) (v_comerMany : Int32) (v_seenRows : Int32) (v_place : Int32) (v_isWriting : Int32) (v_kept : Nat → Int32) (v_links : Nat → Int32) (v_worths : Nat → Int32) (v_comers : Nat → Int32) (v_seenMany : Nat → Int32) (v_seen : Nat → Int32) (v_isKept : Nat → Int32) (x1 : Int32) (out : Int32 × Int32 × Int32 × Int32 × Int32 × Int32 × Int32 × (Nat → Int32) × (Nat → Int32) × (Nat → Int32) × (Nat → Int32) × (Nat → Int32) × (Nat → Int32) × (Nat → Int32)) (hf : f_X11_image v_seats v_bearIs v_comerMany v_seenRows v_place v_isWriting v_kept v_links v_worths v_comers v_seenMany v_seen v_isKept x1 = some out) : MetR l yX11_image (Cond.code yX11_image cX11_image 2 (some .int) :: tbG) { frames := 2, cells := 0, slots := 0, locals := 43 } D (tyL cI cJ cZ cO) [.ref a_t, .int x1] [(a_t, .inr (11, [.ref a_signs, .int v_signMany, .int v_seats, .ref a_links, .ref a_worths, .int v_bearIs, .ref a_far, .ref a_mays, .ref a_rowsTo, .ref a_endIn, .long v_rowsAll, .ref a_ends, .ref a_pairSets, .ref a_awayIn, .ref a_now, .ref a_then, .long v_awayUpper, .long v_lower, .ref a_comers, .int v_comerMany, .ref a_seen, .ref a_seenMany, .int v_seenRows, .ref a_kept, .ref a_isKept, .int v_place, .int v_isWriting])), (a_kept, eI cI 400 v_kept), (a_links, eI cI 12 v_links), (a_worths, eI cI 12 v_worths), (a_comers, eI cI 12 v_comers), (a_seenMany, eI cI 8 v_seenMany), (a_seen, eI cI 96 v_seen), (a_isKept, eI cZ 2 v_isKept)] (some (.int out.1)) [(a_t, .inr (11, [.ref a_signs, .int v_signMany, .int out.2.1, .ref a_links, .ref a_worths, .int out.2.2.1, .ref a_far, .ref a_mays, .ref a_rowsTo, .ref a_endIn, .long v_rowsAll, .ref a_ends, .ref a_pairSets, .ref a_awayIn, .ref a_now, .ref a_then, .long v_awayUpper, .long v_lower, .ref a_comers, .int out.2.2.2.1, .ref a_seen, .ref a_seenMany, .int out.2.2.2.2.1, .ref a_kept, .ref a_isKept, .int out.2.2.2.2.2.1, .int out.2.2.2.2.2.2.1])), (a_kept, eI cI 400 out.2.2.2.2.2.2.2.1), (a_links, eI cI 12 out.2.2.2.2.2.2.2.2.1), (a_worths, eI cI 12 out.2.2.2.2.2.2.2.2.2.1), (a_comers, eI cI 12 out.2.2.2.2.2.2.2.2.2.2.1), (a_seenMany, eI cI 8 out.2.2.2.2.2.2.2.2.2.2.2.1), (a_seen, eI cI 96 out.2.2.2.2.2.2.2.2.2.2.2.2.1), (a_isKept, eI cZ 2 out.2.2.2.2.2.2.2.2.2.2.2.2.2)] := by
  refine ba_ofI RX11 [(0, .ref a_t), (1, .int x1)] (by decide +kernel) rfl (Nat.le_of_ble_eq_true rfl) rfl ?_
  intro p e s m args below meth c Q A Cx hP ret ls hl
  obtain ⟨⟨hx, hb, hml, hown, hts⟩, hK, hD, hA⟩ := id Cx
  have hS : va_S A s.heap s.heap [] := va_S.rf
  unfold f_X11_image at hf
  refine lv_iload_n hx hb dX11_image_0 rfl (lv_at hl 1 rfl) ?_
  refine lv_i2l (v := (x1).toInt64) hx hb dX11_image_1 rfl ?_
  refine lv_lconst (v := 0) hx hb dX11_image_2 (by decide) ?_
  refine lv_lconst (v := 1) hx hb dX11_image_3 (by decide) ?_
  obtain ⟨u1, hu1, hf⟩ := ob_b hf
  refine iv_X11_74 (As := [.long ((x1).toInt64), .long (0 : Int64), .long (1 : Int64)]) (rest := []) (is := []) (X' := [(a_t, .inr (11, [.ref a_signs, .int v_signMany, .int v_seats, .ref a_links, .ref a_worths, .int v_bearIs, .ref a_far, .ref a_mays, .ref a_rowsTo, .ref a_endIn, .long v_rowsAll, .ref a_ends, .ref a_pairSets, .ref a_awayIn, .ref a_now, .ref a_then, .long v_awayUpper, .long v_lower, .ref a_comers, .int v_comerMany, .ref a_seen, .ref a_seenMany, .int v_seenRows, .ref a_kept, .ref a_isKept, .int v_place, .int v_isWriting])), (a_kept, eI cI 400 v_kept), (a_links, eI cI 12 v_links), (a_worths, eI cI 12 v_worths), (a_comers, eI cI 12 v_comers), (a_seenMany, eI cI 8 v_seenMany), (a_seen, eI cI 96 v_seen), (a_isKept, eI cZ 2 v_isKept)]) Cx (c_X11_in l D cI cJ cZ cO  ((x1).toInt64) (0 : Int64) (1 : Int64) u1 hu1) hP hS rfl rfl rfl rfl rfl rfl hl.1 (Nat.le_of_ble_eq_true rfl) dX11_image_4 rfl rfl ⟨Nat.le_of_ble_eq_true rfl, Nat.le_of_ble_eq_true rfl⟩ ⟨Nat.zero_le _, Nat.zero_le _⟩ rfl (fun H locs hP hS => ?_)
  refine lv_if_ne (tgt := 13) hx hb dX11_image_7 (by decide) (fun c2 => ?_) (fun c2 => ?_)
  · have hf := ob_f c2 hf
    refine lv_aload_n hx hb dX11_image_13 rfl (lv_at hl 0 rfl) ?_
    refine lv_sipush (v := 200) hx hb dX11_image_14 (by decide) ?_
    refine lv_iload_n hx hb dX11_image_17 rfl (lv_at hl 1 rfl) ?_
    refine lv_imul hx hb dX11_image_18 ?_
    refine pf_X11_232 (X' := [(a_t, .inr (11, [.ref a_signs, .int v_signMany, .int v_seats, .ref a_links, .ref a_worths, .int v_bearIs, .ref a_far, .ref a_mays, .ref a_rowsTo, .ref a_endIn, .long v_rowsAll, .ref a_ends, .ref a_pairSets, .ref a_awayIn, .ref a_now, .ref a_then, .long v_awayUpper, .long v_lower, .ref a_comers, .int v_comerMany, .ref a_seen, .ref a_seenMany, .int v_seenRows, .ref a_kept, .ref a_isKept, .int ((200 : Int32) * x1), .int v_isWriting])), (a_kept, eI cI 400 v_kept), (a_links, eI cI 12 v_links), (a_worths, eI cI 12 v_worths), (a_comers, eI cI 12 v_comers), (a_seenMany, eI cI 8 v_seenMany), (a_seen, eI cI 96 v_seen), (a_isKept, eI cZ 2 v_isKept)]) Cx hP hS rfl 0 rfl rfl (Nat.le_of_ble_eq_true rfl) dX11_image_19 (fun H locs hP hS => ?_)
    refine lv_aload_n hx hb dX11_image_22 rfl (lv_at hl 0 rfl) ?_
    refine lv_iconst (v := 1) hx hb dX11_image_23 (by decide) ?_
    refine pf_X11_228 (X' := [(a_t, .inr (11, [.ref a_signs, .int v_signMany, .int v_seats, .ref a_links, .ref a_worths, .int v_bearIs, .ref a_far, .ref a_mays, .ref a_rowsTo, .ref a_endIn, .long v_rowsAll, .ref a_ends, .ref a_pairSets, .ref a_awayIn, .ref a_now, .ref a_then, .long v_awayUpper, .long v_lower, .ref a_comers, .int v_comerMany, .ref a_seen, .ref a_seenMany, .int v_seenRows, .ref a_kept, .ref a_isKept, .int ((200 : Int32) * x1), .int (1 : Int32)])), (a_kept, eI cI 400 v_kept), (a_links, eI cI 12 v_links), (a_worths, eI cI 12 v_worths), (a_comers, eI cI 12 v_comers), (a_seenMany, eI cI 8 v_seenMany), (a_seen, eI cI 96 v_seen), (a_isKept, eI cZ 2 v_isKept)]) Cx hP hS rfl 0 rfl (by decide) (by decide) rfl (Nat.le_of_ble_eq_true rfl) dX11_image_24 (fun H locs hP hS => ?_)
    refine lv_aload_n hx hb dX11_image_27 rfl (lv_at hl 0 rfl) ?_
    obtain ⟨u3, hu3, hf⟩ := ob_b hf
    refine iv_X11_238 (As := []) (rest := []) (is := [0, 1, 2, 3, 4, 5, 6]) (q0 := 0) (X' := [(a_t, .inr (11, [.ref a_signs, .int v_signMany, .int u3.1, .ref a_links, .ref a_worths, .int u3.2.1, .ref a_far, .ref a_mays, .ref a_rowsTo, .ref a_endIn, .long v_rowsAll, .ref a_ends, .ref a_pairSets, .ref a_awayIn, .ref a_now, .ref a_then, .long v_awayUpper, .long v_lower, .ref a_comers, .int u3.2.2.1, .ref a_seen, .ref a_seenMany, .int u3.2.2.2.1, .ref a_kept, .ref a_isKept, .int u3.2.2.2.2.1, .int (1 : Int32)])), (a_kept, eI cI 400 u3.2.2.2.2.2.1), (a_links, eI cI 12 u3.2.2.2.2.2.2.1), (a_worths, eI cI 12 u3.2.2.2.2.2.2.2.1), (a_comers, eI cI 12 u3.2.2.2.2.2.2.2.2.1), (a_seenMany, eI cI 8 u3.2.2.2.2.2.2.2.2.2.1), (a_seen, eI cI 96 u3.2.2.2.2.2.2.2.2.2.2), (a_isKept, eI cZ 2 v_isKept)]) Cx (c_X11_passAll l D cI cJ cZ cO a_t a_signs a_links a_worths a_far a_mays a_rowsTo a_endIn a_ends a_pairSets a_awayIn a_now a_then a_comers a_seen a_seenMany a_kept a_isKept v_signMany v_seats v_bearIs v_rowsAll v_awayUpper v_lower v_comerMany v_seenRows ((200 : Int32) * x1) (1 : Int32) v_kept v_links v_worths v_comers v_seenMany v_seen u3 hu3) hP hS rfl rfl rfl rfl rfl rfl rfl hl.1 (Nat.le_of_ble_eq_true rfl) dX11_image_28 rfl rfl ⟨Nat.le_of_ble_eq_true rfl, Nat.le_of_ble_eq_true rfl⟩ ⟨Nat.zero_le _, Nat.zero_le _⟩ rfl (fun H locs hP hS => ?_)
    refine lv_aload_n hx hb dX11_image_31 rfl (lv_at hl 0 rfl) ?_
    refine gf_X11_59 Cx hP 0 rfl rfl dX11_image_32 ?_
    refine lv_iload_n hx hb dX11_image_35 rfl (lv_at hl 1 rfl) ?_
    refine lv_iconst (v := 1) hx hb dX11_image_36 (by decide) ?_
    obtain ⟨u4, hu4, hf⟩ := ob_b hf
    refine ba_zast (X' := [(a_t, .inr (11, [.ref a_signs, .int v_signMany, .int u3.1, .ref a_links, .ref a_worths, .int u3.2.1, .ref a_far, .ref a_mays, .ref a_rowsTo, .ref a_endIn, .long v_rowsAll, .ref a_ends, .ref a_pairSets, .ref a_awayIn, .ref a_now, .ref a_then, .long v_awayUpper, .long v_lower, .ref a_comers, .int u3.2.2.1, .ref a_seen, .ref a_seenMany, .int u3.2.2.2.1, .ref a_kept, .ref a_isKept, .int u3.2.2.2.2.1, .int (1 : Int32)])), (a_kept, eI cI 400 u3.2.2.2.2.2.1), (a_links, eI cI 12 u3.2.2.2.2.2.2.1), (a_worths, eI cI 12 u3.2.2.2.2.2.2.2.1), (a_comers, eI cI 12 u3.2.2.2.2.2.2.2.2.1), (a_seenMany, eI cI 8 u3.2.2.2.2.2.2.2.2.2.1), (a_seen, eI cI 96 u3.2.2.2.2.2.2.2.2.2.2), (a_isKept, eI cZ 2 u4)]) Cx hP hS rfl 7 rfl (by decide) rfl hu4 dX11_image_37 (fun H locs hP hS => ?_)
    refine lv_iconst (v := 1) hx hb dX11_image_38 (by decide) ?_
    obtain rfl := Option.some.inj hf
    exact ret _ _ _ _ dX11_image_39 hP hS
  · have hf := ob_t c2 hf
    refine lv_bipush (v := (-2)) hx hb dX11_image_10 (by decide) ?_
    obtain rfl := Option.some.inj hf
    exact ret _ _ _ _ dX11_image_12 hP hS

