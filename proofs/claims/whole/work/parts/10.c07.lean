def f_X11_wipe (v_signMany : Int32) : Option (Int32 × Int32) :=
  some (v_signMany, (0 : Int32))
set_option maxHeartbeats 4000000 in
set_option maxRecDepth 100000 in
theorem c_X11_wipe (l : Launch) (D : va_G) (cI cJ cZ cO : ClassId) (a_t a_signs a_links a_worths a_far a_mays a_rowsTo a_endIn a_ends a_pairSets a_awayIn a_now a_then a_comers a_seen a_seenMany a_kept a_isKept : Nat) (v_signMany : Int32) (v_seats : Int32) (v_bearIs : Int32) (v_rowsAll : Int64) (v_awayUpper : Int64) (v_lower : Int64) (v_comerMany : Int32) (v_seenRows : Int32) (v_place : Int32) (v_isWriting : Int32) (out : Int32 × Int32) (hf : f_X11_wipe v_signMany = some out) : MetR l yX11_wipe (Cond.code yX11_wipe cX11_wipe 2 (some .int) :: tbG) { frames := 0, cells := 0, slots := 0, locals := 0 } D (tyL cI cJ cZ cO) [.ref a_t] [(a_t, .inr (11, [.ref a_signs, .int v_signMany, .int v_seats, .ref a_links, .ref a_worths, .int v_bearIs, .ref a_far, .ref a_mays, .ref a_rowsTo, .ref a_endIn, .long v_rowsAll, .ref a_ends, .ref a_pairSets, .ref a_awayIn, .ref a_now, .ref a_then, .long v_awayUpper, .long v_lower, .ref a_comers, .int v_comerMany, .ref a_seen, .ref a_seenMany, .int v_seenRows, .ref a_kept, .ref a_isKept, .int v_place, .int v_isWriting]))] (some (.int out.1)) [(a_t, .inr (11, [.ref a_signs, .int out.2, .int v_seats, .ref a_links, .ref a_worths, .int v_bearIs, .ref a_far, .ref a_mays, .ref a_rowsTo, .ref a_endIn, .long v_rowsAll, .ref a_ends, .ref a_pairSets, .ref a_awayIn, .ref a_now, .ref a_then, .long v_awayUpper, .long v_lower, .ref a_comers, .int v_comerMany, .ref a_seen, .ref a_seenMany, .int v_seenRows, .ref a_kept, .ref a_isKept, .int v_place, .int v_isWriting]))] := by
  refine ba_ofI RX11 [(0, .ref a_t)] (by decide +kernel) rfl (Nat.le_of_ble_eq_true rfl) rfl ?_
  intro p e s m args below meth c Q A Cx hP ret ls hl
  obtain ⟨⟨hx, hb, hml, hown, hts⟩, hK, hD, hA⟩ := id Cx
  have hS : va_S A s.heap s.heap [] := va_S.rf
  unfold f_X11_wipe at hf
  refine lv_aload_n hx hb dX11_wipe_0 rfl (lv_at hl 0 rfl) ?_
  refine gf_X11_82 Cx hP 0 rfl rfl dX11_wipe_1 ?_
  refine lv_istore_n (lv' := [(1, .int v_signMany), (0, .ref a_t)]) hx hb dX11_wipe_4 rfl hl (by decide) rfl (fun ls hl => ?_)
  refine lv_aload_n hx hb dX11_wipe_5 rfl (lv_at hl 1 rfl) ?_
  refine lv_iconst (v := 0) hx hb dX11_wipe_6 (by decide) ?_
  refine pf_X11_82 (X' := [(a_t, .inr (11, [.ref a_signs, .int (0 : Int32), .int v_seats, .ref a_links, .ref a_worths, .int v_bearIs, .ref a_far, .ref a_mays, .ref a_rowsTo, .ref a_endIn, .long v_rowsAll, .ref a_ends, .ref a_pairSets, .ref a_awayIn, .ref a_now, .ref a_then, .long v_awayUpper, .long v_lower, .ref a_comers, .int v_comerMany, .ref a_seen, .ref a_seenMany, .int v_seenRows, .ref a_kept, .ref a_isKept, .int v_place, .int v_isWriting]))]) Cx hP hS rfl 0 rfl rfl (Nat.le_of_ble_eq_true rfl) dX11_wipe_7 (fun H locs hP hS => ?_)
  refine lv_iload_n hx hb dX11_wipe_10 rfl (lv_at hl 0 rfl) ?_
  obtain rfl := Option.some.inj hf
  exact ret _ _ _ _ dX11_wipe_11 hP hS

def f_X11_fault_6 (v_signMany : Int32) (v_signs : Nat → Int32) : Nat → Int32 → Int32 → Int32 → Option ((Int32) ⊕ (Int32))
  | 0, _, _, _ => none
  | n + 1, y1_6, y2_6, y3_6 =>
  if v_signMany ≤ y3_6 then
  some (Sum.inl (y1_6))
  else
  (aget 30 v_signs y3_6).bind (fun u3 =>
  (if y2_6 = 0 then
  if u3 = (111 : Int32) then
  if y1_6 < (12 : Int32) then
  some (1 : Int32)
  else
  if u3 = (45 : Int32) then
  some (1 : Int32)
  else
  if u3 = (124 : Int32) then
  some (1 : Int32)
  else
  if u3 = (64 : Int32) then
  if y1_6 ≤ 0 then
  some (0 : Int32)
  else
  some (1 : Int32)
  else
  some (0 : Int32)
  else
  if u3 = (45 : Int32) then
  some (1 : Int32)
  else
  if u3 = (124 : Int32) then
  some (1 : Int32)
  else
  if u3 = (64 : Int32) then
  if y1_6 ≤ 0 then
  some (0 : Int32)
  else
  some (1 : Int32)
  else
  some (0 : Int32)
  else
  some (0 : Int32)).bind (fun w4 =>
  if w4 = 0 then
  some (Sum.inr (y3_6))
  else
  (if u3 = (111 : Int32) then
  some (1 : Int32)
  else
  some (0 : Int32)).bind (fun w7 =>
  (if u3 = (64 : Int32) then
  some (1 : Int32)
  else
  some (0 : Int32)).bind (fun w9 =>
  f_X11_fault_6 v_signMany v_signs n (y1_6 + w7) w9 (y3_6 + 1)))))
theorem f_X11_fault_6_s (v_signMany : Int32) (v_signs : Nat → Int32) (n : Nat) (y1_6 : Int32) (y2_6 : Int32) (y3_6 : Int32) : f_X11_fault_6 v_signMany v_signs (n + 1) y1_6 y2_6 y3_6 =
  (if v_signMany ≤ y3_6 then
  some (Sum.inl (y1_6))
  else
  (aget 30 v_signs y3_6).bind (fun u3 =>
  (if y2_6 = 0 then
  if u3 = (111 : Int32) then
  if y1_6 < (12 : Int32) then
  some (1 : Int32)
  else
  if u3 = (45 : Int32) then
  some (1 : Int32)
  else
  if u3 = (124 : Int32) then
  some (1 : Int32)
  else
  if u3 = (64 : Int32) then
  if y1_6 ≤ 0 then
  some (0 : Int32)
  else
  some (1 : Int32)
  else
  some (0 : Int32)
  else
  if u3 = (45 : Int32) then
  some (1 : Int32)
  else
  if u3 = (124 : Int32) then
  some (1 : Int32)
  else
  if u3 = (64 : Int32) then
  if y1_6 ≤ 0 then
  some (0 : Int32)
  else
  some (1 : Int32)
  else
  some (0 : Int32)
  else
  some (0 : Int32)).bind (fun w4 =>
  if w4 = 0 then
  some (Sum.inr (y3_6))
  else
  (if u3 = (111 : Int32) then
  some (1 : Int32)
  else
  some (0 : Int32)).bind (fun w7 =>
  (if u3 = (64 : Int32) then
  some (1 : Int32)
  else
  some (0 : Int32)).bind (fun w9 =>
  f_X11_fault_6 v_signMany v_signs n (y1_6 + w7) w9 (y3_6 + 1)))))) := rfl
def f_X11_fault (v_signMany : Int32) (v_signs : Nat → Int32) : Option (Int32) :=
  (f_X11_fault_6 v_signMany v_signs FU (0 : Int32) (0 : Int32) (0 : Int32)).bind (fun u24 => Sum.elim (fun w25 =>
  (if w25 ≤ 0 then
  some (v_signMany)
  else
  some (-6 : Int32)).bind (fun w26 =>
  some (w26))) (fun r => some r) u24)
set_option maxHeartbeats 4000000 in
set_option maxRecDepth 100000 in
theorem c_X11_fault (l : Launch) (D : va_G) (cI cJ cZ cO : ClassId) (a_t a_signs a_links a_worths a_far a_mays a_rowsTo a_endIn a_ends a_pairSets a_awayIn a_now a_then a_comers a_seen a_seenMany a_kept a_isKept : Nat) (v_signMany : Int32) (v_seats : Int32) (v_bearIs : Int32) (v_rowsAll : Int64) (v_awayUpper : Int64) (v_lower : Int64) (v_comerMany : Int32) (v_seenRows : Int32) (v_place : Int32) (v_isWriting : Int32) (v_signs : Nat → Int32) (out : Int32) (hf : f_X11_fault v_signMany v_signs = some out) : MetR l yX11_fault (Cond.code yX11_fault cX11_fault 6 (some .int) :: tbG) { frames := 0, cells := 0, slots := 0, locals := 0 } D (tyL cI cJ cZ cO) [.ref a_t] [(a_t, .inr (11, [.ref a_signs, .int v_signMany, .int v_seats, .ref a_links, .ref a_worths, .int v_bearIs, .ref a_far, .ref a_mays, .ref a_rowsTo, .ref a_endIn, .long v_rowsAll, .ref a_ends, .ref a_pairSets, .ref a_awayIn, .ref a_now, .ref a_then, .long v_awayUpper, .long v_lower, .ref a_comers, .int v_comerMany, .ref a_seen, .ref a_seenMany, .int v_seenRows, .ref a_kept, .ref a_isKept, .int v_place, .int v_isWriting])), (a_signs, eI cI 30 v_signs)] (some (.int out)) [(a_t, .inr (11, [.ref a_signs, .int v_signMany, .int v_seats, .ref a_links, .ref a_worths, .int v_bearIs, .ref a_far, .ref a_mays, .ref a_rowsTo, .ref a_endIn, .long v_rowsAll, .ref a_ends, .ref a_pairSets, .ref a_awayIn, .ref a_now, .ref a_then, .long v_awayUpper, .long v_lower, .ref a_comers, .int v_comerMany, .ref a_seen, .ref a_seenMany, .int v_seenRows, .ref a_kept, .ref a_isKept, .int v_place, .int v_isWriting])), (a_signs, eI cI 30 v_signs)] := by
  refine ba_ofI RX11 [(0, .ref a_t)] (by decide +kernel) rfl (Nat.le_of_ble_eq_true rfl) rfl ?_
  intro p e s m args below meth c Q A Cx hP ret ls hl
  obtain ⟨⟨hx, hb, hml, hown, hts⟩, hK, hD, hA⟩ := id Cx
  have hS : va_S A s.heap s.heap [] := va_S.rf
  unfold f_X11_fault at hf
  refine lv_iconst (v := 0) hx hb dX11_fault_0 (by decide) ?_
  refine lv_istore_n (lv' := [(1, .int (0 : Int32)), (0, .ref a_t)]) hx hb dX11_fault_1 rfl hl (by decide) rfl (fun ls hl => ?_)
  refine lv_iconst (v := 0) hx hb dX11_fault_2 (by decide) ?_
  refine lv_istore_n (lv' := [(2, .int (0 : Int32)), (1, .int (0 : Int32)), (0, .ref a_t)]) hx hb dX11_fault_3 rfl hl (by decide) rfl (fun ls hl => ?_)
  refine lv_iconst (v := 0) hx hb dX11_fault_4 (by decide) ?_
  refine lv_istore_n (lv' := [(3, .int (0 : Int32)), (2, .int (0 : Int32)), (1, .int (0 : Int32)), (0, .ref a_t)]) hx hb dX11_fault_5 rfl hl (by decide) rfl (fun ls hl => ?_)
  have L6_1 : ∀ (n : Nat) (y1_6 : Int32) (y2_6 : Int32) (y3_6 : Int32) (o : (Int32) ⊕ (Int32)) (H : Heap) (locs : List Loc) (ls : Array Slot), f_X11_fault_6 v_signMany v_signs n y1_6 y2_6 y3_6 = some o → va_P D vwCl [(a_t, .inr (11, [.ref a_signs, .int v_signMany, .int v_seats, .ref a_links, .ref a_worths, .int v_bearIs, .ref a_far, .ref a_mays, .ref a_rowsTo, .ref a_endIn, .long v_rowsAll, .ref a_ends, .ref a_pairSets, .ref a_awayIn, .ref a_now, .ref a_then, .long v_awayUpper, .long v_lower, .ref a_comers, .int v_comerMany, .ref a_seen, .ref a_seenMany, .int v_seenRows, .ref a_kept, .ref a_isKept, .int v_place, .int v_isWriting])), (a_signs, eI cI 30 v_signs)] H → va_S A s.heap H locs → lv_has ls 6 [(0, .ref a_t), (1, .int y1_6), (2, .int y2_6), (3, .int y3_6)] → (∀ w, o = Sum.inl w → ∀ (H : Heap) (locs : List Loc) (ls : Array Slot), va_P D vwCl [(a_t, .inr (11, [.ref a_signs, .int v_signMany, .int v_seats, .ref a_links, .ref a_worths, .int v_bearIs, .ref a_far, .ref a_mays, .ref a_rowsTo, .ref a_endIn, .long v_rowsAll, .ref a_ends, .ref a_pairSets, .ref a_awayIn, .ref a_now, .ref a_then, .long v_awayUpper, .long v_lower, .ref a_comers, .int v_comerMany, .ref a_seen, .ref a_seenMany, .int v_seenRows, .ref a_kept, .ref a_isKept, .int v_place, .int v_isWriting])), (a_signs, eI cI 30 v_signs)] H → va_S A s.heap H locs → lv_has ls 6 [(0, .ref a_t), (1, .int w)] → W p l e { frames := 0, cells := 0, slots := 0, locals := 0 } s m args below meth c H locs 0 0 Q (F0 m 112 ls [])) → (∀ r, o = Sum.inr r → ∀ (pc : Nat) (H : Heap) (locs : List Loc) (ls : Array Slot), decode cX11_fault pc = .ok (.ireturn, 1) → va_P D vwCl [(a_t, .inr (11, [.ref a_signs, .int v_signMany, .int v_seats, .ref a_links, .ref a_worths, .int v_bearIs, .ref a_far, .ref a_mays, .ref a_rowsTo, .ref a_endIn, .long v_rowsAll, .ref a_ends, .ref a_pairSets, .ref a_awayIn, .ref a_now, .ref a_then, .long v_awayUpper, .long v_lower, .ref a_comers, .int v_comerMany, .ref a_seen, .ref a_seenMany, .int v_seenRows, .ref a_kept, .ref a_isKept, .int v_place, .int v_isWriting])), (a_signs, eI cI 30 v_signs)] H → va_S A s.heap H locs → W p l e { frames := 0, cells := 0, slots := 0, locals := 0 } s m args below meth c H locs 0 0 Q (F0 m pc ls [.int r])) → W p l e { frames := 0, cells := 0, slots := 0, locals := 0 } s m args below meth c H locs 0 0 Q (F0 m 6 ls []) := by
    intro n
    induction n with
    | zero => intro y1_6 y2_6 y3_6 o H locs ls hf; exact (ob_n hf).elim
    | succ n ih =>
      intro y1_6 y2_6 y3_6 o H locs ls hf hP hS hl kk kr
      rw [f_X11_fault_6_s] at hf
      refine lv_iload_n hx hb dX11_fault_6 rfl (lv_at hl 3 rfl) ?_
      refine lv_aload_n hx hb dX11_fault_7 rfl (lv_at hl 0 rfl) ?_
      refine gf_X11_82 Cx hP 0 rfl rfl dX11_fault_8 ?_
      refine lv_icmp_ge (tgt := 112) hx hb dX11_fault_11 (by decide) (fun c2 => ?_) (fun c2 => ?_)
      · have hf := ob_t c2 hf
        obtain rfl := Option.some.inj hf
        exact kk _ rfl _ _ _ hP hS (lv_sub hl [0, 1] rfl)
      · have hf := ob_f c2 hf
        refine lv_aload_n hx hb dX11_fault_14 rfl (lv_at hl 0 rfl) ?_
        refine gf_X11_7 Cx hP 0 rfl rfl dX11_fault_15 ?_
        refine lv_iload_n hx hb dX11_fault_18 rfl (lv_at hl 3 rfl) ?_
        obtain ⟨u3, hu3, hf⟩ := ob_b hf
        refine ba_iald Cx hP 1 rfl hu3 dX11_fault_19 ?_
        refine lv_istore (lv' := [(4, .int u3), (0, .ref a_t), (1, .int y1_6), (2, .int y2_6), (3, .int y3_6)]) hx hb dX11_fault_20 hl (by decide) rfl (fun ls hl => ?_)
        refine lv_iload_n hx hb dX11_fault_22 rfl (lv_at hl 3 rfl) ?_
        refine ob_J (P := fun w4 => ∀ (H : Heap) (locs : List Loc) (ls : Array Slot), va_P D vwCl [(a_t, .inr (11, [.ref a_signs, .int v_signMany, .int v_seats, .ref a_links, .ref a_worths, .int v_bearIs, .ref a_far, .ref a_mays, .ref a_rowsTo, .ref a_endIn, .long v_rowsAll, .ref a_ends, .ref a_pairSets, .ref a_awayIn, .ref a_now, .ref a_then, .long v_awayUpper, .long v_lower, .ref a_comers, .int v_comerMany, .ref a_seen, .ref a_seenMany, .int v_seenRows, .ref a_kept, .ref a_isKept, .int v_place, .int v_isWriting])), (a_signs, eI cI 30 v_signs)] H → va_S A s.heap H locs → lv_has ls 6 [(0, .ref a_t), (1, .int y1_6), (3, .int y3_6), (4, .int u3)] → W p l e { frames := 0, cells := 0, slots := 0, locals := 0 } s m args below meth c H locs 0 0 Q (F0 m 69 ls [.int w4])) hf ?_ ?_
        · intro w4 hf H locs ls hP hS hl
          refine lv_istore (lv' := [(5, .int w4), (0, .ref a_t), (1, .int y1_6), (3, .int y3_6), (4, .int u3)]) hx hb dX11_fault_69 hl (by decide) rfl (fun ls hl => ?_)
          refine lv_iload hx hb dX11_fault_71 (lv_at hl 0 rfl) ?_
          refine lv_if_ne (tgt := 78) hx hb dX11_fault_73 (by decide) (fun c6 => ?_) (fun c6 => ?_)
          · have hf := ob_f c6 hf
            refine lv_iload_n hx hb dX11_fault_78 rfl (lv_at hl 2 rfl) ?_
            refine lv_iload hx hb dX11_fault_79 (lv_at hl 4 rfl) ?_
            refine lv_bipush (v := 111) hx hb dX11_fault_81 (by decide) ?_
            refine ob_J (P := fun w7 => ∀ (H : Heap) (locs : List Loc) (ls : Array Slot), va_P D vwCl [(a_t, .inr (11, [.ref a_signs, .int v_signMany, .int v_seats, .ref a_links, .ref a_worths, .int v_bearIs, .ref a_far, .ref a_mays, .ref a_rowsTo, .ref a_endIn, .long v_rowsAll, .ref a_ends, .ref a_pairSets, .ref a_awayIn, .ref a_now, .ref a_then, .long v_awayUpper, .long v_lower, .ref a_comers, .int v_comerMany, .ref a_seen, .ref a_seenMany, .int v_seenRows, .ref a_kept, .ref a_isKept, .int v_place, .int v_isWriting])), (a_signs, eI cI 30 v_signs)] H → va_S A s.heap H locs → lv_has ls 6 [(0, .ref a_t), (3, .int y3_6), (4, .int u3)] → W p l e { frames := 0, cells := 0, slots := 0, locals := 0 } s m args below meth c H locs 0 0 Q (F0 m 91 ls [.int w7, .int y1_6])) hf ?_ ?_
            · intro w7 hf H locs ls hP hS hl
              refine lv_iadd hx hb dX11_fault_91 ?_
              refine lv_istore_n (lv' := [(1, .int (y1_6 + w7)), (0, .ref a_t), (3, .int y3_6), (4, .int u3)]) hx hb dX11_fault_92 rfl hl (by decide) rfl (fun ls hl => ?_)
              refine lv_iload hx hb dX11_fault_93 (lv_at hl 3 rfl) ?_
              refine lv_bipush (v := 64) hx hb dX11_fault_95 (by decide) ?_
              refine ob_J (P := fun w9 => ∀ (H : Heap) (locs : List Loc) (ls : Array Slot), va_P D vwCl [(a_t, .inr (11, [.ref a_signs, .int v_signMany, .int v_seats, .ref a_links, .ref a_worths, .int v_bearIs, .ref a_far, .ref a_mays, .ref a_rowsTo, .ref a_endIn, .long v_rowsAll, .ref a_ends, .ref a_pairSets, .ref a_awayIn, .ref a_now, .ref a_then, .long v_awayUpper, .long v_lower, .ref a_comers, .int v_comerMany, .ref a_seen, .ref a_seenMany, .int v_seenRows, .ref a_kept, .ref a_isKept, .int v_place, .int v_isWriting])), (a_signs, eI cI 30 v_signs)] H → va_S A s.heap H locs → lv_has ls 6 [(0, .ref a_t), (1, .int (y1_6 + w7)), (3, .int y3_6)] → W p l e { frames := 0, cells := 0, slots := 0, locals := 0 } s m args below meth c H locs 0 0 Q (F0 m 105 ls [.int w9])) hf ?_ ?_
              · intro w9 hf H locs ls hP hS hl
                refine lv_istore_n (lv' := [(2, .int w9), (0, .ref a_t), (1, .int (y1_6 + w7)), (3, .int y3_6)]) hx hb dX11_fault_105 rfl hl (by decide) rfl (fun ls hl => ?_)
                refine lv_iinc (v := (y3_6 + 1)) (lv' := [(3, .int (y3_6 + 1)), (2, .int w9), (0, .ref a_t), (1, .int (y1_6 + w7))]) hx hb dX11_fault_106 hl (k := 3) rfl rfl (by decide) rfl (fun ls hl => ?_)
                refine lv_goto (tgt := 6) hx hb dX11_fault_109 (by decide) ?_
                exact ih (y1_6 + w7) w9 (y3_6 + 1) _ _ _ _ hf hP hS (lv_sub hl [2, 3, 1, 0] rfl) kk kr
              · intro J105_10 hf
                refine lv_icmp_ne (tgt := 104) hx hb dX11_fault_97 (by decide) (fun c11 => ?_) (fun c11 => ?_)
                · have hf := ob_fk c11 hf
                  refine lv_iconst (v := 0) hx hb dX11_fault_104 (by decide) ?_
                  exact J105_10 (0 : Int32) hf _ _ _ hP hS (lv_sub hl [1, 0, 2] rfl)
                · have hf := ob_tk c11 hf
                  refine lv_iconst (v := 1) hx hb dX11_fault_100 (by decide) ?_
                  refine lv_goto (tgt := 105) hx hb dX11_fault_101 (by decide) ?_
                  exact J105_10 (1 : Int32) hf _ _ _ hP hS (lv_sub hl [1, 0, 2] rfl)
            · intro J91_8 hf
              refine lv_icmp_ne (tgt := 90) hx hb dX11_fault_83 (by decide) (fun c12 => ?_) (fun c12 => ?_)
              · have hf := ob_fk c12 hf
                refine lv_iconst (v := 0) hx hb dX11_fault_90 (by decide) ?_
                exact J91_8 (0 : Int32) hf _ _ _ hP hS (lv_sub hl [1, 3, 4] rfl)
              · have hf := ob_tk c12 hf
                refine lv_iconst (v := 1) hx hb dX11_fault_86 (by decide) ?_
                refine lv_goto (tgt := 91) hx hb dX11_fault_87 (by decide) ?_
                exact J91_8 (1 : Int32) hf _ _ _ hP hS (lv_sub hl [1, 3, 4] rfl)
          · have hf := ob_t c6 hf
            refine lv_iload_n hx hb dX11_fault_76 rfl (lv_at hl 3 rfl) ?_
            obtain rfl := Option.some.inj hf
            exact kr _ rfl _ _ _ _ dX11_fault_77 hP hS
        · intro J69_5 hf
          refine lv_if_ne (tgt := 68) hx hb dX11_fault_23 (by decide) (fun c13 => ?_) (fun c13 => ?_)
          · have hf := ob_fk c13 hf
            refine lv_iconst (v := 0) hx hb dX11_fault_68 (by decide) ?_
            exact J69_5 (0 : Int32) hf _ _ _ hP hS (lv_sub hl [1, 2, 4, 0] rfl)
          · have hf := ob_tk c13 hf
            refine lv_iload hx hb dX11_fault_26 (lv_at hl 0 rfl) ?_
            refine lv_bipush (v := 111) hx hb dX11_fault_28 (by decide) ?_
            refine lv_icmp_ne (tgt := 39) hx hb dX11_fault_30 (by decide) (fun c14 => ?_) (fun c14 => ?_)
            · have hf := ob_fk c14 hf
              refine lv_iload hx hb dX11_fault_39 (lv_at hl 0 rfl) ?_
              refine lv_bipush (v := 45) hx hb dX11_fault_41 (by decide) ?_
              refine lv_icmp_eq (tgt := 64) hx hb dX11_fault_43 (by decide) (fun c15 => ?_) (fun c15 => ?_)
              · have hf := ob_tk c15 hf
                refine lv_iconst (v := 1) hx hb dX11_fault_64 (by decide) ?_
                refine lv_goto (tgt := 69) hx hb dX11_fault_65 (by decide) ?_
                exact J69_5 (1 : Int32) hf _ _ _ hP hS (lv_sub hl [1, 2, 4, 0] rfl)
              · have hf := ob_fk c15 hf
                refine lv_iload hx hb dX11_fault_46 (lv_at hl 0 rfl) ?_
                refine lv_bipush (v := 124) hx hb dX11_fault_48 (by decide) ?_
                refine lv_icmp_eq (tgt := 64) hx hb dX11_fault_50 (by decide) (fun c16 => ?_) (fun c16 => ?_)
                · have hf := ob_tk c16 hf
                  refine lv_iconst (v := 1) hx hb dX11_fault_64 (by decide) ?_
                  refine lv_goto (tgt := 69) hx hb dX11_fault_65 (by decide) ?_
                  exact J69_5 (1 : Int32) hf _ _ _ hP hS (lv_sub hl [1, 2, 4, 0] rfl)
                · have hf := ob_fk c16 hf
                  refine lv_iload hx hb dX11_fault_53 (lv_at hl 0 rfl) ?_
                  refine lv_bipush (v := 64) hx hb dX11_fault_55 (by decide) ?_
                  refine lv_icmp_ne (tgt := 68) hx hb dX11_fault_57 (by decide) (fun c17 => ?_) (fun c17 => ?_)
                  · have hf := ob_fk c17 hf
                    refine lv_iconst (v := 0) hx hb dX11_fault_68 (by decide) ?_
                    exact J69_5 (0 : Int32) hf _ _ _ hP hS (lv_sub hl [1, 2, 4, 0] rfl)
                  · have hf := ob_tk c17 hf
                    refine lv_iload_n hx hb dX11_fault_60 rfl (lv_at hl 2 rfl) ?_
                    refine lv_if_le (tgt := 68) hx hb dX11_fault_61 (by decide) (fun c18 => ?_) (fun c18 => ?_)
                    · have hf := ob_tk c18 hf
                      refine lv_iconst (v := 0) hx hb dX11_fault_68 (by decide) ?_
                      exact J69_5 (0 : Int32) hf _ _ _ hP hS (lv_sub hl [1, 2, 4, 0] rfl)
                    · have hf := ob_fk c18 hf
                      refine lv_iconst (v := 1) hx hb dX11_fault_64 (by decide) ?_
                      refine lv_goto (tgt := 69) hx hb dX11_fault_65 (by decide) ?_
                      exact J69_5 (1 : Int32) hf _ _ _ hP hS (lv_sub hl [1, 2, 4, 0] rfl)
            · have hf := ob_tk c14 hf
              refine lv_iload_n hx hb dX11_fault_33 rfl (lv_at hl 2 rfl) ?_
              refine lv_bipush (v := 12) hx hb dX11_fault_34 (by decide) ?_
              refine lv_icmp_lt (tgt := 64) hx hb dX11_fault_36 (by decide) (fun c19 => ?_) (fun c19 => ?_)
              · have hf := ob_tk c19 hf
                refine lv_iconst (v := 1) hx hb dX11_fault_64 (by decide) ?_
                refine lv_goto (tgt := 69) hx hb dX11_fault_65 (by decide) ?_
                exact J69_5 (1 : Int32) hf _ _ _ hP hS (lv_sub hl [1, 2, 4, 0] rfl)
              · have hf := ob_fk c19 hf
                refine lv_iload hx hb dX11_fault_39 (lv_at hl 0 rfl) ?_
                refine lv_bipush (v := 45) hx hb dX11_fault_41 (by decide) ?_
                refine lv_icmp_eq (tgt := 64) hx hb dX11_fault_43 (by decide) (fun c20 => ?_) (fun c20 => ?_)
                · have hf := ob_tk c20 hf
                  refine lv_iconst (v := 1) hx hb dX11_fault_64 (by decide) ?_
                  refine lv_goto (tgt := 69) hx hb dX11_fault_65 (by decide) ?_
                  exact J69_5 (1 : Int32) hf _ _ _ hP hS (lv_sub hl [1, 2, 4, 0] rfl)
                · have hf := ob_fk c20 hf
                  refine lv_iload hx hb dX11_fault_46 (lv_at hl 0 rfl) ?_
                  refine lv_bipush (v := 124) hx hb dX11_fault_48 (by decide) ?_
                  refine lv_icmp_eq (tgt := 64) hx hb dX11_fault_50 (by decide) (fun c21 => ?_) (fun c21 => ?_)
                  · have hf := ob_tk c21 hf
                    refine lv_iconst (v := 1) hx hb dX11_fault_64 (by decide) ?_
                    refine lv_goto (tgt := 69) hx hb dX11_fault_65 (by decide) ?_
                    exact J69_5 (1 : Int32) hf _ _ _ hP hS (lv_sub hl [1, 2, 4, 0] rfl)
                  · have hf := ob_fk c21 hf
                    refine lv_iload hx hb dX11_fault_53 (lv_at hl 0 rfl) ?_
                    refine lv_bipush (v := 64) hx hb dX11_fault_55 (by decide) ?_
                    refine lv_icmp_ne (tgt := 68) hx hb dX11_fault_57 (by decide) (fun c22 => ?_) (fun c22 => ?_)
                    · have hf := ob_fk c22 hf
                      refine lv_iconst (v := 0) hx hb dX11_fault_68 (by decide) ?_
                      exact J69_5 (0 : Int32) hf _ _ _ hP hS (lv_sub hl [1, 2, 4, 0] rfl)
                    · have hf := ob_tk c22 hf
                      refine lv_iload_n hx hb dX11_fault_60 rfl (lv_at hl 2 rfl) ?_
                      refine lv_if_le (tgt := 68) hx hb dX11_fault_61 (by decide) (fun c23 => ?_) (fun c23 => ?_)
                      · have hf := ob_tk c23 hf
                        refine lv_iconst (v := 0) hx hb dX11_fault_68 (by decide) ?_
                        exact J69_5 (0 : Int32) hf _ _ _ hP hS (lv_sub hl [1, 2, 4, 0] rfl)
                      · have hf := ob_fk c23 hf
                        refine lv_iconst (v := 1) hx hb dX11_fault_64 (by decide) ?_
                        refine lv_goto (tgt := 69) hx hb dX11_fault_65 (by decide) ?_
                        exact J69_5 (1 : Int32) hf _ _ _ hP hS (lv_sub hl [1, 2, 4, 0] rfl)
  obtain ⟨u24, hu24, hf⟩ := ob_b hf
  refine L6_1 FU (0 : Int32) (0 : Int32) (0 : Int32) u24 _ _ _ hu24 hP hS (lv_sub hl [3, 2, 1, 0] rfl) ?_ ?_
  · intro w25 hw H locs ls hP hS hl
    rw [hw] at hf
    have hf := ob_l hf
    refine lv_iload_n hx hb dX11_fault_112 rfl (lv_at hl 1 rfl) ?_
    refine ob_J (P := fun w26 => ∀ (H : Heap) (locs : List Loc) (ls : Array Slot), va_P D vwCl [(a_t, .inr (11, [.ref a_signs, .int v_signMany, .int v_seats, .ref a_links, .ref a_worths, .int v_bearIs, .ref a_far, .ref a_mays, .ref a_rowsTo, .ref a_endIn, .long v_rowsAll, .ref a_ends, .ref a_pairSets, .ref a_awayIn, .ref a_now, .ref a_then, .long v_awayUpper, .long v_lower, .ref a_comers, .int v_comerMany, .ref a_seen, .ref a_seenMany, .int v_seenRows, .ref a_kept, .ref a_isKept, .int v_place, .int v_isWriting])), (a_signs, eI cI 30 v_signs)] H → va_S A s.heap H locs → lv_has ls 6 [] → W p l e { frames := 0, cells := 0, slots := 0, locals := 0 } s m args below meth c H locs 0 0 Q (F0 m 125 ls [.int w26])) hf ?_ ?_
    · intro w26 hf H locs ls hP hS hl
      obtain rfl := Option.some.inj hf
      exact ret _ _ _ _ dX11_fault_125 hP hS
    · intro J125_27 hf
      refine lv_if_le (tgt := 121) hx hb dX11_fault_113 (by decide) (fun c28 => ?_) (fun c28 => ?_)
      · have hf := ob_tk c28 hf
        refine lv_aload_n hx hb dX11_fault_121 rfl (lv_at hl 0 rfl) ?_
        refine gf_X11_82 Cx hP 0 rfl rfl dX11_fault_122 ?_
        exact J125_27 v_signMany hf _ _ _ hP hS (lv_sub hl [] rfl)
      · have hf := ob_fk c28 hf
        refine lv_bipush (v := (-6)) hx hb dX11_fault_116 (by decide) ?_
        refine lv_goto (tgt := 125) hx hb dX11_fault_118 (by decide) ?_
        exact J125_27 (-6 : Int32) hf _ _ _ hP hS (lv_sub hl [] rfl)
  · intro r hr pc H locs ls hd hP hS
    rw [hr] at hf
    have hf := ob_r hf
    obtain rfl := Option.some.inj hf
    exact ret _ _ _ _ hd hP hS

def f_X11_room_30 (v_signMany : Int32) (v_signs : Nat → Int32) : Nat → Int32 → Int32 → Int32 → Int32 → Int32 → Int32 → Int32 → (Nat → Int32) → Option (Int32 × Int32 × Int32 × Int32 × Int32 × Int32 × (Nat → Int32))
  | 0, _, _, _, _, _, _, _, _ => none
  | n + 1, y1_30, y2_30, y3_30, y4_30, y5_30, y6_30, z_seats_30, z_links_30 =>
  if v_signMany ≤ y6_30 then
  some (y1_30, y2_30, y3_30, y4_30, y5_30, z_seats_30, z_links_30)
  else
  (aget 30 v_signs y6_30).bind (fun u5 =>
  (if u5 = (111 : Int32) then
  (if z_seats_30 = 0 then
  some (y1_30, y2_30, z_links_30)
  else
  (if y2_30 = 0 then
  some ((1 : Int32) + y1_30)
  else
  some (0 : Int32)).bind (fun w14 =>
  (asetI 12 z_links_30 (z_seats_30 - (1 : Int32)) w14).bind (fun u16 =>
  some (y3_30, y4_30, u16)))).bind (fun w11 =>
  some ((0 : Int32), (0 : Int32), w11.1, w11.2.1, y5_30, (z_seats_30 + (1 : Int32)), w11.2.2))
  else
  if u5 = (45 : Int32) then
  some ((y1_30 + 1), y2_30, y3_30, y4_30, y5_30, z_seats_30, z_links_30)
  else
  if u5 = (124 : Int32) then
  some (y1_30, (1 : Int32), y3_30, y4_30, y5_30, z_seats_30, z_links_30)
  else
  some (y1_30, y2_30, y3_30, y4_30, (1 : Int32), z_seats_30, z_links_30)).bind (fun w6 =>
  f_X11_room_30 v_signMany v_signs n w6.1 w6.2.1 w6.2.2.1 w6.2.2.2.1 w6.2.2.2.2.1 (y6_30 + 1) w6.2.2.2.2.2.1 w6.2.2.2.2.2.2))
theorem f_X11_room_30_s (v_signMany : Int32) (v_signs : Nat → Int32) (n : Nat) (y1_30 : Int32) (y2_30 : Int32) (y3_30 : Int32) (y4_30 : Int32) (y5_30 : Int32) (y6_30 : Int32) (z_seats_30 : Int32) (z_links_30 : Nat → Int32) : f_X11_room_30 v_signMany v_signs (n + 1) y1_30 y2_30 y3_30 y4_30 y5_30 y6_30 z_seats_30 z_links_30 =
  (if v_signMany ≤ y6_30 then
  some (y1_30, y2_30, y3_30, y4_30, y5_30, z_seats_30, z_links_30)
  else
  (aget 30 v_signs y6_30).bind (fun u5 =>
  (if u5 = (111 : Int32) then
  (if z_seats_30 = 0 then
  some (y1_30, y2_30, z_links_30)
  else
  (if y2_30 = 0 then
  some ((1 : Int32) + y1_30)
  else
  some (0 : Int32)).bind (fun w14 =>
  (asetI 12 z_links_30 (z_seats_30 - (1 : Int32)) w14).bind (fun u16 =>
  some (y3_30, y4_30, u16)))).bind (fun w11 =>
  some ((0 : Int32), (0 : Int32), w11.1, w11.2.1, y5_30, (z_seats_30 + (1 : Int32)), w11.2.2))
  else
  if u5 = (45 : Int32) then
  some ((y1_30 + 1), y2_30, y3_30, y4_30, y5_30, z_seats_30, z_links_30)
  else
  if u5 = (124 : Int32) then
  some (y1_30, (1 : Int32), y3_30, y4_30, y5_30, z_seats_30, z_links_30)
  else
  some (y1_30, y2_30, y3_30, y4_30, (1 : Int32), z_seats_30, z_links_30)).bind (fun w6 =>
  f_X11_room_30 v_signMany v_signs n w6.1 w6.2.1 w6.2.2.1 w6.2.2.2.1 w6.2.2.2.2.1 (y6_30 + 1) w6.2.2.2.2.2.1 w6.2.2.2.2.2.2))) := rfl
def f_X11_room_188  : Nat → Int32 → (Nat → Int32) → Option ((Nat → Int32))
  | 0, _, _ => none
  | n + 1, y6_188, z_worths_188 =>
  if (12 : Int32) ≤ y6_188 then
  some (z_worths_188)
  else
  (asetI 12 z_worths_188 y6_188 (0 : Int32)).bind (fun u24 =>
  f_X11_room_188  n (y6_188 + 1) u24)
theorem f_X11_room_188_s  (n : Nat) (y6_188 : Int32) (z_worths_188 : Nat → Int32) : f_X11_room_188  (n + 1) y6_188 z_worths_188 =
  (if (12 : Int32) ≤ y6_188 then
  some (z_worths_188)
  else
  (asetI 12 z_worths_188 y6_188 (0 : Int32)).bind (fun u24 =>
  f_X11_room_188  n (y6_188 + 1) u24)) := rfl
def f_X11_room (v_signMany : Int32) (v_seats : Int32) (v_seenRows : Int32) (v_signs : Nat → Int32) (v_links : Nat → Int32) (v_worths : Nat → Int32) (v_far : Nat → Int32) : Option (Int32 × Int32 × Int32 × Int32 × (Nat → Int32) × (Nat → Int32) × (Nat → Int32)) :=
  (f_X11_fault v_signMany v_signs).bind (fun u1 =>
  if u1 < 0 then
  (f_X11_room_30 v_signMany v_signs FU (0 : Int32) (0 : Int32) (0 : Int32) (0 : Int32) (0 : Int32) (0 : Int32) (0 : Int32) v_links).bind (fun u18 =>
  (if u18.2.2.2.2.1 = 0 then
  some (0 : Int32)
  else
  if u18.2.2.2.2.2.1 ≤ (1 : Int32) then
  some (0 : Int32)
  else
  if u18.2.1 = 0 then
  if u18.2.2.2.1 = 0 then
  some (((1 : Int32) + u18.1) + u18.2.2.1)
  else
  some (0 : Int32)
  else
  some (0 : Int32)).bind (fun w19 =>
  (asetI 12 u18.2.2.2.2.2.2 (u18.2.2.2.2.2.1 - (1 : Int32)) w19).bind (fun u21 =>
  (f_X11_room_188  FU (0 : Int32) v_worths).bind (fun u25 =>
  (f_X11_findFar u18.2.2.2.2.2.1 v_far u21 (0 : Int32)).bind (fun u26 =>
  some (u18.2.2.2.2.2.1, (0 : Int32), u18.2.2.2.2.2.1, (0 : Int32), u21, u25, u26))))))
  else
  some ((-5 : Int32), v_signMany, v_seats, v_seenRows, v_links, v_worths, v_far))
set_option maxHeartbeats 4000000 in
set_option maxRecDepth 100000 in
theorem c_X11_room (l : Launch) (D : va_G) (cI cJ cZ cO : ClassId) (a_t a_signs a_links a_worths a_far a_mays a_rowsTo a_endIn a_ends a_pairSets a_awayIn a_now a_then a_comers a_seen a_seenMany a_kept a_isKept : Nat) (v_signMany : Int32) (v_seats : Int32) (v_bearIs : Int32) (v_rowsAll : Int64) (v_awayUpper : Int64) (v_lower : Int64) (v_comerMany : Int32) (v_seenRows : Int32) (v_place : Int32) (v_isWriting : Int32) (v_signs : Nat → Int32) (v_links : Nat → Int32) (v_worths : Nat → Int32) (v_far : Nat → Int32) (out : Int32 × Int32 × Int32 × Int32 × (Nat → Int32) × (Nat → Int32) × (Nat → Int32)) (hf : f_X11_room v_signMany v_seats v_seenRows v_signs v_links v_worths v_far = some out) : MetR l yX11_room (Cond.code yX11_room cX11_room 8 (some .int) :: tbG) { frames := 3, cells := 0, slots := 0, locals := 69 } D (tyL cI cJ cZ cO) [.ref a_t] [(a_t, .inr (11, [.ref a_signs, .int v_signMany, .int v_seats, .ref a_links, .ref a_worths, .int v_bearIs, .ref a_far, .ref a_mays, .ref a_rowsTo, .ref a_endIn, .long v_rowsAll, .ref a_ends, .ref a_pairSets, .ref a_awayIn, .ref a_now, .ref a_then, .long v_awayUpper, .long v_lower, .ref a_comers, .int v_comerMany, .ref a_seen, .ref a_seenMany, .int v_seenRows, .ref a_kept, .ref a_isKept, .int v_place, .int v_isWriting])), (a_signs, eI cI 30 v_signs), (a_links, eI cI 12 v_links), (a_worths, eI cI 12 v_worths), (a_far, eI cI 144 v_far)] (some (.int out.1)) [(a_t, .inr (11, [.ref a_signs, .int out.2.1, .int out.2.2.1, .ref a_links, .ref a_worths, .int v_bearIs, .ref a_far, .ref a_mays, .ref a_rowsTo, .ref a_endIn, .long v_rowsAll, .ref a_ends, .ref a_pairSets, .ref a_awayIn, .ref a_now, .ref a_then, .long v_awayUpper, .long v_lower, .ref a_comers, .int v_comerMany, .ref a_seen, .ref a_seenMany, .int out.2.2.2.1, .ref a_kept, .ref a_isKept, .int v_place, .int v_isWriting])), (a_signs, eI cI 30 v_signs), (a_links, eI cI 12 out.2.2.2.2.1), (a_worths, eI cI 12 out.2.2.2.2.2.1), (a_far, eI cI 144 out.2.2.2.2.2.2)] := by
  refine ba_ofI RX11 [(0, .ref a_t)] (by decide +kernel) rfl (Nat.le_of_ble_eq_true rfl) rfl ?_
  intro p e s m args below meth c Q A Cx hP ret ls hl
  obtain ⟨⟨hx, hb, hml, hown, hts⟩, hK, hD, hA⟩ := id Cx
  have hS : va_S A s.heap s.heap [] := va_S.rf
  unfold f_X11_room at hf
  refine lv_aload_n hx hb dX11_room_0 rfl (lv_at hl 0 rfl) ?_
  obtain ⟨u1, hu1, hf⟩ := ob_b hf
  refine iv_X11_85 (As := []) (rest := []) (is := [0, 1]) (q0 := 0) (X' := [(a_t, .inr (11, [.ref a_signs, .int v_signMany, .int v_seats, .ref a_links, .ref a_worths, .int v_bearIs, .ref a_far, .ref a_mays, .ref a_rowsTo, .ref a_endIn, .long v_rowsAll, .ref a_ends, .ref a_pairSets, .ref a_awayIn, .ref a_now, .ref a_then, .long v_awayUpper, .long v_lower, .ref a_comers, .int v_comerMany, .ref a_seen, .ref a_seenMany, .int v_seenRows, .ref a_kept, .ref a_isKept, .int v_place, .int v_isWriting])), (a_signs, eI cI 30 v_signs), (a_links, eI cI 12 v_links), (a_worths, eI cI 12 v_worths), (a_far, eI cI 144 v_far)]) Cx (c_X11_fault l D cI cJ cZ cO a_t a_signs a_links a_worths a_far a_mays a_rowsTo a_endIn a_ends a_pairSets a_awayIn a_now a_then a_comers a_seen a_seenMany a_kept a_isKept v_signMany v_seats v_bearIs v_rowsAll v_awayUpper v_lower v_comerMany v_seenRows v_place v_isWriting v_signs u1 hu1) hP hS rfl rfl rfl rfl rfl rfl rfl hl.1 (Nat.le_of_ble_eq_true rfl) dX11_room_1 rfl rfl ⟨Nat.le_of_ble_eq_true rfl, Nat.le_of_ble_eq_true rfl⟩ ⟨Nat.zero_le _, Nat.zero_le _⟩ rfl (fun H locs hP hS => ?_)
  refine lv_if_lt (tgt := 10) hx hb dX11_room_4 (by decide) (fun c2 => ?_) (fun c2 => ?_)
  · have hf := ob_t c2 hf
    refine lv_aload_n hx hb dX11_room_10 rfl (lv_at hl 0 rfl) ?_
    refine lv_iconst (v := 0) hx hb dX11_room_11 (by decide) ?_
    refine pf_X11_63 (X' := [(a_t, .inr (11, [.ref a_signs, .int v_signMany, .int (0 : Int32), .ref a_links, .ref a_worths, .int v_bearIs, .ref a_far, .ref a_mays, .ref a_rowsTo, .ref a_endIn, .long v_rowsAll, .ref a_ends, .ref a_pairSets, .ref a_awayIn, .ref a_now, .ref a_then, .long v_awayUpper, .long v_lower, .ref a_comers, .int v_comerMany, .ref a_seen, .ref a_seenMany, .int v_seenRows, .ref a_kept, .ref a_isKept, .int v_place, .int v_isWriting])), (a_signs, eI cI 30 v_signs), (a_links, eI cI 12 v_links), (a_worths, eI cI 12 v_worths), (a_far, eI cI 144 v_far)]) Cx hP hS rfl 0 rfl rfl (Nat.le_of_ble_eq_true rfl) dX11_room_12 (fun H locs hP hS => ?_)
    refine lv_iconst (v := 0) hx hb dX11_room_15 (by decide) ?_
    refine lv_istore_n (lv' := [(1, .int (0 : Int32)), (0, .ref a_t)]) hx hb dX11_room_16 rfl hl (by decide) rfl (fun ls hl => ?_)
    refine lv_iconst (v := 0) hx hb dX11_room_17 (by decide) ?_
    refine lv_istore_n (lv' := [(2, .int (0 : Int32)), (1, .int (0 : Int32)), (0, .ref a_t)]) hx hb dX11_room_18 rfl hl (by decide) rfl (fun ls hl => ?_)
    refine lv_iconst (v := 0) hx hb dX11_room_19 (by decide) ?_
    refine lv_istore_n (lv' := [(3, .int (0 : Int32)), (2, .int (0 : Int32)), (1, .int (0 : Int32)), (0, .ref a_t)]) hx hb dX11_room_20 rfl hl (by decide) rfl (fun ls hl => ?_)
    refine lv_iconst (v := 0) hx hb dX11_room_21 (by decide) ?_
    refine lv_istore (lv' := [(4, .int (0 : Int32)), (3, .int (0 : Int32)), (2, .int (0 : Int32)), (1, .int (0 : Int32)), (0, .ref a_t)]) hx hb dX11_room_22 hl (by decide) rfl (fun ls hl => ?_)
    refine lv_iconst (v := 0) hx hb dX11_room_24 (by decide) ?_
    refine lv_istore (lv' := [(5, .int (0 : Int32)), (4, .int (0 : Int32)), (3, .int (0 : Int32)), (2, .int (0 : Int32)), (1, .int (0 : Int32)), (0, .ref a_t)]) hx hb dX11_room_25 hl (by decide) rfl (fun ls hl => ?_)
    refine lv_iconst (v := 0) hx hb dX11_room_27 (by decide) ?_
    refine lv_istore (lv' := [(6, .int (0 : Int32)), (5, .int (0 : Int32)), (4, .int (0 : Int32)), (3, .int (0 : Int32)), (2, .int (0 : Int32)), (1, .int (0 : Int32)), (0, .ref a_t)]) hx hb dX11_room_28 hl (by decide) rfl (fun ls hl => ?_)
    have L30_3 : ∀ (n : Nat) (y1_30 : Int32) (y2_30 : Int32) (y3_30 : Int32) (y4_30 : Int32) (y5_30 : Int32) (y6_30 : Int32) (z_seats_30 : Int32) (z_links_30 : Nat → Int32) (o : Int32 × Int32 × Int32 × Int32 × Int32 × Int32 × (Nat → Int32)) (H : Heap) (locs : List Loc) (ls : Array Slot), f_X11_room_30 v_signMany v_signs n y1_30 y2_30 y3_30 y4_30 y5_30 y6_30 z_seats_30 z_links_30 = some o → va_P D vwCl [(a_t, .inr (11, [.ref a_signs, .int v_signMany, .int z_seats_30, .ref a_links, .ref a_worths, .int v_bearIs, .ref a_far, .ref a_mays, .ref a_rowsTo, .ref a_endIn, .long v_rowsAll, .ref a_ends, .ref a_pairSets, .ref a_awayIn, .ref a_now, .ref a_then, .long v_awayUpper, .long v_lower, .ref a_comers, .int v_comerMany, .ref a_seen, .ref a_seenMany, .int v_seenRows, .ref a_kept, .ref a_isKept, .int v_place, .int v_isWriting])), (a_signs, eI cI 30 v_signs), (a_links, eI cI 12 z_links_30), (a_worths, eI cI 12 v_worths), (a_far, eI cI 144 v_far)] H → va_S A s.heap H locs → lv_has ls 8 [(0, .ref a_t), (1, .int y1_30), (2, .int y2_30), (3, .int y3_30), (4, .int y4_30), (5, .int y5_30), (6, .int y6_30)] → (∀ (H : Heap) (locs : List Loc) (ls : Array Slot), va_P D vwCl [(a_t, .inr (11, [.ref a_signs, .int v_signMany, .int o.2.2.2.2.2.1, .ref a_links, .ref a_worths, .int v_bearIs, .ref a_far, .ref a_mays, .ref a_rowsTo, .ref a_endIn, .long v_rowsAll, .ref a_ends, .ref a_pairSets, .ref a_awayIn, .ref a_now, .ref a_then, .long v_awayUpper, .long v_lower, .ref a_comers, .int v_comerMany, .ref a_seen, .ref a_seenMany, .int v_seenRows, .ref a_kept, .ref a_isKept, .int v_place, .int v_isWriting])), (a_signs, eI cI 30 v_signs), (a_links, eI cI 12 o.2.2.2.2.2.2), (a_worths, eI cI 12 v_worths), (a_far, eI cI 144 v_far)] H → va_S A s.heap H locs → lv_has ls 8 [(0, .ref a_t), (1, .int o.1), (2, .int o.2.1), (3, .int o.2.2.1), (4, .int o.2.2.2.1), (5, .int o.2.2.2.2.1)] → W p l e { frames := 3, cells := 0, slots := 0, locals := 69 } s m args below meth c H locs 0 0 Q (F0 m 143 ls [])) → W p l e { frames := 3, cells := 0, slots := 0, locals := 69 } s m args below meth c H locs 0 0 Q (F0 m 30 ls []) := by
      intro n
      induction n with
      | zero => intro y1_30 y2_30 y3_30 y4_30 y5_30 y6_30 z_seats_30 z_links_30 o H locs ls hf; exact (ob_n hf).elim
      | succ n ih =>
        intro y1_30 y2_30 y3_30 y4_30 y5_30 y6_30 z_seats_30 z_links_30 o H locs ls hf hP hS hl kk
        rw [f_X11_room_30_s] at hf
        refine lv_iload hx hb dX11_room_30 (lv_at hl 6 rfl) ?_
        refine lv_aload_n hx hb dX11_room_32 rfl (lv_at hl 0 rfl) ?_
        refine gf_X11_82 Cx hP 0 rfl rfl dX11_room_33 ?_
        refine lv_icmp_ge (tgt := 143) hx hb dX11_room_36 (by decide) (fun c4 => ?_) (fun c4 => ?_)
        · have hf := ob_t c4 hf
          obtain rfl := Option.some.inj hf
          exact kk _ _ _ hP hS (lv_sub hl [0, 1, 2, 3, 4, 5] rfl)
        · have hf := ob_f c4 hf
          refine lv_aload_n hx hb dX11_room_39 rfl (lv_at hl 0 rfl) ?_
          refine gf_X11_7 Cx hP 0 rfl rfl dX11_room_40 ?_
          refine lv_iload hx hb dX11_room_43 (lv_at hl 6 rfl) ?_
          obtain ⟨u5, hu5, hf⟩ := ob_b hf
          refine ba_iald Cx hP 1 rfl hu5 dX11_room_45 ?_
          refine lv_istore (lv' := [(7, .int u5), (0, .ref a_t), (1, .int y1_30), (2, .int y2_30), (3, .int y3_30), (4, .int y4_30), (5, .int y5_30), (6, .int y6_30)]) hx hb dX11_room_46 hl (by decide) rfl (fun ls hl => ?_)
          refine lv_iload hx hb dX11_room_48 (lv_at hl 0 rfl) ?_
          refine lv_bipush (v := 111) hx hb dX11_room_50 (by decide) ?_
          refine ob_J (P := fun w6 => ∀ (H : Heap) (locs : List Loc) (ls : Array Slot), va_P D vwCl [(a_t, .inr (11, [.ref a_signs, .int v_signMany, .int w6.2.2.2.2.2.1, .ref a_links, .ref a_worths, .int v_bearIs, .ref a_far, .ref a_mays, .ref a_rowsTo, .ref a_endIn, .long v_rowsAll, .ref a_ends, .ref a_pairSets, .ref a_awayIn, .ref a_now, .ref a_then, .long v_awayUpper, .long v_lower, .ref a_comers, .int v_comerMany, .ref a_seen, .ref a_seenMany, .int v_seenRows, .ref a_kept, .ref a_isKept, .int v_place, .int v_isWriting])), (a_signs, eI cI 30 v_signs), (a_links, eI cI 12 w6.2.2.2.2.2.2), (a_worths, eI cI 12 v_worths), (a_far, eI cI 144 v_far)] H → va_S A s.heap H locs → lv_has ls 8 [(0, .ref a_t), (1, .int w6.1), (2, .int w6.2.1), (3, .int w6.2.2.1), (4, .int w6.2.2.2.1), (5, .int w6.2.2.2.2.1), (6, .int y6_30)] → W p l e { frames := 3, cells := 0, slots := 0, locals := 69 } s m args below meth c H locs 0 0 Q (F0 m 137 ls [])) hf ?_ ?_
          · intro w6 hf H locs ls hP hS hl
            refine lv_iinc (v := (y6_30 + 1)) (lv' := [(6, .int (y6_30 + 1)), (0, .ref a_t), (1, .int w6.1), (2, .int w6.2.1), (3, .int w6.2.2.1), (4, .int w6.2.2.2.1), (5, .int w6.2.2.2.2.1)]) hx hb dX11_room_137 hl (k := 6) rfl rfl (by decide) rfl (fun ls hl => ?_)
            refine lv_goto (tgt := 30) hx hb dX11_room_140 (by decide) ?_
            exact ih w6.1 w6.2.1 w6.2.2.1 w6.2.2.2.1 w6.2.2.2.2.1 (y6_30 + 1) w6.2.2.2.2.2.1 w6.2.2.2.2.2.2 _ _ _ _ hf hP hS (lv_sub hl [1, 2, 3, 4, 5, 6, 0] rfl) kk
          · intro J137_7 hf
            refine lv_icmp_ne (tgt := 109) hx hb dX11_room_52 (by decide) (fun c8 => ?_) (fun c8 => ?_)
            · have hf := ob_fk c8 hf
              refine lv_iload hx hb dX11_room_109 (lv_at hl 0 rfl) ?_
              refine lv_bipush (v := 45) hx hb dX11_room_111 (by decide) ?_
              refine lv_icmp_ne (tgt := 122) hx hb dX11_room_113 (by decide) (fun c9 => ?_) (fun c9 => ?_)
              · have hf := ob_fk c9 hf
                refine lv_iload hx hb dX11_room_122 (lv_at hl 0 rfl) ?_
                refine lv_bipush (v := 124) hx hb dX11_room_124 (by decide) ?_
                refine lv_icmp_ne (tgt := 134) hx hb dX11_room_126 (by decide) (fun c10 => ?_) (fun c10 => ?_)
                · have hf := ob_fk c10 hf
                  refine lv_iconst (v := 1) hx hb dX11_room_134 (by decide) ?_
                  refine lv_istore (lv' := [(5, .int (1 : Int32)), (7, .int u5), (0, .ref a_t), (1, .int y1_30), (2, .int y2_30), (3, .int y3_30), (4, .int y4_30), (6, .int y6_30)]) hx hb dX11_room_135 hl (by decide) rfl (fun ls hl => ?_)
                  exact J137_7 (y1_30, y2_30, y3_30, y4_30, (1 : Int32), z_seats_30, z_links_30) hf _ _ _ hP hS (lv_sub hl [2, 3, 4, 5, 6, 0, 7] rfl)
                · have hf := ob_tk c10 hf
                  refine lv_iconst (v := 1) hx hb dX11_room_129 (by decide) ?_
                  refine lv_istore_n (lv' := [(2, .int (1 : Int32)), (7, .int u5), (0, .ref a_t), (1, .int y1_30), (3, .int y3_30), (4, .int y4_30), (5, .int y5_30), (6, .int y6_30)]) hx hb dX11_room_130 rfl hl (by decide) rfl (fun ls hl => ?_)
                  refine lv_goto (tgt := 137) hx hb dX11_room_131 (by decide) ?_
                  exact J137_7 (y1_30, (1 : Int32), y3_30, y4_30, y5_30, z_seats_30, z_links_30) hf _ _ _ hP hS (lv_sub hl [2, 3, 0, 4, 5, 6, 7] rfl)
              · have hf := ob_tk c9 hf
                refine lv_iinc (v := (y1_30 + 1)) (lv' := [(1, .int (y1_30 + 1)), (7, .int u5), (0, .ref a_t), (2, .int y2_30), (3, .int y3_30), (4, .int y4_30), (5, .int y5_30), (6, .int y6_30)]) hx hb dX11_room_116 hl (k := 2) rfl rfl (by decide) rfl (fun ls hl => ?_)
                refine lv_goto (tgt := 137) hx hb dX11_room_119 (by decide) ?_
                exact J137_7 ((y1_30 + 1), y2_30, y3_30, y4_30, y5_30, z_seats_30, z_links_30) hf _ _ _ hP hS (lv_sub hl [2, 0, 3, 4, 5, 6, 7] rfl)
            · have hf := ob_tk c8 hf
              refine lv_aload_n hx hb dX11_room_55 rfl (lv_at hl 1 rfl) ?_
              refine gf_X11_63 Cx hP 0 rfl rfl dX11_room_56 ?_
              have hf := ob_as hf
              refine ob_J (P := fun w11 => ∀ (H : Heap) (locs : List Loc) (ls : Array Slot), va_P D vwCl [(a_t, .inr (11, [.ref a_signs, .int v_signMany, .int z_seats_30, .ref a_links, .ref a_worths, .int v_bearIs, .ref a_far, .ref a_mays, .ref a_rowsTo, .ref a_endIn, .long v_rowsAll, .ref a_ends, .ref a_pairSets, .ref a_awayIn, .ref a_now, .ref a_then, .long v_awayUpper, .long v_lower, .ref a_comers, .int v_comerMany, .ref a_seen, .ref a_seenMany, .int v_seenRows, .ref a_kept, .ref a_isKept, .int v_place, .int v_isWriting])), (a_signs, eI cI 30 v_signs), (a_links, eI cI 12 w11.2.2), (a_worths, eI cI 12 v_worths), (a_far, eI cI 144 v_far)] H → va_S A s.heap H locs → lv_has ls 8 [(0, .ref a_t), (3, .int w11.1), (4, .int w11.2.1), (5, .int y5_30), (6, .int y6_30)] → W p l e { frames := 3, cells := 0, slots := 0, locals := 69 } s m args below meth c H locs 0 0 Q (F0 m 92 ls [])) hf ?_ ?_
              · intro w11 hf H locs ls hP hS hl
                refine lv_aload_n hx hb dX11_room_92 rfl (lv_at hl 0 rfl) ?_
                refine lv_dup hx hb dX11_room_93 rfl ?_
                refine gf_X11_63 Cx hP 0 rfl rfl dX11_room_94 ?_
                refine lv_iconst (v := 1) hx hb dX11_room_97 (by decide) ?_
                refine lv_iadd hx hb dX11_room_98 ?_
                refine pf_X11_63 (X' := [(a_t, .inr (11, [.ref a_signs, .int v_signMany, .int (z_seats_30 + (1 : Int32)), .ref a_links, .ref a_worths, .int v_bearIs, .ref a_far, .ref a_mays, .ref a_rowsTo, .ref a_endIn, .long v_rowsAll, .ref a_ends, .ref a_pairSets, .ref a_awayIn, .ref a_now, .ref a_then, .long v_awayUpper, .long v_lower, .ref a_comers, .int v_comerMany, .ref a_seen, .ref a_seenMany, .int v_seenRows, .ref a_kept, .ref a_isKept, .int v_place, .int v_isWriting])), (a_signs, eI cI 30 v_signs), (a_links, eI cI 12 w11.2.2), (a_worths, eI cI 12 v_worths), (a_far, eI cI 144 v_far)]) Cx hP hS rfl 0 rfl rfl (Nat.le_of_ble_eq_true rfl) dX11_room_99 (fun H locs hP hS => ?_)
                refine lv_iconst (v := 0) hx hb dX11_room_102 (by decide) ?_
                refine lv_istore_n (lv' := [(1, .int (0 : Int32)), (0, .ref a_t), (3, .int w11.1), (4, .int w11.2.1), (5, .int y5_30), (6, .int y6_30)]) hx hb dX11_room_103 rfl hl (by decide) rfl (fun ls hl => ?_)
                refine lv_iconst (v := 0) hx hb dX11_room_104 (by decide) ?_
                refine lv_istore_n (lv' := [(2, .int (0 : Int32)), (1, .int (0 : Int32)), (0, .ref a_t), (3, .int w11.1), (4, .int w11.2.1), (5, .int y5_30), (6, .int y6_30)]) hx hb dX11_room_105 rfl hl (by decide) rfl (fun ls hl => ?_)
                refine lv_goto (tgt := 137) hx hb dX11_room_106 (by decide) ?_
                exact J137_7 ((0 : Int32), (0 : Int32), w11.1, w11.2.1, y5_30, (z_seats_30 + (1 : Int32)), w11.2.2) hf _ _ _ hP hS (lv_sub hl [2, 1, 0, 3, 4, 5, 6] rfl)
              · intro J92_12 hf
                refine lv_if_ne (tgt := 70) hx hb dX11_room_59 (by decide) (fun c13 => ?_) (fun c13 => ?_)
                · have hf := ob_fk c13 hf
                  refine lv_aload_n hx hb dX11_room_70 rfl (lv_at hl 1 rfl) ?_
                  refine gf_X11_13 Cx hP 0 rfl rfl dX11_room_71 ?_
                  refine lv_aload_n hx hb dX11_room_74 rfl (lv_at hl 1 rfl) ?_
                  refine gf_X11_63 Cx hP 0 rfl rfl dX11_room_75 ?_
                  refine lv_iconst (v := 1) hx hb dX11_room_78 (by decide) ?_
                  refine lv_isub hx hb dX11_room_79 ?_
                  refine lv_iload_n hx hb dX11_room_80 rfl (lv_at hl 3 rfl) ?_
                  have hf := ob_as hf
                  refine ob_J (P := fun w14 => ∀ (H : Heap) (locs : List Loc) (ls : Array Slot), va_P D vwCl [(a_t, .inr (11, [.ref a_signs, .int v_signMany, .int z_seats_30, .ref a_links, .ref a_worths, .int v_bearIs, .ref a_far, .ref a_mays, .ref a_rowsTo, .ref a_endIn, .long v_rowsAll, .ref a_ends, .ref a_pairSets, .ref a_awayIn, .ref a_now, .ref a_then, .long v_awayUpper, .long v_lower, .ref a_comers, .int v_comerMany, .ref a_seen, .ref a_seenMany, .int v_seenRows, .ref a_kept, .ref a_isKept, .int v_place, .int v_isWriting])), (a_signs, eI cI 30 v_signs), (a_links, eI cI 12 z_links_30), (a_worths, eI cI 12 v_worths), (a_far, eI cI 144 v_far)] H → va_S A s.heap H locs → lv_has ls 8 [(0, .ref a_t), (3, .int y3_30), (4, .int y4_30), (5, .int y5_30), (6, .int y6_30)] → W p l e { frames := 3, cells := 0, slots := 0, locals := 69 } s m args below meth c H locs 0 0 Q (F0 m 91 ls [.int w14, .int (z_seats_30 - (1 : Int32)), .ref a_links])) hf ?_ ?_
                  · intro w14 hf H locs ls hP hS hl
                    obtain ⟨u16, hu16, hf⟩ := ob_bk hf
                    refine ba_iast (X' := [(a_t, .inr (11, [.ref a_signs, .int v_signMany, .int z_seats_30, .ref a_links, .ref a_worths, .int v_bearIs, .ref a_far, .ref a_mays, .ref a_rowsTo, .ref a_endIn, .long v_rowsAll, .ref a_ends, .ref a_pairSets, .ref a_awayIn, .ref a_now, .ref a_then, .long v_awayUpper, .long v_lower, .ref a_comers, .int v_comerMany, .ref a_seen, .ref a_seenMany, .int v_seenRows, .ref a_kept, .ref a_isKept, .int v_place, .int v_isWriting])), (a_signs, eI cI 30 v_signs), (a_links, eI cI 12 u16), (a_worths, eI cI 12 v_worths), (a_far, eI cI 144 v_far)]) Cx hP hS rfl 2 rfl rfl hu16 dX11_room_91 (fun H locs hP hS => ?_)
                    exact J92_12 (y3_30, y4_30, u16) hf _ _ _ hP hS (lv_sub hl [0, 1, 2, 3, 4] rfl)
                  · intro J91_15 hf
                    refine lv_if_eq (tgt := 88) hx hb dX11_room_81 (by decide) (fun c17 => ?_) (fun c17 => ?_)
                    · have hf := ob_tk c17 hf
                      refine lv_iconst (v := 1) hx hb dX11_room_88 (by decide) ?_
                      refine lv_iload_n hx hb dX11_room_89 rfl (lv_at hl 2 rfl) ?_
                      refine lv_iadd hx hb dX11_room_90 ?_
                      exact J91_15 ((1 : Int32) + y1_30) hf _ _ _ hP hS (lv_sub hl [1, 4, 5, 6, 7] rfl)
                    · have hf := ob_fk c17 hf
                      refine lv_iconst (v := 0) hx hb dX11_room_84 (by decide) ?_
                      refine lv_goto (tgt := 91) hx hb dX11_room_85 (by decide) ?_
                      exact J91_15 (0 : Int32) hf _ _ _ hP hS (lv_sub hl [1, 4, 5, 6, 7] rfl)
                · have hf := ob_tk c13 hf
                  refine lv_iload_n hx hb dX11_room_62 rfl (lv_at hl 2 rfl) ?_
                  refine lv_istore_n (lv' := [(3, .int y1_30), (7, .int u5), (0, .ref a_t), (1, .int y1_30), (2, .int y2_30), (4, .int y4_30), (5, .int y5_30), (6, .int y6_30)]) hx hb dX11_room_63 rfl hl (by decide) rfl (fun ls hl => ?_)
                  refine lv_iload_n hx hb dX11_room_64 rfl (lv_at hl 4 rfl) ?_
                  refine lv_istore (lv' := [(4, .int y2_30), (3, .int y1_30), (7, .int u5), (0, .ref a_t), (1, .int y1_30), (2, .int y2_30), (5, .int y5_30), (6, .int y6_30)]) hx hb dX11_room_65 hl (by decide) rfl (fun ls hl => ?_)
                  refine lv_goto (tgt := 92) hx hb dX11_room_67 (by decide) ?_
                  exact J92_12 (y1_30, y2_30, z_links_30) hf _ _ _ hP hS (lv_sub hl [3, 1, 0, 6, 7] rfl)
    obtain ⟨u18, hu18, hf⟩ := ob_b hf
    refine L30_3 FU (0 : Int32) (0 : Int32) (0 : Int32) (0 : Int32) (0 : Int32) (0 : Int32) (0 : Int32) v_links u18 _ _ _ hu18 hP hS (lv_sub hl [6, 5, 4, 3, 2, 1, 0] rfl) ?_
    intro H locs ls hP hS hl
    refine lv_aload_n hx hb dX11_room_143 rfl (lv_at hl 0 rfl) ?_
    refine gf_X11_13 Cx hP 0 rfl rfl dX11_room_144 ?_
    refine lv_aload_n hx hb dX11_room_147 rfl (lv_at hl 0 rfl) ?_
    refine gf_X11_63 Cx hP 0 rfl rfl dX11_room_148 ?_
    refine lv_iconst (v := 1) hx hb dX11_room_151 (by decide) ?_
    refine lv_isub hx hb dX11_room_152 ?_
    refine lv_iload hx hb dX11_room_153 (lv_at hl 5 rfl) ?_
    refine ob_J (P := fun w19 => ∀ (H : Heap) (locs : List Loc) (ls : Array Slot), va_P D vwCl [(a_t, .inr (11, [.ref a_signs, .int v_signMany, .int u18.2.2.2.2.2.1, .ref a_links, .ref a_worths, .int v_bearIs, .ref a_far, .ref a_mays, .ref a_rowsTo, .ref a_endIn, .long v_rowsAll, .ref a_ends, .ref a_pairSets, .ref a_awayIn, .ref a_now, .ref a_then, .long v_awayUpper, .long v_lower, .ref a_comers, .int v_comerMany, .ref a_seen, .ref a_seenMany, .int v_seenRows, .ref a_kept, .ref a_isKept, .int v_place, .int v_isWriting])), (a_signs, eI cI 30 v_signs), (a_links, eI cI 12 u18.2.2.2.2.2.2), (a_worths, eI cI 12 v_worths), (a_far, eI cI 144 v_far)] H → va_S A s.heap H locs → lv_has ls 8 [(0, .ref a_t)] → W p l e { frames := 3, cells := 0, slots := 0, locals := 69 } s m args below meth c H locs 0 0 Q (F0 m 184 ls [.int w19, .int (u18.2.2.2.2.2.1 - (1 : Int32)), .ref a_links])) hf ?_ ?_
    · intro w19 hf H locs ls hP hS hl
      obtain ⟨u21, hu21, hf⟩ := ob_b hf
      refine ba_iast (X' := [(a_t, .inr (11, [.ref a_signs, .int v_signMany, .int u18.2.2.2.2.2.1, .ref a_links, .ref a_worths, .int v_bearIs, .ref a_far, .ref a_mays, .ref a_rowsTo, .ref a_endIn, .long v_rowsAll, .ref a_ends, .ref a_pairSets, .ref a_awayIn, .ref a_now, .ref a_then, .long v_awayUpper, .long v_lower, .ref a_comers, .int v_comerMany, .ref a_seen, .ref a_seenMany, .int v_seenRows, .ref a_kept, .ref a_isKept, .int v_place, .int v_isWriting])), (a_signs, eI cI 30 v_signs), (a_links, eI cI 12 u21), (a_worths, eI cI 12 v_worths), (a_far, eI cI 144 v_far)]) Cx hP hS rfl 2 rfl rfl hu21 dX11_room_184 (fun H locs hP hS => ?_)
      refine lv_iconst (v := 0) hx hb dX11_room_185 (by decide) ?_
      refine lv_istore (lv' := [(6, .int (0 : Int32)), (0, .ref a_t)]) hx hb dX11_room_186 hl (by decide) rfl (fun ls hl => ?_)
      have L188_22 : ∀ (n : Nat) (y6_188 : Int32) (z_worths_188 : Nat → Int32) (o : (Nat → Int32)) (H : Heap) (locs : List Loc) (ls : Array Slot), f_X11_room_188  n y6_188 z_worths_188 = some o → va_P D vwCl [(a_t, .inr (11, [.ref a_signs, .int v_signMany, .int u18.2.2.2.2.2.1, .ref a_links, .ref a_worths, .int v_bearIs, .ref a_far, .ref a_mays, .ref a_rowsTo, .ref a_endIn, .long v_rowsAll, .ref a_ends, .ref a_pairSets, .ref a_awayIn, .ref a_now, .ref a_then, .long v_awayUpper, .long v_lower, .ref a_comers, .int v_comerMany, .ref a_seen, .ref a_seenMany, .int v_seenRows, .ref a_kept, .ref a_isKept, .int v_place, .int v_isWriting])), (a_signs, eI cI 30 v_signs), (a_links, eI cI 12 u21), (a_worths, eI cI 12 z_worths_188), (a_far, eI cI 144 v_far)] H → va_S A s.heap H locs → lv_has ls 8 [(0, .ref a_t), (6, .int y6_188)] → (∀ (H : Heap) (locs : List Loc) (ls : Array Slot), va_P D vwCl [(a_t, .inr (11, [.ref a_signs, .int v_signMany, .int u18.2.2.2.2.2.1, .ref a_links, .ref a_worths, .int v_bearIs, .ref a_far, .ref a_mays, .ref a_rowsTo, .ref a_endIn, .long v_rowsAll, .ref a_ends, .ref a_pairSets, .ref a_awayIn, .ref a_now, .ref a_then, .long v_awayUpper, .long v_lower, .ref a_comers, .int v_comerMany, .ref a_seen, .ref a_seenMany, .int v_seenRows, .ref a_kept, .ref a_isKept, .int v_place, .int v_isWriting])), (a_signs, eI cI 30 v_signs), (a_links, eI cI 12 u21), (a_worths, eI cI 12 o), (a_far, eI cI 144 v_far)] H → va_S A s.heap H locs → lv_has ls 8 [(0, .ref a_t)] → W p l e { frames := 3, cells := 0, slots := 0, locals := 69 } s m args below meth c H locs 0 0 Q (F0 m 209 ls [])) → W p l e { frames := 3, cells := 0, slots := 0, locals := 69 } s m args below meth c H locs 0 0 Q (F0 m 188 ls []) := by
        intro n
        induction n with
        | zero => intro y6_188 z_worths_188 o H locs ls hf; exact (ob_n hf).elim
        | succ n ih =>
          intro y6_188 z_worths_188 o H locs ls hf hP hS hl kk
          rw [f_X11_room_188_s] at hf
          refine lv_iload hx hb dX11_room_188 (lv_at hl 1 rfl) ?_
          refine lv_bipush (v := 12) hx hb dX11_room_190 (by decide) ?_
          refine lv_icmp_ge (tgt := 209) hx hb dX11_room_192 (by decide) (fun c23 => ?_) (fun c23 => ?_)
          · have hf := ob_t c23 hf
            obtain rfl := Option.some.inj hf
            exact kk _ _ _ hP hS (lv_sub hl [0] rfl)
          · have hf := ob_f c23 hf
            refine lv_aload_n hx hb dX11_room_195 rfl (lv_at hl 0 rfl) ?_
            refine gf_X11_16 Cx hP 0 rfl rfl dX11_room_196 ?_
            refine lv_iload hx hb dX11_room_199 (lv_at hl 1 rfl) ?_
            refine lv_iconst (v := 0) hx hb dX11_room_201 (by decide) ?_
            obtain ⟨u24, hu24, hf⟩ := ob_b hf
            refine ba_iast (X' := [(a_t, .inr (11, [.ref a_signs, .int v_signMany, .int u18.2.2.2.2.2.1, .ref a_links, .ref a_worths, .int v_bearIs, .ref a_far, .ref a_mays, .ref a_rowsTo, .ref a_endIn, .long v_rowsAll, .ref a_ends, .ref a_pairSets, .ref a_awayIn, .ref a_now, .ref a_then, .long v_awayUpper, .long v_lower, .ref a_comers, .int v_comerMany, .ref a_seen, .ref a_seenMany, .int v_seenRows, .ref a_kept, .ref a_isKept, .int v_place, .int v_isWriting])), (a_signs, eI cI 30 v_signs), (a_links, eI cI 12 u21), (a_worths, eI cI 12 u24), (a_far, eI cI 144 v_far)]) Cx hP hS rfl 3 rfl rfl hu24 dX11_room_202 (fun H locs hP hS => ?_)
            refine lv_iinc (v := (y6_188 + 1)) (lv' := [(6, .int (y6_188 + 1)), (0, .ref a_t)]) hx hb dX11_room_203 hl (k := 1) rfl rfl (by decide) rfl (fun ls hl => ?_)
            refine lv_goto (tgt := 188) hx hb dX11_room_206 (by decide) ?_
            exact ih (y6_188 + 1) u24 _ _ _ _ hf hP hS (lv_sub hl [1, 0] rfl) kk
      obtain ⟨u25, hu25, hf⟩ := ob_b hf
      refine L188_22 FU (0 : Int32) v_worths u25 _ _ _ hu25 hP hS (lv_sub hl [1, 0] rfl) ?_
      intro H locs ls hP hS hl
      refine lv_aload_n hx hb dX11_room_209 rfl (lv_at hl 0 rfl) ?_
      refine lv_iconst (v := 0) hx hb dX11_room_210 (by decide) ?_
      refine pf_X11_89 (X' := [(a_t, .inr (11, [.ref a_signs, .int v_signMany, .int u18.2.2.2.2.2.1, .ref a_links, .ref a_worths, .int v_bearIs, .ref a_far, .ref a_mays, .ref a_rowsTo, .ref a_endIn, .long v_rowsAll, .ref a_ends, .ref a_pairSets, .ref a_awayIn, .ref a_now, .ref a_then, .long v_awayUpper, .long v_lower, .ref a_comers, .int v_comerMany, .ref a_seen, .ref a_seenMany, .int (0 : Int32), .ref a_kept, .ref a_isKept, .int v_place, .int v_isWriting])), (a_signs, eI cI 30 v_signs), (a_links, eI cI 12 u21), (a_worths, eI cI 12 u25), (a_far, eI cI 144 v_far)]) Cx hP hS rfl 0 rfl rfl (Nat.le_of_ble_eq_true rfl) dX11_room_211 (fun H locs hP hS => ?_)
      refine lv_aload_n hx hb dX11_room_214 rfl (lv_at hl 0 rfl) ?_
      refine lv_iconst (v := 0) hx hb dX11_room_215 (by decide) ?_
      refine pf_X11_82 (X' := [(a_t, .inr (11, [.ref a_signs, .int (0 : Int32), .int u18.2.2.2.2.2.1, .ref a_links, .ref a_worths, .int v_bearIs, .ref a_far, .ref a_mays, .ref a_rowsTo, .ref a_endIn, .long v_rowsAll, .ref a_ends, .ref a_pairSets, .ref a_awayIn, .ref a_now, .ref a_then, .long v_awayUpper, .long v_lower, .ref a_comers, .int v_comerMany, .ref a_seen, .ref a_seenMany, .int (0 : Int32), .ref a_kept, .ref a_isKept, .int v_place, .int v_isWriting])), (a_signs, eI cI 30 v_signs), (a_links, eI cI 12 u21), (a_worths, eI cI 12 u25), (a_far, eI cI 144 v_far)]) Cx hP hS rfl 0 rfl rfl (Nat.le_of_ble_eq_true rfl) dX11_room_216 (fun H locs hP hS => ?_)
      refine lv_aload_n hx hb dX11_room_219 rfl (lv_at hl 0 rfl) ?_
      refine lv_iconst (v := 0) hx hb dX11_room_220 (by decide) ?_
      obtain ⟨u26, hu26, hf⟩ := ob_b hf
      refine iv_X11_70 (As := [.int (0 : Int32)]) (rest := []) (is := [0, 4, 2]) (q0 := 0) (X' := [(a_t, .inr (11, [.ref a_signs, .int (0 : Int32), .int u18.2.2.2.2.2.1, .ref a_links, .ref a_worths, .int v_bearIs, .ref a_far, .ref a_mays, .ref a_rowsTo, .ref a_endIn, .long v_rowsAll, .ref a_ends, .ref a_pairSets, .ref a_awayIn, .ref a_now, .ref a_then, .long v_awayUpper, .long v_lower, .ref a_comers, .int v_comerMany, .ref a_seen, .ref a_seenMany, .int (0 : Int32), .ref a_kept, .ref a_isKept, .int v_place, .int v_isWriting])), (a_signs, eI cI 30 v_signs), (a_links, eI cI 12 u21), (a_worths, eI cI 12 u25), (a_far, eI cI 144 u26)]) Cx (c_X11_findFar l D cI cJ cZ cO a_t a_signs a_links a_worths a_far a_mays a_rowsTo a_endIn a_ends a_pairSets a_awayIn a_now a_then a_comers a_seen a_seenMany a_kept a_isKept (0 : Int32) u18.2.2.2.2.2.1 v_bearIs v_rowsAll v_awayUpper v_lower v_comerMany (0 : Int32) v_place v_isWriting v_far u21 (0 : Int32) u26 hu26) hP hS rfl rfl rfl rfl rfl rfl rfl hl.1 (Nat.le_of_ble_eq_true rfl) dX11_room_221 rfl rfl ⟨Nat.le_of_ble_eq_true rfl, Nat.le_of_ble_eq_true rfl⟩ ⟨Nat.zero_le _, Nat.zero_le _⟩ rfl (fun H locs hP hS => ?_)
      refine lv_aload_n hx hb dX11_room_224 rfl (lv_at hl 0 rfl) ?_
      refine gf_X11_63 Cx hP 0 rfl rfl dX11_room_225 ?_
      obtain rfl := Option.some.inj hf
      exact ret _ _ _ _ dX11_room_228 hP hS
    · intro J184_20 hf
      refine lv_if_eq (tgt := 183) hx hb dX11_room_155 (by decide) (fun c27 => ?_) (fun c27 => ?_)
      · have hf := ob_tk c27 hf
        refine lv_iconst (v := 0) hx hb dX11_room_183 (by decide) ?_
        exact J184_20 (0 : Int32) hf _ _ _ hP hS (lv_sub hl [0] rfl)
      · have hf := ob_fk c27 hf
        refine lv_aload_n hx hb dX11_room_158 rfl (lv_at hl 0 rfl) ?_
        refine gf_X11_63 Cx hP 0 rfl rfl dX11_room_159 ?_
        refine lv_iconst (v := 1) hx hb dX11_room_162 (by decide) ?_
        refine lv_icmp_le (tgt := 183) hx hb dX11_room_163 (by decide) (fun c28 => ?_) (fun c28 => ?_)
        · have hf := ob_tk c28 hf
          refine lv_iconst (v := 0) hx hb dX11_room_183 (by decide) ?_
          exact J184_20 (0 : Int32) hf _ _ _ hP hS (lv_sub hl [0] rfl)
        · have hf := ob_fk c28 hf
          refine lv_iload_n hx hb dX11_room_166 rfl (lv_at hl 2 rfl) ?_
          refine lv_if_ne (tgt := 183) hx hb dX11_room_167 (by decide) (fun c29 => ?_) (fun c29 => ?_)
          · have hf := ob_fk c29 hf
            refine lv_iconst (v := 0) hx hb dX11_room_183 (by decide) ?_
            exact J184_20 (0 : Int32) hf _ _ _ hP hS (lv_sub hl [0] rfl)
          · have hf := ob_tk c29 hf
            refine lv_iload hx hb dX11_room_170 (lv_at hl 4 rfl) ?_
            refine lv_if_ne (tgt := 183) hx hb dX11_room_172 (by decide) (fun c30 => ?_) (fun c30 => ?_)
            · have hf := ob_fk c30 hf
              refine lv_iconst (v := 0) hx hb dX11_room_183 (by decide) ?_
              exact J184_20 (0 : Int32) hf _ _ _ hP hS (lv_sub hl [0] rfl)
            · have hf := ob_tk c30 hf
              refine lv_iconst (v := 1) hx hb dX11_room_175 (by decide) ?_
              refine lv_iload_n hx hb dX11_room_176 rfl (lv_at hl 1 rfl) ?_
              refine lv_iadd hx hb dX11_room_177 ?_
              refine lv_iload_n hx hb dX11_room_178 rfl (lv_at hl 3 rfl) ?_
              refine lv_iadd hx hb dX11_room_179 ?_
              refine lv_goto (tgt := 184) hx hb dX11_room_180 (by decide) ?_
              exact J184_20 (((1 : Int32) + u18.1) + u18.2.2.1) hf _ _ _ hP hS (lv_sub hl [0] rfl)
  · have hf := ob_f c2 hf
    refine lv_bipush (v := (-5)) hx hb dX11_room_7 (by decide) ?_
    obtain rfl := Option.some.inj hf
    exact ret _ _ _ _ dX11_room_9 hP hS

def f_X11_isSeat (v_seats : Int32) (x1 : Int32) : Option (Int32) :=
  (f_X11_in ((x1).toInt64) (0 : Int64) (((v_seats - (1 : Int32))).toInt64)).bind (fun u1 =>
  (oz u1).bind (fun u2 =>
  some (u2)))
set_option maxHeartbeats 4000000 in
set_option maxRecDepth 100000 in
theorem c_X11_isSeat (l : Launch) (D : va_G) (cI cJ cZ cO : ClassId) (a_t a_signs a_links a_worths a_far a_mays a_rowsTo a_endIn a_ends a_pairSets a_awayIn a_now a_then a_comers a_seen a_seenMany a_kept a_isKept : Nat) (v_signMany : Int32) (v_seats : Int32) (v_bearIs : Int32) (v_rowsAll : Int64) (v_awayUpper : Int64) (v_lower : Int64) (v_comerMany : Int32) (v_seenRows : Int32) (v_place : Int32) (v_isWriting : Int32) (x1 : Int32) (out : Int32) (hf : f_X11_isSeat v_seats x1 = some out) : MetR l yX11_isSeat (Cond.code yX11_isSeat cX11_isSeat 2 (some .boolean) :: tbG) { frames := 1, cells := 0, slots := 0, locals := 25 } D (tyL cI cJ cZ cO) [.ref a_t, .int x1] [(a_t, .inr (11, [.ref a_signs, .int v_signMany, .int v_seats, .ref a_links, .ref a_worths, .int v_bearIs, .ref a_far, .ref a_mays, .ref a_rowsTo, .ref a_endIn, .long v_rowsAll, .ref a_ends, .ref a_pairSets, .ref a_awayIn, .ref a_now, .ref a_then, .long v_awayUpper, .long v_lower, .ref a_comers, .int v_comerMany, .ref a_seen, .ref a_seenMany, .int v_seenRows, .ref a_kept, .ref a_isKept, .int v_place, .int v_isWriting]))] (some (.int out)) [(a_t, .inr (11, [.ref a_signs, .int v_signMany, .int v_seats, .ref a_links, .ref a_worths, .int v_bearIs, .ref a_far, .ref a_mays, .ref a_rowsTo, .ref a_endIn, .long v_rowsAll, .ref a_ends, .ref a_pairSets, .ref a_awayIn, .ref a_now, .ref a_then, .long v_awayUpper, .long v_lower, .ref a_comers, .int v_comerMany, .ref a_seen, .ref a_seenMany, .int v_seenRows, .ref a_kept, .ref a_isKept, .int v_place, .int v_isWriting]))] := by
  refine ba_ofZ RX11 [(0, .ref a_t), (1, .int x1)] (by decide +kernel) rfl (Nat.le_of_ble_eq_true rfl) rfl ?_
  intro p e s m args below meth c Q A Cx hP ret ls hl
  obtain ⟨⟨hx, hb, hml, hown, hts⟩, hK, hD, hA⟩ := id Cx
  have hS : va_S A s.heap s.heap [] := va_S.rf
  unfold f_X11_isSeat at hf
  refine lv_iload_n hx hb dX11_isSeat_0 rfl (lv_at hl 1 rfl) ?_
  refine lv_i2l (v := (x1).toInt64) hx hb dX11_isSeat_1 rfl ?_
  refine lv_lconst (v := 0) hx hb dX11_isSeat_2 (by decide) ?_
  refine lv_aload_n hx hb dX11_isSeat_3 rfl (lv_at hl 0 rfl) ?_
  refine gf_X11_63 Cx hP 0 rfl rfl dX11_isSeat_4 ?_
  refine lv_iconst (v := 1) hx hb dX11_isSeat_7 (by decide) ?_
  refine lv_isub hx hb dX11_isSeat_8 ?_
  refine lv_i2l (v := ((v_seats - (1 : Int32))).toInt64) hx hb dX11_isSeat_9 rfl ?_
  obtain ⟨u1, hu1, hf⟩ := ob_b hf
  refine iv_X11_74 (As := [.long ((x1).toInt64), .long (0 : Int64), .long (((v_seats - (1 : Int32))).toInt64)]) (rest := []) (is := []) (X' := [(a_t, .inr (11, [.ref a_signs, .int v_signMany, .int v_seats, .ref a_links, .ref a_worths, .int v_bearIs, .ref a_far, .ref a_mays, .ref a_rowsTo, .ref a_endIn, .long v_rowsAll, .ref a_ends, .ref a_pairSets, .ref a_awayIn, .ref a_now, .ref a_then, .long v_awayUpper, .long v_lower, .ref a_comers, .int v_comerMany, .ref a_seen, .ref a_seenMany, .int v_seenRows, .ref a_kept, .ref a_isKept, .int v_place, .int v_isWriting]))]) Cx (c_X11_in l D cI cJ cZ cO  ((x1).toInt64) (0 : Int64) (((v_seats - (1 : Int32))).toInt64) u1 hu1) hP hS rfl rfl rfl rfl rfl rfl hl.1 (Nat.le_of_ble_eq_true rfl) dX11_isSeat_10 rfl rfl ⟨Nat.le_of_ble_eq_true rfl, Nat.le_of_ble_eq_true rfl⟩ ⟨Nat.zero_le _, Nat.zero_le _⟩ rfl (fun H locs hP hS => ?_)
  obtain ⟨u2, hu2, hf⟩ := ob_b hf
  obtain ⟨hz1, hz2⟩ := oz_ok hu2
  obtain rfl := Option.some.inj hf
  exact ret _ _ _ _ _ hz1 hz2 dX11_isSeat_13 hP hS

def f_X11_worth (v_seats : Int32) (v_worths : Nat → Int32) (x1 : Int32) (x2 : Int32) : Option (Int32 × (Nat → Int32)) :=
  (f_X11_isSeat v_seats x1).bind (fun u1 =>
  if u1 = 0 then
  some ((-1 : Int32), v_worths)
  else
  (f_X11_in ((x2).toInt64) (0 : Int64) (9 : Int64)).bind (fun u3 =>
  if u3 = 0 then
  some ((-2 : Int32), v_worths)
  else
  (aget 12 v_worths x1).bind (fun u5 =>
  (asetI 12 v_worths x1 x2).bind (fun u6 =>
  some (u5, u6)))))
set_option maxHeartbeats 4000000 in
set_option maxRecDepth 100000 in
theorem c_X11_worth (l : Launch) (D : va_G) (cI cJ cZ cO : ClassId) (a_t a_signs a_links a_worths a_far a_mays a_rowsTo a_endIn a_ends a_pairSets a_awayIn a_now a_then a_comers a_seen a_seenMany a_kept a_isKept : Nat) (v_signMany : Int32) (v_seats : Int32) (v_bearIs : Int32) (v_rowsAll : Int64) (v_awayUpper : Int64) (v_lower : Int64) (v_comerMany : Int32) (v_seenRows : Int32) (v_place : Int32) (v_isWriting : Int32) (v_worths : Nat → Int32) (x1 : Int32) (x2 : Int32) (out : Int32 × (Nat → Int32)) (hf : f_X11_worth v_seats v_worths x1 x2 = some out) : MetR l yX11_worth (Cond.code yX11_worth cX11_worth 4 (some .int) :: tbG) { frames := 2, cells := 0, slots := 0, locals := 46 } D (tyL cI cJ cZ cO) [.ref a_t, .int x1, .int x2] [(a_t, .inr (11, [.ref a_signs, .int v_signMany, .int v_seats, .ref a_links, .ref a_worths, .int v_bearIs, .ref a_far, .ref a_mays, .ref a_rowsTo, .ref a_endIn, .long v_rowsAll, .ref a_ends, .ref a_pairSets, .ref a_awayIn, .ref a_now, .ref a_then, .long v_awayUpper, .long v_lower, .ref a_comers, .int v_comerMany, .ref a_seen, .ref a_seenMany, .int v_seenRows, .ref a_kept, .ref a_isKept, .int v_place, .int v_isWriting])), (a_worths, eI cI 12 v_worths)] (some (.int out.1)) [(a_t, .inr (11, [.ref a_signs, .int v_signMany, .int v_seats, .ref a_links, .ref a_worths, .int v_bearIs, .ref a_far, .ref a_mays, .ref a_rowsTo, .ref a_endIn, .long v_rowsAll, .ref a_ends, .ref a_pairSets, .ref a_awayIn, .ref a_now, .ref a_then, .long v_awayUpper, .long v_lower, .ref a_comers, .int v_comerMany, .ref a_seen, .ref a_seenMany, .int v_seenRows, .ref a_kept, .ref a_isKept, .int v_place, .int v_isWriting])), (a_worths, eI cI 12 out.2)] := by
  refine ba_ofI RX11 [(0, .ref a_t), (1, .int x1), (2, .int x2)] (by decide +kernel) rfl (Nat.le_of_ble_eq_true rfl) rfl ?_
  intro p e s m args below meth c Q A Cx hP ret ls hl
  obtain ⟨⟨hx, hb, hml, hown, hts⟩, hK, hD, hA⟩ := id Cx
  have hS : va_S A s.heap s.heap [] := va_S.rf
  unfold f_X11_worth at hf
  refine lv_aload_n hx hb dX11_worth_0 rfl (lv_at hl 0 rfl) ?_
  refine lv_iload_n hx hb dX11_worth_1 rfl (lv_at hl 1 rfl) ?_
  obtain ⟨u1, hu1, hf⟩ := ob_b hf
  refine iv_X11_100 (As := [.int x1]) (rest := []) (is := [0]) (q0 := 0) (X' := [(a_t, .inr (11, [.ref a_signs, .int v_signMany, .int v_seats, .ref a_links, .ref a_worths, .int v_bearIs, .ref a_far, .ref a_mays, .ref a_rowsTo, .ref a_endIn, .long v_rowsAll, .ref a_ends, .ref a_pairSets, .ref a_awayIn, .ref a_now, .ref a_then, .long v_awayUpper, .long v_lower, .ref a_comers, .int v_comerMany, .ref a_seen, .ref a_seenMany, .int v_seenRows, .ref a_kept, .ref a_isKept, .int v_place, .int v_isWriting])), (a_worths, eI cI 12 v_worths)]) Cx (c_X11_isSeat l D cI cJ cZ cO a_t a_signs a_links a_worths a_far a_mays a_rowsTo a_endIn a_ends a_pairSets a_awayIn a_now a_then a_comers a_seen a_seenMany a_kept a_isKept v_signMany v_seats v_bearIs v_rowsAll v_awayUpper v_lower v_comerMany v_seenRows v_place v_isWriting x1 u1 hu1) hP hS rfl rfl rfl rfl rfl rfl rfl hl.1 (Nat.le_of_ble_eq_true rfl) dX11_worth_2 rfl rfl ⟨Nat.le_of_ble_eq_true rfl, Nat.le_of_ble_eq_true rfl⟩ ⟨Nat.zero_le _, Nat.zero_le _⟩ rfl (fun H locs hP hS => ?_)
  refine lv_if_ne (tgt := 10) hx hb dX11_worth_5 (by decide) (fun c2 => ?_) (fun c2 => ?_)
  · have hf := ob_f c2 hf
    refine lv_iload_n hx hb dX11_worth_10 rfl (lv_at hl 2 rfl) ?_
    refine lv_i2l (v := (x2).toInt64) hx hb dX11_worth_11 rfl ?_
    refine lv_lconst (v := 0) hx hb dX11_worth_12 (by decide) ?_
    refine lv_ldc2 hx hb hown (hts _ kw_867) dX11_worth_13 ?_
    obtain ⟨u3, hu3, hf⟩ := ob_b hf
    refine iv_X11_74 (As := [.long ((x2).toInt64), .long (0 : Int64), .long (9 : Int64)]) (rest := []) (is := []) (X' := [(a_t, .inr (11, [.ref a_signs, .int v_signMany, .int v_seats, .ref a_links, .ref a_worths, .int v_bearIs, .ref a_far, .ref a_mays, .ref a_rowsTo, .ref a_endIn, .long v_rowsAll, .ref a_ends, .ref a_pairSets, .ref a_awayIn, .ref a_now, .ref a_then, .long v_awayUpper, .long v_lower, .ref a_comers, .int v_comerMany, .ref a_seen, .ref a_seenMany, .int v_seenRows, .ref a_kept, .ref a_isKept, .int v_place, .int v_isWriting])), (a_worths, eI cI 12 v_worths)]) Cx (c_X11_in l D cI cJ cZ cO  ((x2).toInt64) (0 : Int64) (9 : Int64) u3 hu3) hP hS rfl rfl rfl rfl rfl rfl hl.1 (Nat.le_of_ble_eq_true rfl) dX11_worth_16 rfl rfl ⟨Nat.le_of_ble_eq_true rfl, Nat.le_of_ble_eq_true rfl⟩ ⟨Nat.zero_le _, Nat.zero_le _⟩ rfl (fun H locs hP hS => ?_)
    refine lv_if_ne (tgt := 25) hx hb dX11_worth_19 (by decide) (fun c4 => ?_) (fun c4 => ?_)
    · have hf := ob_f c4 hf
      refine lv_aload_n hx hb dX11_worth_25 rfl (lv_at hl 0 rfl) ?_
      refine gf_X11_16 Cx hP 0 rfl rfl dX11_worth_26 ?_
      refine lv_iload_n hx hb dX11_worth_29 rfl (lv_at hl 1 rfl) ?_
      obtain ⟨u5, hu5, hf⟩ := ob_b hf
      refine ba_iald Cx hP 1 rfl hu5 dX11_worth_30 ?_
      refine lv_istore_n (lv' := [(3, .int u5), (0, .ref a_t), (1, .int x1), (2, .int x2)]) hx hb dX11_worth_31 rfl hl (by decide) rfl (fun ls hl => ?_)
      refine lv_aload_n hx hb dX11_worth_32 rfl (lv_at hl 1 rfl) ?_
      refine gf_X11_16 Cx hP 0 rfl rfl dX11_worth_33 ?_
      refine lv_iload_n hx hb dX11_worth_36 rfl (lv_at hl 2 rfl) ?_
      refine lv_iload_n hx hb dX11_worth_37 rfl (lv_at hl 3 rfl) ?_
      obtain ⟨u6, hu6, hf⟩ := ob_b hf
      refine ba_iast (X' := [(a_t, .inr (11, [.ref a_signs, .int v_signMany, .int v_seats, .ref a_links, .ref a_worths, .int v_bearIs, .ref a_far, .ref a_mays, .ref a_rowsTo, .ref a_endIn, .long v_rowsAll, .ref a_ends, .ref a_pairSets, .ref a_awayIn, .ref a_now, .ref a_then, .long v_awayUpper, .long v_lower, .ref a_comers, .int v_comerMany, .ref a_seen, .ref a_seenMany, .int v_seenRows, .ref a_kept, .ref a_isKept, .int v_place, .int v_isWriting])), (a_worths, eI cI 12 u6)]) Cx hP hS rfl 1 rfl rfl hu6 dX11_worth_38 (fun H locs hP hS => ?_)
      refine lv_iload_n hx hb dX11_worth_39 rfl (lv_at hl 0 rfl) ?_
      obtain rfl := Option.some.inj hf
      exact ret _ _ _ _ dX11_worth_40 hP hS
    · have hf := ob_t c4 hf
      refine lv_bipush (v := (-2)) hx hb dX11_worth_22 (by decide) ?_
      obtain rfl := Option.some.inj hf
      exact ret _ _ _ _ dX11_worth_24 hP hS
  · have hf := ob_t c2 hf
    refine lv_iconst (v := (-1)) hx hb dX11_worth_8 (by decide) ?_
    obtain rfl := Option.some.inj hf
    exact ret _ _ _ _ dX11_worth_9 hP hS

def f_X11_bear (v_bearIs : Int32) (v_seenRows : Int32) (x1 : Int32) : Option (Int32 × Int32 × Int32) :=
  (f_X11_in ((x1).toInt64) (1 : Int64) (4 : Int64)).bind (fun u1 =>
  if u1 = 0 then
  some ((-2 : Int32), v_bearIs, v_seenRows)
  else
  (if x1 = v_bearIs then
  some (v_seenRows)
  else
  some (0 : Int32)).bind (fun w3 =>
  some (v_bearIs, x1, w3)))
set_option maxHeartbeats 4000000 in
set_option maxRecDepth 100000 in
theorem c_X11_bear (l : Launch) (D : va_G) (cI cJ cZ cO : ClassId) (a_t a_signs a_links a_worths a_far a_mays a_rowsTo a_endIn a_ends a_pairSets a_awayIn a_now a_then a_comers a_seen a_seenMany a_kept a_isKept : Nat) (v_signMany : Int32) (v_seats : Int32) (v_bearIs : Int32) (v_rowsAll : Int64) (v_awayUpper : Int64) (v_lower : Int64) (v_comerMany : Int32) (v_seenRows : Int32) (v_place : Int32) (v_isWriting : Int32) (x1 : Int32) (out : Int32 × Int32 × Int32) (hf : f_X11_bear v_bearIs v_seenRows x1 = some out) : MetR l yX11_bear (Cond.code yX11_bear cX11_bear 3 (some .int) :: tbG) { frames := 1, cells := 0, slots := 0, locals := 25 } D (tyL cI cJ cZ cO) [.ref a_t, .int x1] [(a_t, .inr (11, [.ref a_signs, .int v_signMany, .int v_seats, .ref a_links, .ref a_worths, .int v_bearIs, .ref a_far, .ref a_mays, .ref a_rowsTo, .ref a_endIn, .long v_rowsAll, .ref a_ends, .ref a_pairSets, .ref a_awayIn, .ref a_now, .ref a_then, .long v_awayUpper, .long v_lower, .ref a_comers, .int v_comerMany, .ref a_seen, .ref a_seenMany, .int v_seenRows, .ref a_kept, .ref a_isKept, .int v_place, .int v_isWriting]))] (some (.int out.1)) [(a_t, .inr (11, [.ref a_signs, .int v_signMany, .int v_seats, .ref a_links, .ref a_worths, .int out.2.1, .ref a_far, .ref a_mays, .ref a_rowsTo, .ref a_endIn, .long v_rowsAll, .ref a_ends, .ref a_pairSets, .ref a_awayIn, .ref a_now, .ref a_then, .long v_awayUpper, .long v_lower, .ref a_comers, .int v_comerMany, .ref a_seen, .ref a_seenMany, .int out.2.2, .ref a_kept, .ref a_isKept, .int v_place, .int v_isWriting]))] := by
  refine ba_ofI RX11 [(0, .ref a_t), (1, .int x1)] (by decide +kernel) rfl (Nat.le_of_ble_eq_true rfl) rfl ?_
  intro p e s m args below meth c Q A Cx hP ret ls hl
  obtain ⟨⟨hx, hb, hml, hown, hts⟩, hK, hD, hA⟩ := id Cx
  have hS : va_S A s.heap s.heap [] := va_S.rf
  unfold f_X11_bear at hf
  refine lv_iload_n hx hb dX11_bear_0 rfl (lv_at hl 1 rfl) ?_
  refine lv_i2l (v := (x1).toInt64) hx hb dX11_bear_1 rfl ?_
  refine lv_lconst (v := 1) hx hb dX11_bear_2 (by decide) ?_
  refine lv_ldc2 hx hb hown (hts _ kw_872) dX11_bear_3 ?_
  obtain ⟨u1, hu1, hf⟩ := ob_b hf
  refine iv_X11_74 (As := [.long ((x1).toInt64), .long (1 : Int64), .long (4 : Int64)]) (rest := []) (is := []) (X' := [(a_t, .inr (11, [.ref a_signs, .int v_signMany, .int v_seats, .ref a_links, .ref a_worths, .int v_bearIs, .ref a_far, .ref a_mays, .ref a_rowsTo, .ref a_endIn, .long v_rowsAll, .ref a_ends, .ref a_pairSets, .ref a_awayIn, .ref a_now, .ref a_then, .long v_awayUpper, .long v_lower, .ref a_comers, .int v_comerMany, .ref a_seen, .ref a_seenMany, .int v_seenRows, .ref a_kept, .ref a_isKept, .int v_place, .int v_isWriting]))]) Cx (c_X11_in l D cI cJ cZ cO  ((x1).toInt64) (1 : Int64) (4 : Int64) u1 hu1) hP hS rfl rfl rfl rfl rfl rfl hl.1 (Nat.le_of_ble_eq_true rfl) dX11_bear_6 rfl rfl ⟨Nat.le_of_ble_eq_true rfl, Nat.le_of_ble_eq_true rfl⟩ ⟨Nat.zero_le _, Nat.zero_le _⟩ rfl (fun H locs hP hS => ?_)
  refine lv_if_ne (tgt := 15) hx hb dX11_bear_9 (by decide) (fun c2 => ?_) (fun c2 => ?_)
  · have hf := ob_f c2 hf
    refine lv_aload_n hx hb dX11_bear_15 rfl (lv_at hl 0 rfl) ?_
    refine gf_X11_67 Cx hP 0 rfl rfl dX11_bear_16 ?_
    refine lv_istore_n (lv' := [(2, .int v_bearIs), (0, .ref a_t), (1, .int x1)]) hx hb dX11_bear_19 rfl hl (by decide) rfl (fun ls hl => ?_)
    refine lv_aload_n hx hb dX11_bear_20 rfl (lv_at hl 1 rfl) ?_
    refine lv_iload_n hx hb dX11_bear_21 rfl (lv_at hl 2 rfl) ?_
    refine lv_iload_n hx hb dX11_bear_22 rfl (lv_at hl 0 rfl) ?_
    refine ob_J (P := fun w3 => ∀ (H : Heap) (locs : List Loc) (ls : Array Slot), va_P D vwCl [(a_t, .inr (11, [.ref a_signs, .int v_signMany, .int v_seats, .ref a_links, .ref a_worths, .int v_bearIs, .ref a_far, .ref a_mays, .ref a_rowsTo, .ref a_endIn, .long v_rowsAll, .ref a_ends, .ref a_pairSets, .ref a_awayIn, .ref a_now, .ref a_then, .long v_awayUpper, .long v_lower, .ref a_comers, .int v_comerMany, .ref a_seen, .ref a_seenMany, .int v_seenRows, .ref a_kept, .ref a_isKept, .int v_place, .int v_isWriting]))] H → va_S A s.heap H locs → lv_has ls 3 [(0, .ref a_t), (1, .int x1), (2, .int v_bearIs)] → W p l e { frames := 1, cells := 0, slots := 0, locals := 25 } s m args below meth c H locs 0 0 Q (F0 m 34 ls [.int w3, .ref a_t])) hf ?_ ?_
    · intro w3 hf H locs ls hP hS hl
      refine pf_X11_89 (X' := [(a_t, .inr (11, [.ref a_signs, .int v_signMany, .int v_seats, .ref a_links, .ref a_worths, .int v_bearIs, .ref a_far, .ref a_mays, .ref a_rowsTo, .ref a_endIn, .long v_rowsAll, .ref a_ends, .ref a_pairSets, .ref a_awayIn, .ref a_now, .ref a_then, .long v_awayUpper, .long v_lower, .ref a_comers, .int v_comerMany, .ref a_seen, .ref a_seenMany, .int w3, .ref a_kept, .ref a_isKept, .int v_place, .int v_isWriting]))]) Cx hP hS rfl 0 rfl rfl (Nat.le_of_ble_eq_true rfl) dX11_bear_34 (fun H locs hP hS => ?_)
      refine lv_aload_n hx hb dX11_bear_37 rfl (lv_at hl 0 rfl) ?_
      refine lv_iload_n hx hb dX11_bear_38 rfl (lv_at hl 1 rfl) ?_
      refine pf_X11_67 (X' := [(a_t, .inr (11, [.ref a_signs, .int v_signMany, .int v_seats, .ref a_links, .ref a_worths, .int x1, .ref a_far, .ref a_mays, .ref a_rowsTo, .ref a_endIn, .long v_rowsAll, .ref a_ends, .ref a_pairSets, .ref a_awayIn, .ref a_now, .ref a_then, .long v_awayUpper, .long v_lower, .ref a_comers, .int v_comerMany, .ref a_seen, .ref a_seenMany, .int w3, .ref a_kept, .ref a_isKept, .int v_place, .int v_isWriting]))]) Cx hP hS rfl 0 rfl rfl (Nat.le_of_ble_eq_true rfl) dX11_bear_39 (fun H locs hP hS => ?_)
      refine lv_iload_n hx hb dX11_bear_42 rfl (lv_at hl 2 rfl) ?_
      obtain rfl := Option.some.inj hf
      exact ret _ _ _ _ dX11_bear_43 hP hS
    · intro J34_4 hf
      refine lv_icmp_ne (tgt := 33) hx hb dX11_bear_23 (by decide) (fun c5 => ?_) (fun c5 => ?_)
      · have hf := ob_fk c5 hf
        refine lv_iconst (v := 0) hx hb dX11_bear_33 (by decide) ?_
        exact J34_4 (0 : Int32) hf _ _ _ hP hS (lv_sub hl [1, 2, 0] rfl)
      · have hf := ob_tk c5 hf
        refine lv_aload_n hx hb dX11_bear_26 rfl (lv_at hl 1 rfl) ?_
        refine gf_X11_89 Cx hP 0 rfl rfl dX11_bear_27 ?_
        refine lv_goto (tgt := 34) hx hb dX11_bear_30 (by decide) ?_
        exact J34_4 v_seenRows hf _ _ _ hP hS (lv_sub hl [1, 2, 0] rfl)
  · have hf := ob_t c2 hf
    refine lv_bipush (v := (-2)) hx hb dX11_bear_12 (by decide) ?_
    obtain rfl := Option.some.inj hf
    exact ret _ _ _ _ dX11_bear_14 hP hS

def f_X11_far (v_seats : Int32) (v_far : Nat → Int32) (x1 : Int32) (x2 : Int32) : Option (Int32) :=
  (f_X11_isSeat v_seats x1).bind (fun u1 =>
  (if u1 = 0 then
  some (-1 : Int32)
  else
  (f_X11_isSeat v_seats x2).bind (fun u5 =>
  if u5 = 0 then
  some (-1 : Int32)
  else
  (f_X11_at x1 x2).bind (fun u7 =>
  (aget 144 v_far u7).bind (fun u8 =>
  some (u8))))).bind (fun w2 =>
  some (w2)))
set_option maxHeartbeats 4000000 in
set_option maxRecDepth 100000 in
theorem c_X11_far (l : Launch) (D : va_G) (cI cJ cZ cO : ClassId) (a_t a_signs a_links a_worths a_far a_mays a_rowsTo a_endIn a_ends a_pairSets a_awayIn a_now a_then a_comers a_seen a_seenMany a_kept a_isKept : Nat) (v_signMany : Int32) (v_seats : Int32) (v_bearIs : Int32) (v_rowsAll : Int64) (v_awayUpper : Int64) (v_lower : Int64) (v_comerMany : Int32) (v_seenRows : Int32) (v_place : Int32) (v_isWriting : Int32) (v_far : Nat → Int32) (x1 : Int32) (x2 : Int32) (out : Int32) (hf : f_X11_far v_seats v_far x1 x2 = some out) : MetR l yX11_far (Cond.code yX11_far cX11_far 3 (some .int) :: tbG) { frames := 2, cells := 0, slots := 0, locals := 46 } D (tyL cI cJ cZ cO) [.ref a_t, .int x1, .int x2] [(a_t, .inr (11, [.ref a_signs, .int v_signMany, .int v_seats, .ref a_links, .ref a_worths, .int v_bearIs, .ref a_far, .ref a_mays, .ref a_rowsTo, .ref a_endIn, .long v_rowsAll, .ref a_ends, .ref a_pairSets, .ref a_awayIn, .ref a_now, .ref a_then, .long v_awayUpper, .long v_lower, .ref a_comers, .int v_comerMany, .ref a_seen, .ref a_seenMany, .int v_seenRows, .ref a_kept, .ref a_isKept, .int v_place, .int v_isWriting])), (a_far, eI cI 144 v_far)] (some (.int out)) [(a_t, .inr (11, [.ref a_signs, .int v_signMany, .int v_seats, .ref a_links, .ref a_worths, .int v_bearIs, .ref a_far, .ref a_mays, .ref a_rowsTo, .ref a_endIn, .long v_rowsAll, .ref a_ends, .ref a_pairSets, .ref a_awayIn, .ref a_now, .ref a_then, .long v_awayUpper, .long v_lower, .ref a_comers, .int v_comerMany, .ref a_seen, .ref a_seenMany, .int v_seenRows, .ref a_kept, .ref a_isKept, .int v_place, .int v_isWriting])), (a_far, eI cI 144 v_far)] := by
  refine ba_ofI RX11 [(0, .ref a_t), (1, .int x1), (2, .int x2)] (by decide +kernel) rfl (Nat.le_of_ble_eq_true rfl) rfl ?_
  intro p e s m args below meth c Q A Cx hP ret ls hl
  obtain ⟨⟨hx, hb, hml, hown, hts⟩, hK, hD, hA⟩ := id Cx
  have hS : va_S A s.heap s.heap [] := va_S.rf
  unfold f_X11_far at hf
  refine lv_aload_n hx hb dX11_far_0 rfl (lv_at hl 0 rfl) ?_
  refine lv_iload_n hx hb dX11_far_1 rfl (lv_at hl 1 rfl) ?_
  obtain ⟨u1, hu1, hf⟩ := ob_b hf
  refine iv_X11_100 (As := [.int x1]) (rest := []) (is := [0]) (q0 := 0) (X' := [(a_t, .inr (11, [.ref a_signs, .int v_signMany, .int v_seats, .ref a_links, .ref a_worths, .int v_bearIs, .ref a_far, .ref a_mays, .ref a_rowsTo, .ref a_endIn, .long v_rowsAll, .ref a_ends, .ref a_pairSets, .ref a_awayIn, .ref a_now, .ref a_then, .long v_awayUpper, .long v_lower, .ref a_comers, .int v_comerMany, .ref a_seen, .ref a_seenMany, .int v_seenRows, .ref a_kept, .ref a_isKept, .int v_place, .int v_isWriting])), (a_far, eI cI 144 v_far)]) Cx (c_X11_isSeat l D cI cJ cZ cO a_t a_signs a_links a_worths a_far a_mays a_rowsTo a_endIn a_ends a_pairSets a_awayIn a_now a_then a_comers a_seen a_seenMany a_kept a_isKept v_signMany v_seats v_bearIs v_rowsAll v_awayUpper v_lower v_comerMany v_seenRows v_place v_isWriting x1 u1 hu1) hP hS rfl rfl rfl rfl rfl rfl rfl hl.1 (Nat.le_of_ble_eq_true rfl) dX11_far_2 rfl rfl ⟨Nat.le_of_ble_eq_true rfl, Nat.le_of_ble_eq_true rfl⟩ ⟨Nat.zero_le _, Nat.zero_le _⟩ rfl (fun H locs hP hS => ?_)
  refine ob_J (P := fun w2 => ∀ (H : Heap) (locs : List Loc) (ls : Array Slot), va_P D vwCl [(a_t, .inr (11, [.ref a_signs, .int v_signMany, .int v_seats, .ref a_links, .ref a_worths, .int v_bearIs, .ref a_far, .ref a_mays, .ref a_rowsTo, .ref a_endIn, .long v_rowsAll, .ref a_ends, .ref a_pairSets, .ref a_awayIn, .ref a_now, .ref a_then, .long v_awayUpper, .long v_lower, .ref a_comers, .int v_comerMany, .ref a_seen, .ref a_seenMany, .int v_seenRows, .ref a_kept, .ref a_isKept, .int v_place, .int v_isWriting])), (a_far, eI cI 144 v_far)] H → va_S A s.heap H locs → lv_has ls 3 [] → W p l e { frames := 2, cells := 0, slots := 0, locals := 46 } s m args below meth c H locs 0 0 Q (F0 m 30 ls [.int w2])) hf ?_ ?_
  · intro w2 hf H locs ls hP hS hl
    obtain rfl := Option.some.inj hf
    exact ret _ _ _ _ dX11_far_30 hP hS
  · intro J30_3 hf
    refine lv_if_eq (tgt := 29) hx hb dX11_far_5 (by decide) (fun c4 => ?_) (fun c4 => ?_)
    · have hf := ob_tk c4 hf
      refine lv_iconst (v := (-1)) hx hb dX11_far_29 (by decide) ?_
      exact J30_3 (-1 : Int32) hf _ _ _ hP hS (lv_sub hl [] rfl)
    · have hf := ob_fk c4 hf
      refine lv_aload_n hx hb dX11_far_8 rfl (lv_at hl 0 rfl) ?_
      refine lv_iload_n hx hb dX11_far_9 rfl (lv_at hl 2 rfl) ?_
      obtain ⟨u5, hu5, hf⟩ := ob_bk hf
      refine iv_X11_100 (As := [.int x2]) (rest := []) (is := [0]) (q0 := 0) (X' := [(a_t, .inr (11, [.ref a_signs, .int v_signMany, .int v_seats, .ref a_links, .ref a_worths, .int v_bearIs, .ref a_far, .ref a_mays, .ref a_rowsTo, .ref a_endIn, .long v_rowsAll, .ref a_ends, .ref a_pairSets, .ref a_awayIn, .ref a_now, .ref a_then, .long v_awayUpper, .long v_lower, .ref a_comers, .int v_comerMany, .ref a_seen, .ref a_seenMany, .int v_seenRows, .ref a_kept, .ref a_isKept, .int v_place, .int v_isWriting])), (a_far, eI cI 144 v_far)]) Cx (c_X11_isSeat l D cI cJ cZ cO a_t a_signs a_links a_worths a_far a_mays a_rowsTo a_endIn a_ends a_pairSets a_awayIn a_now a_then a_comers a_seen a_seenMany a_kept a_isKept v_signMany v_seats v_bearIs v_rowsAll v_awayUpper v_lower v_comerMany v_seenRows v_place v_isWriting x2 u5 hu5) hP hS rfl rfl rfl rfl rfl rfl rfl hl.1 (Nat.le_of_ble_eq_true rfl) dX11_far_10 rfl rfl ⟨Nat.le_of_ble_eq_true rfl, Nat.le_of_ble_eq_true rfl⟩ ⟨Nat.zero_le _, Nat.zero_le _⟩ rfl (fun H locs hP hS => ?_)
      refine lv_if_eq (tgt := 29) hx hb dX11_far_13 (by decide) (fun c6 => ?_) (fun c6 => ?_)
      · have hf := ob_tk c6 hf
        refine lv_iconst (v := (-1)) hx hb dX11_far_29 (by decide) ?_
        exact J30_3 (-1 : Int32) hf _ _ _ hP hS (lv_sub hl [] rfl)
      · have hf := ob_fk c6 hf
        refine lv_aload_n hx hb dX11_far_16 rfl (lv_at hl 0 rfl) ?_
        refine gf_X11_19 Cx hP 0 rfl rfl dX11_far_17 ?_
        refine lv_iload_n hx hb dX11_far_20 rfl (lv_at hl 1 rfl) ?_
        refine lv_iload_n hx hb dX11_far_21 rfl (lv_at hl 2 rfl) ?_
        obtain ⟨u7, hu7, hf⟩ := ob_bk hf
        refine iv_X11_92 (As := [.int x1, .int x2]) (rest := [.ref a_far]) (is := []) (X' := [(a_t, .inr (11, [.ref a_signs, .int v_signMany, .int v_seats, .ref a_links, .ref a_worths, .int v_bearIs, .ref a_far, .ref a_mays, .ref a_rowsTo, .ref a_endIn, .long v_rowsAll, .ref a_ends, .ref a_pairSets, .ref a_awayIn, .ref a_now, .ref a_then, .long v_awayUpper, .long v_lower, .ref a_comers, .int v_comerMany, .ref a_seen, .ref a_seenMany, .int v_seenRows, .ref a_kept, .ref a_isKept, .int v_place, .int v_isWriting])), (a_far, eI cI 144 v_far)]) Cx (c_X11_at l D cI cJ cZ cO  x1 x2 u7 hu7) hP hS rfl rfl rfl rfl rfl rfl hl.1 (Nat.le_of_ble_eq_true rfl) dX11_far_22 rfl rfl ⟨Nat.le_of_ble_eq_true rfl, Nat.le_of_ble_eq_true rfl⟩ ⟨Nat.zero_le _, Nat.zero_le _⟩ rfl (fun H locs hP hS => ?_)
        obtain ⟨u8, hu8, hf⟩ := ob_bk hf
        refine ba_iald Cx hP 1 rfl hu8 dX11_far_25 ?_
        refine lv_goto (tgt := 30) hx hb dX11_far_26 (by decide) ?_
        exact J30_3 u8 hf _ _ _ hP hS (lv_sub hl [] rfl)

def f_X11_isSet (v_seats : Int32) (x1 : Int32) : Option (Int32) :=
  (f_X11_in ((x1).toInt64) (0 : Int64) (((((1 : Int32) <<< (v_seats &&& 31)) - (1 : Int32))).toInt64)).bind (fun u1 =>
  (oz u1).bind (fun u2 =>
  some (u2)))
set_option maxHeartbeats 4000000 in
set_option maxRecDepth 100000 in
theorem c_X11_isSet (l : Launch) (D : va_G) (cI cJ cZ cO : ClassId) (a_t a_signs a_links a_worths a_far a_mays a_rowsTo a_endIn a_ends a_pairSets a_awayIn a_now a_then a_comers a_seen a_seenMany a_kept a_isKept : Nat) (v_signMany : Int32) (v_seats : Int32) (v_bearIs : Int32) (v_rowsAll : Int64) (v_awayUpper : Int64) (v_lower : Int64) (v_comerMany : Int32) (v_seenRows : Int32) (v_place : Int32) (v_isWriting : Int32) (x1 : Int32) (out : Int32) (hf : f_X11_isSet v_seats x1 = some out) : MetR l yX11_isSet (Cond.code yX11_isSet cX11_isSet 2 (some .boolean) :: tbG) { frames := 1, cells := 0, slots := 0, locals := 25 } D (tyL cI cJ cZ cO) [.ref a_t, .int x1] [(a_t, .inr (11, [.ref a_signs, .int v_signMany, .int v_seats, .ref a_links, .ref a_worths, .int v_bearIs, .ref a_far, .ref a_mays, .ref a_rowsTo, .ref a_endIn, .long v_rowsAll, .ref a_ends, .ref a_pairSets, .ref a_awayIn, .ref a_now, .ref a_then, .long v_awayUpper, .long v_lower, .ref a_comers, .int v_comerMany, .ref a_seen, .ref a_seenMany, .int v_seenRows, .ref a_kept, .ref a_isKept, .int v_place, .int v_isWriting]))] (some (.int out)) [(a_t, .inr (11, [.ref a_signs, .int v_signMany, .int v_seats, .ref a_links, .ref a_worths, .int v_bearIs, .ref a_far, .ref a_mays, .ref a_rowsTo, .ref a_endIn, .long v_rowsAll, .ref a_ends, .ref a_pairSets, .ref a_awayIn, .ref a_now, .ref a_then, .long v_awayUpper, .long v_lower, .ref a_comers, .int v_comerMany, .ref a_seen, .ref a_seenMany, .int v_seenRows, .ref a_kept, .ref a_isKept, .int v_place, .int v_isWriting]))] := by
  refine ba_ofZ RX11 [(0, .ref a_t), (1, .int x1)] (by decide +kernel) rfl (Nat.le_of_ble_eq_true rfl) rfl ?_
  intro p e s m args below meth c Q A Cx hP ret ls hl
  obtain ⟨⟨hx, hb, hml, hown, hts⟩, hK, hD, hA⟩ := id Cx
  have hS : va_S A s.heap s.heap [] := va_S.rf
  unfold f_X11_isSet at hf
  refine lv_iload_n hx hb dX11_isSet_0 rfl (lv_at hl 1 rfl) ?_
  refine lv_i2l (v := (x1).toInt64) hx hb dX11_isSet_1 rfl ?_
  refine lv_lconst (v := 0) hx hb dX11_isSet_2 (by decide) ?_
  refine lv_iconst (v := 1) hx hb dX11_isSet_3 (by decide) ?_
  refine lv_aload_n hx hb dX11_isSet_4 rfl (lv_at hl 0 rfl) ?_
  refine gf_X11_63 Cx hP 0 rfl rfl dX11_isSet_5 ?_
  refine lv_ishl hx hb dX11_isSet_8 ?_
  refine lv_iconst (v := 1) hx hb dX11_isSet_9 (by decide) ?_
  refine lv_isub hx hb dX11_isSet_10 ?_
  refine lv_i2l (v := ((((1 : Int32) <<< (v_seats &&& 31)) - (1 : Int32))).toInt64) hx hb dX11_isSet_11 rfl ?_
  obtain ⟨u1, hu1, hf⟩ := ob_b hf
  refine iv_X11_74 (As := [.long ((x1).toInt64), .long (0 : Int64), .long (((((1 : Int32) <<< (v_seats &&& 31)) - (1 : Int32))).toInt64)]) (rest := []) (is := []) (X' := [(a_t, .inr (11, [.ref a_signs, .int v_signMany, .int v_seats, .ref a_links, .ref a_worths, .int v_bearIs, .ref a_far, .ref a_mays, .ref a_rowsTo, .ref a_endIn, .long v_rowsAll, .ref a_ends, .ref a_pairSets, .ref a_awayIn, .ref a_now, .ref a_then, .long v_awayUpper, .long v_lower, .ref a_comers, .int v_comerMany, .ref a_seen, .ref a_seenMany, .int v_seenRows, .ref a_kept, .ref a_isKept, .int v_place, .int v_isWriting]))]) Cx (c_X11_in l D cI cJ cZ cO  ((x1).toInt64) (0 : Int64) (((((1 : Int32) <<< (v_seats &&& 31)) - (1 : Int32))).toInt64) u1 hu1) hP hS rfl rfl rfl rfl rfl rfl hl.1 (Nat.le_of_ble_eq_true rfl) dX11_isSet_12 rfl rfl ⟨Nat.le_of_ble_eq_true rfl, Nat.le_of_ble_eq_true rfl⟩ ⟨Nat.zero_le _, Nat.zero_le _⟩ rfl (fun H locs hP hS => ?_)
  obtain ⟨u2, hu2, hf⟩ := ob_b hf
  obtain ⟨hz1, hz2⟩ := oz_ok hu2
  obtain rfl := Option.some.inj hf
  exact ret _ _ _ _ _ hz1 hz2 dX11_isSet_15 hP hS

def f_X11_awayOf_6 (v_seats : Int32) (v_far : Nat → Int32) (x1 : Int32) (x2 : Int32) : Nat → Int32 → Int32 → Option (Int32)
  | 0, _, _ => none
  | n + 1, y3_6, y4_6 =>
  if v_seats ≤ y4_6 then
  some (y3_6)
  else
  (if ((x2 >>> (y4_6 &&& 31)) &&& (1 : Int32)) = (1 : Int32) then
  (f_X11_at x1 y4_6).bind (fun u6 =>
  (aget 144 v_far u6).bind (fun u7 =>
  if y3_6 ≤ u7 then
  some (y3_6)
  else
  (f_X11_at x1 y4_6).bind (fun u9 =>
  (aget 144 v_far u9).bind (fun u10 =>
  some (u10)))))
  else
  some (y3_6)).bind (fun w3 =>
  f_X11_awayOf_6 v_seats v_far x1 x2 n w3 (y4_6 + 1))
theorem f_X11_awayOf_6_s (v_seats : Int32) (v_far : Nat → Int32) (x1 : Int32) (x2 : Int32) (n : Nat) (y3_6 : Int32) (y4_6 : Int32) : f_X11_awayOf_6 v_seats v_far x1 x2 (n + 1) y3_6 y4_6 =
  (if v_seats ≤ y4_6 then
  some (y3_6)
  else
  (if ((x2 >>> (y4_6 &&& 31)) &&& (1 : Int32)) = (1 : Int32) then
  (f_X11_at x1 y4_6).bind (fun u6 =>
  (aget 144 v_far u6).bind (fun u7 =>
  if y3_6 ≤ u7 then
  some (y3_6)
  else
  (f_X11_at x1 y4_6).bind (fun u9 =>
  (aget 144 v_far u9).bind (fun u10 =>
  some (u10)))))
  else
  some (y3_6)).bind (fun w3 =>
  f_X11_awayOf_6 v_seats v_far x1 x2 n w3 (y4_6 + 1))) := rfl
def f_X11_awayOf (v_seats : Int32) (v_far : Nat → Int32) (x1 : Int32) (x2 : Int32) : Option (Int32) :=
  (f_X11_awayOf_6 v_seats v_far x1 x2 FU (99 : Int32) (0 : Int32)).bind (fun u11 =>
  some (u11))
set_option maxHeartbeats 4000000 in
set_option maxRecDepth 100000 in
theorem c_X11_awayOf (l : Launch) (D : va_G) (cI cJ cZ cO : ClassId) (a_t a_signs a_links a_worths a_far a_mays a_rowsTo a_endIn a_ends a_pairSets a_awayIn a_now a_then a_comers a_seen a_seenMany a_kept a_isKept : Nat) (v_signMany : Int32) (v_seats : Int32) (v_bearIs : Int32) (v_rowsAll : Int64) (v_awayUpper : Int64) (v_lower : Int64) (v_comerMany : Int32) (v_seenRows : Int32) (v_place : Int32) (v_isWriting : Int32) (v_far : Nat → Int32) (x1 : Int32) (x2 : Int32) (out : Int32) (hf : f_X11_awayOf v_seats v_far x1 x2 = some out) : MetR l yX11_awayOf (Cond.code yX11_awayOf cX11_awayOf 5 (some .int) :: tbG) { frames := 1, cells := 0, slots := 0, locals := 21 } D (tyL cI cJ cZ cO) [.ref a_t, .int x1, .int x2] [(a_t, .inr (11, [.ref a_signs, .int v_signMany, .int v_seats, .ref a_links, .ref a_worths, .int v_bearIs, .ref a_far, .ref a_mays, .ref a_rowsTo, .ref a_endIn, .long v_rowsAll, .ref a_ends, .ref a_pairSets, .ref a_awayIn, .ref a_now, .ref a_then, .long v_awayUpper, .long v_lower, .ref a_comers, .int v_comerMany, .ref a_seen, .ref a_seenMany, .int v_seenRows, .ref a_kept, .ref a_isKept, .int v_place, .int v_isWriting])), (a_far, eI cI 144 v_far)] (some (.int out)) [(a_t, .inr (11, [.ref a_signs, .int v_signMany, .int v_seats, .ref a_links, .ref a_worths, .int v_bearIs, .ref a_far, .ref a_mays, .ref a_rowsTo, .ref a_endIn, .long v_rowsAll, .ref a_ends, .ref a_pairSets, .ref a_awayIn, .ref a_now, .ref a_then, .long v_awayUpper, .long v_lower, .ref a_comers, .int v_comerMany, .ref a_seen, .ref a_seenMany, .int v_seenRows, .ref a_kept, .ref a_isKept, .int v_place, .int v_isWriting])), (a_far, eI cI 144 v_far)] := by
  refine ba_ofI RX11 [(0, .ref a_t), (1, .int x1), (2, .int x2)] (by decide +kernel) rfl (Nat.le_of_ble_eq_true rfl) rfl ?_
  intro p e s m args below meth c Q A Cx hP ret ls hl
  obtain ⟨⟨hx, hb, hml, hown, hts⟩, hK, hD, hA⟩ := id Cx
  have hS : va_S A s.heap s.heap [] := va_S.rf
  unfold f_X11_awayOf at hf
  refine lv_bipush (v := 99) hx hb dX11_awayOf_0 (by decide) ?_
  refine lv_istore_n (lv' := [(3, .int (99 : Int32)), (0, .ref a_t), (1, .int x1), (2, .int x2)]) hx hb dX11_awayOf_2 rfl hl (by decide) rfl (fun ls hl => ?_)
  refine lv_iconst (v := 0) hx hb dX11_awayOf_3 (by decide) ?_
  refine lv_istore (lv' := [(4, .int (0 : Int32)), (3, .int (99 : Int32)), (0, .ref a_t), (1, .int x1), (2, .int x2)]) hx hb dX11_awayOf_4 hl (by decide) rfl (fun ls hl => ?_)
  have L6_1 : ∀ (n : Nat) (y3_6 : Int32) (y4_6 : Int32) (o : Int32) (H : Heap) (locs : List Loc) (ls : Array Slot), f_X11_awayOf_6 v_seats v_far x1 x2 n y3_6 y4_6 = some o → va_P D vwCl [(a_t, .inr (11, [.ref a_signs, .int v_signMany, .int v_seats, .ref a_links, .ref a_worths, .int v_bearIs, .ref a_far, .ref a_mays, .ref a_rowsTo, .ref a_endIn, .long v_rowsAll, .ref a_ends, .ref a_pairSets, .ref a_awayIn, .ref a_now, .ref a_then, .long v_awayUpper, .long v_lower, .ref a_comers, .int v_comerMany, .ref a_seen, .ref a_seenMany, .int v_seenRows, .ref a_kept, .ref a_isKept, .int v_place, .int v_isWriting])), (a_far, eI cI 144 v_far)] H → va_S A s.heap H locs → lv_has ls 5 [(0, .ref a_t), (1, .int x1), (2, .int x2), (3, .int y3_6), (4, .int y4_6)] → (∀ (H : Heap) (locs : List Loc) (ls : Array Slot), va_P D vwCl [(a_t, .inr (11, [.ref a_signs, .int v_signMany, .int v_seats, .ref a_links, .ref a_worths, .int v_bearIs, .ref a_far, .ref a_mays, .ref a_rowsTo, .ref a_endIn, .long v_rowsAll, .ref a_ends, .ref a_pairSets, .ref a_awayIn, .ref a_now, .ref a_then, .long v_awayUpper, .long v_lower, .ref a_comers, .int v_comerMany, .ref a_seen, .ref a_seenMany, .int v_seenRows, .ref a_kept, .ref a_isKept, .int v_place, .int v_isWriting])), (a_far, eI cI 144 v_far)] H → va_S A s.heap H locs → lv_has ls 5 [(3, .int o)] → W p l e { frames := 1, cells := 0, slots := 0, locals := 21 } s m args below meth c H locs 0 0 Q (F0 m 62 ls [])) → W p l e { frames := 1, cells := 0, slots := 0, locals := 21 } s m args below meth c H locs 0 0 Q (F0 m 6 ls []) := by
    intro n
    induction n with
    | zero => intro y3_6 y4_6 o H locs ls hf; exact (ob_n hf).elim
    | succ n ih =>
      intro y3_6 y4_6 o H locs ls hf hP hS hl kk
      rw [f_X11_awayOf_6_s] at hf
      refine lv_iload hx hb dX11_awayOf_6 (lv_at hl 4 rfl) ?_
      refine lv_aload_n hx hb dX11_awayOf_8 rfl (lv_at hl 0 rfl) ?_
      refine gf_X11_63 Cx hP 0 rfl rfl dX11_awayOf_9 ?_
      refine lv_icmp_ge (tgt := 62) hx hb dX11_awayOf_12 (by decide) (fun c2 => ?_) (fun c2 => ?_)
      · have hf := ob_t c2 hf
        obtain rfl := Option.some.inj hf
        exact kk _ _ _ hP hS (lv_sub hl [3] rfl)
      · have hf := ob_f c2 hf
        refine lv_iload_n hx hb dX11_awayOf_15 rfl (lv_at hl 2 rfl) ?_
        refine lv_iload hx hb dX11_awayOf_16 (lv_at hl 4 rfl) ?_
        refine lv_ishr hx hb dX11_awayOf_18 ?_
        refine lv_iconst (v := 1) hx hb dX11_awayOf_19 (by decide) ?_
        refine lv_iand hx hb dX11_awayOf_20 ?_
        refine lv_iconst (v := 1) hx hb dX11_awayOf_21 (by decide) ?_
        refine ob_J (P := fun w3 => ∀ (H : Heap) (locs : List Loc) (ls : Array Slot), va_P D vwCl [(a_t, .inr (11, [.ref a_signs, .int v_signMany, .int v_seats, .ref a_links, .ref a_worths, .int v_bearIs, .ref a_far, .ref a_mays, .ref a_rowsTo, .ref a_endIn, .long v_rowsAll, .ref a_ends, .ref a_pairSets, .ref a_awayIn, .ref a_now, .ref a_then, .long v_awayUpper, .long v_lower, .ref a_comers, .int v_comerMany, .ref a_seen, .ref a_seenMany, .int v_seenRows, .ref a_kept, .ref a_isKept, .int v_place, .int v_isWriting])), (a_far, eI cI 144 v_far)] H → va_S A s.heap H locs → lv_has ls 5 [(0, .ref a_t), (1, .int x1), (2, .int x2), (4, .int y4_6)] → W p l e { frames := 1, cells := 0, slots := 0, locals := 21 } s m args below meth c H locs 0 0 Q (F0 m 55 ls [.int w3])) hf ?_ ?_
        · intro w3 hf H locs ls hP hS hl
          refine lv_istore_n (lv' := [(3, .int w3), (0, .ref a_t), (1, .int x1), (2, .int x2), (4, .int y4_6)]) hx hb dX11_awayOf_55 rfl hl (by decide) rfl (fun ls hl => ?_)
          refine lv_iinc (v := (y4_6 + 1)) (lv' := [(4, .int (y4_6 + 1)), (3, .int w3), (0, .ref a_t), (1, .int x1), (2, .int x2)]) hx hb dX11_awayOf_56 hl (k := 4) rfl rfl (by decide) rfl (fun ls hl => ?_)
          refine lv_goto (tgt := 6) hx hb dX11_awayOf_59 (by decide) ?_
          exact ih w3 (y4_6 + 1) _ _ _ _ hf hP hS (lv_sub hl [2, 3, 4, 1, 0] rfl) kk
        · intro J55_4 hf
          refine lv_icmp_ne (tgt := 54) hx hb dX11_awayOf_22 (by decide) (fun c5 => ?_) (fun c5 => ?_)
          · have hf := ob_fk c5 hf
            refine lv_iload_n hx hb dX11_awayOf_54 rfl (lv_at hl 3 rfl) ?_
            exact J55_4 y3_6 hf _ _ _ hP hS (lv_sub hl [0, 1, 2, 4] rfl)
          · have hf := ob_tk c5 hf
            refine lv_aload_n hx hb dX11_awayOf_25 rfl (lv_at hl 0 rfl) ?_
            refine gf_X11_19 Cx hP 0 rfl rfl dX11_awayOf_26 ?_
            refine lv_iload_n hx hb dX11_awayOf_29 rfl (lv_at hl 1 rfl) ?_
            refine lv_iload hx hb dX11_awayOf_30 (lv_at hl 4 rfl) ?_
            obtain ⟨u6, hu6, hf⟩ := ob_bk hf
            refine iv_X11_92 (As := [.int x1, .int y4_6]) (rest := [.ref a_far]) (is := []) (X' := [(a_t, .inr (11, [.ref a_signs, .int v_signMany, .int v_seats, .ref a_links, .ref a_worths, .int v_bearIs, .ref a_far, .ref a_mays, .ref a_rowsTo, .ref a_endIn, .long v_rowsAll, .ref a_ends, .ref a_pairSets, .ref a_awayIn, .ref a_now, .ref a_then, .long v_awayUpper, .long v_lower, .ref a_comers, .int v_comerMany, .ref a_seen, .ref a_seenMany, .int v_seenRows, .ref a_kept, .ref a_isKept, .int v_place, .int v_isWriting])), (a_far, eI cI 144 v_far)]) Cx (c_X11_at l D cI cJ cZ cO  x1 y4_6 u6 hu6) hP hS rfl rfl rfl rfl rfl rfl hl.1 (Nat.le_of_ble_eq_true rfl) dX11_awayOf_32 rfl rfl ⟨Nat.le_of_ble_eq_true rfl, Nat.le_of_ble_eq_true rfl⟩ ⟨Nat.zero_le _, Nat.zero_le _⟩ rfl (fun H locs hP hS => ?_)
            obtain ⟨u7, hu7, hf⟩ := ob_bk hf
            refine ba_iald Cx hP 1 rfl hu7 dX11_awayOf_35 ?_
            refine lv_iload_n hx hb dX11_awayOf_36 rfl (lv_at hl 3 rfl) ?_
            refine lv_icmp_ge (tgt := 54) hx hb dX11_awayOf_37 (by decide) (fun c8 => ?_) (fun c8 => ?_)
            · have hf := ob_tk c8 hf
              refine lv_iload_n hx hb dX11_awayOf_54 rfl (lv_at hl 3 rfl) ?_
              exact J55_4 y3_6 hf _ _ _ hP hS (lv_sub hl [0, 1, 2, 4] rfl)
            · have hf := ob_fk c8 hf
              refine lv_aload_n hx hb dX11_awayOf_40 rfl (lv_at hl 0 rfl) ?_
              refine gf_X11_19 Cx hP 0 rfl rfl dX11_awayOf_41 ?_
              refine lv_iload_n hx hb dX11_awayOf_44 rfl (lv_at hl 1 rfl) ?_
              refine lv_iload hx hb dX11_awayOf_45 (lv_at hl 4 rfl) ?_
              obtain ⟨u9, hu9, hf⟩ := ob_bk hf
              refine iv_X11_92 (As := [.int x1, .int y4_6]) (rest := [.ref a_far]) (is := []) (X' := [(a_t, .inr (11, [.ref a_signs, .int v_signMany, .int v_seats, .ref a_links, .ref a_worths, .int v_bearIs, .ref a_far, .ref a_mays, .ref a_rowsTo, .ref a_endIn, .long v_rowsAll, .ref a_ends, .ref a_pairSets, .ref a_awayIn, .ref a_now, .ref a_then, .long v_awayUpper, .long v_lower, .ref a_comers, .int v_comerMany, .ref a_seen, .ref a_seenMany, .int v_seenRows, .ref a_kept, .ref a_isKept, .int v_place, .int v_isWriting])), (a_far, eI cI 144 v_far)]) Cx (c_X11_at l D cI cJ cZ cO  x1 y4_6 u9 hu9) hP hS rfl rfl rfl rfl rfl rfl hl.1 (Nat.le_of_ble_eq_true rfl) dX11_awayOf_47 rfl rfl ⟨Nat.le_of_ble_eq_true rfl, Nat.le_of_ble_eq_true rfl⟩ ⟨Nat.zero_le _, Nat.zero_le _⟩ rfl (fun H locs hP hS => ?_)
              obtain ⟨u10, hu10, hf⟩ := ob_bk hf
              refine ba_iald Cx hP 1 rfl hu10 dX11_awayOf_50 ?_
              refine lv_goto (tgt := 55) hx hb dX11_awayOf_51 (by decide) ?_
              exact J55_4 u10 hf _ _ _ hP hS (lv_sub hl [0, 1, 2, 4] rfl)
  obtain ⟨u11, hu11, hf⟩ := ob_b hf
  refine L6_1 FU (99 : Int32) (0 : Int32) u11 _ _ _ hu11 hP hS (lv_sub hl [2, 3, 4, 1, 0] rfl) ?_
  intro H locs ls hP hS hl
  refine lv_iload_n hx hb dX11_awayOf_62 rfl (lv_at hl 0 rfl) ?_
  obtain rfl := Option.some.inj hf
  exact ret _ _ _ _ dX11_awayOf_63 hP hS

def f_X11_mayOf_4 (v_seats : Int32) (v_bearIs : Int32) (v_far : Nat → Int32) (x1 : Int32) : Nat → Int32 → Int32 → Option (Int32)
  | 0, _, _ => none
  | n + 1, y2_4, y3_4 =>
  if v_seats ≤ y3_4 then
  some (y2_4)
  else
  (f_X11_awayOf v_seats v_far y3_4 x1).bind (fun u3 =>
  (if u3 < v_bearIs then
  some (0 : Int32)
  else
  some ((1 : Int32) <<< (y3_4 &&& 31))).bind (fun w4 =>
  f_X11_mayOf_4 v_seats v_bearIs v_far x1 n (y2_4 ||| w4) (y3_4 + 1)))
theorem f_X11_mayOf_4_s (v_seats : Int32) (v_bearIs : Int32) (v_far : Nat → Int32) (x1 : Int32) (n : Nat) (y2_4 : Int32) (y3_4 : Int32) : f_X11_mayOf_4 v_seats v_bearIs v_far x1 (n + 1) y2_4 y3_4 =
  (if v_seats ≤ y3_4 then
  some (y2_4)
  else
  (f_X11_awayOf v_seats v_far y3_4 x1).bind (fun u3 =>
  (if u3 < v_bearIs then
  some (0 : Int32)
  else
  some ((1 : Int32) <<< (y3_4 &&& 31))).bind (fun w4 =>
  f_X11_mayOf_4 v_seats v_bearIs v_far x1 n (y2_4 ||| w4) (y3_4 + 1)))) := rfl
def f_X11_mayOf (v_seats : Int32) (v_bearIs : Int32) (v_far : Nat → Int32) (x1 : Int32) : Option (Int32) :=
  (f_X11_mayOf_4 v_seats v_bearIs v_far x1 FU (0 : Int32) (0 : Int32)).bind (fun u7 =>
  some (u7))
set_option maxHeartbeats 4000000 in
set_option maxRecDepth 100000 in
theorem c_X11_mayOf (l : Launch) (D : va_G) (cI cJ cZ cO : ClassId) (a_t a_signs a_links a_worths a_far a_mays a_rowsTo a_endIn a_ends a_pairSets a_awayIn a_now a_then a_comers a_seen a_seenMany a_kept a_isKept : Nat) (v_signMany : Int32) (v_seats : Int32) (v_bearIs : Int32) (v_rowsAll : Int64) (v_awayUpper : Int64) (v_lower : Int64) (v_comerMany : Int32) (v_seenRows : Int32) (v_place : Int32) (v_isWriting : Int32) (v_far : Nat → Int32) (x1 : Int32) (out : Int32) (hf : f_X11_mayOf v_seats v_bearIs v_far x1 = some out) : MetR l yX11_mayOf (Cond.code yX11_mayOf cX11_mayOf 4 (some .int) :: tbG) { frames := 2, cells := 0, slots := 0, locals := 45 } D (tyL cI cJ cZ cO) [.ref a_t, .int x1] [(a_t, .inr (11, [.ref a_signs, .int v_signMany, .int v_seats, .ref a_links, .ref a_worths, .int v_bearIs, .ref a_far, .ref a_mays, .ref a_rowsTo, .ref a_endIn, .long v_rowsAll, .ref a_ends, .ref a_pairSets, .ref a_awayIn, .ref a_now, .ref a_then, .long v_awayUpper, .long v_lower, .ref a_comers, .int v_comerMany, .ref a_seen, .ref a_seenMany, .int v_seenRows, .ref a_kept, .ref a_isKept, .int v_place, .int v_isWriting])), (a_far, eI cI 144 v_far)] (some (.int out)) [(a_t, .inr (11, [.ref a_signs, .int v_signMany, .int v_seats, .ref a_links, .ref a_worths, .int v_bearIs, .ref a_far, .ref a_mays, .ref a_rowsTo, .ref a_endIn, .long v_rowsAll, .ref a_ends, .ref a_pairSets, .ref a_awayIn, .ref a_now, .ref a_then, .long v_awayUpper, .long v_lower, .ref a_comers, .int v_comerMany, .ref a_seen, .ref a_seenMany, .int v_seenRows, .ref a_kept, .ref a_isKept, .int v_place, .int v_isWriting])), (a_far, eI cI 144 v_far)] := by
  refine ba_ofI RX11 [(0, .ref a_t), (1, .int x1)] (by decide +kernel) rfl (Nat.le_of_ble_eq_true rfl) rfl ?_
  intro p e s m args below meth c Q A Cx hP ret ls hl
  obtain ⟨⟨hx, hb, hml, hown, hts⟩, hK, hD, hA⟩ := id Cx
  have hS : va_S A s.heap s.heap [] := va_S.rf
  unfold f_X11_mayOf at hf
  refine lv_iconst (v := 0) hx hb dX11_mayOf_0 (by decide) ?_
  refine lv_istore_n (lv' := [(2, .int (0 : Int32)), (0, .ref a_t), (1, .int x1)]) hx hb dX11_mayOf_1 rfl hl (by decide) rfl (fun ls hl => ?_)
  refine lv_iconst (v := 0) hx hb dX11_mayOf_2 (by decide) ?_
  refine lv_istore_n (lv' := [(3, .int (0 : Int32)), (2, .int (0 : Int32)), (0, .ref a_t), (1, .int x1)]) hx hb dX11_mayOf_3 rfl hl (by decide) rfl (fun ls hl => ?_)
  have L4_1 : ∀ (n : Nat) (y2_4 : Int32) (y3_4 : Int32) (o : Int32) (H : Heap) (locs : List Loc) (ls : Array Slot), f_X11_mayOf_4 v_seats v_bearIs v_far x1 n y2_4 y3_4 = some o → va_P D vwCl [(a_t, .inr (11, [.ref a_signs, .int v_signMany, .int v_seats, .ref a_links, .ref a_worths, .int v_bearIs, .ref a_far, .ref a_mays, .ref a_rowsTo, .ref a_endIn, .long v_rowsAll, .ref a_ends, .ref a_pairSets, .ref a_awayIn, .ref a_now, .ref a_then, .long v_awayUpper, .long v_lower, .ref a_comers, .int v_comerMany, .ref a_seen, .ref a_seenMany, .int v_seenRows, .ref a_kept, .ref a_isKept, .int v_place, .int v_isWriting])), (a_far, eI cI 144 v_far)] H → va_S A s.heap H locs → lv_has ls 4 [(0, .ref a_t), (1, .int x1), (2, .int y2_4), (3, .int y3_4)] → (∀ (H : Heap) (locs : List Loc) (ls : Array Slot), va_P D vwCl [(a_t, .inr (11, [.ref a_signs, .int v_signMany, .int v_seats, .ref a_links, .ref a_worths, .int v_bearIs, .ref a_far, .ref a_mays, .ref a_rowsTo, .ref a_endIn, .long v_rowsAll, .ref a_ends, .ref a_pairSets, .ref a_awayIn, .ref a_now, .ref a_then, .long v_awayUpper, .long v_lower, .ref a_comers, .int v_comerMany, .ref a_seen, .ref a_seenMany, .int v_seenRows, .ref a_kept, .ref a_isKept, .int v_place, .int v_isWriting])), (a_far, eI cI 144 v_far)] H → va_S A s.heap H locs → lv_has ls 4 [(2, .int o)] → W p l e { frames := 2, cells := 0, slots := 0, locals := 45 } s m args below meth c H locs 0 0 Q (F0 m 41 ls [])) → W p l e { frames := 2, cells := 0, slots := 0, locals := 45 } s m args below meth c H locs 0 0 Q (F0 m 4 ls []) := by
    intro n
    induction n with
    | zero => intro y2_4 y3_4 o H locs ls hf; exact (ob_n hf).elim
    | succ n ih =>
      intro y2_4 y3_4 o H locs ls hf hP hS hl kk
      rw [f_X11_mayOf_4_s] at hf
      refine lv_iload_n hx hb dX11_mayOf_4 rfl (lv_at hl 3 rfl) ?_
      refine lv_aload_n hx hb dX11_mayOf_5 rfl (lv_at hl 0 rfl) ?_
      refine gf_X11_63 Cx hP 0 rfl rfl dX11_mayOf_6 ?_
      refine lv_icmp_ge (tgt := 41) hx hb dX11_mayOf_9 (by decide) (fun c2 => ?_) (fun c2 => ?_)
      · have hf := ob_t c2 hf
        obtain rfl := Option.some.inj hf
        exact kk _ _ _ hP hS (lv_sub hl [2] rfl)
      · have hf := ob_f c2 hf
        refine lv_iload_n hx hb dX11_mayOf_12 rfl (lv_at hl 2 rfl) ?_
        refine lv_aload_n hx hb dX11_mayOf_13 rfl (lv_at hl 0 rfl) ?_
        refine lv_iload_n hx hb dX11_mayOf_14 rfl (lv_at hl 3 rfl) ?_
        refine lv_iload_n hx hb dX11_mayOf_15 rfl (lv_at hl 1 rfl) ?_
        obtain ⟨u3, hu3, hf⟩ := ob_b hf
        refine iv_X11_108 (As := [.int y3_4, .int x1]) (rest := [.int y2_4]) (is := [0, 1]) (q0 := 0) (X' := [(a_t, .inr (11, [.ref a_signs, .int v_signMany, .int v_seats, .ref a_links, .ref a_worths, .int v_bearIs, .ref a_far, .ref a_mays, .ref a_rowsTo, .ref a_endIn, .long v_rowsAll, .ref a_ends, .ref a_pairSets, .ref a_awayIn, .ref a_now, .ref a_then, .long v_awayUpper, .long v_lower, .ref a_comers, .int v_comerMany, .ref a_seen, .ref a_seenMany, .int v_seenRows, .ref a_kept, .ref a_isKept, .int v_place, .int v_isWriting])), (a_far, eI cI 144 v_far)]) Cx (c_X11_awayOf l D cI cJ cZ cO a_t a_signs a_links a_worths a_far a_mays a_rowsTo a_endIn a_ends a_pairSets a_awayIn a_now a_then a_comers a_seen a_seenMany a_kept a_isKept v_signMany v_seats v_bearIs v_rowsAll v_awayUpper v_lower v_comerMany v_seenRows v_place v_isWriting v_far y3_4 x1 u3 hu3) hP hS rfl rfl rfl rfl rfl rfl rfl hl.1 (Nat.le_of_ble_eq_true rfl) dX11_mayOf_16 rfl rfl ⟨Nat.le_of_ble_eq_true rfl, Nat.le_of_ble_eq_true rfl⟩ ⟨Nat.zero_le _, Nat.zero_le _⟩ rfl (fun H locs hP hS => ?_)
        refine lv_aload_n hx hb dX11_mayOf_19 rfl (lv_at hl 0 rfl) ?_
        refine gf_X11_67 Cx hP 0 rfl rfl dX11_mayOf_20 ?_
        refine ob_J (P := fun w4 => ∀ (H : Heap) (locs : List Loc) (ls : Array Slot), va_P D vwCl [(a_t, .inr (11, [.ref a_signs, .int v_signMany, .int v_seats, .ref a_links, .ref a_worths, .int v_bearIs, .ref a_far, .ref a_mays, .ref a_rowsTo, .ref a_endIn, .long v_rowsAll, .ref a_ends, .ref a_pairSets, .ref a_awayIn, .ref a_now, .ref a_then, .long v_awayUpper, .long v_lower, .ref a_comers, .int v_comerMany, .ref a_seen, .ref a_seenMany, .int v_seenRows, .ref a_kept, .ref a_isKept, .int v_place, .int v_isWriting])), (a_far, eI cI 144 v_far)] H → va_S A s.heap H locs → lv_has ls 4 [(0, .ref a_t), (1, .int x1), (3, .int y3_4)] → W p l e { frames := 2, cells := 0, slots := 0, locals := 45 } s m args below meth c H locs 0 0 Q (F0 m 33 ls [.int w4, .int y2_4])) hf ?_ ?_
        · intro w4 hf H locs ls hP hS hl
          refine lv_ior hx hb dX11_mayOf_33 ?_
          refine lv_istore_n (lv' := [(2, .int (y2_4 ||| w4)), (0, .ref a_t), (1, .int x1), (3, .int y3_4)]) hx hb dX11_mayOf_34 rfl hl (by decide) rfl (fun ls hl => ?_)
          refine lv_iinc (v := (y3_4 + 1)) (lv' := [(3, .int (y3_4 + 1)), (2, .int (y2_4 ||| w4)), (0, .ref a_t), (1, .int x1)]) hx hb dX11_mayOf_35 hl (k := 3) rfl rfl (by decide) rfl (fun ls hl => ?_)
          refine lv_goto (tgt := 4) hx hb dX11_mayOf_38 (by decide) ?_
          exact ih (y2_4 ||| w4) (y3_4 + 1) _ _ _ _ hf hP hS (lv_sub hl [2, 3, 1, 0] rfl) kk
        · intro J33_5 hf
          refine lv_icmp_lt (tgt := 32) hx hb dX11_mayOf_23 (by decide) (fun c6 => ?_) (fun c6 => ?_)
          · have hf := ob_tk c6 hf
            refine lv_iconst (v := 0) hx hb dX11_mayOf_32 (by decide) ?_
            exact J33_5 (0 : Int32) hf _ _ _ hP hS (lv_sub hl [0, 1, 3] rfl)
          · have hf := ob_fk c6 hf
            refine lv_iconst (v := 1) hx hb dX11_mayOf_26 (by decide) ?_
            refine lv_iload_n hx hb dX11_mayOf_27 rfl (lv_at hl 3 rfl) ?_
            refine lv_ishl hx hb dX11_mayOf_28 ?_
            refine lv_goto (tgt := 33) hx hb dX11_mayOf_29 (by decide) ?_
            exact J33_5 ((1 : Int32) <<< (y3_4 &&& 31)) hf _ _ _ hP hS (lv_sub hl [0, 1, 3] rfl)
  obtain ⟨u7, hu7, hf⟩ := ob_b hf
  refine L4_1 FU (0 : Int32) (0 : Int32) u7 _ _ _ hu7 hP hS (lv_sub hl [2, 3, 1, 0] rfl) ?_
  intro H locs ls hP hS hl
  refine lv_iload_n hx hb dX11_mayOf_41 rfl (lv_at hl 0 rfl) ?_
  obtain rfl := Option.some.inj hf
  exact ret _ _ _ _ dX11_mayOf_42 hP hS

def f_X11_isFilled_4 (v_seats : Int32) (v_bearIs : Int32) (v_far : Nat → Int32) (x1 : Int32) : Nat → Int32 → Int32 → Option (Int32)
  | 0, _, _ => none
  | n + 1, y2_4, y3_4 =>
  if v_seats ≤ y3_4 then
  some (y2_4)
  else
  (if y2_4 = 0 then
  some (0 : Int32)
  else
  if ((x1 >>> (y3_4 &&& 31)) &&& (1 : Int32)) = 0 then
  some (1 : Int32)
  else
  (f_X11_awayOf v_seats v_far y3_4 (x1 &&& (((1 : Int32) <<< (y3_4 &&& 31)) ^^^ (-1 : Int32)))).bind (fun u7 =>
  if u7 < v_bearIs then
  some (0 : Int32)
  else
  some (1 : Int32))).bind (fun w3 =>
  f_X11_isFilled_4 v_seats v_bearIs v_far x1 n w3 (y3_4 + 1))
theorem f_X11_isFilled_4_s (v_seats : Int32) (v_bearIs : Int32) (v_far : Nat → Int32) (x1 : Int32) (n : Nat) (y2_4 : Int32) (y3_4 : Int32) : f_X11_isFilled_4 v_seats v_bearIs v_far x1 (n + 1) y2_4 y3_4 =
  (if v_seats ≤ y3_4 then
  some (y2_4)
  else
  (if y2_4 = 0 then
  some (0 : Int32)
  else
  if ((x1 >>> (y3_4 &&& 31)) &&& (1 : Int32)) = 0 then
  some (1 : Int32)
  else
  (f_X11_awayOf v_seats v_far y3_4 (x1 &&& (((1 : Int32) <<< (y3_4 &&& 31)) ^^^ (-1 : Int32)))).bind (fun u7 =>
  if u7 < v_bearIs then
  some (0 : Int32)
  else
  some (1 : Int32))).bind (fun w3 =>
  f_X11_isFilled_4 v_seats v_bearIs v_far x1 n w3 (y3_4 + 1))) := rfl
def f_X11_isFilled (v_seats : Int32) (v_bearIs : Int32) (v_far : Nat → Int32) (x1 : Int32) : Option (Int32) :=
  (f_X11_isFilled_4 v_seats v_bearIs v_far x1 FU (1 : Int32) (0 : Int32)).bind (fun u9 =>
  (oz u9).bind (fun u10 =>
  some (u10)))
set_option maxHeartbeats 4000000 in
set_option maxRecDepth 100000 in
theorem c_X11_isFilled (l : Launch) (D : va_G) (cI cJ cZ cO : ClassId) (a_t a_signs a_links a_worths a_far a_mays a_rowsTo a_endIn a_ends a_pairSets a_awayIn a_now a_then a_comers a_seen a_seenMany a_kept a_isKept : Nat) (v_signMany : Int32) (v_seats : Int32) (v_bearIs : Int32) (v_rowsAll : Int64) (v_awayUpper : Int64) (v_lower : Int64) (v_comerMany : Int32) (v_seenRows : Int32) (v_place : Int32) (v_isWriting : Int32) (v_far : Nat → Int32) (x1 : Int32) (out : Int32) (hf : f_X11_isFilled v_seats v_bearIs v_far x1 = some out) : MetR l yX11_isFilled (Cond.code yX11_isFilled cX11_isFilled 4 (some .boolean) :: tbG) { frames := 2, cells := 0, slots := 0, locals := 45 } D (tyL cI cJ cZ cO) [.ref a_t, .int x1] [(a_t, .inr (11, [.ref a_signs, .int v_signMany, .int v_seats, .ref a_links, .ref a_worths, .int v_bearIs, .ref a_far, .ref a_mays, .ref a_rowsTo, .ref a_endIn, .long v_rowsAll, .ref a_ends, .ref a_pairSets, .ref a_awayIn, .ref a_now, .ref a_then, .long v_awayUpper, .long v_lower, .ref a_comers, .int v_comerMany, .ref a_seen, .ref a_seenMany, .int v_seenRows, .ref a_kept, .ref a_isKept, .int v_place, .int v_isWriting])), (a_far, eI cI 144 v_far)] (some (.int out)) [(a_t, .inr (11, [.ref a_signs, .int v_signMany, .int v_seats, .ref a_links, .ref a_worths, .int v_bearIs, .ref a_far, .ref a_mays, .ref a_rowsTo, .ref a_endIn, .long v_rowsAll, .ref a_ends, .ref a_pairSets, .ref a_awayIn, .ref a_now, .ref a_then, .long v_awayUpper, .long v_lower, .ref a_comers, .int v_comerMany, .ref a_seen, .ref a_seenMany, .int v_seenRows, .ref a_kept, .ref a_isKept, .int v_place, .int v_isWriting])), (a_far, eI cI 144 v_far)] := by
  refine ba_ofZ RX11 [(0, .ref a_t), (1, .int x1)] (by decide +kernel) rfl (Nat.le_of_ble_eq_true rfl) rfl ?_
  intro p e s m args below meth c Q A Cx hP ret ls hl
  obtain ⟨⟨hx, hb, hml, hown, hts⟩, hK, hD, hA⟩ := id Cx
  have hS : va_S A s.heap s.heap [] := va_S.rf
  unfold f_X11_isFilled at hf
  refine lv_iconst (v := 1) hx hb dX11_isFilled_0 (by decide) ?_
  refine lv_istore_n (lv' := [(2, .int (1 : Int32)), (0, .ref a_t), (1, .int x1)]) hx hb dX11_isFilled_1 rfl hl (by decide) rfl (fun ls hl => ?_)
  refine lv_iconst (v := 0) hx hb dX11_isFilled_2 (by decide) ?_
  refine lv_istore_n (lv' := [(3, .int (0 : Int32)), (2, .int (1 : Int32)), (0, .ref a_t), (1, .int x1)]) hx hb dX11_isFilled_3 rfl hl (by decide) rfl (fun ls hl => ?_)
  have L4_1 : ∀ (n : Nat) (y2_4 : Int32) (y3_4 : Int32) (o : Int32) (H : Heap) (locs : List Loc) (ls : Array Slot), f_X11_isFilled_4 v_seats v_bearIs v_far x1 n y2_4 y3_4 = some o → va_P D vwCl [(a_t, .inr (11, [.ref a_signs, .int v_signMany, .int v_seats, .ref a_links, .ref a_worths, .int v_bearIs, .ref a_far, .ref a_mays, .ref a_rowsTo, .ref a_endIn, .long v_rowsAll, .ref a_ends, .ref a_pairSets, .ref a_awayIn, .ref a_now, .ref a_then, .long v_awayUpper, .long v_lower, .ref a_comers, .int v_comerMany, .ref a_seen, .ref a_seenMany, .int v_seenRows, .ref a_kept, .ref a_isKept, .int v_place, .int v_isWriting])), (a_far, eI cI 144 v_far)] H → va_S A s.heap H locs → lv_has ls 4 [(0, .ref a_t), (1, .int x1), (2, .int y2_4), (3, .int y3_4)] → (∀ (H : Heap) (locs : List Loc) (ls : Array Slot), va_P D vwCl [(a_t, .inr (11, [.ref a_signs, .int v_signMany, .int v_seats, .ref a_links, .ref a_worths, .int v_bearIs, .ref a_far, .ref a_mays, .ref a_rowsTo, .ref a_endIn, .long v_rowsAll, .ref a_ends, .ref a_pairSets, .ref a_awayIn, .ref a_now, .ref a_then, .long v_awayUpper, .long v_lower, .ref a_comers, .int v_comerMany, .ref a_seen, .ref a_seenMany, .int v_seenRows, .ref a_kept, .ref a_isKept, .int v_place, .int v_isWriting])), (a_far, eI cI 144 v_far)] H → va_S A s.heap H locs → lv_has ls 4 [(2, .int o)] → W p l e { frames := 2, cells := 0, slots := 0, locals := 45 } s m args below meth c H locs 0 0 Q (F0 m 55 ls [])) → W p l e { frames := 2, cells := 0, slots := 0, locals := 45 } s m args below meth c H locs 0 0 Q (F0 m 4 ls []) := by
    intro n
    induction n with
    | zero => intro y2_4 y3_4 o H locs ls hf; exact (ob_n hf).elim
    | succ n ih =>
      intro y2_4 y3_4 o H locs ls hf hP hS hl kk
      rw [f_X11_isFilled_4_s] at hf
      refine lv_iload_n hx hb dX11_isFilled_4 rfl (lv_at hl 3 rfl) ?_
      refine lv_aload_n hx hb dX11_isFilled_5 rfl (lv_at hl 0 rfl) ?_
      refine gf_X11_63 Cx hP 0 rfl rfl dX11_isFilled_6 ?_
      refine lv_icmp_ge (tgt := 55) hx hb dX11_isFilled_9 (by decide) (fun c2 => ?_) (fun c2 => ?_)
      · have hf := ob_t c2 hf
        obtain rfl := Option.some.inj hf
        exact kk _ _ _ hP hS (lv_sub hl [2] rfl)
      · have hf := ob_f c2 hf
        refine lv_iload_n hx hb dX11_isFilled_12 rfl (lv_at hl 2 rfl) ?_
        refine ob_J (P := fun w3 => ∀ (H : Heap) (locs : List Loc) (ls : Array Slot), va_P D vwCl [(a_t, .inr (11, [.ref a_signs, .int v_signMany, .int v_seats, .ref a_links, .ref a_worths, .int v_bearIs, .ref a_far, .ref a_mays, .ref a_rowsTo, .ref a_endIn, .long v_rowsAll, .ref a_ends, .ref a_pairSets, .ref a_awayIn, .ref a_now, .ref a_then, .long v_awayUpper, .long v_lower, .ref a_comers, .int v_comerMany, .ref a_seen, .ref a_seenMany, .int v_seenRows, .ref a_kept, .ref a_isKept, .int v_place, .int v_isWriting])), (a_far, eI cI 144 v_far)] H → va_S A s.heap H locs → lv_has ls 4 [(0, .ref a_t), (1, .int x1), (3, .int y3_4)] → W p l e { frames := 2, cells := 0, slots := 0, locals := 45 } s m args below meth c H locs 0 0 Q (F0 m 48 ls [.int w3])) hf ?_ ?_
        · intro w3 hf H locs ls hP hS hl
          refine lv_istore_n (lv' := [(2, .int w3), (0, .ref a_t), (1, .int x1), (3, .int y3_4)]) hx hb dX11_isFilled_48 rfl hl (by decide) rfl (fun ls hl => ?_)
          refine lv_iinc (v := (y3_4 + 1)) (lv' := [(3, .int (y3_4 + 1)), (2, .int w3), (0, .ref a_t), (1, .int x1)]) hx hb dX11_isFilled_49 hl (k := 3) rfl rfl (by decide) rfl (fun ls hl => ?_)
          refine lv_goto (tgt := 4) hx hb dX11_isFilled_52 (by decide) ?_
          exact ih w3 (y3_4 + 1) _ _ _ _ hf hP hS (lv_sub hl [2, 3, 1, 0] rfl) kk
        · intro J48_4 hf
          refine lv_if_eq (tgt := 47) hx hb dX11_isFilled_13 (by decide) (fun c5 => ?_) (fun c5 => ?_)
          · have hf := ob_tk c5 hf
            refine lv_iconst (v := 0) hx hb dX11_isFilled_47 (by decide) ?_
            exact J48_4 (0 : Int32) hf _ _ _ hP hS (lv_sub hl [0, 1, 3] rfl)
          · have hf := ob_fk c5 hf
            refine lv_iload_n hx hb dX11_isFilled_16 rfl (lv_at hl 1 rfl) ?_
            refine lv_iload_n hx hb dX11_isFilled_17 rfl (lv_at hl 3 rfl) ?_
            refine lv_ishr hx hb dX11_isFilled_18 ?_
            refine lv_iconst (v := 1) hx hb dX11_isFilled_19 (by decide) ?_
            refine lv_iand hx hb dX11_isFilled_20 ?_
            refine lv_if_eq (tgt := 43) hx hb dX11_isFilled_21 (by decide) (fun c6 => ?_) (fun c6 => ?_)
            · have hf := ob_tk c6 hf
              refine lv_iconst (v := 1) hx hb dX11_isFilled_43 (by decide) ?_
              refine lv_goto (tgt := 48) hx hb dX11_isFilled_44 (by decide) ?_
              exact J48_4 (1 : Int32) hf _ _ _ hP hS (lv_sub hl [0, 1, 3] rfl)
            · have hf := ob_fk c6 hf
              refine lv_aload_n hx hb dX11_isFilled_24 rfl (lv_at hl 0 rfl) ?_
              refine lv_iload_n hx hb dX11_isFilled_25 rfl (lv_at hl 3 rfl) ?_
              refine lv_iload_n hx hb dX11_isFilled_26 rfl (lv_at hl 1 rfl) ?_
              refine lv_iconst (v := 1) hx hb dX11_isFilled_27 (by decide) ?_
              refine lv_iload_n hx hb dX11_isFilled_28 rfl (lv_at hl 3 rfl) ?_
              refine lv_ishl hx hb dX11_isFilled_29 ?_
              refine lv_iconst (v := (-1)) hx hb dX11_isFilled_30 (by decide) ?_
              refine lv_ixor hx hb dX11_isFilled_31 ?_
              refine lv_iand hx hb dX11_isFilled_32 ?_
              obtain ⟨u7, hu7, hf⟩ := ob_bk hf
              refine iv_X11_108 (As := [.int y3_4, .int (x1 &&& (((1 : Int32) <<< (y3_4 &&& 31)) ^^^ (-1 : Int32)))]) (rest := []) (is := [0, 1]) (q0 := 0) (X' := [(a_t, .inr (11, [.ref a_signs, .int v_signMany, .int v_seats, .ref a_links, .ref a_worths, .int v_bearIs, .ref a_far, .ref a_mays, .ref a_rowsTo, .ref a_endIn, .long v_rowsAll, .ref a_ends, .ref a_pairSets, .ref a_awayIn, .ref a_now, .ref a_then, .long v_awayUpper, .long v_lower, .ref a_comers, .int v_comerMany, .ref a_seen, .ref a_seenMany, .int v_seenRows, .ref a_kept, .ref a_isKept, .int v_place, .int v_isWriting])), (a_far, eI cI 144 v_far)]) Cx (c_X11_awayOf l D cI cJ cZ cO a_t a_signs a_links a_worths a_far a_mays a_rowsTo a_endIn a_ends a_pairSets a_awayIn a_now a_then a_comers a_seen a_seenMany a_kept a_isKept v_signMany v_seats v_bearIs v_rowsAll v_awayUpper v_lower v_comerMany v_seenRows v_place v_isWriting v_far y3_4 (x1 &&& (((1 : Int32) <<< (y3_4 &&& 31)) ^^^ (-1 : Int32))) u7 hu7) hP hS rfl rfl rfl rfl rfl rfl rfl hl.1 (Nat.le_of_ble_eq_true rfl) dX11_isFilled_33 rfl rfl ⟨Nat.le_of_ble_eq_true rfl, Nat.le_of_ble_eq_true rfl⟩ ⟨Nat.zero_le _, Nat.zero_le _⟩ rfl (fun H locs hP hS => ?_)
              refine lv_aload_n hx hb dX11_isFilled_36 rfl (lv_at hl 0 rfl) ?_
              refine gf_X11_67 Cx hP 0 rfl rfl dX11_isFilled_37 ?_
              refine lv_icmp_lt (tgt := 47) hx hb dX11_isFilled_40 (by decide) (fun c8 => ?_) (fun c8 => ?_)
              · have hf := ob_tk c8 hf
                refine lv_iconst (v := 0) hx hb dX11_isFilled_47 (by decide) ?_
                exact J48_4 (0 : Int32) hf _ _ _ hP hS (lv_sub hl [0, 1, 3] rfl)
              · have hf := ob_fk c8 hf
                refine lv_iconst (v := 1) hx hb dX11_isFilled_43 (by decide) ?_
                refine lv_goto (tgt := 48) hx hb dX11_isFilled_44 (by decide) ?_
                exact J48_4 (1 : Int32) hf _ _ _ hP hS (lv_sub hl [0, 1, 3] rfl)
  obtain ⟨u9, hu9, hf⟩ := ob_b hf
  refine L4_1 FU (1 : Int32) (0 : Int32) u9 _ _ _ hu9 hP hS (lv_sub hl [2, 3, 1, 0] rfl) ?_
  intro H locs ls hP hS hl
  refine lv_iload_n hx hb dX11_isFilled_55 rfl (lv_at hl 0 rfl) ?_
  obtain ⟨u10, hu10, hf⟩ := ob_b hf
  obtain ⟨hz1, hz2⟩ := oz_ok hu10
  obtain rfl := Option.some.inj hf
  exact ret _ _ _ _ _ hz1 hz2 dX11_isFilled_56 hP hS

def f_X11_nearOnes_4 (v_seats : Int32) (v_far : Nat → Int32) (x1 : Int32) : Nat → Int32 → Int32 → Option (Int32)
  | 0, _, _ => none
  | n + 1, y2_4, y3_4 =>
  if v_seats ≤ y3_4 then
  some (y2_4)
  else
  (f_X11_at x1 y3_4).bind (fun u3 =>
  (aget 144 v_far u3).bind (fun u4 =>
  (if u4 = (1 : Int32) then
  some (1 : Int32)
  else
  some (0 : Int32)).bind (fun w5 =>
  f_X11_nearOnes_4 v_seats v_far x1 n (y2_4 + w5) (y3_4 + 1))))
theorem f_X11_nearOnes_4_s (v_seats : Int32) (v_far : Nat → Int32) (x1 : Int32) (n : Nat) (y2_4 : Int32) (y3_4 : Int32) : f_X11_nearOnes_4 v_seats v_far x1 (n + 1) y2_4 y3_4 =
  (if v_seats ≤ y3_4 then
  some (y2_4)
  else
  (f_X11_at x1 y3_4).bind (fun u3 =>
  (aget 144 v_far u3).bind (fun u4 =>
  (if u4 = (1 : Int32) then
  some (1 : Int32)
  else
  some (0 : Int32)).bind (fun w5 =>
  f_X11_nearOnes_4 v_seats v_far x1 n (y2_4 + w5) (y3_4 + 1))))) := rfl
def f_X11_nearOnes (v_seats : Int32) (v_far : Nat → Int32) (x1 : Int32) : Option (Int32) :=
  (f_X11_nearOnes_4 v_seats v_far x1 FU (0 : Int32) (0 : Int32)).bind (fun u8 =>
  some (u8))
set_option maxHeartbeats 4000000 in
set_option maxRecDepth 100000 in
theorem c_X11_nearOnes (l : Launch) (D : va_G) (cI cJ cZ cO : ClassId) (a_t a_signs a_links a_worths a_far a_mays a_rowsTo a_endIn a_ends a_pairSets a_awayIn a_now a_then a_comers a_seen a_seenMany a_kept a_isKept : Nat) (v_signMany : Int32) (v_seats : Int32) (v_bearIs : Int32) (v_rowsAll : Int64) (v_awayUpper : Int64) (v_lower : Int64) (v_comerMany : Int32) (v_seenRows : Int32) (v_place : Int32) (v_isWriting : Int32) (v_far : Nat → Int32) (x1 : Int32) (out : Int32) (hf : f_X11_nearOnes v_seats v_far x1 = some out) : MetR l yX11_nearOnes (Cond.code yX11_nearOnes cX11_nearOnes 4 (some .int) :: tbG) { frames := 1, cells := 0, slots := 0, locals := 21 } D (tyL cI cJ cZ cO) [.ref a_t, .int x1] [(a_t, .inr (11, [.ref a_signs, .int v_signMany, .int v_seats, .ref a_links, .ref a_worths, .int v_bearIs, .ref a_far, .ref a_mays, .ref a_rowsTo, .ref a_endIn, .long v_rowsAll, .ref a_ends, .ref a_pairSets, .ref a_awayIn, .ref a_now, .ref a_then, .long v_awayUpper, .long v_lower, .ref a_comers, .int v_comerMany, .ref a_seen, .ref a_seenMany, .int v_seenRows, .ref a_kept, .ref a_isKept, .int v_place, .int v_isWriting])), (a_far, eI cI 144 v_far)] (some (.int out)) [(a_t, .inr (11, [.ref a_signs, .int v_signMany, .int v_seats, .ref a_links, .ref a_worths, .int v_bearIs, .ref a_far, .ref a_mays, .ref a_rowsTo, .ref a_endIn, .long v_rowsAll, .ref a_ends, .ref a_pairSets, .ref a_awayIn, .ref a_now, .ref a_then, .long v_awayUpper, .long v_lower, .ref a_comers, .int v_comerMany, .ref a_seen, .ref a_seenMany, .int v_seenRows, .ref a_kept, .ref a_isKept, .int v_place, .int v_isWriting])), (a_far, eI cI 144 v_far)] := by
  refine ba_ofI RX11 [(0, .ref a_t), (1, .int x1)] (by decide +kernel) rfl (Nat.le_of_ble_eq_true rfl) rfl ?_
  intro p e s m args below meth c Q A Cx hP ret ls hl
  obtain ⟨⟨hx, hb, hml, hown, hts⟩, hK, hD, hA⟩ := id Cx
  have hS : va_S A s.heap s.heap [] := va_S.rf
  unfold f_X11_nearOnes at hf
  refine lv_iconst (v := 0) hx hb dX11_nearOnes_0 (by decide) ?_
  refine lv_istore_n (lv' := [(2, .int (0 : Int32)), (0, .ref a_t), (1, .int x1)]) hx hb dX11_nearOnes_1 rfl hl (by decide) rfl (fun ls hl => ?_)
  refine lv_iconst (v := 0) hx hb dX11_nearOnes_2 (by decide) ?_
  refine lv_istore_n (lv' := [(3, .int (0 : Int32)), (2, .int (0 : Int32)), (0, .ref a_t), (1, .int x1)]) hx hb dX11_nearOnes_3 rfl hl (by decide) rfl (fun ls hl => ?_)
  have L4_1 : ∀ (n : Nat) (y2_4 : Int32) (y3_4 : Int32) (o : Int32) (H : Heap) (locs : List Loc) (ls : Array Slot), f_X11_nearOnes_4 v_seats v_far x1 n y2_4 y3_4 = some o → va_P D vwCl [(a_t, .inr (11, [.ref a_signs, .int v_signMany, .int v_seats, .ref a_links, .ref a_worths, .int v_bearIs, .ref a_far, .ref a_mays, .ref a_rowsTo, .ref a_endIn, .long v_rowsAll, .ref a_ends, .ref a_pairSets, .ref a_awayIn, .ref a_now, .ref a_then, .long v_awayUpper, .long v_lower, .ref a_comers, .int v_comerMany, .ref a_seen, .ref a_seenMany, .int v_seenRows, .ref a_kept, .ref a_isKept, .int v_place, .int v_isWriting])), (a_far, eI cI 144 v_far)] H → va_S A s.heap H locs → lv_has ls 4 [(0, .ref a_t), (1, .int x1), (2, .int y2_4), (3, .int y3_4)] → (∀ (H : Heap) (locs : List Loc) (ls : Array Slot), va_P D vwCl [(a_t, .inr (11, [.ref a_signs, .int v_signMany, .int v_seats, .ref a_links, .ref a_worths, .int v_bearIs, .ref a_far, .ref a_mays, .ref a_rowsTo, .ref a_endIn, .long v_rowsAll, .ref a_ends, .ref a_pairSets, .ref a_awayIn, .ref a_now, .ref a_then, .long v_awayUpper, .long v_lower, .ref a_comers, .int v_comerMany, .ref a_seen, .ref a_seenMany, .int v_seenRows, .ref a_kept, .ref a_isKept, .int v_place, .int v_isWriting])), (a_far, eI cI 144 v_far)] H → va_S A s.heap H locs → lv_has ls 4 [(2, .int o)] → W p l e { frames := 1, cells := 0, slots := 0, locals := 21 } s m args below meth c H locs 0 0 Q (F0 m 40 ls [])) → W p l e { frames := 1, cells := 0, slots := 0, locals := 21 } s m args below meth c H locs 0 0 Q (F0 m 4 ls []) := by
    intro n
    induction n with
    | zero => intro y2_4 y3_4 o H locs ls hf; exact (ob_n hf).elim
    | succ n ih =>
      intro y2_4 y3_4 o H locs ls hf hP hS hl kk
      rw [f_X11_nearOnes_4_s] at hf
      refine lv_iload_n hx hb dX11_nearOnes_4 rfl (lv_at hl 3 rfl) ?_
      refine lv_aload_n hx hb dX11_nearOnes_5 rfl (lv_at hl 0 rfl) ?_
      refine gf_X11_63 Cx hP 0 rfl rfl dX11_nearOnes_6 ?_
      refine lv_icmp_ge (tgt := 40) hx hb dX11_nearOnes_9 (by decide) (fun c2 => ?_) (fun c2 => ?_)
      · have hf := ob_t c2 hf
        obtain rfl := Option.some.inj hf
        exact kk _ _ _ hP hS (lv_sub hl [2] rfl)
      · have hf := ob_f c2 hf
        refine lv_iload_n hx hb dX11_nearOnes_12 rfl (lv_at hl 2 rfl) ?_
        refine lv_aload_n hx hb dX11_nearOnes_13 rfl (lv_at hl 0 rfl) ?_
        refine gf_X11_19 Cx hP 0 rfl rfl dX11_nearOnes_14 ?_
        refine lv_iload_n hx hb dX11_nearOnes_17 rfl (lv_at hl 1 rfl) ?_
        refine lv_iload_n hx hb dX11_nearOnes_18 rfl (lv_at hl 3 rfl) ?_
        obtain ⟨u3, hu3, hf⟩ := ob_b hf
        refine iv_X11_92 (As := [.int x1, .int y3_4]) (rest := [.ref a_far, .int y2_4]) (is := []) (X' := [(a_t, .inr (11, [.ref a_signs, .int v_signMany, .int v_seats, .ref a_links, .ref a_worths, .int v_bearIs, .ref a_far, .ref a_mays, .ref a_rowsTo, .ref a_endIn, .long v_rowsAll, .ref a_ends, .ref a_pairSets, .ref a_awayIn, .ref a_now, .ref a_then, .long v_awayUpper, .long v_lower, .ref a_comers, .int v_comerMany, .ref a_seen, .ref a_seenMany, .int v_seenRows, .ref a_kept, .ref a_isKept, .int v_place, .int v_isWriting])), (a_far, eI cI 144 v_far)]) Cx (c_X11_at l D cI cJ cZ cO  x1 y3_4 u3 hu3) hP hS rfl rfl rfl rfl rfl rfl hl.1 (Nat.le_of_ble_eq_true rfl) dX11_nearOnes_19 rfl rfl ⟨Nat.le_of_ble_eq_true rfl, Nat.le_of_ble_eq_true rfl⟩ ⟨Nat.zero_le _, Nat.zero_le _⟩ rfl (fun H locs hP hS => ?_)
        obtain ⟨u4, hu4, hf⟩ := ob_b hf
        refine ba_iald Cx hP 1 rfl hu4 dX11_nearOnes_22 ?_
        refine lv_iconst (v := 1) hx hb dX11_nearOnes_23 (by decide) ?_
        refine ob_J (P := fun w5 => ∀ (H : Heap) (locs : List Loc) (ls : Array Slot), va_P D vwCl [(a_t, .inr (11, [.ref a_signs, .int v_signMany, .int v_seats, .ref a_links, .ref a_worths, .int v_bearIs, .ref a_far, .ref a_mays, .ref a_rowsTo, .ref a_endIn, .long v_rowsAll, .ref a_ends, .ref a_pairSets, .ref a_awayIn, .ref a_now, .ref a_then, .long v_awayUpper, .long v_lower, .ref a_comers, .int v_comerMany, .ref a_seen, .ref a_seenMany, .int v_seenRows, .ref a_kept, .ref a_isKept, .int v_place, .int v_isWriting])), (a_far, eI cI 144 v_far)] H → va_S A s.heap H locs → lv_has ls 4 [(0, .ref a_t), (1, .int x1), (3, .int y3_4)] → W p l e { frames := 1, cells := 0, slots := 0, locals := 21 } s m args below meth c H locs 0 0 Q (F0 m 32 ls [.int w5, .int y2_4])) hf ?_ ?_
        · intro w5 hf H locs ls hP hS hl
          refine lv_iadd hx hb dX11_nearOnes_32 ?_
          refine lv_istore_n (lv' := [(2, .int (y2_4 + w5)), (0, .ref a_t), (1, .int x1), (3, .int y3_4)]) hx hb dX11_nearOnes_33 rfl hl (by decide) rfl (fun ls hl => ?_)
          refine lv_iinc (v := (y3_4 + 1)) (lv' := [(3, .int (y3_4 + 1)), (2, .int (y2_4 + w5)), (0, .ref a_t), (1, .int x1)]) hx hb dX11_nearOnes_34 hl (k := 3) rfl rfl (by decide) rfl (fun ls hl => ?_)
          refine lv_goto (tgt := 4) hx hb dX11_nearOnes_37 (by decide) ?_
          exact ih (y2_4 + w5) (y3_4 + 1) _ _ _ _ hf hP hS (lv_sub hl [2, 3, 1, 0] rfl) kk
        · intro J32_6 hf
          refine lv_icmp_ne (tgt := 31) hx hb dX11_nearOnes_24 (by decide) (fun c7 => ?_) (fun c7 => ?_)
          · have hf := ob_fk c7 hf
            refine lv_iconst (v := 0) hx hb dX11_nearOnes_31 (by decide) ?_
            exact J32_6 (0 : Int32) hf _ _ _ hP hS (lv_sub hl [0, 1, 3] rfl)
          · have hf := ob_tk c7 hf
            refine lv_iconst (v := 1) hx hb dX11_nearOnes_27 (by decide) ?_
            refine lv_goto (tgt := 32) hx hb dX11_nearOnes_28 (by decide) ?_
            exact J32_6 (1 : Int32) hf _ _ _ hP hS (lv_sub hl [0, 1, 3] rfl)
  obtain ⟨u8, hu8, hf⟩ := ob_b hf
  refine L4_1 FU (0 : Int32) (0 : Int32) u8 _ _ _ hu8 hP hS (lv_sub hl [2, 3, 1, 0] rfl) ?_
  intro H locs ls hP hS hl
  refine lv_iload_n hx hb dX11_nearOnes_40 rfl (lv_at hl 0 rfl) ?_
  obtain rfl := Option.some.inj hf
  exact ret _ _ _ _ dX11_nearOnes_41 hP hS

def f_X11_rankOf (v_seats : Int32) (v_far : Nat → Int32) (v_worths : Nat → Int32) (x1 : Int32) (x2 : Int32) (x3 : Int32) : Option (Int32) :=
  (f_X11_awayOf v_seats v_far x1 x2).bind (fun u1 =>
  if x3 = (0 : Int32) then
  (aget 12 v_worths x1).bind (fun u3 =>
  some (((100 : Int32) * u1) + u3))
  else if x3 = (1 : Int32) then
  (aget 12 v_worths x1).bind (fun u5 =>
  some (((100 : Int32) * u5) + u1))
  else if x3 = (2 : Int32) then
  some (-x1)
  else if x3 = (3 : Int32) then
  some (x1)
  else if x3 = (4 : Int32) then
  some (-u1)
  else 
  (f_X11_nearOnes v_seats v_far x1).bind (fun u9 =>
  some (u1 - ((100 : Int32) * u9))))
set_option maxHeartbeats 4000000 in
set_option maxRecDepth 100000 in
theorem c_X11_rankOf (l : Launch) (D : va_G) (cI cJ cZ cO : ClassId) (a_t a_signs a_links a_worths a_far a_mays a_rowsTo a_endIn a_ends a_pairSets a_awayIn a_now a_then a_comers a_seen a_seenMany a_kept a_isKept : Nat) (v_signMany : Int32) (v_seats : Int32) (v_bearIs : Int32) (v_rowsAll : Int64) (v_awayUpper : Int64) (v_lower : Int64) (v_comerMany : Int32) (v_seenRows : Int32) (v_place : Int32) (v_isWriting : Int32) (v_far : Nat → Int32) (v_worths : Nat → Int32) (x1 : Int32) (x2 : Int32) (x3 : Int32) (out : Int32) (hf : f_X11_rankOf v_seats v_far v_worths x1 x2 x3 = some out) : MetR l yX11_rankOf (Cond.code yX11_rankOf cX11_rankOf 5 (some .int) :: tbG) { frames := 2, cells := 0, slots := 0, locals := 45 } D (tyL cI cJ cZ cO) [.ref a_t, .int x1, .int x2, .int x3] [(a_t, .inr (11, [.ref a_signs, .int v_signMany, .int v_seats, .ref a_links, .ref a_worths, .int v_bearIs, .ref a_far, .ref a_mays, .ref a_rowsTo, .ref a_endIn, .long v_rowsAll, .ref a_ends, .ref a_pairSets, .ref a_awayIn, .ref a_now, .ref a_then, .long v_awayUpper, .long v_lower, .ref a_comers, .int v_comerMany, .ref a_seen, .ref a_seenMany, .int v_seenRows, .ref a_kept, .ref a_isKept, .int v_place, .int v_isWriting])), (a_far, eI cI 144 v_far), (a_worths, eI cI 12 v_worths)] (some (.int out)) [(a_t, .inr (11, [.ref a_signs, .int v_signMany, .int v_seats, .ref a_links, .ref a_worths, .int v_bearIs, .ref a_far, .ref a_mays, .ref a_rowsTo, .ref a_endIn, .long v_rowsAll, .ref a_ends, .ref a_pairSets, .ref a_awayIn, .ref a_now, .ref a_then, .long v_awayUpper, .long v_lower, .ref a_comers, .int v_comerMany, .ref a_seen, .ref a_seenMany, .int v_seenRows, .ref a_kept, .ref a_isKept, .int v_place, .int v_isWriting])), (a_far, eI cI 144 v_far), (a_worths, eI cI 12 v_worths)] := by
  refine ba_ofI RX11 [(0, .ref a_t), (1, .int x1), (2, .int x2), (3, .int x3)] (by decide +kernel) rfl (Nat.le_of_ble_eq_true rfl) rfl ?_
  intro p e s m args below meth c Q A Cx hP ret ls hl
  obtain ⟨⟨hx, hb, hml, hown, hts⟩, hK, hD, hA⟩ := id Cx
  have hS : va_S A s.heap s.heap [] := va_S.rf
  unfold f_X11_rankOf at hf
  refine lv_aload_n hx hb dX11_rankOf_0 rfl (lv_at hl 0 rfl) ?_
  refine lv_iload_n hx hb dX11_rankOf_1 rfl (lv_at hl 1 rfl) ?_
  refine lv_iload_n hx hb dX11_rankOf_2 rfl (lv_at hl 2 rfl) ?_
  obtain ⟨u1, hu1, hf⟩ := ob_b hf
  refine iv_X11_108 (As := [.int x1, .int x2]) (rest := []) (is := [0, 1]) (q0 := 0) (X' := [(a_t, .inr (11, [.ref a_signs, .int v_signMany, .int v_seats, .ref a_links, .ref a_worths, .int v_bearIs, .ref a_far, .ref a_mays, .ref a_rowsTo, .ref a_endIn, .long v_rowsAll, .ref a_ends, .ref a_pairSets, .ref a_awayIn, .ref a_now, .ref a_then, .long v_awayUpper, .long v_lower, .ref a_comers, .int v_comerMany, .ref a_seen, .ref a_seenMany, .int v_seenRows, .ref a_kept, .ref a_isKept, .int v_place, .int v_isWriting])), (a_far, eI cI 144 v_far), (a_worths, eI cI 12 v_worths)]) Cx (c_X11_awayOf l D cI cJ cZ cO a_t a_signs a_links a_worths a_far a_mays a_rowsTo a_endIn a_ends a_pairSets a_awayIn a_now a_then a_comers a_seen a_seenMany a_kept a_isKept v_signMany v_seats v_bearIs v_rowsAll v_awayUpper v_lower v_comerMany v_seenRows v_place v_isWriting v_far x1 x2 u1 hu1) hP hS rfl rfl rfl rfl rfl rfl rfl hl.1 (Nat.le_of_ble_eq_true rfl) dX11_rankOf_3 rfl rfl ⟨Nat.le_of_ble_eq_true rfl, Nat.le_of_ble_eq_true rfl⟩ ⟨Nat.zero_le _, Nat.zero_le _⟩ rfl (fun H locs hP hS => ?_)
  refine lv_istore (lv' := [(4, .int u1), (0, .ref a_t), (1, .int x1), (2, .int x2), (3, .int x3)]) hx hb dX11_rankOf_6 hl (by decide) rfl (fun ls hl => ?_)
  refine lv_iload_n hx hb dX11_rankOf_8 rfl (lv_at hl 4 rfl) ?_
  by_cases c2 : x3 = (0 : Int32)
  · have hf := ob_t c2 hf
    refine ba_topi c2 ?_
    refine lv_tableIn (tgt := 44) hx hb dX11_rankOf_9 (by decide) (by decide) rfl (by decide) ?_
    refine lv_bipush (v := 100) hx hb dX11_rankOf_44 (by decide) ?_
    refine lv_iload hx hb dX11_rankOf_46 (lv_at hl 0 rfl) ?_
    refine lv_imul hx hb dX11_rankOf_48 ?_
    refine lv_aload_n hx hb dX11_rankOf_49 rfl (lv_at hl 1 rfl) ?_
    refine gf_X11_16 Cx hP 0 rfl rfl dX11_rankOf_50 ?_
    refine lv_iload_n hx hb dX11_rankOf_53 rfl (lv_at hl 2 rfl) ?_
    obtain ⟨u3, hu3, hf⟩ := ob_b hf
    refine ba_iald Cx hP 2 rfl hu3 dX11_rankOf_54 ?_
    refine lv_iadd hx hb dX11_rankOf_55 ?_
    obtain rfl := Option.some.inj hf
    exact ret _ _ _ _ dX11_rankOf_56 hP hS
  have hf := ob_f c2 hf
  by_cases c4 : x3 = (1 : Int32)
  · have hf := ob_t c4 hf
    refine ba_topi c4 ?_
    refine lv_tableIn (tgt := 57) hx hb dX11_rankOf_9 (by decide) (by decide) rfl (by decide) ?_
    refine lv_bipush (v := 100) hx hb dX11_rankOf_57 (by decide) ?_
    refine lv_aload_n hx hb dX11_rankOf_59 rfl (lv_at hl 1 rfl) ?_
    refine gf_X11_16 Cx hP 0 rfl rfl dX11_rankOf_60 ?_
    refine lv_iload_n hx hb dX11_rankOf_63 rfl (lv_at hl 2 rfl) ?_
    obtain ⟨u5, hu5, hf⟩ := ob_b hf
    refine ba_iald Cx hP 2 rfl hu5 dX11_rankOf_64 ?_
    refine lv_imul hx hb dX11_rankOf_65 ?_
    refine lv_iload hx hb dX11_rankOf_66 (lv_at hl 0 rfl) ?_
    refine lv_iadd hx hb dX11_rankOf_68 ?_
    obtain rfl := Option.some.inj hf
    exact ret _ _ _ _ dX11_rankOf_69 hP hS
  have hf := ob_f c4 hf
  by_cases c6 : x3 = (2 : Int32)
  · have hf := ob_t c6 hf
    refine ba_topi c6 ?_
    refine lv_tableIn (tgt := 70) hx hb dX11_rankOf_9 (by decide) (by decide) rfl (by decide) ?_
    refine lv_iload_n hx hb dX11_rankOf_70 rfl (lv_at hl 2 rfl) ?_
    refine lv_ineg hx hb dX11_rankOf_71 ?_
    obtain rfl := Option.some.inj hf
    exact ret _ _ _ _ dX11_rankOf_72 hP hS
  have hf := ob_f c6 hf
  by_cases c7 : x3 = (3 : Int32)
  · have hf := ob_t c7 hf
    refine ba_topi c7 ?_
    refine lv_tableIn (tgt := 73) hx hb dX11_rankOf_9 (by decide) (by decide) rfl (by decide) ?_
    refine lv_iload_n hx hb dX11_rankOf_73 rfl (lv_at hl 2 rfl) ?_
    obtain rfl := Option.some.inj hf
    exact ret _ _ _ _ dX11_rankOf_74 hP hS
  have hf := ob_f c7 hf
  by_cases c8 : x3 = (4 : Int32)
  · have hf := ob_t c8 hf
    refine ba_topi c8 ?_
    refine lv_tableIn (tgt := 75) hx hb dX11_rankOf_9 (by decide) (by decide) rfl (by decide) ?_
    refine lv_iload hx hb dX11_rankOf_75 (lv_at hl 0 rfl) ?_
    refine lv_ineg hx hb dX11_rankOf_77 ?_
    obtain rfl := Option.some.inj hf
    exact ret _ _ _ _ dX11_rankOf_78 hP hS
  have hf := ob_f c8 hf
  refine lv_tableOut (tgt := 79) hx hb dX11_rankOf_9 (ba_tab4 c2 c4 c6 c7 c8) (by decide) ?_
  refine lv_iload hx hb dX11_rankOf_79 (lv_at hl 0 rfl) ?_
  refine lv_bipush (v := 100) hx hb dX11_rankOf_81 (by decide) ?_
  refine lv_aload_n hx hb dX11_rankOf_83 rfl (lv_at hl 1 rfl) ?_
  refine lv_iload_n hx hb dX11_rankOf_84 rfl (lv_at hl 2 rfl) ?_
  obtain ⟨u9, hu9, hf⟩ := ob_b hf
  refine iv_X11_111 (As := [.int x1]) (rest := [.int (100 : Int32), .int u1]) (is := [0, 1]) (q0 := 0) (X' := [(a_t, .inr (11, [.ref a_signs, .int v_signMany, .int v_seats, .ref a_links, .ref a_worths, .int v_bearIs, .ref a_far, .ref a_mays, .ref a_rowsTo, .ref a_endIn, .long v_rowsAll, .ref a_ends, .ref a_pairSets, .ref a_awayIn, .ref a_now, .ref a_then, .long v_awayUpper, .long v_lower, .ref a_comers, .int v_comerMany, .ref a_seen, .ref a_seenMany, .int v_seenRows, .ref a_kept, .ref a_isKept, .int v_place, .int v_isWriting])), (a_far, eI cI 144 v_far), (a_worths, eI cI 12 v_worths)]) Cx (c_X11_nearOnes l D cI cJ cZ cO a_t a_signs a_links a_worths a_far a_mays a_rowsTo a_endIn a_ends a_pairSets a_awayIn a_now a_then a_comers a_seen a_seenMany a_kept a_isKept v_signMany v_seats v_bearIs v_rowsAll v_awayUpper v_lower v_comerMany v_seenRows v_place v_isWriting v_far x1 u9 hu9) hP hS rfl rfl rfl rfl rfl rfl rfl hl.1 (Nat.le_of_ble_eq_true rfl) dX11_rankOf_85 rfl rfl ⟨Nat.le_of_ble_eq_true rfl, Nat.le_of_ble_eq_true rfl⟩ ⟨Nat.zero_le _, Nat.zero_le _⟩ rfl (fun H locs hP hS => ?_)
  refine lv_imul hx hb dX11_rankOf_88 ?_
  refine lv_isub hx hb dX11_rankOf_89 ?_
  obtain rfl := Option.some.inj hf
  exact ret _ _ _ _ dX11_rankOf_90 hP hS

def f_X11_takenBy_16 (v_seats : Int32) (v_far : Nat → Int32) (v_worths : Nat → Int32) (x1 : Int32) (x2 : Int32) (u1 : Int32) : Nat → Int32 → Int32 → Int32 → Option (Int32)
  | 0, _, _, _ => none
  | n + 1, y4_16, y5_16, y6_16 =>
  if v_seats ≤ y6_16 then
  some (y4_16)
  else
  (if ((u1 >>> (y6_16 &&& 31)) &&& (1 : Int32)) = (1 : Int32) then
  (f_X11_rankOf v_seats v_far v_worths y6_16 x1 x2).bind (fun u7 =>
  if y4_16 < 0 then
  some (y6_16, u7)
  else
  if u7 ≤ y5_16 then
  some (y4_16, y5_16)
  else
  some (y6_16, u7))
  else
  some (y4_16, y5_16)).bind (fun w4 =>
  f_X11_takenBy_16 v_seats v_far v_worths x1 x2 u1 n w4.1 w4.2 (y6_16 + 1))
theorem f_X11_takenBy_16_s (v_seats : Int32) (v_far : Nat → Int32) (v_worths : Nat → Int32) (x1 : Int32) (x2 : Int32) (u1 : Int32) (n : Nat) (y4_16 : Int32) (y5_16 : Int32) (y6_16 : Int32) : f_X11_takenBy_16 v_seats v_far v_worths x1 x2 u1 (n + 1) y4_16 y5_16 y6_16 =
  (if v_seats ≤ y6_16 then
  some (y4_16)
  else
  (if ((u1 >>> (y6_16 &&& 31)) &&& (1 : Int32)) = (1 : Int32) then
  (f_X11_rankOf v_seats v_far v_worths y6_16 x1 x2).bind (fun u7 =>
  if y4_16 < 0 then
  some (y6_16, u7)
  else
  if u7 ≤ y5_16 then
  some (y4_16, y5_16)
  else
  some (y6_16, u7))
  else
  some (y4_16, y5_16)).bind (fun w4 =>
  f_X11_takenBy_16 v_seats v_far v_worths x1 x2 u1 n w4.1 w4.2 (y6_16 + 1))) := rfl
def f_X11_takenBy (v_seats : Int32) (v_bearIs : Int32) (v_far : Nat → Int32) (v_worths : Nat → Int32) (x1 : Int32) (x2 : Int32) : Option (Int32) :=
  (f_X11_mayOf v_seats v_bearIs v_far x1).bind (fun u1 =>
  (f_X11_takenBy_16 v_seats v_far v_worths x1 x2 u1 FU (-6 : Int32) (0 : Int32) (0 : Int32)).bind (fun u10 =>
  some (u10)))
set_option maxHeartbeats 4000000 in
set_option maxRecDepth 100000 in
theorem c_X11_takenBy (l : Launch) (D : va_G) (cI cJ cZ cO : ClassId) (a_t a_signs a_links a_worths a_far a_mays a_rowsTo a_endIn a_ends a_pairSets a_awayIn a_now a_then a_comers a_seen a_seenMany a_kept a_isKept : Nat) (v_signMany : Int32) (v_seats : Int32) (v_bearIs : Int32) (v_rowsAll : Int64) (v_awayUpper : Int64) (v_lower : Int64) (v_comerMany : Int32) (v_seenRows : Int32) (v_place : Int32) (v_isWriting : Int32) (v_far : Nat → Int32) (v_worths : Nat → Int32) (x1 : Int32) (x2 : Int32) (out : Int32) (hf : f_X11_takenBy v_seats v_bearIs v_far v_worths x1 x2 = some out) : MetR l yX11_takenBy (Cond.code yX11_takenBy cX11_takenBy 8 (some .int) :: tbG) { frames := 3, cells := 0, slots := 0, locals := 69 } D (tyL cI cJ cZ cO) [.ref a_t, .int x1, .int x2] [(a_t, .inr (11, [.ref a_signs, .int v_signMany, .int v_seats, .ref a_links, .ref a_worths, .int v_bearIs, .ref a_far, .ref a_mays, .ref a_rowsTo, .ref a_endIn, .long v_rowsAll, .ref a_ends, .ref a_pairSets, .ref a_awayIn, .ref a_now, .ref a_then, .long v_awayUpper, .long v_lower, .ref a_comers, .int v_comerMany, .ref a_seen, .ref a_seenMany, .int v_seenRows, .ref a_kept, .ref a_isKept, .int v_place, .int v_isWriting])), (a_far, eI cI 144 v_far), (a_worths, eI cI 12 v_worths)] (some (.int out)) [(a_t, .inr (11, [.ref a_signs, .int v_signMany, .int v_seats, .ref a_links, .ref a_worths, .int v_bearIs, .ref a_far, .ref a_mays, .ref a_rowsTo, .ref a_endIn, .long v_rowsAll, .ref a_ends, .ref a_pairSets, .ref a_awayIn, .ref a_now, .ref a_then, .long v_awayUpper, .long v_lower, .ref a_comers, .int v_comerMany, .ref a_seen, .ref a_seenMany, .int v_seenRows, .ref a_kept, .ref a_isKept, .int v_place, .int v_isWriting])), (a_far, eI cI 144 v_far), (a_worths, eI cI 12 v_worths)] := by
  refine ba_ofI RX11 [(0, .ref a_t), (1, .int x1), (2, .int x2)] (by decide +kernel) rfl (Nat.le_of_ble_eq_true rfl) rfl ?_
  intro p e s m args below meth c Q A Cx hP ret ls hl
  obtain ⟨⟨hx, hb, hml, hown, hts⟩, hK, hD, hA⟩ := id Cx
  have hS : va_S A s.heap s.heap [] := va_S.rf
  unfold f_X11_takenBy at hf
  refine lv_aload_n hx hb dX11_takenBy_0 rfl (lv_at hl 0 rfl) ?_
  refine lv_iload_n hx hb dX11_takenBy_1 rfl (lv_at hl 1 rfl) ?_
  obtain ⟨u1, hu1, hf⟩ := ob_b hf
  refine iv_X11_115 (As := [.int x1]) (rest := []) (is := [0, 1]) (q0 := 0) (X' := [(a_t, .inr (11, [.ref a_signs, .int v_signMany, .int v_seats, .ref a_links, .ref a_worths, .int v_bearIs, .ref a_far, .ref a_mays, .ref a_rowsTo, .ref a_endIn, .long v_rowsAll, .ref a_ends, .ref a_pairSets, .ref a_awayIn, .ref a_now, .ref a_then, .long v_awayUpper, .long v_lower, .ref a_comers, .int v_comerMany, .ref a_seen, .ref a_seenMany, .int v_seenRows, .ref a_kept, .ref a_isKept, .int v_place, .int v_isWriting])), (a_far, eI cI 144 v_far), (a_worths, eI cI 12 v_worths)]) Cx (c_X11_mayOf l D cI cJ cZ cO a_t a_signs a_links a_worths a_far a_mays a_rowsTo a_endIn a_ends a_pairSets a_awayIn a_now a_then a_comers a_seen a_seenMany a_kept a_isKept v_signMany v_seats v_bearIs v_rowsAll v_awayUpper v_lower v_comerMany v_seenRows v_place v_isWriting v_far x1 u1 hu1) hP hS rfl rfl rfl rfl rfl rfl rfl hl.1 (Nat.le_of_ble_eq_true rfl) dX11_takenBy_2 rfl rfl ⟨Nat.le_of_ble_eq_true rfl, Nat.le_of_ble_eq_true rfl⟩ ⟨Nat.zero_le _, Nat.zero_le _⟩ rfl (fun H locs hP hS => ?_)
  refine lv_istore_n (lv' := [(3, .int u1), (0, .ref a_t), (1, .int x1), (2, .int x2)]) hx hb dX11_takenBy_5 rfl hl (by decide) rfl (fun ls hl => ?_)
  refine lv_bipush (v := (-6)) hx hb dX11_takenBy_6 (by decide) ?_
  refine lv_istore (lv' := [(4, .int (-6 : Int32)), (3, .int u1), (0, .ref a_t), (1, .int x1), (2, .int x2)]) hx hb dX11_takenBy_8 hl (by decide) rfl (fun ls hl => ?_)
  refine lv_iconst (v := 0) hx hb dX11_takenBy_10 (by decide) ?_
  refine lv_istore (lv' := [(5, .int (0 : Int32)), (4, .int (-6 : Int32)), (3, .int u1), (0, .ref a_t), (1, .int x1), (2, .int x2)]) hx hb dX11_takenBy_11 hl (by decide) rfl (fun ls hl => ?_)
  refine lv_iconst (v := 0) hx hb dX11_takenBy_13 (by decide) ?_
  refine lv_istore (lv' := [(6, .int (0 : Int32)), (5, .int (0 : Int32)), (4, .int (-6 : Int32)), (3, .int u1), (0, .ref a_t), (1, .int x1), (2, .int x2)]) hx hb dX11_takenBy_14 hl (by decide) rfl (fun ls hl => ?_)
  have L16_2 : ∀ (n : Nat) (y4_16 : Int32) (y5_16 : Int32) (y6_16 : Int32) (o : Int32) (H : Heap) (locs : List Loc) (ls : Array Slot), f_X11_takenBy_16 v_seats v_far v_worths x1 x2 u1 n y4_16 y5_16 y6_16 = some o → va_P D vwCl [(a_t, .inr (11, [.ref a_signs, .int v_signMany, .int v_seats, .ref a_links, .ref a_worths, .int v_bearIs, .ref a_far, .ref a_mays, .ref a_rowsTo, .ref a_endIn, .long v_rowsAll, .ref a_ends, .ref a_pairSets, .ref a_awayIn, .ref a_now, .ref a_then, .long v_awayUpper, .long v_lower, .ref a_comers, .int v_comerMany, .ref a_seen, .ref a_seenMany, .int v_seenRows, .ref a_kept, .ref a_isKept, .int v_place, .int v_isWriting])), (a_far, eI cI 144 v_far), (a_worths, eI cI 12 v_worths)] H → va_S A s.heap H locs → lv_has ls 8 [(0, .ref a_t), (1, .int x1), (2, .int x2), (3, .int u1), (4, .int y4_16), (5, .int y5_16), (6, .int y6_16)] → (∀ (H : Heap) (locs : List Loc) (ls : Array Slot), va_P D vwCl [(a_t, .inr (11, [.ref a_signs, .int v_signMany, .int v_seats, .ref a_links, .ref a_worths, .int v_bearIs, .ref a_far, .ref a_mays, .ref a_rowsTo, .ref a_endIn, .long v_rowsAll, .ref a_ends, .ref a_pairSets, .ref a_awayIn, .ref a_now, .ref a_then, .long v_awayUpper, .long v_lower, .ref a_comers, .int v_comerMany, .ref a_seen, .ref a_seenMany, .int v_seenRows, .ref a_kept, .ref a_isKept, .int v_place, .int v_isWriting])), (a_far, eI cI 144 v_far), (a_worths, eI cI 12 v_worths)] H → va_S A s.heap H locs → lv_has ls 8 [(4, .int o)] → W p l e { frames := 3, cells := 0, slots := 0, locals := 69 } s m args below meth c H locs 0 0 Q (F0 m 71 ls [])) → W p l e { frames := 3, cells := 0, slots := 0, locals := 69 } s m args below meth c H locs 0 0 Q (F0 m 16 ls []) := by
    intro n
    induction n with
    | zero => intro y4_16 y5_16 y6_16 o H locs ls hf; exact (ob_n hf).elim
    | succ n ih =>
      intro y4_16 y5_16 y6_16 o H locs ls hf hP hS hl kk
      rw [f_X11_takenBy_16_s] at hf
      refine lv_iload hx hb dX11_takenBy_16 (lv_at hl 6 rfl) ?_
      refine lv_aload_n hx hb dX11_takenBy_18 rfl (lv_at hl 0 rfl) ?_
      refine gf_X11_63 Cx hP 0 rfl rfl dX11_takenBy_19 ?_
      refine lv_icmp_ge (tgt := 71) hx hb dX11_takenBy_22 (by decide) (fun c3 => ?_) (fun c3 => ?_)
      · have hf := ob_t c3 hf
        obtain rfl := Option.some.inj hf
        exact kk _ _ _ hP hS (lv_sub hl [4] rfl)
      · have hf := ob_f c3 hf
        refine lv_iload_n hx hb dX11_takenBy_25 rfl (lv_at hl 3 rfl) ?_
        refine lv_iload hx hb dX11_takenBy_26 (lv_at hl 6 rfl) ?_
        refine lv_ishr hx hb dX11_takenBy_28 ?_
        refine lv_iconst (v := 1) hx hb dX11_takenBy_29 (by decide) ?_
        refine lv_iand hx hb dX11_takenBy_30 ?_
        refine lv_iconst (v := 1) hx hb dX11_takenBy_31 (by decide) ?_
        refine ob_J (P := fun w4 => ∀ (H : Heap) (locs : List Loc) (ls : Array Slot), va_P D vwCl [(a_t, .inr (11, [.ref a_signs, .int v_signMany, .int v_seats, .ref a_links, .ref a_worths, .int v_bearIs, .ref a_far, .ref a_mays, .ref a_rowsTo, .ref a_endIn, .long v_rowsAll, .ref a_ends, .ref a_pairSets, .ref a_awayIn, .ref a_now, .ref a_then, .long v_awayUpper, .long v_lower, .ref a_comers, .int v_comerMany, .ref a_seen, .ref a_seenMany, .int v_seenRows, .ref a_kept, .ref a_isKept, .int v_place, .int v_isWriting])), (a_far, eI cI 144 v_far), (a_worths, eI cI 12 v_worths)] H → va_S A s.heap H locs → lv_has ls 8 [(0, .ref a_t), (1, .int x1), (2, .int x2), (3, .int u1), (4, .int w4.1), (5, .int w4.2), (6, .int y6_16)] → W p l e { frames := 3, cells := 0, slots := 0, locals := 69 } s m args below meth c H locs 0 0 Q (F0 m 65 ls [])) hf ?_ ?_
        · intro w4 hf H locs ls hP hS hl
          refine lv_iinc (v := (y6_16 + 1)) (lv' := [(6, .int (y6_16 + 1)), (0, .ref a_t), (1, .int x1), (2, .int x2), (3, .int u1), (4, .int w4.1), (5, .int w4.2)]) hx hb dX11_takenBy_65 hl (k := 6) rfl rfl (by decide) rfl (fun ls hl => ?_)
          refine lv_goto (tgt := 16) hx hb dX11_takenBy_68 (by decide) ?_
          exact ih w4.1 w4.2 (y6_16 + 1) _ _ _ _ hf hP hS (lv_sub hl [1, 2, 3, 4, 5, 6, 0] rfl) kk
        · intro J65_5 hf
          refine lv_icmp_ne (tgt := 65) hx hb dX11_takenBy_32 (by decide) (fun c6 => ?_) (fun c6 => ?_)
          · have hf := ob_fk c6 hf
            exact J65_5 (y4_16, y5_16) hf _ _ _ hP hS (lv_sub hl [0, 1, 2, 3, 4, 5, 6] rfl)
          · have hf := ob_tk c6 hf
            refine lv_aload_n hx hb dX11_takenBy_35 rfl (lv_at hl 0 rfl) ?_
            refine lv_iload hx hb dX11_takenBy_36 (lv_at hl 6 rfl) ?_
            refine lv_iload_n hx hb dX11_takenBy_38 rfl (lv_at hl 1 rfl) ?_
            refine lv_iload_n hx hb dX11_takenBy_39 rfl (lv_at hl 2 rfl) ?_
            obtain ⟨u7, hu7, hf⟩ := ob_bk hf
            refine iv_X11_118 (As := [.int y6_16, .int x1, .int x2]) (rest := []) (is := [0, 1, 2]) (q0 := 0) (X' := [(a_t, .inr (11, [.ref a_signs, .int v_signMany, .int v_seats, .ref a_links, .ref a_worths, .int v_bearIs, .ref a_far, .ref a_mays, .ref a_rowsTo, .ref a_endIn, .long v_rowsAll, .ref a_ends, .ref a_pairSets, .ref a_awayIn, .ref a_now, .ref a_then, .long v_awayUpper, .long v_lower, .ref a_comers, .int v_comerMany, .ref a_seen, .ref a_seenMany, .int v_seenRows, .ref a_kept, .ref a_isKept, .int v_place, .int v_isWriting])), (a_far, eI cI 144 v_far), (a_worths, eI cI 12 v_worths)]) Cx (c_X11_rankOf l D cI cJ cZ cO a_t a_signs a_links a_worths a_far a_mays a_rowsTo a_endIn a_ends a_pairSets a_awayIn a_now a_then a_comers a_seen a_seenMany a_kept a_isKept v_signMany v_seats v_bearIs v_rowsAll v_awayUpper v_lower v_comerMany v_seenRows v_place v_isWriting v_far v_worths y6_16 x1 x2 u7 hu7) hP hS rfl rfl rfl rfl rfl rfl rfl hl.1 (Nat.le_of_ble_eq_true rfl) dX11_takenBy_40 rfl rfl ⟨Nat.le_of_ble_eq_true rfl, Nat.le_of_ble_eq_true rfl⟩ ⟨Nat.zero_le _, Nat.zero_le _⟩ rfl (fun H locs hP hS => ?_)
            refine lv_istore (lv' := [(7, .int u7), (0, .ref a_t), (1, .int x1), (2, .int x2), (3, .int u1), (4, .int y4_16), (5, .int y5_16), (6, .int y6_16)]) hx hb dX11_takenBy_43 hl (by decide) rfl (fun ls hl => ?_)
            refine lv_iload hx hb dX11_takenBy_45 (lv_at hl 5 rfl) ?_
            refine lv_if_lt (tgt := 57) hx hb dX11_takenBy_47 (by decide) (fun c8 => ?_) (fun c8 => ?_)
            · have hf := ob_tk c8 hf
              refine lv_iload hx hb dX11_takenBy_57 (lv_at hl 7 rfl) ?_
              refine lv_istore (lv' := [(4, .int y6_16), (7, .int u7), (0, .ref a_t), (1, .int x1), (2, .int x2), (3, .int u1), (5, .int y5_16), (6, .int y6_16)]) hx hb dX11_takenBy_59 hl (by decide) rfl (fun ls hl => ?_)
              refine lv_iload hx hb dX11_takenBy_61 (lv_at hl 1 rfl) ?_
              refine lv_istore (lv' := [(5, .int u7), (4, .int y6_16), (7, .int u7), (0, .ref a_t), (1, .int x1), (2, .int x2), (3, .int u1), (6, .int y6_16)]) hx hb dX11_takenBy_63 hl (by decide) rfl (fun ls hl => ?_)
              exact J65_5 (y6_16, u7) hf _ _ _ hP hS (lv_sub hl [3, 4, 5, 6, 1, 0, 7] rfl)
            · have hf := ob_fk c8 hf
              refine lv_iload hx hb dX11_takenBy_50 (lv_at hl 0 rfl) ?_
              refine lv_iload hx hb dX11_takenBy_52 (lv_at hl 6 rfl) ?_
              refine lv_icmp_le (tgt := 65) hx hb dX11_takenBy_54 (by decide) (fun c9 => ?_) (fun c9 => ?_)
              · have hf := ob_tk c9 hf
                exact J65_5 (y4_16, y5_16) hf _ _ _ hP hS (lv_sub hl [1, 2, 3, 4, 5, 6, 7] rfl)
              · have hf := ob_fk c9 hf
                refine lv_iload hx hb dX11_takenBy_57 (lv_at hl 7 rfl) ?_
                refine lv_istore (lv' := [(4, .int y6_16), (7, .int u7), (0, .ref a_t), (1, .int x1), (2, .int x2), (3, .int u1), (5, .int y5_16), (6, .int y6_16)]) hx hb dX11_takenBy_59 hl (by decide) rfl (fun ls hl => ?_)
                refine lv_iload hx hb dX11_takenBy_61 (lv_at hl 1 rfl) ?_
                refine lv_istore (lv' := [(5, .int u7), (4, .int y6_16), (7, .int u7), (0, .ref a_t), (1, .int x1), (2, .int x2), (3, .int u1), (6, .int y6_16)]) hx hb dX11_takenBy_63 hl (by decide) rfl (fun ls hl => ?_)
                exact J65_5 (y6_16, u7) hf _ _ _ hP hS (lv_sub hl [3, 4, 5, 6, 1, 0, 7] rfl)
  obtain ⟨u10, hu10, hf⟩ := ob_b hf
  refine L16_2 FU (-6 : Int32) (0 : Int32) (0 : Int32) u10 _ _ _ hu10 hP hS (lv_sub hl [4, 5, 6, 3, 2, 1, 0] rfl) ?_
  intro H locs ls hP hS hl
  refine lv_iload hx hb dX11_takenBy_71 (lv_at hl 0 rfl) ?_
  obtain rfl := Option.some.inj hf
  exact ret _ _ _ _ dX11_takenBy_73 hP hS

def f_X11_filledBy_10 (v_seats : Int32) (v_bearIs : Int32) (v_far : Nat → Int32) (v_worths : Nat → Int32) (x2 : Int32) : Nat → Int32 → Int32 → Option (Int32)
  | 0, _, _ => none
  | n + 1, y3_10, y4_10 =>
  if y4_10 < 0 then
  some (y3_10)
  else
  (f_X11_takenBy v_seats v_bearIs v_far v_worths (y3_10 ||| ((1 : Int32) <<< (y4_10 &&& 31))) x2).bind (fun u4 =>
  f_X11_filledBy_10 v_seats v_bearIs v_far v_worths x2 n (y3_10 ||| ((1 : Int32) <<< (y4_10 &&& 31))) u4)
theorem f_X11_filledBy_10_s (v_seats : Int32) (v_bearIs : Int32) (v_far : Nat → Int32) (v_worths : Nat → Int32) (x2 : Int32) (n : Nat) (y3_10 : Int32) (y4_10 : Int32) : f_X11_filledBy_10 v_seats v_bearIs v_far v_worths x2 (n + 1) y3_10 y4_10 =
  (if y4_10 < 0 then
  some (y3_10)
  else
  (f_X11_takenBy v_seats v_bearIs v_far v_worths (y3_10 ||| ((1 : Int32) <<< (y4_10 &&& 31))) x2).bind (fun u4 =>
  f_X11_filledBy_10 v_seats v_bearIs v_far v_worths x2 n (y3_10 ||| ((1 : Int32) <<< (y4_10 &&& 31))) u4)) := rfl
def f_X11_filledBy (v_seats : Int32) (v_bearIs : Int32) (v_far : Nat → Int32) (v_worths : Nat → Int32) (x1 : Int32) (x2 : Int32) : Option (Int32) :=
  (f_X11_takenBy v_seats v_bearIs v_far v_worths x1 x2).bind (fun u1 =>
  (f_X11_filledBy_10 v_seats v_bearIs v_far v_worths x2 FU x1 u1).bind (fun u5 =>
  some (u5)))
set_option maxHeartbeats 4000000 in
set_option maxRecDepth 100000 in
theorem c_X11_filledBy (l : Launch) (D : va_G) (cI cJ cZ cO : ClassId) (a_t a_signs a_links a_worths a_far a_mays a_rowsTo a_endIn a_ends a_pairSets a_awayIn a_now a_then a_comers a_seen a_seenMany a_kept a_isKept : Nat) (v_signMany : Int32) (v_seats : Int32) (v_bearIs : Int32) (v_rowsAll : Int64) (v_awayUpper : Int64) (v_lower : Int64) (v_comerMany : Int32) (v_seenRows : Int32) (v_place : Int32) (v_isWriting : Int32) (v_far : Nat → Int32) (v_worths : Nat → Int32) (x1 : Int32) (x2 : Int32) (out : Int32) (hf : f_X11_filledBy v_seats v_bearIs v_far v_worths x1 x2 = some out) : MetR l yX11_filledBy (Cond.code yX11_filledBy cX11_filledBy 5 (some .int) :: tbG) { frames := 4, cells := 0, slots := 0, locals := 96 } D (tyL cI cJ cZ cO) [.ref a_t, .int x1, .int x2] [(a_t, .inr (11, [.ref a_signs, .int v_signMany, .int v_seats, .ref a_links, .ref a_worths, .int v_bearIs, .ref a_far, .ref a_mays, .ref a_rowsTo, .ref a_endIn, .long v_rowsAll, .ref a_ends, .ref a_pairSets, .ref a_awayIn, .ref a_now, .ref a_then, .long v_awayUpper, .long v_lower, .ref a_comers, .int v_comerMany, .ref a_seen, .ref a_seenMany, .int v_seenRows, .ref a_kept, .ref a_isKept, .int v_place, .int v_isWriting])), (a_far, eI cI 144 v_far), (a_worths, eI cI 12 v_worths)] (some (.int out)) [(a_t, .inr (11, [.ref a_signs, .int v_signMany, .int v_seats, .ref a_links, .ref a_worths, .int v_bearIs, .ref a_far, .ref a_mays, .ref a_rowsTo, .ref a_endIn, .long v_rowsAll, .ref a_ends, .ref a_pairSets, .ref a_awayIn, .ref a_now, .ref a_then, .long v_awayUpper, .long v_lower, .ref a_comers, .int v_comerMany, .ref a_seen, .ref a_seenMany, .int v_seenRows, .ref a_kept, .ref a_isKept, .int v_place, .int v_isWriting])), (a_far, eI cI 144 v_far), (a_worths, eI cI 12 v_worths)] := by
  refine ba_ofI RX11 [(0, .ref a_t), (1, .int x1), (2, .int x2)] (by decide +kernel) rfl (Nat.le_of_ble_eq_true rfl) rfl ?_
  intro p e s m args below meth c Q A Cx hP ret ls hl
  obtain ⟨⟨hx, hb, hml, hown, hts⟩, hK, hD, hA⟩ := id Cx
  have hS : va_S A s.heap s.heap [] := va_S.rf
  unfold f_X11_filledBy at hf
  refine lv_iload_n hx hb dX11_filledBy_0 rfl (lv_at hl 1 rfl) ?_
  refine lv_istore_n (lv' := [(3, .int x1), (0, .ref a_t), (1, .int x1), (2, .int x2)]) hx hb dX11_filledBy_1 rfl hl (by decide) rfl (fun ls hl => ?_)
  refine lv_aload_n hx hb dX11_filledBy_2 rfl (lv_at hl 1 rfl) ?_
  refine lv_iload_n hx hb dX11_filledBy_3 rfl (lv_at hl 0 rfl) ?_
  refine lv_iload_n hx hb dX11_filledBy_4 rfl (lv_at hl 3 rfl) ?_
  obtain ⟨u1, hu1, hf⟩ := ob_b hf
  refine iv_X11_122 (As := [.int x1, .int x2]) (rest := []) (is := [0, 1, 2]) (q0 := 0) (X' := [(a_t, .inr (11, [.ref a_signs, .int v_signMany, .int v_seats, .ref a_links, .ref a_worths, .int v_bearIs, .ref a_far, .ref a_mays, .ref a_rowsTo, .ref a_endIn, .long v_rowsAll, .ref a_ends, .ref a_pairSets, .ref a_awayIn, .ref a_now, .ref a_then, .long v_awayUpper, .long v_lower, .ref a_comers, .int v_comerMany, .ref a_seen, .ref a_seenMany, .int v_seenRows, .ref a_kept, .ref a_isKept, .int v_place, .int v_isWriting])), (a_far, eI cI 144 v_far), (a_worths, eI cI 12 v_worths)]) Cx (c_X11_takenBy l D cI cJ cZ cO a_t a_signs a_links a_worths a_far a_mays a_rowsTo a_endIn a_ends a_pairSets a_awayIn a_now a_then a_comers a_seen a_seenMany a_kept a_isKept v_signMany v_seats v_bearIs v_rowsAll v_awayUpper v_lower v_comerMany v_seenRows v_place v_isWriting v_far v_worths x1 x2 u1 hu1) hP hS rfl rfl rfl rfl rfl rfl rfl hl.1 (Nat.le_of_ble_eq_true rfl) dX11_filledBy_5 rfl rfl ⟨Nat.le_of_ble_eq_true rfl, Nat.le_of_ble_eq_true rfl⟩ ⟨Nat.zero_le _, Nat.zero_le _⟩ rfl (fun H locs hP hS => ?_)
  refine lv_istore (lv' := [(4, .int u1), (3, .int x1), (0, .ref a_t), (1, .int x1), (2, .int x2)]) hx hb dX11_filledBy_8 hl (by decide) rfl (fun ls hl => ?_)
  have L10_2 : ∀ (n : Nat) (y3_10 : Int32) (y4_10 : Int32) (o : Int32) (H : Heap) (locs : List Loc) (ls : Array Slot), f_X11_filledBy_10 v_seats v_bearIs v_far v_worths x2 n y3_10 y4_10 = some o → va_P D vwCl [(a_t, .inr (11, [.ref a_signs, .int v_signMany, .int v_seats, .ref a_links, .ref a_worths, .int v_bearIs, .ref a_far, .ref a_mays, .ref a_rowsTo, .ref a_endIn, .long v_rowsAll, .ref a_ends, .ref a_pairSets, .ref a_awayIn, .ref a_now, .ref a_then, .long v_awayUpper, .long v_lower, .ref a_comers, .int v_comerMany, .ref a_seen, .ref a_seenMany, .int v_seenRows, .ref a_kept, .ref a_isKept, .int v_place, .int v_isWriting])), (a_far, eI cI 144 v_far), (a_worths, eI cI 12 v_worths)] H → va_S A s.heap H locs → lv_has ls 5 [(0, .ref a_t), (2, .int x2), (3, .int y3_10), (4, .int y4_10)] → (∀ (H : Heap) (locs : List Loc) (ls : Array Slot), va_P D vwCl [(a_t, .inr (11, [.ref a_signs, .int v_signMany, .int v_seats, .ref a_links, .ref a_worths, .int v_bearIs, .ref a_far, .ref a_mays, .ref a_rowsTo, .ref a_endIn, .long v_rowsAll, .ref a_ends, .ref a_pairSets, .ref a_awayIn, .ref a_now, .ref a_then, .long v_awayUpper, .long v_lower, .ref a_comers, .int v_comerMany, .ref a_seen, .ref a_seenMany, .int v_seenRows, .ref a_kept, .ref a_isKept, .int v_place, .int v_isWriting])), (a_far, eI cI 144 v_far), (a_worths, eI cI 12 v_worths)] H → va_S A s.heap H locs → lv_has ls 5 [(3, .int o)] → W p l e { frames := 4, cells := 0, slots := 0, locals := 96 } s m args below meth c H locs 0 0 Q (F0 m 33 ls [])) → W p l e { frames := 4, cells := 0, slots := 0, locals := 96 } s m args below meth c H locs 0 0 Q (F0 m 10 ls []) := by
    intro n
    induction n with
    | zero => intro y3_10 y4_10 o H locs ls hf; exact (ob_n hf).elim
    | succ n ih =>
      intro y3_10 y4_10 o H locs ls hf hP hS hl kk
      rw [f_X11_filledBy_10_s] at hf
      refine lv_iload hx hb dX11_filledBy_10 (lv_at hl 3 rfl) ?_
      refine lv_if_lt (tgt := 33) hx hb dX11_filledBy_12 (by decide) (fun c3 => ?_) (fun c3 => ?_)
      · have hf := ob_t c3 hf
        obtain rfl := Option.some.inj hf
        exact kk _ _ _ hP hS (lv_sub hl [2] rfl)
      · have hf := ob_f c3 hf
        refine lv_iload_n hx hb dX11_filledBy_15 rfl (lv_at hl 2 rfl) ?_
        refine lv_iconst (v := 1) hx hb dX11_filledBy_16 (by decide) ?_
        refine lv_iload hx hb dX11_filledBy_17 (lv_at hl 3 rfl) ?_
        refine lv_ishl hx hb dX11_filledBy_19 ?_
        refine lv_ior hx hb dX11_filledBy_20 ?_
        refine lv_istore_n (lv' := [(3, .int (y3_10 ||| ((1 : Int32) <<< (y4_10 &&& 31)))), (0, .ref a_t), (2, .int x2), (4, .int y4_10)]) hx hb dX11_filledBy_21 rfl hl (by decide) rfl (fun ls hl => ?_)
        refine lv_aload_n hx hb dX11_filledBy_22 rfl (lv_at hl 1 rfl) ?_
        refine lv_iload_n hx hb dX11_filledBy_23 rfl (lv_at hl 0 rfl) ?_
        refine lv_iload_n hx hb dX11_filledBy_24 rfl (lv_at hl 2 rfl) ?_
        obtain ⟨u4, hu4, hf⟩ := ob_b hf
        refine iv_X11_122 (As := [.int (y3_10 ||| ((1 : Int32) <<< (y4_10 &&& 31))), .int x2]) (rest := []) (is := [0, 1, 2]) (q0 := 0) (X' := [(a_t, .inr (11, [.ref a_signs, .int v_signMany, .int v_seats, .ref a_links, .ref a_worths, .int v_bearIs, .ref a_far, .ref a_mays, .ref a_rowsTo, .ref a_endIn, .long v_rowsAll, .ref a_ends, .ref a_pairSets, .ref a_awayIn, .ref a_now, .ref a_then, .long v_awayUpper, .long v_lower, .ref a_comers, .int v_comerMany, .ref a_seen, .ref a_seenMany, .int v_seenRows, .ref a_kept, .ref a_isKept, .int v_place, .int v_isWriting])), (a_far, eI cI 144 v_far), (a_worths, eI cI 12 v_worths)]) Cx (c_X11_takenBy l D cI cJ cZ cO a_t a_signs a_links a_worths a_far a_mays a_rowsTo a_endIn a_ends a_pairSets a_awayIn a_now a_then a_comers a_seen a_seenMany a_kept a_isKept v_signMany v_seats v_bearIs v_rowsAll v_awayUpper v_lower v_comerMany v_seenRows v_place v_isWriting v_far v_worths (y3_10 ||| ((1 : Int32) <<< (y4_10 &&& 31))) x2 u4 hu4) hP hS rfl rfl rfl rfl rfl rfl rfl hl.1 (Nat.le_of_ble_eq_true rfl) dX11_filledBy_25 rfl rfl ⟨Nat.le_of_ble_eq_true rfl, Nat.le_of_ble_eq_true rfl⟩ ⟨Nat.zero_le _, Nat.zero_le _⟩ rfl (fun H locs hP hS => ?_)
        refine lv_istore (lv' := [(4, .int u4), (3, .int (y3_10 ||| ((1 : Int32) <<< (y4_10 &&& 31)))), (0, .ref a_t), (2, .int x2)]) hx hb dX11_filledBy_28 hl (by decide) rfl (fun ls hl => ?_)
        refine lv_goto (tgt := 10) hx hb dX11_filledBy_30 (by decide) ?_
        exact ih (y3_10 ||| ((1 : Int32) <<< (y4_10 &&& 31))) u4 _ _ _ _ hf hP hS (lv_sub hl [2, 3, 1, 0] rfl) kk
  obtain ⟨u5, hu5, hf⟩ := ob_b hf
  refine L10_2 FU x1 u1 u5 _ _ _ hu5 hP hS (lv_sub hl [2, 4, 1, 0] rfl) ?_
  intro H locs ls hP hS hl
  refine lv_iload_n hx hb dX11_filledBy_33 rfl (lv_at hl 0 rfl) ?_
  obtain rfl := Option.some.inj hf
  exact ret _ _ _ _ dX11_filledBy_34 hP hS

