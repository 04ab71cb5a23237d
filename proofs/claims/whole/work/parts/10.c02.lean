def f_X3_beyond (v_between : Nat → Int32) (x1 : Int32) : Option (Int32) :=
  (if (2 : Int32) ≤ x1 then
  (aget 201 v_between (x1 - (1 : Int32))).bind (fun u4 =>
  some ((1 : Int32) + u4))
  else
  some (0 : Int32)).bind (fun w1 =>
  some (w1))
set_option maxHeartbeats 4000000 in
set_option maxRecDepth 100000 in
theorem c_X3_beyond (l : Launch) (D : va_G) (cI cJ cZ cO : ClassId) (a_t a_between : Nat) (v_between : Nat → Int32) (x1 : Int32) (out : Int32) (hf : f_X3_beyond v_between x1 = some out) : MetR l yX3_beyond (Cond.code yX3_beyond cX3_beyond 2 (some .int) :: tbG) { frames := 0, cells := 0, slots := 0, locals := 0 } D (tyL cI cJ cZ cO) [.ref a_t, .int x1] [(a_t, .inr (3, [.ref a_between])), (a_between, eI cI 201 v_between)] (some (.int out)) [(a_t, .inr (3, [.ref a_between])), (a_between, eI cI 201 v_between)] := by
  refine ba_ofI RX3 [(0, .ref a_t), (1, .int x1)] (by decide +kernel) rfl (Nat.le_of_ble_eq_true rfl) rfl ?_
  intro p e s m args below meth c Q A Cx hP ret ls hl
  obtain ⟨⟨hx, hb, hml, hown, hts⟩, hK, hD, hA⟩ := id Cx
  have hS : va_S A s.heap s.heap [] := va_S.rf
  unfold f_X3_beyond at hf
  refine lv_iload_n hx hb dX3_beyond_0 rfl (lv_at hl 1 rfl) ?_
  refine lv_iconst (v := 2) hx hb dX3_beyond_1 (by decide) ?_
  refine ob_J (P := fun w1 => ∀ (H : Heap) (locs : List Loc) (ls : Array Slot), va_P D vwCl [(a_t, .inr (3, [.ref a_between])), (a_between, eI cI 201 v_between)] H → va_S A s.heap H locs → lv_has ls 2 [] → W p l e { frames := 0, cells := 0, slots := 0, locals := 0 } s m args below meth c H locs 0 0 Q (F0 m 19 ls [.int w1])) hf ?_ ?_
  · intro w1 hf H locs ls hP hS hl
    obtain rfl := Option.some.inj hf
    exact ret _ _ _ _ dX3_beyond_19 hP hS
  · intro J19_2 hf
    refine lv_icmp_ge (tgt := 9) hx hb dX3_beyond_2 (by decide) (fun c3 => ?_) (fun c3 => ?_)
    · have hf := ob_tk c3 hf
      refine lv_iconst (v := 1) hx hb dX3_beyond_9 (by decide) ?_
      refine lv_aload_n hx hb dX3_beyond_10 rfl (lv_at hl 0 rfl) ?_
      refine gf_X3_9 Cx hP 0 rfl rfl dX3_beyond_11 ?_
      refine lv_iload_n hx hb dX3_beyond_14 rfl (lv_at hl 1 rfl) ?_
      refine lv_iconst (v := 1) hx hb dX3_beyond_15 (by decide) ?_
      refine lv_isub hx hb dX3_beyond_16 ?_
      obtain ⟨u4, hu4, hf⟩ := ob_bk hf
      refine ba_iald Cx hP 1 rfl hu4 dX3_beyond_17 ?_
      refine lv_iadd hx hb dX3_beyond_18 ?_
      exact J19_2 ((1 : Int32) + u4) hf _ _ _ hP hS (lv_sub hl [] rfl)
    · have hf := ob_fk c3 hf
      refine lv_iconst (v := 0) hx hb dX3_beyond_5 (by decide) ?_
      refine lv_goto (tgt := 19) hx hb dX3_beyond_6 (by decide) ?_
      exact J19_2 (0 : Int32) hf _ _ _ hP hS (lv_sub hl [] rfl)

def f_X3_comeIn (v_between : Nat → Int32) (x1 : Int32) (x2 : Int32) : Option (Int32) :=
  (f_X3_beyond v_between x2).bind (fun u1 =>
  (f_X3_beyond v_between ((x1 - (1 : Int32)) - x2)).bind (fun u2 =>
  some (((1 : Int32) + u1) + u2)))
set_option maxHeartbeats 4000000 in
set_option maxRecDepth 100000 in
theorem c_X3_comeIn (l : Launch) (D : va_G) (cI cJ cZ cO : ClassId) (a_t a_between : Nat) (v_between : Nat → Int32) (x1 : Int32) (x2 : Int32) (out : Int32) (hf : f_X3_comeIn v_between x1 x2 = some out) : MetR l yX3_comeIn (Cond.code yX3_comeIn cX3_comeIn 3 (some .int) :: tbG) { frames := 1, cells := 0, slots := 0, locals := 21 } D (tyL cI cJ cZ cO) [.ref a_t, .int x1, .int x2] [(a_t, .inr (3, [.ref a_between])), (a_between, eI cI 201 v_between)] (some (.int out)) [(a_t, .inr (3, [.ref a_between])), (a_between, eI cI 201 v_between)] := by
  refine ba_ofI RX3 [(0, .ref a_t), (1, .int x1), (2, .int x2)] (by decide +kernel) rfl (Nat.le_of_ble_eq_true rfl) rfl ?_
  intro p e s m args below meth c Q A Cx hP ret ls hl
  obtain ⟨⟨hx, hb, hml, hown, hts⟩, hK, hD, hA⟩ := id Cx
  have hS : va_S A s.heap s.heap [] := va_S.rf
  unfold f_X3_comeIn at hf
  refine lv_iconst (v := 1) hx hb dX3_comeIn_0 (by decide) ?_
  refine lv_aload_n hx hb dX3_comeIn_1 rfl (lv_at hl 0 rfl) ?_
  refine lv_iload_n hx hb dX3_comeIn_2 rfl (lv_at hl 2 rfl) ?_
  obtain ⟨u1, hu1, hf⟩ := ob_b hf
  refine iv_X3_15 (As := [.int x2]) (rest := [.int (1 : Int32)]) (is := [0, 1]) (q0 := 0) (X' := [(a_t, .inr (3, [.ref a_between])), (a_between, eI cI 201 v_between)]) Cx (c_X3_beyond l D cI cJ cZ cO a_t a_between v_between x2 u1 hu1) hP hS rfl rfl rfl rfl rfl rfl rfl hl.1 (Nat.le_of_ble_eq_true rfl) dX3_comeIn_3 rfl rfl ⟨Nat.le_of_ble_eq_true rfl, Nat.le_of_ble_eq_true rfl⟩ ⟨Nat.zero_le _, Nat.zero_le _⟩ rfl (fun H locs hP hS => ?_)
  refine lv_iadd hx hb dX3_comeIn_6 ?_
  refine lv_aload_n hx hb dX3_comeIn_7 rfl (lv_at hl 0 rfl) ?_
  refine lv_iload_n hx hb dX3_comeIn_8 rfl (lv_at hl 1 rfl) ?_
  refine lv_iconst (v := 1) hx hb dX3_comeIn_9 (by decide) ?_
  refine lv_isub hx hb dX3_comeIn_10 ?_
  refine lv_iload_n hx hb dX3_comeIn_11 rfl (lv_at hl 2 rfl) ?_
  refine lv_isub hx hb dX3_comeIn_12 ?_
  obtain ⟨u2, hu2, hf⟩ := ob_b hf
  refine iv_X3_15 (As := [.int ((x1 - (1 : Int32)) - x2)]) (rest := [.int ((1 : Int32) + u1)]) (is := [0, 1]) (q0 := 0) (X' := [(a_t, .inr (3, [.ref a_between])), (a_between, eI cI 201 v_between)]) Cx (c_X3_beyond l D cI cJ cZ cO a_t a_between v_between ((x1 - (1 : Int32)) - x2) u2 hu2) hP hS rfl rfl rfl rfl rfl rfl rfl hl.1 (Nat.le_of_ble_eq_true rfl) dX3_comeIn_13 rfl rfl ⟨Nat.le_of_ble_eq_true rfl, Nat.le_of_ble_eq_true rfl⟩ ⟨Nat.zero_le _, Nat.zero_le _⟩ rfl (fun H locs hP hS => ?_)
  refine lv_iadd hx hb dX3_comeIn_16 ?_
  obtain rfl := Option.some.inj hf
  exact ret _ _ _ _ dX3_comeIn_17 hP hS

def f_X4_settle_34 (v_wicked : Nat → Int32) (v_kind : Nat → Int32) (x1 : Int32) (x2 : Int32) (x3 : Int32) : Nat → Int32 → Int32 → Int32 → Option (Int32 × Int32)
  | 0, _, _, _ => none
  | n + 1, y5_34, y6_34, y7_34 =>
  if x3 ≤ y7_34 then
  some (y5_34, y6_34)
  else
  (if ((x2 >>> (y7_34 &&& 31)) &&& (1 : Int32)) = 0 then
  some (y5_34, y6_34)
  else
  (aget 4096 v_wicked (x1 ||| ((1 : Int32) <<< (y7_34 &&& 31)))).bind (fun u11 =>
  (aget 4096 v_kind (x1 ||| ((1 : Int32) <<< (y7_34 &&& 31)))).bind (fun u12 =>
  some ((imax y5_34 u11), (imin y6_34 u12))))).bind (fun w8 =>
  f_X4_settle_34 v_wicked v_kind x1 x2 x3 n w8.1 w8.2 (y7_34 + 1))
theorem f_X4_settle_34_s (v_wicked : Nat → Int32) (v_kind : Nat → Int32) (x1 : Int32) (x2 : Int32) (x3 : Int32) (n : Nat) (y5_34 : Int32) (y6_34 : Int32) (y7_34 : Int32) : f_X4_settle_34 v_wicked v_kind x1 x2 x3 (n + 1) y5_34 y6_34 y7_34 =
  (if x3 ≤ y7_34 then
  some (y5_34, y6_34)
  else
  (if ((x2 >>> (y7_34 &&& 31)) &&& (1 : Int32)) = 0 then
  some (y5_34, y6_34)
  else
  (aget 4096 v_wicked (x1 ||| ((1 : Int32) <<< (y7_34 &&& 31)))).bind (fun u11 =>
  (aget 4096 v_kind (x1 ||| ((1 : Int32) <<< (y7_34 &&& 31)))).bind (fun u12 =>
  some ((imax y5_34 u11), (imin y6_34 u12))))).bind (fun w8 =>
  f_X4_settle_34 v_wicked v_kind x1 x2 x3 n w8.1 w8.2 (y7_34 + 1))) := rfl
def f_X4_settle (v_wicked : Nat → Int32) (v_kind : Nat → Int32) (x1 : Int32) (x2 : Int32) (x3 : Int32) : Option ((Nat → Int32) × (Nat → Int32)) :=
  (f_J6_bitCount_0f7a4 x1).bind (fun u1 =>
  (if x2 = 0 then
  some (u1)
  else
  some (0 : Int32)).bind (fun w2 =>
  (if x2 = 0 then
  some (u1)
  else
  some (12 : Int32)).bind (fun w4 =>
  (f_X4_settle_34 v_wicked v_kind x1 x2 x3 FU w2 w4 (0 : Int32)).bind (fun u13 =>
  (asetI 4096 v_kind x1 u13.1).bind (fun u14 =>
  (asetI 4096 v_wicked x1 u13.2).bind (fun u15 =>
  some (u15, u14)))))))
set_option maxHeartbeats 4000000 in
set_option maxRecDepth 100000 in
theorem c_X4_settle (l : Launch) (D : va_G) (cI cJ cZ cO : ClassId) (a_t a_kind a_wicked : Nat) (v_known : Int32) (v_wicked : Nat → Int32) (v_kind : Nat → Int32) (x1 : Int32) (x2 : Int32) (x3 : Int32) (out : (Nat → Int32) × (Nat → Int32)) (hf : f_X4_settle v_wicked v_kind x1 x2 x3 = some out) : MetR l yX4_settle (Cond.code yX4_settle cX4_settle 8 none :: tbG) { frames := 1, cells := 0, slots := 0, locals := 21 } D (tyL cI cJ cZ cO) [.ref a_t, .int x1, .int x2, .int x3] [(a_t, .inr (4, [.ref a_kind, .ref a_wicked, .int v_known])), (a_wicked, eI cI 4096 v_wicked), (a_kind, eI cI 4096 v_kind)] none [(a_t, .inr (4, [.ref a_kind, .ref a_wicked, .int v_known])), (a_wicked, eI cI 4096 out.1), (a_kind, eI cI 4096 out.2)] := by
  refine ba_ofV RX4 [(0, .ref a_t), (1, .int x1), (2, .int x2), (3, .int x3)] (by decide +kernel) rfl (Nat.le_of_ble_eq_true rfl) rfl ?_
  intro p e s m args below meth c Q A Cx hP ret ls hl
  obtain ⟨⟨hx, hb, hml, hown, hts⟩, hK, hD, hA⟩ := id Cx
  have hS : va_S A s.heap s.heap [] := va_S.rf
  unfold f_X4_settle at hf
  refine lv_iload_n hx hb dX4_settle_0 rfl (lv_at hl 1 rfl) ?_
  obtain ⟨u1, hu1, hf⟩ := ob_b hf
  refine iv_X4_63 (As := [.int x1]) (rest := []) (is := []) (X' := [(a_t, .inr (4, [.ref a_kind, .ref a_wicked, .int v_known])), (a_wicked, eI cI 4096 v_wicked), (a_kind, eI cI 4096 v_kind)]) Cx (c_J6_bitCount_0f7a4 l D cI cJ cZ cO  x1 u1 hu1) hP hS rfl rfl rfl rfl rfl rfl hl.1 (Nat.le_of_ble_eq_true rfl) dX4_settle_1 rfl rfl ⟨Nat.le_of_ble_eq_true rfl, Nat.le_of_ble_eq_true rfl⟩ ⟨Nat.zero_le _, Nat.zero_le _⟩ rfl (fun H locs hP hS => ?_)
  refine lv_istore (lv' := [(4, .int u1), (0, .ref a_t), (1, .int x1), (2, .int x2), (3, .int x3)]) hx hb dX4_settle_4 hl (by decide) rfl (fun ls hl => ?_)
  refine lv_iload_n hx hb dX4_settle_6 rfl (lv_at hl 3 rfl) ?_
  refine ob_J (P := fun w2 => ∀ (H : Heap) (locs : List Loc) (ls : Array Slot), va_P D vwCl [(a_t, .inr (4, [.ref a_kind, .ref a_wicked, .int v_known])), (a_wicked, eI cI 4096 v_wicked), (a_kind, eI cI 4096 v_kind)] H → va_S A s.heap H locs → lv_has ls 8 [(0, .ref a_t), (1, .int x1), (2, .int x2), (3, .int x3), (4, .int u1)] → W p l e { frames := 1, cells := 0, slots := 0, locals := 21 } s m args below meth c H locs 0 0 Q (F0 m 16 ls [.int w2])) hf ?_ ?_
  · intro w2 hf H locs ls hP hS hl
    refine lv_istore (lv' := [(5, .int w2), (0, .ref a_t), (1, .int x1), (2, .int x2), (3, .int x3), (4, .int u1)]) hx hb dX4_settle_16 hl (by decide) rfl (fun ls hl => ?_)
    refine lv_iload_n hx hb dX4_settle_18 rfl (lv_at hl 3 rfl) ?_
    refine ob_J (P := fun w4 => ∀ (H : Heap) (locs : List Loc) (ls : Array Slot), va_P D vwCl [(a_t, .inr (4, [.ref a_kind, .ref a_wicked, .int v_known])), (a_wicked, eI cI 4096 v_wicked), (a_kind, eI cI 4096 v_kind)] H → va_S A s.heap H locs → lv_has ls 8 [(0, .ref a_t), (1, .int x1), (2, .int x2), (3, .int x3), (5, .int w2)] → W p l e { frames := 1, cells := 0, slots := 0, locals := 21 } s m args below meth c H locs 0 0 Q (F0 m 29 ls [.int w4])) hf ?_ ?_
    · intro w4 hf H locs ls hP hS hl
      refine lv_istore (lv' := [(6, .int w4), (0, .ref a_t), (1, .int x1), (2, .int x2), (3, .int x3), (5, .int w2)]) hx hb dX4_settle_29 hl (by decide) rfl (fun ls hl => ?_)
      refine lv_iconst (v := 0) hx hb dX4_settle_31 (by decide) ?_
      refine lv_istore (lv' := [(7, .int (0 : Int32)), (6, .int w4), (0, .ref a_t), (1, .int x1), (2, .int x2), (3, .int x3), (5, .int w2)]) hx hb dX4_settle_32 hl (by decide) rfl (fun ls hl => ?_)
      have L34_6 : ∀ (n : Nat) (y5_34 : Int32) (y6_34 : Int32) (y7_34 : Int32) (o : Int32 × Int32) (H : Heap) (locs : List Loc) (ls : Array Slot), f_X4_settle_34 v_wicked v_kind x1 x2 x3 n y5_34 y6_34 y7_34 = some o → va_P D vwCl [(a_t, .inr (4, [.ref a_kind, .ref a_wicked, .int v_known])), (a_wicked, eI cI 4096 v_wicked), (a_kind, eI cI 4096 v_kind)] H → va_S A s.heap H locs → lv_has ls 8 [(0, .ref a_t), (1, .int x1), (2, .int x2), (3, .int x3), (5, .int y5_34), (6, .int y6_34), (7, .int y7_34)] → (∀ (H : Heap) (locs : List Loc) (ls : Array Slot), va_P D vwCl [(a_t, .inr (4, [.ref a_kind, .ref a_wicked, .int v_known])), (a_wicked, eI cI 4096 v_wicked), (a_kind, eI cI 4096 v_kind)] H → va_S A s.heap H locs → lv_has ls 8 [(0, .ref a_t), (1, .int x1), (5, .int o.1), (6, .int o.2)] → W p l e { frames := 1, cells := 0, slots := 0, locals := 21 } s m args below meth c H locs 0 0 Q (F0 m 91 ls [])) → W p l e { frames := 1, cells := 0, slots := 0, locals := 21 } s m args below meth c H locs 0 0 Q (F0 m 34 ls []) := by
        intro n
        induction n with
        | zero => intro y5_34 y6_34 y7_34 o H locs ls hf; exact (ob_n hf).elim
        | succ n ih =>
          intro y5_34 y6_34 y7_34 o H locs ls hf hP hS hl kk
          rw [f_X4_settle_34_s] at hf
          refine lv_iload hx hb dX4_settle_34 (lv_at hl 6 rfl) ?_
          refine lv_iload_n hx hb dX4_settle_36 rfl (lv_at hl 3 rfl) ?_
          refine lv_icmp_ge (tgt := 91) hx hb dX4_settle_37 (by decide) (fun c7 => ?_) (fun c7 => ?_)
          · have hf := ob_t c7 hf
            obtain rfl := Option.some.inj hf
            exact kk _ _ _ hP hS (lv_sub hl [0, 1, 4, 5] rfl)
          · have hf := ob_f c7 hf
            refine lv_iload_n hx hb dX4_settle_40 rfl (lv_at hl 2 rfl) ?_
            refine lv_iload hx hb dX4_settle_41 (lv_at hl 6 rfl) ?_
            refine lv_ishr hx hb dX4_settle_43 ?_
            refine lv_iconst (v := 1) hx hb dX4_settle_44 (by decide) ?_
            refine lv_iand hx hb dX4_settle_45 ?_
            refine ob_J (P := fun w8 => ∀ (H : Heap) (locs : List Loc) (ls : Array Slot), va_P D vwCl [(a_t, .inr (4, [.ref a_kind, .ref a_wicked, .int v_known])), (a_wicked, eI cI 4096 v_wicked), (a_kind, eI cI 4096 v_kind)] H → va_S A s.heap H locs → lv_has ls 8 [(0, .ref a_t), (1, .int x1), (2, .int x2), (3, .int x3), (5, .int w8.1), (6, .int w8.2), (7, .int y7_34)] → W p l e { frames := 1, cells := 0, slots := 0, locals := 21 } s m args below meth c H locs 0 0 Q (F0 m 85 ls [])) hf ?_ ?_
            · intro w8 hf H locs ls hP hS hl
              refine lv_iinc (v := (y7_34 + 1)) (lv' := [(7, .int (y7_34 + 1)), (0, .ref a_t), (1, .int x1), (2, .int x2), (3, .int x3), (5, .int w8.1), (6, .int w8.2)]) hx hb dX4_settle_85 hl (k := 6) rfl rfl (by decide) rfl (fun ls hl => ?_)
              refine lv_goto (tgt := 34) hx hb dX4_settle_88 (by decide) ?_
              exact ih w8.1 w8.2 (y7_34 + 1) _ _ _ _ hf hP hS (lv_sub hl [1, 2, 3, 4, 5, 6, 0] rfl) kk
            · intro J85_9 hf
              refine lv_if_eq (tgt := 85) hx hb dX4_settle_46 (by decide) (fun c10 => ?_) (fun c10 => ?_)
              · have hf := ob_tk c10 hf
                exact J85_9 (y5_34, y6_34) hf _ _ _ hP hS (lv_sub hl [0, 1, 2, 3, 4, 5, 6] rfl)
              · have hf := ob_fk c10 hf
                refine lv_iload hx hb dX4_settle_49 (lv_at hl 4 rfl) ?_
                refine lv_aload_n hx hb dX4_settle_51 rfl (lv_at hl 0 rfl) ?_
                refine gf_X4_15 Cx hP 0 rfl rfl dX4_settle_52 ?_
                refine lv_iload_n hx hb dX4_settle_55 rfl (lv_at hl 1 rfl) ?_
                refine lv_iconst (v := 1) hx hb dX4_settle_56 (by decide) ?_
                refine lv_iload hx hb dX4_settle_57 (lv_at hl 6 rfl) ?_
                refine lv_ishl hx hb dX4_settle_59 ?_
                refine lv_ior hx hb dX4_settle_60 ?_
                obtain ⟨u11, hu11, hf⟩ := ob_bk hf
                refine ba_iald Cx hP 1 rfl hu11 dX4_settle_61 ?_
                refine ba_mmax Cx (hts _ kw_537) hl.1 (Nat.le_of_ble_eq_true rfl) (Nat.le_of_ble_eq_true rfl) (Nat.zero_le _) (Nat.zero_le _) dX4_settle_62 ?_
                refine lv_istore (lv' := [(5, .int (imax y5_34 u11)), (0, .ref a_t), (1, .int x1), (2, .int x2), (3, .int x3), (6, .int y6_34), (7, .int y7_34)]) hx hb dX4_settle_65 hl (by decide) rfl (fun ls hl => ?_)
                refine lv_iload hx hb dX4_settle_67 (lv_at hl 5 rfl) ?_
                refine lv_aload_n hx hb dX4_settle_69 rfl (lv_at hl 1 rfl) ?_
                refine gf_X4_9 Cx hP 0 rfl rfl dX4_settle_70 ?_
                refine lv_iload_n hx hb dX4_settle_73 rfl (lv_at hl 2 rfl) ?_
                refine lv_iconst (v := 1) hx hb dX4_settle_74 (by decide) ?_
                refine lv_iload hx hb dX4_settle_75 (lv_at hl 6 rfl) ?_
                refine lv_ishl hx hb dX4_settle_77 ?_
                refine lv_ior hx hb dX4_settle_78 ?_
                obtain ⟨u12, hu12, hf⟩ := ob_bk hf
                refine ba_iald Cx hP 2 rfl hu12 dX4_settle_79 ?_
                refine ba_mmin Cx (hts _ kw_540) hl.1 (Nat.le_of_ble_eq_true rfl) (Nat.le_of_ble_eq_true rfl) (Nat.zero_le _) (Nat.zero_le _) dX4_settle_80 ?_
                refine lv_istore (lv' := [(6, .int (imin y6_34 u12)), (5, .int (imax y5_34 u11)), (0, .ref a_t), (1, .int x1), (2, .int x2), (3, .int x3), (7, .int y7_34)]) hx hb dX4_settle_83 hl (by decide) rfl (fun ls hl => ?_)
                exact J85_9 ((imax y5_34 u11), (imin y6_34 u12)) hf _ _ _ hP hS (lv_sub hl [2, 3, 4, 5, 1, 0, 6] rfl)
      obtain ⟨u13, hu13, hf⟩ := ob_b hf
      refine L34_6 FU w2 w4 (0 : Int32) u13 _ _ _ hu13 hP hS (lv_sub hl [2, 3, 4, 5, 6, 1, 0] rfl) ?_
      intro H locs ls hP hS hl
      refine lv_aload_n hx hb dX4_settle_91 rfl (lv_at hl 0 rfl) ?_
      refine gf_X4_9 Cx hP 0 rfl rfl dX4_settle_92 ?_
      refine lv_iload_n hx hb dX4_settle_95 rfl (lv_at hl 1 rfl) ?_
      refine lv_iload hx hb dX4_settle_96 (lv_at hl 2 rfl) ?_
      obtain ⟨u14, hu14, hf⟩ := ob_b hf
      refine ba_iast (X' := [(a_t, .inr (4, [.ref a_kind, .ref a_wicked, .int v_known])), (a_wicked, eI cI 4096 v_wicked), (a_kind, eI cI 4096 u14)]) Cx hP hS rfl 2 rfl rfl hu14 dX4_settle_98 (fun H locs hP hS => ?_)
      refine lv_aload_n hx hb dX4_settle_99 rfl (lv_at hl 0 rfl) ?_
      refine gf_X4_15 Cx hP 0 rfl rfl dX4_settle_100 ?_
      refine lv_iload_n hx hb dX4_settle_103 rfl (lv_at hl 1 rfl) ?_
      refine lv_iload hx hb dX4_settle_104 (lv_at hl 3 rfl) ?_
      obtain ⟨u15, hu15, hf⟩ := ob_b hf
      refine ba_iast (X' := [(a_t, .inr (4, [.ref a_kind, .ref a_wicked, .int v_known])), (a_wicked, eI cI 4096 u15), (a_kind, eI cI 4096 u14)]) Cx hP hS rfl 1 rfl rfl hu15 dX4_settle_106 (fun H locs hP hS => ?_)
      obtain rfl := Option.some.inj hf
      exact ret _ _ _ _ dX4_settle_107 hP hS
    · intro J29_5 hf
      refine lv_if_ne (tgt := 27) hx hb dX4_settle_19 (by decide) (fun c16 => ?_) (fun c16 => ?_)
      · have hf := ob_fk c16 hf
        refine lv_bipush (v := 12) hx hb dX4_settle_27 (by decide) ?_
        exact J29_5 (12 : Int32) hf _ _ _ hP hS (lv_sub hl [1, 2, 3, 4, 0] rfl)
      · have hf := ob_tk c16 hf
        refine lv_iload hx hb dX4_settle_22 (lv_at hl 5 rfl) ?_
        refine lv_goto (tgt := 29) hx hb dX4_settle_24 (by decide) ?_
        exact J29_5 u1 hf _ _ _ hP hS (lv_sub hl [1, 2, 3, 4, 0] rfl)
  · intro J16_3 hf
    refine lv_if_ne (tgt := 15) hx hb dX4_settle_7 (by decide) (fun c17 => ?_) (fun c17 => ?_)
    · have hf := ob_fk c17 hf
      refine lv_iconst (v := 0) hx hb dX4_settle_15 (by decide) ?_
      exact J16_3 (0 : Int32) hf _ _ _ hP hS (lv_sub hl [1, 2, 3, 4, 0] rfl)
    · have hf := ob_tk c17 hf
      refine lv_iload hx hb dX4_settle_10 (lv_at hl 0 rfl) ?_
      refine lv_goto (tgt := 16) hx hb dX4_settle_12 (by decide) ?_
      exact J16_3 u1 hf _ _ _ hP hS (lv_sub hl [1, 2, 3, 4, 0] rfl)

def f_X4_play_37 (u3 : Int32 × Int32 × (Nat → Int32) × (Nat → Int32)) : Nat → Int32 → (Nat → Int32) → (Nat → Int32) → Option ((Nat → Int32) × (Nat → Int32))
  | 0, _, _, _ => none
  | n + 1, y3_37, z_wicked_37, z_kind_37 =>
  if y3_37 < 0 then
  some (z_wicked_37, z_kind_37)
  else
  (aget 4096 u3.2.2.1 y3_37).bind (fun u6 =>
  (aget 4096 u3.2.2.2 y3_37).bind (fun u7 =>
  (f_X4_settle z_wicked_37 z_kind_37 u6 u7 u3.2.1).bind (fun u8 =>
  f_X4_play_37 u3 n (y3_37 + (-1)) u8.1 u8.2)))
theorem f_X4_play_37_s (u3 : Int32 × Int32 × (Nat → Int32) × (Nat → Int32)) (n : Nat) (y3_37 : Int32) (z_wicked_37 : Nat → Int32) (z_kind_37 : Nat → Int32) : f_X4_play_37 u3 (n + 1) y3_37 z_wicked_37 z_kind_37 =
  (if y3_37 < 0 then
  some (z_wicked_37, z_kind_37)
  else
  (aget 4096 u3.2.2.1 y3_37).bind (fun u6 =>
  (aget 4096 u3.2.2.2 y3_37).bind (fun u7 =>
  (f_X4_settle z_wicked_37 z_kind_37 u6 u7 u3.2.1).bind (fun u8 =>
  f_X4_play_37 u3 n (y3_37 + (-1)) u8.1 u8.2)))) := rfl
def f_X4_play (v_known : Int32) (v_p1_scene_seats : Int32) (v_p2_size : Int32) (v_p2_places : Int32) (v_p2_filled : Nat → Int32) (v_p2_open : Nat → Int32) (v_p1_clash : Nat → Int32) (v_wicked : Nat → Int32) (v_kind : Nat → Int32) : Option (Int32 × Int32 × Int32 × (Nat → Int32) × (Nat → Int32) × (Nat → Int32) × (Nat → Int32)) :=
  if v_known = 0 then
  (f_X7_allSeats v_p1_scene_seats).bind (fun u2 =>
  (f_X8_list v_p2_filled v_p2_open v_p1_clash v_p1_scene_seats u2).bind (fun u3 =>
  (f_X4_play_37 u3 FU (u3.1 - (1 : Int32)) v_wicked v_kind).bind (fun u9 =>
  some ((1 : Int32), u3.1, u3.2.1, u3.2.2.1, u3.2.2.2, u9.1, u9.2))))
  else
  some (v_known, v_p2_size, v_p2_places, v_p2_filled, v_p2_open, v_wicked, v_kind)
set_option maxHeartbeats 4000000 in
set_option maxRecDepth 100000 in
theorem c_X4_play (l : Launch) (D : va_G) (cI cJ cZ cO : ClassId) (a_t a_kind a_wicked a_p1 a_p1_scene a_p1_apart a_p1_clash a_p1_neighbours a_p1_scene_steps a_p1_scene_worths a_p1_scene_comers a_p1_scene_seen a_p1_scene_seenLengths a_p2 a_p2_filled a_p2_open a_p2_chance : Nat) (v_known : Int32) (v_p1_scene_seats : Int32) (v_p1_scene_bear : Int32) (v_p1_scene_comerCount : Int32) (v_p1_scene_seenRows : Int32) (v_p2_size : Int32) (v_p2_places : Int32) (v_p2_filled : Nat → Int32) (v_p2_open : Nat → Int32) (v_p1_clash : Nat → Int32) (v_wicked : Nat → Int32) (v_kind : Nat → Int32) (out : Int32 × Int32 × Int32 × (Nat → Int32) × (Nat → Int32) × (Nat → Int32) × (Nat → Int32)) (hf : f_X4_play v_known v_p1_scene_seats v_p2_size v_p2_places v_p2_filled v_p2_open v_p1_clash v_wicked v_kind = some out) : MetR l yX4_play (Cond.code yX4_play cX4_play 4 none :: tbG) { frames := 2, cells := 0, slots := 0, locals := 48 } D (tyL cI cJ cZ cO) [.ref a_t, .ref a_p1, .ref a_p2] [(a_t, .inr (4, [.ref a_kind, .ref a_wicked, .int v_known])), (a_p1, .inr (0, [.ref a_p1_scene, .ref a_p1_apart, .ref a_p1_clash, .ref a_p1_neighbours])), (a_p1_scene, .inr (7, [.ref a_p1_scene_steps, .ref a_p1_scene_worths, .ref a_p1_scene_comers, .ref a_p1_scene_seen, .ref a_p1_scene_seenLengths, .int v_p1_scene_seats, .int v_p1_scene_bear, .int v_p1_scene_comerCount, .int v_p1_scene_seenRows])), (a_p2, .inr (8, [.ref a_p2_filled, .ref a_p2_open, .ref a_p2_chance, .int v_p2_size, .int v_p2_places])), (a_p2_filled, eI cI 4096 v_p2_filled), (a_p2_open, eI cI 4096 v_p2_open), (a_p1_clash, eI cI 12 v_p1_clash), (a_wicked, eI cI 4096 v_wicked), (a_kind, eI cI 4096 v_kind)] none [(a_t, .inr (4, [.ref a_kind, .ref a_wicked, .int out.1])), (a_p1, .inr (0, [.ref a_p1_scene, .ref a_p1_apart, .ref a_p1_clash, .ref a_p1_neighbours])), (a_p1_scene, .inr (7, [.ref a_p1_scene_steps, .ref a_p1_scene_worths, .ref a_p1_scene_comers, .ref a_p1_scene_seen, .ref a_p1_scene_seenLengths, .int v_p1_scene_seats, .int v_p1_scene_bear, .int v_p1_scene_comerCount, .int v_p1_scene_seenRows])), (a_p2, .inr (8, [.ref a_p2_filled, .ref a_p2_open, .ref a_p2_chance, .int out.2.1, .int out.2.2.1])), (a_p2_filled, eI cI 4096 out.2.2.2.1), (a_p2_open, eI cI 4096 out.2.2.2.2.1), (a_p1_clash, eI cI 12 v_p1_clash), (a_wicked, eI cI 4096 out.2.2.2.2.2.1), (a_kind, eI cI 4096 out.2.2.2.2.2.2)] := by
  refine ba_ofV RX4 [(0, .ref a_t), (1, .ref a_p1), (2, .ref a_p2)] (by decide +kernel) rfl (Nat.le_of_ble_eq_true rfl) rfl ?_
  intro p e s m args below meth c Q A Cx hP ret ls hl
  obtain ⟨⟨hx, hb, hml, hown, hts⟩, hK, hD, hA⟩ := id Cx
  have hS : va_S A s.heap s.heap [] := va_S.rf
  unfold f_X4_play at hf
  refine lv_aload_n hx hb dX4_play_0 rfl (lv_at hl 0 rfl) ?_
  refine gf_X4_18 Cx hP 0 rfl rfl dX4_play_1 ?_
  refine lv_if_eq (tgt := 8) hx hb dX4_play_4 (by decide) (fun c1 => ?_) (fun c1 => ?_)
  · have hf := ob_t c1 hf
    refine lv_aload_n hx hb dX4_play_8 rfl (lv_at hl 2 rfl) ?_
    refine lv_aload_n hx hb dX4_play_9 rfl (lv_at hl 1 rfl) ?_
    refine gf_X4_22 Cx hP 1 rfl rfl dX4_play_10 ?_
    refine lv_aload_n hx hb dX4_play_13 rfl (lv_at hl 1 rfl) ?_
    refine gf_X4_27 Cx hP 1 rfl rfl dX4_play_14 ?_
    refine gf_X4_31 Cx hP 2 rfl rfl dX4_play_17 ?_
    refine lv_aload_n hx hb dX4_play_20 rfl (lv_at hl 1 rfl) ?_
    refine gf_X4_27 Cx hP 1 rfl rfl dX4_play_21 ?_
    obtain ⟨u2, hu2, hf⟩ := ob_b hf
    refine iv_X4_37 (As := []) (rest := [.int v_p1_scene_seats, .ref a_p1_clash, .ref a_p2]) (is := [2]) (q0 := 2) (X' := [(a_t, .inr (4, [.ref a_kind, .ref a_wicked, .int v_known])), (a_p1, .inr (0, [.ref a_p1_scene, .ref a_p1_apart, .ref a_p1_clash, .ref a_p1_neighbours])), (a_p1_scene, .inr (7, [.ref a_p1_scene_steps, .ref a_p1_scene_worths, .ref a_p1_scene_comers, .ref a_p1_scene_seen, .ref a_p1_scene_seenLengths, .int v_p1_scene_seats, .int v_p1_scene_bear, .int v_p1_scene_comerCount, .int v_p1_scene_seenRows])), (a_p2, .inr (8, [.ref a_p2_filled, .ref a_p2_open, .ref a_p2_chance, .int v_p2_size, .int v_p2_places])), (a_p2_filled, eI cI 4096 v_p2_filled), (a_p2_open, eI cI 4096 v_p2_open), (a_p1_clash, eI cI 12 v_p1_clash), (a_wicked, eI cI 4096 v_wicked), (a_kind, eI cI 4096 v_kind)]) Cx (c_X7_allSeats l D cI cJ cZ cO a_p1_scene a_p1_scene_steps a_p1_scene_worths a_p1_scene_comers a_p1_scene_seen a_p1_scene_seenLengths v_p1_scene_seats v_p1_scene_bear v_p1_scene_comerCount v_p1_scene_seenRows u2 hu2) hP hS rfl rfl rfl rfl rfl rfl rfl hl.1 (Nat.le_of_ble_eq_true rfl) dX4_play_24 rfl rfl ⟨Nat.le_of_ble_eq_true rfl, Nat.le_of_ble_eq_true rfl⟩ ⟨Nat.zero_le _, Nat.zero_le _⟩ rfl (fun H locs hP hS => ?_)
    obtain ⟨u3, hu3, hf⟩ := ob_b hf
    refine iv_X4_41 (As := [.ref a_p1_clash, .int v_p1_scene_seats, .int u2]) (rest := []) (is := [3, 4, 5, 6]) (q0 := 3) (X' := [(a_t, .inr (4, [.ref a_kind, .ref a_wicked, .int v_known])), (a_p1, .inr (0, [.ref a_p1_scene, .ref a_p1_apart, .ref a_p1_clash, .ref a_p1_neighbours])), (a_p1_scene, .inr (7, [.ref a_p1_scene_steps, .ref a_p1_scene_worths, .ref a_p1_scene_comers, .ref a_p1_scene_seen, .ref a_p1_scene_seenLengths, .int v_p1_scene_seats, .int v_p1_scene_bear, .int v_p1_scene_comerCount, .int v_p1_scene_seenRows])), (a_p2, .inr (8, [.ref a_p2_filled, .ref a_p2_open, .ref a_p2_chance, .int u3.1, .int u3.2.1])), (a_p2_filled, eI cI 4096 u3.2.2.1), (a_p2_open, eI cI 4096 u3.2.2.2), (a_p1_clash, eI cI 12 v_p1_clash), (a_wicked, eI cI 4096 v_wicked), (a_kind, eI cI 4096 v_kind)]) Cx (c_X8_list l D cI cJ cZ cO a_p2 a_p2_filled a_p2_open a_p2_chance a_p1_clash v_p2_size v_p2_places v_p2_filled v_p2_open v_p1_clash v_p1_scene_seats u2 u3 hu3) hP hS rfl rfl rfl rfl rfl rfl rfl hl.1 (Nat.le_of_ble_eq_true rfl) dX4_play_27 rfl rfl ⟨Nat.le_of_ble_eq_true rfl, Nat.le_of_ble_eq_true rfl⟩ ⟨Nat.zero_le _, Nat.zero_le _⟩ rfl (fun H locs hP hS => ?_)
    refine lv_aload_n hx hb dX4_play_30 rfl (lv_at hl 2 rfl) ?_
    refine gf_X4_47 Cx hP 3 rfl rfl dX4_play_31 ?_
    refine lv_iconst (v := 1) hx hb dX4_play_34 (by decide) ?_
    refine lv_isub hx hb dX4_play_35 ?_
    refine lv_istore_n (lv' := [(3, .int (u3.1 - (1 : Int32))), (0, .ref a_t), (1, .ref a_p1), (2, .ref a_p2)]) hx hb dX4_play_36 rfl hl (by decide) rfl (fun ls hl => ?_)
    have L37_4 : ∀ (n : Nat) (y3_37 : Int32) (z_wicked_37 : Nat → Int32) (z_kind_37 : Nat → Int32) (o : (Nat → Int32) × (Nat → Int32)) (H : Heap) (locs : List Loc) (ls : Array Slot), f_X4_play_37 u3 n y3_37 z_wicked_37 z_kind_37 = some o → va_P D vwCl [(a_t, .inr (4, [.ref a_kind, .ref a_wicked, .int v_known])), (a_p1, .inr (0, [.ref a_p1_scene, .ref a_p1_apart, .ref a_p1_clash, .ref a_p1_neighbours])), (a_p1_scene, .inr (7, [.ref a_p1_scene_steps, .ref a_p1_scene_worths, .ref a_p1_scene_comers, .ref a_p1_scene_seen, .ref a_p1_scene_seenLengths, .int v_p1_scene_seats, .int v_p1_scene_bear, .int v_p1_scene_comerCount, .int v_p1_scene_seenRows])), (a_p2, .inr (8, [.ref a_p2_filled, .ref a_p2_open, .ref a_p2_chance, .int u3.1, .int u3.2.1])), (a_p2_filled, eI cI 4096 u3.2.2.1), (a_p2_open, eI cI 4096 u3.2.2.2), (a_p1_clash, eI cI 12 v_p1_clash), (a_wicked, eI cI 4096 z_wicked_37), (a_kind, eI cI 4096 z_kind_37)] H → va_S A s.heap H locs → lv_has ls 4 [(0, .ref a_t), (2, .ref a_p2), (3, .int y3_37)] → (∀ (H : Heap) (locs : List Loc) (ls : Array Slot), va_P D vwCl [(a_t, .inr (4, [.ref a_kind, .ref a_wicked, .int v_known])), (a_p1, .inr (0, [.ref a_p1_scene, .ref a_p1_apart, .ref a_p1_clash, .ref a_p1_neighbours])), (a_p1_scene, .inr (7, [.ref a_p1_scene_steps, .ref a_p1_scene_worths, .ref a_p1_scene_comers, .ref a_p1_scene_seen, .ref a_p1_scene_seenLengths, .int v_p1_scene_seats, .int v_p1_scene_bear, .int v_p1_scene_comerCount, .int v_p1_scene_seenRows])), (a_p2, .inr (8, [.ref a_p2_filled, .ref a_p2_open, .ref a_p2_chance, .int u3.1, .int u3.2.1])), (a_p2_filled, eI cI 4096 u3.2.2.1), (a_p2_open, eI cI 4096 u3.2.2.2), (a_p1_clash, eI cI 12 v_p1_clash), (a_wicked, eI cI 4096 o.1), (a_kind, eI cI 4096 o.2)] H → va_S A s.heap H locs → lv_has ls 4 [(0, .ref a_t)] → W p l e { frames := 2, cells := 0, slots := 0, locals := 48 } s m args below meth c H locs 0 0 Q (F0 m 67 ls [])) → W p l e { frames := 2, cells := 0, slots := 0, locals := 48 } s m args below meth c H locs 0 0 Q (F0 m 37 ls []) := by
      intro n
      induction n with
      | zero => intro y3_37 z_wicked_37 z_kind_37 o H locs ls hf; exact (ob_n hf).elim
      | succ n ih =>
        intro y3_37 z_wicked_37 z_kind_37 o H locs ls hf hP hS hl kk
        rw [f_X4_play_37_s] at hf
        refine lv_iload_n hx hb dX4_play_37 rfl (lv_at hl 2 rfl) ?_
        refine lv_if_lt (tgt := 67) hx hb dX4_play_38 (by decide) (fun c5 => ?_) (fun c5 => ?_)
        · have hf := ob_t c5 hf
          obtain rfl := Option.some.inj hf
          exact kk _ _ _ hP hS (lv_sub hl [0] rfl)
        · have hf := ob_f c5 hf
          refine lv_aload_n hx hb dX4_play_41 rfl (lv_at hl 0 rfl) ?_
          refine lv_aload_n hx hb dX4_play_42 rfl (lv_at hl 1 rfl) ?_
          refine gf_X4_50 Cx hP 3 rfl rfl dX4_play_43 ?_
          refine lv_iload_n hx hb dX4_play_46 rfl (lv_at hl 2 rfl) ?_
          obtain ⟨u6, hu6, hf⟩ := ob_b hf
          refine ba_iald Cx hP 4 rfl hu6 dX4_play_47 ?_
          refine lv_aload_n hx hb dX4_play_48 rfl (lv_at hl 1 rfl) ?_
          refine gf_X4_53 Cx hP 3 rfl rfl dX4_play_49 ?_
          refine lv_iload_n hx hb dX4_play_52 rfl (lv_at hl 2 rfl) ?_
          obtain ⟨u7, hu7, hf⟩ := ob_b hf
          refine ba_iald Cx hP 5 rfl hu7 dX4_play_53 ?_
          refine lv_aload_n hx hb dX4_play_54 rfl (lv_at hl 1 rfl) ?_
          refine gf_X4_56 Cx hP 3 rfl rfl dX4_play_55 ?_
          obtain ⟨u8, hu8, hf⟩ := ob_b hf
          refine iv_X4_59 (As := [.int u6, .int u7, .int u3.2.1]) (rest := []) (is := [0, 7, 8]) (q0 := 0) (X' := [(a_t, .inr (4, [.ref a_kind, .ref a_wicked, .int v_known])), (a_p1, .inr (0, [.ref a_p1_scene, .ref a_p1_apart, .ref a_p1_clash, .ref a_p1_neighbours])), (a_p1_scene, .inr (7, [.ref a_p1_scene_steps, .ref a_p1_scene_worths, .ref a_p1_scene_comers, .ref a_p1_scene_seen, .ref a_p1_scene_seenLengths, .int v_p1_scene_seats, .int v_p1_scene_bear, .int v_p1_scene_comerCount, .int v_p1_scene_seenRows])), (a_p2, .inr (8, [.ref a_p2_filled, .ref a_p2_open, .ref a_p2_chance, .int u3.1, .int u3.2.1])), (a_p2_filled, eI cI 4096 u3.2.2.1), (a_p2_open, eI cI 4096 u3.2.2.2), (a_p1_clash, eI cI 12 v_p1_clash), (a_wicked, eI cI 4096 u8.1), (a_kind, eI cI 4096 u8.2)]) Cx (c_X4_settle l D cI cJ cZ cO a_t a_kind a_wicked v_known z_wicked_37 z_kind_37 u6 u7 u3.2.1 u8 hu8) hP hS rfl rfl rfl rfl rfl rfl rfl hl.1 (Nat.le_of_ble_eq_true rfl) dX4_play_58 rfl rfl ⟨Nat.le_of_ble_eq_true rfl, Nat.le_of_ble_eq_true rfl⟩ ⟨Nat.zero_le _, Nat.zero_le _⟩ rfl (fun H locs hP hS => ?_)
          refine lv_iinc (v := (y3_37 + (-1))) (lv' := [(3, .int (y3_37 + (-1))), (0, .ref a_t), (2, .ref a_p2)]) hx hb dX4_play_61 hl (k := 2) rfl rfl (by decide) rfl (fun ls hl => ?_)
          refine lv_goto (tgt := 37) hx hb dX4_play_64 (by decide) ?_
          exact ih (y3_37 + (-1)) u8.1 u8.2 _ _ _ _ hf hP hS (lv_sub hl [1, 2, 0] rfl) kk
    obtain ⟨u9, hu9, hf⟩ := ob_b hf
    refine L37_4 FU (u3.1 - (1 : Int32)) v_wicked v_kind u9 _ _ _ hu9 hP hS (lv_sub hl [1, 3, 0] rfl) ?_
    intro H locs ls hP hS hl
    refine lv_aload_n hx hb dX4_play_67 rfl (lv_at hl 0 rfl) ?_
    refine lv_iconst (v := 1) hx hb dX4_play_68 (by decide) ?_
    refine pf_X4_18 (X' := [(a_t, .inr (4, [.ref a_kind, .ref a_wicked, .int (1 : Int32)])), (a_p1, .inr (0, [.ref a_p1_scene, .ref a_p1_apart, .ref a_p1_clash, .ref a_p1_neighbours])), (a_p1_scene, .inr (7, [.ref a_p1_scene_steps, .ref a_p1_scene_worths, .ref a_p1_scene_comers, .ref a_p1_scene_seen, .ref a_p1_scene_seenLengths, .int v_p1_scene_seats, .int v_p1_scene_bear, .int v_p1_scene_comerCount, .int v_p1_scene_seenRows])), (a_p2, .inr (8, [.ref a_p2_filled, .ref a_p2_open, .ref a_p2_chance, .int u3.1, .int u3.2.1])), (a_p2_filled, eI cI 4096 u3.2.2.1), (a_p2_open, eI cI 4096 u3.2.2.2), (a_p1_clash, eI cI 12 v_p1_clash), (a_wicked, eI cI 4096 u9.1), (a_kind, eI cI 4096 u9.2)]) Cx hP hS rfl 0 rfl (by decide) (by decide) rfl (Nat.le_of_ble_eq_true rfl) dX4_play_69 (fun H locs hP hS => ?_)
    obtain rfl := Option.some.inj hf
    exact ret _ _ _ _ dX4_play_72 hP hS
  · have hf := ob_f c1 hf
    obtain rfl := Option.some.inj hf
    exact ret _ _ _ _ dX4_play_7 hP hS

def f_X4_result (v_wicked : Nat → Int32) (v_kind : Nat → Int32) (x1 : Int32) (x2 : Int32) : Option (Int32) :=
  (if x2 = 0 then
  (aget 4096 v_kind x1).bind (fun u5 =>
  some (u5))
  else
  (aget 4096 v_wicked x1).bind (fun u4 =>
  some (u4))).bind (fun w1 =>
  some (w1))
set_option maxHeartbeats 4000000 in
set_option maxRecDepth 100000 in
theorem c_X4_result (l : Launch) (D : va_G) (cI cJ cZ cO : ClassId) (a_t a_kind a_wicked : Nat) (v_known : Int32) (v_wicked : Nat → Int32) (v_kind : Nat → Int32) (x1 : Int32) (x2 : Int32) (out : Int32) (hf : f_X4_result v_wicked v_kind x1 x2 = some out) : MetR l yX4_result (Cond.code yX4_result cX4_result 3 (some .int) :: tbG) { frames := 0, cells := 0, slots := 0, locals := 0 } D (tyL cI cJ cZ cO) [.ref a_t, .int x1, .int x2] [(a_t, .inr (4, [.ref a_kind, .ref a_wicked, .int v_known])), (a_wicked, eI cI 4096 v_wicked), (a_kind, eI cI 4096 v_kind)] (some (.int out)) [(a_t, .inr (4, [.ref a_kind, .ref a_wicked, .int v_known])), (a_wicked, eI cI 4096 v_wicked), (a_kind, eI cI 4096 v_kind)] := by
  refine ba_ofI RX4 [(0, .ref a_t), (1, .int x1), (2, .int x2)] (by decide +kernel) rfl (Nat.le_of_ble_eq_true rfl) rfl ?_
  intro p e s m args below meth c Q A Cx hP ret ls hl
  obtain ⟨⟨hx, hb, hml, hown, hts⟩, hK, hD, hA⟩ := id Cx
  have hS : va_S A s.heap s.heap [] := va_S.rf
  unfold f_X4_result at hf
  refine lv_iload_n hx hb dX4_result_0 rfl (lv_at hl 2 rfl) ?_
  refine ob_J (P := fun w1 => ∀ (H : Heap) (locs : List Loc) (ls : Array Slot), va_P D vwCl [(a_t, .inr (4, [.ref a_kind, .ref a_wicked, .int v_known])), (a_wicked, eI cI 4096 v_wicked), (a_kind, eI cI 4096 v_kind)] H → va_S A s.heap H locs → lv_has ls 3 [] → W p l e { frames := 0, cells := 0, slots := 0, locals := 0 } s m args below meth c H locs 0 0 Q (F0 m 19 ls [.int w1])) hf ?_ ?_
  · intro w1 hf H locs ls hP hS hl
    obtain rfl := Option.some.inj hf
    exact ret _ _ _ _ dX4_result_19 hP hS
  · intro J19_2 hf
    refine lv_if_ne (tgt := 13) hx hb dX4_result_1 (by decide) (fun c3 => ?_) (fun c3 => ?_)
    · have hf := ob_fk c3 hf
      refine lv_aload_n hx hb dX4_result_13 rfl (lv_at hl 0 rfl) ?_
      refine gf_X4_15 Cx hP 0 rfl rfl dX4_result_14 ?_
      refine lv_iload_n hx hb dX4_result_17 rfl (lv_at hl 1 rfl) ?_
      obtain ⟨u4, hu4, hf⟩ := ob_bk hf
      refine ba_iald Cx hP 1 rfl hu4 dX4_result_18 ?_
      exact J19_2 u4 hf _ _ _ hP hS (lv_sub hl [] rfl)
    · have hf := ob_tk c3 hf
      refine lv_aload_n hx hb dX4_result_4 rfl (lv_at hl 0 rfl) ?_
      refine gf_X4_9 Cx hP 0 rfl rfl dX4_result_5 ?_
      refine lv_iload_n hx hb dX4_result_8 rfl (lv_at hl 1 rfl) ?_
      obtain ⟨u5, hu5, hf⟩ := ob_bk hf
      refine ba_iald Cx hP 2 rfl hu5 dX4_result_9 ?_
      refine lv_goto (tgt := 19) hx hb dX4_result_10 (by decide) ?_
      exact J19_2 u5 hf _ _ _ hP hS (lv_sub hl [] rfl)

def f_X4_bestSeat_11 (v_wicked : Nat → Int32) (v_kind : Nat → Int32) (x1 : Int32) (x2 : Int32) (x3 : Int32) (u1 : Int32) : Nat → Int32 → Option ((Unit) ⊕ (Int32))
  | 0, _ => none
  | n + 1, y5_11 =>
  if (12 : Int32) ≤ y5_11 then
  some (Sum.inl ())
  else
  if ((x2 >>> (y5_11 &&& 31)) &&& (1 : Int32)) = 0 then
  f_X4_bestSeat_11 v_wicked v_kind x1 x2 x3 u1 n (y5_11 + 1)
  else
  (f_X4_result v_wicked v_kind (x1 ||| ((1 : Int32) <<< (y5_11 &&& 31))) ((1 : Int32) - x3)).bind (fun u5 =>
  if u5 = u1 then
  some (Sum.inr (y5_11))
  else
  f_X4_bestSeat_11 v_wicked v_kind x1 x2 x3 u1 n (y5_11 + 1))
theorem f_X4_bestSeat_11_s (v_wicked : Nat → Int32) (v_kind : Nat → Int32) (x1 : Int32) (x2 : Int32) (x3 : Int32) (u1 : Int32) (n : Nat) (y5_11 : Int32) : f_X4_bestSeat_11 v_wicked v_kind x1 x2 x3 u1 (n + 1) y5_11 =
  (if (12 : Int32) ≤ y5_11 then
  some (Sum.inl ())
  else
  if ((x2 >>> (y5_11 &&& 31)) &&& (1 : Int32)) = 0 then
  f_X4_bestSeat_11 v_wicked v_kind x1 x2 x3 u1 n (y5_11 + 1)
  else
  (f_X4_result v_wicked v_kind (x1 ||| ((1 : Int32) <<< (y5_11 &&& 31))) ((1 : Int32) - x3)).bind (fun u5 =>
  if u5 = u1 then
  some (Sum.inr (y5_11))
  else
  f_X4_bestSeat_11 v_wicked v_kind x1 x2 x3 u1 n (y5_11 + 1))) := rfl
def f_X4_bestSeat (v_wicked : Nat → Int32) (v_kind : Nat → Int32) (x1 : Int32) (x2 : Int32) (x3 : Int32) : Option (Int32) :=
  (f_X4_result v_wicked v_kind x1 x3).bind (fun u1 =>
  (f_X4_bestSeat_11 v_wicked v_kind x1 x2 x3 u1 FU (0 : Int32)).bind (fun u7 => Sum.elim (fun w8 =>
  some (-6 : Int32)) (fun r => some r) u7))
set_option maxHeartbeats 4000000 in
set_option maxRecDepth 100000 in
theorem c_X4_bestSeat (l : Launch) (D : va_G) (cI cJ cZ cO : ClassId) (a_t a_kind a_wicked : Nat) (v_known : Int32) (v_wicked : Nat → Int32) (v_kind : Nat → Int32) (x1 : Int32) (x2 : Int32) (x3 : Int32) (out : Int32) (hf : f_X4_bestSeat v_wicked v_kind x1 x2 x3 = some out) : MetR l yX4_bestSeat (Cond.code yX4_bestSeat cX4_bestSeat 6 (some .int) :: tbG) { frames := 1, cells := 0, slots := 0, locals := 22 } D (tyL cI cJ cZ cO) [.ref a_t, .int x1, .int x2, .int x3] [(a_t, .inr (4, [.ref a_kind, .ref a_wicked, .int v_known])), (a_wicked, eI cI 4096 v_wicked), (a_kind, eI cI 4096 v_kind)] (some (.int out)) [(a_t, .inr (4, [.ref a_kind, .ref a_wicked, .int v_known])), (a_wicked, eI cI 4096 v_wicked), (a_kind, eI cI 4096 v_kind)] := by
  refine ba_ofI RX4 [(0, .ref a_t), (1, .int x1), (2, .int x2), (3, .int x3)] (by decide +kernel) rfl (Nat.le_of_ble_eq_true rfl) rfl ?_
  intro p e s m args below meth c Q A Cx hP ret ls hl
  obtain ⟨⟨hx, hb, hml, hown, hts⟩, hK, hD, hA⟩ := id Cx
  have hS : va_S A s.heap s.heap [] := va_S.rf
  unfold f_X4_bestSeat at hf
  refine lv_aload_n hx hb dX4_bestSeat_0 rfl (lv_at hl 0 rfl) ?_
  refine lv_iload_n hx hb dX4_bestSeat_1 rfl (lv_at hl 1 rfl) ?_
  refine lv_iload_n hx hb dX4_bestSeat_2 rfl (lv_at hl 3 rfl) ?_
  obtain ⟨u1, hu1, hf⟩ := ob_b hf
  refine iv_X4_78 (As := [.int x1, .int x3]) (rest := []) (is := [0, 1, 2]) (q0 := 0) (X' := [(a_t, .inr (4, [.ref a_kind, .ref a_wicked, .int v_known])), (a_wicked, eI cI 4096 v_wicked), (a_kind, eI cI 4096 v_kind)]) Cx (c_X4_result l D cI cJ cZ cO a_t a_kind a_wicked v_known v_wicked v_kind x1 x3 u1 hu1) hP hS rfl rfl rfl rfl rfl rfl rfl hl.1 (Nat.le_of_ble_eq_true rfl) dX4_bestSeat_3 rfl rfl ⟨Nat.le_of_ble_eq_true rfl, Nat.le_of_ble_eq_true rfl⟩ ⟨Nat.zero_le _, Nat.zero_le _⟩ rfl (fun H locs hP hS => ?_)
  refine lv_istore (lv' := [(4, .int u1), (0, .ref a_t), (1, .int x1), (2, .int x2), (3, .int x3)]) hx hb dX4_bestSeat_6 hl (by decide) rfl (fun ls hl => ?_)
  refine lv_iconst (v := 0) hx hb dX4_bestSeat_8 (by decide) ?_
  refine lv_istore (lv' := [(5, .int (0 : Int32)), (4, .int u1), (0, .ref a_t), (1, .int x1), (2, .int x2), (3, .int x3)]) hx hb dX4_bestSeat_9 hl (by decide) rfl (fun ls hl => ?_)
  have L11_2 : ∀ (n : Nat) (y5_11 : Int32) (o : (Unit) ⊕ (Int32)) (H : Heap) (locs : List Loc) (ls : Array Slot), f_X4_bestSeat_11 v_wicked v_kind x1 x2 x3 u1 n y5_11 = some o → va_P D vwCl [(a_t, .inr (4, [.ref a_kind, .ref a_wicked, .int v_known])), (a_wicked, eI cI 4096 v_wicked), (a_kind, eI cI 4096 v_kind)] H → va_S A s.heap H locs → lv_has ls 6 [(0, .ref a_t), (1, .int x1), (2, .int x2), (3, .int x3), (4, .int u1), (5, .int y5_11)] → (∀ w, o = Sum.inl w → ∀ (H : Heap) (locs : List Loc) (ls : Array Slot), va_P D vwCl [(a_t, .inr (4, [.ref a_kind, .ref a_wicked, .int v_known])), (a_wicked, eI cI 4096 v_wicked), (a_kind, eI cI 4096 v_kind)] H → va_S A s.heap H locs → lv_has ls 6 [] → W p l e { frames := 1, cells := 0, slots := 0, locals := 22 } s m args below meth c H locs 0 0 Q (F0 m 54 ls [])) → (∀ r, o = Sum.inr r → ∀ (pc : Nat) (H : Heap) (locs : List Loc) (ls : Array Slot), decode cX4_bestSeat pc = .ok (.ireturn, 1) → va_P D vwCl [(a_t, .inr (4, [.ref a_kind, .ref a_wicked, .int v_known])), (a_wicked, eI cI 4096 v_wicked), (a_kind, eI cI 4096 v_kind)] H → va_S A s.heap H locs → W p l e { frames := 1, cells := 0, slots := 0, locals := 22 } s m args below meth c H locs 0 0 Q (F0 m pc ls [.int r])) → W p l e { frames := 1, cells := 0, slots := 0, locals := 22 } s m args below meth c H locs 0 0 Q (F0 m 11 ls []) := by
    intro n
    induction n with
    | zero => intro y5_11 o H locs ls hf; exact (ob_n hf).elim
    | succ n ih =>
      intro y5_11 o H locs ls hf hP hS hl kk kr
      rw [f_X4_bestSeat_11_s] at hf
      refine lv_iload hx hb dX4_bestSeat_11 (lv_at hl 5 rfl) ?_
      refine lv_bipush (v := 12) hx hb dX4_bestSeat_13 (by decide) ?_
      refine lv_icmp_ge (tgt := 54) hx hb dX4_bestSeat_15 (by decide) (fun c3 => ?_) (fun c3 => ?_)
      · have hf := ob_t c3 hf
        obtain rfl := Option.some.inj hf
        exact kk _ rfl _ _ _ hP hS (lv_sub hl [] rfl)
      · have hf := ob_f c3 hf
        refine lv_iload_n hx hb dX4_bestSeat_18 rfl (lv_at hl 2 rfl) ?_
        refine lv_iload hx hb dX4_bestSeat_19 (lv_at hl 5 rfl) ?_
        refine lv_ishr hx hb dX4_bestSeat_21 ?_
        refine lv_iconst (v := 1) hx hb dX4_bestSeat_22 (by decide) ?_
        refine lv_iand hx hb dX4_bestSeat_23 ?_
        refine lv_if_eq (tgt := 48) hx hb dX4_bestSeat_24 (by decide) (fun c4 => ?_) (fun c4 => ?_)
        · have hf := ob_t c4 hf
          refine lv_iinc (v := (y5_11 + 1)) (lv' := [(5, .int (y5_11 + 1)), (0, .ref a_t), (1, .int x1), (2, .int x2), (3, .int x3), (4, .int u1)]) hx hb dX4_bestSeat_48 hl (k := 5) rfl rfl (by decide) rfl (fun ls hl => ?_)
          refine lv_goto (tgt := 11) hx hb dX4_bestSeat_51 (by decide) ?_
          exact ih (y5_11 + 1) _ _ _ _ hf hP hS (lv_sub hl [1, 2, 3, 4, 5, 0] rfl) kk kr
        · have hf := ob_f c4 hf
          refine lv_aload_n hx hb dX4_bestSeat_27 rfl (lv_at hl 0 rfl) ?_
          refine lv_iload_n hx hb dX4_bestSeat_28 rfl (lv_at hl 1 rfl) ?_
          refine lv_iconst (v := 1) hx hb dX4_bestSeat_29 (by decide) ?_
          refine lv_iload hx hb dX4_bestSeat_30 (lv_at hl 5 rfl) ?_
          refine lv_ishl hx hb dX4_bestSeat_32 ?_
          refine lv_ior hx hb dX4_bestSeat_33 ?_
          refine lv_iconst (v := 1) hx hb dX4_bestSeat_34 (by decide) ?_
          refine lv_iload_n hx hb dX4_bestSeat_35 rfl (lv_at hl 3 rfl) ?_
          refine lv_isub hx hb dX4_bestSeat_36 ?_
          obtain ⟨u5, hu5, hf⟩ := ob_b hf
          refine iv_X4_78 (As := [.int (x1 ||| ((1 : Int32) <<< (y5_11 &&& 31))), .int ((1 : Int32) - x3)]) (rest := []) (is := [0, 1, 2]) (q0 := 0) (X' := [(a_t, .inr (4, [.ref a_kind, .ref a_wicked, .int v_known])), (a_wicked, eI cI 4096 v_wicked), (a_kind, eI cI 4096 v_kind)]) Cx (c_X4_result l D cI cJ cZ cO a_t a_kind a_wicked v_known v_wicked v_kind (x1 ||| ((1 : Int32) <<< (y5_11 &&& 31))) ((1 : Int32) - x3) u5 hu5) hP hS rfl rfl rfl rfl rfl rfl rfl hl.1 (Nat.le_of_ble_eq_true rfl) dX4_bestSeat_37 rfl rfl ⟨Nat.le_of_ble_eq_true rfl, Nat.le_of_ble_eq_true rfl⟩ ⟨Nat.zero_le _, Nat.zero_le _⟩ rfl (fun H locs hP hS => ?_)
          refine lv_iload hx hb dX4_bestSeat_40 (lv_at hl 4 rfl) ?_
          refine lv_icmp_ne (tgt := 48) hx hb dX4_bestSeat_42 (by decide) (fun c6 => ?_) (fun c6 => ?_)
          · have hf := ob_f c6 hf
            refine lv_iinc (v := (y5_11 + 1)) (lv' := [(5, .int (y5_11 + 1)), (0, .ref a_t), (1, .int x1), (2, .int x2), (3, .int x3), (4, .int u1)]) hx hb dX4_bestSeat_48 hl (k := 5) rfl rfl (by decide) rfl (fun ls hl => ?_)
            refine lv_goto (tgt := 11) hx hb dX4_bestSeat_51 (by decide) ?_
            exact ih (y5_11 + 1) _ _ _ _ hf hP hS (lv_sub hl [1, 2, 3, 4, 5, 0] rfl) kk kr
          · have hf := ob_t c6 hf
            refine lv_iload hx hb dX4_bestSeat_45 (lv_at hl 5 rfl) ?_
            obtain rfl := Option.some.inj hf
            exact kr _ rfl _ _ _ _ dX4_bestSeat_47 hP hS
  obtain ⟨u7, hu7, hf⟩ := ob_b hf
  refine L11_2 FU (0 : Int32) u7 _ _ _ hu7 hP hS (lv_sub hl [2, 3, 4, 5, 1, 0] rfl) ?_ ?_
  · intro w8 hw H locs ls hP hS hl
    rw [hw] at hf
    have hf := ob_l hf
    refine lv_bipush (v := (-6)) hx hb dX4_bestSeat_54 (by decide) ?_
    obtain rfl := Option.some.inj hf
    exact ret _ _ _ _ dX4_bestSeat_56 hP hS
  · intro r hr pc H locs ls hd hP hS
    rw [hr] at hf
    have hf := ob_r hf
    obtain rfl := Option.some.inj hf
    exact ret _ _ _ _ hd hP hS

def f_X5_add (v_count : Int32) (v_signs : Nat → Int32) (x1 : Int32) : Option (Int32 × Int32 × (Nat → Int32)) :=
  if v_count < (30 : Int32) then
  (asetI 30 v_signs v_count x1).bind (fun u2 =>
  some ((1 : Int32), (v_count + (1 : Int32)), u2))
  else
  some ((0 : Int32), v_count, v_signs)
set_option maxHeartbeats 4000000 in
set_option maxRecDepth 100000 in
theorem c_X5_add (l : Launch) (D : va_G) (cI cJ cZ cO : ClassId) (a_t a_signs : Nat) (v_count : Int32) (v_signs : Nat → Int32) (x1 : Int32) (out : Int32 × Int32 × (Nat → Int32)) (hf : f_X5_add v_count v_signs x1 = some out) : MetR l yX5_add (Cond.code yX5_add cX5_add 2 (some .boolean) :: tbG) { frames := 0, cells := 0, slots := 0, locals := 0 } D (tyL cI cJ cZ cO) [.ref a_t, .int x1] [(a_t, .inr (5, [.ref a_signs, .int v_count])), (a_signs, eI cI 30 v_signs)] (some (.int out.1)) [(a_t, .inr (5, [.ref a_signs, .int out.2.1])), (a_signs, eI cI 30 out.2.2)] := by
  refine ba_ofZ RX5 [(0, .ref a_t), (1, .int x1)] (by decide +kernel) rfl (Nat.le_of_ble_eq_true rfl) rfl ?_
  intro p e s m args below meth c Q A Cx hP ret ls hl
  obtain ⟨⟨hx, hb, hml, hown, hts⟩, hK, hD, hA⟩ := id Cx
  have hS : va_S A s.heap s.heap [] := va_S.rf
  unfold f_X5_add at hf
  refine lv_aload_n hx hb dX5_add_0 rfl (lv_at hl 0 rfl) ?_
  refine gf_X5_15 Cx hP 0 rfl rfl dX5_add_1 ?_
  refine lv_bipush (v := 30) hx hb dX5_add_4 (by decide) ?_
  refine lv_icmp_lt (tgt := 11) hx hb dX5_add_6 (by decide) (fun c1 => ?_) (fun c1 => ?_)
  · have hf := ob_t c1 hf
    refine lv_aload_n hx hb dX5_add_11 rfl (lv_at hl 0 rfl) ?_
    refine gf_X5_9 Cx hP 0 rfl rfl dX5_add_12 ?_
    refine lv_aload_n hx hb dX5_add_15 rfl (lv_at hl 0 rfl) ?_
    refine gf_X5_15 Cx hP 0 rfl rfl dX5_add_16 ?_
    refine lv_iload_n hx hb dX5_add_19 rfl (lv_at hl 1 rfl) ?_
    obtain ⟨u2, hu2, hf⟩ := ob_b hf
    refine ba_iast (X' := [(a_t, .inr (5, [.ref a_signs, .int v_count])), (a_signs, eI cI 30 u2)]) Cx hP hS rfl 1 rfl rfl hu2 dX5_add_20 (fun H locs hP hS => ?_)
    refine lv_aload_n hx hb dX5_add_21 rfl (lv_at hl 0 rfl) ?_
    refine lv_dup hx hb dX5_add_22 rfl ?_
    refine gf_X5_15 Cx hP 0 rfl rfl dX5_add_23 ?_
    refine lv_iconst (v := 1) hx hb dX5_add_26 (by decide) ?_
    refine lv_iadd hx hb dX5_add_27 ?_
    refine pf_X5_15 (X' := [(a_t, .inr (5, [.ref a_signs, .int (v_count + (1 : Int32))])), (a_signs, eI cI 30 u2)]) Cx hP hS rfl 0 rfl rfl (Nat.le_of_ble_eq_true rfl) dX5_add_28 (fun H locs hP hS => ?_)
    refine lv_iconst (v := 1) hx hb dX5_add_31 (by decide) ?_
    obtain rfl := Option.some.inj hf
    exact ret _ _ _ _ _ rfl (by decide) dX5_add_32 hP hS
  · have hf := ob_f c1 hf
    refine lv_iconst (v := 0) hx hb dX5_add_9 (by decide) ?_
    obtain rfl := Option.some.inj hf
    exact ret _ _ _ _ _ rfl (by decide) dX5_add_10 hP hS

def f_X5_canStand (x0 : Int32) (x1 : Int32) : Option (Int32) :=
  if x0 = (64 : Int32) then
  (if x1 ≤ 0 then
  some (0 : Int32)
  else
  some (1 : Int32)).bind (fun w2 =>
  (oz w2).bind (fun u4 =>
  some (u4)))
  else if x0 = (111 : Int32) then
  (if (12 : Int32) ≤ x1 then
  some (0 : Int32)
  else
  some (1 : Int32)).bind (fun w7 =>
  (oz w7).bind (fun u9 =>
  some (u9)))
  else 
  (if x0 = (45 : Int32) then
  some (1 : Int32)
  else
  if x0 = (124 : Int32) then
  some (1 : Int32)
  else
  some (0 : Int32)).bind (fun w11 =>
  (oz w11).bind (fun u13 =>
  some (u13)))
set_option maxHeartbeats 4000000 in
set_option maxRecDepth 100000 in
theorem c_X5_canStand (l : Launch) (D : va_G) (cI cJ cZ cO : ClassId) (x0 : Int32) (x1 : Int32) (out : Int32) (hf : f_X5_canStand x0 x1 = some out) : MetR l yX5_canStand (Cond.code yX5_canStand cX5_canStand 2 (some .boolean) :: tbG) { frames := 0, cells := 0, slots := 0, locals := 0 } D (tyL cI cJ cZ cO) [.int x0, .int x1] [] (some (.int out)) [] := by
  refine ba_ofZ RX5 [(0, .int x0), (1, .int x1)] (by decide +kernel) rfl (Nat.le_of_ble_eq_true rfl) rfl ?_
  intro p e s m args below meth c Q A Cx hP ret ls hl
  obtain ⟨⟨hx, hb, hml, hown, hts⟩, hK, hD, hA⟩ := id Cx
  have hS : va_S A s.heap s.heap [] := va_S.rf
  unfold f_X5_canStand at hf
  refine lv_iload_n hx hb dX5_canStand_0 rfl (lv_at hl 0 rfl) ?_
  by_cases c1 : x0 = (64 : Int32)
  · have hf := ob_t c1 hf
    refine ba_topi c1 ?_
    refine lv_lookup (tgt := 40) hx hb dX5_canStand_1 (by decide) rfl (by decide) ?_
    refine lv_iload_n hx hb dX5_canStand_40 rfl (lv_at hl 1 rfl) ?_
    refine ob_J (P := fun w2 => ∀ (H : Heap) (locs : List Loc) (ls : Array Slot), va_P D vwCl [] H → va_S A s.heap H locs → lv_has ls 2 [] → W p l e { frames := 0, cells := 0, slots := 0, locals := 0 } s m args below meth c H locs 0 0 Q (F0 m 49 ls [.int w2])) hf ?_ ?_
    · intro w2 hf H locs ls hP hS hl
      obtain ⟨u4, hu4, hf⟩ := ob_b hf
      obtain ⟨hz1, hz2⟩ := oz_ok hu4
      obtain rfl := Option.some.inj hf
      exact ret _ _ _ _ _ hz1 hz2 dX5_canStand_49 hP hS
    · intro J49_3 hf
      refine lv_if_le (tgt := 48) hx hb dX5_canStand_41 (by decide) (fun c5 => ?_) (fun c5 => ?_)
      · have hf := ob_tk c5 hf
        refine lv_iconst (v := 0) hx hb dX5_canStand_48 (by decide) ?_
        exact J49_3 (0 : Int32) hf _ _ _ hP hS (lv_sub hl [] rfl)
      · have hf := ob_fk c5 hf
        refine lv_iconst (v := 1) hx hb dX5_canStand_44 (by decide) ?_
        refine lv_goto (tgt := 49) hx hb dX5_canStand_45 (by decide) ?_
        exact J49_3 (1 : Int32) hf _ _ _ hP hS (lv_sub hl [] rfl)
  have hf := ob_f c1 hf
  by_cases c6 : x0 = (111 : Int32)
  · have hf := ob_t c6 hf
    refine ba_topi c6 ?_
    refine lv_lookup (tgt := 28) hx hb dX5_canStand_1 (by decide) rfl (by decide) ?_
    refine lv_iload_n hx hb dX5_canStand_28 rfl (lv_at hl 1 rfl) ?_
    refine lv_bipush (v := 12) hx hb dX5_canStand_29 (by decide) ?_
    refine ob_J (P := fun w7 => ∀ (H : Heap) (locs : List Loc) (ls : Array Slot), va_P D vwCl [] H → va_S A s.heap H locs → lv_has ls 2 [] → W p l e { frames := 0, cells := 0, slots := 0, locals := 0 } s m args below meth c H locs 0 0 Q (F0 m 39 ls [.int w7])) hf ?_ ?_
    · intro w7 hf H locs ls hP hS hl
      obtain ⟨u9, hu9, hf⟩ := ob_b hf
      obtain ⟨hz1, hz2⟩ := oz_ok hu9
      obtain rfl := Option.some.inj hf
      exact ret _ _ _ _ _ hz1 hz2 dX5_canStand_39 hP hS
    · intro J39_8 hf
      refine lv_icmp_ge (tgt := 38) hx hb dX5_canStand_31 (by decide) (fun c10 => ?_) (fun c10 => ?_)
      · have hf := ob_tk c10 hf
        refine lv_iconst (v := 0) hx hb dX5_canStand_38 (by decide) ?_
        exact J39_8 (0 : Int32) hf _ _ _ hP hS (lv_sub hl [] rfl)
      · have hf := ob_fk c10 hf
        refine lv_iconst (v := 1) hx hb dX5_canStand_34 (by decide) ?_
        refine lv_goto (tgt := 39) hx hb dX5_canStand_35 (by decide) ?_
        exact J39_8 (1 : Int32) hf _ _ _ hP hS (lv_sub hl [] rfl)
  have hf := ob_f c6 hf
  refine lv_lookup (tgt := 50) hx hb dX5_canStand_1 (by decide) (ba_look2 c1 c6) (by decide) ?_
  refine lv_iload_n hx hb dX5_canStand_50 rfl (lv_at hl 0 rfl) ?_
  refine lv_bipush (v := 45) hx hb dX5_canStand_51 (by decide) ?_
  refine ob_J (P := fun w11 => ∀ (H : Heap) (locs : List Loc) (ls : Array Slot), va_P D vwCl [] H → va_S A s.heap H locs → lv_has ls 2 [] → W p l e { frames := 0, cells := 0, slots := 0, locals := 0 } s m args below meth c H locs 0 0 Q (F0 m 67 ls [.int w11])) hf ?_ ?_
  · intro w11 hf H locs ls hP hS hl
    obtain ⟨u13, hu13, hf⟩ := ob_b hf
    obtain ⟨hz1, hz2⟩ := oz_ok hu13
    obtain rfl := Option.some.inj hf
    exact ret _ _ _ _ _ hz1 hz2 dX5_canStand_67 hP hS
  · intro J67_12 hf
    refine lv_icmp_eq (tgt := 62) hx hb dX5_canStand_53 (by decide) (fun c14 => ?_) (fun c14 => ?_)
    · have hf := ob_tk c14 hf
      refine lv_iconst (v := 1) hx hb dX5_canStand_62 (by decide) ?_
      refine lv_goto (tgt := 67) hx hb dX5_canStand_63 (by decide) ?_
      exact J67_12 (1 : Int32) hf _ _ _ hP hS (lv_sub hl [] rfl)
    · have hf := ob_fk c14 hf
      refine lv_iload_n hx hb dX5_canStand_56 rfl (lv_at hl 0 rfl) ?_
      refine lv_bipush (v := 124) hx hb dX5_canStand_57 (by decide) ?_
      refine lv_icmp_ne (tgt := 66) hx hb dX5_canStand_59 (by decide) (fun c15 => ?_) (fun c15 => ?_)
      · have hf := ob_fk c15 hf
        refine lv_iconst (v := 0) hx hb dX5_canStand_66 (by decide) ?_
        exact J67_12 (0 : Int32) hf _ _ _ hP hS (lv_sub hl [] rfl)
      · have hf := ob_tk c15 hf
        refine lv_iconst (v := 1) hx hb dX5_canStand_62 (by decide) ?_
        refine lv_goto (tgt := 67) hx hb dX5_canStand_63 (by decide) ?_
        exact J67_12 (1 : Int32) hf _ _ _ hP hS (lv_sub hl [] rfl)

def f_X5_firstFault_6 (v_count : Int32) (v_signs : Nat → Int32) : Nat → Int32 → Int32 → Int32 → Option ((Int32) ⊕ (Int32))
  | 0, _, _, _ => none
  | n + 1, y1_6, y2_6, y3_6 =>
  if v_count ≤ y3_6 then
  some (Sum.inl (y1_6))
  else
  (aget 30 v_signs y3_6).bind (fun u3 =>
  if y2_6 = 0 then
  (f_X5_canStand u3 y1_6).bind (fun u5 =>
  if u5 = 0 then
  some (Sum.inr (y3_6))
  else
  (if u3 = (111 : Int32) then
  some (y1_6 + 1)
  else
  some (y1_6)).bind (fun w7 =>
  (if u3 = (64 : Int32) then
  some (1 : Int32)
  else
  some (0 : Int32)).bind (fun w9 =>
  f_X5_firstFault_6 v_count v_signs n w7 w9 (y3_6 + 1))))
  else
  some (Sum.inr (y3_6)))
theorem f_X5_firstFault_6_s (v_count : Int32) (v_signs : Nat → Int32) (n : Nat) (y1_6 : Int32) (y2_6 : Int32) (y3_6 : Int32) : f_X5_firstFault_6 v_count v_signs (n + 1) y1_6 y2_6 y3_6 =
  (if v_count ≤ y3_6 then
  some (Sum.inl (y1_6))
  else
  (aget 30 v_signs y3_6).bind (fun u3 =>
  if y2_6 = 0 then
  (f_X5_canStand u3 y1_6).bind (fun u5 =>
  if u5 = 0 then
  some (Sum.inr (y3_6))
  else
  (if u3 = (111 : Int32) then
  some (y1_6 + 1)
  else
  some (y1_6)).bind (fun w7 =>
  (if u3 = (64 : Int32) then
  some (1 : Int32)
  else
  some (0 : Int32)).bind (fun w9 =>
  f_X5_firstFault_6 v_count v_signs n w7 w9 (y3_6 + 1))))
  else
  some (Sum.inr (y3_6)))) := rfl
def f_X5_firstFault (v_count : Int32) (v_signs : Nat → Int32) : Option (Int32) :=
  (f_X5_firstFault_6 v_count v_signs FU (0 : Int32) (0 : Int32) (0 : Int32)).bind (fun u13 => Sum.elim (fun w14 =>
  (if w14 = 0 then
  some (v_count)
  else
  some (-6 : Int32)).bind (fun w15 =>
  some (w15))) (fun r => some r) u13)
set_option maxHeartbeats 4000000 in
set_option maxRecDepth 100000 in
theorem c_X5_firstFault (l : Launch) (D : va_G) (cI cJ cZ cO : ClassId) (a_t a_signs : Nat) (v_count : Int32) (v_signs : Nat → Int32) (out : Int32) (hf : f_X5_firstFault v_count v_signs = some out) : MetR l yX5_firstFault (Cond.code yX5_firstFault cX5_firstFault 5 (some .int) :: tbG) { frames := 1, cells := 0, slots := 0, locals := 21 } D (tyL cI cJ cZ cO) [.ref a_t] [(a_t, .inr (5, [.ref a_signs, .int v_count])), (a_signs, eI cI 30 v_signs)] (some (.int out)) [(a_t, .inr (5, [.ref a_signs, .int v_count])), (a_signs, eI cI 30 v_signs)] := by
  refine ba_ofI RX5 [(0, .ref a_t)] (by decide +kernel) rfl (Nat.le_of_ble_eq_true rfl) rfl ?_
  intro p e s m args below meth c Q A Cx hP ret ls hl
  obtain ⟨⟨hx, hb, hml, hown, hts⟩, hK, hD, hA⟩ := id Cx
  have hS : va_S A s.heap s.heap [] := va_S.rf
  unfold f_X5_firstFault at hf
  refine lv_iconst (v := 0) hx hb dX5_firstFault_0 (by decide) ?_
  refine lv_istore_n (lv' := [(1, .int (0 : Int32)), (0, .ref a_t)]) hx hb dX5_firstFault_1 rfl hl (by decide) rfl (fun ls hl => ?_)
  refine lv_iconst (v := 0) hx hb dX5_firstFault_2 (by decide) ?_
  refine lv_istore_n (lv' := [(2, .int (0 : Int32)), (1, .int (0 : Int32)), (0, .ref a_t)]) hx hb dX5_firstFault_3 rfl hl (by decide) rfl (fun ls hl => ?_)
  refine lv_iconst (v := 0) hx hb dX5_firstFault_4 (by decide) ?_
  refine lv_istore_n (lv' := [(3, .int (0 : Int32)), (2, .int (0 : Int32)), (1, .int (0 : Int32)), (0, .ref a_t)]) hx hb dX5_firstFault_5 rfl hl (by decide) rfl (fun ls hl => ?_)
  have L6_1 : ∀ (n : Nat) (y1_6 : Int32) (y2_6 : Int32) (y3_6 : Int32) (o : (Int32) ⊕ (Int32)) (H : Heap) (locs : List Loc) (ls : Array Slot), f_X5_firstFault_6 v_count v_signs n y1_6 y2_6 y3_6 = some o → va_P D vwCl [(a_t, .inr (5, [.ref a_signs, .int v_count])), (a_signs, eI cI 30 v_signs)] H → va_S A s.heap H locs → lv_has ls 5 [(0, .ref a_t), (1, .int y1_6), (2, .int y2_6), (3, .int y3_6)] → (∀ w, o = Sum.inl w → ∀ (H : Heap) (locs : List Loc) (ls : Array Slot), va_P D vwCl [(a_t, .inr (5, [.ref a_signs, .int v_count])), (a_signs, eI cI 30 v_signs)] H → va_S A s.heap H locs → lv_has ls 5 [(0, .ref a_t), (1, .int w)] → W p l e { frames := 1, cells := 0, slots := 0, locals := 21 } s m args below meth c H locs 0 0 Q (F0 m 66 ls [])) → (∀ r, o = Sum.inr r → ∀ (pc : Nat) (H : Heap) (locs : List Loc) (ls : Array Slot), decode cX5_firstFault pc = .ok (.ireturn, 1) → va_P D vwCl [(a_t, .inr (5, [.ref a_signs, .int v_count])), (a_signs, eI cI 30 v_signs)] H → va_S A s.heap H locs → W p l e { frames := 1, cells := 0, slots := 0, locals := 21 } s m args below meth c H locs 0 0 Q (F0 m pc ls [.int r])) → W p l e { frames := 1, cells := 0, slots := 0, locals := 21 } s m args below meth c H locs 0 0 Q (F0 m 6 ls []) := by
    intro n
    induction n with
    | zero => intro y1_6 y2_6 y3_6 o H locs ls hf; exact (ob_n hf).elim
    | succ n ih =>
      intro y1_6 y2_6 y3_6 o H locs ls hf hP hS hl kk kr
      rw [f_X5_firstFault_6_s] at hf
      refine lv_iload_n hx hb dX5_firstFault_6 rfl (lv_at hl 3 rfl) ?_
      refine lv_aload_n hx hb dX5_firstFault_7 rfl (lv_at hl 0 rfl) ?_
      refine gf_X5_15 Cx hP 0 rfl rfl dX5_firstFault_8 ?_
      refine lv_icmp_ge (tgt := 66) hx hb dX5_firstFault_11 (by decide) (fun c2 => ?_) (fun c2 => ?_)
      · have hf := ob_t c2 hf
        obtain rfl := Option.some.inj hf
        exact kk _ rfl _ _ _ hP hS (lv_sub hl [0, 1] rfl)
      · have hf := ob_f c2 hf
        refine lv_aload_n hx hb dX5_firstFault_14 rfl (lv_at hl 0 rfl) ?_
        refine gf_X5_9 Cx hP 0 rfl rfl dX5_firstFault_15 ?_
        refine lv_iload_n hx hb dX5_firstFault_18 rfl (lv_at hl 3 rfl) ?_
        obtain ⟨u3, hu3, hf⟩ := ob_b hf
        refine ba_iald Cx hP 1 rfl hu3 dX5_firstFault_19 ?_
        refine lv_istore (lv' := [(4, .int u3), (0, .ref a_t), (1, .int y1_6), (2, .int y2_6), (3, .int y3_6)]) hx hb dX5_firstFault_20 hl (by decide) rfl (fun ls hl => ?_)
        refine lv_iload_n hx hb dX5_firstFault_22 rfl (lv_at hl 3 rfl) ?_
        refine lv_if_ne (tgt := 35) hx hb dX5_firstFault_23 (by decide) (fun c4 => ?_) (fun c4 => ?_)
        · have hf := ob_f c4 hf
          refine lv_iload_n hx hb dX5_firstFault_35 rfl (lv_at hl 4 rfl) ?_
          obtain rfl := Option.some.inj hf
          exact kr _ rfl _ _ _ _ dX5_firstFault_36 hP hS
        · have hf := ob_t c4 hf
          refine lv_iload hx hb dX5_firstFault_26 (lv_at hl 0 rfl) ?_
          refine lv_iload_n hx hb dX5_firstFault_28 rfl (lv_at hl 2 rfl) ?_
          obtain ⟨u5, hu5, hf⟩ := ob_b hf
          refine iv_X5_19 (As := [.int u3, .int y1_6]) (rest := []) (is := []) (X' := [(a_t, .inr (5, [.ref a_signs, .int v_count])), (a_signs, eI cI 30 v_signs)]) Cx (c_X5_canStand l D cI cJ cZ cO  u3 y1_6 u5 hu5) hP hS rfl rfl rfl rfl rfl rfl hl.1 (Nat.le_of_ble_eq_true rfl) dX5_firstFault_29 rfl rfl ⟨Nat.le_of_ble_eq_true rfl, Nat.le_of_ble_eq_true rfl⟩ ⟨Nat.zero_le _, Nat.zero_le _⟩ rfl (fun H locs hP hS => ?_)
          refine lv_if_ne (tgt := 37) hx hb dX5_firstFault_32 (by decide) (fun c6 => ?_) (fun c6 => ?_)
          · have hf := ob_f c6 hf
            refine lv_iload hx hb dX5_firstFault_37 (lv_at hl 0 rfl) ?_
            refine lv_bipush (v := 111) hx hb dX5_firstFault_39 (by decide) ?_
            refine ob_J (P := fun w7 => ∀ (H : Heap) (locs : List Loc) (ls : Array Slot), va_P D vwCl [(a_t, .inr (5, [.ref a_signs, .int v_count])), (a_signs, eI cI 30 v_signs)] H → va_S A s.heap H locs → lv_has ls 5 [(0, .ref a_t), (1, .int w7), (3, .int y3_6), (4, .int u3)] → W p l e { frames := 1, cells := 0, slots := 0, locals := 21 } s m args below meth c H locs 0 0 Q (F0 m 47 ls [])) hf ?_ ?_
            · intro w7 hf H locs ls hP hS hl
              refine lv_iload hx hb dX5_firstFault_47 (lv_at hl 3 rfl) ?_
              refine lv_bipush (v := 64) hx hb dX5_firstFault_49 (by decide) ?_
              refine ob_J (P := fun w9 => ∀ (H : Heap) (locs : List Loc) (ls : Array Slot), va_P D vwCl [(a_t, .inr (5, [.ref a_signs, .int v_count])), (a_signs, eI cI 30 v_signs)] H → va_S A s.heap H locs → lv_has ls 5 [(0, .ref a_t), (1, .int w7), (3, .int y3_6)] → W p l e { frames := 1, cells := 0, slots := 0, locals := 21 } s m args below meth c H locs 0 0 Q (F0 m 59 ls [.int w9])) hf ?_ ?_
              · intro w9 hf H locs ls hP hS hl
                refine lv_istore_n (lv' := [(2, .int w9), (0, .ref a_t), (1, .int w7), (3, .int y3_6)]) hx hb dX5_firstFault_59 rfl hl (by decide) rfl (fun ls hl => ?_)
                refine lv_iinc (v := (y3_6 + 1)) (lv' := [(3, .int (y3_6 + 1)), (2, .int w9), (0, .ref a_t), (1, .int w7)]) hx hb dX5_firstFault_60 hl (k := 3) rfl rfl (by decide) rfl (fun ls hl => ?_)
                refine lv_goto (tgt := 6) hx hb dX5_firstFault_63 (by decide) ?_
                exact ih w7 w9 (y3_6 + 1) _ _ _ _ hf hP hS (lv_sub hl [2, 3, 1, 0] rfl) kk kr
              · intro J59_10 hf
                refine lv_icmp_ne (tgt := 58) hx hb dX5_firstFault_51 (by decide) (fun c11 => ?_) (fun c11 => ?_)
                · have hf := ob_fk c11 hf
                  refine lv_iconst (v := 0) hx hb dX5_firstFault_58 (by decide) ?_
                  exact J59_10 (0 : Int32) hf _ _ _ hP hS (lv_sub hl [0, 1, 2] rfl)
                · have hf := ob_tk c11 hf
                  refine lv_iconst (v := 1) hx hb dX5_firstFault_54 (by decide) ?_
                  refine lv_goto (tgt := 59) hx hb dX5_firstFault_55 (by decide) ?_
                  exact J59_10 (1 : Int32) hf _ _ _ hP hS (lv_sub hl [0, 1, 2] rfl)
            · intro J47_8 hf
              refine lv_icmp_ne (tgt := 47) hx hb dX5_firstFault_41 (by decide) (fun c12 => ?_) (fun c12 => ?_)
              · have hf := ob_fk c12 hf
                exact J47_8 y1_6 hf _ _ _ hP hS (lv_sub hl [1, 2, 4, 0] rfl)
              · have hf := ob_tk c12 hf
                refine lv_iinc (v := (y1_6 + 1)) (lv' := [(1, .int (y1_6 + 1)), (4, .int u3), (0, .ref a_t), (2, .int y2_6), (3, .int y3_6)]) hx hb dX5_firstFault_44 hl (k := 2) rfl rfl (by decide) rfl (fun ls hl => ?_)
                exact J47_8 (y1_6 + 1) hf _ _ _ hP hS (lv_sub hl [2, 0, 4, 1] rfl)
          · have hf := ob_t c6 hf
            refine lv_iload_n hx hb dX5_firstFault_35 rfl (lv_at hl 4 rfl) ?_
            obtain rfl := Option.some.inj hf
            exact kr _ rfl _ _ _ _ dX5_firstFault_36 hP hS
  obtain ⟨u13, hu13, hf⟩ := ob_b hf
  refine L6_1 FU (0 : Int32) (0 : Int32) (0 : Int32) u13 _ _ _ hu13 hP hS (lv_sub hl [3, 2, 1, 0] rfl) ?_ ?_
  · intro w14 hw H locs ls hP hS hl
    rw [hw] at hf
    have hf := ob_l hf
    refine lv_iload_n hx hb dX5_firstFault_66 rfl (lv_at hl 1 rfl) ?_
    refine ob_J (P := fun w15 => ∀ (H : Heap) (locs : List Loc) (ls : Array Slot), va_P D vwCl [(a_t, .inr (5, [.ref a_signs, .int v_count])), (a_signs, eI cI 30 v_signs)] H → va_S A s.heap H locs → lv_has ls 5 [] → W p l e { frames := 1, cells := 0, slots := 0, locals := 21 } s m args below meth c H locs 0 0 Q (F0 m 79 ls [.int w15])) hf ?_ ?_
    · intro w15 hf H locs ls hP hS hl
      obtain rfl := Option.some.inj hf
      exact ret _ _ _ _ dX5_firstFault_79 hP hS
    · intro J79_16 hf
      refine lv_if_ne (tgt := 77) hx hb dX5_firstFault_67 (by decide) (fun c17 => ?_) (fun c17 => ?_)
      · have hf := ob_fk c17 hf
        refine lv_bipush (v := (-6)) hx hb dX5_firstFault_77 (by decide) ?_
        exact J79_16 (-6 : Int32) hf _ _ _ hP hS (lv_sub hl [] rfl)
      · have hf := ob_tk c17 hf
        refine lv_aload_n hx hb dX5_firstFault_70 rfl (lv_at hl 0 rfl) ?_
        refine gf_X5_15 Cx hP 0 rfl rfl dX5_firstFault_71 ?_
        refine lv_goto (tgt := 79) hx hb dX5_firstFault_74 (by decide) ?_
        exact J79_16 v_count hf _ _ _ hP hS (lv_sub hl [] rfl)
  · intro r hr pc H locs ls hd hP hS
    rw [hr] at hf
    have hf := ob_r hf
    obtain rfl := Option.some.inj hf
    exact ret _ _ _ _ hd hP hS

def f_X5_writeSteps_13 (v_count : Int32) (v_signs : Nat → Int32) : Nat → Int32 → Int32 → Int32 → Int32 → Int32 → (Nat → Int32) → Option (Int32 × Int32 × Int32 × Int32 × (Nat → Int32))
  | 0, _, _, _, _, _, _ => none
  | n + 1, y2_13, y3_13, y4_13, y5_13, y6_13, z_p1_13 =>
  if v_count ≤ y6_13 then
  some (y2_13, y3_13, y4_13, y5_13, z_p1_13)
  else
  (aget 30 v_signs y6_13).bind (fun u3 =>
  (if u3 = (111 : Int32) then
  if (12 : Int32) ≤ y2_13 then
  if u3 = (124 : Int32) then
  some (y2_13, y3_13, (0 : Int32), y5_13, z_p1_13)
  else
  if u3 = (45 : Int32) then
  if y4_13 = 0 then
  if u3 = (64 : Int32) then
  some (y2_13, y3_13, y4_13, (1 : Int32), z_p1_13)
  else
  some (y2_13, y3_13, y4_13, y5_13, z_p1_13)
  else
  some (y2_13, y3_13, (y4_13 + 1), y5_13, z_p1_13)
  else
  if u3 = (64 : Int32) then
  some (y2_13, y3_13, y4_13, (1 : Int32), z_p1_13)
  else
  some (y2_13, y3_13, y4_13, y5_13, z_p1_13)
  else
  (if y2_13 = 0 then
  some (y4_13, z_p1_13)
  else
  (asetI 12 z_p1_13 (y2_13 - (1 : Int32)) y4_13).bind (fun u21 =>
  some (y3_13, u21))).bind (fun w18 =>
  some ((y2_13 + 1), w18.1, (1 : Int32), y5_13, w18.2))
  else
  if u3 = (124 : Int32) then
  some (y2_13, y3_13, (0 : Int32), y5_13, z_p1_13)
  else
  if u3 = (45 : Int32) then
  if y4_13 = 0 then
  if u3 = (64 : Int32) then
  some (y2_13, y3_13, y4_13, (1 : Int32), z_p1_13)
  else
  some (y2_13, y3_13, y4_13, y5_13, z_p1_13)
  else
  some (y2_13, y3_13, (y4_13 + 1), y5_13, z_p1_13)
  else
  if u3 = (64 : Int32) then
  some (y2_13, y3_13, y4_13, (1 : Int32), z_p1_13)
  else
  some (y2_13, y3_13, y4_13, y5_13, z_p1_13)).bind (fun w4 =>
  f_X5_writeSteps_13 v_count v_signs n w4.1 w4.2.1 w4.2.2.1 w4.2.2.2.1 (y6_13 + 1) w4.2.2.2.2))
theorem f_X5_writeSteps_13_s (v_count : Int32) (v_signs : Nat → Int32) (n : Nat) (y2_13 : Int32) (y3_13 : Int32) (y4_13 : Int32) (y5_13 : Int32) (y6_13 : Int32) (z_p1_13 : Nat → Int32) : f_X5_writeSteps_13 v_count v_signs (n + 1) y2_13 y3_13 y4_13 y5_13 y6_13 z_p1_13 =
  (if v_count ≤ y6_13 then
  some (y2_13, y3_13, y4_13, y5_13, z_p1_13)
  else
  (aget 30 v_signs y6_13).bind (fun u3 =>
  (if u3 = (111 : Int32) then
  if (12 : Int32) ≤ y2_13 then
  if u3 = (124 : Int32) then
  some (y2_13, y3_13, (0 : Int32), y5_13, z_p1_13)
  else
  if u3 = (45 : Int32) then
  if y4_13 = 0 then
  if u3 = (64 : Int32) then
  some (y2_13, y3_13, y4_13, (1 : Int32), z_p1_13)
  else
  some (y2_13, y3_13, y4_13, y5_13, z_p1_13)
  else
  some (y2_13, y3_13, (y4_13 + 1), y5_13, z_p1_13)
  else
  if u3 = (64 : Int32) then
  some (y2_13, y3_13, y4_13, (1 : Int32), z_p1_13)
  else
  some (y2_13, y3_13, y4_13, y5_13, z_p1_13)
  else
  (if y2_13 = 0 then
  some (y4_13, z_p1_13)
  else
  (asetI 12 z_p1_13 (y2_13 - (1 : Int32)) y4_13).bind (fun u21 =>
  some (y3_13, u21))).bind (fun w18 =>
  some ((y2_13 + 1), w18.1, (1 : Int32), y5_13, w18.2))
  else
  if u3 = (124 : Int32) then
  some (y2_13, y3_13, (0 : Int32), y5_13, z_p1_13)
  else
  if u3 = (45 : Int32) then
  if y4_13 = 0 then
  if u3 = (64 : Int32) then
  some (y2_13, y3_13, y4_13, (1 : Int32), z_p1_13)
  else
  some (y2_13, y3_13, y4_13, y5_13, z_p1_13)
  else
  some (y2_13, y3_13, (y4_13 + 1), y5_13, z_p1_13)
  else
  if u3 = (64 : Int32) then
  some (y2_13, y3_13, y4_13, (1 : Int32), z_p1_13)
  else
  some (y2_13, y3_13, y4_13, y5_13, z_p1_13)).bind (fun w4 =>
  f_X5_writeSteps_13 v_count v_signs n w4.1 w4.2.1 w4.2.2.1 w4.2.2.2.1 (y6_13 + 1) w4.2.2.2.2))) := rfl
def f_X5_writeSteps (v_count : Int32) (v_signs : Nat → Int32) (v_p1 : Nat → Int32) : Option (Int32 × (Nat → Int32)) :=
  (f_X5_writeSteps_13 v_count v_signs FU (0 : Int32) (1 : Int32) (1 : Int32) (0 : Int32) (0 : Int32) v_p1).bind (fun u22 =>
  (if u22.1 ≤ 0 then
  some (u22.2.2.2.2)
  else
  (if u22.2.2.2.1 = 0 then
  some (0 : Int32)
  else
  if u22.1 ≤ (1 : Int32) then
  some (0 : Int32)
  else
  if u22.2.2.1 = 0 then
  some (0 : Int32)
  else
  if u22.2.1 = 0 then
  some (0 : Int32)
  else
  some (1 : Int32)).bind (fun w26 =>
  (if w26 = 0 then
  some (0 : Int32)
  else
  some ((u22.2.2.1 + u22.2.1) - (1 : Int32))).bind (fun w28 =>
  (asetI 12 u22.2.2.2.2 (u22.1 - (1 : Int32)) w28).bind (fun u30 =>
  some (u30))))).bind (fun w23 =>
  some (u22.1, w23)))
set_option maxHeartbeats 4000000 in
set_option maxRecDepth 100000 in
theorem c_X5_writeSteps (l : Launch) (D : va_G) (cI cJ cZ cO : ClassId) (a_t a_signs a_p1 : Nat) (v_count : Int32) (v_signs : Nat → Int32) (v_p1 : Nat → Int32) (out : Int32 × (Nat → Int32)) (hf : f_X5_writeSteps v_count v_signs v_p1 = some out) : MetR l yX5_writeSteps (Cond.code yX5_writeSteps cX5_writeSteps 8 (some .int) :: tbG) { frames := 0, cells := 0, slots := 0, locals := 0 } D (tyL cI cJ cZ cO) [.ref a_t, .ref a_p1] [(a_t, .inr (5, [.ref a_signs, .int v_count])), (a_signs, eI cI 30 v_signs), (a_p1, eI cI 12 v_p1)] (some (.int out.1)) [(a_t, .inr (5, [.ref a_signs, .int v_count])), (a_signs, eI cI 30 v_signs), (a_p1, eI cI 12 out.2)] := by
  refine ba_ofI RX5 [(0, .ref a_t), (1, .ref a_p1)] (by decide +kernel) rfl (Nat.le_of_ble_eq_true rfl) rfl ?_
  intro p e s m args below meth c Q A Cx hP ret ls hl
  obtain ⟨⟨hx, hb, hml, hown, hts⟩, hK, hD, hA⟩ := id Cx
  have hS : va_S A s.heap s.heap [] := va_S.rf
  unfold f_X5_writeSteps at hf
  refine lv_iconst (v := 0) hx hb dX5_writeSteps_0 (by decide) ?_
  refine lv_istore_n (lv' := [(2, .int (0 : Int32)), (0, .ref a_t), (1, .ref a_p1)]) hx hb dX5_writeSteps_1 rfl hl (by decide) rfl (fun ls hl => ?_)
  refine lv_iconst (v := 1) hx hb dX5_writeSteps_2 (by decide) ?_
  refine lv_istore_n (lv' := [(3, .int (1 : Int32)), (2, .int (0 : Int32)), (0, .ref a_t), (1, .ref a_p1)]) hx hb dX5_writeSteps_3 rfl hl (by decide) rfl (fun ls hl => ?_)
  refine lv_iconst (v := 1) hx hb dX5_writeSteps_4 (by decide) ?_
  refine lv_istore (lv' := [(4, .int (1 : Int32)), (3, .int (1 : Int32)), (2, .int (0 : Int32)), (0, .ref a_t), (1, .ref a_p1)]) hx hb dX5_writeSteps_5 hl (by decide) rfl (fun ls hl => ?_)
  refine lv_iconst (v := 0) hx hb dX5_writeSteps_7 (by decide) ?_
  refine lv_istore (lv' := [(5, .int (0 : Int32)), (4, .int (1 : Int32)), (3, .int (1 : Int32)), (2, .int (0 : Int32)), (0, .ref a_t), (1, .ref a_p1)]) hx hb dX5_writeSteps_8 hl (by decide) rfl (fun ls hl => ?_)
  refine lv_iconst (v := 0) hx hb dX5_writeSteps_10 (by decide) ?_
  refine lv_istore (lv' := [(6, .int (0 : Int32)), (5, .int (0 : Int32)), (4, .int (1 : Int32)), (3, .int (1 : Int32)), (2, .int (0 : Int32)), (0, .ref a_t), (1, .ref a_p1)]) hx hb dX5_writeSteps_11 hl (by decide) rfl (fun ls hl => ?_)
  have L13_1 : ∀ (n : Nat) (y2_13 : Int32) (y3_13 : Int32) (y4_13 : Int32) (y5_13 : Int32) (y6_13 : Int32) (z_p1_13 : Nat → Int32) (o : Int32 × Int32 × Int32 × Int32 × (Nat → Int32)) (H : Heap) (locs : List Loc) (ls : Array Slot), f_X5_writeSteps_13 v_count v_signs n y2_13 y3_13 y4_13 y5_13 y6_13 z_p1_13 = some o → va_P D vwCl [(a_t, .inr (5, [.ref a_signs, .int v_count])), (a_signs, eI cI 30 v_signs), (a_p1, eI cI 12 z_p1_13)] H → va_S A s.heap H locs → lv_has ls 8 [(0, .ref a_t), (1, .ref a_p1), (2, .int y2_13), (3, .int y3_13), (4, .int y4_13), (5, .int y5_13), (6, .int y6_13)] → (∀ (H : Heap) (locs : List Loc) (ls : Array Slot), va_P D vwCl [(a_t, .inr (5, [.ref a_signs, .int v_count])), (a_signs, eI cI 30 v_signs), (a_p1, eI cI 12 o.2.2.2.2)] H → va_S A s.heap H locs → lv_has ls 8 [(1, .ref a_p1), (2, .int o.1), (3, .int o.2.1), (4, .int o.2.2.1), (5, .int o.2.2.2.1)] → W p l e { frames := 0, cells := 0, slots := 0, locals := 0 } s m args below meth c H locs 0 0 Q (F0 m 117 ls [])) → W p l e { frames := 0, cells := 0, slots := 0, locals := 0 } s m args below meth c H locs 0 0 Q (F0 m 13 ls []) := by
    intro n
    induction n with
    | zero => intro y2_13 y3_13 y4_13 y5_13 y6_13 z_p1_13 o H locs ls hf; exact (ob_n hf).elim
    | succ n ih =>
      intro y2_13 y3_13 y4_13 y5_13 y6_13 z_p1_13 o H locs ls hf hP hS hl kk
      rw [f_X5_writeSteps_13_s] at hf
      refine lv_iload hx hb dX5_writeSteps_13 (lv_at hl 6 rfl) ?_
      refine lv_aload_n hx hb dX5_writeSteps_15 rfl (lv_at hl 0 rfl) ?_
      refine gf_X5_15 Cx hP 0 rfl rfl dX5_writeSteps_16 ?_
      refine lv_icmp_ge (tgt := 117) hx hb dX5_writeSteps_19 (by decide) (fun c2 => ?_) (fun c2 => ?_)
      · have hf := ob_t c2 hf
        obtain rfl := Option.some.inj hf
        exact kk _ _ _ hP hS (lv_sub hl [1, 2, 3, 4, 5] rfl)
      · have hf := ob_f c2 hf
        refine lv_aload_n hx hb dX5_writeSteps_22 rfl (lv_at hl 0 rfl) ?_
        refine gf_X5_9 Cx hP 0 rfl rfl dX5_writeSteps_23 ?_
        refine lv_iload hx hb dX5_writeSteps_26 (lv_at hl 6 rfl) ?_
        obtain ⟨u3, hu3, hf⟩ := ob_b hf
        refine ba_iald Cx hP 1 rfl hu3 dX5_writeSteps_28 ?_
        refine lv_istore (lv' := [(7, .int u3), (0, .ref a_t), (1, .ref a_p1), (2, .int y2_13), (3, .int y3_13), (4, .int y4_13), (5, .int y5_13), (6, .int y6_13)]) hx hb dX5_writeSteps_29 hl (by decide) rfl (fun ls hl => ?_)
        refine lv_iload hx hb dX5_writeSteps_31 (lv_at hl 0 rfl) ?_
        refine lv_bipush (v := 111) hx hb dX5_writeSteps_33 (by decide) ?_
        refine ob_J (P := fun w4 => ∀ (H : Heap) (locs : List Loc) (ls : Array Slot), va_P D vwCl [(a_t, .inr (5, [.ref a_signs, .int v_count])), (a_signs, eI cI 30 v_signs), (a_p1, eI cI 12 w4.2.2.2.2)] H → va_S A s.heap H locs → lv_has ls 8 [(0, .ref a_t), (1, .ref a_p1), (2, .int w4.1), (3, .int w4.2.1), (4, .int w4.2.2.1), (5, .int w4.2.2.2.1), (6, .int y6_13)] → W p l e { frames := 0, cells := 0, slots := 0, locals := 0 } s m args below meth c H locs 0 0 Q (F0 m 111 ls [])) hf ?_ ?_
        · intro w4 hf H locs ls hP hS hl
          refine lv_iinc (v := (y6_13 + 1)) (lv' := [(6, .int (y6_13 + 1)), (0, .ref a_t), (1, .ref a_p1), (2, .int w4.1), (3, .int w4.2.1), (4, .int w4.2.2.1), (5, .int w4.2.2.2.1)]) hx hb dX5_writeSteps_111 hl (k := 6) rfl rfl (by decide) rfl (fun ls hl => ?_)
          refine lv_goto (tgt := 13) hx hb dX5_writeSteps_114 (by decide) ?_
          exact ih w4.1 w4.2.1 w4.2.2.1 w4.2.2.2.1 (y6_13 + 1) w4.2.2.2.2 _ _ _ _ hf hP hS (lv_sub hl [1, 2, 3, 4, 5, 6, 0] rfl) kk
        · intro J111_5 hf
          refine lv_icmp_ne (tgt := 70) hx hb dX5_writeSteps_35 (by decide) (fun c6 => ?_) (fun c6 => ?_)
          · have hf := ob_fk c6 hf
            refine lv_iload hx hb dX5_writeSteps_70 (lv_at hl 0 rfl) ?_
            refine lv_bipush (v := 124) hx hb dX5_writeSteps_72 (by decide) ?_
            refine lv_icmp_ne (tgt := 83) hx hb dX5_writeSteps_74 (by decide) (fun c7 => ?_) (fun c7 => ?_)
            · have hf := ob_fk c7 hf
              refine lv_iload hx hb dX5_writeSteps_83 (lv_at hl 0 rfl) ?_
              refine lv_bipush (v := 45) hx hb dX5_writeSteps_85 (by decide) ?_
              refine lv_icmp_ne (tgt := 101) hx hb dX5_writeSteps_87 (by decide) (fun c8 => ?_) (fun c8 => ?_)
              · have hf := ob_fk c8 hf
                refine lv_iload hx hb dX5_writeSteps_101 (lv_at hl 0 rfl) ?_
                refine lv_bipush (v := 64) hx hb dX5_writeSteps_103 (by decide) ?_
                refine lv_icmp_ne (tgt := 111) hx hb dX5_writeSteps_105 (by decide) (fun c9 => ?_) (fun c9 => ?_)
                · have hf := ob_fk c9 hf
                  exact J111_5 (y2_13, y3_13, y4_13, y5_13, z_p1_13) hf _ _ _ hP hS (lv_sub hl [1, 2, 3, 4, 5, 6, 7] rfl)
                · have hf := ob_tk c9 hf
                  refine lv_iconst (v := 1) hx hb dX5_writeSteps_108 (by decide) ?_
                  refine lv_istore (lv' := [(5, .int (1 : Int32)), (7, .int u3), (0, .ref a_t), (1, .ref a_p1), (2, .int y2_13), (3, .int y3_13), (4, .int y4_13), (6, .int y6_13)]) hx hb dX5_writeSteps_109 hl (by decide) rfl (fun ls hl => ?_)
                  exact J111_5 (y2_13, y3_13, y4_13, (1 : Int32), z_p1_13) hf _ _ _ hP hS (lv_sub hl [2, 3, 4, 5, 6, 0, 7] rfl)
              · have hf := ob_tk c8 hf
                refine lv_iload hx hb dX5_writeSteps_90 (lv_at hl 5 rfl) ?_
                refine lv_if_eq (tgt := 101) hx hb dX5_writeSteps_92 (by decide) (fun c10 => ?_) (fun c10 => ?_)
                · have hf := ob_tk c10 hf
                  refine lv_iload hx hb dX5_writeSteps_101 (lv_at hl 0 rfl) ?_
                  refine lv_bipush (v := 64) hx hb dX5_writeSteps_103 (by decide) ?_
                  refine lv_icmp_ne (tgt := 111) hx hb dX5_writeSteps_105 (by decide) (fun c11 => ?_) (fun c11 => ?_)
                  · have hf := ob_fk c11 hf
                    exact J111_5 (y2_13, y3_13, y4_13, y5_13, z_p1_13) hf _ _ _ hP hS (lv_sub hl [1, 2, 3, 4, 5, 6, 7] rfl)
                  · have hf := ob_tk c11 hf
                    refine lv_iconst (v := 1) hx hb dX5_writeSteps_108 (by decide) ?_
                    refine lv_istore (lv' := [(5, .int (1 : Int32)), (7, .int u3), (0, .ref a_t), (1, .ref a_p1), (2, .int y2_13), (3, .int y3_13), (4, .int y4_13), (6, .int y6_13)]) hx hb dX5_writeSteps_109 hl (by decide) rfl (fun ls hl => ?_)
                    exact J111_5 (y2_13, y3_13, y4_13, (1 : Int32), z_p1_13) hf _ _ _ hP hS (lv_sub hl [2, 3, 4, 5, 6, 0, 7] rfl)
                · have hf := ob_fk c10 hf
                  refine lv_iinc (v := (y4_13 + 1)) (lv' := [(4, .int (y4_13 + 1)), (7, .int u3), (0, .ref a_t), (1, .ref a_p1), (2, .int y2_13), (3, .int y3_13), (5, .int y5_13), (6, .int y6_13)]) hx hb dX5_writeSteps_95 hl (k := 5) rfl rfl (by decide) rfl (fun ls hl => ?_)
                  refine lv_goto (tgt := 111) hx hb dX5_writeSteps_98 (by decide) ?_
                  exact J111_5 (y2_13, y3_13, (y4_13 + 1), y5_13, z_p1_13) hf _ _ _ hP hS (lv_sub hl [2, 3, 4, 5, 0, 6, 7] rfl)
            · have hf := ob_tk c7 hf
              refine lv_iconst (v := 0) hx hb dX5_writeSteps_77 (by decide) ?_
              refine lv_istore (lv' := [(4, .int (0 : Int32)), (7, .int u3), (0, .ref a_t), (1, .ref a_p1), (2, .int y2_13), (3, .int y3_13), (5, .int y5_13), (6, .int y6_13)]) hx hb dX5_writeSteps_78 hl (by decide) rfl (fun ls hl => ?_)
              refine lv_goto (tgt := 111) hx hb dX5_writeSteps_80 (by decide) ?_
              exact J111_5 (y2_13, y3_13, (0 : Int32), y5_13, z_p1_13) hf _ _ _ hP hS (lv_sub hl [2, 3, 4, 5, 0, 6, 7] rfl)
          · have hf := ob_tk c6 hf
            refine lv_iload_n hx hb dX5_writeSteps_38 rfl (lv_at hl 3 rfl) ?_
            refine lv_bipush (v := 12) hx hb dX5_writeSteps_39 (by decide) ?_
            refine lv_icmp_ge (tgt := 70) hx hb dX5_writeSteps_41 (by decide) (fun c12 => ?_) (fun c12 => ?_)
            · have hf := ob_tk c12 hf
              refine lv_iload hx hb dX5_writeSteps_70 (lv_at hl 0 rfl) ?_
              refine lv_bipush (v := 124) hx hb dX5_writeSteps_72 (by decide) ?_
              refine lv_icmp_ne (tgt := 83) hx hb dX5_writeSteps_74 (by decide) (fun c13 => ?_) (fun c13 => ?_)
              · have hf := ob_fk c13 hf
                refine lv_iload hx hb dX5_writeSteps_83 (lv_at hl 0 rfl) ?_
                refine lv_bipush (v := 45) hx hb dX5_writeSteps_85 (by decide) ?_
                refine lv_icmp_ne (tgt := 101) hx hb dX5_writeSteps_87 (by decide) (fun c14 => ?_) (fun c14 => ?_)
                · have hf := ob_fk c14 hf
                  refine lv_iload hx hb dX5_writeSteps_101 (lv_at hl 0 rfl) ?_
                  refine lv_bipush (v := 64) hx hb dX5_writeSteps_103 (by decide) ?_
                  refine lv_icmp_ne (tgt := 111) hx hb dX5_writeSteps_105 (by decide) (fun c15 => ?_) (fun c15 => ?_)
                  · have hf := ob_fk c15 hf
                    exact J111_5 (y2_13, y3_13, y4_13, y5_13, z_p1_13) hf _ _ _ hP hS (lv_sub hl [1, 2, 3, 4, 5, 6, 7] rfl)
                  · have hf := ob_tk c15 hf
                    refine lv_iconst (v := 1) hx hb dX5_writeSteps_108 (by decide) ?_
                    refine lv_istore (lv' := [(5, .int (1 : Int32)), (7, .int u3), (0, .ref a_t), (1, .ref a_p1), (2, .int y2_13), (3, .int y3_13), (4, .int y4_13), (6, .int y6_13)]) hx hb dX5_writeSteps_109 hl (by decide) rfl (fun ls hl => ?_)
                    exact J111_5 (y2_13, y3_13, y4_13, (1 : Int32), z_p1_13) hf _ _ _ hP hS (lv_sub hl [2, 3, 4, 5, 6, 0, 7] rfl)
                · have hf := ob_tk c14 hf
                  refine lv_iload hx hb dX5_writeSteps_90 (lv_at hl 5 rfl) ?_
                  refine lv_if_eq (tgt := 101) hx hb dX5_writeSteps_92 (by decide) (fun c16 => ?_) (fun c16 => ?_)
                  · have hf := ob_tk c16 hf
                    refine lv_iload hx hb dX5_writeSteps_101 (lv_at hl 0 rfl) ?_
                    refine lv_bipush (v := 64) hx hb dX5_writeSteps_103 (by decide) ?_
                    refine lv_icmp_ne (tgt := 111) hx hb dX5_writeSteps_105 (by decide) (fun c17 => ?_) (fun c17 => ?_)
                    · have hf := ob_fk c17 hf
                      exact J111_5 (y2_13, y3_13, y4_13, y5_13, z_p1_13) hf _ _ _ hP hS (lv_sub hl [1, 2, 3, 4, 5, 6, 7] rfl)
                    · have hf := ob_tk c17 hf
                      refine lv_iconst (v := 1) hx hb dX5_writeSteps_108 (by decide) ?_
                      refine lv_istore (lv' := [(5, .int (1 : Int32)), (7, .int u3), (0, .ref a_t), (1, .ref a_p1), (2, .int y2_13), (3, .int y3_13), (4, .int y4_13), (6, .int y6_13)]) hx hb dX5_writeSteps_109 hl (by decide) rfl (fun ls hl => ?_)
                      exact J111_5 (y2_13, y3_13, y4_13, (1 : Int32), z_p1_13) hf _ _ _ hP hS (lv_sub hl [2, 3, 4, 5, 6, 0, 7] rfl)
                  · have hf := ob_fk c16 hf
                    refine lv_iinc (v := (y4_13 + 1)) (lv' := [(4, .int (y4_13 + 1)), (7, .int u3), (0, .ref a_t), (1, .ref a_p1), (2, .int y2_13), (3, .int y3_13), (5, .int y5_13), (6, .int y6_13)]) hx hb dX5_writeSteps_95 hl (k := 5) rfl rfl (by decide) rfl (fun ls hl => ?_)
                    refine lv_goto (tgt := 111) hx hb dX5_writeSteps_98 (by decide) ?_
                    exact J111_5 (y2_13, y3_13, (y4_13 + 1), y5_13, z_p1_13) hf _ _ _ hP hS (lv_sub hl [2, 3, 4, 5, 0, 6, 7] rfl)
              · have hf := ob_tk c13 hf
                refine lv_iconst (v := 0) hx hb dX5_writeSteps_77 (by decide) ?_
                refine lv_istore (lv' := [(4, .int (0 : Int32)), (7, .int u3), (0, .ref a_t), (1, .ref a_p1), (2, .int y2_13), (3, .int y3_13), (5, .int y5_13), (6, .int y6_13)]) hx hb dX5_writeSteps_78 hl (by decide) rfl (fun ls hl => ?_)
                refine lv_goto (tgt := 111) hx hb dX5_writeSteps_80 (by decide) ?_
                exact J111_5 (y2_13, y3_13, (0 : Int32), y5_13, z_p1_13) hf _ _ _ hP hS (lv_sub hl [2, 3, 4, 5, 0, 6, 7] rfl)
            · have hf := ob_fk c12 hf
              refine lv_iload_n hx hb dX5_writeSteps_44 rfl (lv_at hl 3 rfl) ?_
              have hf := ob_as hf
              refine ob_J (P := fun w18 => ∀ (H : Heap) (locs : List Loc) (ls : Array Slot), va_P D vwCl [(a_t, .inr (5, [.ref a_signs, .int v_count])), (a_signs, eI cI 30 v_signs), (a_p1, eI cI 12 w18.2)] H → va_S A s.heap H locs → lv_has ls 8 [(0, .ref a_t), (1, .ref a_p1), (2, .int y2_13), (3, .int w18.1), (5, .int y5_13), (6, .int y6_13)] → W p l e { frames := 0, cells := 0, slots := 0, locals := 0 } s m args below meth c H locs 0 0 Q (F0 m 61 ls [])) hf ?_ ?_
              · intro w18 hf H locs ls hP hS hl
                refine lv_iinc (v := (y2_13 + 1)) (lv' := [(2, .int (y2_13 + 1)), (0, .ref a_t), (1, .ref a_p1), (3, .int w18.1), (5, .int y5_13), (6, .int y6_13)]) hx hb dX5_writeSteps_61 hl (k := 2) rfl rfl (by decide) rfl (fun ls hl => ?_)
                refine lv_iconst (v := 1) hx hb dX5_writeSteps_64 (by decide) ?_
                refine lv_istore (lv' := [(4, .int (1 : Int32)), (2, .int (y2_13 + 1)), (0, .ref a_t), (1, .ref a_p1), (3, .int w18.1), (5, .int y5_13), (6, .int y6_13)]) hx hb dX5_writeSteps_65 hl (by decide) rfl (fun ls hl => ?_)
                refine lv_goto (tgt := 111) hx hb dX5_writeSteps_67 (by decide) ?_
                exact J111_5 ((y2_13 + 1), w18.1, (1 : Int32), y5_13, w18.2) hf _ _ _ hP hS (lv_sub hl [2, 3, 1, 4, 0, 5, 6] rfl)
              · intro J61_19 hf
                refine lv_if_ne (tgt := 54) hx hb dX5_writeSteps_45 (by decide) (fun c20 => ?_) (fun c20 => ?_)
                · have hf := ob_fk c20 hf
                  refine lv_aload_n hx hb dX5_writeSteps_54 rfl (lv_at hl 2 rfl) ?_
                  refine lv_iload_n hx hb dX5_writeSteps_55 rfl (lv_at hl 3 rfl) ?_
                  refine lv_iconst (v := 1) hx hb dX5_writeSteps_56 (by decide) ?_
                  refine lv_isub hx hb dX5_writeSteps_57 ?_
                  refine lv_iload hx hb dX5_writeSteps_58 (lv_at hl 5 rfl) ?_
                  obtain ⟨u21, hu21, hf⟩ := ob_bk hf
                  refine ba_iast (X' := [(a_t, .inr (5, [.ref a_signs, .int v_count])), (a_signs, eI cI 30 v_signs), (a_p1, eI cI 12 u21)]) Cx hP hS rfl 2 rfl rfl hu21 dX5_writeSteps_60 (fun H locs hP hS => ?_)
                  exact J61_19 (y3_13, u21) hf _ _ _ hP hS (lv_sub hl [1, 2, 3, 4, 6, 7] rfl)
                · have hf := ob_tk c20 hf
                  refine lv_iload hx hb dX5_writeSteps_48 (lv_at hl 5 rfl) ?_
                  refine lv_istore_n (lv' := [(3, .int y4_13), (7, .int u3), (0, .ref a_t), (1, .ref a_p1), (2, .int y2_13), (4, .int y4_13), (5, .int y5_13), (6, .int y6_13)]) hx hb dX5_writeSteps_50 rfl hl (by decide) rfl (fun ls hl => ?_)
                  refine lv_goto (tgt := 61) hx hb dX5_writeSteps_51 (by decide) ?_
                  exact J61_19 (y4_13, z_p1_13) hf _ _ _ hP hS (lv_sub hl [2, 3, 4, 0, 6, 7] rfl)
  obtain ⟨u22, hu22, hf⟩ := ob_b hf
  refine L13_1 FU (0 : Int32) (1 : Int32) (1 : Int32) (0 : Int32) (0 : Int32) v_p1 u22 _ _ _ hu22 hP hS (lv_sub hl [5, 6, 4, 3, 2, 1, 0] rfl) ?_
  intro H locs ls hP hS hl
  refine lv_iload_n hx hb dX5_writeSteps_117 rfl (lv_at hl 1 rfl) ?_
  refine ob_J (P := fun w23 => ∀ (H : Heap) (locs : List Loc) (ls : Array Slot), va_P D vwCl [(a_t, .inr (5, [.ref a_signs, .int v_count])), (a_signs, eI cI 30 v_signs), (a_p1, eI cI 12 w23)] H → va_S A s.heap H locs → lv_has ls 8 [(2, .int u22.1)] → W p l e { frames := 0, cells := 0, slots := 0, locals := 0 } s m args below meth c H locs 0 0 Q (F0 m 167 ls [])) hf ?_ ?_
  · intro w23 hf H locs ls hP hS hl
    refine lv_iload_n hx hb dX5_writeSteps_167 rfl (lv_at hl 0 rfl) ?_
    obtain rfl := Option.some.inj hf
    exact ret _ _ _ _ dX5_writeSteps_168 hP hS
  · intro J167_24 hf
    refine lv_if_le (tgt := 167) hx hb dX5_writeSteps_118 (by decide) (fun c25 => ?_) (fun c25 => ?_)
    · have hf := ob_tk c25 hf
      exact J167_24 u22.2.2.2.2 hf _ _ _ hP hS (lv_sub hl [1] rfl)
    · have hf := ob_fk c25 hf
      refine lv_iload hx hb dX5_writeSteps_121 (lv_at hl 4 rfl) ?_
      have hf := ob_as hf
      refine ob_J (P := fun w26 => ∀ (H : Heap) (locs : List Loc) (ls : Array Slot), va_P D vwCl [(a_t, .inr (5, [.ref a_signs, .int v_count])), (a_signs, eI cI 30 v_signs), (a_p1, eI cI 12 u22.2.2.2.2)] H → va_S A s.heap H locs → lv_has ls 8 [(1, .ref a_p1), (2, .int u22.1), (3, .int u22.2.1), (4, .int u22.2.2.1)] → W p l e { frames := 0, cells := 0, slots := 0, locals := 0 } s m args below meth c H locs 0 0 Q (F0 m 145 ls [.int w26])) hf ?_ ?_
      · intro w26 hf H locs ls hP hS hl
        refine lv_istore (lv' := [(6, .int w26), (1, .ref a_p1), (2, .int u22.1), (3, .int u22.2.1), (4, .int u22.2.2.1)]) hx hb dX5_writeSteps_145 hl (by decide) rfl (fun ls hl => ?_)
        refine lv_aload_n hx hb dX5_writeSteps_147 rfl (lv_at hl 1 rfl) ?_
        refine lv_iload_n hx hb dX5_writeSteps_148 rfl (lv_at hl 2 rfl) ?_
        refine lv_iconst (v := 1) hx hb dX5_writeSteps_149 (by decide) ?_
        refine lv_isub hx hb dX5_writeSteps_150 ?_
        refine lv_iload hx hb dX5_writeSteps_151 (lv_at hl 0 rfl) ?_
        have hf := ob_as hf
        refine ob_J (P := fun w28 => ∀ (H : Heap) (locs : List Loc) (ls : Array Slot), va_P D vwCl [(a_t, .inr (5, [.ref a_signs, .int v_count])), (a_signs, eI cI 30 v_signs), (a_p1, eI cI 12 u22.2.2.2.2)] H → va_S A s.heap H locs → lv_has ls 8 [(2, .int u22.1)] → W p l e { frames := 0, cells := 0, slots := 0, locals := 0 } s m args below meth c H locs 0 0 Q (F0 m 166 ls [.int w28, .int (u22.1 - (1 : Int32)), .ref a_p1])) hf ?_ ?_
        · intro w28 hf H locs ls hP hS hl
          obtain ⟨u30, hu30, hf⟩ := ob_bk hf
          refine ba_iast (X' := [(a_t, .inr (5, [.ref a_signs, .int v_count])), (a_signs, eI cI 30 v_signs), (a_p1, eI cI 12 u30)]) Cx hP hS rfl 2 rfl rfl hu30 dX5_writeSteps_166 (fun H locs hP hS => ?_)
          exact J167_24 u30 hf _ _ _ hP hS (lv_sub hl [0] rfl)
        · intro J166_29 hf
          refine lv_if_eq (tgt := 165) hx hb dX5_writeSteps_153 (by decide) (fun c31 => ?_) (fun c31 => ?_)
          · have hf := ob_tk c31 hf
            refine lv_iconst (v := 0) hx hb dX5_writeSteps_165 (by decide) ?_
            exact J166_29 (0 : Int32) hf _ _ _ hP hS (lv_sub hl [2] rfl)
          · have hf := ob_fk c31 hf
            refine lv_iload hx hb dX5_writeSteps_156 (lv_at hl 4 rfl) ?_
            refine lv_iload_n hx hb dX5_writeSteps_158 rfl (lv_at hl 3 rfl) ?_
            refine lv_iadd hx hb dX5_writeSteps_159 ?_
            refine lv_iconst (v := 1) hx hb dX5_writeSteps_160 (by decide) ?_
            refine lv_isub hx hb dX5_writeSteps_161 ?_
            refine lv_goto (tgt := 166) hx hb dX5_writeSteps_162 (by decide) ?_
            exact J166_29 ((u22.2.2.1 + u22.2.1) - (1 : Int32)) hf _ _ _ hP hS (lv_sub hl [2] rfl)
      · intro J145_27 hf
        refine lv_if_eq (tgt := 144) hx hb dX5_writeSteps_123 (by decide) (fun c32 => ?_) (fun c32 => ?_)
        · have hf := ob_tk c32 hf
          refine lv_iconst (v := 0) hx hb dX5_writeSteps_144 (by decide) ?_
          exact J145_27 (0 : Int32) hf _ _ _ hP hS (lv_sub hl [0, 1, 2, 3] rfl)
        · have hf := ob_fk c32 hf
          refine lv_iload_n hx hb dX5_writeSteps_126 rfl (lv_at hl 1 rfl) ?_
          refine lv_iconst (v := 1) hx hb dX5_writeSteps_127 (by decide) ?_
          refine lv_icmp_le (tgt := 144) hx hb dX5_writeSteps_128 (by decide) (fun c33 => ?_) (fun c33 => ?_)
          · have hf := ob_tk c33 hf
            refine lv_iconst (v := 0) hx hb dX5_writeSteps_144 (by decide) ?_
            exact J145_27 (0 : Int32) hf _ _ _ hP hS (lv_sub hl [0, 1, 2, 3] rfl)
          · have hf := ob_fk c33 hf
            refine lv_iload hx hb dX5_writeSteps_131 (lv_at hl 3 rfl) ?_
            refine lv_if_eq (tgt := 144) hx hb dX5_writeSteps_133 (by decide) (fun c34 => ?_) (fun c34 => ?_)
            · have hf := ob_tk c34 hf
              refine lv_iconst (v := 0) hx hb dX5_writeSteps_144 (by decide) ?_
              exact J145_27 (0 : Int32) hf _ _ _ hP hS (lv_sub hl [0, 1, 2, 3] rfl)
            · have hf := ob_fk c34 hf
              refine lv_iload_n hx hb dX5_writeSteps_136 rfl (lv_at hl 2 rfl) ?_
              refine lv_if_eq (tgt := 144) hx hb dX5_writeSteps_137 (by decide) (fun c35 => ?_) (fun c35 => ?_)
              · have hf := ob_tk c35 hf
                refine lv_iconst (v := 0) hx hb dX5_writeSteps_144 (by decide) ?_
                exact J145_27 (0 : Int32) hf _ _ _ hP hS (lv_sub hl [0, 1, 2, 3] rfl)
              · have hf := ob_fk c35 hf
                refine lv_iconst (v := 1) hx hb dX5_writeSteps_140 (by decide) ?_
                refine lv_goto (tgt := 145) hx hb dX5_writeSteps_141 (by decide) ?_
                exact J145_27 (1 : Int32) hf _ _ _ hP hS (lv_sub hl [0, 1, 2, 3] rfl)

def f_X6_start_26 (x3 : Int32) : Nat → Int32 → Int64 → Option (Int64)
  | 0, _, _ => none
  | n + 1, y4_26, z_parts_26 =>
  if x3 ≤ y4_26 then
  some (z_parts_26)
  else
  f_X6_start_26 x3 n (y4_26 + 1) (z_parts_26 * (55440 : Int64))
theorem f_X6_start_26_s (x3 : Int32) (n : Nat) (y4_26 : Int32) (z_parts_26 : Int64) : f_X6_start_26 x3 (n + 1) y4_26 z_parts_26 =
  (if x3 ≤ y4_26 then
  some (z_parts_26)
  else
  f_X6_start_26 x3 n (y4_26 + 1) (z_parts_26 * (55440 : Int64))) := rfl
def f_X6_start (v_odds : Nat → Int64) (v_sitters_set : Int32) (v_sitters_bear : Int32) (v_sitters_bench_scene_seats : Int32) (v_sitters_bench_scene_bear : Int32) (v_sitters_nearest : Nat → Int32) (v_sitters_bench_apart : Nat → Int32) (v_sitters_bench_scene_worths : Nat → Int32) (v_sitters_bench_neighbours : Nat → Int32) (x1 : Int32) (x2 : Int32) (x3 : Int32) : Option (Int64 × Int64 × Int32 × (Nat → Int64) × Int32 × Int32 × (Nat → Int32)) :=
  (f_J7_fill_d0a16 13 v_odds (0 : Int64)).bind (fun u1 =>
  (f_X6_start_26 x3 FU (0 : Int32) (1 : Int64)).bind (fun u4 =>
  (goN 4 (0 : Int64) x2 v_sitters_set v_sitters_bear v_sitters_bench_scene_seats v_sitters_bench_scene_bear v_sitters_nearest v_sitters_bench_apart v_sitters_bench_scene_worths v_sitters_bench_neighbours u1 x1 x3 u4).bind (fun u5 =>
  some (u5.1, u4, x2, u5.2.2.2.2, u5.2.1, u5.2.2.1, u5.2.2.2.1))))
set_option maxHeartbeats 4000000 in
set_option maxRecDepth 100000 in
theorem c_X6_start (l : Launch) (D : va_G) (cI cJ cZ cO : ClassId) (a_t a_sitters a_odds a_sitters_bench a_sitters_nearest a_sitters_bench_scene a_sitters_bench_apart a_sitters_bench_clash a_sitters_bench_neighbours a_sitters_bench_scene_steps a_sitters_bench_scene_worths a_sitters_bench_scene_comers a_sitters_bench_scene_seen a_sitters_bench_scene_seenLengths : Nat) (v_turnedAway : Int64) (v_parts : Int64) (v_habit : Int32) (v_odds : Nat → Int64) (v_sitters_set : Int32) (v_sitters_bear : Int32) (v_sitters_bench_scene_seats : Int32) (v_sitters_bench_scene_bear : Int32) (v_sitters_bench_scene_comerCount : Int32) (v_sitters_bench_scene_seenRows : Int32) (v_sitters_nearest : Nat → Int32) (v_sitters_bench_apart : Nat → Int32) (v_sitters_bench_scene_worths : Nat → Int32) (v_sitters_bench_neighbours : Nat → Int32) (x1 : Int32) (x2 : Int32) (x3 : Int32) (out : Int64 × Int64 × Int32 × (Nat → Int64) × Int32 × Int32 × (Nat → Int32)) (hf : f_X6_start v_odds v_sitters_set v_sitters_bear v_sitters_bench_scene_seats v_sitters_bench_scene_bear v_sitters_nearest v_sitters_bench_apart v_sitters_bench_scene_worths v_sitters_bench_neighbours x1 x2 x3 = some out) : MetR l yX6_start (Cond.code yX6_start cX6_start 5 none :: tbG) { frames := 81, cells := 0, slots := 0, locals := 3224 } D (tyL cI cJ cZ cO) [.ref a_t, .int x1, .int x2, .int x3] [(a_t, .inr (6, [.ref a_sitters, .ref a_odds, .long v_turnedAway, .long v_parts, .int v_habit])), (a_odds, eJ cJ 13 v_odds), (a_sitters, .inr (9, [.ref a_sitters_bench, .ref a_sitters_nearest, .int v_sitters_set, .int v_sitters_bear])), (a_sitters_bench, .inr (0, [.ref a_sitters_bench_scene, .ref a_sitters_bench_apart, .ref a_sitters_bench_clash, .ref a_sitters_bench_neighbours])), (a_sitters_bench_scene, .inr (7, [.ref a_sitters_bench_scene_steps, .ref a_sitters_bench_scene_worths, .ref a_sitters_bench_scene_comers, .ref a_sitters_bench_scene_seen, .ref a_sitters_bench_scene_seenLengths, .int v_sitters_bench_scene_seats, .int v_sitters_bench_scene_bear, .int v_sitters_bench_scene_comerCount, .int v_sitters_bench_scene_seenRows])), (a_sitters_nearest, eI cI 12 v_sitters_nearest), (a_sitters_bench_apart, eI cI 144 v_sitters_bench_apart), (a_sitters_bench_scene_worths, eI cI 12 v_sitters_bench_scene_worths), (a_sitters_bench_neighbours, eI cI 12 v_sitters_bench_neighbours)] none [(a_t, .inr (6, [.ref a_sitters, .ref a_odds, .long out.1, .long out.2.1, .int out.2.2.1])), (a_odds, eJ cJ 13 out.2.2.2.1), (a_sitters, .inr (9, [.ref a_sitters_bench, .ref a_sitters_nearest, .int out.2.2.2.2.1, .int out.2.2.2.2.2.1])), (a_sitters_bench, .inr (0, [.ref a_sitters_bench_scene, .ref a_sitters_bench_apart, .ref a_sitters_bench_clash, .ref a_sitters_bench_neighbours])), (a_sitters_bench_scene, .inr (7, [.ref a_sitters_bench_scene_steps, .ref a_sitters_bench_scene_worths, .ref a_sitters_bench_scene_comers, .ref a_sitters_bench_scene_seen, .ref a_sitters_bench_scene_seenLengths, .int v_sitters_bench_scene_seats, .int v_sitters_bench_scene_bear, .int v_sitters_bench_scene_comerCount, .int v_sitters_bench_scene_seenRows])), (a_sitters_nearest, eI cI 12 out.2.2.2.2.2.2), (a_sitters_bench_apart, eI cI 144 v_sitters_bench_apart), (a_sitters_bench_scene_worths, eI cI 12 v_sitters_bench_scene_worths), (a_sitters_bench_neighbours, eI cI 12 v_sitters_bench_neighbours)] := by
  refine ba_ofV RX6 [(0, .ref a_t), (1, .int x1), (2, .int x2), (3, .int x3)] (by decide +kernel) rfl (Nat.le_of_ble_eq_true rfl) rfl ?_
  intro p e s m args below meth c Q A Cx hP ret ls hl
  obtain ⟨⟨hx, hb, hml, hown, hts⟩, hK, hD, hA⟩ := id Cx
  have hS : va_S A s.heap s.heap [] := va_S.rf
  unfold f_X6_start at hf
  refine lv_aload_n hx hb dX6_start_0 rfl (lv_at hl 0 rfl) ?_
  refine gf_X6_15 Cx hP 0 rfl rfl dX6_start_1 ?_
  refine lv_lconst (v := 0) hx hb dX6_start_4 (by decide) ?_
  obtain ⟨u1, hu1, hf⟩ := ob_b hf
  refine iv_X6_19 (As := [.ref a_odds, .long (0 : Int64)]) (rest := []) (is := [1]) (X' := [(a_t, .inr (6, [.ref a_sitters, .ref a_odds, .long v_turnedAway, .long v_parts, .int v_habit])), (a_odds, eJ cJ 13 u1), (a_sitters, .inr (9, [.ref a_sitters_bench, .ref a_sitters_nearest, .int v_sitters_set, .int v_sitters_bear])), (a_sitters_bench, .inr (0, [.ref a_sitters_bench_scene, .ref a_sitters_bench_apart, .ref a_sitters_bench_clash, .ref a_sitters_bench_neighbours])), (a_sitters_bench_scene, .inr (7, [.ref a_sitters_bench_scene_steps, .ref a_sitters_bench_scene_worths, .ref a_sitters_bench_scene_comers, .ref a_sitters_bench_scene_seen, .ref a_sitters_bench_scene_seenLengths, .int v_sitters_bench_scene_seats, .int v_sitters_bench_scene_bear, .int v_sitters_bench_scene_comerCount, .int v_sitters_bench_scene_seenRows])), (a_sitters_nearest, eI cI 12 v_sitters_nearest), (a_sitters_bench_apart, eI cI 144 v_sitters_bench_apart), (a_sitters_bench_scene_worths, eI cI 12 v_sitters_bench_scene_worths), (a_sitters_bench_neighbours, eI cI 12 v_sitters_bench_neighbours)]) Cx (c_J7_fill_d0a16 l D cI cJ cZ cO a_odds 13 v_odds (0 : Int64) u1 hu1) hP hS rfl rfl rfl rfl rfl rfl hl.1 (Nat.le_of_ble_eq_true rfl) dX6_start_5 rfl rfl ⟨Nat.le_of_ble_eq_true rfl, Nat.le_of_ble_eq_true rfl⟩ ⟨Nat.zero_le _, Nat.zero_le _⟩ rfl (fun H locs hP hS => ?_)
  refine lv_aload_n hx hb dX6_start_8 rfl (lv_at hl 0 rfl) ?_
  refine lv_lconst (v := 0) hx hb dX6_start_9 (by decide) ?_
  refine pf_X6_25 (X' := [(a_t, .inr (6, [.ref a_sitters, .ref a_odds, .long (0 : Int64), .long v_parts, .int v_habit])), (a_odds, eJ cJ 13 u1), (a_sitters, .inr (9, [.ref a_sitters_bench, .ref a_sitters_nearest, .int v_sitters_set, .int v_sitters_bear])), (a_sitters_bench, .inr (0, [.ref a_sitters_bench_scene, .ref a_sitters_bench_apart, .ref a_sitters_bench_clash, .ref a_sitters_bench_neighbours])), (a_sitters_bench_scene, .inr (7, [.ref a_sitters_bench_scene_steps, .ref a_sitters_bench_scene_worths, .ref a_sitters_bench_scene_comers, .ref a_sitters_bench_scene_seen, .ref a_sitters_bench_scene_seenLengths, .int v_sitters_bench_scene_seats, .int v_sitters_bench_scene_bear, .int v_sitters_bench_scene_comerCount, .int v_sitters_bench_scene_seenRows])), (a_sitters_nearest, eI cI 12 v_sitters_nearest), (a_sitters_bench_apart, eI cI 144 v_sitters_bench_apart), (a_sitters_bench_scene_worths, eI cI 12 v_sitters_bench_scene_worths), (a_sitters_bench_neighbours, eI cI 12 v_sitters_bench_neighbours)]) Cx hP hS rfl 0 rfl rfl (Nat.le_of_ble_eq_true rfl) dX6_start_10 (fun H locs hP hS => ?_)
  refine lv_aload_n hx hb dX6_start_13 rfl (lv_at hl 0 rfl) ?_
  refine lv_iload_n hx hb dX6_start_14 rfl (lv_at hl 2 rfl) ?_
  refine pf_X6_29 (X' := [(a_t, .inr (6, [.ref a_sitters, .ref a_odds, .long (0 : Int64), .long v_parts, .int x2])), (a_odds, eJ cJ 13 u1), (a_sitters, .inr (9, [.ref a_sitters_bench, .ref a_sitters_nearest, .int v_sitters_set, .int v_sitters_bear])), (a_sitters_bench, .inr (0, [.ref a_sitters_bench_scene, .ref a_sitters_bench_apart, .ref a_sitters_bench_clash, .ref a_sitters_bench_neighbours])), (a_sitters_bench_scene, .inr (7, [.ref a_sitters_bench_scene_steps, .ref a_sitters_bench_scene_worths, .ref a_sitters_bench_scene_comers, .ref a_sitters_bench_scene_seen, .ref a_sitters_bench_scene_seenLengths, .int v_sitters_bench_scene_seats, .int v_sitters_bench_scene_bear, .int v_sitters_bench_scene_comerCount, .int v_sitters_bench_scene_seenRows])), (a_sitters_nearest, eI cI 12 v_sitters_nearest), (a_sitters_bench_apart, eI cI 144 v_sitters_bench_apart), (a_sitters_bench_scene_worths, eI cI 12 v_sitters_bench_scene_worths), (a_sitters_bench_neighbours, eI cI 12 v_sitters_bench_neighbours)]) Cx hP hS rfl 0 rfl rfl (Nat.le_of_ble_eq_true rfl) dX6_start_15 (fun H locs hP hS => ?_)
  refine lv_aload_n hx hb dX6_start_18 rfl (lv_at hl 0 rfl) ?_
  refine lv_lconst (v := 1) hx hb dX6_start_19 (by decide) ?_
  refine pf_X6_33 (X' := [(a_t, .inr (6, [.ref a_sitters, .ref a_odds, .long (0 : Int64), .long (1 : Int64), .int x2])), (a_odds, eJ cJ 13 u1), (a_sitters, .inr (9, [.ref a_sitters_bench, .ref a_sitters_nearest, .int v_sitters_set, .int v_sitters_bear])), (a_sitters_bench, .inr (0, [.ref a_sitters_bench_scene, .ref a_sitters_bench_apart, .ref a_sitters_bench_clash, .ref a_sitters_bench_neighbours])), (a_sitters_bench_scene, .inr (7, [.ref a_sitters_bench_scene_steps, .ref a_sitters_bench_scene_worths, .ref a_sitters_bench_scene_comers, .ref a_sitters_bench_scene_seen, .ref a_sitters_bench_scene_seenLengths, .int v_sitters_bench_scene_seats, .int v_sitters_bench_scene_bear, .int v_sitters_bench_scene_comerCount, .int v_sitters_bench_scene_seenRows])), (a_sitters_nearest, eI cI 12 v_sitters_nearest), (a_sitters_bench_apart, eI cI 144 v_sitters_bench_apart), (a_sitters_bench_scene_worths, eI cI 12 v_sitters_bench_scene_worths), (a_sitters_bench_neighbours, eI cI 12 v_sitters_bench_neighbours)]) Cx hP hS rfl 0 rfl rfl (Nat.le_of_ble_eq_true rfl) dX6_start_20 (fun H locs hP hS => ?_)
  refine lv_iconst (v := 0) hx hb dX6_start_23 (by decide) ?_
  refine lv_istore (lv' := [(4, .int (0 : Int32)), (0, .ref a_t), (1, .int x1), (2, .int x2), (3, .int x3)]) hx hb dX6_start_24 hl (by decide) rfl (fun ls hl => ?_)
  have L26_2 : ∀ (n : Nat) (y4_26 : Int32) (z_parts_26 : Int64) (o : Int64) (H : Heap) (locs : List Loc) (ls : Array Slot), f_X6_start_26 x3 n y4_26 z_parts_26 = some o → va_P D vwCl [(a_t, .inr (6, [.ref a_sitters, .ref a_odds, .long (0 : Int64), .long z_parts_26, .int x2])), (a_odds, eJ cJ 13 u1), (a_sitters, .inr (9, [.ref a_sitters_bench, .ref a_sitters_nearest, .int v_sitters_set, .int v_sitters_bear])), (a_sitters_bench, .inr (0, [.ref a_sitters_bench_scene, .ref a_sitters_bench_apart, .ref a_sitters_bench_clash, .ref a_sitters_bench_neighbours])), (a_sitters_bench_scene, .inr (7, [.ref a_sitters_bench_scene_steps, .ref a_sitters_bench_scene_worths, .ref a_sitters_bench_scene_comers, .ref a_sitters_bench_scene_seen, .ref a_sitters_bench_scene_seenLengths, .int v_sitters_bench_scene_seats, .int v_sitters_bench_scene_bear, .int v_sitters_bench_scene_comerCount, .int v_sitters_bench_scene_seenRows])), (a_sitters_nearest, eI cI 12 v_sitters_nearest), (a_sitters_bench_apart, eI cI 144 v_sitters_bench_apart), (a_sitters_bench_scene_worths, eI cI 12 v_sitters_bench_scene_worths), (a_sitters_bench_neighbours, eI cI 12 v_sitters_bench_neighbours)] H → va_S A s.heap H locs → lv_has ls 5 [(0, .ref a_t), (1, .int x1), (3, .int x3), (4, .int y4_26)] → (∀ (H : Heap) (locs : List Loc) (ls : Array Slot), va_P D vwCl [(a_t, .inr (6, [.ref a_sitters, .ref a_odds, .long (0 : Int64), .long o, .int x2])), (a_odds, eJ cJ 13 u1), (a_sitters, .inr (9, [.ref a_sitters_bench, .ref a_sitters_nearest, .int v_sitters_set, .int v_sitters_bear])), (a_sitters_bench, .inr (0, [.ref a_sitters_bench_scene, .ref a_sitters_bench_apart, .ref a_sitters_bench_clash, .ref a_sitters_bench_neighbours])), (a_sitters_bench_scene, .inr (7, [.ref a_sitters_bench_scene_steps, .ref a_sitters_bench_scene_worths, .ref a_sitters_bench_scene_comers, .ref a_sitters_bench_scene_seen, .ref a_sitters_bench_scene_seenLengths, .int v_sitters_bench_scene_seats, .int v_sitters_bench_scene_bear, .int v_sitters_bench_scene_comerCount, .int v_sitters_bench_scene_seenRows])), (a_sitters_nearest, eI cI 12 v_sitters_nearest), (a_sitters_bench_apart, eI cI 144 v_sitters_bench_apart), (a_sitters_bench_scene_worths, eI cI 12 v_sitters_bench_scene_worths), (a_sitters_bench_neighbours, eI cI 12 v_sitters_bench_neighbours)] H → va_S A s.heap H locs → lv_has ls 5 [(0, .ref a_t), (1, .int x1), (3, .int x3)] → W p l e { frames := 81, cells := 0, slots := 0, locals := 3224 } s m args below meth c H locs 0 0 Q (F0 m 50 ls [])) → W p l e { frames := 81, cells := 0, slots := 0, locals := 3224 } s m args below meth c H locs 0 0 Q (F0 m 26 ls []) := by
    intro n
    induction n with
    | zero => intro y4_26 z_parts_26 o H locs ls hf; exact (ob_n hf).elim
    | succ n ih =>
      intro y4_26 z_parts_26 o H locs ls hf hP hS hl kk
      rw [f_X6_start_26_s] at hf
      refine lv_iload hx hb dX6_start_26 (lv_at hl 3 rfl) ?_
      refine lv_iload_n hx hb dX6_start_28 rfl (lv_at hl 2 rfl) ?_
      refine lv_icmp_ge (tgt := 50) hx hb dX6_start_29 (by decide) (fun c3 => ?_) (fun c3 => ?_)
      · have hf := ob_t c3 hf
        obtain rfl := Option.some.inj hf
        exact kk _ _ _ hP hS (lv_sub hl [0, 1, 2] rfl)
      · have hf := ob_f c3 hf
        refine lv_aload_n hx hb dX6_start_32 rfl (lv_at hl 0 rfl) ?_
        refine lv_dup hx hb dX6_start_33 rfl ?_
        refine gf_X6_33 Cx hP 0 rfl rfl dX6_start_34 ?_
        refine lv_ldc2 hx hb hown (hts _ kw_647) dX6_start_37 ?_
        refine lv_lmul hx hb dX6_start_40 ?_
        refine pf_X6_33 (X' := [(a_t, .inr (6, [.ref a_sitters, .ref a_odds, .long (0 : Int64), .long (z_parts_26 * (55440 : Int64)), .int x2])), (a_odds, eJ cJ 13 u1), (a_sitters, .inr (9, [.ref a_sitters_bench, .ref a_sitters_nearest, .int v_sitters_set, .int v_sitters_bear])), (a_sitters_bench, .inr (0, [.ref a_sitters_bench_scene, .ref a_sitters_bench_apart, .ref a_sitters_bench_clash, .ref a_sitters_bench_neighbours])), (a_sitters_bench_scene, .inr (7, [.ref a_sitters_bench_scene_steps, .ref a_sitters_bench_scene_worths, .ref a_sitters_bench_scene_comers, .ref a_sitters_bench_scene_seen, .ref a_sitters_bench_scene_seenLengths, .int v_sitters_bench_scene_seats, .int v_sitters_bench_scene_bear, .int v_sitters_bench_scene_comerCount, .int v_sitters_bench_scene_seenRows])), (a_sitters_nearest, eI cI 12 v_sitters_nearest), (a_sitters_bench_apart, eI cI 144 v_sitters_bench_apart), (a_sitters_bench_scene_worths, eI cI 12 v_sitters_bench_scene_worths), (a_sitters_bench_neighbours, eI cI 12 v_sitters_bench_neighbours)]) Cx hP hS rfl 0 rfl rfl (Nat.le_of_ble_eq_true rfl) dX6_start_41 (fun H locs hP hS => ?_)
        refine lv_iinc (v := (y4_26 + 1)) (lv' := [(4, .int (y4_26 + 1)), (0, .ref a_t), (1, .int x1), (3, .int x3)]) hx hb dX6_start_44 hl (k := 3) rfl rfl (by decide) rfl (fun ls hl => ?_)
        refine lv_goto (tgt := 26) hx hb dX6_start_47 (by decide) ?_
        exact ih (y4_26 + 1) (z_parts_26 * (55440 : Int64)) _ _ _ _ hf hP hS (lv_sub hl [1, 2, 3, 0] rfl) kk
  obtain ⟨u4, hu4, hf⟩ := ob_b hf
  refine L26_2 FU (0 : Int32) (1 : Int64) u4 _ _ _ hu4 hP hS (lv_sub hl [1, 2, 4, 0] rfl) ?_
  intro H locs ls hP hS hl
  refine lv_aload_n hx hb dX6_start_50 rfl (lv_at hl 0 rfl) ?_
  refine lv_iload_n hx hb dX6_start_51 rfl (lv_at hl 1 rfl) ?_
  refine lv_iload_n hx hb dX6_start_52 rfl (lv_at hl 2 rfl) ?_
  refine lv_aload_n hx hb dX6_start_53 rfl (lv_at hl 0 rfl) ?_
  refine gf_X6_33 Cx hP 0 rfl rfl dX6_start_54 ?_
  obtain ⟨u5, hu5, hf⟩ := ob_b hf
  refine iv_X6_38 (As := [.int x1, .int x3, .long u4]) (rest := []) (is := [0, 2, 3, 4, 5, 6, 7, 8, 1]) (q0 := 0) (X' := [(a_t, .inr (6, [.ref a_sitters, .ref a_odds, .long u5.1, .long u4, .int x2])), (a_odds, eJ cJ 13 u5.2.2.2.2), (a_sitters, .inr (9, [.ref a_sitters_bench, .ref a_sitters_nearest, .int u5.2.1, .int u5.2.2.1])), (a_sitters_bench, .inr (0, [.ref a_sitters_bench_scene, .ref a_sitters_bench_apart, .ref a_sitters_bench_clash, .ref a_sitters_bench_neighbours])), (a_sitters_bench_scene, .inr (7, [.ref a_sitters_bench_scene_steps, .ref a_sitters_bench_scene_worths, .ref a_sitters_bench_scene_comers, .ref a_sitters_bench_scene_seen, .ref a_sitters_bench_scene_seenLengths, .int v_sitters_bench_scene_seats, .int v_sitters_bench_scene_bear, .int v_sitters_bench_scene_comerCount, .int v_sitters_bench_scene_seenRows])), (a_sitters_nearest, eI cI 12 u5.2.2.2.1), (a_sitters_bench_apart, eI cI 144 v_sitters_bench_apart), (a_sitters_bench_scene_worths, eI cI 12 v_sitters_bench_scene_worths), (a_sitters_bench_neighbours, eI cI 12 v_sitters_bench_neighbours)]) Cx (c_goN l D cI cJ cZ cO a_t a_sitters a_odds a_sitters_bench a_sitters_nearest a_sitters_bench_scene a_sitters_bench_apart a_sitters_bench_clash a_sitters_bench_neighbours a_sitters_bench_scene_steps a_sitters_bench_scene_worths a_sitters_bench_scene_comers a_sitters_bench_scene_seen a_sitters_bench_scene_seenLengths 4 (0 : Int64) u4 x2 v_sitters_set v_sitters_bear v_sitters_bench_scene_seats v_sitters_bench_scene_bear v_sitters_bench_scene_comerCount v_sitters_bench_scene_seenRows v_sitters_nearest v_sitters_bench_apart v_sitters_bench_scene_worths v_sitters_bench_neighbours u1 x1 x3 u4 u5 hu5) hP hS rfl rfl rfl rfl rfl rfl rfl hl.1 (Nat.le_of_ble_eq_true rfl) dX6_start_57 rfl rfl ⟨Nat.le_of_ble_eq_true rfl, Nat.le_of_ble_eq_true rfl⟩ ⟨Nat.zero_le _, Nat.zero_le _⟩ rfl (fun H locs hP hS => ?_)
  obtain rfl := Option.some.inj hf
  exact ret _ _ _ _ dX6_start_60 hP hS

def f_X7_copyFrom (v_p1_seats : Int32) (v_p1_bear : Int32) (v_p1_comerCount : Int32) (v_p1_seenRows : Int32) (v_p1_steps : Nat → Int32) (v_steps : Nat → Int32) (v_p1_worths : Nat → Int32) (v_worths : Nat → Int32) (v_p1_comers : Nat → Int32) (v_comers : Nat → Int32) (v_p1_seen : Nat → Int32) (v_seen : Nat → Int32) (v_p1_seenLengths : Nat → Int32) (v_seenLengths : Nat → Int32) : Option (Int32 × Int32 × Int32 × Int32 × (Nat → Int32) × (Nat → Int32) × (Nat → Int32) × (Nat → Int32) × (Nat → Int32)) :=
  (acpyI 12 12 v_p1_steps v_steps (0 : Int32) (0 : Int32) (12 : Int32)).bind (fun u1 =>
  (acpyI 12 12 v_p1_worths v_worths (0 : Int32) (0 : Int32) (12 : Int32)).bind (fun u2 =>
  (acpyI 12 12 v_p1_comers v_comers (0 : Int32) (0 : Int32) (12 : Int32)).bind (fun u3 =>
  (acpyI 96 96 v_p1_seen v_seen (0 : Int32) (0 : Int32) (96 : Int32)).bind (fun u4 =>
  (acpyI 8 8 v_p1_seenLengths v_seenLengths (0 : Int32) (0 : Int32) (8 : Int32)).bind (fun u5 =>
  some (v_p1_seats, v_p1_bear, v_p1_comerCount, v_p1_seenRows, u1, u2, u3, u4, u5))))))
set_option maxHeartbeats 4000000 in
set_option maxRecDepth 100000 in
theorem c_X7_copyFrom (l : Launch) (D : va_G) (cI cJ cZ cO : ClassId) (a_p1 a_p1_steps a_p1_worths a_p1_comers a_p1_seen a_p1_seenLengths a_t a_steps a_worths a_comers a_seen a_seenLengths : Nat) (v_p1_seats : Int32) (v_p1_bear : Int32) (v_p1_comerCount : Int32) (v_p1_seenRows : Int32) (v_seats : Int32) (v_bear : Int32) (v_comerCount : Int32) (v_seenRows : Int32) (v_p1_steps : Nat → Int32) (v_steps : Nat → Int32) (v_p1_worths : Nat → Int32) (v_worths : Nat → Int32) (v_p1_comers : Nat → Int32) (v_comers : Nat → Int32) (v_p1_seen : Nat → Int32) (v_seen : Nat → Int32) (v_p1_seenLengths : Nat → Int32) (v_seenLengths : Nat → Int32) (out : Int32 × Int32 × Int32 × Int32 × (Nat → Int32) × (Nat → Int32) × (Nat → Int32) × (Nat → Int32) × (Nat → Int32)) (hf : f_X7_copyFrom v_p1_seats v_p1_bear v_p1_comerCount v_p1_seenRows v_p1_steps v_steps v_p1_worths v_worths v_p1_comers v_comers v_p1_seen v_seen v_p1_seenLengths v_seenLengths = some out) : MetR l yX7_copyFrom (Cond.code yX7_copyFrom cX7_copyFrom 2 none :: tbG) { frames := 1, cells := 0, slots := 0, locals := 40 } D (tyL cI cJ cZ cO) [.ref a_t, .ref a_p1] [(a_p1, .inr (7, [.ref a_p1_steps, .ref a_p1_worths, .ref a_p1_comers, .ref a_p1_seen, .ref a_p1_seenLengths, .int v_p1_seats, .int v_p1_bear, .int v_p1_comerCount, .int v_p1_seenRows])), (a_t, .inr (7, [.ref a_steps, .ref a_worths, .ref a_comers, .ref a_seen, .ref a_seenLengths, .int v_seats, .int v_bear, .int v_comerCount, .int v_seenRows])), (a_p1_steps, eI cI 12 v_p1_steps), (a_steps, eI cI 12 v_steps), (a_p1_worths, eI cI 12 v_p1_worths), (a_worths, eI cI 12 v_worths), (a_p1_comers, eI cI 12 v_p1_comers), (a_comers, eI cI 12 v_comers), (a_p1_seen, eI cI 96 v_p1_seen), (a_seen, eI cI 96 v_seen), (a_p1_seenLengths, eI cI 8 v_p1_seenLengths), (a_seenLengths, eI cI 8 v_seenLengths)] none [(a_p1, .inr (7, [.ref a_p1_steps, .ref a_p1_worths, .ref a_p1_comers, .ref a_p1_seen, .ref a_p1_seenLengths, .int v_p1_seats, .int v_p1_bear, .int v_p1_comerCount, .int v_p1_seenRows])), (a_t, .inr (7, [.ref a_steps, .ref a_worths, .ref a_comers, .ref a_seen, .ref a_seenLengths, .int out.1, .int out.2.1, .int out.2.2.1, .int out.2.2.2.1])), (a_p1_steps, eI cI 12 v_p1_steps), (a_steps, eI cI 12 out.2.2.2.2.1), (a_p1_worths, eI cI 12 v_p1_worths), (a_worths, eI cI 12 out.2.2.2.2.2.1), (a_p1_comers, eI cI 12 v_p1_comers), (a_comers, eI cI 12 out.2.2.2.2.2.2.1), (a_p1_seen, eI cI 96 v_p1_seen), (a_seen, eI cI 96 out.2.2.2.2.2.2.2.1), (a_p1_seenLengths, eI cI 8 v_p1_seenLengths), (a_seenLengths, eI cI 8 out.2.2.2.2.2.2.2.2)] := by
  refine ba_ofV RX7 [(0, .ref a_t), (1, .ref a_p1)] (by decide +kernel) rfl (Nat.le_of_ble_eq_true rfl) rfl ?_
  intro p e s m args below meth c Q A Cx hP ret ls hl
  obtain ⟨⟨hx, hb, hml, hown, hts⟩, hK, hD, hA⟩ := id Cx
  have hS : va_S A s.heap s.heap [] := va_S.rf
  unfold f_X7_copyFrom at hf
  refine lv_aload_n hx hb dX7_copyFrom_0 rfl (lv_at hl 1 rfl) ?_
  refine gf_X7_9 Cx hP 0 rfl rfl dX7_copyFrom_1 ?_
  refine lv_iconst (v := 0) hx hb dX7_copyFrom_4 (by decide) ?_
  refine lv_aload_n hx hb dX7_copyFrom_5 rfl (lv_at hl 0 rfl) ?_
  refine gf_X7_9 Cx hP 1 rfl rfl dX7_copyFrom_6 ?_
  refine lv_iconst (v := 0) hx hb dX7_copyFrom_9 (by decide) ?_
  refine lv_bipush (v := 12) hx hb dX7_copyFrom_10 (by decide) ?_
  obtain ⟨u1, hu1, hf⟩ := ob_b hf
  refine ba_acpy (X' := [(a_p1, .inr (7, [.ref a_p1_steps, .ref a_p1_worths, .ref a_p1_comers, .ref a_p1_seen, .ref a_p1_seenLengths, .int v_p1_seats, .int v_p1_bear, .int v_p1_comerCount, .int v_p1_seenRows])), (a_t, .inr (7, [.ref a_steps, .ref a_worths, .ref a_comers, .ref a_seen, .ref a_seenLengths, .int v_seats, .int v_bear, .int v_comerCount, .int v_seenRows])), (a_p1_steps, eI cI 12 v_p1_steps), (a_steps, eI cI 12 u1), (a_p1_worths, eI cI 12 v_p1_worths), (a_worths, eI cI 12 v_worths), (a_p1_comers, eI cI 12 v_p1_comers), (a_comers, eI cI 12 v_comers), (a_p1_seen, eI cI 96 v_p1_seen), (a_seen, eI cI 96 v_seen), (a_p1_seenLengths, eI cI 8 v_p1_seenLengths), (a_seenLengths, eI cI 8 v_seenLengths)]) Cx hP hS rfl (hts _ kw_722) hl.1 (Nat.le_of_ble_eq_true rfl) (Nat.le_of_ble_eq_true rfl) 2 3 rfl rfl rfl hu1 dX7_copyFrom_12 (fun H locs hP hS => ?_)
  refine lv_aload_n hx hb dX7_copyFrom_15 rfl (lv_at hl 1 rfl) ?_
  refine gf_X7_15 Cx hP 0 rfl rfl dX7_copyFrom_16 ?_
  refine lv_iconst (v := 0) hx hb dX7_copyFrom_19 (by decide) ?_
  refine lv_aload_n hx hb dX7_copyFrom_20 rfl (lv_at hl 0 rfl) ?_
  refine gf_X7_15 Cx hP 1 rfl rfl dX7_copyFrom_21 ?_
  refine lv_iconst (v := 0) hx hb dX7_copyFrom_24 (by decide) ?_
  refine lv_bipush (v := 12) hx hb dX7_copyFrom_25 (by decide) ?_
  obtain ⟨u2, hu2, hf⟩ := ob_b hf
  refine ba_acpy (X' := [(a_p1, .inr (7, [.ref a_p1_steps, .ref a_p1_worths, .ref a_p1_comers, .ref a_p1_seen, .ref a_p1_seenLengths, .int v_p1_seats, .int v_p1_bear, .int v_p1_comerCount, .int v_p1_seenRows])), (a_t, .inr (7, [.ref a_steps, .ref a_worths, .ref a_comers, .ref a_seen, .ref a_seenLengths, .int v_seats, .int v_bear, .int v_comerCount, .int v_seenRows])), (a_p1_steps, eI cI 12 v_p1_steps), (a_steps, eI cI 12 u1), (a_p1_worths, eI cI 12 v_p1_worths), (a_worths, eI cI 12 u2), (a_p1_comers, eI cI 12 v_p1_comers), (a_comers, eI cI 12 v_comers), (a_p1_seen, eI cI 96 v_p1_seen), (a_seen, eI cI 96 v_seen), (a_p1_seenLengths, eI cI 8 v_p1_seenLengths), (a_seenLengths, eI cI 8 v_seenLengths)]) Cx hP hS rfl (hts _ kw_722) hl.1 (Nat.le_of_ble_eq_true rfl) (Nat.le_of_ble_eq_true rfl) 4 5 rfl rfl rfl hu2 dX7_copyFrom_27 (fun H locs hP hS => ?_)
  refine lv_aload_n hx hb dX7_copyFrom_30 rfl (lv_at hl 1 rfl) ?_
  refine gf_X7_18 Cx hP 0 rfl rfl dX7_copyFrom_31 ?_
  refine lv_iconst (v := 0) hx hb dX7_copyFrom_34 (by decide) ?_
  refine lv_aload_n hx hb dX7_copyFrom_35 rfl (lv_at hl 0 rfl) ?_
  refine gf_X7_18 Cx hP 1 rfl rfl dX7_copyFrom_36 ?_
  refine lv_iconst (v := 0) hx hb dX7_copyFrom_39 (by decide) ?_
  refine lv_bipush (v := 12) hx hb dX7_copyFrom_40 (by decide) ?_
  obtain ⟨u3, hu3, hf⟩ := ob_b hf
  refine ba_acpy (X' := [(a_p1, .inr (7, [.ref a_p1_steps, .ref a_p1_worths, .ref a_p1_comers, .ref a_p1_seen, .ref a_p1_seenLengths, .int v_p1_seats, .int v_p1_bear, .int v_p1_comerCount, .int v_p1_seenRows])), (a_t, .inr (7, [.ref a_steps, .ref a_worths, .ref a_comers, .ref a_seen, .ref a_seenLengths, .int v_seats, .int v_bear, .int v_comerCount, .int v_seenRows])), (a_p1_steps, eI cI 12 v_p1_steps), (a_steps, eI cI 12 u1), (a_p1_worths, eI cI 12 v_p1_worths), (a_worths, eI cI 12 u2), (a_p1_comers, eI cI 12 v_p1_comers), (a_comers, eI cI 12 u3), (a_p1_seen, eI cI 96 v_p1_seen), (a_seen, eI cI 96 v_seen), (a_p1_seenLengths, eI cI 8 v_p1_seenLengths), (a_seenLengths, eI cI 8 v_seenLengths)]) Cx hP hS rfl (hts _ kw_722) hl.1 (Nat.le_of_ble_eq_true rfl) (Nat.le_of_ble_eq_true rfl) 6 7 rfl rfl rfl hu3 dX7_copyFrom_42 (fun H locs hP hS => ?_)
  refine lv_aload_n hx hb dX7_copyFrom_45 rfl (lv_at hl 1 rfl) ?_
  refine gf_X7_21 Cx hP 0 rfl rfl dX7_copyFrom_46 ?_
  refine lv_iconst (v := 0) hx hb dX7_copyFrom_49 (by decide) ?_
  refine lv_aload_n hx hb dX7_copyFrom_50 rfl (lv_at hl 0 rfl) ?_
  refine gf_X7_21 Cx hP 1 rfl rfl dX7_copyFrom_51 ?_
  refine lv_iconst (v := 0) hx hb dX7_copyFrom_54 (by decide) ?_
  refine lv_bipush (v := 96) hx hb dX7_copyFrom_55 (by decide) ?_
  obtain ⟨u4, hu4, hf⟩ := ob_b hf
  refine ba_acpy (X' := [(a_p1, .inr (7, [.ref a_p1_steps, .ref a_p1_worths, .ref a_p1_comers, .ref a_p1_seen, .ref a_p1_seenLengths, .int v_p1_seats, .int v_p1_bear, .int v_p1_comerCount, .int v_p1_seenRows])), (a_t, .inr (7, [.ref a_steps, .ref a_worths, .ref a_comers, .ref a_seen, .ref a_seenLengths, .int v_seats, .int v_bear, .int v_comerCount, .int v_seenRows])), (a_p1_steps, eI cI 12 v_p1_steps), (a_steps, eI cI 12 u1), (a_p1_worths, eI cI 12 v_p1_worths), (a_worths, eI cI 12 u2), (a_p1_comers, eI cI 12 v_p1_comers), (a_comers, eI cI 12 u3), (a_p1_seen, eI cI 96 v_p1_seen), (a_seen, eI cI 96 u4), (a_p1_seenLengths, eI cI 8 v_p1_seenLengths), (a_seenLengths, eI cI 8 v_seenLengths)]) Cx hP hS rfl (hts _ kw_722) hl.1 (Nat.le_of_ble_eq_true rfl) (Nat.le_of_ble_eq_true rfl) 8 9 rfl rfl rfl hu4 dX7_copyFrom_57 (fun H locs hP hS => ?_)
  refine lv_aload_n hx hb dX7_copyFrom_60 rfl (lv_at hl 1 rfl) ?_
  refine gf_X7_24 Cx hP 0 rfl rfl dX7_copyFrom_61 ?_
  refine lv_iconst (v := 0) hx hb dX7_copyFrom_64 (by decide) ?_
  refine lv_aload_n hx hb dX7_copyFrom_65 rfl (lv_at hl 0 rfl) ?_
  refine gf_X7_24 Cx hP 1 rfl rfl dX7_copyFrom_66 ?_
  refine lv_iconst (v := 0) hx hb dX7_copyFrom_69 (by decide) ?_
  refine lv_bipush (v := 8) hx hb dX7_copyFrom_70 (by decide) ?_
  obtain ⟨u5, hu5, hf⟩ := ob_b hf
  refine ba_acpy (X' := [(a_p1, .inr (7, [.ref a_p1_steps, .ref a_p1_worths, .ref a_p1_comers, .ref a_p1_seen, .ref a_p1_seenLengths, .int v_p1_seats, .int v_p1_bear, .int v_p1_comerCount, .int v_p1_seenRows])), (a_t, .inr (7, [.ref a_steps, .ref a_worths, .ref a_comers, .ref a_seen, .ref a_seenLengths, .int v_seats, .int v_bear, .int v_comerCount, .int v_seenRows])), (a_p1_steps, eI cI 12 v_p1_steps), (a_steps, eI cI 12 u1), (a_p1_worths, eI cI 12 v_p1_worths), (a_worths, eI cI 12 u2), (a_p1_comers, eI cI 12 v_p1_comers), (a_comers, eI cI 12 u3), (a_p1_seen, eI cI 96 v_p1_seen), (a_seen, eI cI 96 u4), (a_p1_seenLengths, eI cI 8 v_p1_seenLengths), (a_seenLengths, eI cI 8 u5)]) Cx hP hS rfl (hts _ kw_722) hl.1 (Nat.le_of_ble_eq_true rfl) (Nat.le_of_ble_eq_true rfl) 10 11 rfl rfl rfl hu5 dX7_copyFrom_72 (fun H locs hP hS => ?_)
  refine lv_aload_n hx hb dX7_copyFrom_75 rfl (lv_at hl 0 rfl) ?_
  refine lv_aload_n hx hb dX7_copyFrom_76 rfl (lv_at hl 1 rfl) ?_
  refine gf_X7_27 Cx hP 0 rfl rfl dX7_copyFrom_77 ?_
  refine pf_X7_27 (X' := [(a_p1, .inr (7, [.ref a_p1_steps, .ref a_p1_worths, .ref a_p1_comers, .ref a_p1_seen, .ref a_p1_seenLengths, .int v_p1_seats, .int v_p1_bear, .int v_p1_comerCount, .int v_p1_seenRows])), (a_t, .inr (7, [.ref a_steps, .ref a_worths, .ref a_comers, .ref a_seen, .ref a_seenLengths, .int v_p1_seats, .int v_bear, .int v_comerCount, .int v_seenRows])), (a_p1_steps, eI cI 12 v_p1_steps), (a_steps, eI cI 12 u1), (a_p1_worths, eI cI 12 v_p1_worths), (a_worths, eI cI 12 u2), (a_p1_comers, eI cI 12 v_p1_comers), (a_comers, eI cI 12 u3), (a_p1_seen, eI cI 96 v_p1_seen), (a_seen, eI cI 96 u4), (a_p1_seenLengths, eI cI 8 v_p1_seenLengths), (a_seenLengths, eI cI 8 u5)]) Cx hP hS rfl 1 rfl rfl (Nat.le_of_ble_eq_true rfl) dX7_copyFrom_80 (fun H locs hP hS => ?_)
  refine lv_aload_n hx hb dX7_copyFrom_83 rfl (lv_at hl 0 rfl) ?_
  refine lv_aload_n hx hb dX7_copyFrom_84 rfl (lv_at hl 1 rfl) ?_
  refine gf_X7_31 Cx hP 0 rfl rfl dX7_copyFrom_85 ?_
  refine pf_X7_31 (X' := [(a_p1, .inr (7, [.ref a_p1_steps, .ref a_p1_worths, .ref a_p1_comers, .ref a_p1_seen, .ref a_p1_seenLengths, .int v_p1_seats, .int v_p1_bear, .int v_p1_comerCount, .int v_p1_seenRows])), (a_t, .inr (7, [.ref a_steps, .ref a_worths, .ref a_comers, .ref a_seen, .ref a_seenLengths, .int v_p1_seats, .int v_p1_bear, .int v_comerCount, .int v_seenRows])), (a_p1_steps, eI cI 12 v_p1_steps), (a_steps, eI cI 12 u1), (a_p1_worths, eI cI 12 v_p1_worths), (a_worths, eI cI 12 u2), (a_p1_comers, eI cI 12 v_p1_comers), (a_comers, eI cI 12 u3), (a_p1_seen, eI cI 96 v_p1_seen), (a_seen, eI cI 96 u4), (a_p1_seenLengths, eI cI 8 v_p1_seenLengths), (a_seenLengths, eI cI 8 u5)]) Cx hP hS rfl 1 rfl rfl (Nat.le_of_ble_eq_true rfl) dX7_copyFrom_88 (fun H locs hP hS => ?_)
  refine lv_aload_n hx hb dX7_copyFrom_91 rfl (lv_at hl 0 rfl) ?_
  refine lv_aload_n hx hb dX7_copyFrom_92 rfl (lv_at hl 1 rfl) ?_
  refine gf_X7_40 Cx hP 0 rfl rfl dX7_copyFrom_93 ?_
  refine pf_X7_40 (X' := [(a_p1, .inr (7, [.ref a_p1_steps, .ref a_p1_worths, .ref a_p1_comers, .ref a_p1_seen, .ref a_p1_seenLengths, .int v_p1_seats, .int v_p1_bear, .int v_p1_comerCount, .int v_p1_seenRows])), (a_t, .inr (7, [.ref a_steps, .ref a_worths, .ref a_comers, .ref a_seen, .ref a_seenLengths, .int v_p1_seats, .int v_p1_bear, .int v_p1_comerCount, .int v_seenRows])), (a_p1_steps, eI cI 12 v_p1_steps), (a_steps, eI cI 12 u1), (a_p1_worths, eI cI 12 v_p1_worths), (a_worths, eI cI 12 u2), (a_p1_comers, eI cI 12 v_p1_comers), (a_comers, eI cI 12 u3), (a_p1_seen, eI cI 96 v_p1_seen), (a_seen, eI cI 96 u4), (a_p1_seenLengths, eI cI 8 v_p1_seenLengths), (a_seenLengths, eI cI 8 u5)]) Cx hP hS rfl 1 rfl rfl (Nat.le_of_ble_eq_true rfl) dX7_copyFrom_96 (fun H locs hP hS => ?_)
  refine lv_aload_n hx hb dX7_copyFrom_99 rfl (lv_at hl 0 rfl) ?_
  refine lv_aload_n hx hb dX7_copyFrom_100 rfl (lv_at hl 1 rfl) ?_
  refine gf_X7_43 Cx hP 0 rfl rfl dX7_copyFrom_101 ?_
  refine pf_X7_43 (X' := [(a_p1, .inr (7, [.ref a_p1_steps, .ref a_p1_worths, .ref a_p1_comers, .ref a_p1_seen, .ref a_p1_seenLengths, .int v_p1_seats, .int v_p1_bear, .int v_p1_comerCount, .int v_p1_seenRows])), (a_t, .inr (7, [.ref a_steps, .ref a_worths, .ref a_comers, .ref a_seen, .ref a_seenLengths, .int v_p1_seats, .int v_p1_bear, .int v_p1_comerCount, .int v_p1_seenRows])), (a_p1_steps, eI cI 12 v_p1_steps), (a_steps, eI cI 12 u1), (a_p1_worths, eI cI 12 v_p1_worths), (a_worths, eI cI 12 u2), (a_p1_comers, eI cI 12 v_p1_comers), (a_comers, eI cI 12 u3), (a_p1_seen, eI cI 96 v_p1_seen), (a_seen, eI cI 96 u4), (a_p1_seenLengths, eI cI 8 v_p1_seenLengths), (a_seenLengths, eI cI 8 u5)]) Cx hP hS rfl 1 rfl rfl (Nat.le_of_ble_eq_true rfl) dX7_copyFrom_104 (fun H locs hP hS => ?_)
  obtain rfl := Option.some.inj hf
  exact ret _ _ _ _ dX7_copyFrom_107 hP hS

def f_X7_cutPlaces_4 (v_seats : Int32) (v_steps : Nat → Int32) : Nat → Int32 → Int32 → Option (Int32)
  | 0, _, _ => none
  | n + 1, y1_4, y2_4 =>
  if (v_seats - (1 : Int32)) ≤ y2_4 then
  some (y1_4)
  else
  (aget 12 v_steps y2_4).bind (fun u3 =>
  (if u3 = 0 then
  some (y1_4 ||| ((1 : Int32) <<< (y2_4 &&& 31)))
  else
  some (y1_4)).bind (fun w4 =>
  f_X7_cutPlaces_4 v_seats v_steps n w4 (y2_4 + 1)))
theorem f_X7_cutPlaces_4_s (v_seats : Int32) (v_steps : Nat → Int32) (n : Nat) (y1_4 : Int32) (y2_4 : Int32) : f_X7_cutPlaces_4 v_seats v_steps (n + 1) y1_4 y2_4 =
  (if (v_seats - (1 : Int32)) ≤ y2_4 then
  some (y1_4)
  else
  (aget 12 v_steps y2_4).bind (fun u3 =>
  (if u3 = 0 then
  some (y1_4 ||| ((1 : Int32) <<< (y2_4 &&& 31)))
  else
  some (y1_4)).bind (fun w4 =>
  f_X7_cutPlaces_4 v_seats v_steps n w4 (y2_4 + 1)))) := rfl
def f_X7_cutPlaces (v_seats : Int32) (v_steps : Nat → Int32) : Option (Int32) :=
  (f_X7_cutPlaces_4 v_seats v_steps FU (0 : Int32) (0 : Int32)).bind (fun u7 =>
  some (u7))
set_option maxHeartbeats 4000000 in
set_option maxRecDepth 100000 in
theorem c_X7_cutPlaces (l : Launch) (D : va_G) (cI cJ cZ cO : ClassId) (a_t a_steps a_worths a_comers a_seen a_seenLengths : Nat) (v_seats : Int32) (v_bear : Int32) (v_comerCount : Int32) (v_seenRows : Int32) (v_steps : Nat → Int32) (out : Int32) (hf : f_X7_cutPlaces v_seats v_steps = some out) : MetR l yX7_cutPlaces (Cond.code yX7_cutPlaces cX7_cutPlaces 3 (some .int) :: tbG) { frames := 0, cells := 0, slots := 0, locals := 0 } D (tyL cI cJ cZ cO) [.ref a_t] [(a_t, .inr (7, [.ref a_steps, .ref a_worths, .ref a_comers, .ref a_seen, .ref a_seenLengths, .int v_seats, .int v_bear, .int v_comerCount, .int v_seenRows])), (a_steps, eI cI 12 v_steps)] (some (.int out)) [(a_t, .inr (7, [.ref a_steps, .ref a_worths, .ref a_comers, .ref a_seen, .ref a_seenLengths, .int v_seats, .int v_bear, .int v_comerCount, .int v_seenRows])), (a_steps, eI cI 12 v_steps)] := by
  refine ba_ofI RX7 [(0, .ref a_t)] (by decide +kernel) rfl (Nat.le_of_ble_eq_true rfl) rfl ?_
  intro p e s m args below meth c Q A Cx hP ret ls hl
  obtain ⟨⟨hx, hb, hml, hown, hts⟩, hK, hD, hA⟩ := id Cx
  have hS : va_S A s.heap s.heap [] := va_S.rf
  unfold f_X7_cutPlaces at hf
  refine lv_iconst (v := 0) hx hb dX7_cutPlaces_0 (by decide) ?_
  refine lv_istore_n (lv' := [(1, .int (0 : Int32)), (0, .ref a_t)]) hx hb dX7_cutPlaces_1 rfl hl (by decide) rfl (fun ls hl => ?_)
  refine lv_iconst (v := 0) hx hb dX7_cutPlaces_2 (by decide) ?_
  refine lv_istore_n (lv' := [(2, .int (0 : Int32)), (1, .int (0 : Int32)), (0, .ref a_t)]) hx hb dX7_cutPlaces_3 rfl hl (by decide) rfl (fun ls hl => ?_)
  have L4_1 : ∀ (n : Nat) (y1_4 : Int32) (y2_4 : Int32) (o : Int32) (H : Heap) (locs : List Loc) (ls : Array Slot), f_X7_cutPlaces_4 v_seats v_steps n y1_4 y2_4 = some o → va_P D vwCl [(a_t, .inr (7, [.ref a_steps, .ref a_worths, .ref a_comers, .ref a_seen, .ref a_seenLengths, .int v_seats, .int v_bear, .int v_comerCount, .int v_seenRows])), (a_steps, eI cI 12 v_steps)] H → va_S A s.heap H locs → lv_has ls 3 [(0, .ref a_t), (1, .int y1_4), (2, .int y2_4)] → (∀ (H : Heap) (locs : List Loc) (ls : Array Slot), va_P D vwCl [(a_t, .inr (7, [.ref a_steps, .ref a_worths, .ref a_comers, .ref a_seen, .ref a_seenLengths, .int v_seats, .int v_bear, .int v_comerCount, .int v_seenRows])), (a_steps, eI cI 12 v_steps)] H → va_S A s.heap H locs → lv_has ls 3 [(1, .int o)] → W p l e { frames := 0, cells := 0, slots := 0, locals := 0 } s m args below meth c H locs 0 0 Q (F0 m 35 ls [])) → W p l e { frames := 0, cells := 0, slots := 0, locals := 0 } s m args below meth c H locs 0 0 Q (F0 m 4 ls []) := by
    intro n
    induction n with
    | zero => intro y1_4 y2_4 o H locs ls hf; exact (ob_n hf).elim
    | succ n ih =>
      intro y1_4 y2_4 o H locs ls hf hP hS hl kk
      rw [f_X7_cutPlaces_4_s] at hf
      refine lv_iload_n hx hb dX7_cutPlaces_4 rfl (lv_at hl 2 rfl) ?_
      refine lv_aload_n hx hb dX7_cutPlaces_5 rfl (lv_at hl 0 rfl) ?_
      refine gf_X7_27 Cx hP 0 rfl rfl dX7_cutPlaces_6 ?_
      refine lv_iconst (v := 1) hx hb dX7_cutPlaces_9 (by decide) ?_
      refine lv_isub hx hb dX7_cutPlaces_10 ?_
      refine lv_icmp_ge (tgt := 35) hx hb dX7_cutPlaces_11 (by decide) (fun c2 => ?_) (fun c2 => ?_)
      · have hf := ob_t c2 hf
        obtain rfl := Option.some.inj hf
        exact kk _ _ _ hP hS (lv_sub hl [1] rfl)
      · have hf := ob_f c2 hf
        refine lv_aload_n hx hb dX7_cutPlaces_14 rfl (lv_at hl 0 rfl) ?_
        refine gf_X7_9 Cx hP 0 rfl rfl dX7_cutPlaces_15 ?_
        refine lv_iload_n hx hb dX7_cutPlaces_18 rfl (lv_at hl 2 rfl) ?_
        obtain ⟨u3, hu3, hf⟩ := ob_b hf
        refine ba_iald Cx hP 1 rfl hu3 dX7_cutPlaces_19 ?_
        refine ob_J (P := fun w4 => ∀ (H : Heap) (locs : List Loc) (ls : Array Slot), va_P D vwCl [(a_t, .inr (7, [.ref a_steps, .ref a_worths, .ref a_comers, .ref a_seen, .ref a_seenLengths, .int v_seats, .int v_bear, .int v_comerCount, .int v_seenRows])), (a_steps, eI cI 12 v_steps)] H → va_S A s.heap H locs → lv_has ls 3 [(0, .ref a_t), (1, .int w4), (2, .int y2_4)] → W p l e { frames := 0, cells := 0, slots := 0, locals := 0 } s m args below meth c H locs 0 0 Q (F0 m 29 ls [])) hf ?_ ?_
        · intro w4 hf H locs ls hP hS hl
          refine lv_iinc (v := (y2_4 + 1)) (lv' := [(2, .int (y2_4 + 1)), (0, .ref a_t), (1, .int w4)]) hx hb dX7_cutPlaces_29 hl (k := 2) rfl rfl (by decide) rfl (fun ls hl => ?_)
          refine lv_goto (tgt := 4) hx hb dX7_cutPlaces_32 (by decide) ?_
          exact ih w4 (y2_4 + 1) _ _ _ _ hf hP hS (lv_sub hl [1, 2, 0] rfl) kk
        · intro J29_5 hf
          refine lv_if_ne (tgt := 29) hx hb dX7_cutPlaces_20 (by decide) (fun c6 => ?_) (fun c6 => ?_)
          · have hf := ob_fk c6 hf
            exact J29_5 y1_4 hf _ _ _ hP hS (lv_sub hl [0, 1, 2] rfl)
          · have hf := ob_tk c6 hf
            refine lv_iload_n hx hb dX7_cutPlaces_23 rfl (lv_at hl 1 rfl) ?_
            refine lv_iconst (v := 1) hx hb dX7_cutPlaces_24 (by decide) ?_
            refine lv_iload_n hx hb dX7_cutPlaces_25 rfl (lv_at hl 2 rfl) ?_
            refine lv_ishl hx hb dX7_cutPlaces_26 ?_
            refine lv_ior hx hb dX7_cutPlaces_27 ?_
            refine lv_istore_n (lv' := [(1, .int (y1_4 ||| ((1 : Int32) <<< (y2_4 &&& 31)))), (0, .ref a_t), (2, .int y2_4)]) hx hb dX7_cutPlaces_28 rfl hl (by decide) rfl (fun ls hl => ?_)
            exact J29_5 (y1_4 ||| ((1 : Int32) <<< (y2_4 &&& 31))) hf _ _ _ hP hS (lv_sub hl [1, 0, 2] rfl)
  obtain ⟨u7, hu7, hf⟩ := ob_b hf
  refine L4_1 FU (0 : Int32) (0 : Int32) u7 _ _ _ hu7 hP hS (lv_sub hl [2, 1, 0] rfl) ?_
  intro H locs ls hP hS hl
  refine lv_iload_n hx hb dX7_cutPlaces_35 rfl (lv_at hl 0 rfl) ?_
  obtain rfl := Option.some.inj hf
  exact ret _ _ _ _ dX7_cutPlaces_36 hP hS

def f_X7_seenSeat (v_seen : Nat → Int32) (x1 : Int32) (x2 : Int32) : Option (Int32) :=
  (aget 96 v_seen ((x1 * (12 : Int32)) + x2)).bind (fun u1 =>
  some (u1))
set_option maxHeartbeats 4000000 in
set_option maxRecDepth 100000 in
theorem c_X7_seenSeat (l : Launch) (D : va_G) (cI cJ cZ cO : ClassId) (a_t a_steps a_worths a_comers a_seen a_seenLengths : Nat) (v_seats : Int32) (v_bear : Int32) (v_comerCount : Int32) (v_seenRows : Int32) (v_seen : Nat → Int32) (x1 : Int32) (x2 : Int32) (out : Int32) (hf : f_X7_seenSeat v_seen x1 x2 = some out) : MetR l yX7_seenSeat (Cond.code yX7_seenSeat cX7_seenSeat 3 (some .int) :: tbG) { frames := 0, cells := 0, slots := 0, locals := 0 } D (tyL cI cJ cZ cO) [.ref a_t, .int x1, .int x2] [(a_t, .inr (7, [.ref a_steps, .ref a_worths, .ref a_comers, .ref a_seen, .ref a_seenLengths, .int v_seats, .int v_bear, .int v_comerCount, .int v_seenRows])), (a_seen, eI cI 96 v_seen)] (some (.int out)) [(a_t, .inr (7, [.ref a_steps, .ref a_worths, .ref a_comers, .ref a_seen, .ref a_seenLengths, .int v_seats, .int v_bear, .int v_comerCount, .int v_seenRows])), (a_seen, eI cI 96 v_seen)] := by
  refine ba_ofI RX7 [(0, .ref a_t), (1, .int x1), (2, .int x2)] (by decide +kernel) rfl (Nat.le_of_ble_eq_true rfl) rfl ?_
  intro p e s m args below meth c Q A Cx hP ret ls hl
  obtain ⟨⟨hx, hb, hml, hown, hts⟩, hK, hD, hA⟩ := id Cx
  have hS : va_S A s.heap s.heap [] := va_S.rf
  unfold f_X7_seenSeat at hf
  refine lv_aload_n hx hb dX7_seenSeat_0 rfl (lv_at hl 0 rfl) ?_
  refine gf_X7_21 Cx hP 0 rfl rfl dX7_seenSeat_1 ?_
  refine lv_iload_n hx hb dX7_seenSeat_4 rfl (lv_at hl 1 rfl) ?_
  refine lv_bipush (v := 12) hx hb dX7_seenSeat_5 (by decide) ?_
  refine lv_imul hx hb dX7_seenSeat_7 ?_
  refine lv_iload_n hx hb dX7_seenSeat_8 rfl (lv_at hl 2 rfl) ?_
  refine lv_iadd hx hb dX7_seenSeat_9 ?_
  obtain ⟨u1, hu1, hf⟩ := ob_b hf
  refine ba_iald Cx hP 1 rfl hu1 dX7_seenSeat_10 ?_
  obtain rfl := Option.some.inj hf
  exact ret _ _ _ _ dX7_seenSeat_11 hP hS

def f_X7_noteSeen (v_seenLengths : Nat → Int32) (v_seen : Nat → Int32) (x1 : Int32) (x2 : Int32) : Option (Int32 × (Nat → Int32) × (Nat → Int32)) :=
  (aget 8 v_seenLengths x1).bind (fun u1 =>
  if u1 < (12 : Int32) then
  (asetI 96 v_seen ((x1 * (12 : Int32)) + u1) x2).bind (fun u3 =>
  (asetI 8 v_seenLengths x1 (u1 + (1 : Int32))).bind (fun u4 =>
  some ((1 : Int32), u4, u3)))
  else
  some ((0 : Int32), v_seenLengths, v_seen))
set_option maxHeartbeats 4000000 in
set_option maxRecDepth 100000 in
theorem c_X7_noteSeen (l : Launch) (D : va_G) (cI cJ cZ cO : ClassId) (a_t a_steps a_worths a_comers a_seen a_seenLengths : Nat) (v_seats : Int32) (v_bear : Int32) (v_comerCount : Int32) (v_seenRows : Int32) (v_seenLengths : Nat → Int32) (v_seen : Nat → Int32) (x1 : Int32) (x2 : Int32) (out : Int32 × (Nat → Int32) × (Nat → Int32)) (hf : f_X7_noteSeen v_seenLengths v_seen x1 x2 = some out) : MetR l yX7_noteSeen (Cond.code yX7_noteSeen cX7_noteSeen 4 (some .boolean) :: tbG) { frames := 0, cells := 0, slots := 0, locals := 0 } D (tyL cI cJ cZ cO) [.ref a_t, .int x1, .int x2] [(a_t, .inr (7, [.ref a_steps, .ref a_worths, .ref a_comers, .ref a_seen, .ref a_seenLengths, .int v_seats, .int v_bear, .int v_comerCount, .int v_seenRows])), (a_seenLengths, eI cI 8 v_seenLengths), (a_seen, eI cI 96 v_seen)] (some (.int out.1)) [(a_t, .inr (7, [.ref a_steps, .ref a_worths, .ref a_comers, .ref a_seen, .ref a_seenLengths, .int v_seats, .int v_bear, .int v_comerCount, .int v_seenRows])), (a_seenLengths, eI cI 8 out.2.1), (a_seen, eI cI 96 out.2.2)] := by
  refine ba_ofZ RX7 [(0, .ref a_t), (1, .int x1), (2, .int x2)] (by decide +kernel) rfl (Nat.le_of_ble_eq_true rfl) rfl ?_
  intro p e s m args below meth c Q A Cx hP ret ls hl
  obtain ⟨⟨hx, hb, hml, hown, hts⟩, hK, hD, hA⟩ := id Cx
  have hS : va_S A s.heap s.heap [] := va_S.rf
  unfold f_X7_noteSeen at hf
  refine lv_aload_n hx hb dX7_noteSeen_0 rfl (lv_at hl 0 rfl) ?_
  refine gf_X7_24 Cx hP 0 rfl rfl dX7_noteSeen_1 ?_
  refine lv_iload_n hx hb dX7_noteSeen_4 rfl (lv_at hl 1 rfl) ?_
  obtain ⟨u1, hu1, hf⟩ := ob_b hf
  refine ba_iald Cx hP 1 rfl hu1 dX7_noteSeen_5 ?_
  refine lv_istore_n (lv' := [(3, .int u1), (0, .ref a_t), (1, .int x1), (2, .int x2)]) hx hb dX7_noteSeen_6 rfl hl (by decide) rfl (fun ls hl => ?_)
  refine lv_iload_n hx hb dX7_noteSeen_7 rfl (lv_at hl 0 rfl) ?_
  refine lv_bipush (v := 12) hx hb dX7_noteSeen_8 (by decide) ?_
  refine lv_icmp_lt (tgt := 15) hx hb dX7_noteSeen_10 (by decide) (fun c2 => ?_) (fun c2 => ?_)
  · have hf := ob_t c2 hf
    refine lv_aload_n hx hb dX7_noteSeen_15 rfl (lv_at hl 1 rfl) ?_
    refine gf_X7_21 Cx hP 0 rfl rfl dX7_noteSeen_16 ?_
    refine lv_iload_n hx hb dX7_noteSeen_19 rfl (lv_at hl 2 rfl) ?_
    refine lv_bipush (v := 12) hx hb dX7_noteSeen_20 (by decide) ?_
    refine lv_imul hx hb dX7_noteSeen_22 ?_
    refine lv_iload_n hx hb dX7_noteSeen_23 rfl (lv_at hl 0 rfl) ?_
    refine lv_iadd hx hb dX7_noteSeen_24 ?_
    refine lv_iload_n hx hb dX7_noteSeen_25 rfl (lv_at hl 3 rfl) ?_
    obtain ⟨u3, hu3, hf⟩ := ob_b hf
    refine ba_iast (X' := [(a_t, .inr (7, [.ref a_steps, .ref a_worths, .ref a_comers, .ref a_seen, .ref a_seenLengths, .int v_seats, .int v_bear, .int v_comerCount, .int v_seenRows])), (a_seenLengths, eI cI 8 v_seenLengths), (a_seen, eI cI 96 u3)]) Cx hP hS rfl 2 rfl rfl hu3 dX7_noteSeen_26 (fun H locs hP hS => ?_)
    refine lv_aload_n hx hb dX7_noteSeen_27 rfl (lv_at hl 1 rfl) ?_
    refine gf_X7_24 Cx hP 0 rfl rfl dX7_noteSeen_28 ?_
    refine lv_iload_n hx hb dX7_noteSeen_31 rfl (lv_at hl 2 rfl) ?_
    refine lv_iload_n hx hb dX7_noteSeen_32 rfl (lv_at hl 0 rfl) ?_
    refine lv_iconst (v := 1) hx hb dX7_noteSeen_33 (by decide) ?_
    refine lv_iadd hx hb dX7_noteSeen_34 ?_
    obtain ⟨u4, hu4, hf⟩ := ob_b hf
    refine ba_iast (X' := [(a_t, .inr (7, [.ref a_steps, .ref a_worths, .ref a_comers, .ref a_seen, .ref a_seenLengths, .int v_seats, .int v_bear, .int v_comerCount, .int v_seenRows])), (a_seenLengths, eI cI 8 u4), (a_seen, eI cI 96 u3)]) Cx hP hS rfl 1 rfl rfl hu4 dX7_noteSeen_35 (fun H locs hP hS => ?_)
    refine lv_iconst (v := 1) hx hb dX7_noteSeen_36 (by decide) ?_
    obtain rfl := Option.some.inj hf
    exact ret _ _ _ _ _ rfl (by decide) dX7_noteSeen_37 hP hS
  · have hf := ob_f c2 hf
    refine lv_iconst (v := 0) hx hb dX7_noteSeen_13 (by decide) ?_
    obtain rfl := Option.some.inj hf
    exact ret _ _ _ _ _ rfl (by decide) dX7_noteSeen_14 hP hS

def f_X8_groupOf_18 (v_p0_scene_seats : Int32) (v_p0_clash : Nat → Int32) (y2_6 : Int32) : Nat → Int32 → Int32 → Option (Int32)
  | 0, _, _ => none
  | n + 1, y4_18, y5_18 =>
  if v_p0_scene_seats ≤ y5_18 then
  some (y4_18)
  else
  (if ((y2_6 >>> (y5_18 &&& 31)) &&& (1 : Int32)) = 0 then
  some (y4_18)
  else
  (aget 12 v_p0_clash y5_18).bind (fun u8 =>
  some (y4_18 ||| u8))).bind (fun w5 =>
  f_X8_groupOf_18 v_p0_scene_seats v_p0_clash y2_6 n w5 (y5_18 + 1))
theorem f_X8_groupOf_18_s (v_p0_scene_seats : Int32) (v_p0_clash : Nat → Int32) (y2_6 : Int32) (n : Nat) (y4_18 : Int32) (y5_18 : Int32) : f_X8_groupOf_18 v_p0_scene_seats v_p0_clash y2_6 (n + 1) y4_18 y5_18 =
  (if v_p0_scene_seats ≤ y5_18 then
  some (y4_18)
  else
  (if ((y2_6 >>> (y5_18 &&& 31)) &&& (1 : Int32)) = 0 then
  some (y4_18)
  else
  (aget 12 v_p0_clash y5_18).bind (fun u8 =>
  some (y4_18 ||| u8))).bind (fun w5 =>
  f_X8_groupOf_18 v_p0_scene_seats v_p0_clash y2_6 n w5 (y5_18 + 1))) := rfl
def f_X8_groupOf_6 (v_p0_scene_seats : Int32) (v_p0_clash : Nat → Int32) : Nat → Int32 → Int32 → Option (Int32)
  | 0, _, _ => none
  | n + 1, y2_6, y3_6 =>
  if (12 : Int32) ≤ y3_6 then
  some (y2_6)
  else
  (f_X8_groupOf_18 v_p0_scene_seats v_p0_clash y2_6 FU y2_6 (0 : Int32)).bind (fun u9 =>
  if u9 = y2_6 then
  some (y2_6)
  else
  f_X8_groupOf_6 v_p0_scene_seats v_p0_clash n u9 (y3_6 + 1))
theorem f_X8_groupOf_6_s (v_p0_scene_seats : Int32) (v_p0_clash : Nat → Int32) (n : Nat) (y2_6 : Int32) (y3_6 : Int32) : f_X8_groupOf_6 v_p0_scene_seats v_p0_clash (n + 1) y2_6 y3_6 =
  (if (12 : Int32) ≤ y3_6 then
  some (y2_6)
  else
  (f_X8_groupOf_18 v_p0_scene_seats v_p0_clash y2_6 FU y2_6 (0 : Int32)).bind (fun u9 =>
  if u9 = y2_6 then
  some (y2_6)
  else
  f_X8_groupOf_6 v_p0_scene_seats v_p0_clash n u9 (y3_6 + 1))) := rfl
def f_X8_groupOf (v_p0_scene_seats : Int32) (v_p0_clash : Nat → Int32) (x1 : Int32) : Option (Int32) :=
  (f_X8_groupOf_6 v_p0_scene_seats v_p0_clash FU ((1 : Int32) <<< (x1 &&& 31)) (0 : Int32)).bind (fun u11 =>
  some (u11))
set_option maxHeartbeats 4000000 in
set_option maxRecDepth 100000 in
theorem c_X8_groupOf (l : Launch) (D : va_G) (cI cJ cZ cO : ClassId) (a_p0 a_p0_scene a_p0_apart a_p0_clash a_p0_neighbours a_p0_scene_steps a_p0_scene_worths a_p0_scene_comers a_p0_scene_seen a_p0_scene_seenLengths : Nat) (v_p0_scene_seats : Int32) (v_p0_scene_bear : Int32) (v_p0_scene_comerCount : Int32) (v_p0_scene_seenRows : Int32) (v_p0_clash : Nat → Int32) (x1 : Int32) (out : Int32) (hf : f_X8_groupOf v_p0_scene_seats v_p0_clash x1 = some out) : MetR l yX8_groupOf (Cond.code yX8_groupOf cX8_groupOf 6 (some .int) :: tbG) { frames := 0, cells := 0, slots := 0, locals := 0 } D (tyL cI cJ cZ cO) [.ref a_p0, .int x1] [(a_p0, .inr (0, [.ref a_p0_scene, .ref a_p0_apart, .ref a_p0_clash, .ref a_p0_neighbours])), (a_p0_scene, .inr (7, [.ref a_p0_scene_steps, .ref a_p0_scene_worths, .ref a_p0_scene_comers, .ref a_p0_scene_seen, .ref a_p0_scene_seenLengths, .int v_p0_scene_seats, .int v_p0_scene_bear, .int v_p0_scene_comerCount, .int v_p0_scene_seenRows])), (a_p0_clash, eI cI 12 v_p0_clash)] (some (.int out)) [(a_p0, .inr (0, [.ref a_p0_scene, .ref a_p0_apart, .ref a_p0_clash, .ref a_p0_neighbours])), (a_p0_scene, .inr (7, [.ref a_p0_scene_steps, .ref a_p0_scene_worths, .ref a_p0_scene_comers, .ref a_p0_scene_seen, .ref a_p0_scene_seenLengths, .int v_p0_scene_seats, .int v_p0_scene_bear, .int v_p0_scene_comerCount, .int v_p0_scene_seenRows])), (a_p0_clash, eI cI 12 v_p0_clash)] := by
  refine ba_ofI RX8 [(0, .ref a_p0), (1, .int x1)] (by decide +kernel) rfl (Nat.le_of_ble_eq_true rfl) rfl ?_
  intro p e s m args below meth c Q A Cx hP ret ls hl
  obtain ⟨⟨hx, hb, hml, hown, hts⟩, hK, hD, hA⟩ := id Cx
  have hS : va_S A s.heap s.heap [] := va_S.rf
  unfold f_X8_groupOf at hf
  refine lv_iconst (v := 1) hx hb dX8_groupOf_0 (by decide) ?_
  refine lv_iload_n hx hb dX8_groupOf_1 rfl (lv_at hl 1 rfl) ?_
  refine lv_ishl hx hb dX8_groupOf_2 ?_
  refine lv_istore_n (lv' := [(2, .int ((1 : Int32) <<< (x1 &&& 31))), (0, .ref a_p0), (1, .int x1)]) hx hb dX8_groupOf_3 rfl hl (by decide) rfl (fun ls hl => ?_)
  refine lv_iconst (v := 0) hx hb dX8_groupOf_4 (by decide) ?_
  refine lv_istore_n (lv' := [(3, .int (0 : Int32)), (2, .int ((1 : Int32) <<< (x1 &&& 31))), (0, .ref a_p0), (1, .int x1)]) hx hb dX8_groupOf_5 rfl hl (by decide) rfl (fun ls hl => ?_)
  have L6_1 : ∀ (n : Nat) (y2_6 : Int32) (y3_6 : Int32) (o : Int32) (H : Heap) (locs : List Loc) (ls : Array Slot), f_X8_groupOf_6 v_p0_scene_seats v_p0_clash n y2_6 y3_6 = some o → va_P D vwCl [(a_p0, .inr (0, [.ref a_p0_scene, .ref a_p0_apart, .ref a_p0_clash, .ref a_p0_neighbours])), (a_p0_scene, .inr (7, [.ref a_p0_scene_steps, .ref a_p0_scene_worths, .ref a_p0_scene_comers, .ref a_p0_scene_seen, .ref a_p0_scene_seenLengths, .int v_p0_scene_seats, .int v_p0_scene_bear, .int v_p0_scene_comerCount, .int v_p0_scene_seenRows])), (a_p0_clash, eI cI 12 v_p0_clash)] H → va_S A s.heap H locs → lv_has ls 6 [(0, .ref a_p0), (2, .int y2_6), (3, .int y3_6)] → (∀ (H : Heap) (locs : List Loc) (ls : Array Slot), va_P D vwCl [(a_p0, .inr (0, [.ref a_p0_scene, .ref a_p0_apart, .ref a_p0_clash, .ref a_p0_neighbours])), (a_p0_scene, .inr (7, [.ref a_p0_scene_steps, .ref a_p0_scene_worths, .ref a_p0_scene_comers, .ref a_p0_scene_seen, .ref a_p0_scene_seenLengths, .int v_p0_scene_seats, .int v_p0_scene_bear, .int v_p0_scene_comerCount, .int v_p0_scene_seenRows])), (a_p0_clash, eI cI 12 v_p0_clash)] H → va_S A s.heap H locs → lv_has ls 6 [(2, .int o)] → W p l e { frames := 0, cells := 0, slots := 0, locals := 0 } s m args below meth c H locs 0 0 Q (F0 m 75 ls [])) → W p l e { frames := 0, cells := 0, slots := 0, locals := 0 } s m args below meth c H locs 0 0 Q (F0 m 6 ls []) := by
    intro n
    induction n with
    | zero => intro y2_6 y3_6 o H locs ls hf; exact (ob_n hf).elim
    | succ n ih =>
      intro y2_6 y3_6 o H locs ls hf hP hS hl kk
      rw [f_X8_groupOf_6_s] at hf
      refine lv_iload_n hx hb dX8_groupOf_6 rfl (lv_at hl 2 rfl) ?_
      refine lv_bipush (v := 12) hx hb dX8_groupOf_7 (by decide) ?_
      refine lv_icmp_ge (tgt := 75) hx hb dX8_groupOf_9 (by decide) (fun c2 => ?_) (fun c2 => ?_)
      · have hf := ob_t c2 hf
        obtain rfl := Option.some.inj hf
        exact kk _ _ _ hP hS (lv_sub hl [1] rfl)
      · have hf := ob_f c2 hf
        refine lv_iload_n hx hb dX8_groupOf_12 rfl (lv_at hl 1 rfl) ?_
        refine lv_istore (lv' := [(4, .int y2_6), (0, .ref a_p0), (2, .int y2_6), (3, .int y3_6)]) hx hb dX8_groupOf_13 hl (by decide) rfl (fun ls hl => ?_)
        refine lv_iconst (v := 0) hx hb dX8_groupOf_15 (by decide) ?_
        refine lv_istore (lv' := [(5, .int (0 : Int32)), (4, .int y2_6), (0, .ref a_p0), (2, .int y2_6), (3, .int y3_6)]) hx hb dX8_groupOf_16 hl (by decide) rfl (fun ls hl => ?_)
        have L18_3 : ∀ (n : Nat) (y4_18 : Int32) (y5_18 : Int32) (o : Int32) (H : Heap) (locs : List Loc) (ls : Array Slot), f_X8_groupOf_18 v_p0_scene_seats v_p0_clash y2_6 n y4_18 y5_18 = some o → va_P D vwCl [(a_p0, .inr (0, [.ref a_p0_scene, .ref a_p0_apart, .ref a_p0_clash, .ref a_p0_neighbours])), (a_p0_scene, .inr (7, [.ref a_p0_scene_steps, .ref a_p0_scene_worths, .ref a_p0_scene_comers, .ref a_p0_scene_seen, .ref a_p0_scene_seenLengths, .int v_p0_scene_seats, .int v_p0_scene_bear, .int v_p0_scene_comerCount, .int v_p0_scene_seenRows])), (a_p0_clash, eI cI 12 v_p0_clash)] H → va_S A s.heap H locs → lv_has ls 6 [(0, .ref a_p0), (2, .int y2_6), (3, .int y3_6), (4, .int y4_18), (5, .int y5_18)] → (∀ (H : Heap) (locs : List Loc) (ls : Array Slot), va_P D vwCl [(a_p0, .inr (0, [.ref a_p0_scene, .ref a_p0_apart, .ref a_p0_clash, .ref a_p0_neighbours])), (a_p0_scene, .inr (7, [.ref a_p0_scene_steps, .ref a_p0_scene_worths, .ref a_p0_scene_comers, .ref a_p0_scene_seen, .ref a_p0_scene_seenLengths, .int v_p0_scene_seats, .int v_p0_scene_bear, .int v_p0_scene_comerCount, .int v_p0_scene_seenRows])), (a_p0_clash, eI cI 12 v_p0_clash)] H → va_S A s.heap H locs → lv_has ls 6 [(0, .ref a_p0), (2, .int y2_6), (3, .int y3_6), (4, .int o)] → W p l e { frames := 0, cells := 0, slots := 0, locals := 0 } s m args below meth c H locs 0 0 Q (F0 m 57 ls [])) → W p l e { frames := 0, cells := 0, slots := 0, locals := 0 } s m args below meth c H locs 0 0 Q (F0 m 18 ls []) := by
          intro n
          induction n with
          | zero => intro y4_18 y5_18 o H locs ls hf; exact (ob_n hf).elim
          | succ n ih =>
            intro y4_18 y5_18 o H locs ls hf hP hS hl kk
            rw [f_X8_groupOf_18_s] at hf
            refine lv_iload hx hb dX8_groupOf_18 (lv_at hl 4 rfl) ?_
            refine lv_aload_n hx hb dX8_groupOf_20 rfl (lv_at hl 0 rfl) ?_
            refine gf_X8_41 Cx hP 0 rfl rfl dX8_groupOf_21 ?_
            refine gf_X8_53 Cx hP 1 rfl rfl dX8_groupOf_24 ?_
            refine lv_icmp_ge (tgt := 57) hx hb dX8_groupOf_27 (by decide) (fun c4 => ?_) (fun c4 => ?_)
            · have hf := ob_t c4 hf
              obtain rfl := Option.some.inj hf
              exact kk _ _ _ hP hS (lv_sub hl [0, 1, 2, 3] rfl)
            · have hf := ob_f c4 hf
              refine lv_iload_n hx hb dX8_groupOf_30 rfl (lv_at hl 1 rfl) ?_
              refine lv_iload hx hb dX8_groupOf_31 (lv_at hl 4 rfl) ?_
              refine lv_ishr hx hb dX8_groupOf_33 ?_
              refine lv_iconst (v := 1) hx hb dX8_groupOf_34 (by decide) ?_
              refine lv_iand hx hb dX8_groupOf_35 ?_
              refine ob_J (P := fun w5 => ∀ (H : Heap) (locs : List Loc) (ls : Array Slot), va_P D vwCl [(a_p0, .inr (0, [.ref a_p0_scene, .ref a_p0_apart, .ref a_p0_clash, .ref a_p0_neighbours])), (a_p0_scene, .inr (7, [.ref a_p0_scene_steps, .ref a_p0_scene_worths, .ref a_p0_scene_comers, .ref a_p0_scene_seen, .ref a_p0_scene_seenLengths, .int v_p0_scene_seats, .int v_p0_scene_bear, .int v_p0_scene_comerCount, .int v_p0_scene_seenRows])), (a_p0_clash, eI cI 12 v_p0_clash)] H → va_S A s.heap H locs → lv_has ls 6 [(0, .ref a_p0), (2, .int y2_6), (3, .int y3_6), (4, .int w5), (5, .int y5_18)] → W p l e { frames := 0, cells := 0, slots := 0, locals := 0 } s m args below meth c H locs 0 0 Q (F0 m 51 ls [])) hf ?_ ?_
              · intro w5 hf H locs ls hP hS hl
                refine lv_iinc (v := (y5_18 + 1)) (lv' := [(5, .int (y5_18 + 1)), (0, .ref a_p0), (2, .int y2_6), (3, .int y3_6), (4, .int w5)]) hx hb dX8_groupOf_51 hl (k := 4) rfl rfl (by decide) rfl (fun ls hl => ?_)
                refine lv_goto (tgt := 18) hx hb dX8_groupOf_54 (by decide) ?_
                exact ih w5 (y5_18 + 1) _ _ _ _ hf hP hS (lv_sub hl [1, 2, 3, 4, 0] rfl) kk
              · intro J51_6 hf
                refine lv_if_eq (tgt := 51) hx hb dX8_groupOf_36 (by decide) (fun c7 => ?_) (fun c7 => ?_)
                · have hf := ob_tk c7 hf
                  exact J51_6 y4_18 hf _ _ _ hP hS (lv_sub hl [0, 1, 2, 3, 4] rfl)
                · have hf := ob_fk c7 hf
                  refine lv_iload hx hb dX8_groupOf_39 (lv_at hl 3 rfl) ?_
                  refine lv_aload_n hx hb dX8_groupOf_41 rfl (lv_at hl 0 rfl) ?_
                  refine gf_X8_64 Cx hP 0 rfl rfl dX8_groupOf_42 ?_
                  refine lv_iload hx hb dX8_groupOf_45 (lv_at hl 4 rfl) ?_
                  obtain ⟨u8, hu8, hf⟩ := ob_bk hf
                  refine ba_iald Cx hP 2 rfl hu8 dX8_groupOf_47 ?_
                  refine lv_ior hx hb dX8_groupOf_48 ?_
                  refine lv_istore (lv' := [(4, .int (y4_18 ||| u8)), (0, .ref a_p0), (2, .int y2_6), (3, .int y3_6), (5, .int y5_18)]) hx hb dX8_groupOf_49 hl (by decide) rfl (fun ls hl => ?_)
                  exact J51_6 (y4_18 ||| u8) hf _ _ _ hP hS (lv_sub hl [1, 2, 3, 0, 4] rfl)
        obtain ⟨u9, hu9, hf⟩ := ob_b hf
        refine L18_3 FU y2_6 (0 : Int32) u9 _ _ _ hu9 hP hS (lv_sub hl [2, 3, 4, 1, 0] rfl) ?_
        intro H locs ls hP hS hl
        refine lv_iload hx hb dX8_groupOf_57 (lv_at hl 3 rfl) ?_
        refine lv_iload_n hx hb dX8_groupOf_59 rfl (lv_at hl 1 rfl) ?_
        refine lv_icmp_ne (tgt := 66) hx hb dX8_groupOf_60 (by decide) (fun c10 => ?_) (fun c10 => ?_)
        · have hf := ob_f c10 hf
          refine lv_iload hx hb dX8_groupOf_66 (lv_at hl 3 rfl) ?_
          refine lv_istore_n (lv' := [(2, .int u9), (0, .ref a_p0), (3, .int y3_6), (4, .int u9)]) hx hb dX8_groupOf_68 rfl hl (by decide) rfl (fun ls hl => ?_)
          refine lv_iinc (v := (y3_6 + 1)) (lv' := [(3, .int (y3_6 + 1)), (2, .int u9), (0, .ref a_p0), (4, .int u9)]) hx hb dX8_groupOf_69 hl (k := 2) rfl rfl (by decide) rfl (fun ls hl => ?_)
          refine lv_goto (tgt := 6) hx hb dX8_groupOf_72 (by decide) ?_
          exact ih u9 (y3_6 + 1) _ _ _ _ hf hP hS (lv_sub hl [2, 1, 0] rfl) kk
        · have hf := ob_t c10 hf
          refine lv_goto (tgt := 75) hx hb dX8_groupOf_63 (by decide) ?_
          obtain rfl := Option.some.inj hf
          exact kk _ _ _ hP hS (lv_sub hl [1] rfl)
  obtain ⟨u11, hu11, hf⟩ := ob_b hf
  refine L6_1 FU ((1 : Int32) <<< (x1 &&& 31)) (0 : Int32) u11 _ _ _ hu11 hP hS (lv_sub hl [2, 1, 0] rfl) ?_
  intro H locs ls hP hS hl
  refine lv_iload_n hx hb dX8_groupOf_75 rfl (lv_at hl 0 rfl) ?_
  obtain rfl := Option.some.inj hf
  exact ret _ _ _ _ dX8_groupOf_76 hP hS

def f_X8_sumWithin_25 (u1 : Int32 × Int32 × (Nat → Int32) × (Nat → Int32)) (u2 : (Nat → Int32)) : Nat → Int64 → Int32 → Option (Int64)
  | 0, _, _ => none
  | n + 1, y3_25, y5_25 =>
  if u1.1 ≤ y5_25 then
  some (y3_25)
  else
  (aget 4096 u1.2.2.2 y5_25).bind (fun u5 =>
  (if u5 = 0 then
  (aget 4096 u1.2.2.1 y5_25).bind (fun u9 =>
  (f_J6_bitCount_0f7a4 u9).bind (fun u10 =>
  (aget 4096 u1.2.2.1 y5_25).bind (fun u11 =>
  (aget 4096 u2 u11).bind (fun u12 =>
  some (y3_25 + ((u10).toInt64 * (u12).toInt64))))))
  else
  some (y3_25)).bind (fun w6 =>
  f_X8_sumWithin_25 u1 u2 n w6 (y5_25 + 1)))
theorem f_X8_sumWithin_25_s (u1 : Int32 × Int32 × (Nat → Int32) × (Nat → Int32)) (u2 : (Nat → Int32)) (n : Nat) (y3_25 : Int64) (y5_25 : Int32) : f_X8_sumWithin_25 u1 u2 (n + 1) y3_25 y5_25 =
  (if u1.1 ≤ y5_25 then
  some (y3_25)
  else
  (aget 4096 u1.2.2.2 y5_25).bind (fun u5 =>
  (if u5 = 0 then
  (aget 4096 u1.2.2.1 y5_25).bind (fun u9 =>
  (f_J6_bitCount_0f7a4 u9).bind (fun u10 =>
  (aget 4096 u1.2.2.1 y5_25).bind (fun u11 =>
  (aget 4096 u2 u11).bind (fun u12 =>
  some (y3_25 + ((u10).toInt64 * (u12).toInt64))))))
  else
  some (y3_25)).bind (fun w6 =>
  f_X8_sumWithin_25 u1 u2 n w6 (y5_25 + 1)))) := rfl
def f_X8_sumWithin (v_p1_scene_seats : Int32) (v_filled : Nat → Int32) (v_open : Nat → Int32) (v_p1_clash : Nat → Int32) (v_chance : Nat → Int32) (x2 : Int32) : Option (Int64 × Int32 × Int32 × (Nat → Int32) × (Nat → Int32) × (Nat → Int32)) :=
  (f_X8_list v_filled v_open v_p1_clash v_p1_scene_seats x2).bind (fun u1 =>
  (f_X8_spreadChances u1.1 u1.2.1 u1.2.2.1 v_chance u1.2.2.2).bind (fun u2 =>
  (f_X8_sumWithin_25 u1 u2 FU (0 : Int64) (0 : Int32)).bind (fun u13 =>
  some (u13, u1.1, u1.2.1, u1.2.2.1, u1.2.2.2, u2))))
set_option maxHeartbeats 4000000 in
set_option maxRecDepth 100000 in
theorem c_X8_sumWithin (l : Launch) (D : va_G) (cI cJ cZ cO : ClassId) (a_p1 a_p1_scene a_p1_apart a_p1_clash a_p1_neighbours a_p1_scene_steps a_p1_scene_worths a_p1_scene_comers a_p1_scene_seen a_p1_scene_seenLengths a_t a_filled a_open a_chance : Nat) (v_p1_scene_seats : Int32) (v_p1_scene_bear : Int32) (v_p1_scene_comerCount : Int32) (v_p1_scene_seenRows : Int32) (v_size : Int32) (v_places : Int32) (v_filled : Nat → Int32) (v_open : Nat → Int32) (v_p1_clash : Nat → Int32) (v_chance : Nat → Int32) (x2 : Int32) (out : Int64 × Int32 × Int32 × (Nat → Int32) × (Nat → Int32) × (Nat → Int32)) (hf : f_X8_sumWithin v_p1_scene_seats v_filled v_open v_p1_clash v_chance x2 = some out) : MetR l yX8_sumWithin (Cond.code yX8_sumWithin cX8_sumWithin 6 (some .long) :: tbG) { frames := 2, cells := 0, slots := 0, locals := 44 } D (tyL cI cJ cZ cO) [.ref a_t, .ref a_p1, .int x2] [(a_p1, .inr (0, [.ref a_p1_scene, .ref a_p1_apart, .ref a_p1_clash, .ref a_p1_neighbours])), (a_p1_scene, .inr (7, [.ref a_p1_scene_steps, .ref a_p1_scene_worths, .ref a_p1_scene_comers, .ref a_p1_scene_seen, .ref a_p1_scene_seenLengths, .int v_p1_scene_seats, .int v_p1_scene_bear, .int v_p1_scene_comerCount, .int v_p1_scene_seenRows])), (a_t, .inr (8, [.ref a_filled, .ref a_open, .ref a_chance, .int v_size, .int v_places])), (a_filled, eI cI 4096 v_filled), (a_open, eI cI 4096 v_open), (a_p1_clash, eI cI 12 v_p1_clash), (a_chance, eI cI 4096 v_chance)] (some (.long out.1)) [(a_p1, .inr (0, [.ref a_p1_scene, .ref a_p1_apart, .ref a_p1_clash, .ref a_p1_neighbours])), (a_p1_scene, .inr (7, [.ref a_p1_scene_steps, .ref a_p1_scene_worths, .ref a_p1_scene_comers, .ref a_p1_scene_seen, .ref a_p1_scene_seenLengths, .int v_p1_scene_seats, .int v_p1_scene_bear, .int v_p1_scene_comerCount, .int v_p1_scene_seenRows])), (a_t, .inr (8, [.ref a_filled, .ref a_open, .ref a_chance, .int out.2.1, .int out.2.2.1])), (a_filled, eI cI 4096 out.2.2.2.1), (a_open, eI cI 4096 out.2.2.2.2.1), (a_p1_clash, eI cI 12 v_p1_clash), (a_chance, eI cI 4096 out.2.2.2.2.2)] := by
  refine ba_ofL RX8 [(0, .ref a_t), (1, .ref a_p1), (2, .int x2)] (by decide +kernel) rfl (Nat.le_of_ble_eq_true rfl) rfl ?_
  intro p e s m args below meth c Q A Cx hP ret ls hl
  obtain ⟨⟨hx, hb, hml, hown, hts⟩, hK, hD, hA⟩ := id Cx
  have hS : va_S A s.heap s.heap [] := va_S.rf
  unfold f_X8_sumWithin at hf
  refine lv_lconst (v := 0) hx hb dX8_sumWithin_0 (by decide) ?_
  refine lv_lstore_n (lv' := [(3, .long (0 : Int64)), (0, .ref a_t), (1, .ref a_p1), (2, .int x2)]) hx hb dX8_sumWithin_1 rfl hl (by decide) rfl (fun ls hl => ?_)
  refine lv_aload_n hx hb dX8_sumWithin_2 rfl (lv_at hl 1 rfl) ?_
  refine lv_aload_n hx hb dX8_sumWithin_3 rfl (lv_at hl 2 rfl) ?_
  refine gf_X8_64 Cx hP 0 rfl rfl dX8_sumWithin_4 ?_
  refine lv_aload_n hx hb dX8_sumWithin_7 rfl (lv_at hl 2 rfl) ?_
  refine gf_X8_41 Cx hP 0 rfl rfl dX8_sumWithin_8 ?_
  refine gf_X8_53 Cx hP 1 rfl rfl dX8_sumWithin_11 ?_
  refine lv_iload_n hx hb dX8_sumWithin_14 rfl (lv_at hl 3 rfl) ?_
  obtain ⟨u1, hu1, hf⟩ := ob_b hf
  refine iv_X8_67 (As := [.ref a_p1_clash, .int v_p1_scene_seats, .int x2]) (rest := []) (is := [2, 3, 4, 5]) (q0 := 2) (X' := [(a_p1, .inr (0, [.ref a_p1_scene, .ref a_p1_apart, .ref a_p1_clash, .ref a_p1_neighbours])), (a_p1_scene, .inr (7, [.ref a_p1_scene_steps, .ref a_p1_scene_worths, .ref a_p1_scene_comers, .ref a_p1_scene_seen, .ref a_p1_scene_seenLengths, .int v_p1_scene_seats, .int v_p1_scene_bear, .int v_p1_scene_comerCount, .int v_p1_scene_seenRows])), (a_t, .inr (8, [.ref a_filled, .ref a_open, .ref a_chance, .int u1.1, .int u1.2.1])), (a_filled, eI cI 4096 u1.2.2.1), (a_open, eI cI 4096 u1.2.2.2), (a_p1_clash, eI cI 12 v_p1_clash), (a_chance, eI cI 4096 v_chance)]) Cx (c_X8_list l D cI cJ cZ cO a_t a_filled a_open a_chance a_p1_clash v_size v_places v_filled v_open v_p1_clash v_p1_scene_seats x2 u1 hu1) hP hS rfl rfl rfl rfl rfl rfl rfl hl.1 (Nat.le_of_ble_eq_true rfl) dX8_sumWithin_15 rfl rfl ⟨Nat.le_of_ble_eq_true rfl, Nat.le_of_ble_eq_true rfl⟩ ⟨Nat.zero_le _, Nat.zero_le _⟩ rfl (fun H locs hP hS => ?_)
  refine lv_aload_n hx hb dX8_sumWithin_18 rfl (lv_at hl 1 rfl) ?_
  obtain ⟨u2, hu2, hf⟩ := ob_b hf
  refine iv_X8_71 (As := []) (rest := []) (is := [2, 3, 6, 4]) (q0 := 2) (X' := [(a_p1, .inr (0, [.ref a_p1_scene, .ref a_p1_apart, .ref a_p1_clash, .ref a_p1_neighbours])), (a_p1_scene, .inr (7, [.ref a_p1_scene_steps, .ref a_p1_scene_worths, .ref a_p1_scene_comers, .ref a_p1_scene_seen, .ref a_p1_scene_seenLengths, .int v_p1_scene_seats, .int v_p1_scene_bear, .int v_p1_scene_comerCount, .int v_p1_scene_seenRows])), (a_t, .inr (8, [.ref a_filled, .ref a_open, .ref a_chance, .int u1.1, .int u1.2.1])), (a_filled, eI cI 4096 u1.2.2.1), (a_open, eI cI 4096 u1.2.2.2), (a_p1_clash, eI cI 12 v_p1_clash), (a_chance, eI cI 4096 u2)]) Cx (c_X8_spreadChances l D cI cJ cZ cO a_t a_filled a_open a_chance u1.1 u1.2.1 u1.2.2.1 v_chance u1.2.2.2 u2 hu2) hP hS rfl rfl rfl rfl rfl rfl rfl hl.1 (Nat.le_of_ble_eq_true rfl) dX8_sumWithin_19 rfl rfl ⟨Nat.le_of_ble_eq_true rfl, Nat.le_of_ble_eq_true rfl⟩ ⟨Nat.zero_le _, Nat.zero_le _⟩ rfl (fun H locs hP hS => ?_)
  refine lv_iconst (v := 0) hx hb dX8_sumWithin_22 (by decide) ?_
  refine lv_istore (lv' := [(5, .int (0 : Int32)), (3, .long (0 : Int64)), (0, .ref a_t), (1, .ref a_p1), (2, .int x2)]) hx hb dX8_sumWithin_23 hl (by decide) rfl (fun ls hl => ?_)
  have L25_3 : ∀ (n : Nat) (y3_25 : Int64) (y5_25 : Int32) (o : Int64) (H : Heap) (locs : List Loc) (ls : Array Slot), f_X8_sumWithin_25 u1 u2 n y3_25 y5_25 = some o → va_P D vwCl [(a_p1, .inr (0, [.ref a_p1_scene, .ref a_p1_apart, .ref a_p1_clash, .ref a_p1_neighbours])), (a_p1_scene, .inr (7, [.ref a_p1_scene_steps, .ref a_p1_scene_worths, .ref a_p1_scene_comers, .ref a_p1_scene_seen, .ref a_p1_scene_seenLengths, .int v_p1_scene_seats, .int v_p1_scene_bear, .int v_p1_scene_comerCount, .int v_p1_scene_seenRows])), (a_t, .inr (8, [.ref a_filled, .ref a_open, .ref a_chance, .int u1.1, .int u1.2.1])), (a_filled, eI cI 4096 u1.2.2.1), (a_open, eI cI 4096 u1.2.2.2), (a_p1_clash, eI cI 12 v_p1_clash), (a_chance, eI cI 4096 u2)] H → va_S A s.heap H locs → lv_has ls 6 [(0, .ref a_t), (3, .long y3_25), (5, .int y5_25)] → (∀ (H : Heap) (locs : List Loc) (ls : Array Slot), va_P D vwCl [(a_p1, .inr (0, [.ref a_p1_scene, .ref a_p1_apart, .ref a_p1_clash, .ref a_p1_neighbours])), (a_p1_scene, .inr (7, [.ref a_p1_scene_steps, .ref a_p1_scene_worths, .ref a_p1_scene_comers, .ref a_p1_scene_seen, .ref a_p1_scene_seenLengths, .int v_p1_scene_seats, .int v_p1_scene_bear, .int v_p1_scene_comerCount, .int v_p1_scene_seenRows])), (a_t, .inr (8, [.ref a_filled, .ref a_open, .ref a_chance, .int u1.1, .int u1.2.1])), (a_filled, eI cI 4096 u1.2.2.1), (a_open, eI cI 4096 u1.2.2.2), (a_p1_clash, eI cI 12 v_p1_clash), (a_chance, eI cI 4096 u2)] H → va_S A s.heap H locs → lv_has ls 6 [(3, .long o)] → W p l e { frames := 2, cells := 0, slots := 0, locals := 44 } s m args below meth c H locs 0 0 Q (F0 m 78 ls [])) → W p l e { frames := 2, cells := 0, slots := 0, locals := 44 } s m args below meth c H locs 0 0 Q (F0 m 25 ls []) := by
    intro n
    induction n with
    | zero => intro y3_25 y5_25 o H locs ls hf; exact (ob_n hf).elim
    | succ n ih =>
      intro y3_25 y5_25 o H locs ls hf hP hS hl kk
      rw [f_X8_sumWithin_25_s] at hf
      refine lv_iload hx hb dX8_sumWithin_25 (lv_at hl 2 rfl) ?_
      refine lv_aload_n hx hb dX8_sumWithin_27 rfl (lv_at hl 0 rfl) ?_
      refine gf_X8_21 Cx hP 2 rfl rfl dX8_sumWithin_28 ?_
      refine lv_icmp_ge (tgt := 78) hx hb dX8_sumWithin_31 (by decide) (fun c4 => ?_) (fun c4 => ?_)
      · have hf := ob_t c4 hf
        obtain rfl := Option.some.inj hf
        exact kk _ _ _ hP hS (lv_sub hl [1] rfl)
      · have hf := ob_f c4 hf
        refine lv_aload_n hx hb dX8_sumWithin_34 rfl (lv_at hl 0 rfl) ?_
        refine gf_X8_15 Cx hP 2 rfl rfl dX8_sumWithin_35 ?_
        refine lv_iload hx hb dX8_sumWithin_38 (lv_at hl 2 rfl) ?_
        obtain ⟨u5, hu5, hf⟩ := ob_b hf
        refine ba_iald Cx hP 4 rfl hu5 dX8_sumWithin_40 ?_
        refine ob_J (P := fun w6 => ∀ (H : Heap) (locs : List Loc) (ls : Array Slot), va_P D vwCl [(a_p1, .inr (0, [.ref a_p1_scene, .ref a_p1_apart, .ref a_p1_clash, .ref a_p1_neighbours])), (a_p1_scene, .inr (7, [.ref a_p1_scene_steps, .ref a_p1_scene_worths, .ref a_p1_scene_comers, .ref a_p1_scene_seen, .ref a_p1_scene_seenLengths, .int v_p1_scene_seats, .int v_p1_scene_bear, .int v_p1_scene_comerCount, .int v_p1_scene_seenRows])), (a_t, .inr (8, [.ref a_filled, .ref a_open, .ref a_chance, .int u1.1, .int u1.2.1])), (a_filled, eI cI 4096 u1.2.2.1), (a_open, eI cI 4096 u1.2.2.2), (a_p1_clash, eI cI 12 v_p1_clash), (a_chance, eI cI 4096 u2)] H → va_S A s.heap H locs → lv_has ls 6 [(0, .ref a_t), (3, .long w6), (5, .int y5_25)] → W p l e { frames := 2, cells := 0, slots := 0, locals := 44 } s m args below meth c H locs 0 0 Q (F0 m 72 ls [])) hf ?_ ?_
        · intro w6 hf H locs ls hP hS hl
          refine lv_iinc (v := (y5_25 + 1)) (lv' := [(5, .int (y5_25 + 1)), (0, .ref a_t), (3, .long w6)]) hx hb dX8_sumWithin_72 hl (k := 2) rfl rfl (by decide) rfl (fun ls hl => ?_)
          refine lv_goto (tgt := 25) hx hb dX8_sumWithin_75 (by decide) ?_
          exact ih w6 (y5_25 + 1) _ _ _ _ hf hP hS (lv_sub hl [1, 2, 0] rfl) kk
        · intro J72_7 hf
          refine lv_if_ne (tgt := 72) hx hb dX8_sumWithin_41 (by decide) (fun c8 => ?_) (fun c8 => ?_)
          · have hf := ob_fk c8 hf
            exact J72_7 y3_25 hf _ _ _ hP hS (lv_sub hl [0, 1, 2] rfl)
          · have hf := ob_tk c8 hf
            refine lv_lload_n hx hb dX8_sumWithin_44 rfl (lv_at hl 1 rfl) ?_
            refine lv_aload_n hx hb dX8_sumWithin_45 rfl (lv_at hl 0 rfl) ?_
            refine gf_X8_9 Cx hP 2 rfl rfl dX8_sumWithin_46 ?_
            refine lv_iload hx hb dX8_sumWithin_49 (lv_at hl 2 rfl) ?_
            obtain ⟨u9, hu9, hf⟩ := ob_bk hf
            refine ba_iald Cx hP 3 rfl hu9 dX8_sumWithin_51 ?_
            obtain ⟨u10, hu10, hf⟩ := ob_bk hf
            refine iv_X8_28 (As := [.int u9]) (rest := [.long y3_25]) (is := []) (X' := [(a_p1, .inr (0, [.ref a_p1_scene, .ref a_p1_apart, .ref a_p1_clash, .ref a_p1_neighbours])), (a_p1_scene, .inr (7, [.ref a_p1_scene_steps, .ref a_p1_scene_worths, .ref a_p1_scene_comers, .ref a_p1_scene_seen, .ref a_p1_scene_seenLengths, .int v_p1_scene_seats, .int v_p1_scene_bear, .int v_p1_scene_comerCount, .int v_p1_scene_seenRows])), (a_t, .inr (8, [.ref a_filled, .ref a_open, .ref a_chance, .int u1.1, .int u1.2.1])), (a_filled, eI cI 4096 u1.2.2.1), (a_open, eI cI 4096 u1.2.2.2), (a_p1_clash, eI cI 12 v_p1_clash), (a_chance, eI cI 4096 u2)]) Cx (c_J6_bitCount_0f7a4 l D cI cJ cZ cO  u9 u10 hu10) hP hS rfl rfl rfl rfl rfl rfl hl.1 (Nat.le_of_ble_eq_true rfl) dX8_sumWithin_52 rfl rfl ⟨Nat.le_of_ble_eq_true rfl, Nat.le_of_ble_eq_true rfl⟩ ⟨Nat.zero_le _, Nat.zero_le _⟩ rfl (fun H locs hP hS => ?_)
            refine lv_i2l (v := (u10).toInt64) hx hb dX8_sumWithin_55 rfl ?_
            refine lv_aload_n hx hb dX8_sumWithin_56 rfl (lv_at hl 0 rfl) ?_
            refine gf_X8_18 Cx hP 2 rfl rfl dX8_sumWithin_57 ?_
            refine lv_aload_n hx hb dX8_sumWithin_60 rfl (lv_at hl 0 rfl) ?_
            refine gf_X8_9 Cx hP 2 rfl rfl dX8_sumWithin_61 ?_
            refine lv_iload hx hb dX8_sumWithin_64 (lv_at hl 2 rfl) ?_
            obtain ⟨u11, hu11, hf⟩ := ob_bk hf
            refine ba_iald Cx hP 3 rfl hu11 dX8_sumWithin_66 ?_
            obtain ⟨u12, hu12, hf⟩ := ob_bk hf
            refine ba_iald Cx hP 6 rfl hu12 dX8_sumWithin_67 ?_
            refine lv_i2l (v := (u12).toInt64) hx hb dX8_sumWithin_68 rfl ?_
            refine lv_lmul hx hb dX8_sumWithin_69 ?_
            refine lv_ladd hx hb dX8_sumWithin_70 ?_
            refine lv_lstore_n (lv' := [(3, .long (y3_25 + ((u10).toInt64 * (u12).toInt64))), (0, .ref a_t), (5, .int y5_25)]) hx hb dX8_sumWithin_71 rfl hl (by decide) rfl (fun ls hl => ?_)
            exact J72_7 (y3_25 + ((u10).toInt64 * (u12).toInt64)) hf _ _ _ hP hS (lv_sub hl [1, 0, 2] rfl)
  obtain ⟨u13, hu13, hf⟩ := ob_b hf
  refine L25_3 FU (0 : Int64) (0 : Int32) u13 _ _ _ hu13 hP hS (lv_sub hl [2, 1, 0] rfl) ?_
  intro H locs ls hP hS hl
  refine lv_lload_n hx hb dX8_sumWithin_78 rfl (lv_at hl 0 rfl) ?_
  obtain rfl := Option.some.inj hf
  exact ret _ _ _ _ dX8_sumWithin_79 hP hS

