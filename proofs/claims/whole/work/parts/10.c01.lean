def f_X9_leave (v_bench_scene_bear : Int32) (v_nearest : Nat → Int32) : Option (Int32 × Int32 × (Nat → Int32)) :=
  (f_J7_fill_53178 12 v_nearest (99 : Int32)).bind (fun u1 =>
  some ((0 : Int32), v_bench_scene_bear, u1))
set_option maxHeartbeats 4000000 in
set_option maxRecDepth 100000 in
theorem c_X9_leave (l : Launch) (D : va_G) (cI cJ cZ cO : ClassId) (a_t a_bench a_nearest a_bench_scene a_bench_apart a_bench_clash a_bench_neighbours a_bench_scene_steps a_bench_scene_worths a_bench_scene_comers a_bench_scene_seen a_bench_scene_seenLengths : Nat) (v_set : Int32) (v_bear : Int32) (v_bench_scene_seats : Int32) (v_bench_scene_bear : Int32) (v_bench_scene_comerCount : Int32) (v_bench_scene_seenRows : Int32) (v_nearest : Nat → Int32) (out : Int32 × Int32 × (Nat → Int32)) (hf : f_X9_leave v_bench_scene_bear v_nearest = some out) : MetR l yX9_leave (Cond.code yX9_leave cX9_leave 1 none :: tbG) { frames := 1, cells := 0, slots := 0, locals := 23 } D (tyL cI cJ cZ cO) [.ref a_t] [(a_t, .inr (9, [.ref a_bench, .ref a_nearest, .int v_set, .int v_bear])), (a_bench, .inr (0, [.ref a_bench_scene, .ref a_bench_apart, .ref a_bench_clash, .ref a_bench_neighbours])), (a_bench_scene, .inr (7, [.ref a_bench_scene_steps, .ref a_bench_scene_worths, .ref a_bench_scene_comers, .ref a_bench_scene_seen, .ref a_bench_scene_seenLengths, .int v_bench_scene_seats, .int v_bench_scene_bear, .int v_bench_scene_comerCount, .int v_bench_scene_seenRows])), (a_nearest, eI cI 12 v_nearest)] none [(a_t, .inr (9, [.ref a_bench, .ref a_nearest, .int out.1, .int out.2.1])), (a_bench, .inr (0, [.ref a_bench_scene, .ref a_bench_apart, .ref a_bench_clash, .ref a_bench_neighbours])), (a_bench_scene, .inr (7, [.ref a_bench_scene_steps, .ref a_bench_scene_worths, .ref a_bench_scene_comers, .ref a_bench_scene_seen, .ref a_bench_scene_seenLengths, .int v_bench_scene_seats, .int v_bench_scene_bear, .int v_bench_scene_comerCount, .int v_bench_scene_seenRows])), (a_nearest, eI cI 12 out.2.2)] := by
  refine ba_ofV RX9 [(0, .ref a_t)] (by decide +kernel) rfl (Nat.le_of_ble_eq_true rfl) rfl ?_
  intro p e s m args below meth c Q A Cx hP ret ls hl
  obtain ⟨⟨hx, hb, hml, hown, hts⟩, hK, hD, hA⟩ := id Cx
  have hS : va_S A s.heap s.heap [] := va_S.rf
  unfold f_X9_leave at hf
  refine lv_aload_n hx hb dX9_leave_0 rfl (lv_at hl 0 rfl) ?_
  refine lv_iconst (v := 0) hx hb dX9_leave_1 (by decide) ?_
  refine pf_X9_19 (X' := [(a_t, .inr (9, [.ref a_bench, .ref a_nearest, .int (0 : Int32), .int v_bear])), (a_bench, .inr (0, [.ref a_bench_scene, .ref a_bench_apart, .ref a_bench_clash, .ref a_bench_neighbours])), (a_bench_scene, .inr (7, [.ref a_bench_scene_steps, .ref a_bench_scene_worths, .ref a_bench_scene_comers, .ref a_bench_scene_seen, .ref a_bench_scene_seenLengths, .int v_bench_scene_seats, .int v_bench_scene_bear, .int v_bench_scene_comerCount, .int v_bench_scene_seenRows])), (a_nearest, eI cI 12 v_nearest)]) Cx hP hS rfl 0 rfl rfl (Nat.le_of_ble_eq_true rfl) dX9_leave_2 (fun H locs hP hS => ?_)
  refine lv_aload_n hx hb dX9_leave_5 rfl (lv_at hl 0 rfl) ?_
  refine lv_aload_n hx hb dX9_leave_6 rfl (lv_at hl 0 rfl) ?_
  refine gf_X9_9 Cx hP 0 rfl rfl dX9_leave_7 ?_
  refine gf_X9_23 Cx hP 1 rfl rfl dX9_leave_10 ?_
  refine gf_X9_29 Cx hP 2 rfl rfl dX9_leave_13 ?_
  refine pf_X9_34 (X' := [(a_t, .inr (9, [.ref a_bench, .ref a_nearest, .int (0 : Int32), .int v_bench_scene_bear])), (a_bench, .inr (0, [.ref a_bench_scene, .ref a_bench_apart, .ref a_bench_clash, .ref a_bench_neighbours])), (a_bench_scene, .inr (7, [.ref a_bench_scene_steps, .ref a_bench_scene_worths, .ref a_bench_scene_comers, .ref a_bench_scene_seen, .ref a_bench_scene_seenLengths, .int v_bench_scene_seats, .int v_bench_scene_bear, .int v_bench_scene_comerCount, .int v_bench_scene_seenRows])), (a_nearest, eI cI 12 v_nearest)]) Cx hP hS rfl 0 rfl rfl (Nat.le_of_ble_eq_true rfl) dX9_leave_16 (fun H locs hP hS => ?_)
  refine lv_aload_n hx hb dX9_leave_19 rfl (lv_at hl 0 rfl) ?_
  refine gf_X9_15 Cx hP 0 rfl rfl dX9_leave_20 ?_
  refine lv_bipush (v := 99) hx hb dX9_leave_23 (by decide) ?_
  obtain ⟨u1, hu1, hf⟩ := ob_b hf
  refine iv_X9_35 (As := [.ref a_nearest, .int (99 : Int32)]) (rest := []) (is := [3]) (X' := [(a_t, .inr (9, [.ref a_bench, .ref a_nearest, .int (0 : Int32), .int v_bench_scene_bear])), (a_bench, .inr (0, [.ref a_bench_scene, .ref a_bench_apart, .ref a_bench_clash, .ref a_bench_neighbours])), (a_bench_scene, .inr (7, [.ref a_bench_scene_steps, .ref a_bench_scene_worths, .ref a_bench_scene_comers, .ref a_bench_scene_seen, .ref a_bench_scene_seenLengths, .int v_bench_scene_seats, .int v_bench_scene_bear, .int v_bench_scene_comerCount, .int v_bench_scene_seenRows])), (a_nearest, eI cI 12 u1)]) Cx (c_J7_fill_53178 l D cI cJ cZ cO a_nearest 12 v_nearest (99 : Int32) u1 hu1) hP hS rfl rfl rfl rfl rfl rfl hl.1 (Nat.le_of_ble_eq_true rfl) dX9_leave_25 rfl rfl ⟨Nat.le_of_ble_eq_true rfl, Nat.le_of_ble_eq_true rfl⟩ ⟨Nat.zero_le _, Nat.zero_le _⟩ rfl (fun H locs hP hS => ?_)
  obtain rfl := Option.some.inj hf
  exact ret _ _ _ _ dX9_leave_28 hP hS

def f_X9_isOpen (v_bear : Int32) (v_nearest : Nat → Int32) (x1 : Int32) : Option (Int32) :=
  (aget 12 v_nearest x1).bind (fun u1 =>
  (if u1 < v_bear then
  some (0 : Int32)
  else
  some (1 : Int32)).bind (fun w2 =>
  (oz w2).bind (fun u4 =>
  some (u4))))
set_option maxHeartbeats 4000000 in
set_option maxRecDepth 100000 in
theorem c_X9_isOpen (l : Launch) (D : va_G) (cI cJ cZ cO : ClassId) (a_t a_bench a_nearest : Nat) (v_set : Int32) (v_bear : Int32) (v_nearest : Nat → Int32) (x1 : Int32) (out : Int32) (hf : f_X9_isOpen v_bear v_nearest x1 = some out) : MetR l yX9_isOpen (Cond.code yX9_isOpen cX9_isOpen 2 (some .boolean) :: tbG) { frames := 0, cells := 0, slots := 0, locals := 0 } D (tyL cI cJ cZ cO) [.ref a_t, .int x1] [(a_t, .inr (9, [.ref a_bench, .ref a_nearest, .int v_set, .int v_bear])), (a_nearest, eI cI 12 v_nearest)] (some (.int out)) [(a_t, .inr (9, [.ref a_bench, .ref a_nearest, .int v_set, .int v_bear])), (a_nearest, eI cI 12 v_nearest)] := by
  refine ba_ofZ RX9 [(0, .ref a_t), (1, .int x1)] (by decide +kernel) rfl (Nat.le_of_ble_eq_true rfl) rfl ?_
  intro p e s m args below meth c Q A Cx hP ret ls hl
  obtain ⟨⟨hx, hb, hml, hown, hts⟩, hK, hD, hA⟩ := id Cx
  have hS : va_S A s.heap s.heap [] := va_S.rf
  unfold f_X9_isOpen at hf
  refine lv_aload_n hx hb dX9_isOpen_0 rfl (lv_at hl 0 rfl) ?_
  refine gf_X9_15 Cx hP 0 rfl rfl dX9_isOpen_1 ?_
  refine lv_iload_n hx hb dX9_isOpen_4 rfl (lv_at hl 1 rfl) ?_
  obtain ⟨u1, hu1, hf⟩ := ob_b hf
  refine ba_iald Cx hP 1 rfl hu1 dX9_isOpen_5 ?_
  refine lv_aload_n hx hb dX9_isOpen_6 rfl (lv_at hl 0 rfl) ?_
  refine gf_X9_34 Cx hP 0 rfl rfl dX9_isOpen_7 ?_
  refine ob_J (P := fun w2 => ∀ (H : Heap) (locs : List Loc) (ls : Array Slot), va_P D vwCl [(a_t, .inr (9, [.ref a_bench, .ref a_nearest, .int v_set, .int v_bear])), (a_nearest, eI cI 12 v_nearest)] H → va_S A s.heap H locs → lv_has ls 2 [] → W p l e { frames := 0, cells := 0, slots := 0, locals := 0 } s m args below meth c H locs 0 0 Q (F0 m 18 ls [.int w2])) hf ?_ ?_
  · intro w2 hf H locs ls hP hS hl
    obtain ⟨u4, hu4, hf⟩ := ob_b hf
    obtain ⟨hz1, hz2⟩ := oz_ok hu4
    obtain rfl := Option.some.inj hf
    exact ret _ _ _ _ _ hz1 hz2 dX9_isOpen_18 hP hS
  · intro J18_3 hf
    refine lv_icmp_lt (tgt := 17) hx hb dX9_isOpen_10 (by decide) (fun c5 => ?_) (fun c5 => ?_)
    · have hf := ob_tk c5 hf
      refine lv_iconst (v := 0) hx hb dX9_isOpen_17 (by decide) ?_
      exact J18_3 (0 : Int32) hf _ _ _ hP hS (lv_sub hl [] rfl)
    · have hf := ob_fk c5 hf
      refine lv_iconst (v := 1) hx hb dX9_isOpen_13 (by decide) ?_
      refine lv_goto (tgt := 18) hx hb dX9_isOpen_14 (by decide) ?_
      exact J18_3 (1 : Int32) hf _ _ _ hP hS (lv_sub hl [] rfl)

def f_X9_sit_14 (v_bench_scene_seats : Int32) (v_bench_apart : Nat → Int32) (x1 : Int32) : Nat → Int32 → (Nat → Int32) → Option ((Nat → Int32))
  | 0, _, _ => none
  | n + 1, y2_14, z_nearest_14 =>
  if v_bench_scene_seats ≤ y2_14 then
  some (z_nearest_14)
  else
  (aget 12 z_nearest_14 y2_14).bind (fun u3 =>
  (f_X0_farness v_bench_apart x1 y2_14).bind (fun u4 =>
  (asetI 12 z_nearest_14 y2_14 (imin u3 u4)).bind (fun u5 =>
  f_X9_sit_14 v_bench_scene_seats v_bench_apart x1 n (y2_14 + 1) u5)))
theorem f_X9_sit_14_s (v_bench_scene_seats : Int32) (v_bench_apart : Nat → Int32) (x1 : Int32) (n : Nat) (y2_14 : Int32) (z_nearest_14 : Nat → Int32) : f_X9_sit_14 v_bench_scene_seats v_bench_apart x1 (n + 1) y2_14 z_nearest_14 =
  (if v_bench_scene_seats ≤ y2_14 then
  some (z_nearest_14)
  else
  (aget 12 z_nearest_14 y2_14).bind (fun u3 =>
  (f_X0_farness v_bench_apart x1 y2_14).bind (fun u4 =>
  (asetI 12 z_nearest_14 y2_14 (imin u3 u4)).bind (fun u5 =>
  f_X9_sit_14 v_bench_scene_seats v_bench_apart x1 n (y2_14 + 1) u5)))) := rfl
def f_X9_sit (v_set : Int32) (v_bench_scene_seats : Int32) (v_nearest : Nat → Int32) (v_bench_apart : Nat → Int32) (x1 : Int32) : Option (Int32 × (Nat → Int32)) :=
  (f_X9_sit_14 v_bench_scene_seats v_bench_apart x1 FU (0 : Int32) v_nearest).bind (fun u6 =>
  some ((v_set ||| ((1 : Int32) <<< (x1 &&& 31))), u6))
set_option maxHeartbeats 4000000 in
set_option maxRecDepth 100000 in
theorem c_X9_sit (l : Launch) (D : va_G) (cI cJ cZ cO : ClassId) (a_t a_bench a_nearest a_bench_scene a_bench_apart a_bench_clash a_bench_neighbours a_bench_scene_steps a_bench_scene_worths a_bench_scene_comers a_bench_scene_seen a_bench_scene_seenLengths : Nat) (v_set : Int32) (v_bear : Int32) (v_bench_scene_seats : Int32) (v_bench_scene_bear : Int32) (v_bench_scene_comerCount : Int32) (v_bench_scene_seenRows : Int32) (v_nearest : Nat → Int32) (v_bench_apart : Nat → Int32) (x1 : Int32) (out : Int32 × (Nat → Int32)) (hf : f_X9_sit v_set v_bench_scene_seats v_nearest v_bench_apart x1 = some out) : MetR l yX9_sit (Cond.code yX9_sit cX9_sit 3 none :: tbG) { frames := 1, cells := 0, slots := 0, locals := 22 } D (tyL cI cJ cZ cO) [.ref a_t, .int x1] [(a_t, .inr (9, [.ref a_bench, .ref a_nearest, .int v_set, .int v_bear])), (a_bench, .inr (0, [.ref a_bench_scene, .ref a_bench_apart, .ref a_bench_clash, .ref a_bench_neighbours])), (a_bench_scene, .inr (7, [.ref a_bench_scene_steps, .ref a_bench_scene_worths, .ref a_bench_scene_comers, .ref a_bench_scene_seen, .ref a_bench_scene_seenLengths, .int v_bench_scene_seats, .int v_bench_scene_bear, .int v_bench_scene_comerCount, .int v_bench_scene_seenRows])), (a_nearest, eI cI 12 v_nearest), (a_bench_apart, eI cI 144 v_bench_apart)] none [(a_t, .inr (9, [.ref a_bench, .ref a_nearest, .int out.1, .int v_bear])), (a_bench, .inr (0, [.ref a_bench_scene, .ref a_bench_apart, .ref a_bench_clash, .ref a_bench_neighbours])), (a_bench_scene, .inr (7, [.ref a_bench_scene_steps, .ref a_bench_scene_worths, .ref a_bench_scene_comers, .ref a_bench_scene_seen, .ref a_bench_scene_seenLengths, .int v_bench_scene_seats, .int v_bench_scene_bear, .int v_bench_scene_comerCount, .int v_bench_scene_seenRows])), (a_nearest, eI cI 12 out.2), (a_bench_apart, eI cI 144 v_bench_apart)] := by
  refine ba_ofV RX9 [(0, .ref a_t), (1, .int x1)] (by decide +kernel) rfl (Nat.le_of_ble_eq_true rfl) rfl ?_
  intro p e s m args below meth c Q A Cx hP ret ls hl
  obtain ⟨⟨hx, hb, hml, hown, hts⟩, hK, hD, hA⟩ := id Cx
  have hS : va_S A s.heap s.heap [] := va_S.rf
  unfold f_X9_sit at hf
  refine lv_aload_n hx hb dX9_sit_0 rfl (lv_at hl 0 rfl) ?_
  refine lv_dup hx hb dX9_sit_1 rfl ?_
  refine gf_X9_19 Cx hP 0 rfl rfl dX9_sit_2 ?_
  refine lv_iconst (v := 1) hx hb dX9_sit_5 (by decide) ?_
  refine lv_iload_n hx hb dX9_sit_6 rfl (lv_at hl 1 rfl) ?_
  refine lv_ishl hx hb dX9_sit_7 ?_
  refine lv_ior hx hb dX9_sit_8 ?_
  refine pf_X9_19 (X' := [(a_t, .inr (9, [.ref a_bench, .ref a_nearest, .int (v_set ||| ((1 : Int32) <<< (x1 &&& 31))), .int v_bear])), (a_bench, .inr (0, [.ref a_bench_scene, .ref a_bench_apart, .ref a_bench_clash, .ref a_bench_neighbours])), (a_bench_scene, .inr (7, [.ref a_bench_scene_steps, .ref a_bench_scene_worths, .ref a_bench_scene_comers, .ref a_bench_scene_seen, .ref a_bench_scene_seenLengths, .int v_bench_scene_seats, .int v_bench_scene_bear, .int v_bench_scene_comerCount, .int v_bench_scene_seenRows])), (a_nearest, eI cI 12 v_nearest), (a_bench_apart, eI cI 144 v_bench_apart)]) Cx hP hS rfl 0 rfl rfl (Nat.le_of_ble_eq_true rfl) dX9_sit_9 (fun H locs hP hS => ?_)
  refine lv_iconst (v := 0) hx hb dX9_sit_12 (by decide) ?_
  refine lv_istore_n (lv' := [(2, .int (0 : Int32)), (0, .ref a_t), (1, .int x1)]) hx hb dX9_sit_13 rfl hl (by decide) rfl (fun ls hl => ?_)
  have L14_1 : ∀ (n : Nat) (y2_14 : Int32) (z_nearest_14 : Nat → Int32) (o : (Nat → Int32)) (H : Heap) (locs : List Loc) (ls : Array Slot), f_X9_sit_14 v_bench_scene_seats v_bench_apart x1 n y2_14 z_nearest_14 = some o → va_P D vwCl [(a_t, .inr (9, [.ref a_bench, .ref a_nearest, .int (v_set ||| ((1 : Int32) <<< (x1 &&& 31))), .int v_bear])), (a_bench, .inr (0, [.ref a_bench_scene, .ref a_bench_apart, .ref a_bench_clash, .ref a_bench_neighbours])), (a_bench_scene, .inr (7, [.ref a_bench_scene_steps, .ref a_bench_scene_worths, .ref a_bench_scene_comers, .ref a_bench_scene_seen, .ref a_bench_scene_seenLengths, .int v_bench_scene_seats, .int v_bench_scene_bear, .int v_bench_scene_comerCount, .int v_bench_scene_seenRows])), (a_nearest, eI cI 12 z_nearest_14), (a_bench_apart, eI cI 144 v_bench_apart)] H → va_S A s.heap H locs → lv_has ls 3 [(0, .ref a_t), (1, .int x1), (2, .int y2_14)] → (∀ (H : Heap) (locs : List Loc) (ls : Array Slot), va_P D vwCl [(a_t, .inr (9, [.ref a_bench, .ref a_nearest, .int (v_set ||| ((1 : Int32) <<< (x1 &&& 31))), .int v_bear])), (a_bench, .inr (0, [.ref a_bench_scene, .ref a_bench_apart, .ref a_bench_clash, .ref a_bench_neighbours])), (a_bench_scene, .inr (7, [.ref a_bench_scene_steps, .ref a_bench_scene_worths, .ref a_bench_scene_comers, .ref a_bench_scene_seen, .ref a_bench_scene_seenLengths, .int v_bench_scene_seats, .int v_bench_scene_bear, .int v_bench_scene_comerCount, .int v_bench_scene_seenRows])), (a_nearest, eI cI 12 o), (a_bench_apart, eI cI 144 v_bench_apart)] H → va_S A s.heap H locs → lv_has ls 3 [] → W p l e { frames := 1, cells := 0, slots := 0, locals := 22 } s m args below meth c H locs 0 0 Q (F0 m 58 ls [])) → W p l e { frames := 1, cells := 0, slots := 0, locals := 22 } s m args below meth c H locs 0 0 Q (F0 m 14 ls []) := by
    intro n
    induction n with
    | zero => intro y2_14 z_nearest_14 o H locs ls hf; exact (ob_n hf).elim
    | succ n ih =>
      intro y2_14 z_nearest_14 o H locs ls hf hP hS hl kk
      rw [f_X9_sit_14_s] at hf
      refine lv_iload_n hx hb dX9_sit_14 rfl (lv_at hl 2 rfl) ?_
      refine lv_aload_n hx hb dX9_sit_15 rfl (lv_at hl 0 rfl) ?_
      refine gf_X9_9 Cx hP 0 rfl rfl dX9_sit_16 ?_
      refine gf_X9_23 Cx hP 1 rfl rfl dX9_sit_19 ?_
      refine gf_X9_47 Cx hP 2 rfl rfl dX9_sit_22 ?_
      refine lv_icmp_ge (tgt := 58) hx hb dX9_sit_25 (by decide) (fun c2 => ?_) (fun c2 => ?_)
      · have hf := ob_t c2 hf
        obtain rfl := Option.some.inj hf
        exact kk _ _ _ hP hS (lv_sub hl [] rfl)
      · have hf := ob_f c2 hf
        refine lv_aload_n hx hb dX9_sit_28 rfl (lv_at hl 0 rfl) ?_
        refine gf_X9_15 Cx hP 0 rfl rfl dX9_sit_29 ?_
        refine lv_iload_n hx hb dX9_sit_32 rfl (lv_at hl 2 rfl) ?_
        refine lv_aload_n hx hb dX9_sit_33 rfl (lv_at hl 0 rfl) ?_
        refine gf_X9_15 Cx hP 0 rfl rfl dX9_sit_34 ?_
        refine lv_iload_n hx hb dX9_sit_37 rfl (lv_at hl 2 rfl) ?_
        obtain ⟨u3, hu3, hf⟩ := ob_b hf
        refine ba_iald Cx hP 3 rfl hu3 dX9_sit_38 ?_
        refine lv_aload_n hx hb dX9_sit_39 rfl (lv_at hl 0 rfl) ?_
        refine gf_X9_9 Cx hP 0 rfl rfl dX9_sit_40 ?_
        refine lv_iload_n hx hb dX9_sit_43 rfl (lv_at hl 1 rfl) ?_
        refine lv_iload_n hx hb dX9_sit_44 rfl (lv_at hl 2 rfl) ?_
        obtain ⟨u4, hu4, hf⟩ := ob_b hf
        refine iv_X9_50 (As := [.int x1, .int y2_14]) (rest := [.int u3, .int y2_14, .ref a_nearest]) (is := [1, 4]) (q0 := 1) (X' := [(a_t, .inr (9, [.ref a_bench, .ref a_nearest, .int (v_set ||| ((1 : Int32) <<< (x1 &&& 31))), .int v_bear])), (a_bench, .inr (0, [.ref a_bench_scene, .ref a_bench_apart, .ref a_bench_clash, .ref a_bench_neighbours])), (a_bench_scene, .inr (7, [.ref a_bench_scene_steps, .ref a_bench_scene_worths, .ref a_bench_scene_comers, .ref a_bench_scene_seen, .ref a_bench_scene_seenLengths, .int v_bench_scene_seats, .int v_bench_scene_bear, .int v_bench_scene_comerCount, .int v_bench_scene_seenRows])), (a_nearest, eI cI 12 z_nearest_14), (a_bench_apart, eI cI 144 v_bench_apart)]) Cx (c_X0_farness l D cI cJ cZ cO a_bench a_bench_scene a_bench_apart a_bench_clash a_bench_neighbours v_bench_apart x1 y2_14 u4 hu4) hP hS rfl rfl rfl rfl rfl rfl rfl hl.1 (Nat.le_of_ble_eq_true rfl) dX9_sit_45 rfl rfl ⟨Nat.le_of_ble_eq_true rfl, Nat.le_of_ble_eq_true rfl⟩ ⟨Nat.zero_le _, Nat.zero_le _⟩ rfl (fun H locs hP hS => ?_)
        refine ba_mmin Cx (hts _ kw_418) hl.1 (Nat.le_of_ble_eq_true rfl) (Nat.le_of_ble_eq_true rfl) (Nat.zero_le _) (Nat.zero_le _) dX9_sit_48 ?_
        obtain ⟨u5, hu5, hf⟩ := ob_b hf
        refine ba_iast (X' := [(a_t, .inr (9, [.ref a_bench, .ref a_nearest, .int (v_set ||| ((1 : Int32) <<< (x1 &&& 31))), .int v_bear])), (a_bench, .inr (0, [.ref a_bench_scene, .ref a_bench_apart, .ref a_bench_clash, .ref a_bench_neighbours])), (a_bench_scene, .inr (7, [.ref a_bench_scene_steps, .ref a_bench_scene_worths, .ref a_bench_scene_comers, .ref a_bench_scene_seen, .ref a_bench_scene_seenLengths, .int v_bench_scene_seats, .int v_bench_scene_bear, .int v_bench_scene_comerCount, .int v_bench_scene_seenRows])), (a_nearest, eI cI 12 u5), (a_bench_apart, eI cI 144 v_bench_apart)]) Cx hP hS rfl 3 rfl rfl hu5 dX9_sit_51 (fun H locs hP hS => ?_)
        refine lv_iinc (v := (y2_14 + 1)) (lv' := [(2, .int (y2_14 + 1)), (0, .ref a_t), (1, .int x1)]) hx hb dX9_sit_52 hl (k := 2) rfl rfl (by decide) rfl (fun ls hl => ?_)
        refine lv_goto (tgt := 14) hx hb dX9_sit_55 (by decide) ?_
        exact ih (y2_14 + 1) u5 _ _ _ _ hf hP hS (lv_sub hl [1, 2, 0] rfl) kk
  obtain ⟨u6, hu6, hf⟩ := ob_b hf
  refine L14_1 FU (0 : Int32) v_nearest u6 _ _ _ hu6 hP hS (lv_sub hl [1, 2, 0] rfl) ?_
  intro H locs ls hP hS hl
  obtain rfl := Option.some.inj hf
  exact ret _ _ _ _ dX9_sit_58 hP hS

def f_X2_sitInTurn_8 (v_p1_bench_scene_seats : Int32) (v_count : Int32) (v_lesser : Nat → Int32) (v_greater : Nat → Int32) (v_p1_bench_apart : Nat → Int32) (u1 : Int32 × Int32 × (Nat → Int32)) : Nat → Int32 → Int32 → Int32 → (Nat → Int32) → Option (Int32 × Int32 × (Nat → Int32))
  | 0, _, _, _, _ => none
  | n + 1, y2_8, y3_8, z_p1_set_8, z_p1_nearest_8 =>
  if v_count ≤ y3_8 then
  some (y2_8, z_p1_set_8, z_p1_nearest_8)
  else
  (aget 12 v_lesser y3_8).bind (fun u4 =>
  (f_X9_isOpen u1.2.1 z_p1_nearest_8 u4).bind (fun u5 =>
  (if u5 = 0 then
  some (y2_8, z_p1_set_8, z_p1_nearest_8)
  else
  (aget 12 v_greater y3_8).bind (fun u9 =>
  (f_X9_isOpen u1.2.1 z_p1_nearest_8 u9).bind (fun u10 =>
  if u10 = 0 then
  some (y2_8, z_p1_set_8, z_p1_nearest_8)
  else
  (aget 12 v_lesser y3_8).bind (fun u12 =>
  (f_X9_sit z_p1_set_8 v_p1_bench_scene_seats z_p1_nearest_8 v_p1_bench_apart u12).bind (fun u13 =>
  (aget 12 v_greater y3_8).bind (fun u14 =>
  (f_X9_sit u13.1 v_p1_bench_scene_seats u13.2 v_p1_bench_apart u14).bind (fun u15 =>
  some ((y2_8 + 1), u15.1, u15.2)))))))).bind (fun w6 =>
  f_X2_sitInTurn_8 v_p1_bench_scene_seats v_count v_lesser v_greater v_p1_bench_apart u1 n w6.1 (y3_8 + 1) w6.2.1 w6.2.2)))
theorem f_X2_sitInTurn_8_s (v_p1_bench_scene_seats : Int32) (v_count : Int32) (v_lesser : Nat → Int32) (v_greater : Nat → Int32) (v_p1_bench_apart : Nat → Int32) (u1 : Int32 × Int32 × (Nat → Int32)) (n : Nat) (y2_8 : Int32) (y3_8 : Int32) (z_p1_set_8 : Int32) (z_p1_nearest_8 : Nat → Int32) : f_X2_sitInTurn_8 v_p1_bench_scene_seats v_count v_lesser v_greater v_p1_bench_apart u1 (n + 1) y2_8 y3_8 z_p1_set_8 z_p1_nearest_8 =
  (if v_count ≤ y3_8 then
  some (y2_8, z_p1_set_8, z_p1_nearest_8)
  else
  (aget 12 v_lesser y3_8).bind (fun u4 =>
  (f_X9_isOpen u1.2.1 z_p1_nearest_8 u4).bind (fun u5 =>
  (if u5 = 0 then
  some (y2_8, z_p1_set_8, z_p1_nearest_8)
  else
  (aget 12 v_greater y3_8).bind (fun u9 =>
  (f_X9_isOpen u1.2.1 z_p1_nearest_8 u9).bind (fun u10 =>
  if u10 = 0 then
  some (y2_8, z_p1_set_8, z_p1_nearest_8)
  else
  (aget 12 v_lesser y3_8).bind (fun u12 =>
  (f_X9_sit z_p1_set_8 v_p1_bench_scene_seats z_p1_nearest_8 v_p1_bench_apart u12).bind (fun u13 =>
  (aget 12 v_greater y3_8).bind (fun u14 =>
  (f_X9_sit u13.1 v_p1_bench_scene_seats u13.2 v_p1_bench_apart u14).bind (fun u15 =>
  some ((y2_8 + 1), u15.1, u15.2)))))))).bind (fun w6 =>
  f_X2_sitInTurn_8 v_p1_bench_scene_seats v_count v_lesser v_greater v_p1_bench_apart u1 n w6.1 (y3_8 + 1) w6.2.1 w6.2.2)))) := rfl
def f_X2_sitInTurn (v_p1_bench_scene_seats : Int32) (v_p1_bench_scene_bear : Int32) (v_p1_nearest : Nat → Int32) (v_count : Int32) (v_lesser : Nat → Int32) (v_greater : Nat → Int32) (v_p1_bench_apart : Nat → Int32) : Option (Int32 × Int32 × Int32 × (Nat → Int32)) :=
  (f_X9_leave v_p1_bench_scene_bear v_p1_nearest).bind (fun u1 =>
  (f_X2_sitInTurn_8 v_p1_bench_scene_seats v_count v_lesser v_greater v_p1_bench_apart u1 FU (0 : Int32) (0 : Int32) u1.1 u1.2.2).bind (fun u16 =>
  some (u16.1, u16.2.1, u1.2.1, u16.2.2)))
set_option maxHeartbeats 4000000 in
set_option maxRecDepth 100000 in
theorem c_X2_sitInTurn (l : Launch) (D : va_G) (cI cJ cZ cO : ClassId) (a_p1 a_p1_bench a_p1_nearest a_p1_bench_scene a_p1_bench_apart a_p1_bench_clash a_p1_bench_neighbours a_p1_bench_scene_steps a_p1_bench_scene_worths a_p1_bench_scene_comers a_p1_bench_scene_seen a_p1_bench_scene_seenLengths a_t a_lesser a_greater a_tooNear a_clash : Nat) (v_p1_set : Int32) (v_p1_bear : Int32) (v_p1_bench_scene_seats : Int32) (v_p1_bench_scene_bear : Int32) (v_p1_bench_scene_comerCount : Int32) (v_p1_bench_scene_seenRows : Int32) (v_p1_nearest : Nat → Int32) (v_count : Int32) (v_lesser : Nat → Int32) (v_greater : Nat → Int32) (v_p1_bench_apart : Nat → Int32) (out : Int32 × Int32 × Int32 × (Nat → Int32)) (hf : f_X2_sitInTurn v_p1_bench_scene_seats v_p1_bench_scene_bear v_p1_nearest v_count v_lesser v_greater v_p1_bench_apart = some out) : MetR l yX2_sitInTurn (Cond.code yX2_sitInTurn cX2_sitInTurn 4 (some .int) :: tbG) { frames := 2, cells := 0, slots := 0, locals := 44 } D (tyL cI cJ cZ cO) [.ref a_t, .ref a_p1] [(a_p1, .inr (9, [.ref a_p1_bench, .ref a_p1_nearest, .int v_p1_set, .int v_p1_bear])), (a_p1_bench, .inr (0, [.ref a_p1_bench_scene, .ref a_p1_bench_apart, .ref a_p1_bench_clash, .ref a_p1_bench_neighbours])), (a_p1_bench_scene, .inr (7, [.ref a_p1_bench_scene_steps, .ref a_p1_bench_scene_worths, .ref a_p1_bench_scene_comers, .ref a_p1_bench_scene_seen, .ref a_p1_bench_scene_seenLengths, .int v_p1_bench_scene_seats, .int v_p1_bench_scene_bear, .int v_p1_bench_scene_comerCount, .int v_p1_bench_scene_seenRows])), (a_p1_nearest, eI cI 12 v_p1_nearest), (a_t, .inr (2, [.ref a_lesser, .ref a_greater, .ref a_tooNear, .ref a_clash, .int v_count])), (a_lesser, eI cI 12 v_lesser), (a_greater, eI cI 12 v_greater), (a_p1_bench_apart, eI cI 144 v_p1_bench_apart)] (some (.int out.1)) [(a_p1, .inr (9, [.ref a_p1_bench, .ref a_p1_nearest, .int out.2.1, .int out.2.2.1])), (a_p1_bench, .inr (0, [.ref a_p1_bench_scene, .ref a_p1_bench_apart, .ref a_p1_bench_clash, .ref a_p1_bench_neighbours])), (a_p1_bench_scene, .inr (7, [.ref a_p1_bench_scene_steps, .ref a_p1_bench_scene_worths, .ref a_p1_bench_scene_comers, .ref a_p1_bench_scene_seen, .ref a_p1_bench_scene_seenLengths, .int v_p1_bench_scene_seats, .int v_p1_bench_scene_bear, .int v_p1_bench_scene_comerCount, .int v_p1_bench_scene_seenRows])), (a_p1_nearest, eI cI 12 out.2.2.2), (a_t, .inr (2, [.ref a_lesser, .ref a_greater, .ref a_tooNear, .ref a_clash, .int v_count])), (a_lesser, eI cI 12 v_lesser), (a_greater, eI cI 12 v_greater), (a_p1_bench_apart, eI cI 144 v_p1_bench_apart)] := by
  refine ba_ofI RX2 [(0, .ref a_t), (1, .ref a_p1)] (by decide +kernel) rfl (Nat.le_of_ble_eq_true rfl) rfl ?_
  intro p e s m args below meth c Q A Cx hP ret ls hl
  obtain ⟨⟨hx, hb, hml, hown, hts⟩, hK, hD, hA⟩ := id Cx
  have hS : va_S A s.heap s.heap [] := va_S.rf
  unfold f_X2_sitInTurn at hf
  refine lv_iconst (v := 0) hx hb dX2_sitInTurn_0 (by decide) ?_
  refine lv_istore_n (lv' := [(2, .int (0 : Int32)), (0, .ref a_t), (1, .ref a_p1)]) hx hb dX2_sitInTurn_1 rfl hl (by decide) rfl (fun ls hl => ?_)
  refine lv_aload_n hx hb dX2_sitInTurn_2 rfl (lv_at hl 2 rfl) ?_
  obtain ⟨u1, hu1, hf⟩ := ob_b hf
  refine iv_X2_44 (As := []) (rest := []) (is := [0, 1, 2, 3]) (q0 := 0) (X' := [(a_p1, .inr (9, [.ref a_p1_bench, .ref a_p1_nearest, .int u1.1, .int u1.2.1])), (a_p1_bench, .inr (0, [.ref a_p1_bench_scene, .ref a_p1_bench_apart, .ref a_p1_bench_clash, .ref a_p1_bench_neighbours])), (a_p1_bench_scene, .inr (7, [.ref a_p1_bench_scene_steps, .ref a_p1_bench_scene_worths, .ref a_p1_bench_scene_comers, .ref a_p1_bench_scene_seen, .ref a_p1_bench_scene_seenLengths, .int v_p1_bench_scene_seats, .int v_p1_bench_scene_bear, .int v_p1_bench_scene_comerCount, .int v_p1_bench_scene_seenRows])), (a_p1_nearest, eI cI 12 u1.2.2), (a_t, .inr (2, [.ref a_lesser, .ref a_greater, .ref a_tooNear, .ref a_clash, .int v_count])), (a_lesser, eI cI 12 v_lesser), (a_greater, eI cI 12 v_greater), (a_p1_bench_apart, eI cI 144 v_p1_bench_apart)]) Cx (c_X9_leave l D cI cJ cZ cO a_p1 a_p1_bench a_p1_nearest a_p1_bench_scene a_p1_bench_apart a_p1_bench_clash a_p1_bench_neighbours a_p1_bench_scene_steps a_p1_bench_scene_worths a_p1_bench_scene_comers a_p1_bench_scene_seen a_p1_bench_scene_seenLengths v_p1_set v_p1_bear v_p1_bench_scene_seats v_p1_bench_scene_bear v_p1_bench_scene_comerCount v_p1_bench_scene_seenRows v_p1_nearest u1 hu1) hP hS rfl rfl rfl rfl rfl rfl rfl hl.1 (Nat.le_of_ble_eq_true rfl) dX2_sitInTurn_3 rfl rfl ⟨Nat.le_of_ble_eq_true rfl, Nat.le_of_ble_eq_true rfl⟩ ⟨Nat.zero_le _, Nat.zero_le _⟩ rfl (fun H locs hP hS => ?_)
  refine lv_iconst (v := 0) hx hb dX2_sitInTurn_6 (by decide) ?_
  refine lv_istore_n (lv' := [(3, .int (0 : Int32)), (2, .int (0 : Int32)), (0, .ref a_t), (1, .ref a_p1)]) hx hb dX2_sitInTurn_7 rfl hl (by decide) rfl (fun ls hl => ?_)
  have L8_2 : ∀ (n : Nat) (y2_8 : Int32) (y3_8 : Int32) (z_p1_set_8 : Int32) (z_p1_nearest_8 : Nat → Int32) (o : Int32 × Int32 × (Nat → Int32)) (H : Heap) (locs : List Loc) (ls : Array Slot), f_X2_sitInTurn_8 v_p1_bench_scene_seats v_count v_lesser v_greater v_p1_bench_apart u1 n y2_8 y3_8 z_p1_set_8 z_p1_nearest_8 = some o → va_P D vwCl [(a_p1, .inr (9, [.ref a_p1_bench, .ref a_p1_nearest, .int z_p1_set_8, .int u1.2.1])), (a_p1_bench, .inr (0, [.ref a_p1_bench_scene, .ref a_p1_bench_apart, .ref a_p1_bench_clash, .ref a_p1_bench_neighbours])), (a_p1_bench_scene, .inr (7, [.ref a_p1_bench_scene_steps, .ref a_p1_bench_scene_worths, .ref a_p1_bench_scene_comers, .ref a_p1_bench_scene_seen, .ref a_p1_bench_scene_seenLengths, .int v_p1_bench_scene_seats, .int v_p1_bench_scene_bear, .int v_p1_bench_scene_comerCount, .int v_p1_bench_scene_seenRows])), (a_p1_nearest, eI cI 12 z_p1_nearest_8), (a_t, .inr (2, [.ref a_lesser, .ref a_greater, .ref a_tooNear, .ref a_clash, .int v_count])), (a_lesser, eI cI 12 v_lesser), (a_greater, eI cI 12 v_greater), (a_p1_bench_apart, eI cI 144 v_p1_bench_apart)] H → va_S A s.heap H locs → lv_has ls 4 [(0, .ref a_t), (1, .ref a_p1), (2, .int y2_8), (3, .int y3_8)] → (∀ (H : Heap) (locs : List Loc) (ls : Array Slot), va_P D vwCl [(a_p1, .inr (9, [.ref a_p1_bench, .ref a_p1_nearest, .int o.2.1, .int u1.2.1])), (a_p1_bench, .inr (0, [.ref a_p1_bench_scene, .ref a_p1_bench_apart, .ref a_p1_bench_clash, .ref a_p1_bench_neighbours])), (a_p1_bench_scene, .inr (7, [.ref a_p1_bench_scene_steps, .ref a_p1_bench_scene_worths, .ref a_p1_bench_scene_comers, .ref a_p1_bench_scene_seen, .ref a_p1_bench_scene_seenLengths, .int v_p1_bench_scene_seats, .int v_p1_bench_scene_bear, .int v_p1_bench_scene_comerCount, .int v_p1_bench_scene_seenRows])), (a_p1_nearest, eI cI 12 o.2.2), (a_t, .inr (2, [.ref a_lesser, .ref a_greater, .ref a_tooNear, .ref a_clash, .int v_count])), (a_lesser, eI cI 12 v_lesser), (a_greater, eI cI 12 v_greater), (a_p1_bench_apart, eI cI 144 v_p1_bench_apart)] H → va_S A s.heap H locs → lv_has ls 4 [(2, .int o.1)] → W p l e { frames := 2, cells := 0, slots := 0, locals := 44 } s m args below meth c H locs 0 0 Q (F0 m 71 ls [])) → W p l e { frames := 2, cells := 0, slots := 0, locals := 44 } s m args below meth c H locs 0 0 Q (F0 m 8 ls []) := by
    intro n
    induction n with
    | zero => intro y2_8 y3_8 z_p1_set_8 z_p1_nearest_8 o H locs ls hf; exact (ob_n hf).elim
    | succ n ih =>
      intro y2_8 y3_8 z_p1_set_8 z_p1_nearest_8 o H locs ls hf hP hS hl kk
      rw [f_X2_sitInTurn_8_s] at hf
      refine lv_iload_n hx hb dX2_sitInTurn_8 rfl (lv_at hl 3 rfl) ?_
      refine lv_aload_n hx hb dX2_sitInTurn_9 rfl (lv_at hl 0 rfl) ?_
      refine gf_X2_24 Cx hP 4 rfl rfl dX2_sitInTurn_10 ?_
      refine lv_icmp_ge (tgt := 71) hx hb dX2_sitInTurn_13 (by decide) (fun c3 => ?_) (fun c3 => ?_)
      · have hf := ob_t c3 hf
        obtain rfl := Option.some.inj hf
        exact kk _ _ _ hP hS (lv_sub hl [2] rfl)
      · have hf := ob_f c3 hf
        refine lv_aload_n hx hb dX2_sitInTurn_16 rfl (lv_at hl 1 rfl) ?_
        refine lv_aload_n hx hb dX2_sitInTurn_17 rfl (lv_at hl 0 rfl) ?_
        refine gf_X2_9 Cx hP 4 rfl rfl dX2_sitInTurn_18 ?_
        refine lv_iload_n hx hb dX2_sitInTurn_21 rfl (lv_at hl 3 rfl) ?_
        obtain ⟨u4, hu4, hf⟩ := ob_b hf
        refine ba_iald Cx hP 5 rfl hu4 dX2_sitInTurn_22 ?_
        obtain ⟨u5, hu5, hf⟩ := ob_b hf
        refine iv_X2_49 (As := [.int u4]) (rest := []) (is := [0, 3]) (q0 := 0) (X' := [(a_p1, .inr (9, [.ref a_p1_bench, .ref a_p1_nearest, .int z_p1_set_8, .int u1.2.1])), (a_p1_bench, .inr (0, [.ref a_p1_bench_scene, .ref a_p1_bench_apart, .ref a_p1_bench_clash, .ref a_p1_bench_neighbours])), (a_p1_bench_scene, .inr (7, [.ref a_p1_bench_scene_steps, .ref a_p1_bench_scene_worths, .ref a_p1_bench_scene_comers, .ref a_p1_bench_scene_seen, .ref a_p1_bench_scene_seenLengths, .int v_p1_bench_scene_seats, .int v_p1_bench_scene_bear, .int v_p1_bench_scene_comerCount, .int v_p1_bench_scene_seenRows])), (a_p1_nearest, eI cI 12 z_p1_nearest_8), (a_t, .inr (2, [.ref a_lesser, .ref a_greater, .ref a_tooNear, .ref a_clash, .int v_count])), (a_lesser, eI cI 12 v_lesser), (a_greater, eI cI 12 v_greater), (a_p1_bench_apart, eI cI 144 v_p1_bench_apart)]) Cx (c_X9_isOpen l D cI cJ cZ cO a_p1 a_p1_bench a_p1_nearest z_p1_set_8 u1.2.1 z_p1_nearest_8 u4 u5 hu5) hP hS rfl rfl rfl rfl rfl rfl rfl hl.1 (Nat.le_of_ble_eq_true rfl) dX2_sitInTurn_23 rfl rfl ⟨Nat.le_of_ble_eq_true rfl, Nat.le_of_ble_eq_true rfl⟩ ⟨Nat.zero_le _, Nat.zero_le _⟩ rfl (fun H locs hP hS => ?_)
        refine ob_J (P := fun w6 => ∀ (H : Heap) (locs : List Loc) (ls : Array Slot), va_P D vwCl [(a_p1, .inr (9, [.ref a_p1_bench, .ref a_p1_nearest, .int w6.2.1, .int u1.2.1])), (a_p1_bench, .inr (0, [.ref a_p1_bench_scene, .ref a_p1_bench_apart, .ref a_p1_bench_clash, .ref a_p1_bench_neighbours])), (a_p1_bench_scene, .inr (7, [.ref a_p1_bench_scene_steps, .ref a_p1_bench_scene_worths, .ref a_p1_bench_scene_comers, .ref a_p1_bench_scene_seen, .ref a_p1_bench_scene_seenLengths, .int v_p1_bench_scene_seats, .int v_p1_bench_scene_bear, .int v_p1_bench_scene_comerCount, .int v_p1_bench_scene_seenRows])), (a_p1_nearest, eI cI 12 w6.2.2), (a_t, .inr (2, [.ref a_lesser, .ref a_greater, .ref a_tooNear, .ref a_clash, .int v_count])), (a_lesser, eI cI 12 v_lesser), (a_greater, eI cI 12 v_greater), (a_p1_bench_apart, eI cI 144 v_p1_bench_apart)] H → va_S A s.heap H locs → lv_has ls 4 [(0, .ref a_t), (1, .ref a_p1), (2, .int w6.1), (3, .int y3_8)] → W p l e { frames := 2, cells := 0, slots := 0, locals := 44 } s m args below meth c H locs 0 0 Q (F0 m 65 ls [])) hf ?_ ?_
        · intro w6 hf H locs ls hP hS hl
          refine lv_iinc (v := (y3_8 + 1)) (lv' := [(3, .int (y3_8 + 1)), (0, .ref a_t), (1, .ref a_p1), (2, .int w6.1)]) hx hb dX2_sitInTurn_65 hl (k := 3) rfl rfl (by decide) rfl (fun ls hl => ?_)
          refine lv_goto (tgt := 8) hx hb dX2_sitInTurn_68 (by decide) ?_
          exact ih w6.1 (y3_8 + 1) w6.2.1 w6.2.2 _ _ _ _ hf hP hS (lv_sub hl [1, 2, 3, 0] rfl) kk
        · intro J65_7 hf
          refine lv_if_eq (tgt := 65) hx hb dX2_sitInTurn_26 (by decide) (fun c8 => ?_) (fun c8 => ?_)
          · have hf := ob_tk c8 hf
            exact J65_7 (y2_8, z_p1_set_8, z_p1_nearest_8) hf _ _ _ hP hS (lv_sub hl [0, 1, 2, 3] rfl)
          · have hf := ob_fk c8 hf
            refine lv_aload_n hx hb dX2_sitInTurn_29 rfl (lv_at hl 1 rfl) ?_
            refine lv_aload_n hx hb dX2_sitInTurn_30 rfl (lv_at hl 0 rfl) ?_
            refine gf_X2_15 Cx hP 4 rfl rfl dX2_sitInTurn_31 ?_
            refine lv_iload_n hx hb dX2_sitInTurn_34 rfl (lv_at hl 3 rfl) ?_
            obtain ⟨u9, hu9, hf⟩ := ob_bk hf
            refine ba_iald Cx hP 6 rfl hu9 dX2_sitInTurn_35 ?_
            obtain ⟨u10, hu10, hf⟩ := ob_bk hf
            refine iv_X2_49 (As := [.int u9]) (rest := []) (is := [0, 3]) (q0 := 0) (X' := [(a_p1, .inr (9, [.ref a_p1_bench, .ref a_p1_nearest, .int z_p1_set_8, .int u1.2.1])), (a_p1_bench, .inr (0, [.ref a_p1_bench_scene, .ref a_p1_bench_apart, .ref a_p1_bench_clash, .ref a_p1_bench_neighbours])), (a_p1_bench_scene, .inr (7, [.ref a_p1_bench_scene_steps, .ref a_p1_bench_scene_worths, .ref a_p1_bench_scene_comers, .ref a_p1_bench_scene_seen, .ref a_p1_bench_scene_seenLengths, .int v_p1_bench_scene_seats, .int v_p1_bench_scene_bear, .int v_p1_bench_scene_comerCount, .int v_p1_bench_scene_seenRows])), (a_p1_nearest, eI cI 12 z_p1_nearest_8), (a_t, .inr (2, [.ref a_lesser, .ref a_greater, .ref a_tooNear, .ref a_clash, .int v_count])), (a_lesser, eI cI 12 v_lesser), (a_greater, eI cI 12 v_greater), (a_p1_bench_apart, eI cI 144 v_p1_bench_apart)]) Cx (c_X9_isOpen l D cI cJ cZ cO a_p1 a_p1_bench a_p1_nearest z_p1_set_8 u1.2.1 z_p1_nearest_8 u9 u10 hu10) hP hS rfl rfl rfl rfl rfl rfl rfl hl.1 (Nat.le_of_ble_eq_true rfl) dX2_sitInTurn_36 rfl rfl ⟨Nat.le_of_ble_eq_true rfl, Nat.le_of_ble_eq_true rfl⟩ ⟨Nat.zero_le _, Nat.zero_le _⟩ rfl (fun H locs hP hS => ?_)
            refine lv_if_eq (tgt := 65) hx hb dX2_sitInTurn_39 (by decide) (fun c11 => ?_) (fun c11 => ?_)
            · have hf := ob_tk c11 hf
              exact J65_7 (y2_8, z_p1_set_8, z_p1_nearest_8) hf _ _ _ hP hS (lv_sub hl [0, 1, 2, 3] rfl)
            · have hf := ob_fk c11 hf
              refine lv_aload_n hx hb dX2_sitInTurn_42 rfl (lv_at hl 1 rfl) ?_
              refine lv_aload_n hx hb dX2_sitInTurn_43 rfl (lv_at hl 0 rfl) ?_
              refine gf_X2_9 Cx hP 4 rfl rfl dX2_sitInTurn_44 ?_
              refine lv_iload_n hx hb dX2_sitInTurn_47 rfl (lv_at hl 3 rfl) ?_
              obtain ⟨u12, hu12, hf⟩ := ob_bk hf
              refine ba_iald Cx hP 5 rfl hu12 dX2_sitInTurn_48 ?_
              obtain ⟨u13, hu13, hf⟩ := ob_bk hf
              refine iv_X2_53 (As := [.int u12]) (rest := []) (is := [0, 1, 2, 3, 7]) (q0 := 0) (X' := [(a_p1, .inr (9, [.ref a_p1_bench, .ref a_p1_nearest, .int u13.1, .int u1.2.1])), (a_p1_bench, .inr (0, [.ref a_p1_bench_scene, .ref a_p1_bench_apart, .ref a_p1_bench_clash, .ref a_p1_bench_neighbours])), (a_p1_bench_scene, .inr (7, [.ref a_p1_bench_scene_steps, .ref a_p1_bench_scene_worths, .ref a_p1_bench_scene_comers, .ref a_p1_bench_scene_seen, .ref a_p1_bench_scene_seenLengths, .int v_p1_bench_scene_seats, .int v_p1_bench_scene_bear, .int v_p1_bench_scene_comerCount, .int v_p1_bench_scene_seenRows])), (a_p1_nearest, eI cI 12 u13.2), (a_t, .inr (2, [.ref a_lesser, .ref a_greater, .ref a_tooNear, .ref a_clash, .int v_count])), (a_lesser, eI cI 12 v_lesser), (a_greater, eI cI 12 v_greater), (a_p1_bench_apart, eI cI 144 v_p1_bench_apart)]) Cx (c_X9_sit l D cI cJ cZ cO a_p1 a_p1_bench a_p1_nearest a_p1_bench_scene a_p1_bench_apart a_p1_bench_clash a_p1_bench_neighbours a_p1_bench_scene_steps a_p1_bench_scene_worths a_p1_bench_scene_comers a_p1_bench_scene_seen a_p1_bench_scene_seenLengths z_p1_set_8 u1.2.1 v_p1_bench_scene_seats v_p1_bench_scene_bear v_p1_bench_scene_comerCount v_p1_bench_scene_seenRows z_p1_nearest_8 v_p1_bench_apart u12 u13 hu13) hP hS rfl rfl rfl rfl rfl rfl rfl hl.1 (Nat.le_of_ble_eq_true rfl) dX2_sitInTurn_49 rfl rfl ⟨Nat.le_of_ble_eq_true rfl, Nat.le_of_ble_eq_true rfl⟩ ⟨Nat.zero_le _, Nat.zero_le _⟩ rfl (fun H locs hP hS => ?_)
              refine lv_aload_n hx hb dX2_sitInTurn_52 rfl (lv_at hl 1 rfl) ?_
              refine lv_aload_n hx hb dX2_sitInTurn_53 rfl (lv_at hl 0 rfl) ?_
              refine gf_X2_15 Cx hP 4 rfl rfl dX2_sitInTurn_54 ?_
              refine lv_iload_n hx hb dX2_sitInTurn_57 rfl (lv_at hl 3 rfl) ?_
              obtain ⟨u14, hu14, hf⟩ := ob_bk hf
              refine ba_iald Cx hP 6 rfl hu14 dX2_sitInTurn_58 ?_
              obtain ⟨u15, hu15, hf⟩ := ob_bk hf
              refine iv_X2_53 (As := [.int u14]) (rest := []) (is := [0, 1, 2, 3, 7]) (q0 := 0) (X' := [(a_p1, .inr (9, [.ref a_p1_bench, .ref a_p1_nearest, .int u15.1, .int u1.2.1])), (a_p1_bench, .inr (0, [.ref a_p1_bench_scene, .ref a_p1_bench_apart, .ref a_p1_bench_clash, .ref a_p1_bench_neighbours])), (a_p1_bench_scene, .inr (7, [.ref a_p1_bench_scene_steps, .ref a_p1_bench_scene_worths, .ref a_p1_bench_scene_comers, .ref a_p1_bench_scene_seen, .ref a_p1_bench_scene_seenLengths, .int v_p1_bench_scene_seats, .int v_p1_bench_scene_bear, .int v_p1_bench_scene_comerCount, .int v_p1_bench_scene_seenRows])), (a_p1_nearest, eI cI 12 u15.2), (a_t, .inr (2, [.ref a_lesser, .ref a_greater, .ref a_tooNear, .ref a_clash, .int v_count])), (a_lesser, eI cI 12 v_lesser), (a_greater, eI cI 12 v_greater), (a_p1_bench_apart, eI cI 144 v_p1_bench_apart)]) Cx (c_X9_sit l D cI cJ cZ cO a_p1 a_p1_bench a_p1_nearest a_p1_bench_scene a_p1_bench_apart a_p1_bench_clash a_p1_bench_neighbours a_p1_bench_scene_steps a_p1_bench_scene_worths a_p1_bench_scene_comers a_p1_bench_scene_seen a_p1_bench_scene_seenLengths u13.1 u1.2.1 v_p1_bench_scene_seats v_p1_bench_scene_bear v_p1_bench_scene_comerCount v_p1_bench_scene_seenRows u13.2 v_p1_bench_apart u14 u15 hu15) hP hS rfl rfl rfl rfl rfl rfl rfl hl.1 (Nat.le_of_ble_eq_true rfl) dX2_sitInTurn_59 rfl rfl ⟨Nat.le_of_ble_eq_true rfl, Nat.le_of_ble_eq_true rfl⟩ ⟨Nat.zero_le _, Nat.zero_le _⟩ rfl (fun H locs hP hS => ?_)
              refine lv_iinc (v := (y2_8 + 1)) (lv' := [(2, .int (y2_8 + 1)), (0, .ref a_t), (1, .ref a_p1), (3, .int y3_8)]) hx hb dX2_sitInTurn_62 hl (k := 2) rfl rfl (by decide) rfl (fun ls hl => ?_)
              exact J65_7 ((y2_8 + 1), u15.1, u15.2) hf _ _ _ hP hS (lv_sub hl [1, 2, 0, 3] rfl)
  obtain ⟨u16, hu16, hf⟩ := ob_b hf
  refine L8_2 FU (0 : Int32) (0 : Int32) u1.1 u1.2.2 u16 _ _ _ hu16 hP hS (lv_sub hl [2, 3, 1, 0] rfl) ?_
  intro H locs ls hP hS hl
  refine lv_iload_n hx hb dX2_sitInTurn_71 rfl (lv_at hl 0 rfl) ?_
  obtain rfl := Option.some.inj hf
  exact ret _ _ _ _ dX2_sitInTurn_72 hP hS

def f_X8_mostIn_4 (v_size : Int32) (v_filled : Nat → Int32) : Nat → Int32 → Int32 → Option (Int32)
  | 0, _, _ => none
  | n + 1, y1_4, y2_4 =>
  if v_size ≤ y2_4 then
  some (y1_4)
  else
  (aget 4096 v_filled y2_4).bind (fun u3 =>
  (f_J6_bitCount_0f7a4 u3).bind (fun u4 =>
  f_X8_mostIn_4 v_size v_filled n (imax y1_4 u4) (y2_4 + 1)))
theorem f_X8_mostIn_4_s (v_size : Int32) (v_filled : Nat → Int32) (n : Nat) (y1_4 : Int32) (y2_4 : Int32) : f_X8_mostIn_4 v_size v_filled (n + 1) y1_4 y2_4 =
  (if v_size ≤ y2_4 then
  some (y1_4)
  else
  (aget 4096 v_filled y2_4).bind (fun u3 =>
  (f_J6_bitCount_0f7a4 u3).bind (fun u4 =>
  f_X8_mostIn_4 v_size v_filled n (imax y1_4 u4) (y2_4 + 1)))) := rfl
def f_X8_mostIn (v_size : Int32) (v_filled : Nat → Int32) : Option (Int32) :=
  (f_X8_mostIn_4 v_size v_filled FU (0 : Int32) (0 : Int32)).bind (fun u5 =>
  some (u5))
set_option maxHeartbeats 4000000 in
set_option maxRecDepth 100000 in
theorem c_X8_mostIn (l : Launch) (D : va_G) (cI cJ cZ cO : ClassId) (a_t a_filled a_open a_chance : Nat) (v_size : Int32) (v_places : Int32) (v_filled : Nat → Int32) (out : Int32) (hf : f_X8_mostIn v_size v_filled = some out) : MetR l yX8_mostIn (Cond.code yX8_mostIn cX8_mostIn 3 (some .int) :: tbG) { frames := 1, cells := 0, slots := 0, locals := 21 } D (tyL cI cJ cZ cO) [.ref a_t] [(a_t, .inr (8, [.ref a_filled, .ref a_open, .ref a_chance, .int v_size, .int v_places])), (a_filled, eI cI 4096 v_filled)] (some (.int out)) [(a_t, .inr (8, [.ref a_filled, .ref a_open, .ref a_chance, .int v_size, .int v_places])), (a_filled, eI cI 4096 v_filled)] := by
  refine ba_ofI RX8 [(0, .ref a_t)] (by decide +kernel) rfl (Nat.le_of_ble_eq_true rfl) rfl ?_
  intro p e s m args below meth c Q A Cx hP ret ls hl
  obtain ⟨⟨hx, hb, hml, hown, hts⟩, hK, hD, hA⟩ := id Cx
  have hS : va_S A s.heap s.heap [] := va_S.rf
  unfold f_X8_mostIn at hf
  refine lv_iconst (v := 0) hx hb dX8_mostIn_0 (by decide) ?_
  refine lv_istore_n (lv' := [(1, .int (0 : Int32)), (0, .ref a_t)]) hx hb dX8_mostIn_1 rfl hl (by decide) rfl (fun ls hl => ?_)
  refine lv_iconst (v := 0) hx hb dX8_mostIn_2 (by decide) ?_
  refine lv_istore_n (lv' := [(2, .int (0 : Int32)), (1, .int (0 : Int32)), (0, .ref a_t)]) hx hb dX8_mostIn_3 rfl hl (by decide) rfl (fun ls hl => ?_)
  have L4_1 : ∀ (n : Nat) (y1_4 : Int32) (y2_4 : Int32) (o : Int32) (H : Heap) (locs : List Loc) (ls : Array Slot), f_X8_mostIn_4 v_size v_filled n y1_4 y2_4 = some o → va_P D vwCl [(a_t, .inr (8, [.ref a_filled, .ref a_open, .ref a_chance, .int v_size, .int v_places])), (a_filled, eI cI 4096 v_filled)] H → va_S A s.heap H locs → lv_has ls 3 [(0, .ref a_t), (1, .int y1_4), (2, .int y2_4)] → (∀ (H : Heap) (locs : List Loc) (ls : Array Slot), va_P D vwCl [(a_t, .inr (8, [.ref a_filled, .ref a_open, .ref a_chance, .int v_size, .int v_places])), (a_filled, eI cI 4096 v_filled)] H → va_S A s.heap H locs → lv_has ls 3 [(1, .int o)] → W p l e { frames := 1, cells := 0, slots := 0, locals := 21 } s m args below meth c H locs 0 0 Q (F0 m 32 ls [])) → W p l e { frames := 1, cells := 0, slots := 0, locals := 21 } s m args below meth c H locs 0 0 Q (F0 m 4 ls []) := by
    intro n
    induction n with
    | zero => intro y1_4 y2_4 o H locs ls hf; exact (ob_n hf).elim
    | succ n ih =>
      intro y1_4 y2_4 o H locs ls hf hP hS hl kk
      rw [f_X8_mostIn_4_s] at hf
      refine lv_iload_n hx hb dX8_mostIn_4 rfl (lv_at hl 2 rfl) ?_
      refine lv_aload_n hx hb dX8_mostIn_5 rfl (lv_at hl 0 rfl) ?_
      refine gf_X8_21 Cx hP 0 rfl rfl dX8_mostIn_6 ?_
      refine lv_icmp_ge (tgt := 32) hx hb dX8_mostIn_9 (by decide) (fun c2 => ?_) (fun c2 => ?_)
      · have hf := ob_t c2 hf
        obtain rfl := Option.some.inj hf
        exact kk _ _ _ hP hS (lv_sub hl [1] rfl)
      · have hf := ob_f c2 hf
        refine lv_iload_n hx hb dX8_mostIn_12 rfl (lv_at hl 1 rfl) ?_
        refine lv_aload_n hx hb dX8_mostIn_13 rfl (lv_at hl 0 rfl) ?_
        refine gf_X8_9 Cx hP 0 rfl rfl dX8_mostIn_14 ?_
        refine lv_iload_n hx hb dX8_mostIn_17 rfl (lv_at hl 2 rfl) ?_
        obtain ⟨u3, hu3, hf⟩ := ob_b hf
        refine ba_iald Cx hP 1 rfl hu3 dX8_mostIn_18 ?_
        obtain ⟨u4, hu4, hf⟩ := ob_b hf
        refine iv_X8_28 (As := [.int u3]) (rest := [.int y1_4]) (is := []) (X' := [(a_t, .inr (8, [.ref a_filled, .ref a_open, .ref a_chance, .int v_size, .int v_places])), (a_filled, eI cI 4096 v_filled)]) Cx (c_J6_bitCount_0f7a4 l D cI cJ cZ cO  u3 u4 hu4) hP hS rfl rfl rfl rfl rfl rfl hl.1 (Nat.le_of_ble_eq_true rfl) dX8_mostIn_19 rfl rfl ⟨Nat.le_of_ble_eq_true rfl, Nat.le_of_ble_eq_true rfl⟩ ⟨Nat.zero_le _, Nat.zero_le _⟩ rfl (fun H locs hP hS => ?_)
        refine ba_mmax Cx (hts _ kw_575) hl.1 (Nat.le_of_ble_eq_true rfl) (Nat.le_of_ble_eq_true rfl) (Nat.zero_le _) (Nat.zero_le _) dX8_mostIn_22 ?_
        refine lv_istore_n (lv' := [(1, .int (imax y1_4 u4)), (0, .ref a_t), (2, .int y2_4)]) hx hb dX8_mostIn_25 rfl hl (by decide) rfl (fun ls hl => ?_)
        refine lv_iinc (v := (y2_4 + 1)) (lv' := [(2, .int (y2_4 + 1)), (1, .int (imax y1_4 u4)), (0, .ref a_t)]) hx hb dX8_mostIn_26 hl (k := 2) rfl rfl (by decide) rfl (fun ls hl => ?_)
        refine lv_goto (tgt := 4) hx hb dX8_mostIn_29 (by decide) ?_
        exact ih (imax y1_4 u4) (y2_4 + 1) _ _ _ _ hf hP hS (lv_sub hl [2, 1, 0] rfl) kk
  obtain ⟨u5, hu5, hf⟩ := ob_b hf
  refine L4_1 FU (0 : Int32) (0 : Int32) u5 _ _ _ hu5 hP hS (lv_sub hl [2, 1, 0] rfl) ?_
  intro H locs ls hP hS hl
  refine lv_iload_n hx hb dX8_mostIn_32 rfl (lv_at hl 0 rfl) ?_
  obtain rfl := Option.some.inj hf
  exact ret _ _ _ _ dX8_mostIn_33 hP hS

def f_X2_mostAtOnce_19 (v_count : Int32) (v_lesser : Nat → Int32) (v_greater : Nat → Int32) (v_tooNear : Nat → Int32) (y2_2 : Int32) : Nat → Int32 → (Nat → Int32) → Option ((Nat → Int32))
  | 0, _, _ => none
  | n + 1, y3_19, z_clash_19 =>
  if v_count ≤ y3_19 then
  some (z_clash_19)
  else
  (aget 12 v_lesser y3_19).bind (fun u6 =>
  (aget 12 v_greater y3_19).bind (fun u7 =>
  (aget 12 v_tooNear y2_2).bind (fun u8 =>
  (if (u8 &&& (((1 : Int32) <<< (u6 &&& 31)) ||| ((1 : Int32) <<< (u7 &&& 31)))) = 0 then
  some (z_clash_19)
  else
  (aget 12 z_clash_19 y2_2).bind (fun u12 =>
  (asetI 12 z_clash_19 y2_2 (u12 ||| ((1 : Int32) <<< (y3_19 &&& 31)))).bind (fun u13 =>
  some (u13)))).bind (fun w9 =>
  f_X2_mostAtOnce_19 v_count v_lesser v_greater v_tooNear y2_2 n (y3_19 + 1) w9))))
theorem f_X2_mostAtOnce_19_s (v_count : Int32) (v_lesser : Nat → Int32) (v_greater : Nat → Int32) (v_tooNear : Nat → Int32) (y2_2 : Int32) (n : Nat) (y3_19 : Int32) (z_clash_19 : Nat → Int32) : f_X2_mostAtOnce_19 v_count v_lesser v_greater v_tooNear y2_2 (n + 1) y3_19 z_clash_19 =
  (if v_count ≤ y3_19 then
  some (z_clash_19)
  else
  (aget 12 v_lesser y3_19).bind (fun u6 =>
  (aget 12 v_greater y3_19).bind (fun u7 =>
  (aget 12 v_tooNear y2_2).bind (fun u8 =>
  (if (u8 &&& (((1 : Int32) <<< (u6 &&& 31)) ||| ((1 : Int32) <<< (u7 &&& 31)))) = 0 then
  some (z_clash_19)
  else
  (aget 12 z_clash_19 y2_2).bind (fun u12 =>
  (asetI 12 z_clash_19 y2_2 (u12 ||| ((1 : Int32) <<< (y3_19 &&& 31)))).bind (fun u13 =>
  some (u13)))).bind (fun w9 =>
  f_X2_mostAtOnce_19 v_count v_lesser v_greater v_tooNear y2_2 n (y3_19 + 1) w9))))) := rfl
def f_X2_mostAtOnce_2 (v_count : Int32) (v_lesser : Nat → Int32) (v_greater : Nat → Int32) (v_tooNear : Nat → Int32) : Nat → Int32 → (Nat → Int32) → Option ((Nat → Int32))
  | 0, _, _ => none
  | n + 1, y2_2, z_clash_2 =>
  if v_count ≤ y2_2 then
  some (z_clash_2)
  else
  (asetI 12 z_clash_2 y2_2 (0 : Int32)).bind (fun u3 =>
  (f_X2_mostAtOnce_19 v_count v_lesser v_greater v_tooNear y2_2 FU (0 : Int32) u3).bind (fun u14 =>
  f_X2_mostAtOnce_2 v_count v_lesser v_greater v_tooNear n (y2_2 + 1) u14))
theorem f_X2_mostAtOnce_2_s (v_count : Int32) (v_lesser : Nat → Int32) (v_greater : Nat → Int32) (v_tooNear : Nat → Int32) (n : Nat) (y2_2 : Int32) (z_clash_2 : Nat → Int32) : f_X2_mostAtOnce_2 v_count v_lesser v_greater v_tooNear (n + 1) y2_2 z_clash_2 =
  (if v_count ≤ y2_2 then
  some (z_clash_2)
  else
  (asetI 12 z_clash_2 y2_2 (0 : Int32)).bind (fun u3 =>
  (f_X2_mostAtOnce_19 v_count v_lesser v_greater v_tooNear y2_2 FU (0 : Int32) u3).bind (fun u14 =>
  f_X2_mostAtOnce_2 v_count v_lesser v_greater v_tooNear n (y2_2 + 1) u14))) := rfl
def f_X2_mostAtOnce (v_count : Int32) (v_clash : Nat → Int32) (v_lesser : Nat → Int32) (v_greater : Nat → Int32) (v_tooNear : Nat → Int32) (v_p1_filled : Nat → Int32) (v_p1_open : Nat → Int32) : Option (Int32 × (Nat → Int32) × Int32 × Int32 × (Nat → Int32) × (Nat → Int32)) :=
  (f_X2_mostAtOnce_2 v_count v_lesser v_greater v_tooNear FU (0 : Int32) v_clash).bind (fun u15 =>
  (f_X8_list v_p1_filled v_p1_open u15 v_count (((1 : Int32) <<< (v_count &&& 31)) - (1 : Int32))).bind (fun u16 =>
  (f_X8_mostIn u16.1 u16.2.2.1).bind (fun u17 =>
  some (u17, u15, u16.1, u16.2.1, u16.2.2.1, u16.2.2.2))))
set_option maxHeartbeats 4000000 in
set_option maxRecDepth 100000 in
theorem c_X2_mostAtOnce (l : Launch) (D : va_G) (cI cJ cZ cO : ClassId) (a_t a_lesser a_greater a_tooNear a_clash a_p1 a_p1_filled a_p1_open a_p1_chance : Nat) (v_count : Int32) (v_clash : Nat → Int32) (v_lesser : Nat → Int32) (v_greater : Nat → Int32) (v_tooNear : Nat → Int32) (v_p1_size : Int32) (v_p1_places : Int32) (v_p1_filled : Nat → Int32) (v_p1_open : Nat → Int32) (out : Int32 × (Nat → Int32) × Int32 × Int32 × (Nat → Int32) × (Nat → Int32)) (hf : f_X2_mostAtOnce v_count v_clash v_lesser v_greater v_tooNear v_p1_filled v_p1_open = some out) : MetR l yX2_mostAtOnce (Cond.code yX2_mostAtOnce cX2_mostAtOnce 5 (some .int) :: tbG) { frames := 2, cells := 0, slots := 0, locals := 43 } D (tyL cI cJ cZ cO) [.ref a_t, .ref a_p1] [(a_t, .inr (2, [.ref a_lesser, .ref a_greater, .ref a_tooNear, .ref a_clash, .int v_count])), (a_clash, eI cI 12 v_clash), (a_lesser, eI cI 12 v_lesser), (a_greater, eI cI 12 v_greater), (a_tooNear, eI cI 12 v_tooNear), (a_p1, .inr (8, [.ref a_p1_filled, .ref a_p1_open, .ref a_p1_chance, .int v_p1_size, .int v_p1_places])), (a_p1_filled, eI cI 4096 v_p1_filled), (a_p1_open, eI cI 4096 v_p1_open)] (some (.int out.1)) [(a_t, .inr (2, [.ref a_lesser, .ref a_greater, .ref a_tooNear, .ref a_clash, .int v_count])), (a_clash, eI cI 12 out.2.1), (a_lesser, eI cI 12 v_lesser), (a_greater, eI cI 12 v_greater), (a_tooNear, eI cI 12 v_tooNear), (a_p1, .inr (8, [.ref a_p1_filled, .ref a_p1_open, .ref a_p1_chance, .int out.2.2.1, .int out.2.2.2.1])), (a_p1_filled, eI cI 4096 out.2.2.2.2.1), (a_p1_open, eI cI 4096 out.2.2.2.2.2)] := by
  refine ba_ofI RX2 [(0, .ref a_t), (1, .ref a_p1)] (by decide +kernel) rfl (Nat.le_of_ble_eq_true rfl) rfl ?_
  intro p e s m args below meth c Q A Cx hP ret ls hl
  obtain ⟨⟨hx, hb, hml, hown, hts⟩, hK, hD, hA⟩ := id Cx
  have hS : va_S A s.heap s.heap [] := va_S.rf
  unfold f_X2_mostAtOnce at hf
  refine lv_iconst (v := 0) hx hb dX2_mostAtOnce_0 (by decide) ?_
  refine lv_istore_n (lv' := [(2, .int (0 : Int32)), (0, .ref a_t), (1, .ref a_p1)]) hx hb dX2_mostAtOnce_1 rfl hl (by decide) rfl (fun ls hl => ?_)
  have L2_1 : ∀ (n : Nat) (y2_2 : Int32) (z_clash_2 : Nat → Int32) (o : (Nat → Int32)) (H : Heap) (locs : List Loc) (ls : Array Slot), f_X2_mostAtOnce_2 v_count v_lesser v_greater v_tooNear n y2_2 z_clash_2 = some o → va_P D vwCl [(a_t, .inr (2, [.ref a_lesser, .ref a_greater, .ref a_tooNear, .ref a_clash, .int v_count])), (a_clash, eI cI 12 z_clash_2), (a_lesser, eI cI 12 v_lesser), (a_greater, eI cI 12 v_greater), (a_tooNear, eI cI 12 v_tooNear), (a_p1, .inr (8, [.ref a_p1_filled, .ref a_p1_open, .ref a_p1_chance, .int v_p1_size, .int v_p1_places])), (a_p1_filled, eI cI 4096 v_p1_filled), (a_p1_open, eI cI 4096 v_p1_open)] H → va_S A s.heap H locs → lv_has ls 5 [(0, .ref a_t), (1, .ref a_p1), (2, .int y2_2)] → (∀ (H : Heap) (locs : List Loc) (ls : Array Slot), va_P D vwCl [(a_t, .inr (2, [.ref a_lesser, .ref a_greater, .ref a_tooNear, .ref a_clash, .int v_count])), (a_clash, eI cI 12 o), (a_lesser, eI cI 12 v_lesser), (a_greater, eI cI 12 v_greater), (a_tooNear, eI cI 12 v_tooNear), (a_p1, .inr (8, [.ref a_p1_filled, .ref a_p1_open, .ref a_p1_chance, .int v_p1_size, .int v_p1_places])), (a_p1_filled, eI cI 4096 v_p1_filled), (a_p1_open, eI cI 4096 v_p1_open)] H → va_S A s.heap H locs → lv_has ls 5 [(0, .ref a_t), (1, .ref a_p1)] → W p l e { frames := 2, cells := 0, slots := 0, locals := 43 } s m args below meth c H locs 0 0 Q (F0 m 82 ls [])) → W p l e { frames := 2, cells := 0, slots := 0, locals := 43 } s m args below meth c H locs 0 0 Q (F0 m 2 ls []) := by
    intro n
    induction n with
    | zero => intro y2_2 z_clash_2 o H locs ls hf; exact (ob_n hf).elim
    | succ n ih =>
      intro y2_2 z_clash_2 o H locs ls hf hP hS hl kk
      rw [f_X2_mostAtOnce_2_s] at hf
      refine lv_iload_n hx hb dX2_mostAtOnce_2 rfl (lv_at hl 2 rfl) ?_
      refine lv_aload_n hx hb dX2_mostAtOnce_3 rfl (lv_at hl 0 rfl) ?_
      refine gf_X2_24 Cx hP 0 rfl rfl dX2_mostAtOnce_4 ?_
      refine lv_icmp_ge (tgt := 82) hx hb dX2_mostAtOnce_7 (by decide) (fun c2 => ?_) (fun c2 => ?_)
      · have hf := ob_t c2 hf
        obtain rfl := Option.some.inj hf
        exact kk _ _ _ hP hS (lv_sub hl [0, 1] rfl)
      · have hf := ob_f c2 hf
        refine lv_aload_n hx hb dX2_mostAtOnce_10 rfl (lv_at hl 0 rfl) ?_
        refine gf_X2_21 Cx hP 0 rfl rfl dX2_mostAtOnce_11 ?_
        refine lv_iload_n hx hb dX2_mostAtOnce_14 rfl (lv_at hl 2 rfl) ?_
        refine lv_iconst (v := 0) hx hb dX2_mostAtOnce_15 (by decide) ?_
        obtain ⟨u3, hu3, hf⟩ := ob_b hf
        refine ba_iast (X' := [(a_t, .inr (2, [.ref a_lesser, .ref a_greater, .ref a_tooNear, .ref a_clash, .int v_count])), (a_clash, eI cI 12 u3), (a_lesser, eI cI 12 v_lesser), (a_greater, eI cI 12 v_greater), (a_tooNear, eI cI 12 v_tooNear), (a_p1, .inr (8, [.ref a_p1_filled, .ref a_p1_open, .ref a_p1_chance, .int v_p1_size, .int v_p1_places])), (a_p1_filled, eI cI 4096 v_p1_filled), (a_p1_open, eI cI 4096 v_p1_open)]) Cx hP hS rfl 1 rfl rfl hu3 dX2_mostAtOnce_16 (fun H locs hP hS => ?_)
        refine lv_iconst (v := 0) hx hb dX2_mostAtOnce_17 (by decide) ?_
        refine lv_istore_n (lv' := [(3, .int (0 : Int32)), (0, .ref a_t), (1, .ref a_p1), (2, .int y2_2)]) hx hb dX2_mostAtOnce_18 rfl hl (by decide) rfl (fun ls hl => ?_)
        have L19_4 : ∀ (n : Nat) (y3_19 : Int32) (z_clash_19 : Nat → Int32) (o : (Nat → Int32)) (H : Heap) (locs : List Loc) (ls : Array Slot), f_X2_mostAtOnce_19 v_count v_lesser v_greater v_tooNear y2_2 n y3_19 z_clash_19 = some o → va_P D vwCl [(a_t, .inr (2, [.ref a_lesser, .ref a_greater, .ref a_tooNear, .ref a_clash, .int v_count])), (a_clash, eI cI 12 z_clash_19), (a_lesser, eI cI 12 v_lesser), (a_greater, eI cI 12 v_greater), (a_tooNear, eI cI 12 v_tooNear), (a_p1, .inr (8, [.ref a_p1_filled, .ref a_p1_open, .ref a_p1_chance, .int v_p1_size, .int v_p1_places])), (a_p1_filled, eI cI 4096 v_p1_filled), (a_p1_open, eI cI 4096 v_p1_open)] H → va_S A s.heap H locs → lv_has ls 5 [(0, .ref a_t), (1, .ref a_p1), (2, .int y2_2), (3, .int y3_19)] → (∀ (H : Heap) (locs : List Loc) (ls : Array Slot), va_P D vwCl [(a_t, .inr (2, [.ref a_lesser, .ref a_greater, .ref a_tooNear, .ref a_clash, .int v_count])), (a_clash, eI cI 12 o), (a_lesser, eI cI 12 v_lesser), (a_greater, eI cI 12 v_greater), (a_tooNear, eI cI 12 v_tooNear), (a_p1, .inr (8, [.ref a_p1_filled, .ref a_p1_open, .ref a_p1_chance, .int v_p1_size, .int v_p1_places])), (a_p1_filled, eI cI 4096 v_p1_filled), (a_p1_open, eI cI 4096 v_p1_open)] H → va_S A s.heap H locs → lv_has ls 5 [(0, .ref a_t), (1, .ref a_p1), (2, .int y2_2)] → W p l e { frames := 2, cells := 0, slots := 0, locals := 43 } s m args below meth c H locs 0 0 Q (F0 m 76 ls [])) → W p l e { frames := 2, cells := 0, slots := 0, locals := 43 } s m args below meth c H locs 0 0 Q (F0 m 19 ls []) := by
          intro n
          induction n with
          | zero => intro y3_19 z_clash_19 o H locs ls hf; exact (ob_n hf).elim
          | succ n ih =>
            intro y3_19 z_clash_19 o H locs ls hf hP hS hl kk
            rw [f_X2_mostAtOnce_19_s] at hf
            refine lv_iload_n hx hb dX2_mostAtOnce_19 rfl (lv_at hl 3 rfl) ?_
            refine lv_aload_n hx hb dX2_mostAtOnce_20 rfl (lv_at hl 0 rfl) ?_
            refine gf_X2_24 Cx hP 0 rfl rfl dX2_mostAtOnce_21 ?_
            refine lv_icmp_ge (tgt := 76) hx hb dX2_mostAtOnce_24 (by decide) (fun c5 => ?_) (fun c5 => ?_)
            · have hf := ob_t c5 hf
              obtain rfl := Option.some.inj hf
              exact kk _ _ _ hP hS (lv_sub hl [0, 1, 2] rfl)
            · have hf := ob_f c5 hf
              refine lv_iconst (v := 1) hx hb dX2_mostAtOnce_27 (by decide) ?_
              refine lv_aload_n hx hb dX2_mostAtOnce_28 rfl (lv_at hl 0 rfl) ?_
              refine gf_X2_9 Cx hP 0 rfl rfl dX2_mostAtOnce_29 ?_
              refine lv_iload_n hx hb dX2_mostAtOnce_32 rfl (lv_at hl 3 rfl) ?_
              obtain ⟨u6, hu6, hf⟩ := ob_b hf
              refine ba_iald Cx hP 2 rfl hu6 dX2_mostAtOnce_33 ?_
              refine lv_ishl hx hb dX2_mostAtOnce_34 ?_
              refine lv_iconst (v := 1) hx hb dX2_mostAtOnce_35 (by decide) ?_
              refine lv_aload_n hx hb dX2_mostAtOnce_36 rfl (lv_at hl 0 rfl) ?_
              refine gf_X2_15 Cx hP 0 rfl rfl dX2_mostAtOnce_37 ?_
              refine lv_iload_n hx hb dX2_mostAtOnce_40 rfl (lv_at hl 3 rfl) ?_
              obtain ⟨u7, hu7, hf⟩ := ob_b hf
              refine ba_iald Cx hP 3 rfl hu7 dX2_mostAtOnce_41 ?_
              refine lv_ishl hx hb dX2_mostAtOnce_42 ?_
              refine lv_ior hx hb dX2_mostAtOnce_43 ?_
              refine lv_istore (lv' := [(4, .int (((1 : Int32) <<< (u6 &&& 31)) ||| ((1 : Int32) <<< (u7 &&& 31)))), (0, .ref a_t), (1, .ref a_p1), (2, .int y2_2), (3, .int y3_19)]) hx hb dX2_mostAtOnce_44 hl (by decide) rfl (fun ls hl => ?_)
              refine lv_aload_n hx hb dX2_mostAtOnce_46 rfl (lv_at hl 1 rfl) ?_
              refine gf_X2_18 Cx hP 0 rfl rfl dX2_mostAtOnce_47 ?_
              refine lv_iload_n hx hb dX2_mostAtOnce_50 rfl (lv_at hl 3 rfl) ?_
              obtain ⟨u8, hu8, hf⟩ := ob_b hf
              refine ba_iald Cx hP 4 rfl hu8 dX2_mostAtOnce_51 ?_
              refine lv_iload hx hb dX2_mostAtOnce_52 (lv_at hl 0 rfl) ?_
              refine lv_iand hx hb dX2_mostAtOnce_54 ?_
              refine ob_J (P := fun w9 => ∀ (H : Heap) (locs : List Loc) (ls : Array Slot), va_P D vwCl [(a_t, .inr (2, [.ref a_lesser, .ref a_greater, .ref a_tooNear, .ref a_clash, .int v_count])), (a_clash, eI cI 12 w9), (a_lesser, eI cI 12 v_lesser), (a_greater, eI cI 12 v_greater), (a_tooNear, eI cI 12 v_tooNear), (a_p1, .inr (8, [.ref a_p1_filled, .ref a_p1_open, .ref a_p1_chance, .int v_p1_size, .int v_p1_places])), (a_p1_filled, eI cI 4096 v_p1_filled), (a_p1_open, eI cI 4096 v_p1_open)] H → va_S A s.heap H locs → lv_has ls 5 [(0, .ref a_t), (1, .ref a_p1), (2, .int y2_2), (3, .int y3_19)] → W p l e { frames := 2, cells := 0, slots := 0, locals := 43 } s m args below meth c H locs 0 0 Q (F0 m 70 ls [])) hf ?_ ?_
              · intro w9 hf H locs ls hP hS hl
                refine lv_iinc (v := (y3_19 + 1)) (lv' := [(3, .int (y3_19 + 1)), (0, .ref a_t), (1, .ref a_p1), (2, .int y2_2)]) hx hb dX2_mostAtOnce_70 hl (k := 3) rfl rfl (by decide) rfl (fun ls hl => ?_)
                refine lv_goto (tgt := 19) hx hb dX2_mostAtOnce_73 (by decide) ?_
                exact ih (y3_19 + 1) w9 _ _ _ _ hf hP hS (lv_sub hl [1, 2, 3, 0] rfl) kk
              · intro J70_10 hf
                refine lv_if_eq (tgt := 70) hx hb dX2_mostAtOnce_55 (by decide) (fun c11 => ?_) (fun c11 => ?_)
                · have hf := ob_tk c11 hf
                  exact J70_10 z_clash_19 hf _ _ _ hP hS (lv_sub hl [1, 2, 3, 4] rfl)
                · have hf := ob_fk c11 hf
                  refine lv_aload_n hx hb dX2_mostAtOnce_58 rfl (lv_at hl 1 rfl) ?_
                  refine gf_X2_21 Cx hP 0 rfl rfl dX2_mostAtOnce_59 ?_
                  refine lv_iload_n hx hb dX2_mostAtOnce_62 rfl (lv_at hl 3 rfl) ?_
                  refine lv_dup2_11 hx hb dX2_mostAtOnce_63 rfl rfl ?_
                  obtain ⟨u12, hu12, hf⟩ := ob_bk hf
                  refine ba_iald Cx hP 1 rfl hu12 dX2_mostAtOnce_64 ?_
                  refine lv_iconst (v := 1) hx hb dX2_mostAtOnce_65 (by decide) ?_
                  refine lv_iload_n hx hb dX2_mostAtOnce_66 rfl (lv_at hl 4 rfl) ?_
                  refine lv_ishl hx hb dX2_mostAtOnce_67 ?_
                  refine lv_ior hx hb dX2_mostAtOnce_68 ?_
                  obtain ⟨u13, hu13, hf⟩ := ob_bk hf
                  refine ba_iast (X' := [(a_t, .inr (2, [.ref a_lesser, .ref a_greater, .ref a_tooNear, .ref a_clash, .int v_count])), (a_clash, eI cI 12 u13), (a_lesser, eI cI 12 v_lesser), (a_greater, eI cI 12 v_greater), (a_tooNear, eI cI 12 v_tooNear), (a_p1, .inr (8, [.ref a_p1_filled, .ref a_p1_open, .ref a_p1_chance, .int v_p1_size, .int v_p1_places])), (a_p1_filled, eI cI 4096 v_p1_filled), (a_p1_open, eI cI 4096 v_p1_open)]) Cx hP hS rfl 1 rfl rfl hu13 dX2_mostAtOnce_69 (fun H locs hP hS => ?_)
                  exact J70_10 u13 hf _ _ _ hP hS (lv_sub hl [1, 2, 3, 4] rfl)
        obtain ⟨u14, hu14, hf⟩ := ob_b hf
        refine L19_4 FU (0 : Int32) u3 u14 _ _ _ hu14 hP hS (lv_sub hl [1, 2, 3, 0] rfl) ?_
        intro H locs ls hP hS hl
        refine lv_iinc (v := (y2_2 + 1)) (lv' := [(2, .int (y2_2 + 1)), (0, .ref a_t), (1, .ref a_p1)]) hx hb dX2_mostAtOnce_76 hl (k := 2) rfl rfl (by decide) rfl (fun ls hl => ?_)
        refine lv_goto (tgt := 2) hx hb dX2_mostAtOnce_79 (by decide) ?_
        exact ih (y2_2 + 1) u14 _ _ _ _ hf hP hS (lv_sub hl [1, 2, 0] rfl) kk
  obtain ⟨u15, hu15, hf⟩ := ob_b hf
  refine L2_1 FU (0 : Int32) v_clash u15 _ _ _ hu15 hP hS (lv_sub hl [1, 2, 0] rfl) ?_
  intro H locs ls hP hS hl
  refine lv_aload_n hx hb dX2_mostAtOnce_82 rfl (lv_at hl 1 rfl) ?_
  refine lv_aload_n hx hb dX2_mostAtOnce_83 rfl (lv_at hl 0 rfl) ?_
  refine gf_X2_21 Cx hP 0 rfl rfl dX2_mostAtOnce_84 ?_
  refine lv_aload_n hx hb dX2_mostAtOnce_87 rfl (lv_at hl 0 rfl) ?_
  refine gf_X2_24 Cx hP 0 rfl rfl dX2_mostAtOnce_88 ?_
  refine lv_iconst (v := 1) hx hb dX2_mostAtOnce_91 (by decide) ?_
  refine lv_aload_n hx hb dX2_mostAtOnce_92 rfl (lv_at hl 0 rfl) ?_
  refine gf_X2_24 Cx hP 0 rfl rfl dX2_mostAtOnce_93 ?_
  refine lv_ishl hx hb dX2_mostAtOnce_96 ?_
  refine lv_iconst (v := 1) hx hb dX2_mostAtOnce_97 (by decide) ?_
  refine lv_isub hx hb dX2_mostAtOnce_98 ?_
  obtain ⟨u16, hu16, hf⟩ := ob_b hf
  refine iv_X2_57 (As := [.ref a_clash, .int v_count, .int (((1 : Int32) <<< (v_count &&& 31)) - (1 : Int32))]) (rest := []) (is := [5, 6, 7, 1]) (q0 := 5) (X' := [(a_t, .inr (2, [.ref a_lesser, .ref a_greater, .ref a_tooNear, .ref a_clash, .int v_count])), (a_clash, eI cI 12 u15), (a_lesser, eI cI 12 v_lesser), (a_greater, eI cI 12 v_greater), (a_tooNear, eI cI 12 v_tooNear), (a_p1, .inr (8, [.ref a_p1_filled, .ref a_p1_open, .ref a_p1_chance, .int u16.1, .int u16.2.1])), (a_p1_filled, eI cI 4096 u16.2.2.1), (a_p1_open, eI cI 4096 u16.2.2.2)]) Cx (c_X8_list l D cI cJ cZ cO a_p1 a_p1_filled a_p1_open a_p1_chance a_clash v_p1_size v_p1_places v_p1_filled v_p1_open u15 v_count (((1 : Int32) <<< (v_count &&& 31)) - (1 : Int32)) u16 hu16) hP hS rfl rfl rfl rfl rfl rfl rfl hl.1 (Nat.le_of_ble_eq_true rfl) dX2_mostAtOnce_99 rfl rfl ⟨Nat.le_of_ble_eq_true rfl, Nat.le_of_ble_eq_true rfl⟩ ⟨Nat.zero_le _, Nat.zero_le _⟩ rfl (fun H locs hP hS => ?_)
  refine lv_aload_n hx hb dX2_mostAtOnce_102 rfl (lv_at hl 1 rfl) ?_
  obtain ⟨u17, hu17, hf⟩ := ob_b hf
  refine iv_X2_63 (As := []) (rest := []) (is := [5, 6]) (q0 := 5) (X' := [(a_t, .inr (2, [.ref a_lesser, .ref a_greater, .ref a_tooNear, .ref a_clash, .int v_count])), (a_clash, eI cI 12 u15), (a_lesser, eI cI 12 v_lesser), (a_greater, eI cI 12 v_greater), (a_tooNear, eI cI 12 v_tooNear), (a_p1, .inr (8, [.ref a_p1_filled, .ref a_p1_open, .ref a_p1_chance, .int u16.1, .int u16.2.1])), (a_p1_filled, eI cI 4096 u16.2.2.1), (a_p1_open, eI cI 4096 u16.2.2.2)]) Cx (c_X8_mostIn l D cI cJ cZ cO a_p1 a_p1_filled a_p1_open a_p1_chance u16.1 u16.2.1 u16.2.2.1 u17 hu17) hP hS rfl rfl rfl rfl rfl rfl rfl hl.1 (Nat.le_of_ble_eq_true rfl) dX2_mostAtOnce_103 rfl rfl ⟨Nat.le_of_ble_eq_true rfl, Nat.le_of_ble_eq_true rfl⟩ ⟨Nat.zero_le _, Nat.zero_le _⟩ rfl (fun H locs hP hS => ?_)
  obtain rfl := Option.some.inj hf
  exact ret _ _ _ _ dX2_mostAtOnce_106 hP hS

def f_X3_beyond (v_between : Nat → Int32) (x1 : Int32) : Option (Int32) :=
  (if (2 : Int32) ≤ x1 then
  (aget 201 v_between (x1 - (1 : Int32))).bind (fun u4 =>
  some ((1 : Int32) + u4))
  else
  some (0 : Int32)).bind (fun w1 =>
  some (w1))
set_option maxHeartbeats 4000000 in
set_option maxRecDepth 100000 in
theorem c_X3_beyond (l : Launch) (D : va_G) (cI cJ cZ cO : ClassId) (a_t a_between : Nat) (v_between : Nat → Int32) (x1 : Int32) (out : Int32) (hf : f_X3_beyond v_between x1 = some out) : MetR l yX3_beyond (Cond.code yX3_beyond cX3_beyond 2 (some .int) :: tbG) { frames := 0, cells := 0, slots := 0, locals := 0 } D (tyL cI cJ cZ cO) [.ref a_t, .int x1] [(a_t, .inr (3, [.ref a_between])), (a_between, eI cI 201 v_between)] (some (.int out)) [(a_t, .inr (3, [.ref a_between])), (a_between, eI cI 201 v_between)] := by
  refine ba_ofI RX3 [(0, .ref a_t), (1, .int x1)] (by decide +kernel) rfl (Nat.le_of_ble_eq_true rfl) rfl ?_
  intro p e s m args below meth c Q A Cx hP ret ls hl
  obtain ⟨⟨hx, hb, hml, hown, hts⟩, hK, hD, hA⟩ := id Cx
  have hS : va_S A s.heap s.heap [] := va_S.rf
  unfold f_X3_beyond at hf
  refine lv_iload_n hx hb dX3_beyond_0 rfl (lv_at hl 1 rfl) ?_
  refine lv_iconst (v := 2) hx hb dX3_beyond_1 (by decide) ?_
  refine ob_J (P := fun w1 => ∀ (H : Heap) (locs : List Loc) (ls : Array Slot), va_P D vwCl [(a_t, .inr (3, [.ref a_between])), (a_between, eI cI 201 v_between)] H → va_S A s.heap H locs → lv_has ls 2 [] → W p l e { frames := 0, cells := 0, slots := 0, locals := 0 } s m args below meth c H locs 0 0 Q (F0 m 19 ls [.int w1])) hf ?_ ?_
  · intro w1 hf H locs ls hP hS hl
    obtain rfl := Option.some.inj hf
    exact ret _ _ _ _ dX3_beyond_19 hP hS
  · intro J19_2 hf
    refine lv_icmp_ge (tgt := 9) hx hb dX3_beyond_2 (by decide) (fun c3 => ?_) (fun c3 => ?_)
    · have hf := ob_tk c3 hf
      refine lv_iconst (v := 1) hx hb dX3_beyond_9 (by decide) ?_
      refine lv_aload_n hx hb dX3_beyond_10 rfl (lv_at hl 0 rfl) ?_
      refine gf_X3_9 Cx hP 0 rfl rfl dX3_beyond_11 ?_
      refine lv_iload_n hx hb dX3_beyond_14 rfl (lv_at hl 1 rfl) ?_
      refine lv_iconst (v := 1) hx hb dX3_beyond_15 (by decide) ?_
      refine lv_isub hx hb dX3_beyond_16 ?_
      obtain ⟨u4, hu4, hf⟩ := ob_bk hf
      refine ba_iald Cx hP 1 rfl hu4 dX3_beyond_17 ?_
      refine lv_iadd hx hb dX3_beyond_18 ?_
      exact J19_2 ((1 : Int32) + u4) hf _ _ _ hP hS (lv_sub hl [] rfl)
    · have hf := ob_fk c3 hf
      refine lv_iconst (v := 0) hx hb dX3_beyond_5 (by decide) ?_
      refine lv_goto (tgt := 19) hx hb dX3_beyond_6 (by decide) ?_
      exact J19_2 (0 : Int32) hf _ _ _ hP hS (lv_sub hl [] rfl)

def f_X3_comeIn (v_between : Nat → Int32) (x1 : Int32) (x2 : Int32) : Option (Int32) :=
  (f_X3_beyond v_between x2).bind (fun u1 =>
  (f_X3_beyond v_between ((x1 - (1 : Int32)) - x2)).bind (fun u2 =>
  some (((1 : Int32) + u1) + u2)))
set_option maxHeartbeats 4000000 in
set_option maxRecDepth 100000 in
theorem c_X3_comeIn (l : Launch) (D : va_G) (cI cJ cZ cO : ClassId) (a_t a_between : Nat) (v_between : Nat → Int32) (x1 : Int32) (x2 : Int32) (out : Int32) (hf : f_X3_comeIn v_between x1 x2 = some out) : MetR l yX3_comeIn (Cond.code yX3_comeIn cX3_comeIn 3 (some .int) :: tbG) { frames := 1, cells := 0, slots := 0, locals := 21 } D (tyL cI cJ cZ cO) [.ref a_t, .int x1, .int x2] [(a_t, .inr (3, [.ref a_between])), (a_between, eI cI 201 v_between)] (some (.int out)) [(a_t, .inr (3, [.ref a_between])), (a_between, eI cI 201 v_between)] := by
  refine ba_ofI RX3 [(0, .ref a_t), (1, .int x1), (2, .int x2)] (by decide +kernel) rfl (Nat.le_of_ble_eq_true rfl) rfl ?_
  intro p e s m args below meth c Q A Cx hP ret ls hl
  obtain ⟨⟨hx, hb, hml, hown, hts⟩, hK, hD, hA⟩ := id Cx
  have hS : va_S A s.heap s.heap [] := va_S.rf
  unfold f_X3_comeIn at hf
  refine lv_iconst (v := 1) hx hb dX3_comeIn_0 (by decide) ?_
  refine lv_aload_n hx hb dX3_comeIn_1 rfl (lv_at hl 0 rfl) ?_
  refine lv_iload_n hx hb dX3_comeIn_2 rfl (lv_at hl 2 rfl) ?_
  obtain ⟨u1, hu1, hf⟩ := ob_b hf
  refine iv_X3_15 (As := [.int x2]) (rest := [.int (1 : Int32)]) (is := [0, 1]) (q0 := 0) (X' := [(a_t, .inr (3, [.ref a_between])), (a_between, eI cI 201 v_between)]) Cx (c_X3_beyond l D cI cJ cZ cO a_t a_between v_between x2 u1 hu1) hP hS rfl rfl rfl rfl rfl rfl rfl hl.1 (Nat.le_of_ble_eq_true rfl) dX3_comeIn_3 rfl rfl ⟨Nat.le_of_ble_eq_true rfl, Nat.le_of_ble_eq_true rfl⟩ ⟨Nat.zero_le _, Nat.zero_le _⟩ rfl (fun H locs hP hS => ?_)
  refine lv_iadd hx hb dX3_comeIn_6 ?_
  refine lv_aload_n hx hb dX3_comeIn_7 rfl (lv_at hl 0 rfl) ?_
  refine lv_iload_n hx hb dX3_comeIn_8 rfl (lv_at hl 1 rfl) ?_
  refine lv_iconst (v := 1) hx hb dX3_comeIn_9 (by decide) ?_
  refine lv_isub hx hb dX3_comeIn_10 ?_
  refine lv_iload_n hx hb dX3_comeIn_11 rfl (lv_at hl 2 rfl) ?_
  refine lv_isub hx hb dX3_comeIn_12 ?_
  obtain ⟨u2, hu2, hf⟩ := ob_b hf
  refine iv_X3_15 (As := [.int ((x1 - (1 : Int32)) - x2)]) (rest := [.int ((1 : Int32) + u1)]) (is := [0, 1]) (q0 := 0) (X' := [(a_t, .inr (3, [.ref a_between])), (a_between, eI cI 201 v_between)]) Cx (c_X3_beyond l D cI cJ cZ cO a_t a_between v_between ((x1 - (1 : Int32)) - x2) u2 hu2) hP hS rfl rfl rfl rfl rfl rfl rfl hl.1 (Nat.le_of_ble_eq_true rfl) dX3_comeIn_13 rfl rfl ⟨Nat.le_of_ble_eq_true rfl, Nat.le_of_ble_eq_true rfl⟩ ⟨Nat.zero_le _, Nat.zero_le _⟩ rfl (fun H locs hP hS => ?_)
  refine lv_iadd hx hb dX3_comeIn_16 ?_
  obtain rfl := Option.some.inj hf
  exact ret _ _ _ _ dX3_comeIn_17 hP hS

def f_X4_settle_34 (v_wicked : Nat → Int32) (v_kind : Nat → Int32) (x1 : Int32) (x2 : Int32) (x3 : Int32) : Nat → Int32 → Int32 → Int32 → Option (Int32 × Int32)
  | 0, _, _, _ => none
  | n + 1, y5_34, y6_34, y7_34 =>
  if x3 ≤ y7_34 then
  some (y5_34, y6_34)
  else
  (if ((x2 >>> (y7_34 &&& 31)) &&& (1 : Int32)) = 0 then
  some (y5_34, y6_34)
  else
  (aget 4096 v_wicked (x1 ||| ((1 : Int32) <<< (y7_34 &&& 31)))).bind (fun u11 =>
  (aget 4096 v_kind (x1 ||| ((1 : Int32) <<< (y7_34 &&& 31)))).bind (fun u12 =>
  some ((imax y5_34 u11), (imin y6_34 u12))))).bind (fun w8 =>
  f_X4_settle_34 v_wicked v_kind x1 x2 x3 n w8.1 w8.2 (y7_34 + 1))
theorem f_X4_settle_34_s (v_wicked : Nat → Int32) (v_kind : Nat → Int32) (x1 : Int32) (x2 : Int32) (x3 : Int32) (n : Nat) (y5_34 : Int32) (y6_34 : Int32) (y7_34 : Int32) : f_X4_settle_34 v_wicked v_kind x1 x2 x3 (n + 1) y5_34 y6_34 y7_34 =
  (if x3 ≤ y7_34 then
  some (y5_34, y6_34)
  else
  (if ((x2 >>> (y7_34 &&& 31)) &&& (1 : Int32)) = 0 then
  some (y5_34, y6_34)
  else
  (aget 4096 v_wicked (x1 ||| ((1 : Int32) <<< (y7_34 &&& 31)))).bind (fun u11 =>
  (aget 4096 v_kind (x1 ||| ((1 : Int32) <<< (y7_34 &&& 31)))).bind (fun u12 =>
  some ((imax y5_34 u11), (imin y6_34 u12))))).bind (fun w8 =>
  f_X4_settle_34 v_wicked v_kind x1 x2 x3 n w8.1 w8.2 (y7_34 + 1))) := rfl
def f_X4_settle (v_wicked : Nat → Int32) (v_kind : Nat → Int32) (x1 : Int32) (x2 : Int32) (x3 : Int32) : Option ((Nat → Int32) × (Nat → Int32)) :=
  (f_J6_bitCount_0f7a4 x1).bind (fun u1 =>
  (if x2 = 0 then
  some (u1)
  else
  some (0 : Int32)).bind (fun w2 =>
  (if x2 = 0 then
  some (u1)
  else
  some (12 : Int32)).bind (fun w4 =>
  (f_X4_settle_34 v_wicked v_kind x1 x2 x3 FU w2 w4 (0 : Int32)).bind (fun u13 =>
  (asetI 4096 v_kind x1 u13.1).bind (fun u14 =>
  (asetI 4096 v_wicked x1 u13.2).bind (fun u15 =>
  some (u15, u14)))))))
set_option maxHeartbeats 4000000 in
set_option maxRecDepth 100000 in
theorem c_X4_settle (l : Launch) (D : va_G) (cI cJ cZ cO : ClassId) (a_t a_kind a_wicked : Nat) (v_known : Int32) (v_wicked : Nat → Int32) (v_kind : Nat → Int32) (x1 : Int32) (x2 : Int32) (x3 : Int32) (out : (Nat → Int32) × (Nat → Int32)) (hf : f_X4_settle v_wicked v_kind x1 x2 x3 = some out) : MetR l yX4_settle (Cond.code yX4_settle cX4_settle 8 none :: tbG) { frames := 1, cells := 0, slots := 0, locals := 21 } D (tyL cI cJ cZ cO) [.ref a_t, .int x1, .int x2, .int x3] [(a_t, .inr (4, [.ref a_kind, .ref a_wicked, .int v_known])), (a_wicked, eI cI 4096 v_wicked), (a_kind, eI cI 4096 v_kind)] none [(a_t, .inr (4, [.ref a_kind, .ref a_wicked, .int v_known])), (a_wicked, eI cI 4096 out.1), (a_kind, eI cI 4096 out.2)] := by
  refine ba_ofV RX4 [(0, .ref a_t), (1, .int x1), (2, .int x2), (3, .int x3)] (by decide +kernel) rfl (Nat.le_of_ble_eq_true rfl) rfl ?_
  intro p e s m args below meth c Q A Cx hP ret ls hl
  obtain ⟨⟨hx, hb, hml, hown, hts⟩, hK, hD, hA⟩ := id Cx
  have hS : va_S A s.heap s.heap [] := va_S.rf
  unfold f_X4_settle at hf
  refine lv_iload_n hx hb dX4_settle_0 rfl (lv_at hl 1 rfl) ?_
  obtain ⟨u1, hu1, hf⟩ := ob_b hf
  refine iv_X4_63 (As := [.int x1]) (rest := []) (is := []) (X' := [(a_t, .inr (4, [.ref a_kind, .ref a_wicked, .int v_known])), (a_wicked, eI cI 4096 v_wicked), (a_kind, eI cI 4096 v_kind)]) Cx (c_J6_bitCount_0f7a4 l D cI cJ cZ cO  x1 u1 hu1) hP hS rfl rfl rfl rfl rfl rfl hl.1 (Nat.le_of_ble_eq_true rfl) dX4_settle_1 rfl rfl ⟨Nat.le_of_ble_eq_true rfl, Nat.le_of_ble_eq_true rfl⟩ ⟨Nat.zero_le _, Nat.zero_le _⟩ rfl (fun H locs hP hS => ?_)
  refine lv_istore (lv' := [(4, .int u1), (0, .ref a_t), (1, .int x1), (2, .int x2), (3, .int x3)]) hx hb dX4_settle_4 hl (by decide) rfl (fun ls hl => ?_)
  refine lv_iload_n hx hb dX4_settle_6 rfl (lv_at hl 3 rfl) ?_
  refine ob_J (P := fun w2 => ∀ (H : Heap) (locs : List Loc) (ls : Array Slot), va_P D vwCl [(a_t, .inr (4, [.ref a_kind, .ref a_wicked, .int v_known])), (a_wicked, eI cI 4096 v_wicked), (a_kind, eI cI 4096 v_kind)] H → va_S A s.heap H locs → lv_has ls 8 [(0, .ref a_t), (1, .int x1), (2, .int x2), (3, .int x3), (4, .int u1)] → W p l e { frames := 1, cells := 0, slots := 0, locals := 21 } s m args below meth c H locs 0 0 Q (F0 m 16 ls [.int w2])) hf ?_ ?_
  · intro w2 hf H locs ls hP hS hl
    refine lv_istore (lv' := [(5, .int w2), (0, .ref a_t), (1, .int x1), (2, .int x2), (3, .int x3), (4, .int u1)]) hx hb dX4_settle_16 hl (by decide) rfl (fun ls hl => ?_)
    refine lv_iload_n hx hb dX4_settle_18 rfl (lv_at hl 3 rfl) ?_
    refine ob_J (P := fun w4 => ∀ (H : Heap) (locs : List Loc) (ls : Array Slot), va_P D vwCl [(a_t, .inr (4, [.ref a_kind, .ref a_wicked, .int v_known])), (a_wicked, eI cI 4096 v_wicked), (a_kind, eI cI 4096 v_kind)] H → va_S A s.heap H locs → lv_has ls 8 [(0, .ref a_t), (1, .int x1), (2, .int x2), (3, .int x3), (5, .int w2)] → W p l e { frames := 1, cells := 0, slots := 0, locals := 21 } s m args below meth c H locs 0 0 Q (F0 m 29 ls [.int w4])) hf ?_ ?_
    · intro w4 hf H locs ls hP hS hl
      refine lv_istore (lv' := [(6, .int w4), (0, .ref a_t), (1, .int x1), (2, .int x2), (3, .int x3), (5, .int w2)]) hx hb dX4_settle_29 hl (by decide) rfl (fun ls hl => ?_)
      refine lv_iconst (v := 0) hx hb dX4_settle_31 (by decide) ?_
      refine lv_istore (lv' := [(7, .int (0 : Int32)), (6, .int w4), (0, .ref a_t), (1, .int x1), (2, .int x2), (3, .int x3), (5, .int w2)]) hx hb dX4_settle_32 hl (by decide) rfl (fun ls hl => ?_)
      have L34_6 : ∀ (n : Nat) (y5_34 : Int32) (y6_34 : Int32) (y7_34 : Int32) (o : Int32 × Int32) (H : Heap) (locs : List Loc) (ls : Array Slot), f_X4_settle_34 v_wicked v_kind x1 x2 x3 n y5_34 y6_34 y7_34 = some o → va_P D vwCl [(a_t, .inr (4, [.ref a_kind, .ref a_wicked, .int v_known])), (a_wicked, eI cI 4096 v_wicked), (a_kind, eI cI 4096 v_kind)] H → va_S A s.heap H locs → lv_has ls 8 [(0, .ref a_t), (1, .int x1), (2, .int x2), (3, .int x3), (5, .int y5_34), (6, .int y6_34), (7, .int y7_34)] → (∀ (H : Heap) (locs : List Loc) (ls : Array Slot), va_P D vwCl [(a_t, .inr (4, [.ref a_kind, .ref a_wicked, .int v_known])), (a_wicked, eI cI 4096 v_wicked), (a_kind, eI cI 4096 v_kind)] H → va_S A s.heap H locs → lv_has ls 8 [(0, .ref a_t), (1, .int x1), (5, .int o.1), (6, .int o.2)] → W p l e { frames := 1, cells := 0, slots := 0, locals := 21 } s m args below meth c H locs 0 0 Q (F0 m 91 ls [])) → W p l e { frames := 1, cells := 0, slots := 0, locals := 21 } s m args below meth c H locs 0 0 Q (F0 m 34 ls []) := by
        intro n
        induction n with
        | zero => intro y5_34 y6_34 y7_34 o H locs ls hf; exact (ob_n hf).elim
        | succ n ih =>
          intro y5_34 y6_34 y7_34 o H locs ls hf hP hS hl kk
          rw [f_X4_settle_34_s] at hf
          refine lv_iload hx hb dX4_settle_34 (lv_at hl 6 rfl) ?_
          refine lv_iload_n hx hb dX4_settle_36 rfl (lv_at hl 3 rfl) ?_
          refine lv_icmp_ge (tgt := 91) hx hb dX4_settle_37 (by decide) (fun c7 => ?_) (fun c7 => ?_)
          · have hf := ob_t c7 hf
            obtain rfl := Option.some.inj hf
            exact kk _ _ _ hP hS (lv_sub hl [0, 1, 4, 5] rfl)
          · have hf := ob_f c7 hf
            refine lv_iload_n hx hb dX4_settle_40 rfl (lv_at hl 2 rfl) ?_
            refine lv_iload hx hb dX4_settle_41 (lv_at hl 6 rfl) ?_
            refine lv_ishr hx hb dX4_settle_43 ?_
            refine lv_iconst (v := 1) hx hb dX4_settle_44 (by decide) ?_
            refine lv_iand hx hb dX4_settle_45 ?_
            refine ob_J (P := fun w8 => ∀ (H : Heap) (locs : List Loc) (ls : Array Slot), va_P D vwCl [(a_t, .inr (4, [.ref a_kind, .ref a_wicked, .int v_known])), (a_wicked, eI cI 4096 v_wicked), (a_kind, eI cI 4096 v_kind)] H → va_S A s.heap H locs → lv_has ls 8 [(0, .ref a_t), (1, .int x1), (2, .int x2), (3, .int x3), (5, .int w8.1), (6, .int w8.2), (7, .int y7_34)] → W p l e { frames := 1, cells := 0, slots := 0, locals := 21 } s m args below meth c H locs 0 0 Q (F0 m 85 ls [])) hf ?_ ?_
            · intro w8 hf H locs ls hP hS hl
              refine lv_iinc (v := (y7_34 + 1)) (lv' := [(7, .int (y7_34 + 1)), (0, .ref a_t), (1, .int x1), (2, .int x2), (3, .int x3), (5, .int w8.1), (6, .int w8.2)]) hx hb dX4_settle_85 hl (k := 6) rfl rfl (by decide) rfl (fun ls hl => ?_)
              refine lv_goto (tgt := 34) hx hb dX4_settle_88 (by decide) ?_
              exact ih w8.1 w8.2 (y7_34 + 1) _ _ _ _ hf hP hS (lv_sub hl [1, 2, 3, 4, 5, 6, 0] rfl) kk
            · intro J85_9 hf
              refine lv_if_eq (tgt := 85) hx hb dX4_settle_46 (by decide) (fun c10 => ?_) (fun c10 => ?_)
              · have hf := ob_tk c10 hf
                exact J85_9 (y5_34, y6_34) hf _ _ _ hP hS (lv_sub hl [0, 1, 2, 3, 4, 5, 6] rfl)
              · have hf := ob_fk c10 hf
                refine lv_iload hx hb dX4_settle_49 (lv_at hl 4 rfl) ?_
                refine lv_aload_n hx hb dX4_settle_51 rfl (lv_at hl 0 rfl) ?_
                refine gf_X4_15 Cx hP 0 rfl rfl dX4_settle_52 ?_
                refine lv_iload_n hx hb dX4_settle_55 rfl (lv_at hl 1 rfl) ?_
                refine lv_iconst (v := 1) hx hb dX4_settle_56 (by decide) ?_
                refine lv_iload hx hb dX4_settle_57 (lv_at hl 6 rfl) ?_
                refine lv_ishl hx hb dX4_settle_59 ?_
                refine lv_ior hx hb dX4_settle_60 ?_
                obtain ⟨u11, hu11, hf⟩ := ob_bk hf
                refine ba_iald Cx hP 1 rfl hu11 dX4_settle_61 ?_
                refine ba_mmax Cx (hts _ kw_537) hl.1 (Nat.le_of_ble_eq_true rfl) (Nat.le_of_ble_eq_true rfl) (Nat.zero_le _) (Nat.zero_le _) dX4_settle_62 ?_
                refine lv_istore (lv' := [(5, .int (imax y5_34 u11)), (0, .ref a_t), (1, .int x1), (2, .int x2), (3, .int x3), (6, .int y6_34), (7, .int y7_34)]) hx hb dX4_settle_65 hl (by decide) rfl (fun ls hl => ?_)
                refine lv_iload hx hb dX4_settle_67 (lv_at hl 5 rfl) ?_
                refine lv_aload_n hx hb dX4_settle_69 rfl (lv_at hl 1 rfl) ?_
                refine gf_X4_9 Cx hP 0 rfl rfl dX4_settle_70 ?_
                refine lv_iload_n hx hb dX4_settle_73 rfl (lv_at hl 2 rfl) ?_
                refine lv_iconst (v := 1) hx hb dX4_settle_74 (by decide) ?_
                refine lv_iload hx hb dX4_settle_75 (lv_at hl 6 rfl) ?_
                refine lv_ishl hx hb dX4_settle_77 ?_
                refine lv_ior hx hb dX4_settle_78 ?_
                obtain ⟨u12, hu12, hf⟩ := ob_bk hf
                refine ba_iald Cx hP 2 rfl hu12 dX4_settle_79 ?_
                refine ba_mmin Cx (hts _ kw_540) hl.1 (Nat.le_of_ble_eq_true rfl) (Nat.le_of_ble_eq_true rfl) (Nat.zero_le _) (Nat.zero_le _) dX4_settle_80 ?_
                refine lv_istore (lv' := [(6, .int (imin y6_34 u12)), (5, .int (imax y5_34 u11)), (0, .ref a_t), (1, .int x1), (2, .int x2), (3, .int x3), (7, .int y7_34)]) hx hb dX4_settle_83 hl (by decide) rfl (fun ls hl => ?_)
                exact J85_9 ((imax y5_34 u11), (imin y6_34 u12)) hf _ _ _ hP hS (lv_sub hl [2, 3, 4, 5, 1, 0, 6] rfl)
      obtain ⟨u13, hu13, hf⟩ := ob_b hf
      refine L34_6 FU w2 w4 (0 : Int32) u13 _ _ _ hu13 hP hS (lv_sub hl [2, 3, 4, 5, 6, 1, 0] rfl) ?_
      intro H locs ls hP hS hl
      refine lv_aload_n hx hb dX4_settle_91 rfl (lv_at hl 0 rfl) ?_
      refine gf_X4_9 Cx hP 0 rfl rfl dX4_settle_92 ?_
      refine lv_iload_n hx hb dX4_settle_95 rfl (lv_at hl 1 rfl) ?_
      refine lv_iload hx hb dX4_settle_96 (lv_at hl 2 rfl) ?_
      obtain ⟨u14, hu14, hf⟩ := ob_b hf
      refine ba_iast (X' := [(a_t, .inr (4, [.ref a_kind, .ref a_wicked, .int v_known])), (a_wicked, eI cI 4096 v_wicked), (a_kind, eI cI 4096 u14)]) Cx hP hS rfl 2 rfl rfl hu14 dX4_settle_98 (fun H locs hP hS => ?_)
      refine lv_aload_n hx hb dX4_settle_99 rfl (lv_at hl 0 rfl) ?_
      refine gf_X4_15 Cx hP 0 rfl rfl dX4_settle_100 ?_
      refine lv_iload_n hx hb dX4_settle_103 rfl (lv_at hl 1 rfl) ?_
      refine lv_iload hx hb dX4_settle_104 (lv_at hl 3 rfl) ?_
      obtain ⟨u15, hu15, hf⟩ := ob_b hf
      refine ba_iast (X' := [(a_t, .inr (4, [.ref a_kind, .ref a_wicked, .int v_known])), (a_wicked, eI cI 4096 u15), (a_kind, eI cI 4096 u14)]) Cx hP hS rfl 1 rfl rfl hu15 dX4_settle_106 (fun H locs hP hS => ?_)
      obtain rfl := Option.some.inj hf
      exact ret _ _ _ _ dX4_settle_107 hP hS
    · intro J29_5 hf
      refine lv_if_ne (tgt := 27) hx hb dX4_settle_19 (by decide) (fun c16 => ?_) (fun c16 => ?_)
      · have hf := ob_fk c16 hf
        refine lv_bipush (v := 12) hx hb dX4_settle_27 (by decide) ?_
        exact J29_5 (12 : Int32) hf _ _ _ hP hS (lv_sub hl [1, 2, 3, 4, 0] rfl)
      · have hf := ob_tk c16 hf
        refine lv_iload hx hb dX4_settle_22 (lv_at hl 5 rfl) ?_
        refine lv_goto (tgt := 29) hx hb dX4_settle_24 (by decide) ?_
        exact J29_5 u1 hf _ _ _ hP hS (lv_sub hl [1, 2, 3, 4, 0] rfl)
  · intro J16_3 hf
    refine lv_if_ne (tgt := 15) hx hb dX4_settle_7 (by decide) (fun c17 => ?_) (fun c17 => ?_)
    · have hf := ob_fk c17 hf
      refine lv_iconst (v := 0) hx hb dX4_settle_15 (by decide) ?_
      exact J16_3 (0 : Int32) hf _ _ _ hP hS (lv_sub hl [1, 2, 3, 4, 0] rfl)
    · have hf := ob_tk c17 hf
      refine lv_iload hx hb dX4_settle_10 (lv_at hl 0 rfl) ?_
      refine lv_goto (tgt := 16) hx hb dX4_settle_12 (by decide) ?_
      exact J16_3 u1 hf _ _ _ hP hS (lv_sub hl [1, 2, 3, 4, 0] rfl)

def f_X4_play_37 (u3 : Int32 × Int32 × (Nat → Int32) × (Nat → Int32)) : Nat → Int32 → (Nat → Int32) → (Nat → Int32) → Option ((Nat → Int32) × (Nat → Int32))
  | 0, _, _, _ => none
  | n + 1, y3_37, z_wicked_37, z_kind_37 =>
  if y3_37 < 0 then
  some (z_wicked_37, z_kind_37)
  else
  (aget 4096 u3.2.2.1 y3_37).bind (fun u6 =>
  (aget 4096 u3.2.2.2 y3_37).bind (fun u7 =>
  (f_X4_settle z_wicked_37 z_kind_37 u6 u7 u3.2.1).bind (fun u8 =>
  f_X4_play_37 u3 n (y3_37 + (-1)) u8.1 u8.2)))
theorem f_X4_play_37_s (u3 : Int32 × Int32 × (Nat → Int32) × (Nat → Int32)) (n : Nat) (y3_37 : Int32) (z_wicked_37 : Nat → Int32) (z_kind_37 : Nat → Int32) : f_X4_play_37 u3 (n + 1) y3_37 z_wicked_37 z_kind_37 =
  (if y3_37 < 0 then
  some (z_wicked_37, z_kind_37)
  else
  (aget 4096 u3.2.2.1 y3_37).bind (fun u6 =>
  (aget 4096 u3.2.2.2 y3_37).bind (fun u7 =>
  (f_X4_settle z_wicked_37 z_kind_37 u6 u7 u3.2.1).bind (fun u8 =>
  f_X4_play_37 u3 n (y3_37 + (-1)) u8.1 u8.2)))) := rfl
def f_X4_play (v_known : Int32) (v_p1_scene_seats : Int32) (v_p2_size : Int32) (v_p2_places : Int32) (v_p2_filled : Nat → Int32) (v_p2_open : Nat → Int32) (v_p1_clash : Nat → Int32) (v_wicked : Nat → Int32) (v_kind : Nat → Int32) : Option (Int32 × Int32 × Int32 × (Nat → Int32) × (Nat → Int32) × (Nat → Int32) × (Nat → Int32)) :=
  if v_known = 0 then
  (f_X7_allSeats v_p1_scene_seats).bind (fun u2 =>
  (f_X8_list v_p2_filled v_p2_open v_p1_clash v_p1_scene_seats u2).bind (fun u3 =>
  (f_X4_play_37 u3 FU (u3.1 - (1 : Int32)) v_wicked v_kind).bind (fun u9 =>
  some ((1 : Int32), u3.1, u3.2.1, u3.2.2.1, u3.2.2.2, u9.1, u9.2))))
  else
  some (v_known, v_p2_size, v_p2_places, v_p2_filled, v_p2_open, v_wicked, v_kind)
set_option maxHeartbeats 4000000 in
set_option maxRecDepth 100000 in
theorem c_X4_play (l : Launch) (D : va_G) (cI cJ cZ cO : ClassId) (a_t a_kind a_wicked a_p1 a_p1_scene a_p1_apart a_p1_clash a_p1_neighbours a_p1_scene_steps a_p1_scene_worths a_p1_scene_comers a_p1_scene_seen a_p1_scene_seenLengths a_p2 a_p2_filled a_p2_open a_p2_chance : Nat) (v_known : Int32) (v_p1_scene_seats : Int32) (v_p1_scene_bear : Int32) (v_p1_scene_comerCount : Int32) (v_p1_scene_seenRows : Int32) (v_p2_size : Int32) (v_p2_places : Int32) (v_p2_filled : Nat → Int32) (v_p2_open : Nat → Int32) (v_p1_clash : Nat → Int32) (v_wicked : Nat → Int32) (v_kind : Nat → Int32) (out : Int32 × Int32 × Int32 × (Nat → Int32) × (Nat → Int32) × (Nat → Int32) × (Nat → Int32)) (hf : f_X4_play v_known v_p1_scene_seats v_p2_size v_p2_places v_p2_filled v_p2_open v_p1_clash v_wicked v_kind = some out) : MetR l yX4_play (Cond.code yX4_play cX4_play 4 none :: tbG) { frames := 2, cells := 0, slots := 0, locals := 48 } D (tyL cI cJ cZ cO) [.ref a_t, .ref a_p1, .ref a_p2] [(a_t, .inr (4, [.ref a_kind, .ref a_wicked, .int v_known])), (a_p1, .inr (0, [.ref a_p1_scene, .ref a_p1_apart, .ref a_p1_clash, .ref a_p1_neighbours])), (a_p1_scene, .inr (7, [.ref a_p1_scene_steps, .ref a_p1_scene_worths, .ref a_p1_scene_comers, .ref a_p1_scene_seen, .ref a_p1_scene_seenLengths, .int v_p1_scene_seats, .int v_p1_scene_bear, .int v_p1_scene_comerCount, .int v_p1_scene_seenRows])), (a_p2, .inr (8, [.ref a_p2_filled, .ref a_p2_open, .ref a_p2_chance, .int v_p2_size, .int v_p2_places])), (a_p2_filled, eI cI 4096 v_p2_filled), (a_p2_open, eI cI 4096 v_p2_open), (a_p1_clash, eI cI 12 v_p1_clash), (a_wicked, eI cI 4096 v_wicked), (a_kind, eI cI 4096 v_kind)] none [(a_t, .inr (4, [.ref a_kind, .ref a_wicked, .int out.1])), (a_p1, .inr (0, [.ref a_p1_scene, .ref a_p1_apart, .ref a_p1_clash, .ref a_p1_neighbours])), (a_p1_scene, .inr (7, [.ref a_p1_scene_steps, .ref a_p1_scene_worths, .ref a_p1_scene_comers, .ref a_p1_scene_seen, .ref a_p1_scene_seenLengths, .int v_p1_scene_seats, .int v_p1_scene_bear, .int v_p1_scene_comerCount, .int v_p1_scene_seenRows])), (a_p2, .inr (8, [.ref a_p2_filled, .ref a_p2_open, .ref a_p2_chance, .int out.2.1, .int out.2.2.1])), (a_p2_filled, eI cI 4096 out.2.2.2.1), (a_p2_open, eI cI 4096 out.2.2.2.2.1), (a_p1_clash, eI cI 12 v_p1_clash), (a_wicked, eI cI 4096 out.2.2.2.2.2.1), (a_kind, eI cI 4096 out.2.2.2.2.2.2)] := by
  refine ba_ofV RX4 [(0, .ref a_t), (1, .ref a_p1), (2, .ref a_p2)] (by decide +kernel) rfl (Nat.le_of_ble_eq_true rfl) rfl ?_
  intro p e s m args below meth c Q A Cx hP ret ls hl
  obtain ⟨⟨hx, hb, hml, hown, hts⟩, hK, hD, hA⟩ := id Cx
  have hS : va_S A s.heap s.heap [] := va_S.rf
  unfold f_X4_play at hf
  refine lv_aload_n hx hb dX4_play_0 rfl (lv_at hl 0 rfl) ?_
  refine gf_X4_18 Cx hP 0 rfl rfl dX4_play_1 ?_
  refine lv_if_eq (tgt := 8) hx hb dX4_play_4 (by decide) (fun c1 => ?_) (fun c1 => ?_)
  · have hf := ob_t c1 hf
    refine lv_aload_n hx hb dX4_play_8 rfl (lv_at hl 2 rfl) ?_
    refine lv_aload_n hx hb dX4_play_9 rfl (lv_at hl 1 rfl) ?_
    refine gf_X4_22 Cx hP 1 rfl rfl dX4_play_10 ?_
    refine lv_aload_n hx hb dX4_play_13 rfl (lv_at hl 1 rfl) ?_
    refine gf_X4_27 Cx hP 1 rfl rfl dX4_play_14 ?_
    refine gf_X4_31 Cx hP 2 rfl rfl dX4_play_17 ?_
    refine lv_aload_n hx hb dX4_play_20 rfl (lv_at hl 1 rfl) ?_
    refine gf_X4_27 Cx hP 1 rfl rfl dX4_play_21 ?_
    obtain ⟨u2, hu2, hf⟩ := ob_b hf
    refine iv_X4_37 (As := []) (rest := [.int v_p1_scene_seats, .ref a_p1_clash, .ref a_p2]) (is := [2]) (q0 := 2) (X' := [(a_t, .inr (4, [.ref a_kind, .ref a_wicked, .int v_known])), (a_p1, .inr (0, [.ref a_p1_scene, .ref a_p1_apart, .ref a_p1_clash, .ref a_p1_neighbours])), (a_p1_scene, .inr (7, [.ref a_p1_scene_steps, .ref a_p1_scene_worths, .ref a_p1_scene_comers, .ref a_p1_scene_seen, .ref a_p1_scene_seenLengths, .int v_p1_scene_seats, .int v_p1_scene_bear, .int v_p1_scene_comerCount, .int v_p1_scene_seenRows])), (a_p2, .inr (8, [.ref a_p2_filled, .ref a_p2_open, .ref a_p2_chance, .int v_p2_size, .int v_p2_places])), (a_p2_filled, eI cI 4096 v_p2_filled), (a_p2_open, eI cI 4096 v_p2_open), (a_p1_clash, eI cI 12 v_p1_clash), (a_wicked, eI cI 4096 v_wicked), (a_kind, eI cI 4096 v_kind)]) Cx (c_X7_allSeats l D cI cJ cZ cO a_p1_scene a_p1_scene_steps a_p1_scene_worths a_p1_scene_comers a_p1_scene_seen a_p1_scene_seenLengths v_p1_scene_seats v_p1_scene_bear v_p1_scene_comerCount v_p1_scene_seenRows u2 hu2) hP hS rfl rfl rfl rfl rfl rfl rfl hl.1 (Nat.le_of_ble_eq_true rfl) dX4_play_24 rfl rfl ⟨Nat.le_of_ble_eq_true rfl, Nat.le_of_ble_eq_true rfl⟩ ⟨Nat.zero_le _, Nat.zero_le _⟩ rfl (fun H locs hP hS => ?_)
    obtain ⟨u3, hu3, hf⟩ := ob_b hf
    refine iv_X4_41 (As := [.ref a_p1_clash, .int v_p1_scene_seats, .int u2]) (rest := []) (is := [3, 4, 5, 6]) (q0 := 3) (X' := [(a_t, .inr (4, [.ref a_kind, .ref a_wicked, .int v_known])), (a_p1, .inr (0, [.ref a_p1_scene, .ref a_p1_apart, .ref a_p1_clash, .ref a_p1_neighbours])), (a_p1_scene, .inr (7, [.ref a_p1_scene_steps, .ref a_p1_scene_worths, .ref a_p1_scene_comers, .ref a_p1_scene_seen, .ref a_p1_scene_seenLengths, .int v_p1_scene_seats, .int v_p1_scene_bear, .int v_p1_scene_comerCount, .int v_p1_scene_seenRows])), (a_p2, .inr (8, [.ref a_p2_filled, .ref a_p2_open, .ref a_p2_chance, .int u3.1, .int u3.2.1])), (a_p2_filled, eI cI 4096 u3.2.2.1), (a_p2_open, eI cI 4096 u3.2.2.2), (a_p1_clash, eI cI 12 v_p1_clash), (a_wicked, eI cI 4096 v_wicked), (a_kind, eI cI 4096 v_kind)]) Cx (c_X8_list l D cI cJ cZ cO a_p2 a_p2_filled a_p2_open a_p2_chance a_p1_clash v_p2_size v_p2_places v_p2_filled v_p2_open v_p1_clash v_p1_scene_seats u2 u3 hu3) hP hS rfl rfl rfl rfl rfl rfl rfl hl.1 (Nat.le_of_ble_eq_true rfl) dX4_play_27 rfl rfl ⟨Nat.le_of_ble_eq_true rfl, Nat.le_of_ble_eq_true rfl⟩ ⟨Nat.zero_le _, Nat.zero_le _⟩ rfl (fun H locs hP hS => ?_)
    refine lv_aload_n hx hb dX4_play_30 rfl (lv_at hl 2 rfl) ?_
    refine gf_X4_47 Cx hP 3 rfl rfl dX4_play_31 ?_
    refine lv_iconst (v := 1) hx hb dX4_play_34 (by decide) ?_
    refine lv_isub hx hb dX4_play_35 ?_
    refine lv_istore_n (lv' := [(3, .int (u3.1 - (1 : Int32))), (0, .ref a_t), (1, .ref a_p1), (2, .ref a_p2)]) hx hb dX4_play_36 rfl hl (by decide) rfl (fun ls hl => ?_)
    have L37_4 : ∀ (n : Nat) (y3_37 : Int32) (z_wicked_37 : Nat → Int32) (z_kind_37 : Nat → Int32) (o : (Nat → Int32) × (Nat → Int32)) (H : Heap) (locs : List Loc) (ls : Array Slot), f_X4_play_37 u3 n y3_37 z_wicked_37 z_kind_37 = some o → va_P D vwCl [(a_t, .inr (4, [.ref a_kind, .ref a_wicked, .int v_known])), (a_p1, .inr (0, [.ref a_p1_scene, .ref a_p1_apart, .ref a_p1_clash, .ref a_p1_neighbours])), (a_p1_scene, .inr (7, [.ref a_p1_scene_steps, .ref a_p1_scene_worths, .ref a_p1_scene_comers, .ref a_p1_scene_seen, .ref a_p1_scene_seenLengths, .int v_p1_scene_seats, .int v_p1_scene_bear, .int v_p1_scene_comerCount, .int v_p1_scene_seenRows])), (a_p2, .inr (8, [.ref a_p2_filled, .ref a_p2_open, .ref a_p2_chance, .int u3.1, .int u3.2.1])), (a_p2_filled, eI cI 4096 u3.2.2.1), (a_p2_open, eI cI 4096 u3.2.2.2), (a_p1_clash, eI cI 12 v_p1_clash), (a_wicked, eI cI 4096 z_wicked_37), (a_kind, eI cI 4096 z_kind_37)] H → va_S A s.heap H locs → lv_has ls 4 [(0, .ref a_t), (2, .ref a_p2), (3, .int y3_37)] → (∀ (H : Heap) (locs : List Loc) (ls : Array Slot), va_P D vwCl [(a_t, .inr (4, [.ref a_kind, .ref a_wicked, .int v_known])), (a_p1, .inr (0, [.ref a_p1_scene, .ref a_p1_apart, .ref a_p1_clash, .ref a_p1_neighbours])), (a_p1_scene, .inr (7, [.ref a_p1_scene_steps, .ref a_p1_scene_worths, .ref a_p1_scene_comers, .ref a_p1_scene_seen, .ref a_p1_scene_seenLengths, .int v_p1_scene_seats, .int v_p1_scene_bear, .int v_p1_scene_comerCount, .int v_p1_scene_seenRows])), (a_p2, .inr (8, [.ref a_p2_filled, .ref a_p2_open, .ref a_p2_chance, .int u3.1, .int u3.2.1])), (a_p2_filled, eI cI 4096 u3.2.2.1), (a_p2_open, eI cI 4096 u3.2.2.2), (a_p1_clash, eI cI 12 v_p1_clash), (a_wicked, eI cI 4096 o.1), (a_kind, eI cI 4096 o.2)] H → va_S A s.heap H locs → lv_has ls 4 [(0, .ref a_t)] → W p l e { frames := 2, cells := 0, slots := 0, locals := 48 } s m args below meth c H locs 0 0 Q (F0 m 67 ls [])) → W p l e { frames := 2, cells := 0, slots := 0, locals := 48 } s m args below meth c H locs 0 0 Q (F0 m 37 ls []) := by
      intro n
      induction n with
      | zero => intro y3_37 z_wicked_37 z_kind_37 o H locs ls hf; exact (ob_n hf).elim
      | succ n ih =>
        intro y3_37 z_wicked_37 z_kind_37 o H locs ls hf hP hS hl kk
        rw [f_X4_play_37_s] at hf
        refine lv_iload_n hx hb dX4_play_37 rfl (lv_at hl 2 rfl) ?_
        refine lv_if_lt (tgt := 67) hx hb dX4_play_38 (by decide) (fun c5 => ?_) (fun c5 => ?_)
        · have hf := ob_t c5 hf
          obtain rfl := Option.some.inj hf
          exact kk _ _ _ hP hS (lv_sub hl [0] rfl)
        · have hf := ob_f c5 hf
          refine lv_aload_n hx hb dX4_play_41 rfl (lv_at hl 0 rfl) ?_
          refine lv_aload_n hx hb dX4_play_42 rfl (lv_at hl 1 rfl) ?_
          refine gf_X4_50 Cx hP 3 rfl rfl dX4_play_43 ?_
          refine lv_iload_n hx hb dX4_play_46 rfl (lv_at hl 2 rfl) ?_
          obtain ⟨u6, hu6, hf⟩ := ob_b hf
          refine ba_iald Cx hP 4 rfl hu6 dX4_play_47 ?_
          refine lv_aload_n hx hb dX4_play_48 rfl (lv_at hl 1 rfl) ?_
          refine gf_X4_53 Cx hP 3 rfl rfl dX4_play_49 ?_
          refine lv_iload_n hx hb dX4_play_52 rfl (lv_at hl 2 rfl) ?_
          obtain ⟨u7, hu7, hf⟩ := ob_b hf
          refine ba_iald Cx hP 5 rfl hu7 dX4_play_53 ?_
          refine lv_aload_n hx hb dX4_play_54 rfl (lv_at hl 1 rfl) ?_
          refine gf_X4_56 Cx hP 3 rfl rfl dX4_play_55 ?_
          obtain ⟨u8, hu8, hf⟩ := ob_b hf
          refine iv_X4_59 (As := [.int u6, .int u7, .int u3.2.1]) (rest := []) (is := [0, 7, 8]) (q0 := 0) (X' := [(a_t, .inr (4, [.ref a_kind, .ref a_wicked, .int v_known])), (a_p1, .inr (0, [.ref a_p1_scene, .ref a_p1_apart, .ref a_p1_clash, .ref a_p1_neighbours])), (a_p1_scene, .inr (7, [.ref a_p1_scene_steps, .ref a_p1_scene_worths, .ref a_p1_scene_comers, .ref a_p1_scene_seen, .ref a_p1_scene_seenLengths, .int v_p1_scene_seats, .int v_p1_scene_bear, .int v_p1_scene_comerCount, .int v_p1_scene_seenRows])), (a_p2, .inr (8, [.ref a_p2_filled, .ref a_p2_open, .ref a_p2_chance, .int u3.1, .int u3.2.1])), (a_p2_filled, eI cI 4096 u3.2.2.1), (a_p2_open, eI cI 4096 u3.2.2.2), (a_p1_clash, eI cI 12 v_p1_clash), (a_wicked, eI cI 4096 u8.1), (a_kind, eI cI 4096 u8.2)]) Cx (c_X4_settle l D cI cJ cZ cO a_t a_kind a_wicked v_known z_wicked_37 z_kind_37 u6 u7 u3.2.1 u8 hu8) hP hS rfl rfl rfl rfl rfl rfl rfl hl.1 (Nat.le_of_ble_eq_true rfl) dX4_play_58 rfl rfl ⟨Nat.le_of_ble_eq_true rfl, Nat.le_of_ble_eq_true rfl⟩ ⟨Nat.zero_le _, Nat.zero_le _⟩ rfl (fun H locs hP hS => ?_)
          refine lv_iinc (v := (y3_37 + (-1))) (lv' := [(3, .int (y3_37 + (-1))), (0, .ref a_t), (2, .ref a_p2)]) hx hb dX4_play_61 hl (k := 2) rfl rfl (by decide) rfl (fun ls hl => ?_)
          refine lv_goto (tgt := 37) hx hb dX4_play_64 (by decide) ?_
          exact ih (y3_37 + (-1)) u8.1 u8.2 _ _ _ _ hf hP hS (lv_sub hl [1, 2, 0] rfl) kk
    obtain ⟨u9, hu9, hf⟩ := ob_b hf
    refine L37_4 FU (u3.1 - (1 : Int32)) v_wicked v_kind u9 _ _ _ hu9 hP hS (lv_sub hl [1, 3, 0] rfl) ?_
    intro H locs ls hP hS hl
    refine lv_aload_n hx hb dX4_play_67 rfl (lv_at hl 0 rfl) ?_
    refine lv_iconst (v := 1) hx hb dX4_play_68 (by decide) ?_
    refine pf_X4_18 (X' := [(a_t, .inr (4, [.ref a_kind, .ref a_wicked, .int (1 : Int32)])), (a_p1, .inr (0, [.ref a_p1_scene, .ref a_p1_apart, .ref a_p1_clash, .ref a_p1_neighbours])), (a_p1_scene, .inr (7, [.ref a_p1_scene_steps, .ref a_p1_scene_worths, .ref a_p1_scene_comers, .ref a_p1_scene_seen, .ref a_p1_scene_seenLengths, .int v_p1_scene_seats, .int v_p1_scene_bear, .int v_p1_scene_comerCount, .int v_p1_scene_seenRows])), (a_p2, .inr (8, [.ref a_p2_filled, .ref a_p2_open, .ref a_p2_chance, .int u3.1, .int u3.2.1])), (a_p2_filled, eI cI 4096 u3.2.2.1), (a_p2_open, eI cI 4096 u3.2.2.2), (a_p1_clash, eI cI 12 v_p1_clash), (a_wicked, eI cI 4096 u9.1), (a_kind, eI cI 4096 u9.2)]) Cx hP hS rfl 0 rfl (by decide) (by decide) rfl (Nat.le_of_ble_eq_true rfl) dX4_play_69 (fun H locs hP hS => ?_)
    obtain rfl := Option.some.inj hf
    exact ret _ _ _ _ dX4_play_72 hP hS
  · have hf := ob_f c1 hf
    obtain rfl := Option.some.inj hf
    exact ret _ _ _ _ dX4_play_7 hP hS

def f_X4_result (v_wicked : Nat → Int32) (v_kind : Nat → Int32) (x1 : Int32) (x2 : Int32) : Option (Int32) :=
  (if x2 = 0 then
  (aget 4096 v_kind x1).bind (fun u5 =>
  some (u5))
  else
  (aget 4096 v_wicked x1).bind (fun u4 =>
  some (u4))).bind (fun w1 =>
  some (w1))
set_option maxHeartbeats 4000000 in
set_option maxRecDepth 100000 in
theorem c_X4_result (l : Launch) (D : va_G) (cI cJ cZ cO : ClassId) (a_t a_kind a_wicked : Nat) (v_known : Int32) (v_wicked : Nat → Int32) (v_kind : Nat → Int32) (x1 : Int32) (x2 : Int32) (out : Int32) (hf : f_X4_result v_wicked v_kind x1 x2 = some out) : MetR l yX4_result (Cond.code yX4_result cX4_result 3 (some .int) :: tbG) { frames := 0, cells := 0, slots := 0, locals := 0 } D (tyL cI cJ cZ cO) [.ref a_t, .int x1, .int x2] [(a_t, .inr (4, [.ref a_kind, .ref a_wicked, .int v_known])), (a_wicked, eI cI 4096 v_wicked), (a_kind, eI cI 4096 v_kind)] (some (.int out)) [(a_t, .inr (4, [.ref a_kind, .ref a_wicked, .int v_known])), (a_wicked, eI cI 4096 v_wicked), (a_kind, eI cI 4096 v_kind)] := by
  refine ba_ofI RX4 [(0, .ref a_t), (1, .int x1), (2, .int x2)] (by decide +kernel) rfl (Nat.le_of_ble_eq_true rfl) rfl ?_
  intro p e s m args below meth c Q A Cx hP ret ls hl
  obtain ⟨⟨hx, hb, hml, hown, hts⟩, hK, hD, hA⟩ := id Cx
  have hS : va_S A s.heap s.heap [] := va_S.rf
  unfold f_X4_result at hf
  refine lv_iload_n hx hb dX4_result_0 rfl (lv_at hl 2 rfl) ?_
  refine ob_J (P := fun w1 => ∀ (H : Heap) (locs : List Loc) (ls : Array Slot), va_P D vwCl [(a_t, .inr (4, [.ref a_kind, .ref a_wicked, .int v_known])), (a_wicked, eI cI 4096 v_wicked), (a_kind, eI cI 4096 v_kind)] H → va_S A s.heap H locs → lv_has ls 3 [] → W p l e { frames := 0, cells := 0, slots := 0, locals := 0 } s m args below meth c H locs 0 0 Q (F0 m 19 ls [.int w1])) hf ?_ ?_
  · intro w1 hf H locs ls hP hS hl
    obtain rfl := Option.some.inj hf
    exact ret _ _ _ _ dX4_result_19 hP hS
  · intro J19_2 hf
    refine lv_if_ne (tgt := 13) hx hb dX4_result_1 (by decide) (fun c3 => ?_) (fun c3 => ?_)
    · have hf := ob_fk c3 hf
      refine lv_aload_n hx hb dX4_result_13 rfl (lv_at hl 0 rfl) ?_
      refine gf_X4_15 Cx hP 0 rfl rfl dX4_result_14 ?_
      refine lv_iload_n hx hb dX4_result_17 rfl (lv_at hl 1 rfl) ?_
      obtain ⟨u4, hu4, hf⟩ := ob_bk hf
      refine ba_iald Cx hP 1 rfl hu4 dX4_result_18 ?_
      exact J19_2 u4 hf _ _ _ hP hS (lv_sub hl [] rfl)
    · have hf := ob_tk c3 hf
      refine lv_aload_n hx hb dX4_result_4 rfl (lv_at hl 0 rfl) ?_
      refine gf_X4_9 Cx hP 0 rfl rfl dX4_result_5 ?_
      refine lv_iload_n hx hb dX4_result_8 rfl (lv_at hl 1 rfl) ?_
      obtain ⟨u5, hu5, hf⟩ := ob_bk hf
      refine ba_iald Cx hP 2 rfl hu5 dX4_result_9 ?_
      refine lv_goto (tgt := 19) hx hb dX4_result_10 (by decide) ?_
      exact J19_2 u5 hf _ _ _ hP hS (lv_sub hl [] rfl)

def f_X4_bestSeat_11 (v_wicked : Nat → Int32) (v_kind : Nat → Int32) (x1 : Int32) (x2 : Int32) (x3 : Int32) (u1 : Int32) : Nat → Int32 → Option ((Unit) ⊕ (Int32))
  | 0, _ => none
  | n + 1, y5_11 =>
  if (12 : Int32) ≤ y5_11 then
  some (Sum.inl ())
  else
  if ((x2 >>> (y5_11 &&& 31)) &&& (1 : Int32)) = 0 then
  f_X4_bestSeat_11 v_wicked v_kind x1 x2 x3 u1 n (y5_11 + 1)
  else
  (f_X4_result v_wicked v_kind (x1 ||| ((1 : Int32) <<< (y5_11 &&& 31))) ((1 : Int32) - x3)).bind (fun u5 =>
  if u5 = u1 then
  some (Sum.inr (y5_11))
  else
  f_X4_bestSeat_11 v_wicked v_kind x1 x2 x3 u1 n (y5_11 + 1))
theorem f_X4_bestSeat_11_s (v_wicked : Nat → Int32) (v_kind : Nat → Int32) (x1 : Int32) (x2 : Int32) (x3 : Int32) (u1 : Int32) (n : Nat) (y5_11 : Int32) : f_X4_bestSeat_11 v_wicked v_kind x1 x2 x3 u1 (n + 1) y5_11 =
  (if (12 : Int32) ≤ y5_11 then
  some (Sum.inl ())
  else
  if ((x2 >>> (y5_11 &&& 31)) &&& (1 : Int32)) = 0 then
  f_X4_bestSeat_11 v_wicked v_kind x1 x2 x3 u1 n (y5_11 + 1)
  else
  (f_X4_result v_wicked v_kind (x1 ||| ((1 : Int32) <<< (y5_11 &&& 31))) ((1 : Int32) - x3)).bind (fun u5 =>
  if u5 = u1 then
  some (Sum.inr (y5_11))
  else
  f_X4_bestSeat_11 v_wicked v_kind x1 x2 x3 u1 n (y5_11 + 1))) := rfl
def f_X4_bestSeat (v_wicked : Nat → Int32) (v_kind : Nat → Int32) (x1 : Int32) (x2 : Int32) (x3 : Int32) : Option (Int32) :=
  (f_X4_result v_wicked v_kind x1 x3).bind (fun u1 =>
  (f_X4_bestSeat_11 v_wicked v_kind x1 x2 x3 u1 FU (0 : Int32)).bind (fun u7 => Sum.elim (fun w8 =>
  some (-6 : Int32)) (fun r => some r) u7))
set_option maxHeartbeats 4000000 in
set_option maxRecDepth 100000 in
theorem c_X4_bestSeat (l : Launch) (D : va_G) (cI cJ cZ cO : ClassId) (a_t a_kind a_wicked : Nat) (v_known : Int32) (v_wicked : Nat → Int32) (v_kind : Nat → Int32) (x1 : Int32) (x2 : Int32) (x3 : Int32) (out : Int32) (hf : f_X4_bestSeat v_wicked v_kind x1 x2 x3 = some out) : MetR l yX4_bestSeat (Cond.code yX4_bestSeat cX4_bestSeat 6 (some .int) :: tbG) { frames := 1, cells := 0, slots := 0, locals := 22 } D (tyL cI cJ cZ cO) [.ref a_t, .int x1, .int x2, .int x3] [(a_t, .inr (4, [.ref a_kind, .ref a_wicked, .int v_known])), (a_wicked, eI cI 4096 v_wicked), (a_kind, eI cI 4096 v_kind)] (some (.int out)) [(a_t, .inr (4, [.ref a_kind, .ref a_wicked, .int v_known])), (a_wicked, eI cI 4096 v_wicked), (a_kind, eI cI 4096 v_kind)] := by
  refine ba_ofI RX4 [(0, .ref a_t), (1, .int x1), (2, .int x2), (3, .int x3)] (by decide +kernel) rfl (Nat.le_of_ble_eq_true rfl) rfl ?_
  intro p e s m args below meth c Q A Cx hP ret ls hl
  obtain ⟨⟨hx, hb, hml, hown, hts⟩, hK, hD, hA⟩ := id Cx
  have hS : va_S A s.heap s.heap [] := va_S.rf
  unfold f_X4_bestSeat at hf
  refine lv_aload_n hx hb dX4_bestSeat_0 rfl (lv_at hl 0 rfl) ?_
  refine lv_iload_n hx hb dX4_bestSeat_1 rfl (lv_at hl 1 rfl) ?_
  refine lv_iload_n hx hb dX4_bestSeat_2 rfl (lv_at hl 3 rfl) ?_
  obtain ⟨u1, hu1, hf⟩ := ob_b hf
  refine iv_X4_78 (As := [.int x1, .int x3]) (rest := []) (is := [0, 1, 2]) (q0 := 0) (X' := [(a_t, .inr (4, [.ref a_kind, .ref a_wicked, .int v_known])), (a_wicked, eI cI 4096 v_wicked), (a_kind, eI cI 4096 v_kind)]) Cx (c_X4_result l D cI cJ cZ cO a_t a_kind a_wicked v_known v_wicked v_kind x1 x3 u1 hu1) hP hS rfl rfl rfl rfl rfl rfl rfl hl.1 (Nat.le_of_ble_eq_true rfl) dX4_bestSeat_3 rfl rfl ⟨Nat.le_of_ble_eq_true rfl, Nat.le_of_ble_eq_true rfl⟩ ⟨Nat.zero_le _, Nat.zero_le _⟩ rfl (fun H locs hP hS => ?_)
  refine lv_istore (lv' := [(4, .int u1), (0, .ref a_t), (1, .int x1), (2, .int x2), (3, .int x3)]) hx hb dX4_bestSeat_6 hl (by decide) rfl (fun ls hl => ?_)
  refine lv_iconst (v := 0) hx hb dX4_bestSeat_8 (by decide) ?_
  refine lv_istore (lv' := [(5, .int (0 : Int32)), (4, .int u1), (0, .ref a_t), (1, .int x1), (2, .int x2), (3, .int x3)]) hx hb dX4_bestSeat_9 hl (by decide) rfl (fun ls hl => ?_)
  have L11_2 : ∀ (n : Nat) (y5_11 : Int32) (o : (Unit) ⊕ (Int32)) (H : Heap) (locs : List Loc) (ls : Array Slot), f_X4_bestSeat_11 v_wicked v_kind x1 x2 x3 u1 n y5_11 = some o → va_P D vwCl [(a_t, .inr (4, [.ref a_kind, .ref a_wicked, .int v_known])), (a_wicked, eI cI 4096 v_wicked), (a_kind, eI cI 4096 v_kind)] H → va_S A s.heap H locs → lv_has ls 6 [(0, .ref a_t), (1, .int x1), (2, .int x2), (3, .int x3), (4, .int u1), (5, .int y5_11)] → (∀ w, o = Sum.inl w → ∀ (H : Heap) (locs : List Loc) (ls : Array Slot), va_P D vwCl [(a_t, .inr (4, [.ref a_kind, .ref a_wicked, .int v_known])), (a_wicked, eI cI 4096 v_wicked), (a_kind, eI cI 4096 v_kind)] H → va_S A s.heap H locs → lv_has ls 6 [] → W p l e { frames := 1, cells := 0, slots := 0, locals := 22 } s m args below meth c H locs 0 0 Q (F0 m 54 ls [])) → (∀ r, o = Sum.inr r → ∀ (pc : Nat) (H : Heap) (locs : List Loc) (ls : Array Slot), decode cX4_bestSeat pc = .ok (.ireturn, 1) → va_P D vwCl [(a_t, .inr (4, [.ref a_kind, .ref a_wicked, .int v_known])), (a_wicked, eI cI 4096 v_wicked), (a_kind, eI cI 4096 v_kind)] H → va_S A s.heap H locs → W p l e { frames := 1, cells := 0, slots := 0, locals := 22 } s m args below meth c H locs 0 0 Q (F0 m pc ls [.int r])) → W p l e { frames := 1, cells := 0, slots := 0, locals := 22 } s m args below meth c H locs 0 0 Q (F0 m 11 ls []) := by
    intro n
    induction n with
    | zero => intro y5_11 o H locs ls hf; exact (ob_n hf).elim
    | succ n ih =>
      intro y5_11 o H locs ls hf hP hS hl kk kr
      rw [f_X4_bestSeat_11_s] at hf
      refine lv_iload hx hb dX4_bestSeat_11 (lv_at hl 5 rfl) ?_
      refine lv_bipush (v := 12) hx hb dX4_bestSeat_13 (by decide) ?_
      refine lv_icmp_ge (tgt := 54) hx hb dX4_bestSeat_15 (by decide) (fun c3 => ?_) (fun c3 => ?_)
      · have hf := ob_t c3 hf
        obtain rfl := Option.some.inj hf
        exact kk _ rfl _ _ _ hP hS (lv_sub hl [] rfl)
      · have hf := ob_f c3 hf
        refine lv_iload_n hx hb dX4_bestSeat_18 rfl (lv_at hl 2 rfl) ?_
        refine lv_iload hx hb dX4_bestSeat_19 (lv_at hl 5 rfl) ?_
        refine lv_ishr hx hb dX4_bestSeat_21 ?_
        refine lv_iconst (v := 1) hx hb dX4_bestSeat_22 (by decide) ?_
        refine lv_iand hx hb dX4_bestSeat_23 ?_
        refine lv_if_eq (tgt := 48) hx hb dX4_bestSeat_24 (by decide) (fun c4 => ?_) (fun c4 => ?_)
        · have hf := ob_t c4 hf
          refine lv_iinc (v := (y5_11 + 1)) (lv' := [(5, .int (y5_11 + 1)), (0, .ref a_t), (1, .int x1), (2, .int x2), (3, .int x3), (4, .int u1)]) hx hb dX4_bestSeat_48 hl (k := 5) rfl rfl (by decide) rfl (fun ls hl => ?_)
          refine lv_goto (tgt := 11) hx hb dX4_bestSeat_51 (by decide) ?_
          exact ih (y5_11 + 1) _ _ _ _ hf hP hS (lv_sub hl [1, 2, 3, 4, 5, 0] rfl) kk kr
        · have hf := ob_f c4 hf
          refine lv_aload_n hx hb dX4_bestSeat_27 rfl (lv_at hl 0 rfl) ?_
          refine lv_iload_n hx hb dX4_bestSeat_28 rfl (lv_at hl 1 rfl) ?_
          refine lv_iconst (v := 1) hx hb dX4_bestSeat_29 (by decide) ?_
          refine lv_iload hx hb dX4_bestSeat_30 (lv_at hl 5 rfl) ?_
          refine lv_ishl hx hb dX4_bestSeat_32 ?_
          refine lv_ior hx hb dX4_bestSeat_33 ?_
          refine lv_iconst (v := 1) hx hb dX4_bestSeat_34 (by decide) ?_
          refine lv_iload_n hx hb dX4_bestSeat_35 rfl (lv_at hl 3 rfl) ?_
          refine lv_isub hx hb dX4_bestSeat_36 ?_
          obtain ⟨u5, hu5, hf⟩ := ob_b hf
          refine iv_X4_78 (As := [.int (x1 ||| ((1 : Int32) <<< (y5_11 &&& 31))), .int ((1 : Int32) - x3)]) (rest := []) (is := [0, 1, 2]) (q0 := 0) (X' := [(a_t, .inr (4, [.ref a_kind, .ref a_wicked, .int v_known])), (a_wicked, eI cI 4096 v_wicked), (a_kind, eI cI 4096 v_kind)]) Cx (c_X4_result l D cI cJ cZ cO a_t a_kind a_wicked v_known v_wicked v_kind (x1 ||| ((1 : Int32) <<< (y5_11 &&& 31))) ((1 : Int32) - x3) u5 hu5) hP hS rfl rfl rfl rfl rfl rfl rfl hl.1 (Nat.le_of_ble_eq_true rfl) dX4_bestSeat_37 rfl rfl ⟨Nat.le_of_ble_eq_true rfl, Nat.le_of_ble_eq_true rfl⟩ ⟨Nat.zero_le _, Nat.zero_le _⟩ rfl (fun H locs hP hS => ?_)
          refine lv_iload hx hb dX4_bestSeat_40 (lv_at hl 4 rfl) ?_
          refine lv_icmp_ne (tgt := 48) hx hb dX4_bestSeat_42 (by decide) (fun c6 => ?_) (fun c6 => ?_)
          · have hf := ob_f c6 hf
            refine lv_iinc (v := (y5_11 + 1)) (lv' := [(5, .int (y5_11 + 1)), (0, .ref a_t), (1, .int x1), (2, .int x2), (3, .int x3), (4, .int u1)]) hx hb dX4_bestSeat_48 hl (k := 5) rfl rfl (by decide) rfl (fun ls hl => ?_)
            refine lv_goto (tgt := 11) hx hb dX4_bestSeat_51 (by decide) ?_
            exact ih (y5_11 + 1) _ _ _ _ hf hP hS (lv_sub hl [1, 2, 3, 4, 5, 0] rfl) kk kr
          · have hf := ob_t c6 hf
            refine lv_iload hx hb dX4_bestSeat_45 (lv_at hl 5 rfl) ?_
            obtain rfl := Option.some.inj hf
            exact kr _ rfl _ _ _ _ dX4_bestSeat_47 hP hS
  obtain ⟨u7, hu7, hf⟩ := ob_b hf
  refine L11_2 FU (0 : Int32) u7 _ _ _ hu7 hP hS (lv_sub hl [2, 3, 4, 5, 1, 0] rfl) ?_ ?_
  · intro w8 hw H locs ls hP hS hl
    rw [hw] at hf
    have hf := ob_l hf
    refine lv_bipush (v := (-6)) hx hb dX4_bestSeat_54 (by decide) ?_
    obtain rfl := Option.some.inj hf
    exact ret _ _ _ _ dX4_bestSeat_56 hP hS
  · intro r hr pc H locs ls hd hP hS
    rw [hr] at hf
    have hf := ob_r hf
    obtain rfl := Option.some.inj hf
    exact ret _ _ _ _ hd hP hS

def f_X5_add (v_count : Int32) (v_signs : Nat → Int32) (x1 : Int32) : Option (Int32 × Int32 × (Nat → Int32)) :=
  if v_count < (30 : Int32) then
  (asetI 30 v_signs v_count x1).bind (fun u2 =>
  some ((1 : Int32), (v_count + (1 : Int32)), u2))
  else
  some ((0 : Int32), v_count, v_signs)
set_option maxHeartbeats 4000000 in
set_option maxRecDepth 100000 in
theorem c_X5_add (l : Launch) (D : va_G) (cI cJ cZ cO : ClassId) (a_t a_signs : Nat) (v_count : Int32) (v_signs : Nat → Int32) (x1 : Int32) (out : Int32 × Int32 × (Nat → Int32)) (hf : f_X5_add v_count v_signs x1 = some out) : MetR l yX5_add (Cond.code yX5_add cX5_add 2 (some .boolean) :: tbG) { frames := 0, cells := 0, slots := 0, locals := 0 } D (tyL cI cJ cZ cO) [.ref a_t, .int x1] [(a_t, .inr (5, [.ref a_signs, .int v_count])), (a_signs, eI cI 30 v_signs)] (some (.int out.1)) [(a_t, .inr (5, [.ref a_signs, .int out.2.1])), (a_signs, eI cI 30 out.2.2)] := by
  refine ba_ofZ RX5 [(0, .ref a_t), (1, .int x1)] (by decide +kernel) rfl (Nat.le_of_ble_eq_true rfl) rfl ?_
  intro p e s m args below meth c Q A Cx hP ret ls hl
  obtain ⟨⟨hx, hb, hml, hown, hts⟩, hK, hD, hA⟩ := id Cx
  have hS : va_S A s.heap s.heap [] := va_S.rf
  unfold f_X5_add at hf
  refine lv_aload_n hx hb dX5_add_0 rfl (lv_at hl 0 rfl) ?_
  refine gf_X5_15 Cx hP 0 rfl rfl dX5_add_1 ?_
  refine lv_bipush (v := 30) hx hb dX5_add_4 (by decide) ?_
  refine lv_icmp_lt (tgt := 11) hx hb dX5_add_6 (by decide) (fun c1 => ?_) (fun c1 => ?_)
  · have hf := ob_t c1 hf
    refine lv_aload_n hx hb dX5_add_11 rfl (lv_at hl 0 rfl) ?_
    refine gf_X5_9 Cx hP 0 rfl rfl dX5_add_12 ?_
    refine lv_aload_n hx hb dX5_add_15 rfl (lv_at hl 0 rfl) ?_
    refine gf_X5_15 Cx hP 0 rfl rfl dX5_add_16 ?_
    refine lv_iload_n hx hb dX5_add_19 rfl (lv_at hl 1 rfl) ?_
    obtain ⟨u2, hu2, hf⟩ := ob_b hf
    refine ba_iast (X' := [(a_t, .inr (5, [.ref a_signs, .int v_count])), (a_signs, eI cI 30 u2)]) Cx hP hS rfl 1 rfl rfl hu2 dX5_add_20 (fun H locs hP hS => ?_)
    refine lv_aload_n hx hb dX5_add_21 rfl (lv_at hl 0 rfl) ?_
    refine lv_dup hx hb dX5_add_22 rfl ?_
    refine gf_X5_15 Cx hP 0 rfl rfl dX5_add_23 ?_
    refine lv_iconst (v := 1) hx hb dX5_add_26 (by decide) ?_
    refine lv_iadd hx hb dX5_add_27 ?_
    refine pf_X5_15 (X' := [(a_t, .inr (5, [.ref a_signs, .int (v_count + (1 : Int32))])), (a_signs, eI cI 30 u2)]) Cx hP hS rfl 0 rfl rfl (Nat.le_of_ble_eq_true rfl) dX5_add_28 (fun H locs hP hS => ?_)
    refine lv_iconst (v := 1) hx hb dX5_add_31 (by decide) ?_
    obtain rfl := Option.some.inj hf
    exact ret _ _ _ _ _ rfl (by decide) dX5_add_32 hP hS
  · have hf := ob_f c1 hf
    refine lv_iconst (v := 0) hx hb dX5_add_9 (by decide) ?_
    obtain rfl := Option.some.inj hf
    exact ret _ _ _ _ _ rfl (by decide) dX5_add_10 hP hS

def f_X5_canStand (x0 : Int32) (x1 : Int32) : Option (Int32) :=
  if x0 = (64 : Int32) then
  (if x1 ≤ 0 then
  some (0 : Int32)
  else
  some (1 : Int32)).bind (fun w2 =>
  (oz w2).bind (fun u4 =>
  some (u4)))
  else if x0 = (111 : Int32) then
  (if (12 : Int32) ≤ x1 then
  some (0 : Int32)
  else
  some (1 : Int32)).bind (fun w7 =>
  (oz w7).bind (fun u9 =>
  some (u9)))
  else 
  (if x0 = (45 : Int32) then
  some (1 : Int32)
  else
  if x0 = (124 : Int32) then
  some (1 : Int32)
  else
  some (0 : Int32)).bind (fun w11 =>
  (oz w11).bind (fun u13 =>
  some (u13)))
set_option maxHeartbeats 4000000 in
set_option maxRecDepth 100000 in
theorem c_X5_canStand (l : Launch) (D : va_G) (cI cJ cZ cO : ClassId) (x0 : Int32) (x1 : Int32) (out : Int32) (hf : f_X5_canStand x0 x1 = some out) : MetR l yX5_canStand (Cond.code yX5_canStand cX5_canStand 2 (some .boolean) :: tbG) { frames := 0, cells := 0, slots := 0, locals := 0 } D (tyL cI cJ cZ cO) [.int x0, .int x1] [] (some (.int out)) [] := by
  refine ba_ofZ RX5 [(0, .int x0), (1, .int x1)] (by decide +kernel) rfl (Nat.le_of_ble_eq_true rfl) rfl ?_
  intro p e s m args below meth c Q A Cx hP ret ls hl
  obtain ⟨⟨hx, hb, hml, hown, hts⟩, hK, hD, hA⟩ := id Cx
  have hS : va_S A s.heap s.heap [] := va_S.rf
  unfold f_X5_canStand at hf
  refine lv_iload_n hx hb dX5_canStand_0 rfl (lv_at hl 0 rfl) ?_
  by_cases c1 : x0 = (64 : Int32)
  · have hf := ob_t c1 hf
    refine ba_topi c1 ?_
    refine lv_lookup (tgt := 40) hx hb dX5_canStand_1 (by decide) rfl (by decide) ?_
    refine lv_iload_n hx hb dX5_canStand_40 rfl (lv_at hl 1 rfl) ?_
    refine ob_J (P := fun w2 => ∀ (H : Heap) (locs : List Loc) (ls : Array Slot), va_P D vwCl [] H → va_S A s.heap H locs → lv_has ls 2 [] → W p l e { frames := 0, cells := 0, slots := 0, locals := 0 } s m args below meth c H locs 0 0 Q (F0 m 49 ls [.int w2])) hf ?_ ?_
    · intro w2 hf H locs ls hP hS hl
      obtain ⟨u4, hu4, hf⟩ := ob_b hf
      obtain ⟨hz1, hz2⟩ := oz_ok hu4
      obtain rfl := Option.some.inj hf
      exact ret _ _ _ _ _ hz1 hz2 dX5_canStand_49 hP hS
    · intro J49_3 hf
      refine lv_if_le (tgt := 48) hx hb dX5_canStand_41 (by decide) (fun c5 => ?_) (fun c5 => ?_)
      · have hf := ob_tk c5 hf
        refine lv_iconst (v := 0) hx hb dX5_canStand_48 (by decide) ?_
        exact J49_3 (0 : Int32) hf _ _ _ hP hS (lv_sub hl [] rfl)
      · have hf := ob_fk c5 hf
        refine lv_iconst (v := 1) hx hb dX5_canStand_44 (by decide) ?_
        refine lv_goto (tgt := 49) hx hb dX5_canStand_45 (by decide) ?_
        exact J49_3 (1 : Int32) hf _ _ _ hP hS (lv_sub hl [] rfl)
  have hf := ob_f c1 hf
  by_cases c6 : x0 = (111 : Int32)
  · have hf := ob_t c6 hf
    refine ba_topi c6 ?_
    refine lv_lookup (tgt := 28) hx hb dX5_canStand_1 (by decide) rfl (by decide) ?_
    refine lv_iload_n hx hb dX5_canStand_28 rfl (lv_at hl 1 rfl) ?_
    refine lv_bipush (v := 12) hx hb dX5_canStand_29 (by decide) ?_
    refine ob_J (P := fun w7 => ∀ (H : Heap) (locs : List Loc) (ls : Array Slot), va_P D vwCl [] H → va_S A s.heap H locs → lv_has ls 2 [] → W p l e { frames := 0, cells := 0, slots := 0, locals := 0 } s m args below meth c H locs 0 0 Q (F0 m 39 ls [.int w7])) hf ?_ ?_
    · intro w7 hf H locs ls hP hS hl
      obtain ⟨u9, hu9, hf⟩ := ob_b hf
      obtain ⟨hz1, hz2⟩ := oz_ok hu9
      obtain rfl := Option.some.inj hf
      exact ret _ _ _ _ _ hz1 hz2 dX5_canStand_39 hP hS
    · intro J39_8 hf
      refine lv_icmp_ge (tgt := 38) hx hb dX5_canStand_31 (by decide) (fun c10 => ?_) (fun c10 => ?_)
      · have hf := ob_tk c10 hf
        refine lv_iconst (v := 0) hx hb dX5_canStand_38 (by decide) ?_
        exact J39_8 (0 : Int32) hf _ _ _ hP hS (lv_sub hl [] rfl)
      · have hf := ob_fk c10 hf
        refine lv_iconst (v := 1) hx hb dX5_canStand_34 (by decide) ?_
        refine lv_goto (tgt := 39) hx hb dX5_canStand_35 (by decide) ?_
        exact J39_8 (1 : Int32) hf _ _ _ hP hS (lv_sub hl [] rfl)
  have hf := ob_f c6 hf
  refine lv_lookup (tgt := 50) hx hb dX5_canStand_1 (by decide) (ba_look2 c1 c6) (by decide) ?_
  refine lv_iload_n hx hb dX5_canStand_50 rfl (lv_at hl 0 rfl) ?_
  refine lv_bipush (v := 45) hx hb dX5_canStand_51 (by decide) ?_
  refine ob_J (P := fun w11 => ∀ (H : Heap) (locs : List Loc) (ls : Array Slot), va_P D vwCl [] H → va_S A s.heap H locs → lv_has ls 2 [] → W p l e { frames := 0, cells := 0, slots := 0, locals := 0 } s m args below meth c H locs 0 0 Q (F0 m 67 ls [.int w11])) hf ?_ ?_
  · intro w11 hf H locs ls hP hS hl
    obtain ⟨u13, hu13, hf⟩ := ob_b hf
    obtain ⟨hz1, hz2⟩ := oz_ok hu13
    obtain rfl := Option.some.inj hf
    exact ret _ _ _ _ _ hz1 hz2 dX5_canStand_67 hP hS
  · intro J67_12 hf
    refine lv_icmp_eq (tgt := 62) hx hb dX5_canStand_53 (by decide) (fun c14 => ?_) (fun c14 => ?_)
    · have hf := ob_tk c14 hf
      refine lv_iconst (v := 1) hx hb dX5_canStand_62 (by decide) ?_
      refine lv_goto (tgt := 67) hx hb dX5_canStand_63 (by decide) ?_
      exact J67_12 (1 : Int32) hf _ _ _ hP hS (lv_sub hl [] rfl)
    · have hf := ob_fk c14 hf
      refine lv_iload_n hx hb dX5_canStand_56 rfl (lv_at hl 0 rfl) ?_
      refine lv_bipush (v := 124) hx hb dX5_canStand_57 (by decide) ?_
      refine lv_icmp_ne (tgt := 66) hx hb dX5_canStand_59 (by decide) (fun c15 => ?_) (fun c15 => ?_)
      · have hf := ob_fk c15 hf
        refine lv_iconst (v := 0) hx hb dX5_canStand_66 (by decide) ?_
        exact J67_12 (0 : Int32) hf _ _ _ hP hS (lv_sub hl [] rfl)
      · have hf := ob_tk c15 hf
        refine lv_iconst (v := 1) hx hb dX5_canStand_62 (by decide) ?_
        refine lv_goto (tgt := 67) hx hb dX5_canStand_63 (by decide) ?_
        exact J67_12 (1 : Int32) hf _ _ _ hP hS (lv_sub hl [] rfl)

def f_X5_firstFault_6 (v_count : Int32) (v_signs : Nat → Int32) : Nat → Int32 → Int32 → Int32 → Option ((Int32) ⊕ (Int32))
  | 0, _, _, _ => none
  | n + 1, y1_6, y2_6, y3_6 =>
  if v_count ≤ y3_6 then
  some (Sum.inl (y1_6))
  else
  (aget 30 v_signs y3_6).bind (fun u3 =>
  if y2_6 = 0 then
  (f_X5_canStand u3 y1_6).bind (fun u5 =>
  if u5 = 0 then
  some (Sum.inr (y3_6))
  else
  (if u3 = (111 : Int32) then
  some (y1_6 + 1)
  else
  some (y1_6)).bind (fun w7 =>
  (if u3 = (64 : Int32) then
  some (1 : Int32)
  else
  some (0 : Int32)).bind (fun w9 =>
  f_X5_firstFault_6 v_count v_signs n w7 w9 (y3_6 + 1))))
  else
  some (Sum.inr (y3_6)))
theorem f_X5_firstFault_6_s (v_count : Int32) (v_signs : Nat → Int32) (n : Nat) (y1_6 : Int32) (y2_6 : Int32) (y3_6 : Int32) : f_X5_firstFault_6 v_count v_signs (n + 1) y1_6 y2_6 y3_6 =
  (if v_count ≤ y3_6 then
  some (Sum.inl (y1_6))
  else
  (aget 30 v_signs y3_6).bind (fun u3 =>
  if y2_6 = 0 then
  (f_X5_canStand u3 y1_6).bind (fun u5 =>
  if u5 = 0 then
  some (Sum.inr (y3_6))
  else
  (if u3 = (111 : Int32) then
  some (y1_6 + 1)
  else
  some (y1_6)).bind (fun w7 =>
  (if u3 = (64 : Int32) then
  some (1 : Int32)
  else
  some (0 : Int32)).bind (fun w9 =>
  f_X5_firstFault_6 v_count v_signs n w7 w9 (y3_6 + 1))))
  else
  some (Sum.inr (y3_6)))) := rfl
def f_X5_firstFault (v_count : Int32) (v_signs : Nat → Int32) : Option (Int32) :=
  (f_X5_firstFault_6 v_count v_signs FU (0 : Int32) (0 : Int32) (0 : Int32)).bind (fun u13 => Sum.elim (fun w14 =>
  (if w14 = 0 then
  some (v_count)
  else
  some (-6 : Int32)).bind (fun w15 =>
  some (w15))) (fun r => some r) u13)
set_option maxHeartbeats 4000000 in
set_option maxRecDepth 100000 in
theorem c_X5_firstFault (l : Launch) (D : va_G) (cI cJ cZ cO : ClassId) (a_t a_signs : Nat) (v_count : Int32) (v_signs : Nat → Int32) (out : Int32) (hf : f_X5_firstFault v_count v_signs = some out) : MetR l yX5_firstFault (Cond.code yX5_firstFault cX5_firstFault 5 (some .int) :: tbG) { frames := 1, cells := 0, slots := 0, locals := 21 } D (tyL cI cJ cZ cO) [.ref a_t] [(a_t, .inr (5, [.ref a_signs, .int v_count])), (a_signs, eI cI 30 v_signs)] (some (.int out)) [(a_t, .inr (5, [.ref a_signs, .int v_count])), (a_signs, eI cI 30 v_signs)] := by
  refine ba_ofI RX5 [(0, .ref a_t)] (by decide +kernel) rfl (Nat.le_of_ble_eq_true rfl) rfl ?_
  intro p e s m args below meth c Q A Cx hP ret ls hl
  obtain ⟨⟨hx, hb, hml, hown, hts⟩, hK, hD, hA⟩ := id Cx
  have hS : va_S A s.heap s.heap [] := va_S.rf
  unfold f_X5_firstFault at hf
  refine lv_iconst (v := 0) hx hb dX5_firstFault_0 (by decide) ?_
  refine lv_istore_n (lv' := [(1, .int (0 : Int32)), (0, .ref a_t)]) hx hb dX5_firstFault_1 rfl hl (by decide) rfl (fun ls hl => ?_)
  refine lv_iconst (v := 0) hx hb dX5_firstFault_2 (by decide) ?_
  refine lv_istore_n (lv' := [(2, .int (0 : Int32)), (1, .int (0 : Int32)), (0, .ref a_t)]) hx hb dX5_firstFault_3 rfl hl (by decide) rfl (fun ls hl => ?_)
  refine lv_iconst (v := 0) hx hb dX5_firstFault_4 (by decide) ?_
  refine lv_istore_n (lv' := [(3, .int (0 : Int32)), (2, .int (0 : Int32)), (1, .int (0 : Int32)), (0, .ref a_t)]) hx hb dX5_firstFault_5 rfl hl (by decide) rfl (fun ls hl => ?_)
  have L6_1 : ∀ (n : Nat) (y1_6 : Int32) (y2_6 : Int32) (y3_6 : Int32) (o : (Int32) ⊕ (Int32)) (H : Heap) (locs : List Loc) (ls : Array Slot), f_X5_firstFault_6 v_count v_signs n y1_6 y2_6 y3_6 = some o → va_P D vwCl [(a_t, .inr (5, [.ref a_signs, .int v_count])), (a_signs, eI cI 30 v_signs)] H → va_S A s.heap H locs → lv_has ls 5 [(0, .ref a_t), (1, .int y1_6), (2, .int y2_6), (3, .int y3_6)] → (∀ w, o = Sum.inl w → ∀ (H : Heap) (locs : List Loc) (ls : Array Slot), va_P D vwCl [(a_t, .inr (5, [.ref a_signs, .int v_count])), (a_signs, eI cI 30 v_signs)] H → va_S A s.heap H locs → lv_has ls 5 [(0, .ref a_t), (1, .int w)] → W p l e { frames := 1, cells := 0, slots := 0, locals := 21 } s m args below meth c H locs 0 0 Q (F0 m 66 ls [])) → (∀ r, o = Sum.inr r → ∀ (pc : Nat) (H : Heap) (locs : List Loc) (ls : Array Slot), decode cX5_firstFault pc = .ok (.ireturn, 1) → va_P D vwCl [(a_t, .inr (5, [.ref a_signs, .int v_count])), (a_signs, eI cI 30 v_signs)] H → va_S A s.heap H locs → W p l e { frames := 1, cells := 0, slots := 0, locals := 21 } s m args below meth c H locs 0 0 Q (F0 m pc ls [.int r])) → W p l e { frames := 1, cells := 0, slots := 0, locals := 21 } s m args below meth c H locs 0 0 Q (F0 m 6 ls []) := by
    intro n
    induction n with
    | zero => intro y1_6 y2_6 y3_6 o H locs ls hf; exact (ob_n hf).elim
    | succ n ih =>
      intro y1_6 y2_6 y3_6 o H locs ls hf hP hS hl kk kr
      rw [f_X5_firstFault_6_s] at hf
      refine lv_iload_n hx hb dX5_firstFault_6 rfl (lv_at hl 3 rfl) ?_
      refine lv_aload_n hx hb dX5_firstFault_7 rfl (lv_at hl 0 rfl) ?_
      refine gf_X5_15 Cx hP 0 rfl rfl dX5_firstFault_8 ?_
      refine lv_icmp_ge (tgt := 66) hx hb dX5_firstFault_11 (by decide) (fun c2 => ?_) (fun c2 => ?_)
      · have hf := ob_t c2 hf
        obtain rfl := Option.some.inj hf
        exact kk _ rfl _ _ _ hP hS (lv_sub hl [0, 1] rfl)
      · have hf := ob_f c2 hf
        refine lv_aload_n hx hb dX5_firstFault_14 rfl (lv_at hl 0 rfl) ?_
        refine gf_X5_9 Cx hP 0 rfl rfl dX5_firstFault_15 ?_
        refine lv_iload_n hx hb dX5_firstFault_18 rfl (lv_at hl 3 rfl) ?_
        obtain ⟨u3, hu3, hf⟩ := ob_b hf
        refine ba_iald Cx hP 1 rfl hu3 dX5_firstFault_19 ?_
        refine lv_istore (lv' := [(4, .int u3), (0, .ref a_t), (1, .int y1_6), (2, .int y2_6), (3, .int y3_6)]) hx hb dX5_firstFault_20 hl (by decide) rfl (fun ls hl => ?_)
        refine lv_iload_n hx hb dX5_firstFault_22 rfl (lv_at hl 3 rfl) ?_
        refine lv_if_ne (tgt := 35) hx hb dX5_firstFault_23 (by decide) (fun c4 => ?_) (fun c4 => ?_)
        · have hf := ob_f c4 hf
          refine lv_iload_n hx hb dX5_firstFault_35 rfl (lv_at hl 4 rfl) ?_
          obtain rfl := Option.some.inj hf
          exact kr _ rfl _ _ _ _ dX5_firstFault_36 hP hS
        · have hf := ob_t c4 hf
          refine lv_iload hx hb dX5_firstFault_26 (lv_at hl 0 rfl) ?_
          refine lv_iload_n hx hb dX5_firstFault_28 rfl (lv_at hl 2 rfl) ?_
          obtain ⟨u5, hu5, hf⟩ := ob_b hf
          refine iv_X5_19 (As := [.int u3, .int y1_6]) (rest := []) (is := []) (X' := [(a_t, .inr (5, [.ref a_signs, .int v_count])), (a_signs, eI cI 30 v_signs)]) Cx (c_X5_canStand l D cI cJ cZ cO  u3 y1_6 u5 hu5) hP hS rfl rfl rfl rfl rfl rfl hl.1 (Nat.le_of_ble_eq_true rfl) dX5_firstFault_29 rfl rfl ⟨Nat.le_of_ble_eq_true rfl, Nat.le_of_ble_eq_true rfl⟩ ⟨Nat.zero_le _, Nat.zero_le _⟩ rfl (fun H locs hP hS => ?_)
          refine lv_if_ne (tgt := 37) hx hb dX5_firstFault_32 (by decide) (fun c6 => ?_) (fun c6 => ?_)
          · have hf := ob_f c6 hf
            refine lv_iload hx hb dX5_firstFault_37 (lv_at hl 0 rfl) ?_
            refine lv_bipush (v := 111) hx hb dX5_firstFault_39 (by decide) ?_
            refine ob_J (P := fun w7 => ∀ (H : Heap) (locs : List Loc) (ls : Array Slot), va_P D vwCl [(a_t, .inr (5, [.ref a_signs, .int v_count])), (a_signs, eI cI 30 v_signs)] H → va_S A s.heap H locs → lv_has ls 5 [(0, .ref a_t), (1, .int w7), (3, .int y3_6), (4, .int u3)] → W p l e { frames := 1, cells := 0, slots := 0, locals := 21 } s m args below meth c H locs 0 0 Q (F0 m 47 ls [])) hf ?_ ?_
            · intro w7 hf H locs ls hP hS hl
              refine lv_iload hx hb dX5_firstFault_47 (lv_at hl 3 rfl) ?_
              refine lv_bipush (v := 64) hx hb dX5_firstFault_49 (by decide) ?_
              refine ob_J (P := fun w9 => ∀ (H : Heap) (locs : List Loc) (ls : Array Slot), va_P D vwCl [(a_t, .inr (5, [.ref a_signs, .int v_count])), (a_signs, eI cI 30 v_signs)] H → va_S A s.heap H locs → lv_has ls 5 [(0, .ref a_t), (1, .int w7), (3, .int y3_6)] → W p l e { frames := 1, cells := 0, slots := 0, locals := 21 } s m args below meth c H locs 0 0 Q (F0 m 59 ls [.int w9])) hf ?_ ?_
              · intro w9 hf H locs ls hP hS hl
                refine lv_istore_n (lv' := [(2, .int w9), (0, .ref a_t), (1, .int w7), (3, .int y3_6)]) hx hb dX5_firstFault_59 rfl hl (by decide) rfl (fun ls hl => ?_)
                refine lv_iinc (v := (y3_6 + 1)) (lv' := [(3, .int (y3_6 + 1)), (2, .int w9), (0, .ref a_t), (1, .int w7)]) hx hb dX5_firstFault_60 hl (k := 3) rfl rfl (by decide) rfl (fun ls hl => ?_)
                refine lv_goto (tgt := 6) hx hb dX5_firstFault_63 (by decide) ?_
                exact ih w7 w9 (y3_6 + 1) _ _ _ _ hf hP hS (lv_sub hl [2, 3, 1, 0] rfl) kk kr
              · intro J59_10 hf
                refine lv_icmp_ne (tgt := 58) hx hb dX5_firstFault_51 (by decide) (fun c11 => ?_) (fun c11 => ?_)
                · have hf := ob_fk c11 hf
                  refine lv_iconst (v := 0) hx hb dX5_firstFault_58 (by decide) ?_
                  exact J59_10 (0 : Int32) hf _ _ _ hP hS (lv_sub hl [0, 1, 2] rfl)
                · have hf := ob_tk c11 hf
                  refine lv_iconst (v := 1) hx hb dX5_firstFault_54 (by decide) ?_
                  refine lv_goto (tgt := 59) hx hb dX5_firstFault_55 (by decide) ?_
                  exact J59_10 (1 : Int32) hf _ _ _ hP hS (lv_sub hl [0, 1, 2] rfl)
            · intro J47_8 hf
              refine lv_icmp_ne (tgt := 47) hx hb dX5_firstFault_41 (by decide) (fun c12 => ?_) (fun c12 => ?_)
              · have hf := ob_fk c12 hf
                exact J47_8 y1_6 hf _ _ _ hP hS (lv_sub hl [1, 2, 4, 0] rfl)
              · have hf := ob_tk c12 hf
                refine lv_iinc (v := (y1_6 + 1)) (lv' := [(1, .int (y1_6 + 1)), (4, .int u3), (0, .ref a_t), (2, .int y2_6), (3, .int y3_6)]) hx hb dX5_firstFault_44 hl (k := 2) rfl rfl (by decide) rfl (fun ls hl => ?_)
                exact J47_8 (y1_6 + 1) hf _ _ _ hP hS (lv_sub hl [2, 0, 4, 1] rfl)
          · have hf := ob_t c6 hf
            refine lv_iload_n hx hb dX5_firstFault_35 rfl (lv_at hl 4 rfl) ?_
            obtain rfl := Option.some.inj hf
            exact kr _ rfl _ _ _ _ dX5_firstFault_36 hP hS
  obtain ⟨u13, hu13, hf⟩ := ob_b hf
  refine L6_1 FU (0 : Int32) (0 : Int32) (0 : Int32) u13 _ _ _ hu13 hP hS (lv_sub hl [3, 2, 1, 0] rfl) ?_ ?_
  · intro w14 hw H locs ls hP hS hl
    rw [hw] at hf
    have hf := ob_l hf
    refine lv_iload_n hx hb dX5_firstFault_66 rfl (lv_at hl 1 rfl) ?_
    refine ob_J (P := fun w15 => ∀ (H : Heap) (locs : List Loc) (ls : Array Slot), va_P D vwCl [(a_t, .inr (5, [.ref a_signs, .int v_count])), (a_signs, eI cI 30 v_signs)] H → va_S A s.heap H locs → lv_has ls 5 [] → W p l e { frames := 1, cells := 0, slots := 0, locals := 21 } s m args below meth c H locs 0 0 Q (F0 m 79 ls [.int w15])) hf ?_ ?_
    · intro w15 hf H locs ls hP hS hl
      obtain rfl := Option.some.inj hf
      exact ret _ _ _ _ dX5_firstFault_79 hP hS
    · intro J79_16 hf
      refine lv_if_ne (tgt := 77) hx hb dX5_firstFault_67 (by decide) (fun c17 => ?_) (fun c17 => ?_)
      · have hf := ob_fk c17 hf
        refine lv_bipush (v := (-6)) hx hb dX5_firstFault_77 (by decide) ?_
        exact J79_16 (-6 : Int32) hf _ _ _ hP hS (lv_sub hl [] rfl)
      · have hf := ob_tk c17 hf
        refine lv_aload_n hx hb dX5_firstFault_70 rfl (lv_at hl 0 rfl) ?_
        refine gf_X5_15 Cx hP 0 rfl rfl dX5_firstFault_71 ?_
        refine lv_goto (tgt := 79) hx hb dX5_firstFault_74 (by decide) ?_
        exact J79_16 v_count hf _ _ _ hP hS (lv_sub hl [] rfl)
  · intro r hr pc H locs ls hd hP hS
    rw [hr] at hf
    have hf := ob_r hf
    obtain rfl := Option.some.inj hf
    exact ret _ _ _ _ hd hP hS

def f_X5_writeSteps_13 (v_count : Int32) (v_signs : Nat → Int32) : Nat → Int32 → Int32 → Int32 → Int32 → Int32 → (Nat → Int32) → Option (Int32 × Int32 × Int32 × Int32 × (Nat → Int32))
  | 0, _, _, _, _, _, _ => none
  | n + 1, y2_13, y3_13, y4_13, y5_13, y6_13, z_p1_13 =>
  if v_count ≤ y6_13 then
  some (y2_13, y3_13, y4_13, y5_13, z_p1_13)
  else
  (aget 30 v_signs y6_13).bind (fun u3 =>
  (if u3 = (111 : Int32) then
  if (12 : Int32) ≤ y2_13 then
  if u3 = (124 : Int32) then
  some (y2_13, y3_13, (0 : Int32), y5_13, z_p1_13)
  else
  if u3 = (45 : Int32) then
  if y4_13 = 0 then
  if u3 = (64 : Int32) then
  some (y2_13, y3_13, y4_13, (1 : Int32), z_p1_13)
  else
  some (y2_13, y3_13, y4_13, y5_13, z_p1_13)
  else
  some (y2_13, y3_13, (y4_13 + 1), y5_13, z_p1_13)
  else
  if u3 = (64 : Int32) then
  some (y2_13, y3_13, y4_13, (1 : Int32), z_p1_13)
  else
  some (y2_13, y3_13, y4_13, y5_13, z_p1_13)
  else
  (if y2_13 = 0 then
  some (y4_13, z_p1_13)
  else
  (asetI 12 z_p1_13 (y2_13 - (1 : Int32)) y4_13).bind (fun u21 =>
  some (y3_13, u21))).bind (fun w18 =>
  some ((y2_13 + 1), w18.1, (1 : Int32), y5_13, w18.2))
  else
  if u3 = (124 : Int32) then
  some (y2_13, y3_13, (0 : Int32), y5_13, z_p1_13)
  else
  if u3 = (45 : Int32) then
  if y4_13 = 0 then
  if u3 = (64 : Int32) then
  some (y2_13, y3_13, y4_13, (1 : Int32), z_p1_13)
  else
  some (y2_13, y3_13, y4_13, y5_13, z_p1_13)
  else
  some (y2_13, y3_13, (y4_13 + 1), y5_13, z_p1_13)
  else
  if u3 = (64 : Int32) then
  some (y2_13, y3_13, y4_13, (1 : Int32), z_p1_13)
  else
  some (y2_13, y3_13, y4_13, y5_13, z_p1_13)).bind (fun w4 =>
  f_X5_writeSteps_13 v_count v_signs n w4.1 w4.2.1 w4.2.2.1 w4.2.2.2.1 (y6_13 + 1) w4.2.2.2.2))
theorem f_X5_writeSteps_13_s (v_count : Int32) (v_signs : Nat → Int32) (n : Nat) (y2_13 : Int32) (y3_13 : Int32) (y4_13 : Int32) (y5_13 : Int32) (y6_13 : Int32) (z_p1_13 : Nat → Int32) : f_X5_writeSteps_13 v_count v_signs (n + 1) y2_13 y3_13 y4_13 y5_13 y6_13 z_p1_13 =
  (if v_count ≤ y6_13 then
  some (y2_13, y3_13, y4_13, y5_13, z_p1_13)
  else
  (aget 30 v_signs y6_13).bind (fun u3 =>
  (if u3 = (111 : Int32) then
  if (12 : Int32) ≤ y2_13 then
  if u3 = (124 : Int32) then
  some (y2_13, y3_13, (0 : Int32), y5_13, z_p1_13)
  else
  if u3 = (45 : Int32) then
  if y4_13 = 0 then
  if u3 = (64 : Int32) then
  some (y2_13, y3_13, y4_13, (1 : Int32), z_p1_13)
  else
  some (y2_13, y3_13, y4_13, y5_13, z_p1_13)
  else
  some (y2_13, y3_13, (y4_13 + 1), y5_13, z_p1_13)
  else
  if u3 = (64 : Int32) then
  some (y2_13, y3_13, y4_13, (1 : Int32), z_p1_13)
  else
  some (y2_13, y3_13, y4_13, y5_13, z_p1_13)
  else
  (if y2_13 = 0 then
  some (y4_13, z_p1_13)
  else
  (asetI 12 z_p1_13 (y2_13 - (1 : Int32)) y4_13).bind (fun u21 =>
  some (y3_13, u21))).bind (fun w18 =>
  some ((y2_13 + 1), w18.1, (1 : Int32), y5_13, w18.2))
  else
  if u3 = (124 : Int32) then
  some (y2_13, y3_13, (0 : Int32), y5_13, z_p1_13)
  else
  if u3 = (45 : Int32) then
  if y4_13 = 0 then
  if u3 = (64 : Int32) then
  some (y2_13, y3_13, y4_13, (1 : Int32), z_p1_13)
  else
  some (y2_13, y3_13, y4_13, y5_13, z_p1_13)
  else
  some (y2_13, y3_13, (y4_13 + 1), y5_13, z_p1_13)
  else
  if u3 = (64 : Int32) then
  some (y2_13, y3_13, y4_13, (1 : Int32), z_p1_13)
  else
  some (y2_13, y3_13, y4_13, y5_13, z_p1_13)).bind (fun w4 =>
  f_X5_writeSteps_13 v_count v_signs n w4.1 w4.2.1 w4.2.2.1 w4.2.2.2.1 (y6_13 + 1) w4.2.2.2.2))) := rfl
def f_X5_writeSteps (v_count : Int32) (v_signs : Nat → Int32) (v_p1 : Nat → Int32) : Option (Int32 × (Nat → Int32)) :=
  (f_X5_writeSteps_13 v_count v_signs FU (0 : Int32) (1 : Int32) (1 : Int32) (0 : Int32) (0 : Int32) v_p1).bind (fun u22 =>
  (if u22.1 ≤ 0 then
  some (u22.2.2.2.2)
  else
  (if u22.2.2.2.1 = 0 then
  some (0 : Int32)
  else
  if u22.1 ≤ (1 : Int32) then
  some (0 : Int32)
  else
  if u22.2.2.1 = 0 then
  some (0 : Int32)
  else
  if u22.2.1 = 0 then
  some (0 : Int32)
  else
  some (1 : Int32)).bind (fun w26 =>
  (if w26 = 0 then
  some (0 : Int32)
  else
  some ((u22.2.2.1 + u22.2.1) - (1 : Int32))).bind (fun w28 =>
  (asetI 12 u22.2.2.2.2 (u22.1 - (1 : Int32)) w28).bind (fun u30 =>
  some (u30))))).bind (fun w23 =>
  some (u22.1, w23)))
set_option maxHeartbeats 4000000 in
set_option maxRecDepth 100000 in
theorem c_X5_writeSteps (l : Launch) (D : va_G) (cI cJ cZ cO : ClassId) (a_t a_signs a_p1 : Nat) (v_count : Int32) (v_signs : Nat → Int32) (v_p1 : Nat → Int32) (out : Int32 × (Nat → Int32)) (hf : f_X5_writeSteps v_count v_signs v_p1 = some out) : MetR l yX5_writeSteps (Cond.code yX5_writeSteps cX5_writeSteps 8 (some .int) :: tbG) { frames := 0, cells := 0, slots := 0, locals := 0 } D (tyL cI cJ cZ cO) [.ref a_t, .ref a_p1] [(a_t, .inr (5, [.ref a_signs, .int v_count])), (a_signs, eI cI 30 v_signs), (a_p1, eI cI 12 v_p1)] (some (.int out.1)) [(a_t, .inr (5, [.ref a_signs, .int v_count])), (a_signs, eI cI 30 v_signs), (a_p1, eI cI 12 out.2)] := by
  refine ba_ofI RX5 [(0, .ref a_t), (1, .ref a_p1)] (by decide +kernel) rfl (Nat.le_of_ble_eq_true rfl) rfl ?_
  intro p e s m args below meth c Q A Cx hP ret ls hl
  obtain ⟨⟨hx, hb, hml, hown, hts⟩, hK, hD, hA⟩ := id Cx
  have hS : va_S A s.heap s.heap [] := va_S.rf
  unfold f_X5_writeSteps at hf
  refine lv_iconst (v := 0) hx hb dX5_writeSteps_0 (by decide) ?_
  refine lv_istore_n (lv' := [(2, .int (0 : Int32)), (0, .ref a_t), (1, .ref a_p1)]) hx hb dX5_writeSteps_1 rfl hl (by decide) rfl (fun ls hl => ?_)
  refine lv_iconst (v := 1) hx hb dX5_writeSteps_2 (by decide) ?_
  refine lv_istore_n (lv' := [(3, .int (1 : Int32)), (2, .int (0 : Int32)), (0, .ref a_t), (1, .ref a_p1)]) hx hb dX5_writeSteps_3 rfl hl (by decide) rfl (fun ls hl => ?_)
  refine lv_iconst (v := 1) hx hb dX5_writeSteps_4 (by decide) ?_
  refine lv_istore (lv' := [(4, .int (1 : Int32)), (3, .int (1 : Int32)), (2, .int (0 : Int32)), (0, .ref a_t), (1, .ref a_p1)]) hx hb dX5_writeSteps_5 hl (by decide) rfl (fun ls hl => ?_)
  refine lv_iconst (v := 0) hx hb dX5_writeSteps_7 (by decide) ?_
  refine lv_istore (lv' := [(5, .int (0 : Int32)), (4, .int (1 : Int32)), (3, .int (1 : Int32)), (2, .int (0 : Int32)), (0, .ref a_t), (1, .ref a_p1)]) hx hb dX5_writeSteps_8 hl (by decide) rfl (fun ls hl => ?_)
  refine lv_iconst (v := 0) hx hb dX5_writeSteps_10 (by decide) ?_
  refine lv_istore (lv' := [(6, .int (0 : Int32)), (5, .int (0 : Int32)), (4, .int (1 : Int32)), (3, .int (1 : Int32)), (2, .int (0 : Int32)), (0, .ref a_t), (1, .ref a_p1)]) hx hb dX5_writeSteps_11 hl (by decide) rfl (fun ls hl => ?_)
  have L13_1 : ∀ (n : Nat) (y2_13 : Int32) (y3_13 : Int32) (y4_13 : Int32) (y5_13 : Int32) (y6_13 : Int32) (z_p1_13 : Nat → Int32) (o : Int32 × Int32 × Int32 × Int32 × (Nat → Int32)) (H : Heap) (locs : List Loc) (ls : Array Slot), f_X5_writeSteps_13 v_count v_signs n y2_13 y3_13 y4_13 y5_13 y6_13 z_p1_13 = some o → va_P D vwCl [(a_t, .inr (5, [.ref a_signs, .int v_count])), (a_signs, eI cI 30 v_signs), (a_p1, eI cI 12 z_p1_13)] H → va_S A s.heap H locs → lv_has ls 8 [(0, .ref a_t), (1, .ref a_p1), (2, .int y2_13), (3, .int y3_13), (4, .int y4_13), (5, .int y5_13), (6, .int y6_13)] → (∀ (H : Heap) (locs : List Loc) (ls : Array Slot), va_P D vwCl [(a_t, .inr (5, [.ref a_signs, .int v_count])), (a_signs, eI cI 30 v_signs), (a_p1, eI cI 12 o.2.2.2.2)] H → va_S A s.heap H locs → lv_has ls 8 [(1, .ref a_p1), (2, .int o.1), (3, .int o.2.1), (4, .int o.2.2.1), (5, .int o.2.2.2.1)] → W p l e { frames := 0, cells := 0, slots := 0, locals := 0 } s m args below meth c H locs 0 0 Q (F0 m 117 ls [])) → W p l e { frames := 0, cells := 0, slots := 0, locals := 0 } s m args below meth c H locs 0 0 Q (F0 m 13 ls []) := by
    intro n
    induction n with
    | zero => intro y2_13 y3_13 y4_13 y5_13 y6_13 z_p1_13 o H locs ls hf; exact (ob_n hf).elim
    | succ n ih =>
      intro y2_13 y3_13 y4_13 y5_13 y6_13 z_p1_13 o H locs ls hf hP hS hl kk
      rw [f_X5_writeSteps_13_s] at hf
      refine lv_iload hx hb dX5_writeSteps_13 (lv_at hl 6 rfl) ?_
      refine lv_aload_n hx hb dX5_writeSteps_15 rfl (lv_at hl 0 rfl) ?_
      refine gf_X5_15 Cx hP 0 rfl rfl dX5_writeSteps_16 ?_
      refine lv_icmp_ge (tgt := 117) hx hb dX5_writeSteps_19 (by decide) (fun c2 => ?_) (fun c2 => ?_)
      · have hf := ob_t c2 hf
        obtain rfl := Option.some.inj hf
        exact kk _ _ _ hP hS (lv_sub hl [1, 2, 3, 4, 5] rfl)
      · have hf := ob_f c2 hf
        refine lv_aload_n hx hb dX5_writeSteps_22 rfl (lv_at hl 0 rfl) ?_
        refine gf_X5_9 Cx hP 0 rfl rfl dX5_writeSteps_23 ?_
        refine lv_iload hx hb dX5_writeSteps_26 (lv_at hl 6 rfl) ?_
        obtain ⟨u3, hu3, hf⟩ := ob_b hf
        refine ba_iald Cx hP 1 rfl hu3 dX5_writeSteps_28 ?_
        refine lv_istore (lv' := [(7, .int u3), (0, .ref a_t), (1, .ref a_p1), (2, .int y2_13), (3, .int y3_13), (4, .int y4_13), (5, .int y5_13), (6, .int y6_13)]) hx hb dX5_writeSteps_29 hl (by decide) rfl (fun ls hl => ?_)
        refine lv_iload hx hb dX5_writeSteps_31 (lv_at hl 0 rfl) ?_
        refine lv_bipush (v := 111) hx hb dX5_writeSteps_33 (by decide) ?_
        refine ob_J (P := fun w4 => ∀ (H : Heap) (locs : List Loc) (ls : Array Slot), va_P D vwCl [(a_t, .inr (5, [.ref a_signs, .int v_count])), (a_signs, eI cI 30 v_signs), (a_p1, eI cI 12 w4.2.2.2.2)] H → va_S A s.heap H locs → lv_has ls 8 [(0, .ref a_t), (1, .ref a_p1), (2, .int w4.1), (3, .int w4.2.1), (4, .int w4.2.2.1), (5, .int w4.2.2.2.1), (6, .int y6_13)] → W p l e { frames := 0, cells := 0, slots := 0, locals := 0 } s m args below meth c H locs 0 0 Q (F0 m 111 ls [])) hf ?_ ?_
        · intro w4 hf H locs ls hP hS hl
          refine lv_iinc (v := (y6_13 + 1)) (lv' := [(6, .int (y6_13 + 1)), (0, .ref a_t), (1, .ref a_p1), (2, .int w4.1), (3, .int w4.2.1), (4, .int w4.2.2.1), (5, .int w4.2.2.2.1)]) hx hb dX5_writeSteps_111 hl (k := 6) rfl rfl (by decide) rfl (fun ls hl => ?_)
          refine lv_goto (tgt := 13) hx hb dX5_writeSteps_114 (by decide) ?_
          exact ih w4.1 w4.2.1 w4.2.2.1 w4.2.2.2.1 (y6_13 + 1) w4.2.2.2.2 _ _ _ _ hf hP hS (lv_sub hl [1, 2, 3, 4, 5, 6, 0] rfl) kk
        · intro J111_5 hf
          refine lv_icmp_ne (tgt := 70) hx hb dX5_writeSteps_35 (by decide) (fun c6 => ?_) (fun c6 => ?_)
          · have hf := ob_fk c6 hf
            refine lv_iload hx hb dX5_writeSteps_70 (lv_at hl 0 rfl) ?_
            refine lv_bipush (v := 124) hx hb dX5_writeSteps_72 (by decide) ?_
            refine lv_icmp_ne (tgt := 83) hx hb dX5_writeSteps_74 (by decide) (fun c7 => ?_) (fun c7 => ?_)
            · have hf := ob_fk c7 hf
              refine lv_iload hx hb dX5_writeSteps_83 (lv_at hl 0 rfl) ?_
              refine lv_bipush (v := 45) hx hb dX5_writeSteps_85 (by decide) ?_
              refine lv_icmp_ne (tgt := 101) hx hb dX5_writeSteps_87 (by decide) (fun c8 => ?_) (fun c8 => ?_)
              · have hf := ob_fk c8 hf
                refine lv_iload hx hb dX5_writeSteps_101 (lv_at hl 0 rfl) ?_
                refine lv_bipush (v := 64) hx hb dX5_writeSteps_103 (by decide) ?_
                refine lv_icmp_ne (tgt := 111) hx hb dX5_writeSteps_105 (by decide) (fun c9 => ?_) (fun c9 => ?_)
                · have hf := ob_fk c9 hf
                  exact J111_5 (y2_13, y3_13, y4_13, y5_13, z_p1_13) hf _ _ _ hP hS (lv_sub hl [1, 2, 3, 4, 5, 6, 7] rfl)
                · have hf := ob_tk c9 hf
                  refine lv_iconst (v := 1) hx hb dX5_writeSteps_108 (by decide) ?_
                  refine lv_istore (lv' := [(5, .int (1 : Int32)), (7, .int u3), (0, .ref a_t), (1, .ref a_p1), (2, .int y2_13), (3, .int y3_13), (4, .int y4_13), (6, .int y6_13)]) hx hb dX5_writeSteps_109 hl (by decide) rfl (fun ls hl => ?_)
                  exact J111_5 (y2_13, y3_13, y4_13, (1 : Int32), z_p1_13) hf _ _ _ hP hS (lv_sub hl [2, 3, 4, 5, 6, 0, 7] rfl)
              · have hf := ob_tk c8 hf
                refine lv_iload hx hb dX5_writeSteps_90 (lv_at hl 5 rfl) ?_
                refine lv_if_eq (tgt := 101) hx hb dX5_writeSteps_92 (by decide) (fun c10 => ?_) (fun c10 => ?_)
                · have hf := ob_tk c10 hf
                  refine lv_iload hx hb dX5_writeSteps_101 (lv_at hl 0 rfl) ?_
                  refine lv_bipush (v := 64) hx hb dX5_writeSteps_103 (by decide) ?_
                  refine lv_icmp_ne (tgt := 111) hx hb dX5_writeSteps_105 (by decide) (fun c11 => ?_) (fun c11 => ?_)
                  · have hf := ob_fk c11 hf
                    exact J111_5 (y2_13, y3_13, y4_13, y5_13, z_p1_13) hf _ _ _ hP hS (lv_sub hl [1, 2, 3, 4, 5, 6, 7] rfl)
                  · have hf := ob_tk c11 hf
                    refine lv_iconst (v := 1) hx hb dX5_writeSteps_108 (by decide) ?_
                    refine lv_istore (lv' := [(5, .int (1 : Int32)), (7, .int u3), (0, .ref a_t), (1, .ref a_p1), (2, .int y2_13), (3, .int y3_13), (4, .int y4_13), (6, .int y6_13)]) hx hb dX5_writeSteps_109 hl (by decide) rfl (fun ls hl => ?_)
                    exact J111_5 (y2_13, y3_13, y4_13, (1 : Int32), z_p1_13) hf _ _ _ hP hS (lv_sub hl [2, 3, 4, 5, 6, 0, 7] rfl)
                · have hf := ob_fk c10 hf
                  refine lv_iinc (v := (y4_13 + 1)) (lv' := [(4, .int (y4_13 + 1)), (7, .int u3), (0, .ref a_t), (1, .ref a_p1), (2, .int y2_13), (3, .int y3_13), (5, .int y5_13), (6, .int y6_13)]) hx hb dX5_writeSteps_95 hl (k := 5) rfl rfl (by decide) rfl (fun ls hl => ?_)
                  refine lv_goto (tgt := 111) hx hb dX5_writeSteps_98 (by decide) ?_
                  exact J111_5 (y2_13, y3_13, (y4_13 + 1), y5_13, z_p1_13) hf _ _ _ hP hS (lv_sub hl [2, 3, 4, 5, 0, 6, 7] rfl)
            · have hf := ob_tk c7 hf
              refine lv_iconst (v := 0) hx hb dX5_writeSteps_77 (by decide) ?_
              refine lv_istore (lv' := [(4, .int (0 : Int32)), (7, .int u3), (0, .ref a_t), (1, .ref a_p1), (2, .int y2_13), (3, .int y3_13), (5, .int y5_13), (6, .int y6_13)]) hx hb dX5_writeSteps_78 hl (by decide) rfl (fun ls hl => ?_)
              refine lv_goto (tgt := 111) hx hb dX5_writeSteps_80 (by decide) ?_
              exact J111_5 (y2_13, y3_13, (0 : Int32), y5_13, z_p1_13) hf _ _ _ hP hS (lv_sub hl [2, 3, 4, 5, 0, 6, 7] rfl)
          · have hf := ob_tk c6 hf
            refine lv_iload_n hx hb dX5_writeSteps_38 rfl (lv_at hl 3 rfl) ?_
            refine lv_bipush (v := 12) hx hb dX5_writeSteps_39 (by decide) ?_
            refine lv_icmp_ge (tgt := 70) hx hb dX5_writeSteps_41 (by decide) (fun c12 => ?_) (fun c12 => ?_)
            · have hf := ob_tk c12 hf
              refine lv_iload hx hb dX5_writeSteps_70 (lv_at hl 0 rfl) ?_
              refine lv_bipush (v := 124) hx hb dX5_writeSteps_72 (by decide) ?_
              refine lv_icmp_ne (tgt := 83) hx hb dX5_writeSteps_74 (by decide) (fun c13 => ?_) (fun c13 => ?_)
              · have hf := ob_fk c13 hf
                refine lv_iload hx hb dX5_writeSteps_83 (lv_at hl 0 rfl) ?_
                refine lv_bipush (v := 45) hx hb dX5_writeSteps_85 (by decide) ?_
                refine lv_icmp_ne (tgt := 101) hx hb dX5_writeSteps_87 (by decide) (fun c14 => ?_) (fun c14 => ?_)
                · have hf := ob_fk c14 hf
                  refine lv_iload hx hb dX5_writeSteps_101 (lv_at hl 0 rfl) ?_
                  refine lv_bipush (v := 64) hx hb dX5_writeSteps_103 (by decide) ?_
                  refine lv_icmp_ne (tgt := 111) hx hb dX5_writeSteps_105 (by decide) (fun c15 => ?_) (fun c15 => ?_)
                  · have hf := ob_fk c15 hf
                    exact J111_5 (y2_13, y3_13, y4_13, y5_13, z_p1_13) hf _ _ _ hP hS (lv_sub hl [1, 2, 3, 4, 5, 6, 7] rfl)
                  · have hf := ob_tk c15 hf
                    refine lv_iconst (v := 1) hx hb dX5_writeSteps_108 (by decide) ?_
                    refine lv_istore (lv' := [(5, .int (1 : Int32)), (7, .int u3), (0, .ref a_t), (1, .ref a_p1), (2, .int y2_13), (3, .int y3_13), (4, .int y4_13), (6, .int y6_13)]) hx hb dX5_writeSteps_109 hl (by decide) rfl (fun ls hl => ?_)
                    exact J111_5 (y2_13, y3_13, y4_13, (1 : Int32), z_p1_13) hf _ _ _ hP hS (lv_sub hl [2, 3, 4, 5, 6, 0, 7] rfl)
                · have hf := ob_tk c14 hf
                  refine lv_iload hx hb dX5_writeSteps_90 (lv_at hl 5 rfl) ?_
                  refine lv_if_eq (tgt := 101) hx hb dX5_writeSteps_92 (by decide) (fun c16 => ?_) (fun c16 => ?_)
                  · have hf := ob_tk c16 hf
                    refine lv_iload hx hb dX5_writeSteps_101 (lv_at hl 0 rfl) ?_
                    refine lv_bipush (v := 64) hx hb dX5_writeSteps_103 (by decide) ?_
                    refine lv_icmp_ne (tgt := 111) hx hb dX5_writeSteps_105 (by decide) (fun c17 => ?_) (fun c17 => ?_)
                    · have hf := ob_fk c17 hf
                      exact J111_5 (y2_13, y3_13, y4_13, y5_13, z_p1_13) hf _ _ _ hP hS (lv_sub hl [1, 2, 3, 4, 5, 6, 7] rfl)
                    · have hf := ob_tk c17 hf
                      refine lv_iconst (v := 1) hx hb dX5_writeSteps_108 (by decide) ?_
                      refine lv_istore (lv' := [(5, .int (1 : Int32)), (7, .int u3), (0, .ref a_t), (1, .ref a_p1), (2, .int y2_13), (3, .int y3_13), (4, .int y4_13), (6, .int y6_13)]) hx hb dX5_writeSteps_109 hl (by decide) rfl (fun ls hl => ?_)
                      exact J111_5 (y2_13, y3_13, y4_13, (1 : Int32), z_p1_13) hf _ _ _ hP hS (lv_sub hl [2, 3, 4, 5, 6, 0, 7] rfl)
                  · have hf := ob_fk c16 hf
                    refine lv_iinc (v := (y4_13 + 1)) (lv' := [(4, .int (y4_13 + 1)), (7, .int u3), (0, .ref a_t), (1, .ref a_p1), (2, .int y2_13), (3, .int y3_13), (5, .int y5_13), (6, .int y6_13)]) hx hb dX5_writeSteps_95 hl (k := 5) rfl rfl (by decide) rfl (fun ls hl => ?_)
                    refine lv_goto (tgt := 111) hx hb dX5_writeSteps_98 (by decide) ?_
                    exact J111_5 (y2_13, y3_13, (y4_13 + 1), y5_13, z_p1_13) hf _ _ _ hP hS (lv_sub hl [2, 3, 4, 5, 0, 6, 7] rfl)
              · have hf := ob_tk c13 hf
                refine lv_iconst (v := 0) hx hb dX5_writeSteps_77 (by decide) ?_
                refine lv_istore (lv' := [(4, .int (0 : Int32)), (7, .int u3), (0, .ref a_t), (1, .ref a_p1), (2, .int y2_13), (3, .int y3_13), (5, .int y5_13), (6, .int y6_13)]) hx hb dX5_writeSteps_78 hl (by decide) rfl (fun ls hl => ?_)
                refine lv_goto (tgt := 111) hx hb dX5_writeSteps_80 (by decide) ?_
                exact J111_5 (y2_13, y3_13, (0 : Int32), y5_13, z_p1_13) hf _ _ _ hP hS (lv_sub hl [2, 3, 4, 5, 0, 6, 7] rfl)
            · have hf := ob_fk c12 hf
              refine lv_iload_n hx hb dX5_writeSteps_44 rfl (lv_at hl 3 rfl) ?_
              have hf := ob_as hf
              refine ob_J (P := fun w18 => ∀ (H : Heap) (locs : List Loc) (ls : Array Slot), va_P D vwCl [(a_t, .inr (5, [.ref a_signs, .int v_count])), (a_signs, eI cI 30 v_signs), (a_p1, eI cI 12 w18.2)] H → va_S A s.heap H locs → lv_has ls 8 [(0, .ref a_t), (1, .ref a_p1), (2, .int y2_13), (3, .int w18.1), (5, .int y5_13), (6, .int y6_13)] → W p l e { frames := 0, cells := 0, slots := 0, locals := 0 } s m args below meth c H locs 0 0 Q (F0 m 61 ls [])) hf ?_ ?_
              · intro w18 hf H locs ls hP hS hl
                refine lv_iinc (v := (y2_13 + 1)) (lv' := [(2, .int (y2_13 + 1)), (0, .ref a_t), (1, .ref a_p1), (3, .int w18.1), (5, .int y5_13), (6, .int y6_13)]) hx hb dX5_writeSteps_61 hl (k := 2) rfl rfl (by decide) rfl (fun ls hl => ?_)
                refine lv_iconst (v := 1) hx hb dX5_writeSteps_64 (by decide) ?_
                refine lv_istore (lv' := [(4, .int (1 : Int32)), (2, .int (y2_13 + 1)), (0, .ref a_t), (1, .ref a_p1), (3, .int w18.1), (5, .int y5_13), (6, .int y6_13)]) hx hb dX5_writeSteps_65 hl (by decide) rfl (fun ls hl => ?_)
                refine lv_goto (tgt := 111) hx hb dX5_writeSteps_67 (by decide) ?_
                exact J111_5 ((y2_13 + 1), w18.1, (1 : Int32), y5_13, w18.2) hf _ _ _ hP hS (lv_sub hl [2, 3, 1, 4, 0, 5, 6] rfl)
              · intro J61_19 hf
                refine lv_if_ne (tgt := 54) hx hb dX5_writeSteps_45 (by decide) (fun c20 => ?_) (fun c20 => ?_)
                · have hf := ob_fk c20 hf
                  refine lv_aload_n hx hb dX5_writeSteps_54 rfl (lv_at hl 2 rfl) ?_
                  refine lv_iload_n hx hb dX5_writeSteps_55 rfl (lv_at hl 3 rfl) ?_
                  refine lv_iconst (v := 1) hx hb dX5_writeSteps_56 (by decide) ?_
                  refine lv_isub hx hb dX5_writeSteps_57 ?_
                  refine lv_iload hx hb dX5_writeSteps_58 (lv_at hl 5 rfl) ?_
                  obtain ⟨u21, hu21, hf⟩ := ob_bk hf
                  refine ba_iast (X' := [(a_t, .inr (5, [.ref a_signs, .int v_count])), (a_signs, eI cI 30 v_signs), (a_p1, eI cI 12 u21)]) Cx hP hS rfl 2 rfl rfl hu21 dX5_writeSteps_60 (fun H locs hP hS => ?_)
                  exact J61_19 (y3_13, u21) hf _ _ _ hP hS (lv_sub hl [1, 2, 3, 4, 6, 7] rfl)
                · have hf := ob_tk c20 hf
                  refine lv_iload hx hb dX5_writeSteps_48 (lv_at hl 5 rfl) ?_
                  refine lv_istore_n (lv' := [(3, .int y4_13), (7, .int u3), (0, .ref a_t), (1, .ref a_p1), (2, .int y2_13), (4, .int y4_13), (5, .int y5_13), (6, .int y6_13)]) hx hb dX5_writeSteps_50 rfl hl (by decide) rfl (fun ls hl => ?_)
                  refine lv_goto (tgt := 61) hx hb dX5_writeSteps_51 (by decide) ?_
                  exact J61_19 (y4_13, z_p1_13) hf _ _ _ hP hS (lv_sub hl [2, 3, 4, 0, 6, 7] rfl)
  obtain ⟨u22, hu22, hf⟩ := ob_b hf
  refine L13_1 FU (0 : Int32) (1 : Int32) (1 : Int32) (0 : Int32) (0 : Int32) v_p1 u22 _ _ _ hu22 hP hS (lv_sub hl [5, 6, 4, 3, 2, 1, 0] rfl) ?_
  intro H locs ls hP hS hl
  refine lv_iload_n hx hb dX5_writeSteps_117 rfl (lv_at hl 1 rfl) ?_
  refine ob_J (P := fun w23 => ∀ (H : Heap) (locs : List Loc) (ls : Array Slot), va_P D vwCl [(a_t, .inr (5, [.ref a_signs, .int v_count])), (a_signs, eI cI 30 v_signs), (a_p1, eI cI 12 w23)] H → va_S A s.heap H locs → lv_has ls 8 [(2, .int u22.1)] → W p l e { frames := 0, cells := 0, slots := 0, locals := 0 } s m args below meth c H locs 0 0 Q (F0 m 167 ls [])) hf ?_ ?_
  · intro w23 hf H locs ls hP hS hl
    refine lv_iload_n hx hb dX5_writeSteps_167 rfl (lv_at hl 0 rfl) ?_
    obtain rfl := Option.some.inj hf
    exact ret _ _ _ _ dX5_writeSteps_168 hP hS
  · intro J167_24 hf
    refine lv_if_le (tgt := 167) hx hb dX5_writeSteps_118 (by decide) (fun c25 => ?_) (fun c25 => ?_)
    · have hf := ob_tk c25 hf
      exact J167_24 u22.2.2.2.2 hf _ _ _ hP hS (lv_sub hl [1] rfl)
    · have hf := ob_fk c25 hf
      refine lv_iload hx hb dX5_writeSteps_121 (lv_at hl 4 rfl) ?_
      have hf := ob_as hf
      refine ob_J (P := fun w26 => ∀ (H : Heap) (locs : List Loc) (ls : Array Slot), va_P D vwCl [(a_t, .inr (5, [.ref a_signs, .int v_count])), (a_signs, eI cI 30 v_signs), (a_p1, eI cI 12 u22.2.2.2.2)] H → va_S A s.heap H locs → lv_has ls 8 [(1, .ref a_p1), (2, .int u22.1), (3, .int u22.2.1), (4, .int u22.2.2.1)] → W p l e { frames := 0, cells := 0, slots := 0, locals := 0 } s m args below meth c H locs 0 0 Q (F0 m 145 ls [.int w26])) hf ?_ ?_
      · intro w26 hf H locs ls hP hS hl
        refine lv_istore (lv' := [(6, .int w26), (1, .ref a_p1), (2, .int u22.1), (3, .int u22.2.1), (4, .int u22.2.2.1)]) hx hb dX5_writeSteps_145 hl (by decide) rfl (fun ls hl => ?_)
        refine lv_aload_n hx hb dX5_writeSteps_147 rfl (lv_at hl 1 rfl) ?_
        refine lv_iload_n hx hb dX5_writeSteps_148 rfl (lv_at hl 2 rfl) ?_
        refine lv_iconst (v := 1) hx hb dX5_writeSteps_149 (by decide) ?_
        refine lv_isub hx hb dX5_writeSteps_150 ?_
        refine lv_iload hx hb dX5_writeSteps_151 (lv_at hl 0 rfl) ?_
        have hf := ob_as hf
        refine ob_J (P := fun w28 => ∀ (H : Heap) (locs : List Loc) (ls : Array Slot), va_P D vwCl [(a_t, .inr (5, [.ref a_signs, .int v_count])), (a_signs, eI cI 30 v_signs), (a_p1, eI cI 12 u22.2.2.2.2)] H → va_S A s.heap H locs → lv_has ls 8 [(2, .int u22.1)] → W p l e { frames := 0, cells := 0, slots := 0, locals := 0 } s m args below meth c H locs 0 0 Q (F0 m 166 ls [.int w28, .int (u22.1 - (1 : Int32)), .ref a_p1])) hf ?_ ?_
        · intro w28 hf H locs ls hP hS hl
          obtain ⟨u30, hu30, hf⟩ := ob_bk hf
          refine ba_iast (X' := [(a_t, .inr (5, [.ref a_signs, .int v_count])), (a_signs, eI cI 30 v_signs), (a_p1, eI cI 12 u30)]) Cx hP hS rfl 2 rfl rfl hu30 dX5_writeSteps_166 (fun H locs hP hS => ?_)
          exact J167_24 u30 hf _ _ _ hP hS (lv_sub hl [0] rfl)
        · intro J166_29 hf
          refine lv_if_eq (tgt := 165) hx hb dX5_writeSteps_153 (by decide) (fun c31 => ?_) (fun c31 => ?_)
          · have hf := ob_tk c31 hf
            refine lv_iconst (v := 0) hx hb dX5_writeSteps_165 (by decide) ?_
            exact J166_29 (0 : Int32) hf _ _ _ hP hS (lv_sub hl [2] rfl)
          · have hf := ob_fk c31 hf
            refine lv_iload hx hb dX5_writeSteps_156 (lv_at hl 4 rfl) ?_
            refine lv_iload_n hx hb dX5_writeSteps_158 rfl (lv_at hl 3 rfl) ?_
            refine lv_iadd hx hb dX5_writeSteps_159 ?_
            refine lv_iconst (v := 1) hx hb dX5_writeSteps_160 (by decide) ?_
            refine lv_isub hx hb dX5_writeSteps_161 ?_
            refine lv_goto (tgt := 166) hx hb dX5_writeSteps_162 (by decide) ?_
            exact J166_29 ((u22.2.2.1 + u22.2.1) - (1 : Int32)) hf _ _ _ hP hS (lv_sub hl [2] rfl)
      · intro J145_27 hf
        refine lv_if_eq (tgt := 144) hx hb dX5_writeSteps_123 (by decide) (fun c32 => ?_) (fun c32 => ?_)
        · have hf := ob_tk c32 hf
          refine lv_iconst (v := 0) hx hb dX5_writeSteps_144 (by decide) ?_
          exact J145_27 (0 : Int32) hf _ _ _ hP hS (lv_sub hl [0, 1, 2, 3] rfl)
        · have hf := ob_fk c32 hf
          refine lv_iload_n hx hb dX5_writeSteps_126 rfl (lv_at hl 1 rfl) ?_
          refine lv_iconst (v := 1) hx hb dX5_writeSteps_127 (by decide) ?_
          refine lv_icmp_le (tgt := 144) hx hb dX5_writeSteps_128 (by decide) (fun c33 => ?_) (fun c33 => ?_)
          · have hf := ob_tk c33 hf
            refine lv_iconst (v := 0) hx hb dX5_writeSteps_144 (by decide) ?_
            exact J145_27 (0 : Int32) hf _ _ _ hP hS (lv_sub hl [0, 1, 2, 3] rfl)
          · have hf := ob_fk c33 hf
            refine lv_iload hx hb dX5_writeSteps_131 (lv_at hl 3 rfl) ?_
            refine lv_if_eq (tgt := 144) hx hb dX5_writeSteps_133 (by decide) (fun c34 => ?_) (fun c34 => ?_)
            · have hf := ob_tk c34 hf
              refine lv_iconst (v := 0) hx hb dX5_writeSteps_144 (by decide) ?_
              exact J145_27 (0 : Int32) hf _ _ _ hP hS (lv_sub hl [0, 1, 2, 3] rfl)
            · have hf := ob_fk c34 hf
              refine lv_iload_n hx hb dX5_writeSteps_136 rfl (lv_at hl 2 rfl) ?_
              refine lv_if_eq (tgt := 144) hx hb dX5_writeSteps_137 (by decide) (fun c35 => ?_) (fun c35 => ?_)
              · have hf := ob_tk c35 hf
                refine lv_iconst (v := 0) hx hb dX5_writeSteps_144 (by decide) ?_
                exact J145_27 (0 : Int32) hf _ _ _ hP hS (lv_sub hl [0, 1, 2, 3] rfl)
              · have hf := ob_fk c35 hf
                refine lv_iconst (v := 1) hx hb dX5_writeSteps_140 (by decide) ?_
                refine lv_goto (tgt := 145) hx hb dX5_writeSteps_141 (by decide) ?_
                exact J145_27 (1 : Int32) hf _ _ _ hP hS (lv_sub hl [0, 1, 2, 3] rfl)

def f_X9_seatSet_6 (v_bench_scene_seats : Int32) (v_bench_apart : Nat → Int32) (x1 : Int32) (u1 : Int32 × Int32 × (Nat → Int32)) : Nat → Int32 → Int32 → (Nat → Int32) → Option ((Int32 × (Nat → Int32)) ⊕ (Int32 × Int32 × Int32 × (Nat → Int32)))
  | 0, _, _, _ => none
  | n + 1, y2_6, z_set_6, z_nearest_6 =>
  if v_bench_scene_seats ≤ y2_6 then
  some (Sum.inl (z_set_6, z_nearest_6))
  else
  if ((x1 >>> (y2_6 &&& 31)) &&& (1 : Int32)) = 0 then
  f_X9_seatSet_6 v_bench_scene_seats v_bench_apart x1 u1 n (y2_6 + 1) z_set_6 z_nearest_6
  else
  (f_X9_isOpen u1.2.1 z_nearest_6 y2_6).bind (fun u5 =>
  if u5 = 0 then
  some (Sum.inr ((0 : Int32), z_set_6, u1.2.1, z_nearest_6))
  else
  (f_X9_sit z_set_6 v_bench_scene_seats z_nearest_6 v_bench_apart y2_6).bind (fun u7 =>
  f_X9_seatSet_6 v_bench_scene_seats v_bench_apart x1 u1 n (y2_6 + 1) u7.1 u7.2))
theorem f_X9_seatSet_6_s (v_bench_scene_seats : Int32) (v_bench_apart : Nat → Int32) (x1 : Int32) (u1 : Int32 × Int32 × (Nat → Int32)) (n : Nat) (y2_6 : Int32) (z_set_6 : Int32) (z_nearest_6 : Nat → Int32) : f_X9_seatSet_6 v_bench_scene_seats v_bench_apart x1 u1 (n + 1) y2_6 z_set_6 z_nearest_6 =
  (if v_bench_scene_seats ≤ y2_6 then
  some (Sum.inl (z_set_6, z_nearest_6))
  else
  if ((x1 >>> (y2_6 &&& 31)) &&& (1 : Int32)) = 0 then
  f_X9_seatSet_6 v_bench_scene_seats v_bench_apart x1 u1 n (y2_6 + 1) z_set_6 z_nearest_6
  else
  (f_X9_isOpen u1.2.1 z_nearest_6 y2_6).bind (fun u5 =>
  if u5 = 0 then
  some (Sum.inr ((0 : Int32), z_set_6, u1.2.1, z_nearest_6))
  else
  (f_X9_sit z_set_6 v_bench_scene_seats z_nearest_6 v_bench_apart y2_6).bind (fun u7 =>
  f_X9_seatSet_6 v_bench_scene_seats v_bench_apart x1 u1 n (y2_6 + 1) u7.1 u7.2))) := rfl
def f_X9_seatSet (v_bench_scene_seats : Int32) (v_bench_scene_bear : Int32) (v_nearest : Nat → Int32) (v_bench_apart : Nat → Int32) (x1 : Int32) : Option (Int32 × Int32 × Int32 × (Nat → Int32)) :=
  (f_X9_leave v_bench_scene_bear v_nearest).bind (fun u1 =>
  (f_X9_seatSet_6 v_bench_scene_seats v_bench_apart x1 u1 FU (0 : Int32) u1.1 u1.2.2).bind (fun u8 => Sum.elim (fun w9 =>
  some ((1 : Int32), w9.1, u1.2.1, w9.2)) (fun r => some r) u8))
set_option maxHeartbeats 4000000 in
set_option maxRecDepth 100000 in
theorem c_X9_seatSet (l : Launch) (D : va_G) (cI cJ cZ cO : ClassId) (a_t a_bench a_nearest a_bench_scene a_bench_apart a_bench_clash a_bench_neighbours a_bench_scene_steps a_bench_scene_worths a_bench_scene_comers a_bench_scene_seen a_bench_scene_seenLengths : Nat) (v_set : Int32) (v_bear : Int32) (v_bench_scene_seats : Int32) (v_bench_scene_bear : Int32) (v_bench_scene_comerCount : Int32) (v_bench_scene_seenRows : Int32) (v_nearest : Nat → Int32) (v_bench_apart : Nat → Int32) (x1 : Int32) (out : Int32 × Int32 × Int32 × (Nat → Int32)) (hf : f_X9_seatSet v_bench_scene_seats v_bench_scene_bear v_nearest v_bench_apart x1 = some out) : MetR l yX9_seatSet (Cond.code yX9_seatSet cX9_seatSet 3 (some .boolean) :: tbG) { frames := 2, cells := 0, slots := 0, locals := 44 } D (tyL cI cJ cZ cO) [.ref a_t, .int x1] [(a_t, .inr (9, [.ref a_bench, .ref a_nearest, .int v_set, .int v_bear])), (a_bench, .inr (0, [.ref a_bench_scene, .ref a_bench_apart, .ref a_bench_clash, .ref a_bench_neighbours])), (a_bench_scene, .inr (7, [.ref a_bench_scene_steps, .ref a_bench_scene_worths, .ref a_bench_scene_comers, .ref a_bench_scene_seen, .ref a_bench_scene_seenLengths, .int v_bench_scene_seats, .int v_bench_scene_bear, .int v_bench_scene_comerCount, .int v_bench_scene_seenRows])), (a_nearest, eI cI 12 v_nearest), (a_bench_apart, eI cI 144 v_bench_apart)] (some (.int out.1)) [(a_t, .inr (9, [.ref a_bench, .ref a_nearest, .int out.2.1, .int out.2.2.1])), (a_bench, .inr (0, [.ref a_bench_scene, .ref a_bench_apart, .ref a_bench_clash, .ref a_bench_neighbours])), (a_bench_scene, .inr (7, [.ref a_bench_scene_steps, .ref a_bench_scene_worths, .ref a_bench_scene_comers, .ref a_bench_scene_seen, .ref a_bench_scene_seenLengths, .int v_bench_scene_seats, .int v_bench_scene_bear, .int v_bench_scene_comerCount, .int v_bench_scene_seenRows])), (a_nearest, eI cI 12 out.2.2.2), (a_bench_apart, eI cI 144 v_bench_apart)] := by
  refine ba_ofZ RX9 [(0, .ref a_t), (1, .int x1)] (by decide +kernel) rfl (Nat.le_of_ble_eq_true rfl) rfl ?_
  intro p e s m args below meth c Q A Cx hP ret ls hl
  obtain ⟨⟨hx, hb, hml, hown, hts⟩, hK, hD, hA⟩ := id Cx
  have hS : va_S A s.heap s.heap [] := va_S.rf
  unfold f_X9_seatSet at hf
  refine lv_aload_n hx hb dX9_seatSet_0 rfl (lv_at hl 0 rfl) ?_
  obtain ⟨u1, hu1, hf⟩ := ob_b hf
  refine iv_X9_59 (As := []) (rest := []) (is := [0, 1, 2, 3]) (q0 := 0) (X' := [(a_t, .inr (9, [.ref a_bench, .ref a_nearest, .int u1.1, .int u1.2.1])), (a_bench, .inr (0, [.ref a_bench_scene, .ref a_bench_apart, .ref a_bench_clash, .ref a_bench_neighbours])), (a_bench_scene, .inr (7, [.ref a_bench_scene_steps, .ref a_bench_scene_worths, .ref a_bench_scene_comers, .ref a_bench_scene_seen, .ref a_bench_scene_seenLengths, .int v_bench_scene_seats, .int v_bench_scene_bear, .int v_bench_scene_comerCount, .int v_bench_scene_seenRows])), (a_nearest, eI cI 12 u1.2.2), (a_bench_apart, eI cI 144 v_bench_apart)]) Cx (c_X9_leave l D cI cJ cZ cO a_t a_bench a_nearest a_bench_scene a_bench_apart a_bench_clash a_bench_neighbours a_bench_scene_steps a_bench_scene_worths a_bench_scene_comers a_bench_scene_seen a_bench_scene_seenLengths v_set v_bear v_bench_scene_seats v_bench_scene_bear v_bench_scene_comerCount v_bench_scene_seenRows v_nearest u1 hu1) hP hS rfl rfl rfl rfl rfl rfl rfl hl.1 (Nat.le_of_ble_eq_true rfl) dX9_seatSet_1 rfl rfl ⟨Nat.le_of_ble_eq_true rfl, Nat.le_of_ble_eq_true rfl⟩ ⟨Nat.zero_le _, Nat.zero_le _⟩ rfl (fun H locs hP hS => ?_)
  refine lv_iconst (v := 0) hx hb dX9_seatSet_4 (by decide) ?_
  refine lv_istore_n (lv' := [(2, .int (0 : Int32)), (0, .ref a_t), (1, .int x1)]) hx hb dX9_seatSet_5 rfl hl (by decide) rfl (fun ls hl => ?_)
  have L6_2 : ∀ (n : Nat) (y2_6 : Int32) (z_set_6 : Int32) (z_nearest_6 : Nat → Int32) (o : (Int32 × (Nat → Int32)) ⊕ (Int32 × Int32 × Int32 × (Nat → Int32))) (H : Heap) (locs : List Loc) (ls : Array Slot), f_X9_seatSet_6 v_bench_scene_seats v_bench_apart x1 u1 n y2_6 z_set_6 z_nearest_6 = some o → va_P D vwCl [(a_t, .inr (9, [.ref a_bench, .ref a_nearest, .int z_set_6, .int u1.2.1])), (a_bench, .inr (0, [.ref a_bench_scene, .ref a_bench_apart, .ref a_bench_clash, .ref a_bench_neighbours])), (a_bench_scene, .inr (7, [.ref a_bench_scene_steps, .ref a_bench_scene_worths, .ref a_bench_scene_comers, .ref a_bench_scene_seen, .ref a_bench_scene_seenLengths, .int v_bench_scene_seats, .int v_bench_scene_bear, .int v_bench_scene_comerCount, .int v_bench_scene_seenRows])), (a_nearest, eI cI 12 z_nearest_6), (a_bench_apart, eI cI 144 v_bench_apart)] H → va_S A s.heap H locs → lv_has ls 3 [(0, .ref a_t), (1, .int x1), (2, .int y2_6)] → (∀ w, o = Sum.inl w → ∀ (H : Heap) (locs : List Loc) (ls : Array Slot), va_P D vwCl [(a_t, .inr (9, [.ref a_bench, .ref a_nearest, .int w.1, .int u1.2.1])), (a_bench, .inr (0, [.ref a_bench_scene, .ref a_bench_apart, .ref a_bench_clash, .ref a_bench_neighbours])), (a_bench_scene, .inr (7, [.ref a_bench_scene_steps, .ref a_bench_scene_worths, .ref a_bench_scene_comers, .ref a_bench_scene_seen, .ref a_bench_scene_seenLengths, .int v_bench_scene_seats, .int v_bench_scene_bear, .int v_bench_scene_comerCount, .int v_bench_scene_seenRows])), (a_nearest, eI cI 12 w.2), (a_bench_apart, eI cI 144 v_bench_apart)] H → va_S A s.heap H locs → lv_has ls 3 [] → W p l e { frames := 2, cells := 0, slots := 0, locals := 44 } s m args below meth c H locs 0 0 Q (F0 m 49 ls [])) → (∀ r, o = Sum.inr r → ∀ (pc : Nat) (H : Heap) (locs : List Loc) (ls : Array Slot) (r' : Int32), r' = r.1 → narrow .boolean (.int r') = .int r' →  decode cX9_seatSet pc = .ok (.ireturn, 1) → va_P D vwCl [(a_t, .inr (9, [.ref a_bench, .ref a_nearest, .int r.2.1, .int r.2.2.1])), (a_bench, .inr (0, [.ref a_bench_scene, .ref a_bench_apart, .ref a_bench_clash, .ref a_bench_neighbours])), (a_bench_scene, .inr (7, [.ref a_bench_scene_steps, .ref a_bench_scene_worths, .ref a_bench_scene_comers, .ref a_bench_scene_seen, .ref a_bench_scene_seenLengths, .int v_bench_scene_seats, .int v_bench_scene_bear, .int v_bench_scene_comerCount, .int v_bench_scene_seenRows])), (a_nearest, eI cI 12 r.2.2.2), (a_bench_apart, eI cI 144 v_bench_apart)] H → va_S A s.heap H locs → W p l e { frames := 2, cells := 0, slots := 0, locals := 44 } s m args below meth c H locs 0 0 Q (F0 m pc ls [.int r'])) → W p l e { frames := 2, cells := 0, slots := 0, locals := 44 } s m args below meth c H locs 0 0 Q (F0 m 6 ls []) := by
    intro n
    induction n with
    | zero => intro y2_6 z_set_6 z_nearest_6 o H locs ls hf; exact (ob_n hf).elim
    | succ n ih =>
      intro y2_6 z_set_6 z_nearest_6 o H locs ls hf hP hS hl kk kr
      rw [f_X9_seatSet_6_s] at hf
      refine lv_iload_n hx hb dX9_seatSet_6 rfl (lv_at hl 2 rfl) ?_
      refine lv_aload_n hx hb dX9_seatSet_7 rfl (lv_at hl 0 rfl) ?_
      refine gf_X9_9 Cx hP 0 rfl rfl dX9_seatSet_8 ?_
      refine gf_X9_23 Cx hP 1 rfl rfl dX9_seatSet_11 ?_
      refine gf_X9_47 Cx hP 2 rfl rfl dX9_seatSet_14 ?_
      refine lv_icmp_ge (tgt := 49) hx hb dX9_seatSet_17 (by decide) (fun c3 => ?_) (fun c3 => ?_)
      · have hf := ob_t c3 hf
        obtain rfl := Option.some.inj hf
        exact kk _ rfl _ _ _ hP hS (lv_sub hl [] rfl)
      · have hf := ob_f c3 hf
        refine lv_iload_n hx hb dX9_seatSet_20 rfl (lv_at hl 1 rfl) ?_
        refine lv_iload_n hx hb dX9_seatSet_21 rfl (lv_at hl 2 rfl) ?_
        refine lv_ishr hx hb dX9_seatSet_22 ?_
        refine lv_iconst (v := 1) hx hb dX9_seatSet_23 (by decide) ?_
        refine lv_iand hx hb dX9_seatSet_24 ?_
        refine lv_if_eq (tgt := 43) hx hb dX9_seatSet_25 (by decide) (fun c4 => ?_) (fun c4 => ?_)
        · have hf := ob_t c4 hf
          refine lv_iinc (v := (y2_6 + 1)) (lv' := [(2, .int (y2_6 + 1)), (0, .ref a_t), (1, .int x1)]) hx hb dX9_seatSet_43 hl (k := 2) rfl rfl (by decide) rfl (fun ls hl => ?_)
          refine lv_goto (tgt := 6) hx hb dX9_seatSet_46 (by decide) ?_
          exact ih (y2_6 + 1) z_set_6 z_nearest_6 _ _ _ _ hf hP hS (lv_sub hl [1, 2, 0] rfl) kk kr
        · have hf := ob_f c4 hf
          refine lv_aload_n hx hb dX9_seatSet_28 rfl (lv_at hl 0 rfl) ?_
          refine lv_iload_n hx hb dX9_seatSet_29 rfl (lv_at hl 2 rfl) ?_
          obtain ⟨u5, hu5, hf⟩ := ob_b hf
          refine iv_X9_62 (As := [.int y2_6]) (rest := []) (is := [0, 3]) (q0 := 0) (X' := [(a_t, .inr (9, [.ref a_bench, .ref a_nearest, .int z_set_6, .int u1.2.1])), (a_bench, .inr (0, [.ref a_bench_scene, .ref a_bench_apart, .ref a_bench_clash, .ref a_bench_neighbours])), (a_bench_scene, .inr (7, [.ref a_bench_scene_steps, .ref a_bench_scene_worths, .ref a_bench_scene_comers, .ref a_bench_scene_seen, .ref a_bench_scene_seenLengths, .int v_bench_scene_seats, .int v_bench_scene_bear, .int v_bench_scene_comerCount, .int v_bench_scene_seenRows])), (a_nearest, eI cI 12 z_nearest_6), (a_bench_apart, eI cI 144 v_bench_apart)]) Cx (c_X9_isOpen l D cI cJ cZ cO a_t a_bench a_nearest z_set_6 u1.2.1 z_nearest_6 y2_6 u5 hu5) hP hS rfl rfl rfl rfl rfl rfl rfl hl.1 (Nat.le_of_ble_eq_true rfl) dX9_seatSet_30 rfl rfl ⟨Nat.le_of_ble_eq_true rfl, Nat.le_of_ble_eq_true rfl⟩ ⟨Nat.zero_le _, Nat.zero_le _⟩ rfl (fun H locs hP hS => ?_)
          refine lv_if_ne (tgt := 38) hx hb dX9_seatSet_33 (by decide) (fun c6 => ?_) (fun c6 => ?_)
          · have hf := ob_f c6 hf
            refine lv_aload_n hx hb dX9_seatSet_38 rfl (lv_at hl 0 rfl) ?_
            refine lv_iload_n hx hb dX9_seatSet_39 rfl (lv_at hl 2 rfl) ?_
            obtain ⟨u7, hu7, hf⟩ := ob_b hf
            refine iv_X9_66 (As := [.int y2_6]) (rest := []) (is := [0, 1, 2, 3, 4]) (q0 := 0) (X' := [(a_t, .inr (9, [.ref a_bench, .ref a_nearest, .int u7.1, .int u1.2.1])), (a_bench, .inr (0, [.ref a_bench_scene, .ref a_bench_apart, .ref a_bench_clash, .ref a_bench_neighbours])), (a_bench_scene, .inr (7, [.ref a_bench_scene_steps, .ref a_bench_scene_worths, .ref a_bench_scene_comers, .ref a_bench_scene_seen, .ref a_bench_scene_seenLengths, .int v_bench_scene_seats, .int v_bench_scene_bear, .int v_bench_scene_comerCount, .int v_bench_scene_seenRows])), (a_nearest, eI cI 12 u7.2), (a_bench_apart, eI cI 144 v_bench_apart)]) Cx (c_X9_sit l D cI cJ cZ cO a_t a_bench a_nearest a_bench_scene a_bench_apart a_bench_clash a_bench_neighbours a_bench_scene_steps a_bench_scene_worths a_bench_scene_comers a_bench_scene_seen a_bench_scene_seenLengths z_set_6 u1.2.1 v_bench_scene_seats v_bench_scene_bear v_bench_scene_comerCount v_bench_scene_seenRows z_nearest_6 v_bench_apart y2_6 u7 hu7) hP hS rfl rfl rfl rfl rfl rfl rfl hl.1 (Nat.le_of_ble_eq_true rfl) dX9_seatSet_40 rfl rfl ⟨Nat.le_of_ble_eq_true rfl, Nat.le_of_ble_eq_true rfl⟩ ⟨Nat.zero_le _, Nat.zero_le _⟩ rfl (fun H locs hP hS => ?_)
            refine lv_iinc (v := (y2_6 + 1)) (lv' := [(2, .int (y2_6 + 1)), (0, .ref a_t), (1, .int x1)]) hx hb dX9_seatSet_43 hl (k := 2) rfl rfl (by decide) rfl (fun ls hl => ?_)
            refine lv_goto (tgt := 6) hx hb dX9_seatSet_46 (by decide) ?_
            exact ih (y2_6 + 1) u7.1 u7.2 _ _ _ _ hf hP hS (lv_sub hl [1, 2, 0] rfl) kk kr
          · have hf := ob_t c6 hf
            refine lv_iconst (v := 0) hx hb dX9_seatSet_36 (by decide) ?_
            obtain rfl := Option.some.inj hf
            exact kr _ rfl _ _ _ _ _ rfl (by decide) dX9_seatSet_37 hP hS
  obtain ⟨u8, hu8, hf⟩ := ob_b hf
  refine L6_2 FU (0 : Int32) u1.1 u1.2.2 u8 _ _ _ hu8 hP hS (lv_sub hl [1, 2, 0] rfl) ?_ ?_
  · intro w9 hw H locs ls hP hS hl
    rw [hw] at hf
    have hf := ob_l hf
    refine lv_iconst (v := 1) hx hb dX9_seatSet_49 (by decide) ?_
    obtain rfl := Option.some.inj hf
    exact ret _ _ _ _ _ rfl (by decide) dX9_seatSet_50 hP hS
  · intro r hr pc H locs ls r' hr1 hr2 hd hP hS
    rw [hr] at hf
    have hf := ob_r hf
    obtain rfl := Option.some.inj hf
    exact ret _ _ _ _ _ hr1 hr2 hd hP hS

