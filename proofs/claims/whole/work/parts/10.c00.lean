def f_J7_fill_53178_5 (n_p0 : Nat) (x1 : Int32) : Nat → Int32 → (Nat → Int32) → Option ((Nat → Int32))
  | 0, _, _ => none
  | n + 1, y2_5, z_p0_5 =>
  if (Int32.ofNat n_p0) ≤ y2_5 then
  some (z_p0_5)
  else
  (asetI n_p0 z_p0_5 y2_5 x1).bind (fun u3 =>
  f_J7_fill_53178_5 n_p0 x1 n (y2_5 + 1) u3)
theorem f_J7_fill_53178_5_s (n_p0 : Nat) (x1 : Int32) (n : Nat) (y2_5 : Int32) (z_p0_5 : Nat → Int32) : f_J7_fill_53178_5 n_p0 x1 (n + 1) y2_5 z_p0_5 =
  (if (Int32.ofNat n_p0) ≤ y2_5 then
  some (z_p0_5)
  else
  (asetI n_p0 z_p0_5 y2_5 x1).bind (fun u3 =>
  f_J7_fill_53178_5 n_p0 x1 n (y2_5 + 1) u3)) := rfl
def f_J7_fill_53178 (n_p0 : Nat) (v_p0 : Nat → Int32) (x1 : Int32) : Option ((Nat → Int32)) :=
  (f_J7_fill_53178_5 n_p0 x1 FU (0 : Int32) v_p0).bind (fun u4 =>
  some (u4))
set_option maxHeartbeats 4000000 in
set_option maxRecDepth 100000 in
theorem c_J7_fill_53178 (l : Launch) (D : va_G) (cI cJ cZ cO : ClassId) (a_p0 : Nat) (n_p0 : Nat) (v_p0 : Nat → Int32) (x1 : Int32) (out : (Nat → Int32)) (hf : f_J7_fill_53178 n_p0 v_p0 x1 = some out) : MetR l yJ7_fill_53178 (Cond.code yJ7_fill_53178 cJ7_fill_53178 4 none :: tbG) { frames := 0, cells := 0, slots := 0, locals := 0 } D (tyL cI cJ cZ cO) [.ref a_p0, .int x1] [(a_p0, eI cI n_p0 v_p0)] none [(a_p0, eI cI n_p0 out)] := by
  refine ba_ofV RJ7 [(0, .ref a_p0), (1, .int x1)] (by decide +kernel) rfl (Nat.le_of_ble_eq_true rfl) rfl ?_
  intro p e s m args below meth c Q A Cx hP ret ls hl
  obtain ⟨⟨hx, hb, hml, hown, hts⟩, hK, hD, hA⟩ := id Cx
  have hS : va_S A s.heap s.heap [] := va_S.rf
  unfold f_J7_fill_53178 at hf
  refine lv_iconst (v := 0) hx hb dJ7_fill_53178_0 (by decide) ?_
  refine lv_istore_n (lv' := [(2, .int (0 : Int32)), (0, .ref a_p0), (1, .int x1)]) hx hb dJ7_fill_53178_1 rfl hl (by decide) rfl (fun ls hl => ?_)
  refine lv_aload_n hx hb dJ7_fill_53178_2 rfl (lv_at hl 1 rfl) ?_
  refine va_alen hx hb hK hP 0 0 rfl rfl rfl dJ7_fill_53178_3 ?_
  refine lv_istore_n (lv' := [(3, .int (Int32.ofNat n_p0)), (2, .int (0 : Int32)), (0, .ref a_p0), (1, .int x1)]) hx hb dJ7_fill_53178_4 rfl hl (by decide) rfl (fun ls hl => ?_)
  have L5_1 : ∀ (n : Nat) (y2_5 : Int32) (z_p0_5 : Nat → Int32) (o : (Nat → Int32)) (H : Heap) (locs : List Loc) (ls : Array Slot), f_J7_fill_53178_5 n_p0 x1 n y2_5 z_p0_5 = some o → va_P D vwCl [(a_p0, eI cI n_p0 z_p0_5)] H → va_S A s.heap H locs → lv_has ls 4 [(0, .ref a_p0), (1, .int x1), (2, .int y2_5), (3, .int (Int32.ofNat n_p0))] → (∀ (H : Heap) (locs : List Loc) (ls : Array Slot), va_P D vwCl [(a_p0, eI cI n_p0 o)] H → va_S A s.heap H locs → lv_has ls 4 [] → W p l e { frames := 0, cells := 0, slots := 0, locals := 0 } s m args below meth c H locs 0 0 Q (F0 m 20 ls [])) → W p l e { frames := 0, cells := 0, slots := 0, locals := 0 } s m args below meth c H locs 0 0 Q (F0 m 5 ls []) := by
    intro n
    induction n with
    | zero => intro y2_5 z_p0_5 o H locs ls hf; exact (ob_n hf).elim
    | succ n ih =>
      intro y2_5 z_p0_5 o H locs ls hf hP hS hl kk
      rw [f_J7_fill_53178_5_s] at hf
      refine lv_iload_n hx hb dJ7_fill_53178_5 rfl (lv_at hl 2 rfl) ?_
      refine lv_iload_n hx hb dJ7_fill_53178_6 rfl (lv_at hl 3 rfl) ?_
      refine lv_icmp_ge (tgt := 20) hx hb dJ7_fill_53178_7 (by decide) (fun c2 => ?_) (fun c2 => ?_)
      · have hf := ob_t c2 hf
        obtain rfl := Option.some.inj hf
        exact kk _ _ _ hP hS (lv_sub hl [] rfl)
      · have hf := ob_f c2 hf
        refine lv_aload_n hx hb dJ7_fill_53178_10 rfl (lv_at hl 0 rfl) ?_
        refine lv_iload_n hx hb dJ7_fill_53178_11 rfl (lv_at hl 2 rfl) ?_
        refine lv_iload_n hx hb dJ7_fill_53178_12 rfl (lv_at hl 1 rfl) ?_
        obtain ⟨u3, hu3, hf⟩ := ob_b hf
        refine ba_iast (X' := [(a_p0, eI cI n_p0 u3)]) Cx hP hS rfl 0 rfl rfl hu3 dJ7_fill_53178_13 (fun H locs hP hS => ?_)
        refine lv_iinc (v := (y2_5 + 1)) (lv' := [(2, .int (y2_5 + 1)), (0, .ref a_p0), (1, .int x1), (3, .int (Int32.ofNat n_p0))]) hx hb dJ7_fill_53178_14 hl (k := 2) rfl rfl (by decide) rfl (fun ls hl => ?_)
        refine lv_goto (tgt := 5) hx hb dJ7_fill_53178_17 (by decide) ?_
        exact ih (y2_5 + 1) u3 _ _ _ _ hf hP hS (lv_sub hl [1, 2, 0, 3] rfl) kk
  obtain ⟨u4, hu4, hf⟩ := ob_b hf
  refine L5_1 FU (0 : Int32) v_p0 u4 _ _ _ hu4 hP hS (lv_sub hl [2, 3, 1, 0] rfl) ?_
  intro H locs ls hP hS hl
  obtain rfl := Option.some.inj hf
  exact ret _ _ _ _ dJ7_fill_53178_20 hP hS

def f_X9_leave (v_bench_scene_bear : Int32) (v_nearest : Nat → Int32) : Option (Int32 × Int32 × (Nat → Int32)) :=
  (f_J7_fill_53178 12 v_nearest (99 : Int32)).bind (fun u1 =>
  some ((0 : Int32), v_bench_scene_bear, u1))
set_option maxHeartbeats 4000000 in
set_option maxRecDepth 100000 in
theorem c_X9_leave (l : Launch) (D : va_G) (cI cJ cZ cO : ClassId) (a_t a_bench a_nearest a_bench_scene a_bench_apart a_bench_clash a_bench_neighbours a_bench_scene_steps a_bench_scene_worths a_bench_scene_comers a_bench_scene_seen a_bench_scene_seenLengths : Nat) (v_set : Int32) (v_bear : Int32) (v_bench_scene_seats : Int32) (v_bench_scene_bear : Int32) (v_bench_scene_comerCount : Int32) (v_bench_scene_seenRows : Int32) (v_nearest : Nat → Int32) (out : Int32 × Int32 × (Nat → Int32)) (hf : f_X9_leave v_bench_scene_bear v_nearest = some out) : MetR l yX9_leave (Cond.code yX9_leave cX9_leave 1 none :: tbG) { frames := 1, cells := 0, slots := 0, locals := 23 } D (tyL cI cJ cZ cO) [.ref a_t] [(a_t, .inr (9, [.ref a_bench, .ref a_nearest, .int v_set, .int v_bear])), (a_bench, .inr (0, [.ref a_bench_scene, .ref a_bench_apart, .ref a_bench_clash, .ref a_bench_neighbours])), (a_bench_scene, .inr (7, [.ref a_bench_scene_steps, .ref a_bench_scene_worths, .ref a_bench_scene_comers, .ref a_bench_scene_seen, .ref a_bench_scene_seenLengths, .int v_bench_scene_seats, .int v_bench_scene_bear, .int v_bench_scene_comerCount, .int v_bench_scene_seenRows])), (a_nearest, eI cI 12 v_nearest)] none [(a_t, .inr (9, [.ref a_bench, .ref a_nearest, .int out.1, .int out.2.1])), (a_bench, .inr (0, [.ref a_bench_scene, .ref a_bench_apart, .ref a_bench_clash, .ref a_bench_neighbours])), (a_bench_scene, .inr (7, [.ref a_bench_scene_steps, .ref a_bench_scene_worths, .ref a_bench_scene_comers, .ref a_bench_scene_seen, .ref a_bench_scene_seenLengths, .int v_bench_scene_seats, .int v_bench_scene_bear, .int v_bench_scene_comerCount, .int v_bench_scene_seenRows])), (a_nearest, eI cI 12 out.2.2)] := by
  refine ba_ofV RX9 [(0, .ref a_t)] (by decide +kernel) rfl (Nat.le_of_ble_eq_true rfl) rfl ?_
  intro p e s m args below meth c Q A Cx hP ret ls hl
  obtain ⟨⟨hx, hb, hml, hown, hts⟩, hK, hD, hA⟩ := id Cx
  have hS : va_S A s.heap s.heap [] := va_S.rf
  unfold f_X9_leave at hf
  refine lv_aload_n hx hb dX9_leave_0 rfl (lv_at hl 0 rfl) ?_
  refine lv_iconst (v := 0) hx hb dX9_leave_1 (by decide) ?_
  refine pf_X9_19 (X' := [(a_t, .inr (9, [.ref a_bench, .ref a_nearest, .int (0 : Int32), .int v_bear])), (a_bench, .inr (0, [.ref a_bench_scene, .ref a_bench_apart, .ref a_bench_clash, .ref a_bench_neighbours])), (a_bench_scene, .inr (7, [.ref a_bench_scene_steps, .ref a_bench_scene_worths, .ref a_bench_scene_comers, .ref a_bench_scene_seen, .ref a_bench_scene_seenLengths, .int v_bench_scene_seats, .int v_bench_scene_bear, .int v_bench_scene_comerCount, .int v_bench_scene_seenRows])), (a_nearest, eI cI 12 v_nearest)]) Cx hP hS rfl 0 rfl rfl (Nat.le_of_ble_eq_true rfl) dX9_leave_2 (fun H locs hP hS => ?_)
  refine lv_aload_n hx hb dX9_leave_5 rfl (lv_at hl 0 rfl) ?_
  refine lv_aload_n hx hb dX9_leave_6 rfl (lv_at hl 0 rfl) ?_
  refine gf_X9_9 Cx hP 0 rfl rfl dX9_leave_7 ?_
  refine gf_X9_23 Cx hP 1 rfl rfl dX9_leave_10 ?_
  refine gf_X9_29 Cx hP 2 rfl rfl dX9_leave_13 ?_
  refine pf_X9_34 (X' := [(a_t, .inr (9, [.ref a_bench, .ref a_nearest, .int (0 : Int32), .int v_bench_scene_bear])), (a_bench, .inr (0, [.ref a_bench_scene, .ref a_bench_apart, .ref a_bench_clash, .ref a_bench_neighbours])), (a_bench_scene, .inr (7, [.ref a_bench_scene_steps, .ref a_bench_scene_worths, .ref a_bench_scene_comers, .ref a_bench_scene_seen, .ref a_bench_scene_seenLengths, .int v_bench_scene_seats, .int v_bench_scene_bear, .int v_bench_scene_comerCount, .int v_bench_scene_seenRows])), (a_nearest, eI cI 12 v_nearest)]) Cx hP hS rfl 0 rfl rfl (Nat.le_of_ble_eq_true rfl) dX9_leave_16 (fun H locs hP hS => ?_)
  refine lv_aload_n hx hb dX9_leave_19 rfl (lv_at hl 0 rfl) ?_
  refine gf_X9_15 Cx hP 0 rfl rfl dX9_leave_20 ?_
  refine lv_bipush (v := 99) hx hb dX9_leave_23 (by decide) ?_
  obtain ⟨u1, hu1, hf⟩ := ob_b hf
  refine iv_X9_35 (As := [.ref a_nearest, .int (99 : Int32)]) (rest := []) (is := [3]) (X' := [(a_t, .inr (9, [.ref a_bench, .ref a_nearest, .int (0 : Int32), .int v_bench_scene_bear])), (a_bench, .inr (0, [.ref a_bench_scene, .ref a_bench_apart, .ref a_bench_clash, .ref a_bench_neighbours])), (a_bench_scene, .inr (7, [.ref a_bench_scene_steps, .ref a_bench_scene_worths, .ref a_bench_scene_comers, .ref a_bench_scene_seen, .ref a_bench_scene_seenLengths, .int v_bench_scene_seats, .int v_bench_scene_bear, .int v_bench_scene_comerCount, .int v_bench_scene_seenRows])), (a_nearest, eI cI 12 u1)]) Cx (c_J7_fill_53178 l D cI cJ cZ cO a_nearest 12 v_nearest (99 : Int32) u1 hu1) hP hS rfl rfl rfl rfl rfl rfl hl.1 (Nat.le_of_ble_eq_true rfl) dX9_leave_25 rfl rfl ⟨Nat.le_of_ble_eq_true rfl, Nat.le_of_ble_eq_true rfl⟩ ⟨Nat.zero_le _, Nat.zero_le _⟩ rfl (fun H locs hP hS => ?_)
  obtain rfl := Option.some.inj hf
  exact ret _ _ _ _ dX9_leave_28 hP hS

def f_X9_isOpen (v_bear : Int32) (v_nearest : Nat → Int32) (x1 : Int32) : Option (Int32) :=
  (aget 12 v_nearest x1).bind (fun u1 =>
  (if u1 < v_bear then
  some (0 : Int32)
  else
  some (1 : Int32)).bind (fun w2 =>
  (oz w2).bind (fun u4 =>
  some (u4))))
set_option maxHeartbeats 4000000 in
set_option maxRecDepth 100000 in
theorem c_X9_isOpen (l : Launch) (D : va_G) (cI cJ cZ cO : ClassId) (a_t a_bench a_nearest : Nat) (v_set : Int32) (v_bear : Int32) (v_nearest : Nat → Int32) (x1 : Int32) (out : Int32) (hf : f_X9_isOpen v_bear v_nearest x1 = some out) : MetR l yX9_isOpen (Cond.code yX9_isOpen cX9_isOpen 2 (some .boolean) :: tbG) { frames := 0, cells := 0, slots := 0, locals := 0 } D (tyL cI cJ cZ cO) [.ref a_t, .int x1] [(a_t, .inr (9, [.ref a_bench, .ref a_nearest, .int v_set, .int v_bear])), (a_nearest, eI cI 12 v_nearest)] (some (.int out)) [(a_t, .inr (9, [.ref a_bench, .ref a_nearest, .int v_set, .int v_bear])), (a_nearest, eI cI 12 v_nearest)] := by
  refine ba_ofZ RX9 [(0, .ref a_t), (1, .int x1)] (by decide +kernel) rfl (Nat.le_of_ble_eq_true rfl) rfl ?_
  intro p e s m args below meth c Q A Cx hP ret ls hl
  obtain ⟨⟨hx, hb, hml, hown, hts⟩, hK, hD, hA⟩ := id Cx
  have hS : va_S A s.heap s.heap [] := va_S.rf
  unfold f_X9_isOpen at hf
  refine lv_aload_n hx hb dX9_isOpen_0 rfl (lv_at hl 0 rfl) ?_
  refine gf_X9_15 Cx hP 0 rfl rfl dX9_isOpen_1 ?_
  refine lv_iload_n hx hb dX9_isOpen_4 rfl (lv_at hl 1 rfl) ?_
  obtain ⟨u1, hu1, hf⟩ := ob_b hf
  refine ba_iald Cx hP 1 rfl hu1 dX9_isOpen_5 ?_
  refine lv_aload_n hx hb dX9_isOpen_6 rfl (lv_at hl 0 rfl) ?_
  refine gf_X9_34 Cx hP 0 rfl rfl dX9_isOpen_7 ?_
  refine ob_J (P := fun w2 => ∀ (H : Heap) (locs : List Loc) (ls : Array Slot), va_P D vwCl [(a_t, .inr (9, [.ref a_bench, .ref a_nearest, .int v_set, .int v_bear])), (a_nearest, eI cI 12 v_nearest)] H → va_S A s.heap H locs → lv_has ls 2 [] → W p l e { frames := 0, cells := 0, slots := 0, locals := 0 } s m args below meth c H locs 0 0 Q (F0 m 18 ls [.int w2])) hf ?_ ?_
  · intro w2 hf H locs ls hP hS hl
    obtain ⟨u4, hu4, hf⟩ := ob_b hf
    obtain ⟨hz1, hz2⟩ := oz_ok hu4
    obtain rfl := Option.some.inj hf
    exact ret _ _ _ _ _ hz1 hz2 dX9_isOpen_18 hP hS
  · intro J18_3 hf
    refine lv_icmp_lt (tgt := 17) hx hb dX9_isOpen_10 (by decide) (fun c5 => ?_) (fun c5 => ?_)
    · have hf := ob_tk c5 hf
      refine lv_iconst (v := 0) hx hb dX9_isOpen_17 (by decide) ?_
      exact J18_3 (0 : Int32) hf _ _ _ hP hS (lv_sub hl [] rfl)
    · have hf := ob_fk c5 hf
      refine lv_iconst (v := 1) hx hb dX9_isOpen_13 (by decide) ?_
      refine lv_goto (tgt := 18) hx hb dX9_isOpen_14 (by decide) ?_
      exact J18_3 (1 : Int32) hf _ _ _ hP hS (lv_sub hl [] rfl)

def f_X0_farness (v_apart : Nat → Int32) (x1 : Int32) (x2 : Int32) : Option (Int32) :=
  (aget 144 v_apart ((x1 * (12 : Int32)) + x2)).bind (fun u1 =>
  some (u1))
set_option maxHeartbeats 4000000 in
set_option maxRecDepth 100000 in
theorem c_X0_farness (l : Launch) (D : va_G) (cI cJ cZ cO : ClassId) (a_t a_scene a_apart a_clash a_neighbours : Nat) (v_apart : Nat → Int32) (x1 : Int32) (x2 : Int32) (out : Int32) (hf : f_X0_farness v_apart x1 x2 = some out) : MetR l yX0_farness (Cond.code yX0_farness cX0_farness 3 (some .int) :: tbG) { frames := 0, cells := 0, slots := 0, locals := 0 } D (tyL cI cJ cZ cO) [.ref a_t, .int x1, .int x2] [(a_t, .inr (0, [.ref a_scene, .ref a_apart, .ref a_clash, .ref a_neighbours])), (a_apart, eI cI 144 v_apart)] (some (.int out)) [(a_t, .inr (0, [.ref a_scene, .ref a_apart, .ref a_clash, .ref a_neighbours])), (a_apart, eI cI 144 v_apart)] := by
  refine ba_ofI RX0 [(0, .ref a_t), (1, .int x1), (2, .int x2)] (by decide +kernel) rfl (Nat.le_of_ble_eq_true rfl) rfl ?_
  intro p e s m args below meth c Q A Cx hP ret ls hl
  obtain ⟨⟨hx, hb, hml, hown, hts⟩, hK, hD, hA⟩ := id Cx
  have hS : va_S A s.heap s.heap [] := va_S.rf
  unfold f_X0_farness at hf
  refine lv_aload_n hx hb dX0_farness_0 rfl (lv_at hl 0 rfl) ?_
  refine gf_X0_15 Cx hP 0 rfl rfl dX0_farness_1 ?_
  refine lv_iload_n hx hb dX0_farness_4 rfl (lv_at hl 1 rfl) ?_
  refine lv_bipush (v := 12) hx hb dX0_farness_5 (by decide) ?_
  refine lv_imul hx hb dX0_farness_7 ?_
  refine lv_iload_n hx hb dX0_farness_8 rfl (lv_at hl 2 rfl) ?_
  refine lv_iadd hx hb dX0_farness_9 ?_
  obtain ⟨u1, hu1, hf⟩ := ob_b hf
  refine ba_iald Cx hP 1 rfl hu1 dX0_farness_10 ?_
  obtain rfl := Option.some.inj hf
  exact ret _ _ _ _ dX0_farness_11 hP hS

def f_X9_sit_14 (v_bench_scene_seats : Int32) (v_bench_apart : Nat → Int32) (x1 : Int32) : Nat → Int32 → (Nat → Int32) → Option ((Nat → Int32))
  | 0, _, _ => none
  | n + 1, y2_14, z_nearest_14 =>
  if v_bench_scene_seats ≤ y2_14 then
  some (z_nearest_14)
  else
  (aget 12 z_nearest_14 y2_14).bind (fun u3 =>
  (f_X0_farness v_bench_apart x1 y2_14).bind (fun u4 =>
  (asetI 12 z_nearest_14 y2_14 (imin u3 u4)).bind (fun u5 =>
  f_X9_sit_14 v_bench_scene_seats v_bench_apart x1 n (y2_14 + 1) u5)))
theorem f_X9_sit_14_s (v_bench_scene_seats : Int32) (v_bench_apart : Nat → Int32) (x1 : Int32) (n : Nat) (y2_14 : Int32) (z_nearest_14 : Nat → Int32) : f_X9_sit_14 v_bench_scene_seats v_bench_apart x1 (n + 1) y2_14 z_nearest_14 =
  (if v_bench_scene_seats ≤ y2_14 then
  some (z_nearest_14)
  else
  (aget 12 z_nearest_14 y2_14).bind (fun u3 =>
  (f_X0_farness v_bench_apart x1 y2_14).bind (fun u4 =>
  (asetI 12 z_nearest_14 y2_14 (imin u3 u4)).bind (fun u5 =>
  f_X9_sit_14 v_bench_scene_seats v_bench_apart x1 n (y2_14 + 1) u5)))) := rfl
def f_X9_sit (v_set : Int32) (v_bench_scene_seats : Int32) (v_nearest : Nat → Int32) (v_bench_apart : Nat → Int32) (x1 : Int32) : Option (Int32 × (Nat → Int32)) :=
  (f_X9_sit_14 v_bench_scene_seats v_bench_apart x1 FU (0 : Int32) v_nearest).bind (fun u6 =>
  some ((v_set ||| ((1 : Int32) <<< (x1 &&& 31))), u6))
set_option maxHeartbeats 4000000 in
set_option maxRecDepth 100000 in
theorem c_X9_sit (l : Launch) (D : va_G) (cI cJ cZ cO : ClassId) (a_t a_bench a_nearest a_bench_scene a_bench_apart a_bench_clash a_bench_neighbours a_bench_scene_steps a_bench_scene_worths a_bench_scene_comers a_bench_scene_seen a_bench_scene_seenLengths : Nat) (v_set : Int32) (v_bear : Int32) (v_bench_scene_seats : Int32) (v_bench_scene_bear : Int32) (v_bench_scene_comerCount : Int32) (v_bench_scene_seenRows : Int32) (v_nearest : Nat → Int32) (v_bench_apart : Nat → Int32) (x1 : Int32) (out : Int32 × (Nat → Int32)) (hf : f_X9_sit v_set v_bench_scene_seats v_nearest v_bench_apart x1 = some out) : MetR l yX9_sit (Cond.code yX9_sit cX9_sit 3 none :: tbG) { frames := 1, cells := 0, slots := 0, locals := 22 } D (tyL cI cJ cZ cO) [.ref a_t, .int x1] [(a_t, .inr (9, [.ref a_bench, .ref a_nearest, .int v_set, .int v_bear])), (a_bench, .inr (0, [.ref a_bench_scene, .ref a_bench_apart, .ref a_bench_clash, .ref a_bench_neighbours])), (a_bench_scene, .inr (7, [.ref a_bench_scene_steps, .ref a_bench_scene_worths, .ref a_bench_scene_comers, .ref a_bench_scene_seen, .ref a_bench_scene_seenLengths, .int v_bench_scene_seats, .int v_bench_scene_bear, .int v_bench_scene_comerCount, .int v_bench_scene_seenRows])), (a_nearest, eI cI 12 v_nearest), (a_bench_apart, eI cI 144 v_bench_apart)] none [(a_t, .inr (9, [.ref a_bench, .ref a_nearest, .int out.1, .int v_bear])), (a_bench, .inr (0, [.ref a_bench_scene, .ref a_bench_apart, .ref a_bench_clash, .ref a_bench_neighbours])), (a_bench_scene, .inr (7, [.ref a_bench_scene_steps, .ref a_bench_scene_worths, .ref a_bench_scene_comers, .ref a_bench_scene_seen, .ref a_bench_scene_seenLengths, .int v_bench_scene_seats, .int v_bench_scene_bear, .int v_bench_scene_comerCount, .int v_bench_scene_seenRows])), (a_nearest, eI cI 12 out.2), (a_bench_apart, eI cI 144 v_bench_apart)] := by
  refine ba_ofV RX9 [(0, .ref a_t), (1, .int x1)] (by decide +kernel) rfl (Nat.le_of_ble_eq_true rfl) rfl ?_
  intro p e s m args below meth c Q A Cx hP ret ls hl
  obtain ⟨⟨hx, hb, hml, hown, hts⟩, hK, hD, hA⟩ := id Cx
  have hS : va_S A s.heap s.heap [] := va_S.rf
  unfold f_X9_sit at hf
  refine lv_aload_n hx hb dX9_sit_0 rfl (lv_at hl 0 rfl) ?_
  refine lv_dup hx hb dX9_sit_1 rfl ?_
  refine gf_X9_19 Cx hP 0 rfl rfl dX9_sit_2 ?_
  refine lv_iconst (v := 1) hx hb dX9_sit_5 (by decide) ?_
  refine lv_iload_n hx hb dX9_sit_6 rfl (lv_at hl 1 rfl) ?_
  refine lv_ishl hx hb dX9_sit_7 ?_
  refine lv_ior hx hb dX9_sit_8 ?_
  refine pf_X9_19 (X' := [(a_t, .inr (9, [.ref a_bench, .ref a_nearest, .int (v_set ||| ((1 : Int32) <<< (x1 &&& 31))), .int v_bear])), (a_bench, .inr (0, [.ref a_bench_scene, .ref a_bench_apart, .ref a_bench_clash, .ref a_bench_neighbours])), (a_bench_scene, .inr (7, [.ref a_bench_scene_steps, .ref a_bench_scene_worths, .ref a_bench_scene_comers, .ref a_bench_scene_seen, .ref a_bench_scene_seenLengths, .int v_bench_scene_seats, .int v_bench_scene_bear, .int v_bench_scene_comerCount, .int v_bench_scene_seenRows])), (a_nearest, eI cI 12 v_nearest), (a_bench_apart, eI cI 144 v_bench_apart)]) Cx hP hS rfl 0 rfl rfl (Nat.le_of_ble_eq_true rfl) dX9_sit_9 (fun H locs hP hS => ?_)
  refine lv_iconst (v := 0) hx hb dX9_sit_12 (by decide) ?_
  refine lv_istore_n (lv' := [(2, .int (0 : Int32)), (0, .ref a_t), (1, .int x1)]) hx hb dX9_sit_13 rfl hl (by decide) rfl (fun ls hl => ?_)
  have L14_1 : ∀ (n : Nat) (y2_14 : Int32) (z_nearest_14 : Nat → Int32) (o : (Nat → Int32)) (H : Heap) (locs : List Loc) (ls : Array Slot), f_X9_sit_14 v_bench_scene_seats v_bench_apart x1 n y2_14 z_nearest_14 = some o → va_P D vwCl [(a_t, .inr (9, [.ref a_bench, .ref a_nearest, .int (v_set ||| ((1 : Int32) <<< (x1 &&& 31))), .int v_bear])), (a_bench, .inr (0, [.ref a_bench_scene, .ref a_bench_apart, .ref a_bench_clash, .ref a_bench_neighbours])), (a_bench_scene, .inr (7, [.ref a_bench_scene_steps, .ref a_bench_scene_worths, .ref a_bench_scene_comers, .ref a_bench_scene_seen, .ref a_bench_scene_seenLengths, .int v_bench_scene_seats, .int v_bench_scene_bear, .int v_bench_scene_comerCount, .int v_bench_scene_seenRows])), (a_nearest, eI cI 12 z_nearest_14), (a_bench_apart, eI cI 144 v_bench_apart)] H → va_S A s.heap H locs → lv_has ls 3 [(0, .ref a_t), (1, .int x1), (2, .int y2_14)] → (∀ (H : Heap) (locs : List Loc) (ls : Array Slot), va_P D vwCl [(a_t, .inr (9, [.ref a_bench, .ref a_nearest, .int (v_set ||| ((1 : Int32) <<< (x1 &&& 31))), .int v_bear])), (a_bench, .inr (0, [.ref a_bench_scene, .ref a_bench_apart, .ref a_bench_clash, .ref a_bench_neighbours])), (a_bench_scene, .inr (7, [.ref a_bench_scene_steps, .ref a_bench_scene_worths, .ref a_bench_scene_comers, .ref a_bench_scene_seen, .ref a_bench_scene_seenLengths, .int v_bench_scene_seats, .int v_bench_scene_bear, .int v_bench_scene_comerCount, .int v_bench_scene_seenRows])), (a_nearest, eI cI 12 o), (a_bench_apart, eI cI 144 v_bench_apart)] H → va_S A s.heap H locs → lv_has ls 3 [] → W p l e { frames := 1, cells := 0, slots := 0, locals := 22 } s m args below meth c H locs 0 0 Q (F0 m 58 ls [])) → W p l e { frames := 1, cells := 0, slots := 0, locals := 22 } s m args below meth c H locs 0 0 Q (F0 m 14 ls []) := by
    intro n
    induction n with
    | zero => intro y2_14 z_nearest_14 o H locs ls hf; exact (ob_n hf).elim
    | succ n ih =>
      intro y2_14 z_nearest_14 o H locs ls hf hP hS hl kk
      rw [f_X9_sit_14_s] at hf
      refine lv_iload_n hx hb dX9_sit_14 rfl (lv_at hl 2 rfl) ?_
      refine lv_aload_n hx hb dX9_sit_15 rfl (lv_at hl 0 rfl) ?_
      refine gf_X9_9 Cx hP 0 rfl rfl dX9_sit_16 ?_
      refine gf_X9_23 Cx hP 1 rfl rfl dX9_sit_19 ?_
      refine gf_X9_47 Cx hP 2 rfl rfl dX9_sit_22 ?_
      refine lv_icmp_ge (tgt := 58) hx hb dX9_sit_25 (by decide) (fun c2 => ?_) (fun c2 => ?_)
      · have hf := ob_t c2 hf
        obtain rfl := Option.some.inj hf
        exact kk _ _ _ hP hS (lv_sub hl [] rfl)
      · have hf := ob_f c2 hf
        refine lv_aload_n hx hb dX9_sit_28 rfl (lv_at hl 0 rfl) ?_
        refine gf_X9_15 Cx hP 0 rfl rfl dX9_sit_29 ?_
        refine lv_iload_n hx hb dX9_sit_32 rfl (lv_at hl 2 rfl) ?_
        refine lv_aload_n hx hb dX9_sit_33 rfl (lv_at hl 0 rfl) ?_
        refine gf_X9_15 Cx hP 0 rfl rfl dX9_sit_34 ?_
        refine lv_iload_n hx hb dX9_sit_37 rfl (lv_at hl 2 rfl) ?_
        obtain ⟨u3, hu3, hf⟩ := ob_b hf
        refine ba_iald Cx hP 3 rfl hu3 dX9_sit_38 ?_
        refine lv_aload_n hx hb dX9_sit_39 rfl (lv_at hl 0 rfl) ?_
        refine gf_X9_9 Cx hP 0 rfl rfl dX9_sit_40 ?_
        refine lv_iload_n hx hb dX9_sit_43 rfl (lv_at hl 1 rfl) ?_
        refine lv_iload_n hx hb dX9_sit_44 rfl (lv_at hl 2 rfl) ?_
        obtain ⟨u4, hu4, hf⟩ := ob_b hf
        refine iv_X9_50 (As := [.int x1, .int y2_14]) (rest := [.int u3, .int y2_14, .ref a_nearest]) (is := [1, 4]) (q0 := 1) (X' := [(a_t, .inr (9, [.ref a_bench, .ref a_nearest, .int (v_set ||| ((1 : Int32) <<< (x1 &&& 31))), .int v_bear])), (a_bench, .inr (0, [.ref a_bench_scene, .ref a_bench_apart, .ref a_bench_clash, .ref a_bench_neighbours])), (a_bench_scene, .inr (7, [.ref a_bench_scene_steps, .ref a_bench_scene_worths, .ref a_bench_scene_comers, .ref a_bench_scene_seen, .ref a_bench_scene_seenLengths, .int v_bench_scene_seats, .int v_bench_scene_bear, .int v_bench_scene_comerCount, .int v_bench_scene_seenRows])), (a_nearest, eI cI 12 z_nearest_14), (a_bench_apart, eI cI 144 v_bench_apart)]) Cx (c_X0_farness l D cI cJ cZ cO a_bench a_bench_scene a_bench_apart a_bench_clash a_bench_neighbours v_bench_apart x1 y2_14 u4 hu4) hP hS rfl rfl rfl rfl rfl rfl rfl hl.1 (Nat.le_of_ble_eq_true rfl) dX9_sit_45 rfl rfl ⟨Nat.le_of_ble_eq_true rfl, Nat.le_of_ble_eq_true rfl⟩ ⟨Nat.zero_le _, Nat.zero_le _⟩ rfl (fun H locs hP hS => ?_)
        refine ba_mmin Cx (hts _ kw_418) hl.1 (Nat.le_of_ble_eq_true rfl) (Nat.le_of_ble_eq_true rfl) (Nat.zero_le _) (Nat.zero_le _) dX9_sit_48 ?_
        obtain ⟨u5, hu5, hf⟩ := ob_b hf
        refine ba_iast (X' := [(a_t, .inr (9, [.ref a_bench, .ref a_nearest, .int (v_set ||| ((1 : Int32) <<< (x1 &&& 31))), .int v_bear])), (a_bench, .inr (0, [.ref a_bench_scene, .ref a_bench_apart, .ref a_bench_clash, .ref a_bench_neighbours])), (a_bench_scene, .inr (7, [.ref a_bench_scene_steps, .ref a_bench_scene_worths, .ref a_bench_scene_comers, .ref a_bench_scene_seen, .ref a_bench_scene_seenLengths, .int v_bench_scene_seats, .int v_bench_scene_bear, .int v_bench_scene_comerCount, .int v_bench_scene_seenRows])), (a_nearest, eI cI 12 u5), (a_bench_apart, eI cI 144 v_bench_apart)]) Cx hP hS rfl 3 rfl rfl hu5 dX9_sit_51 (fun H locs hP hS => ?_)
        refine lv_iinc (v := (y2_14 + 1)) (lv' := [(2, .int (y2_14 + 1)), (0, .ref a_t), (1, .int x1)]) hx hb dX9_sit_52 hl (k := 2) rfl rfl (by decide) rfl (fun ls hl => ?_)
        refine lv_goto (tgt := 14) hx hb dX9_sit_55 (by decide) ?_
        exact ih (y2_14 + 1) u5 _ _ _ _ hf hP hS (lv_sub hl [1, 2, 0] rfl) kk
  obtain ⟨u6, hu6, hf⟩ := ob_b hf
  refine L14_1 FU (0 : Int32) v_nearest u6 _ _ _ hu6 hP hS (lv_sub hl [1, 2, 0] rfl) ?_
  intro H locs ls hP hS hl
  obtain rfl := Option.some.inj hf
  exact ret _ _ _ _ dX9_sit_58 hP hS

def f_X9_seatSet_6 (v_bench_scene_seats : Int32) (v_bench_apart : Nat → Int32) (x1 : Int32) (u1 : Int32 × Int32 × (Nat → Int32)) : Nat → Int32 → Int32 → (Nat → Int32) → Option ((Int32 × (Nat → Int32)) ⊕ (Int32 × Int32 × Int32 × (Nat → Int32)))
  | 0, _, _, _ => none
  | n + 1, y2_6, z_set_6, z_nearest_6 =>
  if v_bench_scene_seats ≤ y2_6 then
  some (Sum.inl (z_set_6, z_nearest_6))
  else
  if ((x1 >>> (y2_6 &&& 31)) &&& (1 : Int32)) = 0 then
  f_X9_seatSet_6 v_bench_scene_seats v_bench_apart x1 u1 n (y2_6 + 1) z_set_6 z_nearest_6
  else
  (f_X9_isOpen u1.2.1 z_nearest_6 y2_6).bind (fun u5 =>
  if u5 = 0 then
  some (Sum.inr ((0 : Int32), z_set_6, u1.2.1, z_nearest_6))
  else
  (f_X9_sit z_set_6 v_bench_scene_seats z_nearest_6 v_bench_apart y2_6).bind (fun u7 =>
  f_X9_seatSet_6 v_bench_scene_seats v_bench_apart x1 u1 n (y2_6 + 1) u7.1 u7.2))
theorem f_X9_seatSet_6_s (v_bench_scene_seats : Int32) (v_bench_apart : Nat → Int32) (x1 : Int32) (u1 : Int32 × Int32 × (Nat → Int32)) (n : Nat) (y2_6 : Int32) (z_set_6 : Int32) (z_nearest_6 : Nat → Int32) : f_X9_seatSet_6 v_bench_scene_seats v_bench_apart x1 u1 (n + 1) y2_6 z_set_6 z_nearest_6 =
  (if v_bench_scene_seats ≤ y2_6 then
  some (Sum.inl (z_set_6, z_nearest_6))
  else
  if ((x1 >>> (y2_6 &&& 31)) &&& (1 : Int32)) = 0 then
  f_X9_seatSet_6 v_bench_scene_seats v_bench_apart x1 u1 n (y2_6 + 1) z_set_6 z_nearest_6
  else
  (f_X9_isOpen u1.2.1 z_nearest_6 y2_6).bind (fun u5 =>
  if u5 = 0 then
  some (Sum.inr ((0 : Int32), z_set_6, u1.2.1, z_nearest_6))
  else
  (f_X9_sit z_set_6 v_bench_scene_seats z_nearest_6 v_bench_apart y2_6).bind (fun u7 =>
  f_X9_seatSet_6 v_bench_scene_seats v_bench_apart x1 u1 n (y2_6 + 1) u7.1 u7.2))) := rfl
def f_X9_seatSet (v_bench_scene_seats : Int32) (v_bench_scene_bear : Int32) (v_nearest : Nat → Int32) (v_bench_apart : Nat → Int32) (x1 : Int32) : Option (Int32 × Int32 × Int32 × (Nat → Int32)) :=
  (f_X9_leave v_bench_scene_bear v_nearest).bind (fun u1 =>
  (f_X9_seatSet_6 v_bench_scene_seats v_bench_apart x1 u1 FU (0 : Int32) u1.1 u1.2.2).bind (fun u8 => Sum.elim (fun w9 =>
  some ((1 : Int32), w9.1, u1.2.1, w9.2)) (fun r => some r) u8))
set_option maxHeartbeats 4000000 in
set_option maxRecDepth 100000 in
theorem c_X9_seatSet (l : Launch) (D : va_G) (cI cJ cZ cO : ClassId) (a_t a_bench a_nearest a_bench_scene a_bench_apart a_bench_clash a_bench_neighbours a_bench_scene_steps a_bench_scene_worths a_bench_scene_comers a_bench_scene_seen a_bench_scene_seenLengths : Nat) (v_set : Int32) (v_bear : Int32) (v_bench_scene_seats : Int32) (v_bench_scene_bear : Int32) (v_bench_scene_comerCount : Int32) (v_bench_scene_seenRows : Int32) (v_nearest : Nat → Int32) (v_bench_apart : Nat → Int32) (x1 : Int32) (out : Int32 × Int32 × Int32 × (Nat → Int32)) (hf : f_X9_seatSet v_bench_scene_seats v_bench_scene_bear v_nearest v_bench_apart x1 = some out) : MetR l yX9_seatSet (Cond.code yX9_seatSet cX9_seatSet 3 (some .boolean) :: tbG) { frames := 2, cells := 0, slots := 0, locals := 44 } D (tyL cI cJ cZ cO) [.ref a_t, .int x1] [(a_t, .inr (9, [.ref a_bench, .ref a_nearest, .int v_set, .int v_bear])), (a_bench, .inr (0, [.ref a_bench_scene, .ref a_bench_apart, .ref a_bench_clash, .ref a_bench_neighbours])), (a_bench_scene, .inr (7, [.ref a_bench_scene_steps, .ref a_bench_scene_worths, .ref a_bench_scene_comers, .ref a_bench_scene_seen, .ref a_bench_scene_seenLengths, .int v_bench_scene_seats, .int v_bench_scene_bear, .int v_bench_scene_comerCount, .int v_bench_scene_seenRows])), (a_nearest, eI cI 12 v_nearest), (a_bench_apart, eI cI 144 v_bench_apart)] (some (.int out.1)) [(a_t, .inr (9, [.ref a_bench, .ref a_nearest, .int out.2.1, .int out.2.2.1])), (a_bench, .inr (0, [.ref a_bench_scene, .ref a_bench_apart, .ref a_bench_clash, .ref a_bench_neighbours])), (a_bench_scene, .inr (7, [.ref a_bench_scene_steps, .ref a_bench_scene_worths, .ref a_bench_scene_comers, .ref a_bench_scene_seen, .ref a_bench_scene_seenLengths, .int v_bench_scene_seats, .int v_bench_scene_bear, .int v_bench_scene_comerCount, .int v_bench_scene_seenRows])), (a_nearest, eI cI 12 out.2.2.2), (a_bench_apart, eI cI 144 v_bench_apart)] := by
  refine ba_ofZ RX9 [(0, .ref a_t), (1, .int x1)] (by decide +kernel) rfl (Nat.le_of_ble_eq_true rfl) rfl ?_
  intro p e s m args below meth c Q A Cx hP ret ls hl
  obtain ⟨⟨hx, hb, hml, hown, hts⟩, hK, hD, hA⟩ := id Cx
  have hS : va_S A s.heap s.heap [] := va_S.rf
  unfold f_X9_seatSet at hf
  refine lv_aload_n hx hb dX9_seatSet_0 rfl (lv_at hl 0 rfl) ?_
  obtain ⟨u1, hu1, hf⟩ := ob_b hf
  refine iv_X9_59 (As := []) (rest := []) (is := [0, 1, 2, 3]) (q0 := 0) (X' := [(a_t, .inr (9, [.ref a_bench, .ref a_nearest, .int u1.1, .int u1.2.1])), (a_bench, .inr (0, [.ref a_bench_scene, .ref a_bench_apart, .ref a_bench_clash, .ref a_bench_neighbours])), (a_bench_scene, .inr (7, [.ref a_bench_scene_steps, .ref a_bench_scene_worths, .ref a_bench_scene_comers, .ref a_bench_scene_seen, .ref a_bench_scene_seenLengths, .int v_bench_scene_seats, .int v_bench_scene_bear, .int v_bench_scene_comerCount, .int v_bench_scene_seenRows])), (a_nearest, eI cI 12 u1.2.2), (a_bench_apart, eI cI 144 v_bench_apart)]) Cx (c_X9_leave l D cI cJ cZ cO a_t a_bench a_nearest a_bench_scene a_bench_apart a_bench_clash a_bench_neighbours a_bench_scene_steps a_bench_scene_worths a_bench_scene_comers a_bench_scene_seen a_bench_scene_seenLengths v_set v_bear v_bench_scene_seats v_bench_scene_bear v_bench_scene_comerCount v_bench_scene_seenRows v_nearest u1 hu1) hP hS rfl rfl rfl rfl rfl rfl rfl hl.1 (Nat.le_of_ble_eq_true rfl) dX9_seatSet_1 rfl rfl ⟨Nat.le_of_ble_eq_true rfl, Nat.le_of_ble_eq_true rfl⟩ ⟨Nat.zero_le _, Nat.zero_le _⟩ rfl (fun H locs hP hS => ?_)
  refine lv_iconst (v := 0) hx hb dX9_seatSet_4 (by decide) ?_
  refine lv_istore_n (lv' := [(2, .int (0 : Int32)), (0, .ref a_t), (1, .int x1)]) hx hb dX9_seatSet_5 rfl hl (by decide) rfl (fun ls hl => ?_)
  have L6_2 : ∀ (n : Nat) (y2_6 : Int32) (z_set_6 : Int32) (z_nearest_6 : Nat → Int32) (o : (Int32 × (Nat → Int32)) ⊕ (Int32 × Int32 × Int32 × (Nat → Int32))) (H : Heap) (locs : List Loc) (ls : Array Slot), f_X9_seatSet_6 v_bench_scene_seats v_bench_apart x1 u1 n y2_6 z_set_6 z_nearest_6 = some o → va_P D vwCl [(a_t, .inr (9, [.ref a_bench, .ref a_nearest, .int z_set_6, .int u1.2.1])), (a_bench, .inr (0, [.ref a_bench_scene, .ref a_bench_apart, .ref a_bench_clash, .ref a_bench_neighbours])), (a_bench_scene, .inr (7, [.ref a_bench_scene_steps, .ref a_bench_scene_worths, .ref a_bench_scene_comers, .ref a_bench_scene_seen, .ref a_bench_scene_seenLengths, .int v_bench_scene_seats, .int v_bench_scene_bear, .int v_bench_scene_comerCount, .int v_bench_scene_seenRows])), (a_nearest, eI cI 12 z_nearest_6), (a_bench_apart, eI cI 144 v_bench_apart)] H → va_S A s.heap H locs → lv_has ls 3 [(0, .ref a_t), (1, .int x1), (2, .int y2_6)] → (∀ w, o = Sum.inl w → ∀ (H : Heap) (locs : List Loc) (ls : Array Slot), va_P D vwCl [(a_t, .inr (9, [.ref a_bench, .ref a_nearest, .int w.1, .int u1.2.1])), (a_bench, .inr (0, [.ref a_bench_scene, .ref a_bench_apart, .ref a_bench_clash, .ref a_bench_neighbours])), (a_bench_scene, .inr (7, [.ref a_bench_scene_steps, .ref a_bench_scene_worths, .ref a_bench_scene_comers, .ref a_bench_scene_seen, .ref a_bench_scene_seenLengths, .int v_bench_scene_seats, .int v_bench_scene_bear, .int v_bench_scene_comerCount, .int v_bench_scene_seenRows])), (a_nearest, eI cI 12 w.2), (a_bench_apart, eI cI 144 v_bench_apart)] H → va_S A s.heap H locs → lv_has ls 3 [] → W p l e { frames := 2, cells := 0, slots := 0, locals := 44 } s m args below meth c H locs 0 0 Q (F0 m 49 ls [])) → (∀ r, o = Sum.inr r → ∀ (pc : Nat) (H : Heap) (locs : List Loc) (ls : Array Slot) (r' : Int32), r' = r.1 → narrow .boolean (.int r') = .int r' →  decode cX9_seatSet pc = .ok (.ireturn, 1) → va_P D vwCl [(a_t, .inr (9, [.ref a_bench, .ref a_nearest, .int r.2.1, .int r.2.2.1])), (a_bench, .inr (0, [.ref a_bench_scene, .ref a_bench_apart, .ref a_bench_clash, .ref a_bench_neighbours])), (a_bench_scene, .inr (7, [.ref a_bench_scene_steps, .ref a_bench_scene_worths, .ref a_bench_scene_comers, .ref a_bench_scene_seen, .ref a_bench_scene_seenLengths, .int v_bench_scene_seats, .int v_bench_scene_bear, .int v_bench_scene_comerCount, .int v_bench_scene_seenRows])), (a_nearest, eI cI 12 r.2.2.2), (a_bench_apart, eI cI 144 v_bench_apart)] H → va_S A s.heap H locs → W p l e { frames := 2, cells := 0, slots := 0, locals := 44 } s m args below meth c H locs 0 0 Q (F0 m pc ls [.int r'])) → W p l e { frames := 2, cells := 0, slots := 0, locals := 44 } s m args below meth c H locs 0 0 Q (F0 m 6 ls []) := by
    intro n
    induction n with
    | zero => intro y2_6 z_set_6 z_nearest_6 o H locs ls hf; exact (ob_n hf).elim
    | succ n ih =>
      intro y2_6 z_set_6 z_nearest_6 o H locs ls hf hP hS hl kk kr
      rw [f_X9_seatSet_6_s] at hf
      refine lv_iload_n hx hb dX9_seatSet_6 rfl (lv_at hl 2 rfl) ?_
      refine lv_aload_n hx hb dX9_seatSet_7 rfl (lv_at hl 0 rfl) ?_
      refine gf_X9_9 Cx hP 0 rfl rfl dX9_seatSet_8 ?_
      refine gf_X9_23 Cx hP 1 rfl rfl dX9_seatSet_11 ?_
      refine gf_X9_47 Cx hP 2 rfl rfl dX9_seatSet_14 ?_
      refine lv_icmp_ge (tgt := 49) hx hb dX9_seatSet_17 (by decide) (fun c3 => ?_) (fun c3 => ?_)
      · have hf := ob_t c3 hf
        obtain rfl := Option.some.inj hf
        exact kk _ rfl _ _ _ hP hS (lv_sub hl [] rfl)
      · have hf := ob_f c3 hf
        refine lv_iload_n hx hb dX9_seatSet_20 rfl (lv_at hl 1 rfl) ?_
        refine lv_iload_n hx hb dX9_seatSet_21 rfl (lv_at hl 2 rfl) ?_
        refine lv_ishr hx hb dX9_seatSet_22 ?_
        refine lv_iconst (v := 1) hx hb dX9_seatSet_23 (by decide) ?_
        refine lv_iand hx hb dX9_seatSet_24 ?_
        refine lv_if_eq (tgt := 43) hx hb dX9_seatSet_25 (by decide) (fun c4 => ?_) (fun c4 => ?_)
        · have hf := ob_t c4 hf
          refine lv_iinc (v := (y2_6 + 1)) (lv' := [(2, .int (y2_6 + 1)), (0, .ref a_t), (1, .int x1)]) hx hb dX9_seatSet_43 hl (k := 2) rfl rfl (by decide) rfl (fun ls hl => ?_)
          refine lv_goto (tgt := 6) hx hb dX9_seatSet_46 (by decide) ?_
          exact ih (y2_6 + 1) z_set_6 z_nearest_6 _ _ _ _ hf hP hS (lv_sub hl [1, 2, 0] rfl) kk kr
        · have hf := ob_f c4 hf
          refine lv_aload_n hx hb dX9_seatSet_28 rfl (lv_at hl 0 rfl) ?_
          refine lv_iload_n hx hb dX9_seatSet_29 rfl (lv_at hl 2 rfl) ?_
          obtain ⟨u5, hu5, hf⟩ := ob_b hf
          refine iv_X9_62 (As := [.int y2_6]) (rest := []) (is := [0, 3]) (q0 := 0) (X' := [(a_t, .inr (9, [.ref a_bench, .ref a_nearest, .int z_set_6, .int u1.2.1])), (a_bench, .inr (0, [.ref a_bench_scene, .ref a_bench_apart, .ref a_bench_clash, .ref a_bench_neighbours])), (a_bench_scene, .inr (7, [.ref a_bench_scene_steps, .ref a_bench_scene_worths, .ref a_bench_scene_comers, .ref a_bench_scene_seen, .ref a_bench_scene_seenLengths, .int v_bench_scene_seats, .int v_bench_scene_bear, .int v_bench_scene_comerCount, .int v_bench_scene_seenRows])), (a_nearest, eI cI 12 z_nearest_6), (a_bench_apart, eI cI 144 v_bench_apart)]) Cx (c_X9_isOpen l D cI cJ cZ cO a_t a_bench a_nearest z_set_6 u1.2.1 z_nearest_6 y2_6 u5 hu5) hP hS rfl rfl rfl rfl rfl rfl rfl hl.1 (Nat.le_of_ble_eq_true rfl) dX9_seatSet_30 rfl rfl ⟨Nat.le_of_ble_eq_true rfl, Nat.le_of_ble_eq_true rfl⟩ ⟨Nat.zero_le _, Nat.zero_le _⟩ rfl (fun H locs hP hS => ?_)
          refine lv_if_ne (tgt := 38) hx hb dX9_seatSet_33 (by decide) (fun c6 => ?_) (fun c6 => ?_)
          · have hf := ob_f c6 hf
            refine lv_aload_n hx hb dX9_seatSet_38 rfl (lv_at hl 0 rfl) ?_
            refine lv_iload_n hx hb dX9_seatSet_39 rfl (lv_at hl 2 rfl) ?_
            obtain ⟨u7, hu7, hf⟩ := ob_b hf
            refine iv_X9_66 (As := [.int y2_6]) (rest := []) (is := [0, 1, 2, 3, 4]) (q0 := 0) (X' := [(a_t, .inr (9, [.ref a_bench, .ref a_nearest, .int u7.1, .int u1.2.1])), (a_bench, .inr (0, [.ref a_bench_scene, .ref a_bench_apart, .ref a_bench_clash, .ref a_bench_neighbours])), (a_bench_scene, .inr (7, [.ref a_bench_scene_steps, .ref a_bench_scene_worths, .ref a_bench_scene_comers, .ref a_bench_scene_seen, .ref a_bench_scene_seenLengths, .int v_bench_scene_seats, .int v_bench_scene_bear, .int v_bench_scene_comerCount, .int v_bench_scene_seenRows])), (a_nearest, eI cI 12 u7.2), (a_bench_apart, eI cI 144 v_bench_apart)]) Cx (c_X9_sit l D cI cJ cZ cO a_t a_bench a_nearest a_bench_scene a_bench_apart a_bench_clash a_bench_neighbours a_bench_scene_steps a_bench_scene_worths a_bench_scene_comers a_bench_scene_seen a_bench_scene_seenLengths z_set_6 u1.2.1 v_bench_scene_seats v_bench_scene_bear v_bench_scene_comerCount v_bench_scene_seenRows z_nearest_6 v_bench_apart y2_6 u7 hu7) hP hS rfl rfl rfl rfl rfl rfl rfl hl.1 (Nat.le_of_ble_eq_true rfl) dX9_seatSet_40 rfl rfl ⟨Nat.le_of_ble_eq_true rfl, Nat.le_of_ble_eq_true rfl⟩ ⟨Nat.zero_le _, Nat.zero_le _⟩ rfl (fun H locs hP hS => ?_)
            refine lv_iinc (v := (y2_6 + 1)) (lv' := [(2, .int (y2_6 + 1)), (0, .ref a_t), (1, .int x1)]) hx hb dX9_seatSet_43 hl (k := 2) rfl rfl (by decide) rfl (fun ls hl => ?_)
            refine lv_goto (tgt := 6) hx hb dX9_seatSet_46 (by decide) ?_
            exact ih (y2_6 + 1) u7.1 u7.2 _ _ _ _ hf hP hS (lv_sub hl [1, 2, 0] rfl) kk kr
          · have hf := ob_t c6 hf
            refine lv_iconst (v := 0) hx hb dX9_seatSet_36 (by decide) ?_
            obtain rfl := Option.some.inj hf
            exact kr _ rfl _ _ _ _ _ rfl (by decide) dX9_seatSet_37 hP hS
  obtain ⟨u8, hu8, hf⟩ := ob_b hf
  refine L6_2 FU (0 : Int32) u1.1 u1.2.2 u8 _ _ _ hu8 hP hS (lv_sub hl [1, 2, 0] rfl) ?_ ?_
  · intro w9 hw H locs ls hP hS hl
    rw [hw] at hf
    have hf := ob_l hf
    refine lv_iconst (v := 1) hx hb dX9_seatSet_49 (by decide) ?_
    obtain rfl := Option.some.inj hf
    exact ret _ _ _ _ _ rfl (by decide) dX9_seatSet_50 hP hS
  · intro r hr pc H locs ls r' hr1 hr2 hd hP hS
    rw [hr] at hf
    have hf := ob_r hf
    obtain rfl := Option.some.inj hf
    exact ret _ _ _ _ _ hr1 hr2 hd hP hS

def f_X9_wishFor (v_nearest : Nat → Int32) (v_bench_scene_worths : Nat → Int32) (v_bench_neighbours : Nat → Int32) (x1 : Int32) (x2 : Int32) : Option (Int32) :=
  if x2 = (0 : Int32) then
  (aget 12 v_nearest x1).bind (fun u2 =>
  (aget 12 v_bench_scene_worths x1).bind (fun u3 =>
  some (((10 : Int32) * u2) + u3)))
  else if x2 = (1 : Int32) then
  (aget 12 v_bench_scene_worths x1).bind (fun u5 =>
  (aget 12 v_nearest x1).bind (fun u6 =>
  some (((100 : Int32) * u5) + u6)))
  else if x2 = (2 : Int32) then
  some (0 : Int32)
  else if x2 = (3 : Int32) then
  some (x1)
  else if x2 = (4 : Int32) then
  (aget 12 v_nearest x1).bind (fun u10 =>
  some (-u10))
  else if x2 = (5 : Int32) then
  (aget 12 v_nearest x1).bind (fun u12 =>
  (aget 12 v_bench_neighbours x1).bind (fun u13 =>
  some (u12 - ((100 : Int32) * u13))))
  else 
  some (0 : Int32)
set_option maxHeartbeats 4000000 in
set_option maxRecDepth 100000 in
theorem c_X9_wishFor (l : Launch) (D : va_G) (cI cJ cZ cO : ClassId) (a_t a_bench a_nearest a_bench_scene a_bench_apart a_bench_clash a_bench_neighbours a_bench_scene_steps a_bench_scene_worths a_bench_scene_comers a_bench_scene_seen a_bench_scene_seenLengths : Nat) (v_set : Int32) (v_bear : Int32) (v_nearest : Nat → Int32) (v_bench_scene_seats : Int32) (v_bench_scene_bear : Int32) (v_bench_scene_comerCount : Int32) (v_bench_scene_seenRows : Int32) (v_bench_scene_worths : Nat → Int32) (v_bench_neighbours : Nat → Int32) (x1 : Int32) (x2 : Int32) (out : Int32) (hf : f_X9_wishFor v_nearest v_bench_scene_worths v_bench_neighbours x1 x2 = some out) : MetR l yX9_wishFor (Cond.code yX9_wishFor cX9_wishFor 3 (some .int) :: tbG) { frames := 0, cells := 0, slots := 0, locals := 0 } D (tyL cI cJ cZ cO) [.ref a_t, .int x1, .int x2] [(a_t, .inr (9, [.ref a_bench, .ref a_nearest, .int v_set, .int v_bear])), (a_nearest, eI cI 12 v_nearest), (a_bench, .inr (0, [.ref a_bench_scene, .ref a_bench_apart, .ref a_bench_clash, .ref a_bench_neighbours])), (a_bench_scene, .inr (7, [.ref a_bench_scene_steps, .ref a_bench_scene_worths, .ref a_bench_scene_comers, .ref a_bench_scene_seen, .ref a_bench_scene_seenLengths, .int v_bench_scene_seats, .int v_bench_scene_bear, .int v_bench_scene_comerCount, .int v_bench_scene_seenRows])), (a_bench_scene_worths, eI cI 12 v_bench_scene_worths), (a_bench_neighbours, eI cI 12 v_bench_neighbours)] (some (.int out)) [(a_t, .inr (9, [.ref a_bench, .ref a_nearest, .int v_set, .int v_bear])), (a_nearest, eI cI 12 v_nearest), (a_bench, .inr (0, [.ref a_bench_scene, .ref a_bench_apart, .ref a_bench_clash, .ref a_bench_neighbours])), (a_bench_scene, .inr (7, [.ref a_bench_scene_steps, .ref a_bench_scene_worths, .ref a_bench_scene_comers, .ref a_bench_scene_seen, .ref a_bench_scene_seenLengths, .int v_bench_scene_seats, .int v_bench_scene_bear, .int v_bench_scene_comerCount, .int v_bench_scene_seenRows])), (a_bench_scene_worths, eI cI 12 v_bench_scene_worths), (a_bench_neighbours, eI cI 12 v_bench_neighbours)] := by
  refine ba_ofI RX9 [(0, .ref a_t), (1, .int x1), (2, .int x2)] (by decide +kernel) rfl (Nat.le_of_ble_eq_true rfl) rfl ?_
  intro p e s m args below meth c Q A Cx hP ret ls hl
  obtain ⟨⟨hx, hb, hml, hown, hts⟩, hK, hD, hA⟩ := id Cx
  have hS : va_S A s.heap s.heap [] := va_S.rf
  unfold f_X9_wishFor at hf
  refine lv_iload_n hx hb dX9_wishFor_0 rfl (lv_at hl 2 rfl) ?_
  by_cases c1 : x2 = (0 : Int32)
  · have hf := ob_t c1 hf
    refine ba_topi c1 ?_
    refine lv_tableIn (tgt := 40) hx hb dX9_wishFor_1 (by decide) (by decide) rfl (by decide) ?_
    refine lv_bipush (v := 10) hx hb dX9_wishFor_40 (by decide) ?_
    refine lv_aload_n hx hb dX9_wishFor_42 rfl (lv_at hl 0 rfl) ?_
    refine gf_X9_15 Cx hP 0 rfl rfl dX9_wishFor_43 ?_
    refine lv_iload_n hx hb dX9_wishFor_46 rfl (lv_at hl 1 rfl) ?_
    obtain ⟨u2, hu2, hf⟩ := ob_b hf
    refine ba_iald Cx hP 1 rfl hu2 dX9_wishFor_47 ?_
    refine lv_imul hx hb dX9_wishFor_48 ?_
    refine lv_aload_n hx hb dX9_wishFor_49 rfl (lv_at hl 0 rfl) ?_
    refine gf_X9_9 Cx hP 0 rfl rfl dX9_wishFor_50 ?_
    refine gf_X9_23 Cx hP 2 rfl rfl dX9_wishFor_53 ?_
    refine gf_X9_73 Cx hP 3 rfl rfl dX9_wishFor_56 ?_
    refine lv_iload_n hx hb dX9_wishFor_59 rfl (lv_at hl 1 rfl) ?_
    obtain ⟨u3, hu3, hf⟩ := ob_b hf
    refine ba_iald Cx hP 4 rfl hu3 dX9_wishFor_60 ?_
    refine lv_iadd hx hb dX9_wishFor_61 ?_
    obtain rfl := Option.some.inj hf
    exact ret _ _ _ _ dX9_wishFor_62 hP hS
  have hf := ob_f c1 hf
  by_cases c4 : x2 = (1 : Int32)
  · have hf := ob_t c4 hf
    refine ba_topi c4 ?_
    refine lv_tableIn (tgt := 63) hx hb dX9_wishFor_1 (by decide) (by decide) rfl (by decide) ?_
    refine lv_bipush (v := 100) hx hb dX9_wishFor_63 (by decide) ?_
    refine lv_aload_n hx hb dX9_wishFor_65 rfl (lv_at hl 0 rfl) ?_
    refine gf_X9_9 Cx hP 0 rfl rfl dX9_wishFor_66 ?_
    refine gf_X9_23 Cx hP 2 rfl rfl dX9_wishFor_69 ?_
    refine gf_X9_73 Cx hP 3 rfl rfl dX9_wishFor_72 ?_
    refine lv_iload_n hx hb dX9_wishFor_75 rfl (lv_at hl 1 rfl) ?_
    obtain ⟨u5, hu5, hf⟩ := ob_b hf
    refine ba_iald Cx hP 4 rfl hu5 dX9_wishFor_76 ?_
    refine lv_imul hx hb dX9_wishFor_77 ?_
    refine lv_aload_n hx hb dX9_wishFor_78 rfl (lv_at hl 0 rfl) ?_
    refine gf_X9_15 Cx hP 0 rfl rfl dX9_wishFor_79 ?_
    refine lv_iload_n hx hb dX9_wishFor_82 rfl (lv_at hl 1 rfl) ?_
    obtain ⟨u6, hu6, hf⟩ := ob_b hf
    refine ba_iald Cx hP 1 rfl hu6 dX9_wishFor_83 ?_
    refine lv_iadd hx hb dX9_wishFor_84 ?_
    obtain rfl := Option.some.inj hf
    exact ret _ _ _ _ dX9_wishFor_85 hP hS
  have hf := ob_f c4 hf
  by_cases c7 : x2 = (2 : Int32)
  · have hf := ob_t c7 hf
    refine ba_topi c7 ?_
    refine lv_tableIn (tgt := 116) hx hb dX9_wishFor_1 (by decide) (by decide) rfl (by decide) ?_
    refine lv_iconst (v := 0) hx hb dX9_wishFor_116 (by decide) ?_
    obtain rfl := Option.some.inj hf
    exact ret _ _ _ _ dX9_wishFor_117 hP hS
  have hf := ob_f c7 hf
  by_cases c8 : x2 = (3 : Int32)
  · have hf := ob_t c8 hf
    refine ba_topi c8 ?_
    refine lv_tableIn (tgt := 86) hx hb dX9_wishFor_1 (by decide) (by decide) rfl (by decide) ?_
    refine lv_iload_n hx hb dX9_wishFor_86 rfl (lv_at hl 1 rfl) ?_
    obtain rfl := Option.some.inj hf
    exact ret _ _ _ _ dX9_wishFor_87 hP hS
  have hf := ob_f c8 hf
  by_cases c9 : x2 = (4 : Int32)
  · have hf := ob_t c9 hf
    refine ba_topi c9 ?_
    refine lv_tableIn (tgt := 88) hx hb dX9_wishFor_1 (by decide) (by decide) rfl (by decide) ?_
    refine lv_aload_n hx hb dX9_wishFor_88 rfl (lv_at hl 0 rfl) ?_
    refine gf_X9_15 Cx hP 0 rfl rfl dX9_wishFor_89 ?_
    refine lv_iload_n hx hb dX9_wishFor_92 rfl (lv_at hl 1 rfl) ?_
    obtain ⟨u10, hu10, hf⟩ := ob_b hf
    refine ba_iald Cx hP 1 rfl hu10 dX9_wishFor_93 ?_
    refine lv_ineg hx hb dX9_wishFor_94 ?_
    obtain rfl := Option.some.inj hf
    exact ret _ _ _ _ dX9_wishFor_95 hP hS
  have hf := ob_f c9 hf
  by_cases c11 : x2 = (5 : Int32)
  · have hf := ob_t c11 hf
    refine ba_topi c11 ?_
    refine lv_tableIn (tgt := 96) hx hb dX9_wishFor_1 (by decide) (by decide) rfl (by decide) ?_
    refine lv_aload_n hx hb dX9_wishFor_96 rfl (lv_at hl 0 rfl) ?_
    refine gf_X9_15 Cx hP 0 rfl rfl dX9_wishFor_97 ?_
    refine lv_iload_n hx hb dX9_wishFor_100 rfl (lv_at hl 1 rfl) ?_
    obtain ⟨u12, hu12, hf⟩ := ob_b hf
    refine ba_iald Cx hP 1 rfl hu12 dX9_wishFor_101 ?_
    refine lv_bipush (v := 100) hx hb dX9_wishFor_102 (by decide) ?_
    refine lv_aload_n hx hb dX9_wishFor_104 rfl (lv_at hl 0 rfl) ?_
    refine gf_X9_9 Cx hP 0 rfl rfl dX9_wishFor_105 ?_
    refine gf_X9_76 Cx hP 2 rfl rfl dX9_wishFor_108 ?_
    refine lv_iload_n hx hb dX9_wishFor_111 rfl (lv_at hl 1 rfl) ?_
    obtain ⟨u13, hu13, hf⟩ := ob_b hf
    refine ba_iald Cx hP 5 rfl hu13 dX9_wishFor_112 ?_
    refine lv_imul hx hb dX9_wishFor_113 ?_
    refine lv_isub hx hb dX9_wishFor_114 ?_
    obtain rfl := Option.some.inj hf
    exact ret _ _ _ _ dX9_wishFor_115 hP hS
  have hf := ob_f c11 hf
  refine lv_tableOut (tgt := 116) hx hb dX9_wishFor_1 (ba_tab5 c1 c4 c7 c8 c9 c11) (by decide) ?_
  refine lv_iconst (v := 0) hx hb dX9_wishFor_116 (by decide) ?_
  obtain rfl := Option.some.inj hf
  exact ret _ _ _ _ dX9_wishFor_117 hP hS

def f_X9_choice_8 (v_bear : Int32) (v_bench_scene_seats : Int32) (v_nearest : Nat → Int32) (v_bench_scene_worths : Nat → Int32) (v_bench_neighbours : Nat → Int32) (x1 : Int32) : Nat → Int32 → Int32 → Int32 → Option (Int32)
  | 0, _, _, _ => none
  | n + 1, y2_8, y3_8, y4_8 =>
  if v_bench_scene_seats ≤ y4_8 then
  some (y2_8)
  else
  (f_X9_isOpen v_bear v_nearest y4_8).bind (fun u3 =>
  (if u3 = 0 then
  some (y2_8, y3_8)
  else
  (f_X9_wishFor v_nearest v_bench_scene_worths v_bench_neighbours y4_8 x1).bind (fun u7 =>
  if y2_8 = (-6 : Int32) then
  some (y4_8, u7)
  else
  if u7 ≤ y3_8 then
  some (y2_8, y3_8)
  else
  some (y4_8, u7))).bind (fun w4 =>
  f_X9_choice_8 v_bear v_bench_scene_seats v_nearest v_bench_scene_worths v_bench_neighbours x1 n w4.1 w4.2 (y4_8 + 1)))
theorem f_X9_choice_8_s (v_bear : Int32) (v_bench_scene_seats : Int32) (v_nearest : Nat → Int32) (v_bench_scene_worths : Nat → Int32) (v_bench_neighbours : Nat → Int32) (x1 : Int32) (n : Nat) (y2_8 : Int32) (y3_8 : Int32) (y4_8 : Int32) : f_X9_choice_8 v_bear v_bench_scene_seats v_nearest v_bench_scene_worths v_bench_neighbours x1 (n + 1) y2_8 y3_8 y4_8 =
  (if v_bench_scene_seats ≤ y4_8 then
  some (y2_8)
  else
  (f_X9_isOpen v_bear v_nearest y4_8).bind (fun u3 =>
  (if u3 = 0 then
  some (y2_8, y3_8)
  else
  (f_X9_wishFor v_nearest v_bench_scene_worths v_bench_neighbours y4_8 x1).bind (fun u7 =>
  if y2_8 = (-6 : Int32) then
  some (y4_8, u7)
  else
  if u7 ≤ y3_8 then
  some (y2_8, y3_8)
  else
  some (y4_8, u7))).bind (fun w4 =>
  f_X9_choice_8 v_bear v_bench_scene_seats v_nearest v_bench_scene_worths v_bench_neighbours x1 n w4.1 w4.2 (y4_8 + 1)))) := rfl
def f_X9_choice (v_bear : Int32) (v_bench_scene_seats : Int32) (v_nearest : Nat → Int32) (v_bench_scene_worths : Nat → Int32) (v_bench_neighbours : Nat → Int32) (x1 : Int32) : Option (Int32) :=
  (f_X9_choice_8 v_bear v_bench_scene_seats v_nearest v_bench_scene_worths v_bench_neighbours x1 FU (-6 : Int32) (0 : Int32) (0 : Int32)).bind (fun u10 =>
  some (u10))
set_option maxHeartbeats 4000000 in
set_option maxRecDepth 100000 in
theorem c_X9_choice (l : Launch) (D : va_G) (cI cJ cZ cO : ClassId) (a_t a_bench a_nearest a_bench_scene a_bench_apart a_bench_clash a_bench_neighbours a_bench_scene_steps a_bench_scene_worths a_bench_scene_comers a_bench_scene_seen a_bench_scene_seenLengths : Nat) (v_set : Int32) (v_bear : Int32) (v_bench_scene_seats : Int32) (v_bench_scene_bear : Int32) (v_bench_scene_comerCount : Int32) (v_bench_scene_seenRows : Int32) (v_nearest : Nat → Int32) (v_bench_scene_worths : Nat → Int32) (v_bench_neighbours : Nat → Int32) (x1 : Int32) (out : Int32) (hf : f_X9_choice v_bear v_bench_scene_seats v_nearest v_bench_scene_worths v_bench_neighbours x1 = some out) : MetR l yX9_choice (Cond.code yX9_choice cX9_choice 6 (some .int) :: tbG) { frames := 1, cells := 0, slots := 0, locals := 22 } D (tyL cI cJ cZ cO) [.ref a_t, .int x1] [(a_t, .inr (9, [.ref a_bench, .ref a_nearest, .int v_set, .int v_bear])), (a_bench, .inr (0, [.ref a_bench_scene, .ref a_bench_apart, .ref a_bench_clash, .ref a_bench_neighbours])), (a_bench_scene, .inr (7, [.ref a_bench_scene_steps, .ref a_bench_scene_worths, .ref a_bench_scene_comers, .ref a_bench_scene_seen, .ref a_bench_scene_seenLengths, .int v_bench_scene_seats, .int v_bench_scene_bear, .int v_bench_scene_comerCount, .int v_bench_scene_seenRows])), (a_nearest, eI cI 12 v_nearest), (a_bench_scene_worths, eI cI 12 v_bench_scene_worths), (a_bench_neighbours, eI cI 12 v_bench_neighbours)] (some (.int out)) [(a_t, .inr (9, [.ref a_bench, .ref a_nearest, .int v_set, .int v_bear])), (a_bench, .inr (0, [.ref a_bench_scene, .ref a_bench_apart, .ref a_bench_clash, .ref a_bench_neighbours])), (a_bench_scene, .inr (7, [.ref a_bench_scene_steps, .ref a_bench_scene_worths, .ref a_bench_scene_comers, .ref a_bench_scene_seen, .ref a_bench_scene_seenLengths, .int v_bench_scene_seats, .int v_bench_scene_bear, .int v_bench_scene_comerCount, .int v_bench_scene_seenRows])), (a_nearest, eI cI 12 v_nearest), (a_bench_scene_worths, eI cI 12 v_bench_scene_worths), (a_bench_neighbours, eI cI 12 v_bench_neighbours)] := by
  refine ba_ofI RX9 [(0, .ref a_t), (1, .int x1)] (by decide +kernel) rfl (Nat.le_of_ble_eq_true rfl) rfl ?_
  intro p e s m args below meth c Q A Cx hP ret ls hl
  obtain ⟨⟨hx, hb, hml, hown, hts⟩, hK, hD, hA⟩ := id Cx
  have hS : va_S A s.heap s.heap [] := va_S.rf
  unfold f_X9_choice at hf
  refine lv_bipush (v := (-6)) hx hb dX9_choice_0 (by decide) ?_
  refine lv_istore_n (lv' := [(2, .int (-6 : Int32)), (0, .ref a_t), (1, .int x1)]) hx hb dX9_choice_2 rfl hl (by decide) rfl (fun ls hl => ?_)
  refine lv_iconst (v := 0) hx hb dX9_choice_3 (by decide) ?_
  refine lv_istore_n (lv' := [(3, .int (0 : Int32)), (2, .int (-6 : Int32)), (0, .ref a_t), (1, .int x1)]) hx hb dX9_choice_4 rfl hl (by decide) rfl (fun ls hl => ?_)
  refine lv_iconst (v := 0) hx hb dX9_choice_5 (by decide) ?_
  refine lv_istore (lv' := [(4, .int (0 : Int32)), (3, .int (0 : Int32)), (2, .int (-6 : Int32)), (0, .ref a_t), (1, .int x1)]) hx hb dX9_choice_6 hl (by decide) rfl (fun ls hl => ?_)
  have L8_1 : ∀ (n : Nat) (y2_8 : Int32) (y3_8 : Int32) (y4_8 : Int32) (o : Int32) (H : Heap) (locs : List Loc) (ls : Array Slot), f_X9_choice_8 v_bear v_bench_scene_seats v_nearest v_bench_scene_worths v_bench_neighbours x1 n y2_8 y3_8 y4_8 = some o → va_P D vwCl [(a_t, .inr (9, [.ref a_bench, .ref a_nearest, .int v_set, .int v_bear])), (a_bench, .inr (0, [.ref a_bench_scene, .ref a_bench_apart, .ref a_bench_clash, .ref a_bench_neighbours])), (a_bench_scene, .inr (7, [.ref a_bench_scene_steps, .ref a_bench_scene_worths, .ref a_bench_scene_comers, .ref a_bench_scene_seen, .ref a_bench_scene_seenLengths, .int v_bench_scene_seats, .int v_bench_scene_bear, .int v_bench_scene_comerCount, .int v_bench_scene_seenRows])), (a_nearest, eI cI 12 v_nearest), (a_bench_scene_worths, eI cI 12 v_bench_scene_worths), (a_bench_neighbours, eI cI 12 v_bench_neighbours)] H → va_S A s.heap H locs → lv_has ls 6 [(0, .ref a_t), (1, .int x1), (2, .int y2_8), (3, .int y3_8), (4, .int y4_8)] → (∀ (H : Heap) (locs : List Loc) (ls : Array Slot), va_P D vwCl [(a_t, .inr (9, [.ref a_bench, .ref a_nearest, .int v_set, .int v_bear])), (a_bench, .inr (0, [.ref a_bench_scene, .ref a_bench_apart, .ref a_bench_clash, .ref a_bench_neighbours])), (a_bench_scene, .inr (7, [.ref a_bench_scene_steps, .ref a_bench_scene_worths, .ref a_bench_scene_comers, .ref a_bench_scene_seen, .ref a_bench_scene_seenLengths, .int v_bench_scene_seats, .int v_bench_scene_bear, .int v_bench_scene_comerCount, .int v_bench_scene_seenRows])), (a_nearest, eI cI 12 v_nearest), (a_bench_scene_worths, eI cI 12 v_bench_scene_worths), (a_bench_neighbours, eI cI 12 v_bench_neighbours)] H → va_S A s.heap H locs → lv_has ls 6 [(2, .int o)] → W p l e { frames := 1, cells := 0, slots := 0, locals := 22 } s m args below meth c H locs 0 0 Q (F0 m 65 ls [])) → W p l e { frames := 1, cells := 0, slots := 0, locals := 22 } s m args below meth c H locs 0 0 Q (F0 m 8 ls []) := by
    intro n
    induction n with
    | zero => intro y2_8 y3_8 y4_8 o H locs ls hf; exact (ob_n hf).elim
    | succ n ih =>
      intro y2_8 y3_8 y4_8 o H locs ls hf hP hS hl kk
      rw [f_X9_choice_8_s] at hf
      refine lv_iload hx hb dX9_choice_8 (lv_at hl 4 rfl) ?_
      refine lv_aload_n hx hb dX9_choice_10 rfl (lv_at hl 0 rfl) ?_
      refine gf_X9_9 Cx hP 0 rfl rfl dX9_choice_11 ?_
      refine gf_X9_23 Cx hP 1 rfl rfl dX9_choice_14 ?_
      refine gf_X9_47 Cx hP 2 rfl rfl dX9_choice_17 ?_
      refine lv_icmp_ge (tgt := 65) hx hb dX9_choice_20 (by decide) (fun c2 => ?_) (fun c2 => ?_)
      · have hf := ob_t c2 hf
        obtain rfl := Option.some.inj hf
        exact kk _ _ _ hP hS (lv_sub hl [2] rfl)
      · have hf := ob_f c2 hf
        refine lv_aload_n hx hb dX9_choice_23 rfl (lv_at hl 0 rfl) ?_
        refine lv_iload hx hb dX9_choice_24 (lv_at hl 4 rfl) ?_
        obtain ⟨u3, hu3, hf⟩ := ob_b hf
        refine iv_X9_62 (As := [.int y4_8]) (rest := []) (is := [0, 3]) (q0 := 0) (X' := [(a_t, .inr (9, [.ref a_bench, .ref a_nearest, .int v_set, .int v_bear])), (a_bench, .inr (0, [.ref a_bench_scene, .ref a_bench_apart, .ref a_bench_clash, .ref a_bench_neighbours])), (a_bench_scene, .inr (7, [.ref a_bench_scene_steps, .ref a_bench_scene_worths, .ref a_bench_scene_comers, .ref a_bench_scene_seen, .ref a_bench_scene_seenLengths, .int v_bench_scene_seats, .int v_bench_scene_bear, .int v_bench_scene_comerCount, .int v_bench_scene_seenRows])), (a_nearest, eI cI 12 v_nearest), (a_bench_scene_worths, eI cI 12 v_bench_scene_worths), (a_bench_neighbours, eI cI 12 v_bench_neighbours)]) Cx (c_X9_isOpen l D cI cJ cZ cO a_t a_bench a_nearest v_set v_bear v_nearest y4_8 u3 hu3) hP hS rfl rfl rfl rfl rfl rfl rfl hl.1 (Nat.le_of_ble_eq_true rfl) dX9_choice_26 rfl rfl ⟨Nat.le_of_ble_eq_true rfl, Nat.le_of_ble_eq_true rfl⟩ ⟨Nat.zero_le _, Nat.zero_le _⟩ rfl (fun H locs hP hS => ?_)
        refine ob_J (P := fun w4 => ∀ (H : Heap) (locs : List Loc) (ls : Array Slot), va_P D vwCl [(a_t, .inr (9, [.ref a_bench, .ref a_nearest, .int v_set, .int v_bear])), (a_bench, .inr (0, [.ref a_bench_scene, .ref a_bench_apart, .ref a_bench_clash, .ref a_bench_neighbours])), (a_bench_scene, .inr (7, [.ref a_bench_scene_steps, .ref a_bench_scene_worths, .ref a_bench_scene_comers, .ref a_bench_scene_seen, .ref a_bench_scene_seenLengths, .int v_bench_scene_seats, .int v_bench_scene_bear, .int v_bench_scene_comerCount, .int v_bench_scene_seenRows])), (a_nearest, eI cI 12 v_nearest), (a_bench_scene_worths, eI cI 12 v_bench_scene_worths), (a_bench_neighbours, eI cI 12 v_bench_neighbours)] H → va_S A s.heap H locs → lv_has ls 6 [(0, .ref a_t), (1, .int x1), (2, .int w4.1), (3, .int w4.2), (4, .int y4_8)] → W p l e { frames := 1, cells := 0, slots := 0, locals := 22 } s m args below meth c H locs 0 0 Q (F0 m 59 ls [])) hf ?_ ?_
        · intro w4 hf H locs ls hP hS hl
          refine lv_iinc (v := (y4_8 + 1)) (lv' := [(4, .int (y4_8 + 1)), (0, .ref a_t), (1, .int x1), (2, .int w4.1), (3, .int w4.2)]) hx hb dX9_choice_59 hl (k := 4) rfl rfl (by decide) rfl (fun ls hl => ?_)
          refine lv_goto (tgt := 8) hx hb dX9_choice_62 (by decide) ?_
          exact ih w4.1 w4.2 (y4_8 + 1) _ _ _ _ hf hP hS (lv_sub hl [1, 2, 3, 4, 0] rfl) kk
        · intro J59_5 hf
          refine lv_if_eq (tgt := 59) hx hb dX9_choice_29 (by decide) (fun c6 => ?_) (fun c6 => ?_)
          · have hf := ob_tk c6 hf
            exact J59_5 (y2_8, y3_8) hf _ _ _ hP hS (lv_sub hl [0, 1, 2, 3, 4] rfl)
          · have hf := ob_fk c6 hf
            refine lv_aload_n hx hb dX9_choice_32 rfl (lv_at hl 0 rfl) ?_
            refine lv_iload hx hb dX9_choice_33 (lv_at hl 4 rfl) ?_
            refine lv_iload_n hx hb dX9_choice_35 rfl (lv_at hl 1 rfl) ?_
            obtain ⟨u7, hu7, hf⟩ := ob_bk hf
            refine iv_X9_70 (As := [.int y4_8, .int x1]) (rest := []) (is := [0, 3, 1, 2, 4, 5]) (q0 := 0) (X' := [(a_t, .inr (9, [.ref a_bench, .ref a_nearest, .int v_set, .int v_bear])), (a_bench, .inr (0, [.ref a_bench_scene, .ref a_bench_apart, .ref a_bench_clash, .ref a_bench_neighbours])), (a_bench_scene, .inr (7, [.ref a_bench_scene_steps, .ref a_bench_scene_worths, .ref a_bench_scene_comers, .ref a_bench_scene_seen, .ref a_bench_scene_seenLengths, .int v_bench_scene_seats, .int v_bench_scene_bear, .int v_bench_scene_comerCount, .int v_bench_scene_seenRows])), (a_nearest, eI cI 12 v_nearest), (a_bench_scene_worths, eI cI 12 v_bench_scene_worths), (a_bench_neighbours, eI cI 12 v_bench_neighbours)]) Cx (c_X9_wishFor l D cI cJ cZ cO a_t a_bench a_nearest a_bench_scene a_bench_apart a_bench_clash a_bench_neighbours a_bench_scene_steps a_bench_scene_worths a_bench_scene_comers a_bench_scene_seen a_bench_scene_seenLengths v_set v_bear v_nearest v_bench_scene_seats v_bench_scene_bear v_bench_scene_comerCount v_bench_scene_seenRows v_bench_scene_worths v_bench_neighbours y4_8 x1 u7 hu7) hP hS rfl rfl rfl rfl rfl rfl rfl hl.1 (Nat.le_of_ble_eq_true rfl) dX9_choice_36 rfl rfl ⟨Nat.le_of_ble_eq_true rfl, Nat.le_of_ble_eq_true rfl⟩ ⟨Nat.zero_le _, Nat.zero_le _⟩ rfl (fun H locs hP hS => ?_)
            refine lv_istore (lv' := [(5, .int u7), (0, .ref a_t), (1, .int x1), (2, .int y2_8), (3, .int y3_8), (4, .int y4_8)]) hx hb dX9_choice_39 hl (by decide) rfl (fun ls hl => ?_)
            refine lv_iload_n hx hb dX9_choice_41 rfl (lv_at hl 3 rfl) ?_
            refine lv_bipush (v := (-6)) hx hb dX9_choice_42 (by decide) ?_
            refine lv_icmp_eq (tgt := 53) hx hb dX9_choice_44 (by decide) (fun c8 => ?_) (fun c8 => ?_)
            · have hf := ob_tk c8 hf
              refine lv_iload hx hb dX9_choice_53 (lv_at hl 5 rfl) ?_
              refine lv_istore_n (lv' := [(2, .int y4_8), (5, .int u7), (0, .ref a_t), (1, .int x1), (3, .int y3_8), (4, .int y4_8)]) hx hb dX9_choice_55 rfl hl (by decide) rfl (fun ls hl => ?_)
              refine lv_iload hx hb dX9_choice_56 (lv_at hl 1 rfl) ?_
              refine lv_istore_n (lv' := [(3, .int u7), (2, .int y4_8), (5, .int u7), (0, .ref a_t), (1, .int x1), (4, .int y4_8)]) hx hb dX9_choice_58 rfl hl (by decide) rfl (fun ls hl => ?_)
              exact J59_5 (y4_8, u7) hf _ _ _ hP hS (lv_sub hl [3, 4, 1, 0, 5] rfl)
            · have hf := ob_fk c8 hf
              refine lv_iload hx hb dX9_choice_47 (lv_at hl 0 rfl) ?_
              refine lv_iload_n hx hb dX9_choice_49 rfl (lv_at hl 4 rfl) ?_
              refine lv_icmp_le (tgt := 59) hx hb dX9_choice_50 (by decide) (fun c9 => ?_) (fun c9 => ?_)
              · have hf := ob_tk c9 hf
                exact J59_5 (y2_8, y3_8) hf _ _ _ hP hS (lv_sub hl [1, 2, 3, 4, 5] rfl)
              · have hf := ob_fk c9 hf
                refine lv_iload hx hb dX9_choice_53 (lv_at hl 5 rfl) ?_
                refine lv_istore_n (lv' := [(2, .int y4_8), (5, .int u7), (0, .ref a_t), (1, .int x1), (3, .int y3_8), (4, .int y4_8)]) hx hb dX9_choice_55 rfl hl (by decide) rfl (fun ls hl => ?_)
                refine lv_iload hx hb dX9_choice_56 (lv_at hl 1 rfl) ?_
                refine lv_istore_n (lv' := [(3, .int u7), (2, .int y4_8), (5, .int u7), (0, .ref a_t), (1, .int x1), (4, .int y4_8)]) hx hb dX9_choice_58 rfl hl (by decide) rfl (fun ls hl => ?_)
                exact J59_5 (y4_8, u7) hf _ _ _ hP hS (lv_sub hl [3, 4, 1, 0, 5] rfl)
  obtain ⟨u10, hu10, hf⟩ := ob_b hf
  refine L8_1 FU (-6 : Int32) (0 : Int32) (0 : Int32) u10 _ _ _ hu10 hP hS (lv_sub hl [3, 4, 2, 1, 0] rfl) ?_
  intro H locs ls hP hS hl
  refine lv_iload_n hx hb dX9_choice_65 rfl (lv_at hl 0 rfl) ?_
  obtain rfl := Option.some.inj hf
  exact ret _ _ _ _ dX9_choice_66 hP hS

def f_J6_bitCount_0f7a4 (x0 : Int32) : Option (Int32) :=
  some ((((((((x0 - ((iushr x0 (1 : Int32)) &&& (1431655765 : Int32))) &&& (858993459 : Int32)) + ((iushr (x0 - ((iushr x0 (1 : Int32)) &&& (1431655765 : Int32))) (2 : Int32)) &&& (858993459 : Int32))) + (iushr (((x0 - ((iushr x0 (1 : Int32)) &&& (1431655765 : Int32))) &&& (858993459 : Int32)) + ((iushr (x0 - ((iushr x0 (1 : Int32)) &&& (1431655765 : Int32))) (2 : Int32)) &&& (858993459 : Int32))) (4 : Int32))) &&& (252645135 : Int32)) + (iushr (((((x0 - ((iushr x0 (1 : Int32)) &&& (1431655765 : Int32))) &&& (858993459 : Int32)) + ((iushr (x0 - ((iushr x0 (1 : Int32)) &&& (1431655765 : Int32))) (2 : Int32)) &&& (858993459 : Int32))) + (iushr (((x0 - ((iushr x0 (1 : Int32)) &&& (1431655765 : Int32))) &&& (858993459 : Int32)) + ((iushr (x0 - ((iushr x0 (1 : Int32)) &&& (1431655765 : Int32))) (2 : Int32)) &&& (858993459 : Int32))) (4 : Int32))) &&& (252645135 : Int32)) (8 : Int32))) + (iushr ((((((x0 - ((iushr x0 (1 : Int32)) &&& (1431655765 : Int32))) &&& (858993459 : Int32)) + ((iushr (x0 - ((iushr x0 (1 : Int32)) &&& (1431655765 : Int32))) (2 : Int32)) &&& (858993459 : Int32))) + (iushr (((x0 - ((iushr x0 (1 : Int32)) &&& (1431655765 : Int32))) &&& (858993459 : Int32)) + ((iushr (x0 - ((iushr x0 (1 : Int32)) &&& (1431655765 : Int32))) (2 : Int32)) &&& (858993459 : Int32))) (4 : Int32))) &&& (252645135 : Int32)) + (iushr (((((x0 - ((iushr x0 (1 : Int32)) &&& (1431655765 : Int32))) &&& (858993459 : Int32)) + ((iushr (x0 - ((iushr x0 (1 : Int32)) &&& (1431655765 : Int32))) (2 : Int32)) &&& (858993459 : Int32))) + (iushr (((x0 - ((iushr x0 (1 : Int32)) &&& (1431655765 : Int32))) &&& (858993459 : Int32)) + ((iushr (x0 - ((iushr x0 (1 : Int32)) &&& (1431655765 : Int32))) (2 : Int32)) &&& (858993459 : Int32))) (4 : Int32))) &&& (252645135 : Int32)) (8 : Int32))) (16 : Int32))) &&& (63 : Int32))
set_option maxHeartbeats 4000000 in
set_option maxRecDepth 100000 in
theorem c_J6_bitCount_0f7a4 (l : Launch) (D : va_G) (cI cJ cZ cO : ClassId) (x0 : Int32) (out : Int32) (hf : f_J6_bitCount_0f7a4 x0 = some out) : MetR l yJ6_bitCount_0f7a4 (Cond.code yJ6_bitCount_0f7a4 cJ6_bitCount_0f7a4 1 (some .int) :: tbG) { frames := 0, cells := 0, slots := 0, locals := 0 } D (tyL cI cJ cZ cO) [.int x0] [] (some (.int out)) [] := by
  refine ba_ofI RJ6 [(0, .int x0)] (by decide +kernel) rfl (Nat.le_of_ble_eq_true rfl) rfl ?_
  intro p e s m args below meth c Q A Cx hP ret ls hl
  obtain ⟨⟨hx, hb, hml, hown, hts⟩, hK, hD, hA⟩ := id Cx
  have hS : va_S A s.heap s.heap [] := va_S.rf
  unfold f_J6_bitCount_0f7a4 at hf
  refine lv_iload_n hx hb dJ6_bitCount_0f7a4_0 rfl (lv_at hl 0 rfl) ?_
  refine lv_iload_n hx hb dJ6_bitCount_0f7a4_1 rfl (lv_at hl 0 rfl) ?_
  refine lv_iconst (v := 1) hx hb dJ6_bitCount_0f7a4_2 (by decide) ?_
  refine lv_iushr (v := (iushr x0 (1 : Int32))) hx hb dJ6_bitCount_0f7a4_3 rfl ?_
  refine lv_ldcw hx hb hown (hts _ kw_470) dJ6_bitCount_0f7a4_4 ?_
  refine lv_iand hx hb dJ6_bitCount_0f7a4_7 ?_
  refine lv_isub hx hb dJ6_bitCount_0f7a4_8 ?_
  refine lv_istore_n (lv' := [(0, .int (x0 - ((iushr x0 (1 : Int32)) &&& (1431655765 : Int32))))]) hx hb dJ6_bitCount_0f7a4_9 rfl hl (by decide) rfl (fun ls hl => ?_)
  refine lv_iload_n hx hb dJ6_bitCount_0f7a4_10 rfl (lv_at hl 0 rfl) ?_
  refine lv_ldcw hx hb hown (hts _ kw_471) dJ6_bitCount_0f7a4_11 ?_
  refine lv_iand hx hb dJ6_bitCount_0f7a4_14 ?_
  refine lv_iload_n hx hb dJ6_bitCount_0f7a4_15 rfl (lv_at hl 0 rfl) ?_
  refine lv_iconst (v := 2) hx hb dJ6_bitCount_0f7a4_16 (by decide) ?_
  refine lv_iushr (v := (iushr (x0 - ((iushr x0 (1 : Int32)) &&& (1431655765 : Int32))) (2 : Int32))) hx hb dJ6_bitCount_0f7a4_17 rfl ?_
  refine lv_ldcw hx hb hown (hts _ kw_471) dJ6_bitCount_0f7a4_18 ?_
  refine lv_iand hx hb dJ6_bitCount_0f7a4_21 ?_
  refine lv_iadd hx hb dJ6_bitCount_0f7a4_22 ?_
  refine lv_istore_n (lv' := [(0, .int (((x0 - ((iushr x0 (1 : Int32)) &&& (1431655765 : Int32))) &&& (858993459 : Int32)) + ((iushr (x0 - ((iushr x0 (1 : Int32)) &&& (1431655765 : Int32))) (2 : Int32)) &&& (858993459 : Int32))))]) hx hb dJ6_bitCount_0f7a4_23 rfl hl (by decide) rfl (fun ls hl => ?_)
  refine lv_iload_n hx hb dJ6_bitCount_0f7a4_24 rfl (lv_at hl 0 rfl) ?_
  refine lv_iload_n hx hb dJ6_bitCount_0f7a4_25 rfl (lv_at hl 0 rfl) ?_
  refine lv_iconst (v := 4) hx hb dJ6_bitCount_0f7a4_26 (by decide) ?_
  refine lv_iushr (v := (iushr (((x0 - ((iushr x0 (1 : Int32)) &&& (1431655765 : Int32))) &&& (858993459 : Int32)) + ((iushr (x0 - ((iushr x0 (1 : Int32)) &&& (1431655765 : Int32))) (2 : Int32)) &&& (858993459 : Int32))) (4 : Int32))) hx hb dJ6_bitCount_0f7a4_27 rfl ?_
  refine lv_iadd hx hb dJ6_bitCount_0f7a4_28 ?_
  refine lv_ldcw hx hb hown (hts _ kw_472) dJ6_bitCount_0f7a4_29 ?_
  refine lv_iand hx hb dJ6_bitCount_0f7a4_32 ?_
  refine lv_istore_n (lv' := [(0, .int (((((x0 - ((iushr x0 (1 : Int32)) &&& (1431655765 : Int32))) &&& (858993459 : Int32)) + ((iushr (x0 - ((iushr x0 (1 : Int32)) &&& (1431655765 : Int32))) (2 : Int32)) &&& (858993459 : Int32))) + (iushr (((x0 - ((iushr x0 (1 : Int32)) &&& (1431655765 : Int32))) &&& (858993459 : Int32)) + ((iushr (x0 - ((iushr x0 (1 : Int32)) &&& (1431655765 : Int32))) (2 : Int32)) &&& (858993459 : Int32))) (4 : Int32))) &&& (252645135 : Int32)))]) hx hb dJ6_bitCount_0f7a4_33 rfl hl (by decide) rfl (fun ls hl => ?_)
  refine lv_iload_n hx hb dJ6_bitCount_0f7a4_34 rfl (lv_at hl 0 rfl) ?_
  refine lv_iload_n hx hb dJ6_bitCount_0f7a4_35 rfl (lv_at hl 0 rfl) ?_
  refine lv_bipush (v := 8) hx hb dJ6_bitCount_0f7a4_36 (by decide) ?_
  refine lv_iushr (v := (iushr (((((x0 - ((iushr x0 (1 : Int32)) &&& (1431655765 : Int32))) &&& (858993459 : Int32)) + ((iushr (x0 - ((iushr x0 (1 : Int32)) &&& (1431655765 : Int32))) (2 : Int32)) &&& (858993459 : Int32))) + (iushr (((x0 - ((iushr x0 (1 : Int32)) &&& (1431655765 : Int32))) &&& (858993459 : Int32)) + ((iushr (x0 - ((iushr x0 (1 : Int32)) &&& (1431655765 : Int32))) (2 : Int32)) &&& (858993459 : Int32))) (4 : Int32))) &&& (252645135 : Int32)) (8 : Int32))) hx hb dJ6_bitCount_0f7a4_38 rfl ?_
  refine lv_iadd hx hb dJ6_bitCount_0f7a4_39 ?_
  refine lv_istore_n (lv' := [(0, .int ((((((x0 - ((iushr x0 (1 : Int32)) &&& (1431655765 : Int32))) &&& (858993459 : Int32)) + ((iushr (x0 - ((iushr x0 (1 : Int32)) &&& (1431655765 : Int32))) (2 : Int32)) &&& (858993459 : Int32))) + (iushr (((x0 - ((iushr x0 (1 : Int32)) &&& (1431655765 : Int32))) &&& (858993459 : Int32)) + ((iushr (x0 - ((iushr x0 (1 : Int32)) &&& (1431655765 : Int32))) (2 : Int32)) &&& (858993459 : Int32))) (4 : Int32))) &&& (252645135 : Int32)) + (iushr (((((x0 - ((iushr x0 (1 : Int32)) &&& (1431655765 : Int32))) &&& (858993459 : Int32)) + ((iushr (x0 - ((iushr x0 (1 : Int32)) &&& (1431655765 : Int32))) (2 : Int32)) &&& (858993459 : Int32))) + (iushr (((x0 - ((iushr x0 (1 : Int32)) &&& (1431655765 : Int32))) &&& (858993459 : Int32)) + ((iushr (x0 - ((iushr x0 (1 : Int32)) &&& (1431655765 : Int32))) (2 : Int32)) &&& (858993459 : Int32))) (4 : Int32))) &&& (252645135 : Int32)) (8 : Int32))))]) hx hb dJ6_bitCount_0f7a4_40 rfl hl (by decide) rfl (fun ls hl => ?_)
  refine lv_iload_n hx hb dJ6_bitCount_0f7a4_41 rfl (lv_at hl 0 rfl) ?_
  refine lv_iload_n hx hb dJ6_bitCount_0f7a4_42 rfl (lv_at hl 0 rfl) ?_
  refine lv_bipush (v := 16) hx hb dJ6_bitCount_0f7a4_43 (by decide) ?_
  refine lv_iushr (v := (iushr ((((((x0 - ((iushr x0 (1 : Int32)) &&& (1431655765 : Int32))) &&& (858993459 : Int32)) + ((iushr (x0 - ((iushr x0 (1 : Int32)) &&& (1431655765 : Int32))) (2 : Int32)) &&& (858993459 : Int32))) + (iushr (((x0 - ((iushr x0 (1 : Int32)) &&& (1431655765 : Int32))) &&& (858993459 : Int32)) + ((iushr (x0 - ((iushr x0 (1 : Int32)) &&& (1431655765 : Int32))) (2 : Int32)) &&& (858993459 : Int32))) (4 : Int32))) &&& (252645135 : Int32)) + (iushr (((((x0 - ((iushr x0 (1 : Int32)) &&& (1431655765 : Int32))) &&& (858993459 : Int32)) + ((iushr (x0 - ((iushr x0 (1 : Int32)) &&& (1431655765 : Int32))) (2 : Int32)) &&& (858993459 : Int32))) + (iushr (((x0 - ((iushr x0 (1 : Int32)) &&& (1431655765 : Int32))) &&& (858993459 : Int32)) + ((iushr (x0 - ((iushr x0 (1 : Int32)) &&& (1431655765 : Int32))) (2 : Int32)) &&& (858993459 : Int32))) (4 : Int32))) &&& (252645135 : Int32)) (8 : Int32))) (16 : Int32))) hx hb dJ6_bitCount_0f7a4_45 rfl ?_
  refine lv_iadd hx hb dJ6_bitCount_0f7a4_46 ?_
  refine lv_istore_n (lv' := [(0, .int (((((((x0 - ((iushr x0 (1 : Int32)) &&& (1431655765 : Int32))) &&& (858993459 : Int32)) + ((iushr (x0 - ((iushr x0 (1 : Int32)) &&& (1431655765 : Int32))) (2 : Int32)) &&& (858993459 : Int32))) + (iushr (((x0 - ((iushr x0 (1 : Int32)) &&& (1431655765 : Int32))) &&& (858993459 : Int32)) + ((iushr (x0 - ((iushr x0 (1 : Int32)) &&& (1431655765 : Int32))) (2 : Int32)) &&& (858993459 : Int32))) (4 : Int32))) &&& (252645135 : Int32)) + (iushr (((((x0 - ((iushr x0 (1 : Int32)) &&& (1431655765 : Int32))) &&& (858993459 : Int32)) + ((iushr (x0 - ((iushr x0 (1 : Int32)) &&& (1431655765 : Int32))) (2 : Int32)) &&& (858993459 : Int32))) + (iushr (((x0 - ((iushr x0 (1 : Int32)) &&& (1431655765 : Int32))) &&& (858993459 : Int32)) + ((iushr (x0 - ((iushr x0 (1 : Int32)) &&& (1431655765 : Int32))) (2 : Int32)) &&& (858993459 : Int32))) (4 : Int32))) &&& (252645135 : Int32)) (8 : Int32))) + (iushr ((((((x0 - ((iushr x0 (1 : Int32)) &&& (1431655765 : Int32))) &&& (858993459 : Int32)) + ((iushr (x0 - ((iushr x0 (1 : Int32)) &&& (1431655765 : Int32))) (2 : Int32)) &&& (858993459 : Int32))) + (iushr (((x0 - ((iushr x0 (1 : Int32)) &&& (1431655765 : Int32))) &&& (858993459 : Int32)) + ((iushr (x0 - ((iushr x0 (1 : Int32)) &&& (1431655765 : Int32))) (2 : Int32)) &&& (858993459 : Int32))) (4 : Int32))) &&& (252645135 : Int32)) + (iushr (((((x0 - ((iushr x0 (1 : Int32)) &&& (1431655765 : Int32))) &&& (858993459 : Int32)) + ((iushr (x0 - ((iushr x0 (1 : Int32)) &&& (1431655765 : Int32))) (2 : Int32)) &&& (858993459 : Int32))) + (iushr (((x0 - ((iushr x0 (1 : Int32)) &&& (1431655765 : Int32))) &&& (858993459 : Int32)) + ((iushr (x0 - ((iushr x0 (1 : Int32)) &&& (1431655765 : Int32))) (2 : Int32)) &&& (858993459 : Int32))) (4 : Int32))) &&& (252645135 : Int32)) (8 : Int32))) (16 : Int32))))]) hx hb dJ6_bitCount_0f7a4_47 rfl hl (by decide) rfl (fun ls hl => ?_)
  refine lv_iload_n hx hb dJ6_bitCount_0f7a4_48 rfl (lv_at hl 0 rfl) ?_
  refine lv_bipush (v := 63) hx hb dJ6_bitCount_0f7a4_49 (by decide) ?_
  refine lv_iand hx hb dJ6_bitCount_0f7a4_51 ?_
  obtain rfl := Option.some.inj hf
  exact ret _ _ _ _ dJ6_bitCount_0f7a4_52 hP hS

def f_X6_oneComes (gF : Int64 → Int32 → Int32 → Int32 → Int32 → Int32 → (Nat → Int32) → (Nat → Int32) → (Nat → Int32) → (Nat → Int32) → (Nat → Int64) → Int32 → Int32 → Int64 → Option (Int64 × Int32 × Int32 × (Nat → Int32) × (Nat → Int64))) (v_turnedAway : Int64) (v_habit : Int32) (v_sitters_bench_scene_seats : Int32) (v_sitters_bench_scene_bear : Int32) (v_sitters_nearest : Nat → Int32) (v_sitters_bench_apart : Nat → Int32) (v_sitters_bench_scene_worths : Nat → Int32) (v_sitters_bench_neighbours : Nat → Int32) (v_odds : Nat → Int64) (x1 : Int32) (x2 : Int32) (x3 : Int64) : Option (Int64 × Int32 × Int32 × (Nat → Int32) × (Nat → Int64)) :=
  (f_X9_seatSet v_sitters_bench_scene_seats v_sitters_bench_scene_bear v_sitters_nearest v_sitters_bench_apart x1).bind (fun u1 =>
  (f_X9_choice u1.2.2.1 v_sitters_bench_scene_seats u1.2.2.2 v_sitters_bench_scene_worths v_sitters_bench_neighbours v_habit).bind (fun u2 =>
  (if u2 = (-6 : Int32) then
  (gF (v_turnedAway + x3) v_habit u1.2.1 u1.2.2.1 v_sitters_bench_scene_seats v_sitters_bench_scene_bear u1.2.2.2 v_sitters_bench_apart v_sitters_bench_scene_worths v_sitters_bench_neighbours v_odds x1 (x2 - (1 : Int32)) x3).bind (fun u7 =>
  some (u7.1, u7.2.1, u7.2.2.1, u7.2.2.2.1, u7.2.2.2.2))
  else
  (gF v_turnedAway v_habit u1.2.1 u1.2.2.1 v_sitters_bench_scene_seats v_sitters_bench_scene_bear u1.2.2.2 v_sitters_bench_apart v_sitters_bench_scene_worths v_sitters_bench_neighbours v_odds (x1 ||| ((1 : Int32) <<< (u2 &&& 31))) (x2 - (1 : Int32)) x3).bind (fun u6 =>
  some (u6.1, u6.2.1, u6.2.2.1, u6.2.2.2.1, u6.2.2.2.2))).bind (fun w3 =>
  some (w3.1, w3.2.1, w3.2.2.1, w3.2.2.2.1, w3.2.2.2.2))))
set_option maxHeartbeats 4000000 in
set_option maxRecDepth 100000 in
theorem c_X6_oneComes (l : Launch) (D : va_G) (cI cJ cZ cO : ClassId) (a_t a_sitters a_odds a_sitters_bench a_sitters_nearest a_sitters_bench_scene a_sitters_bench_apart a_sitters_bench_clash a_sitters_bench_neighbours a_sitters_bench_scene_steps a_sitters_bench_scene_worths a_sitters_bench_scene_comers a_sitters_bench_scene_seen a_sitters_bench_scene_seenLengths : Nat) (gF : Int64 → Int32 → Int32 → Int32 → Int32 → Int32 → (Nat → Int32) → (Nat → Int32) → (Nat → Int32) → (Nat → Int32) → (Nat → Int64) → Int32 → Int32 → Int64 → Option (Int64 × Int32 × Int32 × (Nat → Int32) × (Nat → Int64))) (fr lo : Nat) (hgo : ∀ (v_turnedAway : Int64) (v_parts : Int64) (v_habit : Int32) (v_sitters_set : Int32) (v_sitters_bear : Int32) (v_sitters_bench_scene_seats : Int32) (v_sitters_bench_scene_bear : Int32) (v_sitters_bench_scene_comerCount : Int32) (v_sitters_bench_scene_seenRows : Int32) (v_sitters_nearest : Nat → Int32) (v_sitters_bench_apart : Nat → Int32) (v_sitters_bench_scene_worths : Nat → Int32) (v_sitters_bench_neighbours : Nat → Int32) (v_odds : Nat → Int64) (x1 : Int32) (x2 : Int32) (x3 : Int64) (out : Int64 × Int32 × Int32 × (Nat → Int32) × (Nat → Int64)), gF v_turnedAway v_habit v_sitters_set v_sitters_bear v_sitters_bench_scene_seats v_sitters_bench_scene_bear v_sitters_nearest v_sitters_bench_apart v_sitters_bench_scene_worths v_sitters_bench_neighbours v_odds x1 x2 x3 = some out → MetR l yX6_go (Cond.code yX6_go cX6_go 5 none :: tbG) { frames := fr, cells := 0, slots := 0, locals := lo } D (tyL cI cJ cZ cO) [.ref a_t, .int x1, .int x2, .long x3] [(a_t, .inr (6, [.ref a_sitters, .ref a_odds, .long v_turnedAway, .long v_parts, .int v_habit])), (a_sitters, .inr (9, [.ref a_sitters_bench, .ref a_sitters_nearest, .int v_sitters_set, .int v_sitters_bear])), (a_sitters_bench, .inr (0, [.ref a_sitters_bench_scene, .ref a_sitters_bench_apart, .ref a_sitters_bench_clash, .ref a_sitters_bench_neighbours])), (a_sitters_bench_scene, .inr (7, [.ref a_sitters_bench_scene_steps, .ref a_sitters_bench_scene_worths, .ref a_sitters_bench_scene_comers, .ref a_sitters_bench_scene_seen, .ref a_sitters_bench_scene_seenLengths, .int v_sitters_bench_scene_seats, .int v_sitters_bench_scene_bear, .int v_sitters_bench_scene_comerCount, .int v_sitters_bench_scene_seenRows])), (a_sitters_nearest, eI cI 12 v_sitters_nearest), (a_sitters_bench_apart, eI cI 144 v_sitters_bench_apart), (a_sitters_bench_scene_worths, eI cI 12 v_sitters_bench_scene_worths), (a_sitters_bench_neighbours, eI cI 12 v_sitters_bench_neighbours), (a_odds, eJ cJ 13 v_odds)] none [(a_t, .inr (6, [.ref a_sitters, .ref a_odds, .long out.1, .long v_parts, .int v_habit])), (a_sitters, .inr (9, [.ref a_sitters_bench, .ref a_sitters_nearest, .int out.2.1, .int out.2.2.1])), (a_sitters_bench, .inr (0, [.ref a_sitters_bench_scene, .ref a_sitters_bench_apart, .ref a_sitters_bench_clash, .ref a_sitters_bench_neighbours])), (a_sitters_bench_scene, .inr (7, [.ref a_sitters_bench_scene_steps, .ref a_sitters_bench_scene_worths, .ref a_sitters_bench_scene_comers, .ref a_sitters_bench_scene_seen, .ref a_sitters_bench_scene_seenLengths, .int v_sitters_bench_scene_seats, .int v_sitters_bench_scene_bear, .int v_sitters_bench_scene_comerCount, .int v_sitters_bench_scene_seenRows])), (a_sitters_nearest, eI cI 12 out.2.2.2.1), (a_sitters_bench_apart, eI cI 144 v_sitters_bench_apart), (a_sitters_bench_scene_worths, eI cI 12 v_sitters_bench_scene_worths), (a_sitters_bench_neighbours, eI cI 12 v_sitters_bench_neighbours), (a_odds, eJ cJ 13 out.2.2.2.2)]) (v_turnedAway : Int64) (v_parts : Int64) (v_habit : Int32) (v_sitters_set : Int32) (v_sitters_bear : Int32) (v_sitters_bench_scene_seats : Int32) (v_sitters_bench_scene_bear : Int32) (v_sitters_bench_scene_comerCount : Int32) (v_sitters_bench_scene_seenRows : Int32) (v_sitters_nearest : Nat → Int32) (v_sitters_bench_apart : Nat → Int32) (v_sitters_bench_scene_worths : Nat → Int32) (v_sitters_bench_neighbours : Nat → Int32) (v_odds : Nat → Int64) (x1 : Int32) (x2 : Int32) (x3 : Int64) (out : Int64 × Int32 × Int32 × (Nat → Int32) × (Nat → Int64)) (hf : f_X6_oneComes gF v_turnedAway v_habit v_sitters_bench_scene_seats v_sitters_bench_scene_bear v_sitters_nearest v_sitters_bench_apart v_sitters_bench_scene_worths v_sitters_bench_neighbours v_odds x1 x2 x3 = some out) : MetR l yX6_oneComes (Cond.code yX6_oneComes cX6_oneComes 6 none :: tbG) { frames := fr + 10, cells := 0, slots := 0, locals := lo + 400 } D (tyL cI cJ cZ cO) [.ref a_t, .int x1, .int x2, .long x3] [(a_t, .inr (6, [.ref a_sitters, .ref a_odds, .long v_turnedAway, .long v_parts, .int v_habit])), (a_sitters, .inr (9, [.ref a_sitters_bench, .ref a_sitters_nearest, .int v_sitters_set, .int v_sitters_bear])), (a_sitters_bench, .inr (0, [.ref a_sitters_bench_scene, .ref a_sitters_bench_apart, .ref a_sitters_bench_clash, .ref a_sitters_bench_neighbours])), (a_sitters_bench_scene, .inr (7, [.ref a_sitters_bench_scene_steps, .ref a_sitters_bench_scene_worths, .ref a_sitters_bench_scene_comers, .ref a_sitters_bench_scene_seen, .ref a_sitters_bench_scene_seenLengths, .int v_sitters_bench_scene_seats, .int v_sitters_bench_scene_bear, .int v_sitters_bench_scene_comerCount, .int v_sitters_bench_scene_seenRows])), (a_sitters_nearest, eI cI 12 v_sitters_nearest), (a_sitters_bench_apart, eI cI 144 v_sitters_bench_apart), (a_sitters_bench_scene_worths, eI cI 12 v_sitters_bench_scene_worths), (a_sitters_bench_neighbours, eI cI 12 v_sitters_bench_neighbours), (a_odds, eJ cJ 13 v_odds)] none [(a_t, .inr (6, [.ref a_sitters, .ref a_odds, .long out.1, .long v_parts, .int v_habit])), (a_sitters, .inr (9, [.ref a_sitters_bench, .ref a_sitters_nearest, .int out.2.1, .int out.2.2.1])), (a_sitters_bench, .inr (0, [.ref a_sitters_bench_scene, .ref a_sitters_bench_apart, .ref a_sitters_bench_clash, .ref a_sitters_bench_neighbours])), (a_sitters_bench_scene, .inr (7, [.ref a_sitters_bench_scene_steps, .ref a_sitters_bench_scene_worths, .ref a_sitters_bench_scene_comers, .ref a_sitters_bench_scene_seen, .ref a_sitters_bench_scene_seenLengths, .int v_sitters_bench_scene_seats, .int v_sitters_bench_scene_bear, .int v_sitters_bench_scene_comerCount, .int v_sitters_bench_scene_seenRows])), (a_sitters_nearest, eI cI 12 out.2.2.2.1), (a_sitters_bench_apart, eI cI 144 v_sitters_bench_apart), (a_sitters_bench_scene_worths, eI cI 12 v_sitters_bench_scene_worths), (a_sitters_bench_neighbours, eI cI 12 v_sitters_bench_neighbours), (a_odds, eJ cJ 13 out.2.2.2.2)] := by
  refine ba_ofV RX6 [(0, .ref a_t), (1, .int x1), (2, .int x2), (3, .long x3)] (by decide +kernel) rfl (Nat.le_of_ble_eq_true rfl) rfl ?_
  intro p e s m args below meth c Q A Cx hP ret ls hl
  obtain ⟨⟨hx, hb, hml, hown, hts⟩, hK, hD, hA⟩ := id Cx
  have hS : va_S A s.heap s.heap [] := va_S.rf
  unfold f_X6_oneComes at hf
  refine lv_aload_n hx hb dX6_oneComes_0 rfl (lv_at hl 0 rfl) ?_
  refine gf_X6_9 Cx hP 0 rfl rfl dX6_oneComes_1 ?_
  refine lv_iload_n hx hb dX6_oneComes_4 rfl (lv_at hl 1 rfl) ?_
  obtain ⟨u1, hu1, hf⟩ := ob_b hf
  refine iv_X6_56 (As := [.int x1]) (rest := []) (is := [1, 2, 3, 4, 5]) (q0 := 1) (X' := [(a_t, .inr (6, [.ref a_sitters, .ref a_odds, .long v_turnedAway, .long v_parts, .int v_habit])), (a_sitters, .inr (9, [.ref a_sitters_bench, .ref a_sitters_nearest, .int u1.2.1, .int u1.2.2.1])), (a_sitters_bench, .inr (0, [.ref a_sitters_bench_scene, .ref a_sitters_bench_apart, .ref a_sitters_bench_clash, .ref a_sitters_bench_neighbours])), (a_sitters_bench_scene, .inr (7, [.ref a_sitters_bench_scene_steps, .ref a_sitters_bench_scene_worths, .ref a_sitters_bench_scene_comers, .ref a_sitters_bench_scene_seen, .ref a_sitters_bench_scene_seenLengths, .int v_sitters_bench_scene_seats, .int v_sitters_bench_scene_bear, .int v_sitters_bench_scene_comerCount, .int v_sitters_bench_scene_seenRows])), (a_sitters_nearest, eI cI 12 u1.2.2.2), (a_sitters_bench_apart, eI cI 144 v_sitters_bench_apart), (a_sitters_bench_scene_worths, eI cI 12 v_sitters_bench_scene_worths), (a_sitters_bench_neighbours, eI cI 12 v_sitters_bench_neighbours), (a_odds, eJ cJ 13 v_odds)]) Cx (c_X9_seatSet l D cI cJ cZ cO a_sitters a_sitters_bench a_sitters_nearest a_sitters_bench_scene a_sitters_bench_apart a_sitters_bench_clash a_sitters_bench_neighbours a_sitters_bench_scene_steps a_sitters_bench_scene_worths a_sitters_bench_scene_comers a_sitters_bench_scene_seen a_sitters_bench_scene_seenLengths v_sitters_set v_sitters_bear v_sitters_bench_scene_seats v_sitters_bench_scene_bear v_sitters_bench_scene_comerCount v_sitters_bench_scene_seenRows v_sitters_nearest v_sitters_bench_apart x1 u1 hu1) hP hS rfl rfl rfl rfl rfl rfl rfl hl.1 (Nat.le_of_ble_eq_true rfl) dX6_oneComes_5 rfl rfl ⟨by dsimp only; omega, by dsimp only; omega⟩ ⟨Nat.zero_le _, Nat.zero_le _⟩ rfl (fun H locs hP hS => ?_)
  refine lv_pop hx hb dX6_oneComes_8 rfl ?_
  refine lv_aload_n hx hb dX6_oneComes_9 rfl (lv_at hl 0 rfl) ?_
  refine gf_X6_9 Cx hP 0 rfl rfl dX6_oneComes_10 ?_
  refine lv_aload_n hx hb dX6_oneComes_13 rfl (lv_at hl 0 rfl) ?_
  refine gf_X6_29 Cx hP 0 rfl rfl dX6_oneComes_14 ?_
  obtain ⟨u2, hu2, hf⟩ := ob_b hf
  refine iv_X6_62 (As := [.int v_habit]) (rest := []) (is := [1, 2, 3, 4, 6, 7]) (q0 := 1) (X' := [(a_t, .inr (6, [.ref a_sitters, .ref a_odds, .long v_turnedAway, .long v_parts, .int v_habit])), (a_sitters, .inr (9, [.ref a_sitters_bench, .ref a_sitters_nearest, .int u1.2.1, .int u1.2.2.1])), (a_sitters_bench, .inr (0, [.ref a_sitters_bench_scene, .ref a_sitters_bench_apart, .ref a_sitters_bench_clash, .ref a_sitters_bench_neighbours])), (a_sitters_bench_scene, .inr (7, [.ref a_sitters_bench_scene_steps, .ref a_sitters_bench_scene_worths, .ref a_sitters_bench_scene_comers, .ref a_sitters_bench_scene_seen, .ref a_sitters_bench_scene_seenLengths, .int v_sitters_bench_scene_seats, .int v_sitters_bench_scene_bear, .int v_sitters_bench_scene_comerCount, .int v_sitters_bench_scene_seenRows])), (a_sitters_nearest, eI cI 12 u1.2.2.2), (a_sitters_bench_apart, eI cI 144 v_sitters_bench_apart), (a_sitters_bench_scene_worths, eI cI 12 v_sitters_bench_scene_worths), (a_sitters_bench_neighbours, eI cI 12 v_sitters_bench_neighbours), (a_odds, eJ cJ 13 v_odds)]) Cx (c_X9_choice l D cI cJ cZ cO a_sitters a_sitters_bench a_sitters_nearest a_sitters_bench_scene a_sitters_bench_apart a_sitters_bench_clash a_sitters_bench_neighbours a_sitters_bench_scene_steps a_sitters_bench_scene_worths a_sitters_bench_scene_comers a_sitters_bench_scene_seen a_sitters_bench_scene_seenLengths u1.2.1 u1.2.2.1 v_sitters_bench_scene_seats v_sitters_bench_scene_bear v_sitters_bench_scene_comerCount v_sitters_bench_scene_seenRows u1.2.2.2 v_sitters_bench_scene_worths v_sitters_bench_neighbours v_habit u2 hu2) hP hS rfl rfl rfl rfl rfl rfl rfl hl.1 (Nat.le_of_ble_eq_true rfl) dX6_oneComes_17 rfl rfl ⟨by dsimp only; omega, by dsimp only; omega⟩ ⟨Nat.zero_le _, Nat.zero_le _⟩ rfl (fun H locs hP hS => ?_)
  refine lv_istore (lv' := [(5, .int u2), (0, .ref a_t), (1, .int x1), (2, .int x2), (3, .long x3)]) hx hb dX6_oneComes_20 hl (by decide) rfl (fun ls hl => ?_)
  refine lv_iload hx hb dX6_oneComes_22 (lv_at hl 0 rfl) ?_
  refine lv_bipush (v := (-6)) hx hb dX6_oneComes_24 (by decide) ?_
  refine ob_J (P := fun w3 => ∀ (H : Heap) (locs : List Loc) (ls : Array Slot), va_P D vwCl [(a_t, .inr (6, [.ref a_sitters, .ref a_odds, .long w3.1, .long v_parts, .int v_habit])), (a_sitters, .inr (9, [.ref a_sitters_bench, .ref a_sitters_nearest, .int w3.2.1, .int w3.2.2.1])), (a_sitters_bench, .inr (0, [.ref a_sitters_bench_scene, .ref a_sitters_bench_apart, .ref a_sitters_bench_clash, .ref a_sitters_bench_neighbours])), (a_sitters_bench_scene, .inr (7, [.ref a_sitters_bench_scene_steps, .ref a_sitters_bench_scene_worths, .ref a_sitters_bench_scene_comers, .ref a_sitters_bench_scene_seen, .ref a_sitters_bench_scene_seenLengths, .int v_sitters_bench_scene_seats, .int v_sitters_bench_scene_bear, .int v_sitters_bench_scene_comerCount, .int v_sitters_bench_scene_seenRows])), (a_sitters_nearest, eI cI 12 w3.2.2.2.1), (a_sitters_bench_apart, eI cI 144 v_sitters_bench_apart), (a_sitters_bench_scene_worths, eI cI 12 v_sitters_bench_scene_worths), (a_sitters_bench_neighbours, eI cI 12 v_sitters_bench_neighbours), (a_odds, eJ cJ 13 w3.2.2.2.2)] H → va_S A s.heap H locs → lv_has ls 6 [] → W p l e { frames := fr + 10, cells := 0, slots := 0, locals := lo + 400 } s m args below meth c H locs 0 0 Q (F0 m 65 ls [])) hf ?_ ?_
  · intro w3 hf H locs ls hP hS hl
    obtain rfl := Option.some.inj hf
    exact ret _ _ _ _ dX6_oneComes_65 hP hS
  · intro J65_4 hf
    refine lv_icmp_ne (tgt := 51) hx hb dX6_oneComes_26 (by decide) (fun c5 => ?_) (fun c5 => ?_)
    · have hf := ob_fk c5 hf
      refine lv_aload_n hx hb dX6_oneComes_51 rfl (lv_at hl 1 rfl) ?_
      refine lv_iload_n hx hb dX6_oneComes_52 rfl (lv_at hl 2 rfl) ?_
      refine lv_iconst (v := 1) hx hb dX6_oneComes_53 (by decide) ?_
      refine lv_iload hx hb dX6_oneComes_54 (lv_at hl 0 rfl) ?_
      refine lv_ishl hx hb dX6_oneComes_56 ?_
      refine lv_ior hx hb dX6_oneComes_57 ?_
      refine lv_iload_n hx hb dX6_oneComes_58 rfl (lv_at hl 3 rfl) ?_
      refine lv_iconst (v := 1) hx hb dX6_oneComes_59 (by decide) ?_
      refine lv_isub hx hb dX6_oneComes_60 ?_
      refine lv_lload_n hx hb dX6_oneComes_61 rfl (lv_at hl 4 rfl) ?_
      obtain ⟨u6, hu6, hf⟩ := ob_bk hf
      refine iv_X6_38 (As := [.int (x1 ||| ((1 : Int32) <<< (u2 &&& 31))), .int (x2 - (1 : Int32)), .long x3]) (rest := []) (is := [0, 1, 2, 3, 4, 5, 6, 7, 8]) (q0 := 0) (X' := [(a_t, .inr (6, [.ref a_sitters, .ref a_odds, .long u6.1, .long v_parts, .int v_habit])), (a_sitters, .inr (9, [.ref a_sitters_bench, .ref a_sitters_nearest, .int u6.2.1, .int u6.2.2.1])), (a_sitters_bench, .inr (0, [.ref a_sitters_bench_scene, .ref a_sitters_bench_apart, .ref a_sitters_bench_clash, .ref a_sitters_bench_neighbours])), (a_sitters_bench_scene, .inr (7, [.ref a_sitters_bench_scene_steps, .ref a_sitters_bench_scene_worths, .ref a_sitters_bench_scene_comers, .ref a_sitters_bench_scene_seen, .ref a_sitters_bench_scene_seenLengths, .int v_sitters_bench_scene_seats, .int v_sitters_bench_scene_bear, .int v_sitters_bench_scene_comerCount, .int v_sitters_bench_scene_seenRows])), (a_sitters_nearest, eI cI 12 u6.2.2.2.1), (a_sitters_bench_apart, eI cI 144 v_sitters_bench_apart), (a_sitters_bench_scene_worths, eI cI 12 v_sitters_bench_scene_worths), (a_sitters_bench_neighbours, eI cI 12 v_sitters_bench_neighbours), (a_odds, eJ cJ 13 u6.2.2.2.2)]) Cx (hgo v_turnedAway v_parts v_habit u1.2.1 u1.2.2.1 v_sitters_bench_scene_seats v_sitters_bench_scene_bear v_sitters_bench_scene_comerCount v_sitters_bench_scene_seenRows u1.2.2.2 v_sitters_bench_apart v_sitters_bench_scene_worths v_sitters_bench_neighbours v_odds (x1 ||| ((1 : Int32) <<< (u2 &&& 31))) (x2 - (1 : Int32)) x3 u6 hu6) hP hS rfl rfl rfl rfl rfl rfl rfl hl.1 (Nat.le_of_ble_eq_true rfl) dX6_oneComes_62 rfl rfl ⟨by dsimp only; omega, by dsimp only; omega⟩ ⟨Nat.zero_le _, Nat.zero_le _⟩ rfl (fun H locs hP hS => ?_)
      exact J65_4 (u6.1, u6.2.1, u6.2.2.1, u6.2.2.2.1, u6.2.2.2.2) hf _ _ _ hP hS (lv_sub hl [] rfl)
    · have hf := ob_tk c5 hf
      refine lv_aload_n hx hb dX6_oneComes_29 rfl (lv_at hl 1 rfl) ?_
      refine lv_dup hx hb dX6_oneComes_30 rfl ?_
      refine gf_X6_25 Cx hP 0 rfl rfl dX6_oneComes_31 ?_
      refine lv_lload_n hx hb dX6_oneComes_34 rfl (lv_at hl 4 rfl) ?_
      refine lv_ladd hx hb dX6_oneComes_35 ?_
      refine pf_X6_25 (X' := [(a_t, .inr (6, [.ref a_sitters, .ref a_odds, .long (v_turnedAway + x3), .long v_parts, .int v_habit])), (a_sitters, .inr (9, [.ref a_sitters_bench, .ref a_sitters_nearest, .int u1.2.1, .int u1.2.2.1])), (a_sitters_bench, .inr (0, [.ref a_sitters_bench_scene, .ref a_sitters_bench_apart, .ref a_sitters_bench_clash, .ref a_sitters_bench_neighbours])), (a_sitters_bench_scene, .inr (7, [.ref a_sitters_bench_scene_steps, .ref a_sitters_bench_scene_worths, .ref a_sitters_bench_scene_comers, .ref a_sitters_bench_scene_seen, .ref a_sitters_bench_scene_seenLengths, .int v_sitters_bench_scene_seats, .int v_sitters_bench_scene_bear, .int v_sitters_bench_scene_comerCount, .int v_sitters_bench_scene_seenRows])), (a_sitters_nearest, eI cI 12 u1.2.2.2), (a_sitters_bench_apart, eI cI 144 v_sitters_bench_apart), (a_sitters_bench_scene_worths, eI cI 12 v_sitters_bench_scene_worths), (a_sitters_bench_neighbours, eI cI 12 v_sitters_bench_neighbours), (a_odds, eJ cJ 13 v_odds)]) Cx hP hS rfl 0 rfl rfl (Nat.le_of_ble_eq_true rfl) dX6_oneComes_36 (fun H locs hP hS => ?_)
      refine lv_aload_n hx hb dX6_oneComes_39 rfl (lv_at hl 1 rfl) ?_
      refine lv_iload_n hx hb dX6_oneComes_40 rfl (lv_at hl 2 rfl) ?_
      refine lv_iload_n hx hb dX6_oneComes_41 rfl (lv_at hl 3 rfl) ?_
      refine lv_iconst (v := 1) hx hb dX6_oneComes_42 (by decide) ?_
      refine lv_isub hx hb dX6_oneComes_43 ?_
      refine lv_lload_n hx hb dX6_oneComes_44 rfl (lv_at hl 4 rfl) ?_
      obtain ⟨u7, hu7, hf⟩ := ob_bk hf
      refine iv_X6_38 (As := [.int x1, .int (x2 - (1 : Int32)), .long x3]) (rest := []) (is := [0, 1, 2, 3, 4, 5, 6, 7, 8]) (q0 := 0) (X' := [(a_t, .inr (6, [.ref a_sitters, .ref a_odds, .long u7.1, .long v_parts, .int v_habit])), (a_sitters, .inr (9, [.ref a_sitters_bench, .ref a_sitters_nearest, .int u7.2.1, .int u7.2.2.1])), (a_sitters_bench, .inr (0, [.ref a_sitters_bench_scene, .ref a_sitters_bench_apart, .ref a_sitters_bench_clash, .ref a_sitters_bench_neighbours])), (a_sitters_bench_scene, .inr (7, [.ref a_sitters_bench_scene_steps, .ref a_sitters_bench_scene_worths, .ref a_sitters_bench_scene_comers, .ref a_sitters_bench_scene_seen, .ref a_sitters_bench_scene_seenLengths, .int v_sitters_bench_scene_seats, .int v_sitters_bench_scene_bear, .int v_sitters_bench_scene_comerCount, .int v_sitters_bench_scene_seenRows])), (a_sitters_nearest, eI cI 12 u7.2.2.2.1), (a_sitters_bench_apart, eI cI 144 v_sitters_bench_apart), (a_sitters_bench_scene_worths, eI cI 12 v_sitters_bench_scene_worths), (a_sitters_bench_neighbours, eI cI 12 v_sitters_bench_neighbours), (a_odds, eJ cJ 13 u7.2.2.2.2)]) Cx (hgo (v_turnedAway + x3) v_parts v_habit u1.2.1 u1.2.2.1 v_sitters_bench_scene_seats v_sitters_bench_scene_bear v_sitters_bench_scene_comerCount v_sitters_bench_scene_seenRows u1.2.2.2 v_sitters_bench_apart v_sitters_bench_scene_worths v_sitters_bench_neighbours v_odds x1 (x2 - (1 : Int32)) x3 u7 hu7) hP hS rfl rfl rfl rfl rfl rfl rfl hl.1 (Nat.le_of_ble_eq_true rfl) dX6_oneComes_45 rfl rfl ⟨by dsimp only; omega, by dsimp only; omega⟩ ⟨Nat.zero_le _, Nat.zero_le _⟩ rfl (fun H locs hP hS => ?_)
      refine lv_goto (tgt := 65) hx hb dX6_oneComes_48 (by decide) ?_
      exact J65_4 (u7.1, u7.2.1, u7.2.2.1, u7.2.2.2.1, u7.2.2.2.2) hf _ _ _ hP hS (lv_sub hl [] rfl)

def f_X6_oneGoes_24 (gF : Int64 → Int32 → Int32 → Int32 → Int32 → Int32 → (Nat → Int32) → (Nat → Int32) → (Nat → Int32) → (Nat → Int32) → (Nat → Int64) → Int32 → Int32 → Int64 → Option (Int64 × Int32 × Int32 × (Nat → Int32) × (Nat → Int64))) (v_habit : Int32) (v_sitters_bench_scene_seats : Int32) (v_sitters_bench_scene_bear : Int32) (v_sitters_bench_apart : Nat → Int32) (v_sitters_bench_scene_worths : Nat → Int32) (v_sitters_bench_neighbours : Nat → Int32) (x1 : Int32) (x2 : Int32) (x3 : Int64) (u1 : Int32) : Nat → Int32 → Int64 → Int32 → Int32 → (Nat → Int32) → (Nat → Int64) → Option (Int64 × Int32 × Int32 × (Nat → Int32) × (Nat → Int64))
  | 0, _, _, _, _, _, _ => none
  | n + 1, y6_24, z_turnedAway_24, z_sitters_set_24, z_sitters_bear_24, z_sitters_nearest_24, z_odds_24 =>
  if (12 : Int32) ≤ y6_24 then
  some (z_turnedAway_24, z_sitters_set_24, z_sitters_bear_24, z_sitters_nearest_24, z_odds_24)
  else
  (if ((x1 >>> (y6_24 &&& 31)) &&& (1 : Int32)) = 0 then
  some (z_turnedAway_24, z_sitters_set_24, z_sitters_bear_24, z_sitters_nearest_24, z_odds_24)
  else
  (odivL x3 (u1).toInt64).bind (fun u8 =>
  (gF z_turnedAway_24 v_habit z_sitters_set_24 z_sitters_bear_24 v_sitters_bench_scene_seats v_sitters_bench_scene_bear z_sitters_nearest_24 v_sitters_bench_apart v_sitters_bench_scene_worths v_sitters_bench_neighbours z_odds_24 (x1 &&& (((1 : Int32) <<< (y6_24 &&& 31)) ^^^ (-1 : Int32))) (x2 - (1 : Int32)) u8).bind (fun u9 =>
  some (u9.1, u9.2.1, u9.2.2.1, u9.2.2.2.1, u9.2.2.2.2)))).bind (fun w5 =>
  f_X6_oneGoes_24 gF v_habit v_sitters_bench_scene_seats v_sitters_bench_scene_bear v_sitters_bench_apart v_sitters_bench_scene_worths v_sitters_bench_neighbours x1 x2 x3 u1 n (y6_24 + 1) w5.1 w5.2.1 w5.2.2.1 w5.2.2.2.1 w5.2.2.2.2)
theorem f_X6_oneGoes_24_s (gF : Int64 → Int32 → Int32 → Int32 → Int32 → Int32 → (Nat → Int32) → (Nat → Int32) → (Nat → Int32) → (Nat → Int32) → (Nat → Int64) → Int32 → Int32 → Int64 → Option (Int64 × Int32 × Int32 × (Nat → Int32) × (Nat → Int64))) (v_habit : Int32) (v_sitters_bench_scene_seats : Int32) (v_sitters_bench_scene_bear : Int32) (v_sitters_bench_apart : Nat → Int32) (v_sitters_bench_scene_worths : Nat → Int32) (v_sitters_bench_neighbours : Nat → Int32) (x1 : Int32) (x2 : Int32) (x3 : Int64) (u1 : Int32) (n : Nat) (y6_24 : Int32) (z_turnedAway_24 : Int64) (z_sitters_set_24 : Int32) (z_sitters_bear_24 : Int32) (z_sitters_nearest_24 : Nat → Int32) (z_odds_24 : Nat → Int64) : f_X6_oneGoes_24 gF v_habit v_sitters_bench_scene_seats v_sitters_bench_scene_bear v_sitters_bench_apart v_sitters_bench_scene_worths v_sitters_bench_neighbours x1 x2 x3 u1 (n + 1) y6_24 z_turnedAway_24 z_sitters_set_24 z_sitters_bear_24 z_sitters_nearest_24 z_odds_24 =
  (if (12 : Int32) ≤ y6_24 then
  some (z_turnedAway_24, z_sitters_set_24, z_sitters_bear_24, z_sitters_nearest_24, z_odds_24)
  else
  (if ((x1 >>> (y6_24 &&& 31)) &&& (1 : Int32)) = 0 then
  some (z_turnedAway_24, z_sitters_set_24, z_sitters_bear_24, z_sitters_nearest_24, z_odds_24)
  else
  (odivL x3 (u1).toInt64).bind (fun u8 =>
  (gF z_turnedAway_24 v_habit z_sitters_set_24 z_sitters_bear_24 v_sitters_bench_scene_seats v_sitters_bench_scene_bear z_sitters_nearest_24 v_sitters_bench_apart v_sitters_bench_scene_worths v_sitters_bench_neighbours z_odds_24 (x1 &&& (((1 : Int32) <<< (y6_24 &&& 31)) ^^^ (-1 : Int32))) (x2 - (1 : Int32)) u8).bind (fun u9 =>
  some (u9.1, u9.2.1, u9.2.2.1, u9.2.2.2.1, u9.2.2.2.2)))).bind (fun w5 =>
  f_X6_oneGoes_24 gF v_habit v_sitters_bench_scene_seats v_sitters_bench_scene_bear v_sitters_bench_apart v_sitters_bench_scene_worths v_sitters_bench_neighbours x1 x2 x3 u1 n (y6_24 + 1) w5.1 w5.2.1 w5.2.2.1 w5.2.2.2.1 w5.2.2.2.2)) := rfl
def f_X6_oneGoes (gF : Int64 → Int32 → Int32 → Int32 → Int32 → Int32 → (Nat → Int32) → (Nat → Int32) → (Nat → Int32) → (Nat → Int32) → (Nat → Int64) → Int32 → Int32 → Int64 → Option (Int64 × Int32 × Int32 × (Nat → Int32) × (Nat → Int64))) (v_turnedAway : Int64) (v_habit : Int32) (v_sitters_set : Int32) (v_sitters_bear : Int32) (v_sitters_bench_scene_seats : Int32) (v_sitters_bench_scene_bear : Int32) (v_sitters_nearest : Nat → Int32) (v_sitters_bench_apart : Nat → Int32) (v_sitters_bench_scene_worths : Nat → Int32) (v_sitters_bench_neighbours : Nat → Int32) (v_odds : Nat → Int64) (x1 : Int32) (x2 : Int32) (x3 : Int64) : Option (Int64 × Int32 × Int32 × (Nat → Int32) × (Nat → Int64)) :=
  (f_J6_bitCount_0f7a4 x1).bind (fun u1 =>
  if u1 = 0 then
  (gF v_turnedAway v_habit v_sitters_set v_sitters_bear v_sitters_bench_scene_seats v_sitters_bench_scene_bear v_sitters_nearest v_sitters_bench_apart v_sitters_bench_scene_worths v_sitters_bench_neighbours v_odds x1 (x2 - (1 : Int32)) x3).bind (fun u11 =>
  some (u11.1, u11.2.1, u11.2.2.1, u11.2.2.2.1, u11.2.2.2.2))
  else
  (f_X6_oneGoes_24 gF v_habit v_sitters_bench_scene_seats v_sitters_bench_scene_bear v_sitters_bench_apart v_sitters_bench_scene_worths v_sitters_bench_neighbours x1 x2 x3 u1 FU (0 : Int32) v_turnedAway v_sitters_set v_sitters_bear v_sitters_nearest v_odds).bind (fun u10 =>
  some (u10.1, u10.2.1, u10.2.2.1, u10.2.2.2.1, u10.2.2.2.2)))
set_option maxHeartbeats 4000000 in
set_option maxRecDepth 100000 in
theorem c_X6_oneGoes (l : Launch) (D : va_G) (cI cJ cZ cO : ClassId) (a_t a_sitters a_odds a_sitters_bench a_sitters_nearest a_sitters_bench_scene a_sitters_bench_apart a_sitters_bench_clash a_sitters_bench_neighbours a_sitters_bench_scene_steps a_sitters_bench_scene_worths a_sitters_bench_scene_comers a_sitters_bench_scene_seen a_sitters_bench_scene_seenLengths : Nat) (gF : Int64 → Int32 → Int32 → Int32 → Int32 → Int32 → (Nat → Int32) → (Nat → Int32) → (Nat → Int32) → (Nat → Int32) → (Nat → Int64) → Int32 → Int32 → Int64 → Option (Int64 × Int32 × Int32 × (Nat → Int32) × (Nat → Int64))) (fr lo : Nat) (hgo : ∀ (v_turnedAway : Int64) (v_parts : Int64) (v_habit : Int32) (v_sitters_set : Int32) (v_sitters_bear : Int32) (v_sitters_bench_scene_seats : Int32) (v_sitters_bench_scene_bear : Int32) (v_sitters_bench_scene_comerCount : Int32) (v_sitters_bench_scene_seenRows : Int32) (v_sitters_nearest : Nat → Int32) (v_sitters_bench_apart : Nat → Int32) (v_sitters_bench_scene_worths : Nat → Int32) (v_sitters_bench_neighbours : Nat → Int32) (v_odds : Nat → Int64) (x1 : Int32) (x2 : Int32) (x3 : Int64) (out : Int64 × Int32 × Int32 × (Nat → Int32) × (Nat → Int64)), gF v_turnedAway v_habit v_sitters_set v_sitters_bear v_sitters_bench_scene_seats v_sitters_bench_scene_bear v_sitters_nearest v_sitters_bench_apart v_sitters_bench_scene_worths v_sitters_bench_neighbours v_odds x1 x2 x3 = some out → MetR l yX6_go (Cond.code yX6_go cX6_go 5 none :: tbG) { frames := fr, cells := 0, slots := 0, locals := lo } D (tyL cI cJ cZ cO) [.ref a_t, .int x1, .int x2, .long x3] [(a_t, .inr (6, [.ref a_sitters, .ref a_odds, .long v_turnedAway, .long v_parts, .int v_habit])), (a_sitters, .inr (9, [.ref a_sitters_bench, .ref a_sitters_nearest, .int v_sitters_set, .int v_sitters_bear])), (a_sitters_bench, .inr (0, [.ref a_sitters_bench_scene, .ref a_sitters_bench_apart, .ref a_sitters_bench_clash, .ref a_sitters_bench_neighbours])), (a_sitters_bench_scene, .inr (7, [.ref a_sitters_bench_scene_steps, .ref a_sitters_bench_scene_worths, .ref a_sitters_bench_scene_comers, .ref a_sitters_bench_scene_seen, .ref a_sitters_bench_scene_seenLengths, .int v_sitters_bench_scene_seats, .int v_sitters_bench_scene_bear, .int v_sitters_bench_scene_comerCount, .int v_sitters_bench_scene_seenRows])), (a_sitters_nearest, eI cI 12 v_sitters_nearest), (a_sitters_bench_apart, eI cI 144 v_sitters_bench_apart), (a_sitters_bench_scene_worths, eI cI 12 v_sitters_bench_scene_worths), (a_sitters_bench_neighbours, eI cI 12 v_sitters_bench_neighbours), (a_odds, eJ cJ 13 v_odds)] none [(a_t, .inr (6, [.ref a_sitters, .ref a_odds, .long out.1, .long v_parts, .int v_habit])), (a_sitters, .inr (9, [.ref a_sitters_bench, .ref a_sitters_nearest, .int out.2.1, .int out.2.2.1])), (a_sitters_bench, .inr (0, [.ref a_sitters_bench_scene, .ref a_sitters_bench_apart, .ref a_sitters_bench_clash, .ref a_sitters_bench_neighbours])), (a_sitters_bench_scene, .inr (7, [.ref a_sitters_bench_scene_steps, .ref a_sitters_bench_scene_worths, .ref a_sitters_bench_scene_comers, .ref a_sitters_bench_scene_seen, .ref a_sitters_bench_scene_seenLengths, .int v_sitters_bench_scene_seats, .int v_sitters_bench_scene_bear, .int v_sitters_bench_scene_comerCount, .int v_sitters_bench_scene_seenRows])), (a_sitters_nearest, eI cI 12 out.2.2.2.1), (a_sitters_bench_apart, eI cI 144 v_sitters_bench_apart), (a_sitters_bench_scene_worths, eI cI 12 v_sitters_bench_scene_worths), (a_sitters_bench_neighbours, eI cI 12 v_sitters_bench_neighbours), (a_odds, eJ cJ 13 out.2.2.2.2)]) (v_turnedAway : Int64) (v_parts : Int64) (v_habit : Int32) (v_sitters_set : Int32) (v_sitters_bear : Int32) (v_sitters_bench_scene_seats : Int32) (v_sitters_bench_scene_bear : Int32) (v_sitters_bench_scene_comerCount : Int32) (v_sitters_bench_scene_seenRows : Int32) (v_sitters_nearest : Nat → Int32) (v_sitters_bench_apart : Nat → Int32) (v_sitters_bench_scene_worths : Nat → Int32) (v_sitters_bench_neighbours : Nat → Int32) (v_odds : Nat → Int64) (x1 : Int32) (x2 : Int32) (x3 : Int64) (out : Int64 × Int32 × Int32 × (Nat → Int32) × (Nat → Int64)) (hf : f_X6_oneGoes gF v_turnedAway v_habit v_sitters_set v_sitters_bear v_sitters_bench_scene_seats v_sitters_bench_scene_bear v_sitters_nearest v_sitters_bench_apart v_sitters_bench_scene_worths v_sitters_bench_neighbours v_odds x1 x2 x3 = some out) : MetR l yX6_oneGoes (Cond.code yX6_oneGoes cX6_oneGoes 7 none :: tbG) { frames := fr + 10, cells := 0, slots := 0, locals := lo + 400 } D (tyL cI cJ cZ cO) [.ref a_t, .int x1, .int x2, .long x3] [(a_t, .inr (6, [.ref a_sitters, .ref a_odds, .long v_turnedAway, .long v_parts, .int v_habit])), (a_sitters, .inr (9, [.ref a_sitters_bench, .ref a_sitters_nearest, .int v_sitters_set, .int v_sitters_bear])), (a_sitters_bench, .inr (0, [.ref a_sitters_bench_scene, .ref a_sitters_bench_apart, .ref a_sitters_bench_clash, .ref a_sitters_bench_neighbours])), (a_sitters_bench_scene, .inr (7, [.ref a_sitters_bench_scene_steps, .ref a_sitters_bench_scene_worths, .ref a_sitters_bench_scene_comers, .ref a_sitters_bench_scene_seen, .ref a_sitters_bench_scene_seenLengths, .int v_sitters_bench_scene_seats, .int v_sitters_bench_scene_bear, .int v_sitters_bench_scene_comerCount, .int v_sitters_bench_scene_seenRows])), (a_sitters_nearest, eI cI 12 v_sitters_nearest), (a_sitters_bench_apart, eI cI 144 v_sitters_bench_apart), (a_sitters_bench_scene_worths, eI cI 12 v_sitters_bench_scene_worths), (a_sitters_bench_neighbours, eI cI 12 v_sitters_bench_neighbours), (a_odds, eJ cJ 13 v_odds)] none [(a_t, .inr (6, [.ref a_sitters, .ref a_odds, .long out.1, .long v_parts, .int v_habit])), (a_sitters, .inr (9, [.ref a_sitters_bench, .ref a_sitters_nearest, .int out.2.1, .int out.2.2.1])), (a_sitters_bench, .inr (0, [.ref a_sitters_bench_scene, .ref a_sitters_bench_apart, .ref a_sitters_bench_clash, .ref a_sitters_bench_neighbours])), (a_sitters_bench_scene, .inr (7, [.ref a_sitters_bench_scene_steps, .ref a_sitters_bench_scene_worths, .ref a_sitters_bench_scene_comers, .ref a_sitters_bench_scene_seen, .ref a_sitters_bench_scene_seenLengths, .int v_sitters_bench_scene_seats, .int v_sitters_bench_scene_bear, .int v_sitters_bench_scene_comerCount, .int v_sitters_bench_scene_seenRows])), (a_sitters_nearest, eI cI 12 out.2.2.2.1), (a_sitters_bench_apart, eI cI 144 v_sitters_bench_apart), (a_sitters_bench_scene_worths, eI cI 12 v_sitters_bench_scene_worths), (a_sitters_bench_neighbours, eI cI 12 v_sitters_bench_neighbours), (a_odds, eJ cJ 13 out.2.2.2.2)] := by
  refine ba_ofV RX6 [(0, .ref a_t), (1, .int x1), (2, .int x2), (3, .long x3)] (by decide +kernel) rfl (Nat.le_of_ble_eq_true rfl) rfl ?_
  intro p e s m args below meth c Q A Cx hP ret ls hl
  obtain ⟨⟨hx, hb, hml, hown, hts⟩, hK, hD, hA⟩ := id Cx
  have hS : va_S A s.heap s.heap [] := va_S.rf
  unfold f_X6_oneGoes at hf
  refine lv_iload_n hx hb dX6_oneGoes_0 rfl (lv_at hl 1 rfl) ?_
  obtain ⟨u1, hu1, hf⟩ := ob_b hf
  refine iv_X6_42 (As := [.int x1]) (rest := []) (is := []) (X' := [(a_t, .inr (6, [.ref a_sitters, .ref a_odds, .long v_turnedAway, .long v_parts, .int v_habit])), (a_sitters, .inr (9, [.ref a_sitters_bench, .ref a_sitters_nearest, .int v_sitters_set, .int v_sitters_bear])), (a_sitters_bench, .inr (0, [.ref a_sitters_bench_scene, .ref a_sitters_bench_apart, .ref a_sitters_bench_clash, .ref a_sitters_bench_neighbours])), (a_sitters_bench_scene, .inr (7, [.ref a_sitters_bench_scene_steps, .ref a_sitters_bench_scene_worths, .ref a_sitters_bench_scene_comers, .ref a_sitters_bench_scene_seen, .ref a_sitters_bench_scene_seenLengths, .int v_sitters_bench_scene_seats, .int v_sitters_bench_scene_bear, .int v_sitters_bench_scene_comerCount, .int v_sitters_bench_scene_seenRows])), (a_sitters_nearest, eI cI 12 v_sitters_nearest), (a_sitters_bench_apart, eI cI 144 v_sitters_bench_apart), (a_sitters_bench_scene_worths, eI cI 12 v_sitters_bench_scene_worths), (a_sitters_bench_neighbours, eI cI 12 v_sitters_bench_neighbours), (a_odds, eJ cJ 13 v_odds)]) Cx (c_J6_bitCount_0f7a4 l D cI cJ cZ cO  x1 u1 hu1) hP hS rfl rfl rfl rfl rfl rfl hl.1 (Nat.le_of_ble_eq_true rfl) dX6_oneGoes_1 rfl rfl ⟨by dsimp only; omega, by dsimp only; omega⟩ ⟨Nat.zero_le _, Nat.zero_le _⟩ rfl (fun H locs hP hS => ?_)
  refine lv_istore (lv' := [(5, .int u1), (0, .ref a_t), (1, .int x1), (2, .int x2), (3, .long x3)]) hx hb dX6_oneGoes_4 hl (by decide) rfl (fun ls hl => ?_)
  refine lv_iload hx hb dX6_oneGoes_6 (lv_at hl 0 rfl) ?_
  refine lv_if_ne (tgt := 21) hx hb dX6_oneGoes_8 (by decide) (fun c2 => ?_) (fun c2 => ?_)
  · have hf := ob_f c2 hf
    refine lv_iconst (v := 0) hx hb dX6_oneGoes_21 (by decide) ?_
    refine lv_istore (lv' := [(6, .int (0 : Int32)), (5, .int u1), (0, .ref a_t), (1, .int x1), (2, .int x2), (3, .long x3)]) hx hb dX6_oneGoes_22 hl (by decide) rfl (fun ls hl => ?_)
    have L24_3 : ∀ (n : Nat) (y6_24 : Int32) (z_turnedAway_24 : Int64) (z_sitters_set_24 : Int32) (z_sitters_bear_24 : Int32) (z_sitters_nearest_24 : Nat → Int32) (z_odds_24 : Nat → Int64) (o : Int64 × Int32 × Int32 × (Nat → Int32) × (Nat → Int64)) (H : Heap) (locs : List Loc) (ls : Array Slot), f_X6_oneGoes_24 gF v_habit v_sitters_bench_scene_seats v_sitters_bench_scene_bear v_sitters_bench_apart v_sitters_bench_scene_worths v_sitters_bench_neighbours x1 x2 x3 u1 n y6_24 z_turnedAway_24 z_sitters_set_24 z_sitters_bear_24 z_sitters_nearest_24 z_odds_24 = some o → va_P D vwCl [(a_t, .inr (6, [.ref a_sitters, .ref a_odds, .long z_turnedAway_24, .long v_parts, .int v_habit])), (a_sitters, .inr (9, [.ref a_sitters_bench, .ref a_sitters_nearest, .int z_sitters_set_24, .int z_sitters_bear_24])), (a_sitters_bench, .inr (0, [.ref a_sitters_bench_scene, .ref a_sitters_bench_apart, .ref a_sitters_bench_clash, .ref a_sitters_bench_neighbours])), (a_sitters_bench_scene, .inr (7, [.ref a_sitters_bench_scene_steps, .ref a_sitters_bench_scene_worths, .ref a_sitters_bench_scene_comers, .ref a_sitters_bench_scene_seen, .ref a_sitters_bench_scene_seenLengths, .int v_sitters_bench_scene_seats, .int v_sitters_bench_scene_bear, .int v_sitters_bench_scene_comerCount, .int v_sitters_bench_scene_seenRows])), (a_sitters_nearest, eI cI 12 z_sitters_nearest_24), (a_sitters_bench_apart, eI cI 144 v_sitters_bench_apart), (a_sitters_bench_scene_worths, eI cI 12 v_sitters_bench_scene_worths), (a_sitters_bench_neighbours, eI cI 12 v_sitters_bench_neighbours), (a_odds, eJ cJ 13 z_odds_24)] H → va_S A s.heap H locs → lv_has ls 7 [(0, .ref a_t), (1, .int x1), (2, .int x2), (3, .long x3), (5, .int u1), (6, .int y6_24)] → (∀ (H : Heap) (locs : List Loc) (ls : Array Slot), va_P D vwCl [(a_t, .inr (6, [.ref a_sitters, .ref a_odds, .long o.1, .long v_parts, .int v_habit])), (a_sitters, .inr (9, [.ref a_sitters_bench, .ref a_sitters_nearest, .int o.2.1, .int o.2.2.1])), (a_sitters_bench, .inr (0, [.ref a_sitters_bench_scene, .ref a_sitters_bench_apart, .ref a_sitters_bench_clash, .ref a_sitters_bench_neighbours])), (a_sitters_bench_scene, .inr (7, [.ref a_sitters_bench_scene_steps, .ref a_sitters_bench_scene_worths, .ref a_sitters_bench_scene_comers, .ref a_sitters_bench_scene_seen, .ref a_sitters_bench_scene_seenLengths, .int v_sitters_bench_scene_seats, .int v_sitters_bench_scene_bear, .int v_sitters_bench_scene_comerCount, .int v_sitters_bench_scene_seenRows])), (a_sitters_nearest, eI cI 12 o.2.2.2.1), (a_sitters_bench_apart, eI cI 144 v_sitters_bench_apart), (a_sitters_bench_scene_worths, eI cI 12 v_sitters_bench_scene_worths), (a_sitters_bench_neighbours, eI cI 12 v_sitters_bench_neighbours), (a_odds, eJ cJ 13 o.2.2.2.2)] H → va_S A s.heap H locs → lv_has ls 7 [] → W p l e { frames := fr + 10, cells := 0, slots := 0, locals := lo + 400 } s m args below meth c H locs 0 0 Q (F0 m 66 ls [])) → W p l e { frames := fr + 10, cells := 0, slots := 0, locals := lo + 400 } s m args below meth c H locs 0 0 Q (F0 m 24 ls []) := by
      intro n
      induction n with
      | zero => intro y6_24 z_turnedAway_24 z_sitters_set_24 z_sitters_bear_24 z_sitters_nearest_24 z_odds_24 o H locs ls hf; exact (ob_n hf).elim
      | succ n ih =>
        intro y6_24 z_turnedAway_24 z_sitters_set_24 z_sitters_bear_24 z_sitters_nearest_24 z_odds_24 o H locs ls hf hP hS hl kk
        rw [f_X6_oneGoes_24_s] at hf
        refine lv_iload hx hb dX6_oneGoes_24 (lv_at hl 5 rfl) ?_
        refine lv_bipush (v := 12) hx hb dX6_oneGoes_26 (by decide) ?_
        refine lv_icmp_ge (tgt := 66) hx hb dX6_oneGoes_28 (by decide) (fun c4 => ?_) (fun c4 => ?_)
        · have hf := ob_t c4 hf
          obtain rfl := Option.some.inj hf
          exact kk _ _ _ hP hS (lv_sub hl [] rfl)
        · have hf := ob_f c4 hf
          refine lv_iload_n hx hb dX6_oneGoes_31 rfl (lv_at hl 1 rfl) ?_
          refine lv_iload hx hb dX6_oneGoes_32 (lv_at hl 5 rfl) ?_
          refine lv_ishr hx hb dX6_oneGoes_34 ?_
          refine lv_iconst (v := 1) hx hb dX6_oneGoes_35 (by decide) ?_
          refine lv_iand hx hb dX6_oneGoes_36 ?_
          refine ob_J (P := fun w5 => ∀ (H : Heap) (locs : List Loc) (ls : Array Slot), va_P D vwCl [(a_t, .inr (6, [.ref a_sitters, .ref a_odds, .long w5.1, .long v_parts, .int v_habit])), (a_sitters, .inr (9, [.ref a_sitters_bench, .ref a_sitters_nearest, .int w5.2.1, .int w5.2.2.1])), (a_sitters_bench, .inr (0, [.ref a_sitters_bench_scene, .ref a_sitters_bench_apart, .ref a_sitters_bench_clash, .ref a_sitters_bench_neighbours])), (a_sitters_bench_scene, .inr (7, [.ref a_sitters_bench_scene_steps, .ref a_sitters_bench_scene_worths, .ref a_sitters_bench_scene_comers, .ref a_sitters_bench_scene_seen, .ref a_sitters_bench_scene_seenLengths, .int v_sitters_bench_scene_seats, .int v_sitters_bench_scene_bear, .int v_sitters_bench_scene_comerCount, .int v_sitters_bench_scene_seenRows])), (a_sitters_nearest, eI cI 12 w5.2.2.2.1), (a_sitters_bench_apart, eI cI 144 v_sitters_bench_apart), (a_sitters_bench_scene_worths, eI cI 12 v_sitters_bench_scene_worths), (a_sitters_bench_neighbours, eI cI 12 v_sitters_bench_neighbours), (a_odds, eJ cJ 13 w5.2.2.2.2)] H → va_S A s.heap H locs → lv_has ls 7 [(0, .ref a_t), (1, .int x1), (2, .int x2), (3, .long x3), (5, .int u1), (6, .int y6_24)] → W p l e { frames := fr + 10, cells := 0, slots := 0, locals := lo + 400 } s m args below meth c H locs 0 0 Q (F0 m 60 ls [])) hf ?_ ?_
          · intro w5 hf H locs ls hP hS hl
            refine lv_iinc (v := (y6_24 + 1)) (lv' := [(6, .int (y6_24 + 1)), (0, .ref a_t), (1, .int x1), (2, .int x2), (3, .long x3), (5, .int u1)]) hx hb dX6_oneGoes_60 hl (k := 5) rfl rfl (by decide) rfl (fun ls hl => ?_)
            refine lv_goto (tgt := 24) hx hb dX6_oneGoes_63 (by decide) ?_
            exact ih (y6_24 + 1) w5.1 w5.2.1 w5.2.2.1 w5.2.2.2.1 w5.2.2.2.2 _ _ _ _ hf hP hS (lv_sub hl [1, 2, 3, 4, 5, 0] rfl) kk
          · intro J60_6 hf
            refine lv_if_eq (tgt := 60) hx hb dX6_oneGoes_37 (by decide) (fun c7 => ?_) (fun c7 => ?_)
            · have hf := ob_tk c7 hf
              exact J60_6 (z_turnedAway_24, z_sitters_set_24, z_sitters_bear_24, z_sitters_nearest_24, z_odds_24) hf _ _ _ hP hS (lv_sub hl [0, 1, 2, 3, 4, 5] rfl)
            · have hf := ob_fk c7 hf
              refine lv_aload_n hx hb dX6_oneGoes_40 rfl (lv_at hl 0 rfl) ?_
              refine lv_iload_n hx hb dX6_oneGoes_41 rfl (lv_at hl 1 rfl) ?_
              refine lv_iconst (v := 1) hx hb dX6_oneGoes_42 (by decide) ?_
              refine lv_iload hx hb dX6_oneGoes_43 (lv_at hl 5 rfl) ?_
              refine lv_ishl hx hb dX6_oneGoes_45 ?_
              refine lv_iconst (v := (-1)) hx hb dX6_oneGoes_46 (by decide) ?_
              refine lv_ixor hx hb dX6_oneGoes_47 ?_
              refine lv_iand hx hb dX6_oneGoes_48 ?_
              refine lv_iload_n hx hb dX6_oneGoes_49 rfl (lv_at hl 2 rfl) ?_
              refine lv_iconst (v := 1) hx hb dX6_oneGoes_50 (by decide) ?_
              refine lv_isub hx hb dX6_oneGoes_51 ?_
              refine lv_lload_n hx hb dX6_oneGoes_52 rfl (lv_at hl 3 rfl) ?_
              refine lv_iload hx hb dX6_oneGoes_53 (lv_at hl 4 rfl) ?_
              refine lv_i2l (v := (u1).toInt64) hx hb dX6_oneGoes_55 rfl ?_
              obtain ⟨u8, hu8, hf⟩ := ob_bk hf
              refine ba_ldiv hx hb hu8 dX6_oneGoes_56 ?_
              obtain ⟨u9, hu9, hf⟩ := ob_bk hf
              refine iv_X6_38 (As := [.int (x1 &&& (((1 : Int32) <<< (y6_24 &&& 31)) ^^^ (-1 : Int32))), .int (x2 - (1 : Int32)), .long u8]) (rest := []) (is := [0, 1, 2, 3, 4, 5, 6, 7, 8]) (q0 := 0) (X' := [(a_t, .inr (6, [.ref a_sitters, .ref a_odds, .long u9.1, .long v_parts, .int v_habit])), (a_sitters, .inr (9, [.ref a_sitters_bench, .ref a_sitters_nearest, .int u9.2.1, .int u9.2.2.1])), (a_sitters_bench, .inr (0, [.ref a_sitters_bench_scene, .ref a_sitters_bench_apart, .ref a_sitters_bench_clash, .ref a_sitters_bench_neighbours])), (a_sitters_bench_scene, .inr (7, [.ref a_sitters_bench_scene_steps, .ref a_sitters_bench_scene_worths, .ref a_sitters_bench_scene_comers, .ref a_sitters_bench_scene_seen, .ref a_sitters_bench_scene_seenLengths, .int v_sitters_bench_scene_seats, .int v_sitters_bench_scene_bear, .int v_sitters_bench_scene_comerCount, .int v_sitters_bench_scene_seenRows])), (a_sitters_nearest, eI cI 12 u9.2.2.2.1), (a_sitters_bench_apart, eI cI 144 v_sitters_bench_apart), (a_sitters_bench_scene_worths, eI cI 12 v_sitters_bench_scene_worths), (a_sitters_bench_neighbours, eI cI 12 v_sitters_bench_neighbours), (a_odds, eJ cJ 13 u9.2.2.2.2)]) Cx (hgo z_turnedAway_24 v_parts v_habit z_sitters_set_24 z_sitters_bear_24 v_sitters_bench_scene_seats v_sitters_bench_scene_bear v_sitters_bench_scene_comerCount v_sitters_bench_scene_seenRows z_sitters_nearest_24 v_sitters_bench_apart v_sitters_bench_scene_worths v_sitters_bench_neighbours z_odds_24 (x1 &&& (((1 : Int32) <<< (y6_24 &&& 31)) ^^^ (-1 : Int32))) (x2 - (1 : Int32)) u8 u9 hu9) hP hS rfl rfl rfl rfl rfl rfl rfl hl.1 (Nat.le_of_ble_eq_true rfl) dX6_oneGoes_57 rfl rfl ⟨by dsimp only; omega, by dsimp only; omega⟩ ⟨Nat.zero_le _, Nat.zero_le _⟩ rfl (fun H locs hP hS => ?_)
              exact J60_6 (u9.1, u9.2.1, u9.2.2.1, u9.2.2.2.1, u9.2.2.2.2) hf _ _ _ hP hS (lv_sub hl [0, 1, 2, 3, 4, 5] rfl)
    obtain ⟨u10, hu10, hf⟩ := ob_b hf
    refine L24_3 FU (0 : Int32) v_turnedAway v_sitters_set v_sitters_bear v_sitters_nearest v_odds u10 _ _ _ hu10 hP hS (lv_sub hl [2, 3, 4, 5, 1, 0] rfl) ?_
    intro H locs ls hP hS hl
    obtain rfl := Option.some.inj hf
    exact ret _ _ _ _ dX6_oneGoes_66 hP hS
  · have hf := ob_t c2 hf
    refine lv_aload_n hx hb dX6_oneGoes_11 rfl (lv_at hl 1 rfl) ?_
    refine lv_iload_n hx hb dX6_oneGoes_12 rfl (lv_at hl 2 rfl) ?_
    refine lv_iload_n hx hb dX6_oneGoes_13 rfl (lv_at hl 3 rfl) ?_
    refine lv_iconst (v := 1) hx hb dX6_oneGoes_14 (by decide) ?_
    refine lv_isub hx hb dX6_oneGoes_15 ?_
    refine lv_lload_n hx hb dX6_oneGoes_16 rfl (lv_at hl 4 rfl) ?_
    obtain ⟨u11, hu11, hf⟩ := ob_b hf
    refine iv_X6_38 (As := [.int x1, .int (x2 - (1 : Int32)), .long x3]) (rest := []) (is := [0, 1, 2, 3, 4, 5, 6, 7, 8]) (q0 := 0) (X' := [(a_t, .inr (6, [.ref a_sitters, .ref a_odds, .long u11.1, .long v_parts, .int v_habit])), (a_sitters, .inr (9, [.ref a_sitters_bench, .ref a_sitters_nearest, .int u11.2.1, .int u11.2.2.1])), (a_sitters_bench, .inr (0, [.ref a_sitters_bench_scene, .ref a_sitters_bench_apart, .ref a_sitters_bench_clash, .ref a_sitters_bench_neighbours])), (a_sitters_bench_scene, .inr (7, [.ref a_sitters_bench_scene_steps, .ref a_sitters_bench_scene_worths, .ref a_sitters_bench_scene_comers, .ref a_sitters_bench_scene_seen, .ref a_sitters_bench_scene_seenLengths, .int v_sitters_bench_scene_seats, .int v_sitters_bench_scene_bear, .int v_sitters_bench_scene_comerCount, .int v_sitters_bench_scene_seenRows])), (a_sitters_nearest, eI cI 12 u11.2.2.2.1), (a_sitters_bench_apart, eI cI 144 v_sitters_bench_apart), (a_sitters_bench_scene_worths, eI cI 12 v_sitters_bench_scene_worths), (a_sitters_bench_neighbours, eI cI 12 v_sitters_bench_neighbours), (a_odds, eJ cJ 13 u11.2.2.2.2)]) Cx (hgo v_turnedAway v_parts v_habit v_sitters_set v_sitters_bear v_sitters_bench_scene_seats v_sitters_bench_scene_bear v_sitters_bench_scene_comerCount v_sitters_bench_scene_seenRows v_sitters_nearest v_sitters_bench_apart v_sitters_bench_scene_worths v_sitters_bench_neighbours v_odds x1 (x2 - (1 : Int32)) x3 u11 hu11) hP hS rfl rfl rfl rfl rfl rfl rfl hl.1 (Nat.le_of_ble_eq_true rfl) dX6_oneGoes_17 rfl rfl ⟨by dsimp only; omega, by dsimp only; omega⟩ ⟨Nat.zero_le _, Nat.zero_le _⟩ rfl (fun H locs hP hS => ?_)
    obtain rfl := Option.some.inj hf
    exact ret _ _ _ _ dX6_oneGoes_20 hP hS

def f_X6_go (gF : Int64 → Int32 → Int32 → Int32 → Int32 → Int32 → (Nat → Int32) → (Nat → Int32) → (Nat → Int32) → (Nat → Int32) → (Nat → Int64) → Int32 → Int32 → Int64 → Option (Int64 × Int32 × Int32 × (Nat → Int32) × (Nat → Int64))) (v_turnedAway : Int64) (v_habit : Int32) (v_sitters_set : Int32) (v_sitters_bear : Int32) (v_sitters_bench_scene_seats : Int32) (v_sitters_bench_scene_bear : Int32) (v_sitters_nearest : Nat → Int32) (v_sitters_bench_apart : Nat → Int32) (v_sitters_bench_scene_worths : Nat → Int32) (v_sitters_bench_neighbours : Nat → Int32) (v_odds : Nat → Int64) (x1 : Int32) (x2 : Int32) (x3 : Int64) : Option (Int64 × Int32 × Int32 × (Nat → Int32) × (Nat → Int64)) :=
  if 0 < x2 then
  (odivL x3 (2 : Int64)).bind (fun u2 =>
  (f_X6_oneComes gF v_turnedAway v_habit v_sitters_bench_scene_seats v_sitters_bench_scene_bear v_sitters_nearest v_sitters_bench_apart v_sitters_bench_scene_worths v_sitters_bench_neighbours v_odds x1 x2 u2).bind (fun u3 =>
  (odivL x3 (2 : Int64)).bind (fun u4 =>
  (f_X6_oneGoes gF u3.1 v_habit u3.2.1 u3.2.2.1 v_sitters_bench_scene_seats v_sitters_bench_scene_bear u3.2.2.2.1 v_sitters_bench_apart v_sitters_bench_scene_worths v_sitters_bench_neighbours u3.2.2.2.2 x1 x2 u4).bind (fun u5 =>
  some (u5.1, u5.2.1, u5.2.2.1, u5.2.2.2.1, u5.2.2.2.2)))))
  else
  (f_J6_bitCount_0f7a4 x1).bind (fun u6 =>
  (aget 13 v_odds u6).bind (fun u7 =>
  (asetL 13 v_odds u6 (u7 + x3)).bind (fun u8 =>
  some (v_turnedAway, v_sitters_set, v_sitters_bear, v_sitters_nearest, u8))))
set_option maxHeartbeats 4000000 in
set_option maxRecDepth 100000 in
theorem c_X6_go (l : Launch) (D : va_G) (cI cJ cZ cO : ClassId) (a_t a_sitters a_odds a_sitters_bench a_sitters_nearest a_sitters_bench_scene a_sitters_bench_apart a_sitters_bench_clash a_sitters_bench_neighbours a_sitters_bench_scene_steps a_sitters_bench_scene_worths a_sitters_bench_scene_comers a_sitters_bench_scene_seen a_sitters_bench_scene_seenLengths : Nat) (gF : Int64 → Int32 → Int32 → Int32 → Int32 → Int32 → (Nat → Int32) → (Nat → Int32) → (Nat → Int32) → (Nat → Int32) → (Nat → Int64) → Int32 → Int32 → Int64 → Option (Int64 × Int32 × Int32 × (Nat → Int32) × (Nat → Int64))) (fr lo : Nat) (hgo : ∀ (v_turnedAway : Int64) (v_parts : Int64) (v_habit : Int32) (v_sitters_set : Int32) (v_sitters_bear : Int32) (v_sitters_bench_scene_seats : Int32) (v_sitters_bench_scene_bear : Int32) (v_sitters_bench_scene_comerCount : Int32) (v_sitters_bench_scene_seenRows : Int32) (v_sitters_nearest : Nat → Int32) (v_sitters_bench_apart : Nat → Int32) (v_sitters_bench_scene_worths : Nat → Int32) (v_sitters_bench_neighbours : Nat → Int32) (v_odds : Nat → Int64) (x1 : Int32) (x2 : Int32) (x3 : Int64) (out : Int64 × Int32 × Int32 × (Nat → Int32) × (Nat → Int64)), gF v_turnedAway v_habit v_sitters_set v_sitters_bear v_sitters_bench_scene_seats v_sitters_bench_scene_bear v_sitters_nearest v_sitters_bench_apart v_sitters_bench_scene_worths v_sitters_bench_neighbours v_odds x1 x2 x3 = some out → MetR l yX6_go (Cond.code yX6_go cX6_go 5 none :: tbG) { frames := fr, cells := 0, slots := 0, locals := lo } D (tyL cI cJ cZ cO) [.ref a_t, .int x1, .int x2, .long x3] [(a_t, .inr (6, [.ref a_sitters, .ref a_odds, .long v_turnedAway, .long v_parts, .int v_habit])), (a_sitters, .inr (9, [.ref a_sitters_bench, .ref a_sitters_nearest, .int v_sitters_set, .int v_sitters_bear])), (a_sitters_bench, .inr (0, [.ref a_sitters_bench_scene, .ref a_sitters_bench_apart, .ref a_sitters_bench_clash, .ref a_sitters_bench_neighbours])), (a_sitters_bench_scene, .inr (7, [.ref a_sitters_bench_scene_steps, .ref a_sitters_bench_scene_worths, .ref a_sitters_bench_scene_comers, .ref a_sitters_bench_scene_seen, .ref a_sitters_bench_scene_seenLengths, .int v_sitters_bench_scene_seats, .int v_sitters_bench_scene_bear, .int v_sitters_bench_scene_comerCount, .int v_sitters_bench_scene_seenRows])), (a_sitters_nearest, eI cI 12 v_sitters_nearest), (a_sitters_bench_apart, eI cI 144 v_sitters_bench_apart), (a_sitters_bench_scene_worths, eI cI 12 v_sitters_bench_scene_worths), (a_sitters_bench_neighbours, eI cI 12 v_sitters_bench_neighbours), (a_odds, eJ cJ 13 v_odds)] none [(a_t, .inr (6, [.ref a_sitters, .ref a_odds, .long out.1, .long v_parts, .int v_habit])), (a_sitters, .inr (9, [.ref a_sitters_bench, .ref a_sitters_nearest, .int out.2.1, .int out.2.2.1])), (a_sitters_bench, .inr (0, [.ref a_sitters_bench_scene, .ref a_sitters_bench_apart, .ref a_sitters_bench_clash, .ref a_sitters_bench_neighbours])), (a_sitters_bench_scene, .inr (7, [.ref a_sitters_bench_scene_steps, .ref a_sitters_bench_scene_worths, .ref a_sitters_bench_scene_comers, .ref a_sitters_bench_scene_seen, .ref a_sitters_bench_scene_seenLengths, .int v_sitters_bench_scene_seats, .int v_sitters_bench_scene_bear, .int v_sitters_bench_scene_comerCount, .int v_sitters_bench_scene_seenRows])), (a_sitters_nearest, eI cI 12 out.2.2.2.1), (a_sitters_bench_apart, eI cI 144 v_sitters_bench_apart), (a_sitters_bench_scene_worths, eI cI 12 v_sitters_bench_scene_worths), (a_sitters_bench_neighbours, eI cI 12 v_sitters_bench_neighbours), (a_odds, eJ cJ 13 out.2.2.2.2)]) (v_turnedAway : Int64) (v_parts : Int64) (v_habit : Int32) (v_sitters_set : Int32) (v_sitters_bear : Int32) (v_sitters_bench_scene_seats : Int32) (v_sitters_bench_scene_bear : Int32) (v_sitters_bench_scene_comerCount : Int32) (v_sitters_bench_scene_seenRows : Int32) (v_sitters_nearest : Nat → Int32) (v_sitters_bench_apart : Nat → Int32) (v_sitters_bench_scene_worths : Nat → Int32) (v_sitters_bench_neighbours : Nat → Int32) (v_odds : Nat → Int64) (x1 : Int32) (x2 : Int32) (x3 : Int64) (out : Int64 × Int32 × Int32 × (Nat → Int32) × (Nat → Int64)) (hf : f_X6_go gF v_turnedAway v_habit v_sitters_set v_sitters_bear v_sitters_bench_scene_seats v_sitters_bench_scene_bear v_sitters_nearest v_sitters_bench_apart v_sitters_bench_scene_worths v_sitters_bench_neighbours v_odds x1 x2 x3 = some out) : MetR l yX6_go (Cond.code yX6_go cX6_go 5 none :: tbG) { frames := fr + 20, cells := 0, slots := 0, locals := lo + 800 } D (tyL cI cJ cZ cO) [.ref a_t, .int x1, .int x2, .long x3] [(a_t, .inr (6, [.ref a_sitters, .ref a_odds, .long v_turnedAway, .long v_parts, .int v_habit])), (a_sitters, .inr (9, [.ref a_sitters_bench, .ref a_sitters_nearest, .int v_sitters_set, .int v_sitters_bear])), (a_sitters_bench, .inr (0, [.ref a_sitters_bench_scene, .ref a_sitters_bench_apart, .ref a_sitters_bench_clash, .ref a_sitters_bench_neighbours])), (a_sitters_bench_scene, .inr (7, [.ref a_sitters_bench_scene_steps, .ref a_sitters_bench_scene_worths, .ref a_sitters_bench_scene_comers, .ref a_sitters_bench_scene_seen, .ref a_sitters_bench_scene_seenLengths, .int v_sitters_bench_scene_seats, .int v_sitters_bench_scene_bear, .int v_sitters_bench_scene_comerCount, .int v_sitters_bench_scene_seenRows])), (a_sitters_nearest, eI cI 12 v_sitters_nearest), (a_sitters_bench_apart, eI cI 144 v_sitters_bench_apart), (a_sitters_bench_scene_worths, eI cI 12 v_sitters_bench_scene_worths), (a_sitters_bench_neighbours, eI cI 12 v_sitters_bench_neighbours), (a_odds, eJ cJ 13 v_odds)] none [(a_t, .inr (6, [.ref a_sitters, .ref a_odds, .long out.1, .long v_parts, .int v_habit])), (a_sitters, .inr (9, [.ref a_sitters_bench, .ref a_sitters_nearest, .int out.2.1, .int out.2.2.1])), (a_sitters_bench, .inr (0, [.ref a_sitters_bench_scene, .ref a_sitters_bench_apart, .ref a_sitters_bench_clash, .ref a_sitters_bench_neighbours])), (a_sitters_bench_scene, .inr (7, [.ref a_sitters_bench_scene_steps, .ref a_sitters_bench_scene_worths, .ref a_sitters_bench_scene_comers, .ref a_sitters_bench_scene_seen, .ref a_sitters_bench_scene_seenLengths, .int v_sitters_bench_scene_seats, .int v_sitters_bench_scene_bear, .int v_sitters_bench_scene_comerCount, .int v_sitters_bench_scene_seenRows])), (a_sitters_nearest, eI cI 12 out.2.2.2.1), (a_sitters_bench_apart, eI cI 144 v_sitters_bench_apart), (a_sitters_bench_scene_worths, eI cI 12 v_sitters_bench_scene_worths), (a_sitters_bench_neighbours, eI cI 12 v_sitters_bench_neighbours), (a_odds, eJ cJ 13 out.2.2.2.2)] := by
  refine ba_ofV RX6 [(0, .ref a_t), (1, .int x1), (2, .int x2), (3, .long x3)] (by decide +kernel) rfl (Nat.le_of_ble_eq_true rfl) rfl ?_
  intro p e s m args below meth c Q A Cx hP ret ls hl
  obtain ⟨⟨hx, hb, hml, hown, hts⟩, hK, hD, hA⟩ := id Cx
  have hS : va_S A s.heap s.heap [] := va_S.rf
  unfold f_X6_go at hf
  refine lv_iload_n hx hb dX6_go_0 rfl (lv_at hl 2 rfl) ?_
  refine lv_if_gt (tgt := 18) hx hb dX6_go_1 (by decide) (fun c1 => ?_) (fun c1 => ?_)
  · have hf := ob_t c1 hf
    refine lv_aload_n hx hb dX6_go_18 rfl (lv_at hl 0 rfl) ?_
    refine lv_iload_n hx hb dX6_go_19 rfl (lv_at hl 1 rfl) ?_
    refine lv_iload_n hx hb dX6_go_20 rfl (lv_at hl 2 rfl) ?_
    refine lv_lload_n hx hb dX6_go_21 rfl (lv_at hl 3 rfl) ?_
    refine lv_ldc2 hx hb hown (hts _ kw_653) dX6_go_22 ?_
    obtain ⟨u2, hu2, hf⟩ := ob_b hf
    refine ba_ldiv hx hb hu2 dX6_go_25 ?_
    obtain ⟨u3, hu3, hf⟩ := ob_b hf
    refine iv_X6_50 (As := [.int x1, .int x2, .long u2]) (rest := []) (is := [0, 1, 2, 3, 4, 5, 6, 7, 8]) (q0 := 0) (X' := [(a_t, .inr (6, [.ref a_sitters, .ref a_odds, .long u3.1, .long v_parts, .int v_habit])), (a_sitters, .inr (9, [.ref a_sitters_bench, .ref a_sitters_nearest, .int u3.2.1, .int u3.2.2.1])), (a_sitters_bench, .inr (0, [.ref a_sitters_bench_scene, .ref a_sitters_bench_apart, .ref a_sitters_bench_clash, .ref a_sitters_bench_neighbours])), (a_sitters_bench_scene, .inr (7, [.ref a_sitters_bench_scene_steps, .ref a_sitters_bench_scene_worths, .ref a_sitters_bench_scene_comers, .ref a_sitters_bench_scene_seen, .ref a_sitters_bench_scene_seenLengths, .int v_sitters_bench_scene_seats, .int v_sitters_bench_scene_bear, .int v_sitters_bench_scene_comerCount, .int v_sitters_bench_scene_seenRows])), (a_sitters_nearest, eI cI 12 u3.2.2.2.1), (a_sitters_bench_apart, eI cI 144 v_sitters_bench_apart), (a_sitters_bench_scene_worths, eI cI 12 v_sitters_bench_scene_worths), (a_sitters_bench_neighbours, eI cI 12 v_sitters_bench_neighbours), (a_odds, eJ cJ 13 u3.2.2.2.2)]) Cx (c_X6_oneComes l D cI cJ cZ cO a_t a_sitters a_odds a_sitters_bench a_sitters_nearest a_sitters_bench_scene a_sitters_bench_apart a_sitters_bench_clash a_sitters_bench_neighbours a_sitters_bench_scene_steps a_sitters_bench_scene_worths a_sitters_bench_scene_comers a_sitters_bench_scene_seen a_sitters_bench_scene_seenLengths gF fr lo hgo v_turnedAway v_parts v_habit v_sitters_set v_sitters_bear v_sitters_bench_scene_seats v_sitters_bench_scene_bear v_sitters_bench_scene_comerCount v_sitters_bench_scene_seenRows v_sitters_nearest v_sitters_bench_apart v_sitters_bench_scene_worths v_sitters_bench_neighbours v_odds x1 x2 u2 u3 hu3) hP hS rfl rfl rfl rfl rfl rfl rfl hl.1 (Nat.le_of_ble_eq_true rfl) dX6_go_26 rfl rfl ⟨by dsimp only; omega, by dsimp only; omega⟩ ⟨Nat.zero_le _, Nat.zero_le _⟩ rfl (fun H locs hP hS => ?_)
    refine lv_aload_n hx hb dX6_go_29 rfl (lv_at hl 0 rfl) ?_
    refine lv_iload_n hx hb dX6_go_30 rfl (lv_at hl 1 rfl) ?_
    refine lv_iload_n hx hb dX6_go_31 rfl (lv_at hl 2 rfl) ?_
    refine lv_lload_n hx hb dX6_go_32 rfl (lv_at hl 3 rfl) ?_
    refine lv_ldc2 hx hb hown (hts _ kw_653) dX6_go_33 ?_
    obtain ⟨u4, hu4, hf⟩ := ob_b hf
    refine ba_ldiv hx hb hu4 dX6_go_36 ?_
    obtain ⟨u5, hu5, hf⟩ := ob_b hf
    refine iv_X6_53 (As := [.int x1, .int x2, .long u4]) (rest := []) (is := [0, 1, 2, 3, 4, 5, 6, 7, 8]) (q0 := 0) (X' := [(a_t, .inr (6, [.ref a_sitters, .ref a_odds, .long u5.1, .long v_parts, .int v_habit])), (a_sitters, .inr (9, [.ref a_sitters_bench, .ref a_sitters_nearest, .int u5.2.1, .int u5.2.2.1])), (a_sitters_bench, .inr (0, [.ref a_sitters_bench_scene, .ref a_sitters_bench_apart, .ref a_sitters_bench_clash, .ref a_sitters_bench_neighbours])), (a_sitters_bench_scene, .inr (7, [.ref a_sitters_bench_scene_steps, .ref a_sitters_bench_scene_worths, .ref a_sitters_bench_scene_comers, .ref a_sitters_bench_scene_seen, .ref a_sitters_bench_scene_seenLengths, .int v_sitters_bench_scene_seats, .int v_sitters_bench_scene_bear, .int v_sitters_bench_scene_comerCount, .int v_sitters_bench_scene_seenRows])), (a_sitters_nearest, eI cI 12 u5.2.2.2.1), (a_sitters_bench_apart, eI cI 144 v_sitters_bench_apart), (a_sitters_bench_scene_worths, eI cI 12 v_sitters_bench_scene_worths), (a_sitters_bench_neighbours, eI cI 12 v_sitters_bench_neighbours), (a_odds, eJ cJ 13 u5.2.2.2.2)]) Cx (c_X6_oneGoes l D cI cJ cZ cO a_t a_sitters a_odds a_sitters_bench a_sitters_nearest a_sitters_bench_scene a_sitters_bench_apart a_sitters_bench_clash a_sitters_bench_neighbours a_sitters_bench_scene_steps a_sitters_bench_scene_worths a_sitters_bench_scene_comers a_sitters_bench_scene_seen a_sitters_bench_scene_seenLengths gF fr lo hgo u3.1 v_parts v_habit u3.2.1 u3.2.2.1 v_sitters_bench_scene_seats v_sitters_bench_scene_bear v_sitters_bench_scene_comerCount v_sitters_bench_scene_seenRows u3.2.2.2.1 v_sitters_bench_apart v_sitters_bench_scene_worths v_sitters_bench_neighbours u3.2.2.2.2 x1 x2 u4 u5 hu5) hP hS rfl rfl rfl rfl rfl rfl rfl hl.1 (Nat.le_of_ble_eq_true rfl) dX6_go_37 rfl rfl ⟨by dsimp only; omega, by dsimp only; omega⟩ ⟨Nat.zero_le _, Nat.zero_le _⟩ rfl (fun H locs hP hS => ?_)
    obtain rfl := Option.some.inj hf
    exact ret _ _ _ _ dX6_go_40 hP hS
  · have hf := ob_f c1 hf
    refine lv_aload_n hx hb dX6_go_4 rfl (lv_at hl 0 rfl) ?_
    refine gf_X6_15 Cx hP 0 rfl rfl dX6_go_5 ?_
    refine lv_iload_n hx hb dX6_go_8 rfl (lv_at hl 1 rfl) ?_
    obtain ⟨u6, hu6, hf⟩ := ob_b hf
    refine iv_X6_42 (As := [.int x1]) (rest := [.ref a_odds]) (is := []) (X' := [(a_t, .inr (6, [.ref a_sitters, .ref a_odds, .long v_turnedAway, .long v_parts, .int v_habit])), (a_sitters, .inr (9, [.ref a_sitters_bench, .ref a_sitters_nearest, .int v_sitters_set, .int v_sitters_bear])), (a_sitters_bench, .inr (0, [.ref a_sitters_bench_scene, .ref a_sitters_bench_apart, .ref a_sitters_bench_clash, .ref a_sitters_bench_neighbours])), (a_sitters_bench_scene, .inr (7, [.ref a_sitters_bench_scene_steps, .ref a_sitters_bench_scene_worths, .ref a_sitters_bench_scene_comers, .ref a_sitters_bench_scene_seen, .ref a_sitters_bench_scene_seenLengths, .int v_sitters_bench_scene_seats, .int v_sitters_bench_scene_bear, .int v_sitters_bench_scene_comerCount, .int v_sitters_bench_scene_seenRows])), (a_sitters_nearest, eI cI 12 v_sitters_nearest), (a_sitters_bench_apart, eI cI 144 v_sitters_bench_apart), (a_sitters_bench_scene_worths, eI cI 12 v_sitters_bench_scene_worths), (a_sitters_bench_neighbours, eI cI 12 v_sitters_bench_neighbours), (a_odds, eJ cJ 13 v_odds)]) Cx (c_J6_bitCount_0f7a4 l D cI cJ cZ cO  x1 u6 hu6) hP hS rfl rfl rfl rfl rfl rfl hl.1 (Nat.le_of_ble_eq_true rfl) dX6_go_9 rfl rfl ⟨by dsimp only; omega, by dsimp only; omega⟩ ⟨Nat.zero_le _, Nat.zero_le _⟩ rfl (fun H locs hP hS => ?_)
    refine lv_dup2_11 hx hb dX6_go_12 rfl rfl ?_
    obtain ⟨u7, hu7, hf⟩ := ob_b hf
    refine ba_lald Cx hP 8 rfl hu7 dX6_go_13 ?_
    refine lv_lload_n hx hb dX6_go_14 rfl (lv_at hl 3 rfl) ?_
    refine lv_ladd hx hb dX6_go_15 ?_
    obtain ⟨u8, hu8, hf⟩ := ob_b hf
    refine ba_last (X' := [(a_t, .inr (6, [.ref a_sitters, .ref a_odds, .long v_turnedAway, .long v_parts, .int v_habit])), (a_sitters, .inr (9, [.ref a_sitters_bench, .ref a_sitters_nearest, .int v_sitters_set, .int v_sitters_bear])), (a_sitters_bench, .inr (0, [.ref a_sitters_bench_scene, .ref a_sitters_bench_apart, .ref a_sitters_bench_clash, .ref a_sitters_bench_neighbours])), (a_sitters_bench_scene, .inr (7, [.ref a_sitters_bench_scene_steps, .ref a_sitters_bench_scene_worths, .ref a_sitters_bench_scene_comers, .ref a_sitters_bench_scene_seen, .ref a_sitters_bench_scene_seenLengths, .int v_sitters_bench_scene_seats, .int v_sitters_bench_scene_bear, .int v_sitters_bench_scene_comerCount, .int v_sitters_bench_scene_seenRows])), (a_sitters_nearest, eI cI 12 v_sitters_nearest), (a_sitters_bench_apart, eI cI 144 v_sitters_bench_apart), (a_sitters_bench_scene_worths, eI cI 12 v_sitters_bench_scene_worths), (a_sitters_bench_neighbours, eI cI 12 v_sitters_bench_neighbours), (a_odds, eJ cJ 13 u8)]) Cx hP hS rfl 8 rfl rfl hu8 dX6_go_16 (fun H locs hP hS => ?_)
    obtain rfl := Option.some.inj hf
    exact ret _ _ _ _ dX6_go_17 hP hS

def goN : Nat → Int64 → Int32 → Int32 → Int32 → Int32 → Int32 → (Nat → Int32) → (Nat → Int32) → (Nat → Int32) → (Nat → Int32) → (Nat → Int64) → Int32 → Int32 → Int64 → Option (Int64 × Int32 × Int32 × (Nat → Int32) × (Nat → Int64))
  | 0 => fun _ _ _ _ _ _ _ _ _ _ _ _ _ _ => none
  | n + 1 => f_X6_go (goN n)
theorem c_goN (l : Launch) (D : va_G) (cI cJ cZ cO : ClassId) (a_t a_sitters a_odds a_sitters_bench a_sitters_nearest a_sitters_bench_scene a_sitters_bench_apart a_sitters_bench_clash a_sitters_bench_neighbours a_sitters_bench_scene_steps a_sitters_bench_scene_worths a_sitters_bench_scene_comers a_sitters_bench_scene_seen a_sitters_bench_scene_seenLengths : Nat) : ∀ (n : Nat) (v_turnedAway : Int64) (v_parts : Int64) (v_habit : Int32) (v_sitters_set : Int32) (v_sitters_bear : Int32) (v_sitters_bench_scene_seats : Int32) (v_sitters_bench_scene_bear : Int32) (v_sitters_bench_scene_comerCount : Int32) (v_sitters_bench_scene_seenRows : Int32) (v_sitters_nearest : Nat → Int32) (v_sitters_bench_apart : Nat → Int32) (v_sitters_bench_scene_worths : Nat → Int32) (v_sitters_bench_neighbours : Nat → Int32) (v_odds : Nat → Int64) (x1 : Int32) (x2 : Int32) (x3 : Int64) (out : Int64 × Int32 × Int32 × (Nat → Int32) × (Nat → Int64)) (hf : goN n v_turnedAway v_habit v_sitters_set v_sitters_bear v_sitters_bench_scene_seats v_sitters_bench_scene_bear v_sitters_nearest v_sitters_bench_apart v_sitters_bench_scene_worths v_sitters_bench_neighbours v_odds x1 x2 x3 = some out), MetR l yX6_go (Cond.code yX6_go cX6_go 5 none :: tbG) { frames := 20 * n, cells := 0, slots := 0, locals := 800 * n } D (tyL cI cJ cZ cO) [.ref a_t, .int x1, .int x2, .long x3] [(a_t, .inr (6, [.ref a_sitters, .ref a_odds, .long v_turnedAway, .long v_parts, .int v_habit])), (a_sitters, .inr (9, [.ref a_sitters_bench, .ref a_sitters_nearest, .int v_sitters_set, .int v_sitters_bear])), (a_sitters_bench, .inr (0, [.ref a_sitters_bench_scene, .ref a_sitters_bench_apart, .ref a_sitters_bench_clash, .ref a_sitters_bench_neighbours])), (a_sitters_bench_scene, .inr (7, [.ref a_sitters_bench_scene_steps, .ref a_sitters_bench_scene_worths, .ref a_sitters_bench_scene_comers, .ref a_sitters_bench_scene_seen, .ref a_sitters_bench_scene_seenLengths, .int v_sitters_bench_scene_seats, .int v_sitters_bench_scene_bear, .int v_sitters_bench_scene_comerCount, .int v_sitters_bench_scene_seenRows])), (a_sitters_nearest, eI cI 12 v_sitters_nearest), (a_sitters_bench_apart, eI cI 144 v_sitters_bench_apart), (a_sitters_bench_scene_worths, eI cI 12 v_sitters_bench_scene_worths), (a_sitters_bench_neighbours, eI cI 12 v_sitters_bench_neighbours), (a_odds, eJ cJ 13 v_odds)] none [(a_t, .inr (6, [.ref a_sitters, .ref a_odds, .long out.1, .long v_parts, .int v_habit])), (a_sitters, .inr (9, [.ref a_sitters_bench, .ref a_sitters_nearest, .int out.2.1, .int out.2.2.1])), (a_sitters_bench, .inr (0, [.ref a_sitters_bench_scene, .ref a_sitters_bench_apart, .ref a_sitters_bench_clash, .ref a_sitters_bench_neighbours])), (a_sitters_bench_scene, .inr (7, [.ref a_sitters_bench_scene_steps, .ref a_sitters_bench_scene_worths, .ref a_sitters_bench_scene_comers, .ref a_sitters_bench_scene_seen, .ref a_sitters_bench_scene_seenLengths, .int v_sitters_bench_scene_seats, .int v_sitters_bench_scene_bear, .int v_sitters_bench_scene_comerCount, .int v_sitters_bench_scene_seenRows])), (a_sitters_nearest, eI cI 12 out.2.2.2.1), (a_sitters_bench_apart, eI cI 144 v_sitters_bench_apart), (a_sitters_bench_scene_worths, eI cI 12 v_sitters_bench_scene_worths), (a_sitters_bench_neighbours, eI cI 12 v_sitters_bench_neighbours), (a_odds, eJ cJ 13 out.2.2.2.2)] := by
  intro n
  induction n with
  | zero => intro v_turnedAway v_parts v_habit v_sitters_set v_sitters_bear v_sitters_bench_scene_seats v_sitters_bench_scene_bear v_sitters_bench_scene_comerCount v_sitters_bench_scene_seenRows v_sitters_nearest v_sitters_bench_apart v_sitters_bench_scene_worths v_sitters_bench_neighbours v_odds x1 x2 x3 out hf; exact (ob_n hf).elim
  | succ n ih => intro v_turnedAway v_parts v_habit v_sitters_set v_sitters_bear v_sitters_bench_scene_seats v_sitters_bench_scene_bear v_sitters_bench_scene_comerCount v_sitters_bench_scene_seenRows v_sitters_nearest v_sitters_bench_apart v_sitters_bench_scene_worths v_sitters_bench_neighbours v_odds x1 x2 x3 out hf; exact c_X6_go l D cI cJ cZ cO a_t a_sitters a_odds a_sitters_bench a_sitters_nearest a_sitters_bench_scene a_sitters_bench_apart a_sitters_bench_clash a_sitters_bench_neighbours a_sitters_bench_scene_steps a_sitters_bench_scene_worths a_sitters_bench_scene_comers a_sitters_bench_scene_seen a_sitters_bench_scene_seenLengths (goN n) (20 * n) (800 * n) ih v_turnedAway v_parts v_habit v_sitters_set v_sitters_bear v_sitters_bench_scene_seats v_sitters_bench_scene_bear v_sitters_bench_scene_comerCount v_sitters_bench_scene_seenRows v_sitters_nearest v_sitters_bench_apart v_sitters_bench_scene_worths v_sitters_bench_neighbours v_odds x1 x2 x3 out hf

def f_X0_walkOn_17 (v_scene_seats : Int32) (v_scene_steps : Nat → Int32) (x1 : Int32) (x2 : Int32) : Nat → Int32 → Int32 → Int32 → (Nat → Int32) → Option (((Nat → Int32)) ⊕ ((Nat → Int32)))
  | 0, _, _, _, _ => none
  | n + 1, y4_17, y5_17, y6_17, z_apart_17 =>
  if v_scene_seats ≤ y6_17 then
  some (Sum.inl (z_apart_17))
  else
  (if ((x2 >>> (y4_17 &&& 31)) &&& (1 : Int32)) = 0 then
  some (0 : Int32)
  else
  some (1 : Int32)).bind (fun w3 =>
  if w3 = 0 then
  (aget 12 v_scene_steps y4_17).bind (fun u6 =>
  if u6 = 0 then
  some (Sum.inr (z_apart_17))
  else
  (aget 12 v_scene_steps y4_17).bind (fun u8 =>
  (if v_scene_seats ≤ (y4_17 + (1 : Int32)) then
  some (0 : Int32)
  else
  some (y4_17 + (1 : Int32))).bind (fun w9 =>
  (aget 144 z_apart_17 ((x1 * (12 : Int32)) + w9)).bind (fun u11 =>
  (if u11 ≤ (y5_17 + u8) then
  some (z_apart_17)
  else
  (asetI 144 z_apart_17 ((x1 * (12 : Int32)) + w9) (y5_17 + u8)).bind (fun u15 =>
  (asetI 144 u15 ((w9 * (12 : Int32)) + x1) (y5_17 + u8)).bind (fun u16 =>
  some (u16)))).bind (fun w12 =>
  f_X0_walkOn_17 v_scene_seats v_scene_steps x1 x2 n w9 (y5_17 + u8) (y6_17 + 1) w12)))))
  else
  some (Sum.inr (z_apart_17)))
theorem f_X0_walkOn_17_s (v_scene_seats : Int32) (v_scene_steps : Nat → Int32) (x1 : Int32) (x2 : Int32) (n : Nat) (y4_17 : Int32) (y5_17 : Int32) (y6_17 : Int32) (z_apart_17 : Nat → Int32) : f_X0_walkOn_17 v_scene_seats v_scene_steps x1 x2 (n + 1) y4_17 y5_17 y6_17 z_apart_17 =
  (if v_scene_seats ≤ y6_17 then
  some (Sum.inl (z_apart_17))
  else
  (if ((x2 >>> (y4_17 &&& 31)) &&& (1 : Int32)) = 0 then
  some (0 : Int32)
  else
  some (1 : Int32)).bind (fun w3 =>
  if w3 = 0 then
  (aget 12 v_scene_steps y4_17).bind (fun u6 =>
  if u6 = 0 then
  some (Sum.inr (z_apart_17))
  else
  (aget 12 v_scene_steps y4_17).bind (fun u8 =>
  (if v_scene_seats ≤ (y4_17 + (1 : Int32)) then
  some (0 : Int32)
  else
  some (y4_17 + (1 : Int32))).bind (fun w9 =>
  (aget 144 z_apart_17 ((x1 * (12 : Int32)) + w9)).bind (fun u11 =>
  (if u11 ≤ (y5_17 + u8) then
  some (z_apart_17)
  else
  (asetI 144 z_apart_17 ((x1 * (12 : Int32)) + w9) (y5_17 + u8)).bind (fun u15 =>
  (asetI 144 u15 ((w9 * (12 : Int32)) + x1) (y5_17 + u8)).bind (fun u16 =>
  some (u16)))).bind (fun w12 =>
  f_X0_walkOn_17 v_scene_seats v_scene_steps x1 x2 n w9 (y5_17 + u8) (y6_17 + 1) w12)))))
  else
  some (Sum.inr (z_apart_17)))) := rfl
def f_X0_walkOn (v_scene_seats : Int32) (v_scene_steps : Nat → Int32) (v_apart : Nat → Int32) (x1 : Int32) (x2 : Int32) : Option ((Nat → Int32)) :=
  (f_X0_walkOn_17 v_scene_seats v_scene_steps x1 x2 FU x1 (0 : Int32) (1 : Int32) v_apart).bind (fun u19 => Sum.elim (fun w20 =>
  some (w20)) (fun r => some r) u19)
set_option maxHeartbeats 4000000 in
set_option maxRecDepth 100000 in
theorem c_X0_walkOn (l : Launch) (D : va_G) (cI cJ cZ cO : ClassId) (a_t a_scene a_apart a_clash a_neighbours a_scene_steps a_scene_worths a_scene_comers a_scene_seen a_scene_seenLengths : Nat) (v_scene_seats : Int32) (v_scene_bear : Int32) (v_scene_comerCount : Int32) (v_scene_seenRows : Int32) (v_scene_steps : Nat → Int32) (v_apart : Nat → Int32) (x1 : Int32) (x2 : Int32) (out : (Nat → Int32)) (hf : f_X0_walkOn v_scene_seats v_scene_steps v_apart x1 x2 = some out) : MetR l yX0_walkOn (Cond.code yX0_walkOn cX0_walkOn 8 none :: tbG) { frames := 0, cells := 0, slots := 0, locals := 0 } D (tyL cI cJ cZ cO) [.ref a_t, .int x1, .int x2] [(a_t, .inr (0, [.ref a_scene, .ref a_apart, .ref a_clash, .ref a_neighbours])), (a_scene, .inr (7, [.ref a_scene_steps, .ref a_scene_worths, .ref a_scene_comers, .ref a_scene_seen, .ref a_scene_seenLengths, .int v_scene_seats, .int v_scene_bear, .int v_scene_comerCount, .int v_scene_seenRows])), (a_scene_steps, eI cI 12 v_scene_steps), (a_apart, eI cI 144 v_apart)] none [(a_t, .inr (0, [.ref a_scene, .ref a_apart, .ref a_clash, .ref a_neighbours])), (a_scene, .inr (7, [.ref a_scene_steps, .ref a_scene_worths, .ref a_scene_comers, .ref a_scene_seen, .ref a_scene_seenLengths, .int v_scene_seats, .int v_scene_bear, .int v_scene_comerCount, .int v_scene_seenRows])), (a_scene_steps, eI cI 12 v_scene_steps), (a_apart, eI cI 144 out)] := by
  refine ba_ofV RX0 [(0, .ref a_t), (1, .int x1), (2, .int x2)] (by decide +kernel) rfl (Nat.le_of_ble_eq_true rfl) rfl ?_
  intro p e s m args below meth c Q A Cx hP ret ls hl
  obtain ⟨⟨hx, hb, hml, hown, hts⟩, hK, hD, hA⟩ := id Cx
  have hS : va_S A s.heap s.heap [] := va_S.rf
  unfold f_X0_walkOn at hf
  refine lv_aload_n hx hb dX0_walkOn_0 rfl (lv_at hl 0 rfl) ?_
  refine gf_X0_9 Cx hP 0 rfl rfl dX0_walkOn_1 ?_
  refine gf_X0_25 Cx hP 1 rfl rfl dX0_walkOn_4 ?_
  refine lv_istore_n (lv' := [(3, .int v_scene_seats), (0, .ref a_t), (1, .int x1), (2, .int x2)]) hx hb dX0_walkOn_7 rfl hl (by decide) rfl (fun ls hl => ?_)
  refine lv_iload_n hx hb dX0_walkOn_8 rfl (lv_at hl 2 rfl) ?_
  refine lv_istore (lv' := [(4, .int x1), (3, .int v_scene_seats), (0, .ref a_t), (1, .int x1), (2, .int x2)]) hx hb dX0_walkOn_9 hl (by decide) rfl (fun ls hl => ?_)
  refine lv_iconst (v := 0) hx hb dX0_walkOn_11 (by decide) ?_
  refine lv_istore (lv' := [(5, .int (0 : Int32)), (4, .int x1), (3, .int v_scene_seats), (0, .ref a_t), (1, .int x1), (2, .int x2)]) hx hb dX0_walkOn_12 hl (by decide) rfl (fun ls hl => ?_)
  refine lv_iconst (v := 1) hx hb dX0_walkOn_14 (by decide) ?_
  refine lv_istore (lv' := [(6, .int (1 : Int32)), (5, .int (0 : Int32)), (4, .int x1), (3, .int v_scene_seats), (0, .ref a_t), (1, .int x1), (2, .int x2)]) hx hb dX0_walkOn_15 hl (by decide) rfl (fun ls hl => ?_)
  have L17_1 : ∀ (n : Nat) (y4_17 : Int32) (y5_17 : Int32) (y6_17 : Int32) (z_apart_17 : Nat → Int32) (o : ((Nat → Int32)) ⊕ ((Nat → Int32))) (H : Heap) (locs : List Loc) (ls : Array Slot), f_X0_walkOn_17 v_scene_seats v_scene_steps x1 x2 n y4_17 y5_17 y6_17 z_apart_17 = some o → va_P D vwCl [(a_t, .inr (0, [.ref a_scene, .ref a_apart, .ref a_clash, .ref a_neighbours])), (a_scene, .inr (7, [.ref a_scene_steps, .ref a_scene_worths, .ref a_scene_comers, .ref a_scene_seen, .ref a_scene_seenLengths, .int v_scene_seats, .int v_scene_bear, .int v_scene_comerCount, .int v_scene_seenRows])), (a_scene_steps, eI cI 12 v_scene_steps), (a_apart, eI cI 144 z_apart_17)] H → va_S A s.heap H locs → lv_has ls 8 [(0, .ref a_t), (1, .int x1), (2, .int x2), (3, .int v_scene_seats), (4, .int y4_17), (5, .int y5_17), (6, .int y6_17)] → (∀ w, o = Sum.inl w → ∀ (H : Heap) (locs : List Loc) (ls : Array Slot), va_P D vwCl [(a_t, .inr (0, [.ref a_scene, .ref a_apart, .ref a_clash, .ref a_neighbours])), (a_scene, .inr (7, [.ref a_scene_steps, .ref a_scene_worths, .ref a_scene_comers, .ref a_scene_seen, .ref a_scene_seenLengths, .int v_scene_seats, .int v_scene_bear, .int v_scene_comerCount, .int v_scene_seenRows])), (a_scene_steps, eI cI 12 v_scene_steps), (a_apart, eI cI 144 w)] H → va_S A s.heap H locs → lv_has ls 8 [] → W p l e { frames := 0, cells := 0, slots := 0, locals := 0 } s m args below meth c H locs 0 0 Q (F0 m 142 ls [])) → (∀ r, o = Sum.inr r → ∀ (pc : Nat) (H : Heap) (locs : List Loc) (ls : Array Slot), decode cX0_walkOn pc = .ok (.return_, 1) → va_P D vwCl [(a_t, .inr (0, [.ref a_scene, .ref a_apart, .ref a_clash, .ref a_neighbours])), (a_scene, .inr (7, [.ref a_scene_steps, .ref a_scene_worths, .ref a_scene_comers, .ref a_scene_seen, .ref a_scene_seenLengths, .int v_scene_seats, .int v_scene_bear, .int v_scene_comerCount, .int v_scene_seenRows])), (a_scene_steps, eI cI 12 v_scene_steps), (a_apart, eI cI 144 r)] H → va_S A s.heap H locs → W p l e { frames := 0, cells := 0, slots := 0, locals := 0 } s m args below meth c H locs 0 0 Q (F0 m pc ls [])) → W p l e { frames := 0, cells := 0, slots := 0, locals := 0 } s m args below meth c H locs 0 0 Q (F0 m 17 ls []) := by
    intro n
    induction n with
    | zero => intro y4_17 y5_17 y6_17 z_apart_17 o H locs ls hf; exact (ob_n hf).elim
    | succ n ih =>
      intro y4_17 y5_17 y6_17 z_apart_17 o H locs ls hf hP hS hl kk kr
      rw [f_X0_walkOn_17_s] at hf
      refine lv_iload hx hb dX0_walkOn_17 (lv_at hl 6 rfl) ?_
      refine lv_iload_n hx hb dX0_walkOn_19 rfl (lv_at hl 3 rfl) ?_
      refine lv_icmp_ge (tgt := 142) hx hb dX0_walkOn_20 (by decide) (fun c2 => ?_) (fun c2 => ?_)
      · have hf := ob_t c2 hf
        obtain rfl := Option.some.inj hf
        exact kk _ rfl _ _ _ hP hS (lv_sub hl [] rfl)
      · have hf := ob_f c2 hf
        refine lv_iload_n hx hb dX0_walkOn_23 rfl (lv_at hl 2 rfl) ?_
        refine lv_iload hx hb dX0_walkOn_24 (lv_at hl 4 rfl) ?_
        refine lv_ishr hx hb dX0_walkOn_26 ?_
        refine lv_iconst (v := 1) hx hb dX0_walkOn_27 (by decide) ?_
        refine lv_iand hx hb dX0_walkOn_28 ?_
        refine ob_J (P := fun w3 => ∀ (H : Heap) (locs : List Loc) (ls : Array Slot), va_P D vwCl [(a_t, .inr (0, [.ref a_scene, .ref a_apart, .ref a_clash, .ref a_neighbours])), (a_scene, .inr (7, [.ref a_scene_steps, .ref a_scene_worths, .ref a_scene_comers, .ref a_scene_seen, .ref a_scene_seenLengths, .int v_scene_seats, .int v_scene_bear, .int v_scene_comerCount, .int v_scene_seenRows])), (a_scene_steps, eI cI 12 v_scene_steps), (a_apart, eI cI 144 z_apart_17)] H → va_S A s.heap H locs → lv_has ls 8 [(0, .ref a_t), (1, .int x1), (2, .int x2), (3, .int v_scene_seats), (4, .int y4_17), (5, .int y5_17), (6, .int y6_17)] → W p l e { frames := 0, cells := 0, slots := 0, locals := 0 } s m args below meth c H locs 0 0 Q (F0 m 37 ls [.int w3])) hf ?_ ?_
        · intro w3 hf H locs ls hP hS hl
          refine lv_istore (lv' := [(7, .int w3), (0, .ref a_t), (1, .int x1), (2, .int x2), (3, .int v_scene_seats), (4, .int y4_17), (5, .int y5_17), (6, .int y6_17)]) hx hb dX0_walkOn_37 hl (by decide) rfl (fun ls hl => ?_)
          refine lv_iload hx hb dX0_walkOn_39 (lv_at hl 0 rfl) ?_
          refine lv_if_ne (tgt := 57) hx hb dX0_walkOn_41 (by decide) (fun c5 => ?_) (fun c5 => ?_)
          · have hf := ob_f c5 hf
            obtain rfl := Option.some.inj hf
            exact kr _ rfl _ _ _ _ dX0_walkOn_57 hP hS
          · have hf := ob_t c5 hf
            refine lv_aload_n hx hb dX0_walkOn_44 rfl (lv_at hl 1 rfl) ?_
            refine gf_X0_9 Cx hP 0 rfl rfl dX0_walkOn_45 ?_
            refine gf_X0_39 Cx hP 1 rfl rfl dX0_walkOn_48 ?_
            refine lv_iload hx hb dX0_walkOn_51 (lv_at hl 5 rfl) ?_
            obtain ⟨u6, hu6, hf⟩ := ob_b hf
            refine ba_iald Cx hP 2 rfl hu6 dX0_walkOn_53 ?_
            refine lv_if_ne (tgt := 58) hx hb dX0_walkOn_54 (by decide) (fun c7 => ?_) (fun c7 => ?_)
            · have hf := ob_f c7 hf
              refine lv_iload hx hb dX0_walkOn_58 (lv_at hl 6 rfl) ?_
              refine lv_aload_n hx hb dX0_walkOn_60 rfl (lv_at hl 1 rfl) ?_
              refine gf_X0_9 Cx hP 0 rfl rfl dX0_walkOn_61 ?_
              refine gf_X0_39 Cx hP 1 rfl rfl dX0_walkOn_64 ?_
              refine lv_iload hx hb dX0_walkOn_67 (lv_at hl 5 rfl) ?_
              obtain ⟨u8, hu8, hf⟩ := ob_b hf
              refine ba_iald Cx hP 2 rfl hu8 dX0_walkOn_69 ?_
              refine lv_iadd hx hb dX0_walkOn_70 ?_
              refine lv_istore (lv' := [(5, .int (y5_17 + u8)), (7, .int w3), (0, .ref a_t), (1, .int x1), (2, .int x2), (3, .int v_scene_seats), (4, .int y4_17), (6, .int y6_17)]) hx hb dX0_walkOn_71 hl (by decide) rfl (fun ls hl => ?_)
              refine lv_iload hx hb dX0_walkOn_73 (lv_at hl 6 rfl) ?_
              refine lv_iconst (v := 1) hx hb dX0_walkOn_75 (by decide) ?_
              refine lv_iadd hx hb dX0_walkOn_76 ?_
              refine lv_iload_n hx hb dX0_walkOn_77 rfl (lv_at hl 5 rfl) ?_
              refine ob_J (P := fun w9 => ∀ (H : Heap) (locs : List Loc) (ls : Array Slot), va_P D vwCl [(a_t, .inr (0, [.ref a_scene, .ref a_apart, .ref a_clash, .ref a_neighbours])), (a_scene, .inr (7, [.ref a_scene_steps, .ref a_scene_worths, .ref a_scene_comers, .ref a_scene_seen, .ref a_scene_seenLengths, .int v_scene_seats, .int v_scene_bear, .int v_scene_comerCount, .int v_scene_seenRows])), (a_scene_steps, eI cI 12 v_scene_steps), (a_apart, eI cI 144 z_apart_17)] H → va_S A s.heap H locs → lv_has ls 8 [(0, .ref a_t), (1, .int x1), (2, .int x2), (3, .int v_scene_seats), (5, .int (y5_17 + u8)), (6, .int y6_17)] → W p l e { frames := 0, cells := 0, slots := 0, locals := 0 } s m args below meth c H locs 0 0 Q (F0 m 89 ls [.int w9])) hf ?_ ?_
              · intro w9 hf H locs ls hP hS hl
                refine lv_istore (lv' := [(4, .int w9), (0, .ref a_t), (1, .int x1), (2, .int x2), (3, .int v_scene_seats), (5, .int (y5_17 + u8)), (6, .int y6_17)]) hx hb dX0_walkOn_89 hl (by decide) rfl (fun ls hl => ?_)
                refine lv_iload hx hb dX0_walkOn_91 (lv_at hl 5 rfl) ?_
                refine lv_aload_n hx hb dX0_walkOn_93 rfl (lv_at hl 1 rfl) ?_
                refine gf_X0_15 Cx hP 0 rfl rfl dX0_walkOn_94 ?_
                refine lv_iload_n hx hb dX0_walkOn_97 rfl (lv_at hl 2 rfl) ?_
                refine lv_bipush (v := 12) hx hb dX0_walkOn_98 (by decide) ?_
                refine lv_imul hx hb dX0_walkOn_100 ?_
                refine lv_iload hx hb dX0_walkOn_101 (lv_at hl 0 rfl) ?_
                refine lv_iadd hx hb dX0_walkOn_103 ?_
                obtain ⟨u11, hu11, hf⟩ := ob_b hf
                refine ba_iald Cx hP 3 rfl hu11 dX0_walkOn_104 ?_
                refine ob_J (P := fun w12 => ∀ (H : Heap) (locs : List Loc) (ls : Array Slot), va_P D vwCl [(a_t, .inr (0, [.ref a_scene, .ref a_apart, .ref a_clash, .ref a_neighbours])), (a_scene, .inr (7, [.ref a_scene_steps, .ref a_scene_worths, .ref a_scene_comers, .ref a_scene_seen, .ref a_scene_seenLengths, .int v_scene_seats, .int v_scene_bear, .int v_scene_comerCount, .int v_scene_seenRows])), (a_scene_steps, eI cI 12 v_scene_steps), (a_apart, eI cI 144 w12)] H → va_S A s.heap H locs → lv_has ls 8 [(0, .ref a_t), (1, .int x1), (2, .int x2), (3, .int v_scene_seats), (4, .int w9), (5, .int (y5_17 + u8)), (6, .int y6_17)] → W p l e { frames := 0, cells := 0, slots := 0, locals := 0 } s m args below meth c H locs 0 0 Q (F0 m 136 ls [])) hf ?_ ?_
                · intro w12 hf H locs ls hP hS hl
                  refine lv_iinc (v := (y6_17 + 1)) (lv' := [(6, .int (y6_17 + 1)), (0, .ref a_t), (1, .int x1), (2, .int x2), (3, .int v_scene_seats), (4, .int w9), (5, .int (y5_17 + u8))]) hx hb dX0_walkOn_136 hl (k := 6) rfl rfl (by decide) rfl (fun ls hl => ?_)
                  refine lv_goto (tgt := 17) hx hb dX0_walkOn_139 (by decide) ?_
                  exact ih w9 (y5_17 + u8) (y6_17 + 1) w12 _ _ _ _ hf hP hS (lv_sub hl [1, 2, 3, 4, 5, 6, 0] rfl) kk kr
                · intro J136_13 hf
                  refine lv_icmp_ge (tgt := 136) hx hb dX0_walkOn_105 (by decide) (fun c14 => ?_) (fun c14 => ?_)
                  · have hf := ob_tk c14 hf
                    exact J136_13 z_apart_17 hf _ _ _ hP hS (lv_sub hl [1, 2, 3, 4, 0, 5, 6] rfl)
                  · have hf := ob_fk c14 hf
                    refine lv_aload_n hx hb dX0_walkOn_108 rfl (lv_at hl 1 rfl) ?_
                    refine gf_X0_15 Cx hP 0 rfl rfl dX0_walkOn_109 ?_
                    refine lv_iload_n hx hb dX0_walkOn_112 rfl (lv_at hl 2 rfl) ?_
                    refine lv_bipush (v := 12) hx hb dX0_walkOn_113 (by decide) ?_
                    refine lv_imul hx hb dX0_walkOn_115 ?_
                    refine lv_iload hx hb dX0_walkOn_116 (lv_at hl 0 rfl) ?_
                    refine lv_iadd hx hb dX0_walkOn_118 ?_
                    refine lv_iload hx hb dX0_walkOn_119 (lv_at hl 5 rfl) ?_
                    obtain ⟨u15, hu15, hf⟩ := ob_bk hf
                    refine ba_iast (X' := [(a_t, .inr (0, [.ref a_scene, .ref a_apart, .ref a_clash, .ref a_neighbours])), (a_scene, .inr (7, [.ref a_scene_steps, .ref a_scene_worths, .ref a_scene_comers, .ref a_scene_seen, .ref a_scene_seenLengths, .int v_scene_seats, .int v_scene_bear, .int v_scene_comerCount, .int v_scene_seenRows])), (a_scene_steps, eI cI 12 v_scene_steps), (a_apart, eI cI 144 u15)]) Cx hP hS rfl 3 rfl rfl hu15 dX0_walkOn_121 (fun H locs hP hS => ?_)
                    refine lv_aload_n hx hb dX0_walkOn_122 rfl (lv_at hl 1 rfl) ?_
                    refine gf_X0_15 Cx hP 0 rfl rfl dX0_walkOn_123 ?_
                    refine lv_iload hx hb dX0_walkOn_126 (lv_at hl 0 rfl) ?_
                    refine lv_bipush (v := 12) hx hb dX0_walkOn_128 (by decide) ?_
                    refine lv_imul hx hb dX0_walkOn_130 ?_
                    refine lv_iload_n hx hb dX0_walkOn_131 rfl (lv_at hl 2 rfl) ?_
                    refine lv_iadd hx hb dX0_walkOn_132 ?_
                    refine lv_iload hx hb dX0_walkOn_133 (lv_at hl 5 rfl) ?_
                    obtain ⟨u16, hu16, hf⟩ := ob_bk hf
                    refine ba_iast (X' := [(a_t, .inr (0, [.ref a_scene, .ref a_apart, .ref a_clash, .ref a_neighbours])), (a_scene, .inr (7, [.ref a_scene_steps, .ref a_scene_worths, .ref a_scene_comers, .ref a_scene_seen, .ref a_scene_seenLengths, .int v_scene_seats, .int v_scene_bear, .int v_scene_comerCount, .int v_scene_seenRows])), (a_scene_steps, eI cI 12 v_scene_steps), (a_apart, eI cI 144 u16)]) Cx hP hS rfl 3 rfl rfl hu16 dX0_walkOn_135 (fun H locs hP hS => ?_)
                    exact J136_13 u16 hf _ _ _ hP hS (lv_sub hl [1, 2, 3, 4, 0, 5, 6] rfl)
              · intro J89_10 hf
                refine lv_icmp_ge (tgt := 88) hx hb dX0_walkOn_78 (by decide) (fun c17 => ?_) (fun c17 => ?_)
                · have hf := ob_tk c17 hf
                  refine lv_iconst (v := 0) hx hb dX0_walkOn_88 (by decide) ?_
                  exact J89_10 (0 : Int32) hf _ _ _ hP hS (lv_sub hl [2, 3, 4, 5, 0, 7] rfl)
                · have hf := ob_fk c17 hf
                  refine lv_iload hx hb dX0_walkOn_81 (lv_at hl 6 rfl) ?_
                  refine lv_iconst (v := 1) hx hb dX0_walkOn_83 (by decide) ?_
                  refine lv_iadd hx hb dX0_walkOn_84 ?_
                  refine lv_goto (tgt := 89) hx hb dX0_walkOn_85 (by decide) ?_
                  exact J89_10 (y4_17 + (1 : Int32)) hf _ _ _ hP hS (lv_sub hl [2, 3, 4, 5, 0, 7] rfl)
            · have hf := ob_t c7 hf
              obtain rfl := Option.some.inj hf
              exact kr _ rfl _ _ _ _ dX0_walkOn_57 hP hS
        · intro J37_4 hf
          refine lv_if_eq (tgt := 36) hx hb dX0_walkOn_29 (by decide) (fun c18 => ?_) (fun c18 => ?_)
          · have hf := ob_tk c18 hf
            refine lv_iconst (v := 0) hx hb dX0_walkOn_36 (by decide) ?_
            exact J37_4 (0 : Int32) hf _ _ _ hP hS (lv_sub hl [0, 1, 2, 3, 4, 5, 6] rfl)
          · have hf := ob_fk c18 hf
            refine lv_iconst (v := 1) hx hb dX0_walkOn_32 (by decide) ?_
            refine lv_goto (tgt := 37) hx hb dX0_walkOn_33 (by decide) ?_
            exact J37_4 (1 : Int32) hf _ _ _ hP hS (lv_sub hl [0, 1, 2, 3, 4, 5, 6] rfl)
  obtain ⟨u19, hu19, hf⟩ := ob_b hf
  refine L17_1 FU x1 (0 : Int32) (1 : Int32) v_apart u19 _ _ _ hu19 hP hS (lv_sub hl [4, 5, 6, 3, 2, 1, 0] rfl) ?_ ?_
  · intro w20 hw H locs ls hP hS hl
    rw [hw] at hf
    have hf := ob_l hf
    obtain rfl := Option.some.inj hf
    exact ret _ _ _ _ dX0_walkOn_142 hP hS
  · intro r hr pc H locs ls hd hP hS
    rw [hr] at hf
    have hf := ob_r hf
    obtain rfl := Option.some.inj hf
    exact ret _ _ _ _ hd hP hS

def f_X0_lookRound_7 (v_scene_seats : Int32) (v_scene_bear : Int32) (v_apart : Nat → Int32) (x1 : Int32) : Nat → Int32 → Int32 → Int32 → Option (Int32 × Int32)
  | 0, _, _, _ => none
  | n + 1, y2_7, y3_7, y4_7 =>
  if v_scene_seats ≤ y4_7 then
  some (y2_7, y3_7)
  else
  (aget 144 v_apart ((x1 * (12 : Int32)) + y4_7)).bind (fun u3 =>
  (if v_scene_bear ≤ u3 then
  some (y2_7)
  else
  some (y2_7 ||| ((1 : Int32) <<< (y4_7 &&& 31)))).bind (fun w4 =>
  (if u3 = (1 : Int32) then
  some (y3_7 + 1)
  else
  some (y3_7)).bind (fun w6 =>
  f_X0_lookRound_7 v_scene_seats v_scene_bear v_apart x1 n w4 w6 (y4_7 + 1))))
theorem f_X0_lookRound_7_s (v_scene_seats : Int32) (v_scene_bear : Int32) (v_apart : Nat → Int32) (x1 : Int32) (n : Nat) (y2_7 : Int32) (y3_7 : Int32) (y4_7 : Int32) : f_X0_lookRound_7 v_scene_seats v_scene_bear v_apart x1 (n + 1) y2_7 y3_7 y4_7 =
  (if v_scene_seats ≤ y4_7 then
  some (y2_7, y3_7)
  else
  (aget 144 v_apart ((x1 * (12 : Int32)) + y4_7)).bind (fun u3 =>
  (if v_scene_bear ≤ u3 then
  some (y2_7)
  else
  some (y2_7 ||| ((1 : Int32) <<< (y4_7 &&& 31)))).bind (fun w4 =>
  (if u3 = (1 : Int32) then
  some (y3_7 + 1)
  else
  some (y3_7)).bind (fun w6 =>
  f_X0_lookRound_7 v_scene_seats v_scene_bear v_apart x1 n w4 w6 (y4_7 + 1))))) := rfl
def f_X0_lookRound (v_scene_seats : Int32) (v_scene_bear : Int32) (v_apart : Nat → Int32) (v_clash : Nat → Int32) (v_neighbours : Nat → Int32) (x1 : Int32) : Option ((Nat → Int32) × (Nat → Int32)) :=
  (f_X0_lookRound_7 v_scene_seats v_scene_bear v_apart x1 FU (0 : Int32) (0 : Int32) (0 : Int32)).bind (fun u10 =>
  (asetI 12 v_clash x1 u10.1).bind (fun u11 =>
  (asetI 12 v_neighbours x1 u10.2).bind (fun u12 =>
  some (u11, u12))))
set_option maxHeartbeats 4000000 in
set_option maxRecDepth 100000 in
theorem c_X0_lookRound (l : Launch) (D : va_G) (cI cJ cZ cO : ClassId) (a_t a_scene a_apart a_clash a_neighbours a_scene_steps a_scene_worths a_scene_comers a_scene_seen a_scene_seenLengths : Nat) (v_scene_seats : Int32) (v_scene_bear : Int32) (v_scene_comerCount : Int32) (v_scene_seenRows : Int32) (v_apart : Nat → Int32) (v_clash : Nat → Int32) (v_neighbours : Nat → Int32) (x1 : Int32) (out : (Nat → Int32) × (Nat → Int32)) (hf : f_X0_lookRound v_scene_seats v_scene_bear v_apart v_clash v_neighbours x1 = some out) : MetR l yX0_lookRound (Cond.code yX0_lookRound cX0_lookRound 6 none :: tbG) { frames := 0, cells := 0, slots := 0, locals := 0 } D (tyL cI cJ cZ cO) [.ref a_t, .int x1] [(a_t, .inr (0, [.ref a_scene, .ref a_apart, .ref a_clash, .ref a_neighbours])), (a_scene, .inr (7, [.ref a_scene_steps, .ref a_scene_worths, .ref a_scene_comers, .ref a_scene_seen, .ref a_scene_seenLengths, .int v_scene_seats, .int v_scene_bear, .int v_scene_comerCount, .int v_scene_seenRows])), (a_apart, eI cI 144 v_apart), (a_clash, eI cI 12 v_clash), (a_neighbours, eI cI 12 v_neighbours)] none [(a_t, .inr (0, [.ref a_scene, .ref a_apart, .ref a_clash, .ref a_neighbours])), (a_scene, .inr (7, [.ref a_scene_steps, .ref a_scene_worths, .ref a_scene_comers, .ref a_scene_seen, .ref a_scene_seenLengths, .int v_scene_seats, .int v_scene_bear, .int v_scene_comerCount, .int v_scene_seenRows])), (a_apart, eI cI 144 v_apart), (a_clash, eI cI 12 out.1), (a_neighbours, eI cI 12 out.2)] := by
  refine ba_ofV RX0 [(0, .ref a_t), (1, .int x1)] (by decide +kernel) rfl (Nat.le_of_ble_eq_true rfl) rfl ?_
  intro p e s m args below meth c Q A Cx hP ret ls hl
  obtain ⟨⟨hx, hb, hml, hown, hts⟩, hK, hD, hA⟩ := id Cx
  have hS : va_S A s.heap s.heap [] := va_S.rf
  unfold f_X0_lookRound at hf
  refine lv_iconst (v := 0) hx hb dX0_lookRound_0 (by decide) ?_
  refine lv_istore_n (lv' := [(2, .int (0 : Int32)), (0, .ref a_t), (1, .int x1)]) hx hb dX0_lookRound_1 rfl hl (by decide) rfl (fun ls hl => ?_)
  refine lv_iconst (v := 0) hx hb dX0_lookRound_2 (by decide) ?_
  refine lv_istore_n (lv' := [(3, .int (0 : Int32)), (2, .int (0 : Int32)), (0, .ref a_t), (1, .int x1)]) hx hb dX0_lookRound_3 rfl hl (by decide) rfl (fun ls hl => ?_)
  refine lv_iconst (v := 0) hx hb dX0_lookRound_4 (by decide) ?_
  refine lv_istore (lv' := [(4, .int (0 : Int32)), (3, .int (0 : Int32)), (2, .int (0 : Int32)), (0, .ref a_t), (1, .int x1)]) hx hb dX0_lookRound_5 hl (by decide) rfl (fun ls hl => ?_)
  have L7_1 : ∀ (n : Nat) (y2_7 : Int32) (y3_7 : Int32) (y4_7 : Int32) (o : Int32 × Int32) (H : Heap) (locs : List Loc) (ls : Array Slot), f_X0_lookRound_7 v_scene_seats v_scene_bear v_apart x1 n y2_7 y3_7 y4_7 = some o → va_P D vwCl [(a_t, .inr (0, [.ref a_scene, .ref a_apart, .ref a_clash, .ref a_neighbours])), (a_scene, .inr (7, [.ref a_scene_steps, .ref a_scene_worths, .ref a_scene_comers, .ref a_scene_seen, .ref a_scene_seenLengths, .int v_scene_seats, .int v_scene_bear, .int v_scene_comerCount, .int v_scene_seenRows])), (a_apart, eI cI 144 v_apart), (a_clash, eI cI 12 v_clash), (a_neighbours, eI cI 12 v_neighbours)] H → va_S A s.heap H locs → lv_has ls 6 [(0, .ref a_t), (1, .int x1), (2, .int y2_7), (3, .int y3_7), (4, .int y4_7)] → (∀ (H : Heap) (locs : List Loc) (ls : Array Slot), va_P D vwCl [(a_t, .inr (0, [.ref a_scene, .ref a_apart, .ref a_clash, .ref a_neighbours])), (a_scene, .inr (7, [.ref a_scene_steps, .ref a_scene_worths, .ref a_scene_comers, .ref a_scene_seen, .ref a_scene_seenLengths, .int v_scene_seats, .int v_scene_bear, .int v_scene_comerCount, .int v_scene_seenRows])), (a_apart, eI cI 144 v_apart), (a_clash, eI cI 12 v_clash), (a_neighbours, eI cI 12 v_neighbours)] H → va_S A s.heap H locs → lv_has ls 6 [(0, .ref a_t), (1, .int x1), (2, .int o.1), (3, .int o.2)] → W p l e { frames := 0, cells := 0, slots := 0, locals := 0 } s m args below meth c H locs 0 0 Q (F0 m 67 ls [])) → W p l e { frames := 0, cells := 0, slots := 0, locals := 0 } s m args below meth c H locs 0 0 Q (F0 m 7 ls []) := by
    intro n
    induction n with
    | zero => intro y2_7 y3_7 y4_7 o H locs ls hf; exact (ob_n hf).elim
    | succ n ih =>
      intro y2_7 y3_7 y4_7 o H locs ls hf hP hS hl kk
      rw [f_X0_lookRound_7_s] at hf
      refine lv_iload hx hb dX0_lookRound_7 (lv_at hl 4 rfl) ?_
      refine lv_aload_n hx hb dX0_lookRound_9 rfl (lv_at hl 0 rfl) ?_
      refine gf_X0_9 Cx hP 0 rfl rfl dX0_lookRound_10 ?_
      refine gf_X0_25 Cx hP 1 rfl rfl dX0_lookRound_13 ?_
      refine lv_icmp_ge (tgt := 67) hx hb dX0_lookRound_16 (by decide) (fun c2 => ?_) (fun c2 => ?_)
      · have hf := ob_t c2 hf
        obtain rfl := Option.some.inj hf
        exact kk _ _ _ hP hS (lv_sub hl [0, 1, 2, 3] rfl)
      · have hf := ob_f c2 hf
        refine lv_aload_n hx hb dX0_lookRound_19 rfl (lv_at hl 0 rfl) ?_
        refine gf_X0_15 Cx hP 0 rfl rfl dX0_lookRound_20 ?_
        refine lv_iload_n hx hb dX0_lookRound_23 rfl (lv_at hl 1 rfl) ?_
        refine lv_bipush (v := 12) hx hb dX0_lookRound_24 (by decide) ?_
        refine lv_imul hx hb dX0_lookRound_26 ?_
        refine lv_iload hx hb dX0_lookRound_27 (lv_at hl 4 rfl) ?_
        refine lv_iadd hx hb dX0_lookRound_29 ?_
        obtain ⟨u3, hu3, hf⟩ := ob_b hf
        refine ba_iald Cx hP 2 rfl hu3 dX0_lookRound_30 ?_
        refine lv_istore (lv' := [(5, .int u3), (0, .ref a_t), (1, .int x1), (2, .int y2_7), (3, .int y3_7), (4, .int y4_7)]) hx hb dX0_lookRound_31 hl (by decide) rfl (fun ls hl => ?_)
        refine lv_iload hx hb dX0_lookRound_33 (lv_at hl 0 rfl) ?_
        refine lv_aload_n hx hb dX0_lookRound_35 rfl (lv_at hl 1 rfl) ?_
        refine gf_X0_9 Cx hP 0 rfl rfl dX0_lookRound_36 ?_
        refine gf_X0_42 Cx hP 1 rfl rfl dX0_lookRound_39 ?_
        refine ob_J (P := fun w4 => ∀ (H : Heap) (locs : List Loc) (ls : Array Slot), va_P D vwCl [(a_t, .inr (0, [.ref a_scene, .ref a_apart, .ref a_clash, .ref a_neighbours])), (a_scene, .inr (7, [.ref a_scene_steps, .ref a_scene_worths, .ref a_scene_comers, .ref a_scene_seen, .ref a_scene_seenLengths, .int v_scene_seats, .int v_scene_bear, .int v_scene_comerCount, .int v_scene_seenRows])), (a_apart, eI cI 144 v_apart), (a_clash, eI cI 12 v_clash), (a_neighbours, eI cI 12 v_neighbours)] H → va_S A s.heap H locs → lv_has ls 6 [(0, .ref a_t), (1, .int x1), (2, .int w4), (3, .int y3_7), (4, .int y4_7), (5, .int u3)] → W p l e { frames := 0, cells := 0, slots := 0, locals := 0 } s m args below meth c H locs 0 0 Q (F0 m 52 ls [])) hf ?_ ?_
        · intro w4 hf H locs ls hP hS hl
          refine lv_iload hx hb dX0_lookRound_52 (lv_at hl 5 rfl) ?_
          refine lv_iconst (v := 1) hx hb dX0_lookRound_54 (by decide) ?_
          refine ob_J (P := fun w6 => ∀ (H : Heap) (locs : List Loc) (ls : Array Slot), va_P D vwCl [(a_t, .inr (0, [.ref a_scene, .ref a_apart, .ref a_clash, .ref a_neighbours])), (a_scene, .inr (7, [.ref a_scene_steps, .ref a_scene_worths, .ref a_scene_comers, .ref a_scene_seen, .ref a_scene_seenLengths, .int v_scene_seats, .int v_scene_bear, .int v_scene_comerCount, .int v_scene_seenRows])), (a_apart, eI cI 144 v_apart), (a_clash, eI cI 12 v_clash), (a_neighbours, eI cI 12 v_neighbours)] H → va_S A s.heap H locs → lv_has ls 6 [(0, .ref a_t), (1, .int x1), (2, .int w4), (3, .int w6), (4, .int y4_7)] → W p l e { frames := 0, cells := 0, slots := 0, locals := 0 } s m args below meth c H locs 0 0 Q (F0 m 61 ls [])) hf ?_ ?_
          · intro w6 hf H locs ls hP hS hl
            refine lv_iinc (v := (y4_7 + 1)) (lv' := [(4, .int (y4_7 + 1)), (0, .ref a_t), (1, .int x1), (2, .int w4), (3, .int w6)]) hx hb dX0_lookRound_61 hl (k := 4) rfl rfl (by decide) rfl (fun ls hl => ?_)
            refine lv_goto (tgt := 7) hx hb dX0_lookRound_64 (by decide) ?_
            exact ih w4 w6 (y4_7 + 1) _ _ _ _ hf hP hS (lv_sub hl [1, 2, 3, 4, 0] rfl) kk
          · intro J61_7 hf
            refine lv_icmp_ne (tgt := 61) hx hb dX0_lookRound_55 (by decide) (fun c8 => ?_) (fun c8 => ?_)
            · have hf := ob_fk c8 hf
              exact J61_7 y3_7 hf _ _ _ hP hS (lv_sub hl [0, 1, 2, 3, 4] rfl)
            · have hf := ob_tk c8 hf
              refine lv_iinc (v := (y3_7 + 1)) (lv' := [(3, .int (y3_7 + 1)), (0, .ref a_t), (1, .int x1), (2, .int w4), (4, .int y4_7), (5, .int u3)]) hx hb dX0_lookRound_58 hl (k := 3) rfl rfl (by decide) rfl (fun ls hl => ?_)
              exact J61_7 (y3_7 + 1) hf _ _ _ hP hS (lv_sub hl [1, 2, 3, 0, 4] rfl)
        · intro J52_5 hf
          refine lv_icmp_ge (tgt := 52) hx hb dX0_lookRound_42 (by decide) (fun c9 => ?_) (fun c9 => ?_)
          · have hf := ob_tk c9 hf
            exact J52_5 y2_7 hf _ _ _ hP hS (lv_sub hl [1, 2, 3, 4, 5, 0] rfl)
          · have hf := ob_fk c9 hf
            refine lv_iload_n hx hb dX0_lookRound_45 rfl (lv_at hl 3 rfl) ?_
            refine lv_iconst (v := 1) hx hb dX0_lookRound_46 (by decide) ?_
            refine lv_iload hx hb dX0_lookRound_47 (lv_at hl 5 rfl) ?_
            refine lv_ishl hx hb dX0_lookRound_49 ?_
            refine lv_ior hx hb dX0_lookRound_50 ?_
            refine lv_istore_n (lv' := [(2, .int (y2_7 ||| ((1 : Int32) <<< (y4_7 &&& 31)))), (5, .int u3), (0, .ref a_t), (1, .int x1), (3, .int y3_7), (4, .int y4_7)]) hx hb dX0_lookRound_51 rfl hl (by decide) rfl (fun ls hl => ?_)
            exact J52_5 (y2_7 ||| ((1 : Int32) <<< (y4_7 &&& 31))) hf _ _ _ hP hS (lv_sub hl [2, 3, 0, 4, 5, 1] rfl)
  obtain ⟨u10, hu10, hf⟩ := ob_b hf
  refine L7_1 FU (0 : Int32) (0 : Int32) (0 : Int32) u10 _ _ _ hu10 hP hS (lv_sub hl [3, 4, 2, 1, 0] rfl) ?_
  intro H locs ls hP hS hl
  refine lv_aload_n hx hb dX0_lookRound_67 rfl (lv_at hl 0 rfl) ?_
  refine gf_X0_19 Cx hP 0 rfl rfl dX0_lookRound_68 ?_
  refine lv_iload_n hx hb dX0_lookRound_71 rfl (lv_at hl 1 rfl) ?_
  refine lv_iload_n hx hb dX0_lookRound_72 rfl (lv_at hl 2 rfl) ?_
  obtain ⟨u11, hu11, hf⟩ := ob_b hf
  refine ba_iast (X' := [(a_t, .inr (0, [.ref a_scene, .ref a_apart, .ref a_clash, .ref a_neighbours])), (a_scene, .inr (7, [.ref a_scene_steps, .ref a_scene_worths, .ref a_scene_comers, .ref a_scene_seen, .ref a_scene_seenLengths, .int v_scene_seats, .int v_scene_bear, .int v_scene_comerCount, .int v_scene_seenRows])), (a_apart, eI cI 144 v_apart), (a_clash, eI cI 12 u11), (a_neighbours, eI cI 12 v_neighbours)]) Cx hP hS rfl 3 rfl rfl hu11 dX0_lookRound_73 (fun H locs hP hS => ?_)
  refine lv_aload_n hx hb dX0_lookRound_74 rfl (lv_at hl 0 rfl) ?_
  refine gf_X0_22 Cx hP 0 rfl rfl dX0_lookRound_75 ?_
  refine lv_iload_n hx hb dX0_lookRound_78 rfl (lv_at hl 1 rfl) ?_
  refine lv_iload_n hx hb dX0_lookRound_79 rfl (lv_at hl 3 rfl) ?_
  obtain ⟨u12, hu12, hf⟩ := ob_b hf
  refine ba_iast (X' := [(a_t, .inr (0, [.ref a_scene, .ref a_apart, .ref a_clash, .ref a_neighbours])), (a_scene, .inr (7, [.ref a_scene_steps, .ref a_scene_worths, .ref a_scene_comers, .ref a_scene_seen, .ref a_scene_seenLengths, .int v_scene_seats, .int v_scene_bear, .int v_scene_comerCount, .int v_scene_seenRows])), (a_apart, eI cI 144 v_apart), (a_clash, eI cI 12 u11), (a_neighbours, eI cI 12 u12)]) Cx hP hS rfl 4 rfl rfl hu12 dX0_lookRound_80 (fun H locs hP hS => ?_)
  obtain rfl := Option.some.inj hf
  exact ret _ _ _ _ dX0_lookRound_81 hP hS

