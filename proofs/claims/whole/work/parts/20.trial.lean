def f_X0_farness (v_apart : Nat → Int32) (x1 : Int32) (x2 : Int32) : Option (Int32) :=
  (aget 144 v_apart ((x1 * (12 : Int32)) + x2)).bind (fun u1 =>
  some (u1))
set_option maxHeartbeats 4000000 in
set_option maxRecDepth 100000 in
theorem c_X0_farness (l : Launch) (D : va_G) (cI cJ cZ cO : ClassId) (a_t a_scene a_apart a_clash a_neighbours : Nat) (v_apart : Nat → Int32) (x1 : Int32) (x2 : Int32) (out : Int32) (hf : f_X0_farness v_apart x1 x2 = some out) : MetR l yX0_farness (Cond.code yX0_farness cX0_farness 3 (some .int) :: tbG) { frames := 0, cells := 0, slots := 0, locals := 0 } D (tyL cI cJ cZ cO) [.ref a_t, .int x1, .int x2] [(a_t, .inr (0, [.ref a_scene, .ref a_apart, .ref a_clash, .ref a_neighbours])), (a_apart, eI cI 144 v_apart)] (some (.int out)) [(a_t, .inr (0, [.ref a_scene, .ref a_apart, .ref a_clash, .ref a_neighbours])), (a_apart, eI cI 144 v_apart)] := by
  refine ba_ofI RX0 [(0, .ref a_t), (1, .int x1), (2, .int x2)] (by decide +kernel) rfl (Nat.le_of_ble_eq_true rfl) rfl ?_
  intro p e s m args below meth c Q A Cx hP ret ls hl
  obtain ⟨⟨hx, hb, hml, hown, hts⟩, hK, hD, hA⟩ := id Cx
  have hS : va_S A s.heap s.heap [] := va_S.rf
  unfold f_X0_farness at hf
  refine lv_aload_n hx hb dX0_farness_0 rfl (lv_at hl 0 rfl) ?_
  refine gf_X0_15 Cx hP 0 rfl rfl dX0_farness_1 ?_
  refine lv_iload_n hx hb dX0_farness_4 rfl (lv_at hl 1 rfl) ?_
  refine lv_bipush (v := 12) hx hb dX0_farness_5 (by decide) ?_
  refine lv_imul hx hb dX0_farness_7 ?_
  refine lv_iload_n hx hb dX0_farness_8 rfl (lv_at hl 2 rfl) ?_
  refine lv_iadd hx hb dX0_farness_9 ?_
  obtain ⟨u1, hu1, hf⟩ := ob_b hf
  refine ba_iald Cx hP 1 rfl hu1 dX0_farness_10 ?_
  obtain rfl := Option.some.inj hf
  exact ret _ _ _ _ dX0_farness_11 hP hS

def f_X9_isOpen (v_bear : Int32) (v_nearest : Nat → Int32) (x1 : Int32) : Option (Int32) :=
  (aget 12 v_nearest x1).bind (fun u1 =>
  (if u1 < v_bear then
  some (0 : Int32)
  else
  some (1 : Int32)).bind (fun w2 =>
  (oz w2).bind (fun u4 =>
  some (u4))))
set_option maxHeartbeats 4000000 in
set_option maxRecDepth 100000 in
theorem c_X9_isOpen (l : Launch) (D : va_G) (cI cJ cZ cO : ClassId) (a_t a_bench a_nearest : Nat) (v_set : Int32) (v_bear : Int32) (v_nearest : Nat → Int32) (x1 : Int32) (out : Int32) (hf : f_X9_isOpen v_bear v_nearest x1 = some out) : MetR l yX9_isOpen (Cond.code yX9_isOpen cX9_isOpen 2 (some .boolean) :: tbG) { frames := 0, cells := 0, slots := 0, locals := 0 } D (tyL cI cJ cZ cO) [.ref a_t, .int x1] [(a_t, .inr (9, [.ref a_bench, .ref a_nearest, .int v_set, .int v_bear])), (a_nearest, eI cI 12 v_nearest)] (some (.int out)) [(a_t, .inr (9, [.ref a_bench, .ref a_nearest, .int v_set, .int v_bear])), (a_nearest, eI cI 12 v_nearest)] := by
  refine ba_ofZ RX9 [(0, .ref a_t), (1, .int x1)] (by decide +kernel) rfl (Nat.le_of_ble_eq_true rfl) rfl ?_
  intro p e s m args below meth c Q A Cx hP ret ls hl
  obtain ⟨⟨hx, hb, hml, hown, hts⟩, hK, hD, hA⟩ := id Cx
  have hS : va_S A s.heap s.heap [] := va_S.rf
  unfold f_X9_isOpen at hf
  refine lv_aload_n hx hb dX9_isOpen_0 rfl (lv_at hl 0 rfl) ?_
  refine gf_X9_15 Cx hP 0 rfl rfl dX9_isOpen_1 ?_
  refine lv_iload_n hx hb dX9_isOpen_4 rfl (lv_at hl 1 rfl) ?_
  obtain ⟨u1, hu1, hf⟩ := ob_b hf
  refine ba_iald Cx hP 1 rfl hu1 dX9_isOpen_5 ?_
  refine lv_aload_n hx hb dX9_isOpen_6 rfl (lv_at hl 0 rfl) ?_
  refine gf_X9_34 Cx hP 0 rfl rfl dX9_isOpen_7 ?_
  refine ob_J (P := fun w2 => ∀ (H : Heap) (locs : List Loc) (ls : Array Slot), va_P D vwCl [(a_t, .inr (9, [.ref a_bench, .ref a_nearest, .int v_set, .int v_bear])), (a_nearest, eI cI 12 v_nearest)] H → va_S A s.heap H locs → lv_has ls 2 [] → W p l e { frames := 0, cells := 0, slots := 0, locals := 0 } s m args below meth c H locs 0 0 Q (F0 m 18 ls [.int w2])) hf ?_ ?_
  · intro w2 hf H locs ls hP hS hl
    obtain ⟨u4, hu4, hf⟩ := ob_b hf
    obtain ⟨hz1, hz2⟩ := oz_ok hu4
    obtain rfl := Option.some.inj hf
    exact ret _ _ _ _ _ hz1 hz2 dX9_isOpen_18 hP hS
  · intro J18_3 hf
    refine lv_icmp_lt (tgt := 17) hx hb dX9_isOpen_10 (by decide) (fun c5 => ?_) (fun c5 => ?_)
    · have hf := ob_tk c5 hf
      refine lv_iconst (v := 0) hx hb dX9_isOpen_17 (by decide) ?_
      exact J18_3 (0 : Int32) hf _ _ _ hP hS (lv_sub hl [] rfl)
    · have hf := ob_fk c5 hf
      refine lv_iconst (v := 1) hx hb dX9_isOpen_13 (by decide) ?_
      refine lv_goto (tgt := 18) hx hb dX9_isOpen_14 (by decide) ?_
      exact J18_3 (1 : Int32) hf _ _ _ hP hS (lv_sub hl [] rfl)

def f_X9_sit_14 (v_bench_scene_seats : Int32) (v_bench_apart : Nat → Int32) (x1 : Int32) : Nat → Int32 → (Nat → Int32) → Option ((Nat → Int32))
  | 0, _, _ => none
  | n + 1, y2_14, z_nearest_14 =>
  if v_bench_scene_seats ≤ y2_14 then
  some (z_nearest_14)
  else
  (aget 12 z_nearest_14 y2_14).bind (fun u3 =>
  (f_X0_farness v_bench_apart x1 y2_14).bind (fun u4 =>
  (asetI 12 z_nearest_14 y2_14 (imin u3 u4)).bind (fun u5 =>
  f_X9_sit_14 v_bench_scene_seats v_bench_apart x1 n (y2_14 + 1) u5)))
theorem f_X9_sit_14_s (v_bench_scene_seats : Int32) (v_bench_apart : Nat → Int32) (x1 : Int32) (n : Nat) (y2_14 : Int32) (z_nearest_14 : Nat → Int32) : f_X9_sit_14 v_bench_scene_seats v_bench_apart x1 (n + 1) y2_14 z_nearest_14 =
  (if v_bench_scene_seats ≤ y2_14 then
  some (z_nearest_14)
  else
  (aget 12 z_nearest_14 y2_14).bind (fun u3 =>
  (f_X0_farness v_bench_apart x1 y2_14).bind (fun u4 =>
  (asetI 12 z_nearest_14 y2_14 (imin u3 u4)).bind (fun u5 =>
  f_X9_sit_14 v_bench_scene_seats v_bench_apart x1 n (y2_14 + 1) u5)))) := rfl
def f_X9_sit (v_set : Int32) (v_bench_scene_seats : Int32) (v_nearest : Nat → Int32) (v_bench_apart : Nat → Int32) (x1 : Int32) : Option (Int32 × (Nat → Int32)) :=
  (f_X9_sit_14 v_bench_scene_seats v_bench_apart x1 FU (0 : Int32) v_nearest).bind (fun u6 =>
  some ((v_set ||| ((1 : Int32) <<< (x1 &&& 31))), u6))
set_option maxHeartbeats 4000000 in
set_option maxRecDepth 100000 in
theorem c_X9_sit (l : Launch) (D : va_G) (cI cJ cZ cO : ClassId) (a_t a_bench a_nearest a_bench_scene a_bench_apart a_bench_clash a_bench_neighbours a_bench_scene_steps a_bench_scene_worths a_bench_scene_comers a_bench_scene_seen a_bench_scene_seenLengths : Nat) (v_set : Int32) (v_bear : Int32) (v_bench_scene_seats : Int32) (v_bench_scene_bear : Int32) (v_bench_scene_comerCount : Int32) (v_bench_scene_seenRows : Int32) (v_nearest : Nat → Int32) (v_bench_apart : Nat → Int32) (x1 : Int32) (out : Int32 × (Nat → Int32)) (hf : f_X9_sit v_set v_bench_scene_seats v_nearest v_bench_apart x1 = some out) : MetR l yX9_sit (Cond.code yX9_sit cX9_sit 3 none :: tbG) { frames := 1, cells := 0, slots := 0, locals := 22 } D (tyL cI cJ cZ cO) [.ref a_t, .int x1] [(a_t, .inr (9, [.ref a_bench, .ref a_nearest, .int v_set, .int v_bear])), (a_bench, .inr (0, [.ref a_bench_scene, .ref a_bench_apart, .ref a_bench_clash, .ref a_bench_neighbours])), (a_bench_scene, .inr (7, [.ref a_bench_scene_steps, .ref a_bench_scene_worths, .ref a_bench_scene_comers, .ref a_bench_scene_seen, .ref a_bench_scene_seenLengths, .int v_bench_scene_seats, .int v_bench_scene_bear, .int v_bench_scene_comerCount, .int v_bench_scene_seenRows])), (a_nearest, eI cI 12 v_nearest), (a_bench_apart, eI cI 144 v_bench_apart)] none [(a_t, .inr (9, [.ref a_bench, .ref a_nearest, .int out.1, .int v_bear])), (a_bench, .inr (0, [.ref a_bench_scene, .ref a_bench_apart, .ref a_bench_clash, .ref a_bench_neighbours])), (a_bench_scene, .inr (7, [.ref a_bench_scene_steps, .ref a_bench_scene_worths, .ref a_bench_scene_comers, .ref a_bench_scene_seen, .ref a_bench_scene_seenLengths, .int v_bench_scene_seats, .int v_bench_scene_bear, .int v_bench_scene_comerCount, .int v_bench_scene_seenRows])), (a_nearest, eI cI 12 out.2), (a_bench_apart, eI cI 144 v_bench_apart)] := by
  refine ba_ofV RX9 [(0, .ref a_t), (1, .int x1)] (by decide +kernel) rfl (Nat.le_of_ble_eq_true rfl) rfl ?_
  intro p e s m args below meth c Q A Cx hP ret ls hl
  obtain ⟨⟨hx, hb, hml, hown, hts⟩, hK, hD, hA⟩ := id Cx
  have hS : va_S A s.heap s.heap [] := va_S.rf
  unfold f_X9_sit at hf
  refine lv_aload_n hx hb dX9_sit_0 rfl (lv_at hl 0 rfl) ?_
  refine lv_dup hx hb dX9_sit_1 rfl ?_
  refine gf_X9_19 Cx hP 0 rfl rfl dX9_sit_2 ?_
  refine lv_iconst (v := 1) hx hb dX9_sit_5 (by decide) ?_
  refine lv_iload_n hx hb dX9_sit_6 rfl (lv_at hl 1 rfl) ?_
  refine lv_ishl hx hb dX9_sit_7 ?_
  refine lv_ior hx hb dX9_sit_8 ?_
  refine pf_X9_19 (X' := [(a_t, .inr (9, [.ref a_bench, .ref a_nearest, .int (v_set ||| ((1 : Int32) <<< (x1 &&& 31))), .int v_bear])), (a_bench, .inr (0, [.ref a_bench_scene, .ref a_bench_apart, .ref a_bench_clash, .ref a_bench_neighbours])), (a_bench_scene, .inr (7, [.ref a_bench_scene_steps, .ref a_bench_scene_worths, .ref a_bench_scene_comers, .ref a_bench_scene_seen, .ref a_bench_scene_seenLengths, .int v_bench_scene_seats, .int v_bench_scene_bear, .int v_bench_scene_comerCount, .int v_bench_scene_seenRows])), (a_nearest, eI cI 12 v_nearest), (a_bench_apart, eI cI 144 v_bench_apart)]) Cx hP hS rfl 0 rfl rfl (Nat.le_of_ble_eq_true rfl) dX9_sit_9 (fun H locs hP hS => ?_)
  refine lv_iconst (v := 0) hx hb dX9_sit_12 (by decide) ?_
  refine lv_istore_n (lv' := [(2, .int (0 : Int32)), (0, .ref a_t), (1, .int x1)]) hx hb dX9_sit_13 rfl hl (by decide) rfl (fun ls hl => ?_)
  have L14_1 : ∀ (n : Nat) (y2_14 : Int32) (z_nearest_14 : Nat → Int32) (o : (Nat → Int32)) (H : Heap) (locs : List Loc) (ls : Array Slot), f_X9_sit_14 v_bench_scene_seats v_bench_apart x1 n y2_14 z_nearest_14 = some o → va_P D vwCl [(a_t, .inr (9, [.ref a_bench, .ref a_nearest, .int (v_set ||| ((1 : Int32) <<< (x1 &&& 31))), .int v_bear])), (a_bench, .inr (0, [.ref a_bench_scene, .ref a_bench_apart, .ref a_bench_clash, .ref a_bench_neighbours])), (a_bench_scene, .inr (7, [.ref a_bench_scene_steps, .ref a_bench_scene_worths, .ref a_bench_scene_comers, .ref a_bench_scene_seen, .ref a_bench_scene_seenLengths, .int v_bench_scene_seats, .int v_bench_scene_bear, .int v_bench_scene_comerCount, .int v_bench_scene_seenRows])), (a_nearest, eI cI 12 z_nearest_14), (a_bench_apart, eI cI 144 v_bench_apart)] H → va_S A s.heap H locs → lv_has ls 3 [(0, .ref a_t), (1, .int x1), (2, .int y2_14)] → (∀ (H : Heap) (locs : List Loc) (ls : Array Slot), va_P D vwCl [(a_t, .inr (9, [.ref a_bench, .ref a_nearest, .int (v_set ||| ((1 : Int32) <<< (x1 &&& 31))), .int v_bear])), (a_bench, .inr (0, [.ref a_bench_scene, .ref a_bench_apart, .ref a_bench_clash, .ref a_bench_neighbours])), (a_bench_scene, .inr (7, [.ref a_bench_scene_steps, .ref a_bench_scene_worths, .ref a_bench_scene_comers, .ref a_bench_scene_seen, .ref a_bench_scene_seenLengths, .int v_bench_scene_seats, .int v_bench_scene_bear, .int v_bench_scene_comerCount, .int v_bench_scene_seenRows])), (a_nearest, eI cI 12 o), (a_bench_apart, eI cI 144 v_bench_apart)] H → va_S A s.heap H locs → lv_has ls 3 [] → W p l e { frames := 1, cells := 0, slots := 0, locals := 22 } s m args below meth c H locs 0 0 Q (F0 m 58 ls [])) → W p l e { frames := 1, cells := 0, slots := 0, locals := 22 } s m args below meth c H locs 0 0 Q (F0 m 14 ls []) := by
    intro n
    induction n with
    | zero => intro y2_14 z_nearest_14 o H locs ls hf; exact (ob_n hf).elim
    | succ n ih =>
      intro y2_14 z_nearest_14 o H locs ls hf hP hS hl kk
      rw [f_X9_sit_14_s] at hf
      refine lv_iload_n hx hb dX9_sit_14 rfl (lv_at hl 2 rfl) ?_
      refine lv_aload_n hx hb dX9_sit_15 rfl (lv_at hl 0 rfl) ?_
      refine gf_X9_9 Cx hP 0 rfl rfl dX9_sit_16 ?_
      refine gf_X9_23 Cx hP 1 rfl rfl dX9_sit_19 ?_
      refine gf_X9_47 Cx hP 2 rfl rfl dX9_sit_22 ?_
      refine lv_icmp_ge (tgt := 58) hx hb dX9_sit_25 (by decide) (fun c2 => ?_) (fun c2 => ?_)
      · have hf := ob_t c2 hf
        obtain rfl := Option.some.inj hf
        exact kk _ _ _ hP hS (lv_sub hl [] rfl)
      · have hf := ob_f c2 hf
        refine lv_aload_n hx hb dX9_sit_28 rfl (lv_at hl 0 rfl) ?_
        refine gf_X9_15 Cx hP 0 rfl rfl dX9_sit_29 ?_
        refine lv_iload_n hx hb dX9_sit_32 rfl (lv_at hl 2 rfl) ?_
        refine lv_aload_n hx hb dX9_sit_33 rfl (lv_at hl 0 rfl) ?_
        refine gf_X9_15 Cx hP 0 rfl rfl dX9_sit_34 ?_
        refine lv_iload_n hx hb dX9_sit_37 rfl (lv_at hl 2 rfl) ?_
        obtain ⟨u3, hu3, hf⟩ := ob_b hf
        refine ba_iald Cx hP 3 rfl hu3 dX9_sit_38 ?_
        refine lv_aload_n hx hb dX9_sit_39 rfl (lv_at hl 0 rfl) ?_
        refine gf_X9_9 Cx hP 0 rfl rfl dX9_sit_40 ?_
        refine lv_iload_n hx hb dX9_sit_43 rfl (lv_at hl 1 rfl) ?_
        refine lv_iload_n hx hb dX9_sit_44 rfl (lv_at hl 2 rfl) ?_
        obtain ⟨u4, hu4, hf⟩ := ob_b hf
        refine iv_X9_50 (As := [.int x1, .int y2_14]) (rest := [.int u3, .int y2_14, .ref a_nearest]) (is := [1, 4]) (q0 := 1) (X' := [(a_t, .inr (9, [.ref a_bench, .ref a_nearest, .int (v_set ||| ((1 : Int32) <<< (x1 &&& 31))), .int v_bear])), (a_bench, .inr (0, [.ref a_bench_scene, .ref a_bench_apart, .ref a_bench_clash, .ref a_bench_neighbours])), (a_bench_scene, .inr (7, [.ref a_bench_scene_steps, .ref a_bench_scene_worths, .ref a_bench_scene_comers, .ref a_bench_scene_seen, .ref a_bench_scene_seenLengths, .int v_bench_scene_seats, .int v_bench_scene_bear, .int v_bench_scene_comerCount, .int v_bench_scene_seenRows])), (a_nearest, eI cI 12 z_nearest_14), (a_bench_apart, eI cI 144 v_bench_apart)]) Cx (c_X0_farness l D cI cJ cZ cO a_bench a_bench_scene a_bench_apart a_bench_clash a_bench_neighbours v_bench_apart x1 y2_14 u4 hu4) hP hS rfl rfl rfl rfl rfl rfl rfl hl.1 (Nat.le_of_ble_eq_true rfl) dX9_sit_45 rfl rfl ⟨Nat.le_of_ble_eq_true rfl, Nat.le_of_ble_eq_true rfl⟩ ⟨Nat.zero_le _, Nat.zero_le _⟩ rfl (fun H locs hP hS => ?_)
        refine ba_mmin Cx (hts _ kw_418) hl.1 (Nat.le_of_ble_eq_true rfl) (Nat.le_of_ble_eq_true rfl) (Nat.zero_le _) (Nat.zero_le _) dX9_sit_48 ?_
        obtain ⟨u5, hu5, hf⟩ := ob_b hf
        refine ba_iast (X' := [(a_t, .inr (9, [.ref a_bench, .ref a_nearest, .int (v_set ||| ((1 : Int32) <<< (x1 &&& 31))), .int v_bear])), (a_bench, .inr (0, [.ref a_bench_scene, .ref a_bench_apart, .ref a_bench_clash, .ref a_bench_neighbours])), (a_bench_scene, .inr (7, [.ref a_bench_scene_steps, .ref a_bench_scene_worths, .ref a_bench_scene_comers, .ref a_bench_scene_seen, .ref a_bench_scene_seenLengths, .int v_bench_scene_seats, .int v_bench_scene_bear, .int v_bench_scene_comerCount, .int v_bench_scene_seenRows])), (a_nearest, eI cI 12 u5), (a_bench_apart, eI cI 144 v_bench_apart)]) Cx hP hS rfl 3 rfl rfl hu5 dX9_sit_51 (fun H locs hP hS => ?_)
        refine lv_iinc (v := (y2_14 + 1)) (lv' := [(2, .int (y2_14 + 1)), (0, .ref a_t), (1, .int x1)]) hx hb dX9_sit_52 hl (k := 2) rfl rfl (by decide) rfl (fun ls hl => ?_)
        refine lv_goto (tgt := 14) hx hb dX9_sit_55 (by decide) ?_
        exact ih (y2_14 + 1) u5 _ _ _ _ hf hP hS (lv_sub hl [1, 2, 0] rfl) kk
  obtain ⟨u6, hu6, hf⟩ := ob_b hf
  refine L14_1 FU (0 : Int32) v_nearest u6 _ _ _ hu6 hP hS (lv_sub hl [1, 2, 0] rfl) ?_
  intro H locs ls hP hS hl
  obtain rfl := Option.some.inj hf
  exact ret _ _ _ _ dX9_sit_58 hP hS

