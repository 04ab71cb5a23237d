def f_X0_measure_15 (v_scene_seats : Int32) (y2_2 : Int32) : Nat → Int32 → (Nat → Int32) → Option ((Nat → Int32))
  | 0, _, _ => none
  | n + 1, y3_15, z_apart_15 =>
  if v_scene_seats ≤ y3_15 then
  some (z_apart_15)
  else
  (if y2_2 = y3_15 then
  some (0 : Int32)
  else
  some (99 : Int32)).bind (fun w5 =>
  (asetI 144 z_apart_15 ((y2_2 * (12 : Int32)) + y3_15) w5).bind (fun u7 =>
  f_X0_measure_15 v_scene_seats y2_2 n (y3_15 + 1) u7))
theorem f_X0_measure_15_s (v_scene_seats : Int32) (y2_2 : Int32) (n : Nat) (y3_15 : Int32) (z_apart_15 : Nat → Int32) : f_X0_measure_15 v_scene_seats y2_2 (n + 1) y3_15 z_apart_15 =
  (if v_scene_seats ≤ y3_15 then
  some (z_apart_15)
  else
  (if y2_2 = y3_15 then
  some (0 : Int32)
  else
  some (99 : Int32)).bind (fun w5 =>
  (asetI 144 z_apart_15 ((y2_2 * (12 : Int32)) + y3_15) w5).bind (fun u7 =>
  f_X0_measure_15 v_scene_seats y2_2 n (y3_15 + 1) u7))) := rfl
def f_X0_measure_2 (v_scene_seats : Int32) : Nat → Int32 → (Nat → Int32) → Option ((Nat → Int32))
  | 0, _, _ => none
  | n + 1, y2_2, z_apart_2 =>
  if v_scene_seats ≤ y2_2 then
  some (z_apart_2)
  else
  (f_X0_measure_15 v_scene_seats y2_2 FU (0 : Int32) z_apart_2).bind (fun u9 =>
  f_X0_measure_2 v_scene_seats n (y2_2 + 1) u9)
theorem f_X0_measure_2_s (v_scene_seats : Int32) (n : Nat) (y2_2 : Int32) (z_apart_2 : Nat → Int32) : f_X0_measure_2 v_scene_seats (n + 1) y2_2 z_apart_2 =
  (if v_scene_seats ≤ y2_2 then
  some (z_apart_2)
  else
  (f_X0_measure_15 v_scene_seats y2_2 FU (0 : Int32) z_apart_2).bind (fun u9 =>
  f_X0_measure_2 v_scene_seats n (y2_2 + 1) u9)) := rfl
def f_X0_measure_62 (v_scene_seats : Int32) (v_scene_steps : Nat → Int32) (x1 : Int32) : Nat → Int32 → (Nat → Int32) → Option ((Nat → Int32))
  | 0, _, _ => none
  | n + 1, y2_62, z_apart_62 =>
  if v_scene_seats ≤ y2_62 then
  some (z_apart_62)
  else
  (f_X0_walkOn v_scene_seats v_scene_steps z_apart_62 y2_62 x1).bind (fun u13 =>
  f_X0_measure_62 v_scene_seats v_scene_steps x1 n (y2_62 + 1) u13)
theorem f_X0_measure_62_s (v_scene_seats : Int32) (v_scene_steps : Nat → Int32) (x1 : Int32) (n : Nat) (y2_62 : Int32) (z_apart_62 : Nat → Int32) : f_X0_measure_62 v_scene_seats v_scene_steps x1 (n + 1) y2_62 z_apart_62 =
  (if v_scene_seats ≤ y2_62 then
  some (z_apart_62)
  else
  (f_X0_walkOn v_scene_seats v_scene_steps z_apart_62 y2_62 x1).bind (fun u13 =>
  f_X0_measure_62 v_scene_seats v_scene_steps x1 n (y2_62 + 1) u13)) := rfl
def f_X0_measure_87 (v_scene_seats : Int32) (v_scene_bear : Int32) (u14 : (Nat → Int32)) : Nat → Int32 → (Nat → Int32) → (Nat → Int32) → Option ((Nat → Int32) × (Nat → Int32))
  | 0, _, _, _ => none
  | n + 1, y2_87, z_clash_87, z_neighbours_87 =>
  if v_scene_seats ≤ y2_87 then
  some (z_clash_87, z_neighbours_87)
  else
  (f_X0_lookRound v_scene_seats v_scene_bear u14 z_clash_87 z_neighbours_87 y2_87).bind (fun u17 =>
  f_X0_measure_87 v_scene_seats v_scene_bear u14 n (y2_87 + 1) u17.1 u17.2)
theorem f_X0_measure_87_s (v_scene_seats : Int32) (v_scene_bear : Int32) (u14 : (Nat → Int32)) (n : Nat) (y2_87 : Int32) (z_clash_87 : Nat → Int32) (z_neighbours_87 : Nat → Int32) : f_X0_measure_87 v_scene_seats v_scene_bear u14 (n + 1) y2_87 z_clash_87 z_neighbours_87 =
  (if v_scene_seats ≤ y2_87 then
  some (z_clash_87, z_neighbours_87)
  else
  (f_X0_lookRound v_scene_seats v_scene_bear u14 z_clash_87 z_neighbours_87 y2_87).bind (fun u17 =>
  f_X0_measure_87 v_scene_seats v_scene_bear u14 n (y2_87 + 1) u17.1 u17.2)) := rfl
def f_X0_measure (v_scene_seats : Int32) (v_scene_bear : Int32) (v_apart : Nat → Int32) (v_scene_steps : Nat → Int32) (v_clash : Nat → Int32) (v_neighbours : Nat → Int32) (x1 : Int32) : Option ((Nat → Int32) × (Nat → Int32) × (Nat → Int32)) :=
  (f_X0_measure_2 v_scene_seats FU (0 : Int32) v_apart).bind (fun u10 =>
  (f_X0_measure_62 v_scene_seats v_scene_steps x1 FU (0 : Int32) u10).bind (fun u14 =>
  (f_X0_measure_87 v_scene_seats v_scene_bear u14 FU (0 : Int32) v_clash v_neighbours).bind (fun u18 =>
  some (u14, u18.1, u18.2))))
set_option maxHeartbeats 4000000 in
set_option maxRecDepth 100000 in
theorem c_X0_measure (l : Launch) (D : va_G) (cI cJ cZ cO : ClassId) (a_t a_scene a_apart a_clash a_neighbours a_scene_steps a_scene_worths a_scene_comers a_scene_seen a_scene_seenLengths : Nat) (v_scene_seats : Int32) (v_scene_bear : Int32) (v_scene_comerCount : Int32) (v_scene_seenRows : Int32) (v_apart : Nat → Int32) (v_scene_steps : Nat → Int32) (v_clash : Nat → Int32) (v_neighbours : Nat → Int32) (x1 : Int32) (out : (Nat → Int32) × (Nat → Int32) × (Nat → Int32)) (hf : f_X0_measure v_scene_seats v_scene_bear v_apart v_scene_steps v_clash v_neighbours x1 = some out) : MetR l yX0_measure (Cond.code yX0_measure cX0_measure 4 none :: tbG) { frames := 1, cells := 0, slots := 0, locals := 27 } D (tyL cI cJ cZ cO) [.ref a_t, .int x1] [(a_t, .inr (0, [.ref a_scene, .ref a_apart, .ref a_clash, .ref a_neighbours])), (a_scene, .inr (7, [.ref a_scene_steps, .ref a_scene_worths, .ref a_scene_comers, .ref a_scene_seen, .ref a_scene_seenLengths, .int v_scene_seats, .int v_scene_bear, .int v_scene_comerCount, .int v_scene_seenRows])), (a_apart, eI cI 144 v_apart), (a_scene_steps, eI cI 12 v_scene_steps), (a_clash, eI cI 12 v_clash), (a_neighbours, eI cI 12 v_neighbours)] none [(a_t, .inr (0, [.ref a_scene, .ref a_apart, .ref a_clash, .ref a_neighbours])), (a_scene, .inr (7, [.ref a_scene_steps, .ref a_scene_worths, .ref a_scene_comers, .ref a_scene_seen, .ref a_scene_seenLengths, .int v_scene_seats, .int v_scene_bear, .int v_scene_comerCount, .int v_scene_seenRows])), (a_apart, eI cI 144 out.1), (a_scene_steps, eI cI 12 v_scene_steps), (a_clash, eI cI 12 out.2.1), (a_neighbours, eI cI 12 out.2.2)] := by
  refine ba_ofV RX0 [(0, .ref a_t), (1, .int x1)] (by decide +kernel) rfl (Nat.le_of_ble_eq_true rfl) rfl ?_
  intro p e s m args below meth c Q A Cx hP ret ls hl
  obtain ⟨⟨hx, hb, hml, hown, hts⟩, hK, hD, hA⟩ := id Cx
  have hS : va_S A s.heap s.heap [] := va_S.rf
  unfold f_X0_measure at hf
  refine lv_iconst (v := 0) hx hb dX0_measure_0 (by decide) ?_
  refine lv_istore_n (lv' := [(2, .int (0 : Int32)), (0, .ref a_t), (1, .int x1)]) hx hb dX0_measure_1 rfl hl (by decide) rfl (fun ls hl => ?_)
  have L2_1 : ∀ (n : Nat) (y2_2 : Int32) (z_apart_2 : Nat → Int32) (o : (Nat → Int32)) (H : Heap) (locs : List Loc) (ls : Array Slot), f_X0_measure_2 v_scene_seats n y2_2 z_apart_2 = some o → va_P D vwCl [(a_t, .inr (0, [.ref a_scene, .ref a_apart, .ref a_clash, .ref a_neighbours])), (a_scene, .inr (7, [.ref a_scene_steps, .ref a_scene_worths, .ref a_scene_comers, .ref a_scene_seen, .ref a_scene_seenLengths, .int v_scene_seats, .int v_scene_bear, .int v_scene_comerCount, .int v_scene_seenRows])), (a_apart, eI cI 144 z_apart_2), (a_scene_steps, eI cI 12 v_scene_steps), (a_clash, eI cI 12 v_clash), (a_neighbours, eI cI 12 v_neighbours)] H → va_S A s.heap H locs → lv_has ls 4 [(0, .ref a_t), (1, .int x1), (2, .int y2_2)] → (∀ (H : Heap) (locs : List Loc) (ls : Array Slot), va_P D vwCl [(a_t, .inr (0, [.ref a_scene, .ref a_apart, .ref a_clash, .ref a_neighbours])), (a_scene, .inr (7, [.ref a_scene_steps, .ref a_scene_worths, .ref a_scene_comers, .ref a_scene_seen, .ref a_scene_seenLengths, .int v_scene_seats, .int v_scene_bear, .int v_scene_comerCount, .int v_scene_seenRows])), (a_apart, eI cI 144 o), (a_scene_steps, eI cI 12 v_scene_steps), (a_clash, eI cI 12 v_clash), (a_neighbours, eI cI 12 v_neighbours)] H → va_S A s.heap H locs → lv_has ls 4 [(0, .ref a_t), (1, .int x1)] → W p l e { frames := 1, cells := 0, slots := 0, locals := 27 } s m args below meth c H locs 0 0 Q (F0 m 60 ls [])) → W p l e { frames := 1, cells := 0, slots := 0, locals := 27 } s m args below meth c H locs 0 0 Q (F0 m 2 ls []) := by
    intro n
    induction n with
    | zero => intro y2_2 z_apart_2 o H locs ls hf; exact (ob_n hf).elim
    | succ n ih =>
      intro y2_2 z_apart_2 o H locs ls hf hP hS hl kk
      rw [f_X0_measure_2_s] at hf
      refine lv_iload_n hx hb dX0_measure_2 rfl (lv_at hl 2 rfl) ?_
      refine lv_aload_n hx hb dX0_measure_3 rfl (lv_at hl 0 rfl) ?_
      refine gf_X0_9 Cx hP 0 rfl rfl dX0_measure_4 ?_
      refine gf_X0_25 Cx hP 1 rfl rfl dX0_measure_7 ?_
      refine lv_icmp_ge (tgt := 60) hx hb dX0_measure_10 (by decide) (fun c2 => ?_) (fun c2 => ?_)
      · have hf := ob_t c2 hf
        obtain rfl := Option.some.inj hf
        exact kk _ _ _ hP hS (lv_sub hl [0, 1] rfl)
      · have hf := ob_f c2 hf
        refine lv_iconst (v := 0) hx hb dX0_measure_13 (by decide) ?_
        refine lv_istore_n (lv' := [(3, .int (0 : Int32)), (0, .ref a_t), (1, .int x1), (2, .int y2_2)]) hx hb dX0_measure_14 rfl hl (by decide) rfl (fun ls hl => ?_)
        have L15_3 : ∀ (n : Nat) (y3_15 : Int32) (z_apart_15 : Nat → Int32) (o : (Nat → Int32)) (H : Heap) (locs : List Loc) (ls : Array Slot), f_X0_measure_15 v_scene_seats y2_2 n y3_15 z_apart_15 = some o → va_P D vwCl [(a_t, .inr (0, [.ref a_scene, .ref a_apart, .ref a_clash, .ref a_neighbours])), (a_scene, .inr (7, [.ref a_scene_steps, .ref a_scene_worths, .ref a_scene_comers, .ref a_scene_seen, .ref a_scene_seenLengths, .int v_scene_seats, .int v_scene_bear, .int v_scene_comerCount, .int v_scene_seenRows])), (a_apart, eI cI 144 z_apart_15), (a_scene_steps, eI cI 12 v_scene_steps), (a_clash, eI cI 12 v_clash), (a_neighbours, eI cI 12 v_neighbours)] H → va_S A s.heap H locs → lv_has ls 4 [(0, .ref a_t), (1, .int x1), (2, .int y2_2), (3, .int y3_15)] → (∀ (H : Heap) (locs : List Loc) (ls : Array Slot), va_P D vwCl [(a_t, .inr (0, [.ref a_scene, .ref a_apart, .ref a_clash, .ref a_neighbours])), (a_scene, .inr (7, [.ref a_scene_steps, .ref a_scene_worths, .ref a_scene_comers, .ref a_scene_seen, .ref a_scene_seenLengths, .int v_scene_seats, .int v_scene_bear, .int v_scene_comerCount, .int v_scene_seenRows])), (a_apart, eI cI 144 o), (a_scene_steps, eI cI 12 v_scene_steps), (a_clash, eI cI 12 v_clash), (a_neighbours, eI cI 12 v_neighbours)] H → va_S A s.heap H locs → lv_has ls 4 [(0, .ref a_t), (1, .int x1), (2, .int y2_2)] → W p l e { frames := 1, cells := 0, slots := 0, locals := 27 } s m args below meth c H locs 0 0 Q (F0 m 54 ls [])) → W p l e { frames := 1, cells := 0, slots := 0, locals := 27 } s m args below meth c H locs 0 0 Q (F0 m 15 ls []) := by
          intro n
          induction n with
          | zero => intro y3_15 z_apart_15 o H locs ls hf; exact (ob_n hf).elim
          | succ n ih =>
            intro y3_15 z_apart_15 o H locs ls hf hP hS hl kk
            rw [f_X0_measure_15_s] at hf
            refine lv_iload_n hx hb dX0_measure_15 rfl (lv_at hl 3 rfl) ?_
            refine lv_aload_n hx hb dX0_measure_16 rfl (lv_at hl 0 rfl) ?_
            refine gf_X0_9 Cx hP 0 rfl rfl dX0_measure_17 ?_
            refine gf_X0_25 Cx hP 1 rfl rfl dX0_measure_20 ?_
            refine lv_icmp_ge (tgt := 54) hx hb dX0_measure_23 (by decide) (fun c4 => ?_) (fun c4 => ?_)
            · have hf := ob_t c4 hf
              obtain rfl := Option.some.inj hf
              exact kk _ _ _ hP hS (lv_sub hl [0, 1, 2] rfl)
            · have hf := ob_f c4 hf
              refine lv_aload_n hx hb dX0_measure_26 rfl (lv_at hl 0 rfl) ?_
              refine gf_X0_15 Cx hP 0 rfl rfl dX0_measure_27 ?_
              refine lv_iload_n hx hb dX0_measure_30 rfl (lv_at hl 2 rfl) ?_
              refine lv_bipush (v := 12) hx hb dX0_measure_31 (by decide) ?_
              refine lv_imul hx hb dX0_measure_33 ?_
              refine lv_iload_n hx hb dX0_measure_34 rfl (lv_at hl 3 rfl) ?_
              refine lv_iadd hx hb dX0_measure_35 ?_
              refine lv_iload_n hx hb dX0_measure_36 rfl (lv_at hl 2 rfl) ?_
              refine lv_iload_n hx hb dX0_measure_37 rfl (lv_at hl 3 rfl) ?_
              refine ob_J (P := fun w5 => ∀ (H : Heap) (locs : List Loc) (ls : Array Slot), va_P D vwCl [(a_t, .inr (0, [.ref a_scene, .ref a_apart, .ref a_clash, .ref a_neighbours])), (a_scene, .inr (7, [.ref a_scene_steps, .ref a_scene_worths, .ref a_scene_comers, .ref a_scene_seen, .ref a_scene_seenLengths, .int v_scene_seats, .int v_scene_bear, .int v_scene_comerCount, .int v_scene_seenRows])), (a_apart, eI cI 144 z_apart_15), (a_scene_steps, eI cI 12 v_scene_steps), (a_clash, eI cI 12 v_clash), (a_neighbours, eI cI 12 v_neighbours)] H → va_S A s.heap H locs → lv_has ls 4 [(0, .ref a_t), (1, .int x1), (2, .int y2_2), (3, .int y3_15)] → W p l e { frames := 1, cells := 0, slots := 0, locals := 27 } s m args below meth c H locs 0 0 Q (F0 m 47 ls [.int w5, .int ((y2_2 * (12 : Int32)) + y3_15), .ref a_apart])) hf ?_ ?_
              · intro w5 hf H locs ls hP hS hl
                obtain ⟨u7, hu7, hf⟩ := ob_b hf
                refine ba_iast (X' := [(a_t, .inr (0, [.ref a_scene, .ref a_apart, .ref a_clash, .ref a_neighbours])), (a_scene, .inr (7, [.ref a_scene_steps, .ref a_scene_worths, .ref a_scene_comers, .ref a_scene_seen, .ref a_scene_seenLengths, .int v_scene_seats, .int v_scene_bear, .int v_scene_comerCount, .int v_scene_seenRows])), (a_apart, eI cI 144 u7), (a_scene_steps, eI cI 12 v_scene_steps), (a_clash, eI cI 12 v_clash), (a_neighbours, eI cI 12 v_neighbours)]) Cx hP hS rfl 2 rfl rfl hu7 dX0_measure_47 (fun H locs hP hS => ?_)
                refine lv_iinc (v := (y3_15 + 1)) (lv' := [(3, .int (y3_15 + 1)), (0, .ref a_t), (1, .int x1), (2, .int y2_2)]) hx hb dX0_measure_48 hl (k := 3) rfl rfl (by decide) rfl (fun ls hl => ?_)
                refine lv_goto (tgt := 15) hx hb dX0_measure_51 (by decide) ?_
                exact ih (y3_15 + 1) u7 _ _ _ _ hf hP hS (lv_sub hl [1, 2, 3, 0] rfl) kk
              · intro J47_6 hf
                refine lv_icmp_ne (tgt := 45) hx hb dX0_measure_38 (by decide) (fun c8 => ?_) (fun c8 => ?_)
                · have hf := ob_fk c8 hf
                  refine lv_bipush (v := 99) hx hb dX0_measure_45 (by decide) ?_
                  exact J47_6 (99 : Int32) hf _ _ _ hP hS (lv_sub hl [0, 1, 2, 3] rfl)
                · have hf := ob_tk c8 hf
                  refine lv_iconst (v := 0) hx hb dX0_measure_41 (by decide) ?_
                  refine lv_goto (tgt := 47) hx hb dX0_measure_42 (by decide) ?_
                  exact J47_6 (0 : Int32) hf _ _ _ hP hS (lv_sub hl [0, 1, 2, 3] rfl)
        obtain ⟨u9, hu9, hf⟩ := ob_b hf
        refine L15_3 FU (0 : Int32) z_apart_2 u9 _ _ _ hu9 hP hS (lv_sub hl [1, 2, 3, 0] rfl) ?_
        intro H locs ls hP hS hl
        refine lv_iinc (v := (y2_2 + 1)) (lv' := [(2, .int (y2_2 + 1)), (0, .ref a_t), (1, .int x1)]) hx hb dX0_measure_54 hl (k := 2) rfl rfl (by decide) rfl (fun ls hl => ?_)
        refine lv_goto (tgt := 2) hx hb dX0_measure_57 (by decide) ?_
        exact ih (y2_2 + 1) u9 _ _ _ _ hf hP hS (lv_sub hl [1, 2, 0] rfl) kk
  obtain ⟨u10, hu10, hf⟩ := ob_b hf
  refine L2_1 FU (0 : Int32) v_apart u10 _ _ _ hu10 hP hS (lv_sub hl [1, 2, 0] rfl) ?_
  intro H locs ls hP hS hl
  refine lv_iconst (v := 0) hx hb dX0_measure_60 (by decide) ?_
  refine lv_istore_n (lv' := [(2, .int (0 : Int32)), (0, .ref a_t), (1, .int x1)]) hx hb dX0_measure_61 rfl hl (by decide) rfl (fun ls hl => ?_)
  have L62_11 : ∀ (n : Nat) (y2_62 : Int32) (z_apart_62 : Nat → Int32) (o : (Nat → Int32)) (H : Heap) (locs : List Loc) (ls : Array Slot), f_X0_measure_62 v_scene_seats v_scene_steps x1 n y2_62 z_apart_62 = some o → va_P D vwCl [(a_t, .inr (0, [.ref a_scene, .ref a_apart, .ref a_clash, .ref a_neighbours])), (a_scene, .inr (7, [.ref a_scene_steps, .ref a_scene_worths, .ref a_scene_comers, .ref a_scene_seen, .ref a_scene_seenLengths, .int v_scene_seats, .int v_scene_bear, .int v_scene_comerCount, .int v_scene_seenRows])), (a_apart, eI cI 144 z_apart_62), (a_scene_steps, eI cI 12 v_scene_steps), (a_clash, eI cI 12 v_clash), (a_neighbours, eI cI 12 v_neighbours)] H → va_S A s.heap H locs → lv_has ls 4 [(0, .ref a_t), (1, .int x1), (2, .int y2_62)] → (∀ (H : Heap) (locs : List Loc) (ls : Array Slot), va_P D vwCl [(a_t, .inr (0, [.ref a_scene, .ref a_apart, .ref a_clash, .ref a_neighbours])), (a_scene, .inr (7, [.ref a_scene_steps, .ref a_scene_worths, .ref a_scene_comers, .ref a_scene_seen, .ref a_scene_seenLengths, .int v_scene_seats, .int v_scene_bear, .int v_scene_comerCount, .int v_scene_seenRows])), (a_apart, eI cI 144 o), (a_scene_steps, eI cI 12 v_scene_steps), (a_clash, eI cI 12 v_clash), (a_neighbours, eI cI 12 v_neighbours)] H → va_S A s.heap H locs → lv_has ls 4 [(0, .ref a_t)] → W p l e { frames := 1, cells := 0, slots := 0, locals := 27 } s m args below meth c H locs 0 0 Q (F0 m 85 ls [])) → W p l e { frames := 1, cells := 0, slots := 0, locals := 27 } s m args below meth c H locs 0 0 Q (F0 m 62 ls []) := by
    intro n
    induction n with
    | zero => intro y2_62 z_apart_62 o H locs ls hf; exact (ob_n hf).elim
    | succ n ih =>
      intro y2_62 z_apart_62 o H locs ls hf hP hS hl kk
      rw [f_X0_measure_62_s] at hf
      refine lv_iload_n hx hb dX0_measure_62 rfl (lv_at hl 2 rfl) ?_
      refine lv_aload_n hx hb dX0_measure_63 rfl (lv_at hl 0 rfl) ?_
      refine gf_X0_9 Cx hP 0 rfl rfl dX0_measure_64 ?_
      refine gf_X0_25 Cx hP 1 rfl rfl dX0_measure_67 ?_
      refine lv_icmp_ge (tgt := 85) hx hb dX0_measure_70 (by decide) (fun c12 => ?_) (fun c12 => ?_)
      · have hf := ob_t c12 hf
        obtain rfl := Option.some.inj hf
        exact kk _ _ _ hP hS (lv_sub hl [0] rfl)
      · have hf := ob_f c12 hf
        refine lv_aload_n hx hb dX0_measure_73 rfl (lv_at hl 0 rfl) ?_
        refine lv_iload_n hx hb dX0_measure_74 rfl (lv_at hl 2 rfl) ?_
        refine lv_iload_n hx hb dX0_measure_75 rfl (lv_at hl 1 rfl) ?_
        obtain ⟨u13, hu13, hf⟩ := ob_b hf
        refine iv_X0_31 (As := [.int y2_62, .int x1]) (rest := []) (is := [0, 1, 3, 2]) (q0 := 0) (X' := [(a_t, .inr (0, [.ref a_scene, .ref a_apart, .ref a_clash, .ref a_neighbours])), (a_scene, .inr (7, [.ref a_scene_steps, .ref a_scene_worths, .ref a_scene_comers, .ref a_scene_seen, .ref a_scene_seenLengths, .int v_scene_seats, .int v_scene_bear, .int v_scene_comerCount, .int v_scene_seenRows])), (a_apart, eI cI 144 u13), (a_scene_steps, eI cI 12 v_scene_steps), (a_clash, eI cI 12 v_clash), (a_neighbours, eI cI 12 v_neighbours)]) Cx (c_X0_walkOn l D cI cJ cZ cO a_t a_scene a_apart a_clash a_neighbours a_scene_steps a_scene_worths a_scene_comers a_scene_seen a_scene_seenLengths v_scene_seats v_scene_bear v_scene_comerCount v_scene_seenRows v_scene_steps z_apart_62 y2_62 x1 u13 hu13) hP hS rfl rfl rfl rfl rfl rfl rfl hl.1 (Nat.le_of_ble_eq_true rfl) dX0_measure_76 rfl rfl ⟨Nat.le_of_ble_eq_true rfl, Nat.le_of_ble_eq_true rfl⟩ ⟨Nat.zero_le _, Nat.zero_le _⟩ rfl (fun H locs hP hS => ?_)
        refine lv_iinc (v := (y2_62 + 1)) (lv' := [(2, .int (y2_62 + 1)), (0, .ref a_t), (1, .int x1)]) hx hb dX0_measure_79 hl (k := 2) rfl rfl (by decide) rfl (fun ls hl => ?_)
        refine lv_goto (tgt := 62) hx hb dX0_measure_82 (by decide) ?_
        exact ih (y2_62 + 1) u13 _ _ _ _ hf hP hS (lv_sub hl [1, 2, 0] rfl) kk
  obtain ⟨u14, hu14, hf⟩ := ob_b hf
  refine L62_11 FU (0 : Int32) u10 u14 _ _ _ hu14 hP hS (lv_sub hl [1, 2, 0] rfl) ?_
  intro H locs ls hP hS hl
  refine lv_iconst (v := 0) hx hb dX0_measure_85 (by decide) ?_
  refine lv_istore_n (lv' := [(2, .int (0 : Int32)), (0, .ref a_t)]) hx hb dX0_measure_86 rfl hl (by decide) rfl (fun ls hl => ?_)
  have L87_15 : ∀ (n : Nat) (y2_87 : Int32) (z_clash_87 : Nat → Int32) (z_neighbours_87 : Nat → Int32) (o : (Nat → Int32) × (Nat → Int32)) (H : Heap) (locs : List Loc) (ls : Array Slot), f_X0_measure_87 v_scene_seats v_scene_bear u14 n y2_87 z_clash_87 z_neighbours_87 = some o → va_P D vwCl [(a_t, .inr (0, [.ref a_scene, .ref a_apart, .ref a_clash, .ref a_neighbours])), (a_scene, .inr (7, [.ref a_scene_steps, .ref a_scene_worths, .ref a_scene_comers, .ref a_scene_seen, .ref a_scene_seenLengths, .int v_scene_seats, .int v_scene_bear, .int v_scene_comerCount, .int v_scene_seenRows])), (a_apart, eI cI 144 u14), (a_scene_steps, eI cI 12 v_scene_steps), (a_clash, eI cI 12 z_clash_87), (a_neighbours, eI cI 12 z_neighbours_87)] H → va_S A s.heap H locs → lv_has ls 4 [(0, .ref a_t), (2, .int y2_87)] → (∀ (H : Heap) (locs : List Loc) (ls : Array Slot), va_P D vwCl [(a_t, .inr (0, [.ref a_scene, .ref a_apart, .ref a_clash, .ref a_neighbours])), (a_scene, .inr (7, [.ref a_scene_steps, .ref a_scene_worths, .ref a_scene_comers, .ref a_scene_seen, .ref a_scene_seenLengths, .int v_scene_seats, .int v_scene_bear, .int v_scene_comerCount, .int v_scene_seenRows])), (a_apart, eI cI 144 u14), (a_scene_steps, eI cI 12 v_scene_steps), (a_clash, eI cI 12 o.1), (a_neighbours, eI cI 12 o.2)] H → va_S A s.heap H locs → lv_has ls 4 [] → W p l e { frames := 1, cells := 0, slots := 0, locals := 27 } s m args below meth c H locs 0 0 Q (F0 m 109 ls [])) → W p l e { frames := 1, cells := 0, slots := 0, locals := 27 } s m args below meth c H locs 0 0 Q (F0 m 87 ls []) := by
    intro n
    induction n with
    | zero => intro y2_87 z_clash_87 z_neighbours_87 o H locs ls hf; exact (ob_n hf).elim
    | succ n ih =>
      intro y2_87 z_clash_87 z_neighbours_87 o H locs ls hf hP hS hl kk
      rw [f_X0_measure_87_s] at hf
      refine lv_iload_n hx hb dX0_measure_87 rfl (lv_at hl 1 rfl) ?_
      refine lv_aload_n hx hb dX0_measure_88 rfl (lv_at hl 0 rfl) ?_
      refine gf_X0_9 Cx hP 0 rfl rfl dX0_measure_89 ?_
      refine gf_X0_25 Cx hP 1 rfl rfl dX0_measure_92 ?_
      refine lv_icmp_ge (tgt := 109) hx hb dX0_measure_95 (by decide) (fun c16 => ?_) (fun c16 => ?_)
      · have hf := ob_t c16 hf
        obtain rfl := Option.some.inj hf
        exact kk _ _ _ hP hS (lv_sub hl [] rfl)
      · have hf := ob_f c16 hf
        refine lv_aload_n hx hb dX0_measure_98 rfl (lv_at hl 0 rfl) ?_
        refine lv_iload_n hx hb dX0_measure_99 rfl (lv_at hl 1 rfl) ?_
        obtain ⟨u17, hu17, hf⟩ := ob_b hf
        refine iv_X0_35 (As := [.int y2_87]) (rest := []) (is := [0, 1, 2, 4, 5]) (q0 := 0) (X' := [(a_t, .inr (0, [.ref a_scene, .ref a_apart, .ref a_clash, .ref a_neighbours])), (a_scene, .inr (7, [.ref a_scene_steps, .ref a_scene_worths, .ref a_scene_comers, .ref a_scene_seen, .ref a_scene_seenLengths, .int v_scene_seats, .int v_scene_bear, .int v_scene_comerCount, .int v_scene_seenRows])), (a_apart, eI cI 144 u14), (a_scene_steps, eI cI 12 v_scene_steps), (a_clash, eI cI 12 u17.1), (a_neighbours, eI cI 12 u17.2)]) Cx (c_X0_lookRound l D cI cJ cZ cO a_t a_scene a_apart a_clash a_neighbours a_scene_steps a_scene_worths a_scene_comers a_scene_seen a_scene_seenLengths v_scene_seats v_scene_bear v_scene_comerCount v_scene_seenRows u14 z_clash_87 z_neighbours_87 y2_87 u17 hu17) hP hS rfl rfl rfl rfl rfl rfl rfl hl.1 (Nat.le_of_ble_eq_true rfl) dX0_measure_100 rfl rfl ⟨Nat.le_of_ble_eq_true rfl, Nat.le_of_ble_eq_true rfl⟩ ⟨Nat.zero_le _, Nat.zero_le _⟩ rfl (fun H locs hP hS => ?_)
        refine lv_iinc (v := (y2_87 + 1)) (lv' := [(2, .int (y2_87 + 1)), (0, .ref a_t)]) hx hb dX0_measure_103 hl (k := 1) rfl rfl (by decide) rfl (fun ls hl => ?_)
        refine lv_goto (tgt := 87) hx hb dX0_measure_106 (by decide) ?_
        exact ih (y2_87 + 1) u17.1 u17.2 _ _ _ _ hf hP hS (lv_sub hl [1, 0] rfl) kk
  obtain ⟨u18, hu18, hf⟩ := ob_b hf
  refine L87_15 FU (0 : Int32) v_clash v_neighbours u18 _ _ _ hu18 hP hS (lv_sub hl [1, 0] rfl) ?_
  intro H locs ls hP hS hl
  obtain rfl := Option.some.inj hf
  exact ret _ _ _ _ dX0_measure_109 hP hS

def f_X7_allSeats (v_seats : Int32) : Option (Int32) :=
  some (((1 : Int32) <<< (v_seats &&& 31)) - (1 : Int32))
set_option maxHeartbeats 4000000 in
set_option maxRecDepth 100000 in
theorem c_X7_allSeats (l : Launch) (D : va_G) (cI cJ cZ cO : ClassId) (a_t a_steps a_worths a_comers a_seen a_seenLengths : Nat) (v_seats : Int32) (v_bear : Int32) (v_comerCount : Int32) (v_seenRows : Int32) (out : Int32) (hf : f_X7_allSeats v_seats = some out) : MetR l yX7_allSeats (Cond.code yX7_allSeats cX7_allSeats 1 (some .int) :: tbG) { frames := 0, cells := 0, slots := 0, locals := 0 } D (tyL cI cJ cZ cO) [.ref a_t] [(a_t, .inr (7, [.ref a_steps, .ref a_worths, .ref a_comers, .ref a_seen, .ref a_seenLengths, .int v_seats, .int v_bear, .int v_comerCount, .int v_seenRows]))] (some (.int out)) [(a_t, .inr (7, [.ref a_steps, .ref a_worths, .ref a_comers, .ref a_seen, .ref a_seenLengths, .int v_seats, .int v_bear, .int v_comerCount, .int v_seenRows]))] := by
  refine ba_ofI RX7 [(0, .ref a_t)] (by decide +kernel) rfl (Nat.le_of_ble_eq_true rfl) rfl ?_
  intro p e s m args below meth c Q A Cx hP ret ls hl
  obtain ⟨⟨hx, hb, hml, hown, hts⟩, hK, hD, hA⟩ := id Cx
  have hS : va_S A s.heap s.heap [] := va_S.rf
  unfold f_X7_allSeats at hf
  refine lv_iconst (v := 1) hx hb dX7_allSeats_0 (by decide) ?_
  refine lv_aload_n hx hb dX7_allSeats_1 rfl (lv_at hl 0 rfl) ?_
  refine gf_X7_27 Cx hP 0 rfl rfl dX7_allSeats_2 ?_
  refine lv_ishl hx hb dX7_allSeats_5 ?_
  refine lv_iconst (v := 1) hx hb dX7_allSeats_6 (by decide) ?_
  refine lv_isub hx hb dX7_allSeats_7 ?_
  obtain rfl := Option.some.inj hf
  exact ret _ _ _ _ dX7_allSeats_8 hP hS

def f_X8_list_42 (v_p1 : Nat → Int32) (y4_27 : Int32) (z_size_27 : Int32) : Nat → Int32 → Int32 → (Nat → Int32) → (Nat → Int32) → Option (Int32 × (Nat → Int32) × (Nat → Int32))
  | 0, _, _, _, _ => none
  | n + 1, y6_42, z_size_42, z_filled_42, z_open_42 =>
  if z_size_27 ≤ y6_42 then
  some (z_size_42, z_filled_42, z_open_42)
  else
  if (4096 : Int32) ≤ z_size_42 then
  some (z_size_42, z_filled_42, z_open_42)
  else
  (aget 4096 z_open_42 y6_42).bind (fun u8 =>
  (if ((u8 >>> (y4_27 &&& 31)) &&& (1 : Int32)) = 0 then
  some (z_size_42, z_filled_42, z_open_42)
  else
  (aget 4096 z_filled_42 y6_42).bind (fun u12 =>
  (asetI 4096 z_filled_42 z_size_42 (u12 ||| ((1 : Int32) <<< (y4_27 &&& 31)))).bind (fun u13 =>
  (aget 4096 z_open_42 y6_42).bind (fun u14 =>
  (aget 12 v_p1 y4_27).bind (fun u15 =>
  (asetI 4096 z_open_42 z_size_42 (u14 &&& (u15 ^^^ (-1 : Int32)))).bind (fun u16 =>
  some ((z_size_42 + (1 : Int32)), u13, u16))))))).bind (fun w9 =>
  f_X8_list_42 v_p1 y4_27 z_size_27 n (y6_42 + 1) w9.1 w9.2.1 w9.2.2))
theorem f_X8_list_42_s (v_p1 : Nat → Int32) (y4_27 : Int32) (z_size_27 : Int32) (n : Nat) (y6_42 : Int32) (z_size_42 : Int32) (z_filled_42 : Nat → Int32) (z_open_42 : Nat → Int32) : f_X8_list_42 v_p1 y4_27 z_size_27 (n + 1) y6_42 z_size_42 z_filled_42 z_open_42 =
  (if z_size_27 ≤ y6_42 then
  some (z_size_42, z_filled_42, z_open_42)
  else
  if (4096 : Int32) ≤ z_size_42 then
  some (z_size_42, z_filled_42, z_open_42)
  else
  (aget 4096 z_open_42 y6_42).bind (fun u8 =>
  (if ((u8 >>> (y4_27 &&& 31)) &&& (1 : Int32)) = 0 then
  some (z_size_42, z_filled_42, z_open_42)
  else
  (aget 4096 z_filled_42 y6_42).bind (fun u12 =>
  (asetI 4096 z_filled_42 z_size_42 (u12 ||| ((1 : Int32) <<< (y4_27 &&& 31)))).bind (fun u13 =>
  (aget 4096 z_open_42 y6_42).bind (fun u14 =>
  (aget 12 v_p1 y4_27).bind (fun u15 =>
  (asetI 4096 z_open_42 z_size_42 (u14 &&& (u15 ^^^ (-1 : Int32)))).bind (fun u16 =>
  some ((z_size_42 + (1 : Int32)), u13, u16))))))).bind (fun w9 =>
  f_X8_list_42 v_p1 y4_27 z_size_27 n (y6_42 + 1) w9.1 w9.2.1 w9.2.2))) := rfl
def f_X8_list_27 (v_p1 : Nat → Int32) (x2 : Int32) : Nat → Int32 → Int32 → (Nat → Int32) → (Nat → Int32) → Option (Int32 × (Nat → Int32) × (Nat → Int32))
  | 0, _, _, _, _ => none
  | n + 1, y4_27, z_size_27, z_filled_27, z_open_27 =>
  if x2 ≤ y4_27 then
  some (z_size_27, z_filled_27, z_open_27)
  else
  (f_X8_list_42 v_p1 y4_27 z_size_27 FU (0 : Int32) z_size_27 z_filled_27 z_open_27).bind (fun u17 =>
  f_X8_list_27 v_p1 x2 n (y4_27 + 1) u17.1 u17.2.1 u17.2.2)
theorem f_X8_list_27_s (v_p1 : Nat → Int32) (x2 : Int32) (n : Nat) (y4_27 : Int32) (z_size_27 : Int32) (z_filled_27 : Nat → Int32) (z_open_27 : Nat → Int32) : f_X8_list_27 v_p1 x2 (n + 1) y4_27 z_size_27 z_filled_27 z_open_27 =
  (if x2 ≤ y4_27 then
  some (z_size_27, z_filled_27, z_open_27)
  else
  (f_X8_list_42 v_p1 y4_27 z_size_27 FU (0 : Int32) z_size_27 z_filled_27 z_open_27).bind (fun u17 =>
  f_X8_list_27 v_p1 x2 n (y4_27 + 1) u17.1 u17.2.1 u17.2.2)) := rfl
def f_X8_list (v_filled : Nat → Int32) (v_open : Nat → Int32) (v_p1 : Nat → Int32) (x2 : Int32) (x3 : Int32) : Option (Int32 × Int32 × (Nat → Int32) × (Nat → Int32)) :=
  (asetI 4096 v_filled (0 : Int32) (0 : Int32)).bind (fun u1 =>
  (asetI 4096 v_open (0 : Int32) x3).bind (fun u2 =>
  (f_X8_list_27 v_p1 x2 FU (0 : Int32) (1 : Int32) u1 u2).bind (fun u18 =>
  some (u18.1, x2, u18.2.1, u18.2.2))))
set_option maxHeartbeats 4000000 in
set_option maxRecDepth 100000 in
theorem c_X8_list (l : Launch) (D : va_G) (cI cJ cZ cO : ClassId) (a_t a_filled a_open a_chance a_p1 : Nat) (v_size : Int32) (v_places : Int32) (v_filled : Nat → Int32) (v_open : Nat → Int32) (v_p1 : Nat → Int32) (x2 : Int32) (x3 : Int32) (out : Int32 × Int32 × (Nat → Int32) × (Nat → Int32)) (hf : f_X8_list v_filled v_open v_p1 x2 x3 = some out) : MetR l yX8_list (Cond.code yX8_list cX8_list 7 none :: tbG) { frames := 0, cells := 0, slots := 0, locals := 0 } D (tyL cI cJ cZ cO) [.ref a_t, .ref a_p1, .int x2, .int x3] [(a_t, .inr (8, [.ref a_filled, .ref a_open, .ref a_chance, .int v_size, .int v_places])), (a_filled, eI cI 4096 v_filled), (a_open, eI cI 4096 v_open), (a_p1, eI cI 12 v_p1)] none [(a_t, .inr (8, [.ref a_filled, .ref a_open, .ref a_chance, .int out.1, .int out.2.1])), (a_filled, eI cI 4096 out.2.2.1), (a_open, eI cI 4096 out.2.2.2), (a_p1, eI cI 12 v_p1)] := by
  refine ba_ofV RX8 [(0, .ref a_t), (1, .ref a_p1), (2, .int x2), (3, .int x3)] (by decide +kernel) rfl (Nat.le_of_ble_eq_true rfl) rfl ?_
  intro p e s m args below meth c Q A Cx hP ret ls hl
  obtain ⟨⟨hx, hb, hml, hown, hts⟩, hK, hD, hA⟩ := id Cx
  have hS : va_S A s.heap s.heap [] := va_S.rf
  unfold f_X8_list at hf
  refine lv_aload_n hx hb dX8_list_0 rfl (lv_at hl 0 rfl) ?_
  refine gf_X8_9 Cx hP 0 rfl rfl dX8_list_1 ?_
  refine lv_iconst (v := 0) hx hb dX8_list_4 (by decide) ?_
  refine lv_iconst (v := 0) hx hb dX8_list_5 (by decide) ?_
  obtain ⟨u1, hu1, hf⟩ := ob_b hf
  refine ba_iast (X' := [(a_t, .inr (8, [.ref a_filled, .ref a_open, .ref a_chance, .int v_size, .int v_places])), (a_filled, eI cI 4096 u1), (a_open, eI cI 4096 v_open), (a_p1, eI cI 12 v_p1)]) Cx hP hS rfl 1 rfl rfl hu1 dX8_list_6 (fun H locs hP hS => ?_)
  refine lv_aload_n hx hb dX8_list_7 rfl (lv_at hl 0 rfl) ?_
  refine gf_X8_15 Cx hP 0 rfl rfl dX8_list_8 ?_
  refine lv_iconst (v := 0) hx hb dX8_list_11 (by decide) ?_
  refine lv_iload_n hx hb dX8_list_12 rfl (lv_at hl 3 rfl) ?_
  obtain ⟨u2, hu2, hf⟩ := ob_b hf
  refine ba_iast (X' := [(a_t, .inr (8, [.ref a_filled, .ref a_open, .ref a_chance, .int v_size, .int v_places])), (a_filled, eI cI 4096 u1), (a_open, eI cI 4096 u2), (a_p1, eI cI 12 v_p1)]) Cx hP hS rfl 2 rfl rfl hu2 dX8_list_13 (fun H locs hP hS => ?_)
  refine lv_aload_n hx hb dX8_list_14 rfl (lv_at hl 0 rfl) ?_
  refine lv_iconst (v := 1) hx hb dX8_list_15 (by decide) ?_
  refine pf_X8_21 (X' := [(a_t, .inr (8, [.ref a_filled, .ref a_open, .ref a_chance, .int (1 : Int32), .int v_places])), (a_filled, eI cI 4096 u1), (a_open, eI cI 4096 u2), (a_p1, eI cI 12 v_p1)]) Cx hP hS rfl 0 rfl rfl (Nat.le_of_ble_eq_true rfl) dX8_list_16 (fun H locs hP hS => ?_)
  refine lv_aload_n hx hb dX8_list_19 rfl (lv_at hl 0 rfl) ?_
  refine lv_iload_n hx hb dX8_list_20 rfl (lv_at hl 2 rfl) ?_
  refine pf_X8_25 (X' := [(a_t, .inr (8, [.ref a_filled, .ref a_open, .ref a_chance, .int (1 : Int32), .int x2])), (a_filled, eI cI 4096 u1), (a_open, eI cI 4096 u2), (a_p1, eI cI 12 v_p1)]) Cx hP hS rfl 0 rfl rfl (Nat.le_of_ble_eq_true rfl) dX8_list_21 (fun H locs hP hS => ?_)
  refine lv_iconst (v := 0) hx hb dX8_list_24 (by decide) ?_
  refine lv_istore (lv' := [(4, .int (0 : Int32)), (0, .ref a_t), (1, .ref a_p1), (2, .int x2), (3, .int x3)]) hx hb dX8_list_25 hl (by decide) rfl (fun ls hl => ?_)
  have L27_3 : ∀ (n : Nat) (y4_27 : Int32) (z_size_27 : Int32) (z_filled_27 : Nat → Int32) (z_open_27 : Nat → Int32) (o : Int32 × (Nat → Int32) × (Nat → Int32)) (H : Heap) (locs : List Loc) (ls : Array Slot), f_X8_list_27 v_p1 x2 n y4_27 z_size_27 z_filled_27 z_open_27 = some o → va_P D vwCl [(a_t, .inr (8, [.ref a_filled, .ref a_open, .ref a_chance, .int z_size_27, .int x2])), (a_filled, eI cI 4096 z_filled_27), (a_open, eI cI 4096 z_open_27), (a_p1, eI cI 12 v_p1)] H → va_S A s.heap H locs → lv_has ls 7 [(0, .ref a_t), (1, .ref a_p1), (2, .int x2), (4, .int y4_27)] → (∀ (H : Heap) (locs : List Loc) (ls : Array Slot), va_P D vwCl [(a_t, .inr (8, [.ref a_filled, .ref a_open, .ref a_chance, .int o.1, .int x2])), (a_filled, eI cI 4096 o.2.1), (a_open, eI cI 4096 o.2.2), (a_p1, eI cI 12 v_p1)] H → va_S A s.heap H locs → lv_has ls 7 [] → W p l e { frames := 0, cells := 0, slots := 0, locals := 0 } s m args below meth c H locs 0 0 Q (F0 m 140 ls [])) → W p l e { frames := 0, cells := 0, slots := 0, locals := 0 } s m args below meth c H locs 0 0 Q (F0 m 27 ls []) := by
    intro n
    induction n with
    | zero => intro y4_27 z_size_27 z_filled_27 z_open_27 o H locs ls hf; exact (ob_n hf).elim
    | succ n ih =>
      intro y4_27 z_size_27 z_filled_27 z_open_27 o H locs ls hf hP hS hl kk
      rw [f_X8_list_27_s] at hf
      refine lv_iload hx hb dX8_list_27 (lv_at hl 3 rfl) ?_
      refine lv_iload_n hx hb dX8_list_29 rfl (lv_at hl 2 rfl) ?_
      refine lv_icmp_ge (tgt := 140) hx hb dX8_list_30 (by decide) (fun c4 => ?_) (fun c4 => ?_)
      · have hf := ob_t c4 hf
        obtain rfl := Option.some.inj hf
        exact kk _ _ _ hP hS (lv_sub hl [] rfl)
      · have hf := ob_f c4 hf
        refine lv_aload_n hx hb dX8_list_33 rfl (lv_at hl 0 rfl) ?_
        refine gf_X8_21 Cx hP 0 rfl rfl dX8_list_34 ?_
        refine lv_istore (lv' := [(5, .int z_size_27), (0, .ref a_t), (1, .ref a_p1), (2, .int x2), (4, .int y4_27)]) hx hb dX8_list_37 hl (by decide) rfl (fun ls hl => ?_)
        refine lv_iconst (v := 0) hx hb dX8_list_39 (by decide) ?_
        refine lv_istore (lv' := [(6, .int (0 : Int32)), (5, .int z_size_27), (0, .ref a_t), (1, .ref a_p1), (2, .int x2), (4, .int y4_27)]) hx hb dX8_list_40 hl (by decide) rfl (fun ls hl => ?_)
        have L42_5 : ∀ (n : Nat) (y6_42 : Int32) (z_size_42 : Int32) (z_filled_42 : Nat → Int32) (z_open_42 : Nat → Int32) (o : Int32 × (Nat → Int32) × (Nat → Int32)) (H : Heap) (locs : List Loc) (ls : Array Slot), f_X8_list_42 v_p1 y4_27 z_size_27 n y6_42 z_size_42 z_filled_42 z_open_42 = some o → va_P D vwCl [(a_t, .inr (8, [.ref a_filled, .ref a_open, .ref a_chance, .int z_size_42, .int x2])), (a_filled, eI cI 4096 z_filled_42), (a_open, eI cI 4096 z_open_42), (a_p1, eI cI 12 v_p1)] H → va_S A s.heap H locs → lv_has ls 7 [(0, .ref a_t), (1, .ref a_p1), (2, .int x2), (4, .int y4_27), (5, .int z_size_27), (6, .int y6_42)] → (∀ (H : Heap) (locs : List Loc) (ls : Array Slot), va_P D vwCl [(a_t, .inr (8, [.ref a_filled, .ref a_open, .ref a_chance, .int o.1, .int x2])), (a_filled, eI cI 4096 o.2.1), (a_open, eI cI 4096 o.2.2), (a_p1, eI cI 12 v_p1)] H → va_S A s.heap H locs → lv_has ls 7 [(0, .ref a_t), (1, .ref a_p1), (2, .int x2), (4, .int y4_27)] → W p l e { frames := 0, cells := 0, slots := 0, locals := 0 } s m args below meth c H locs 0 0 Q (F0 m 134 ls [])) → W p l e { frames := 0, cells := 0, slots := 0, locals := 0 } s m args below meth c H locs 0 0 Q (F0 m 42 ls []) := by
          intro n
          induction n with
          | zero => intro y6_42 z_size_42 z_filled_42 z_open_42 o H locs ls hf; exact (ob_n hf).elim
          | succ n ih =>
            intro y6_42 z_size_42 z_filled_42 z_open_42 o H locs ls hf hP hS hl kk
            rw [f_X8_list_42_s] at hf
            refine lv_iload hx hb dX8_list_42 (lv_at hl 5 rfl) ?_
            refine lv_iload hx hb dX8_list_44 (lv_at hl 4 rfl) ?_
            refine lv_icmp_ge (tgt := 134) hx hb dX8_list_46 (by decide) (fun c6 => ?_) (fun c6 => ?_)
            · have hf := ob_t c6 hf
              obtain rfl := Option.some.inj hf
              exact kk _ _ _ hP hS (lv_sub hl [0, 1, 2, 3] rfl)
            · have hf := ob_f c6 hf
              refine lv_aload_n hx hb dX8_list_49 rfl (lv_at hl 0 rfl) ?_
              refine gf_X8_21 Cx hP 0 rfl rfl dX8_list_50 ?_
              refine lv_sipush (v := 4096) hx hb dX8_list_53 (by decide) ?_
              refine lv_icmp_ge (tgt := 134) hx hb dX8_list_56 (by decide) (fun c7 => ?_) (fun c7 => ?_)
              · have hf := ob_t c7 hf
                obtain rfl := Option.some.inj hf
                exact kk _ _ _ hP hS (lv_sub hl [0, 1, 2, 3] rfl)
              · have hf := ob_f c7 hf
                refine lv_aload_n hx hb dX8_list_59 rfl (lv_at hl 0 rfl) ?_
                refine gf_X8_15 Cx hP 0 rfl rfl dX8_list_60 ?_
                refine lv_iload hx hb dX8_list_63 (lv_at hl 5 rfl) ?_
                obtain ⟨u8, hu8, hf⟩ := ob_b hf
                refine ba_iald Cx hP 2 rfl hu8 dX8_list_65 ?_
                refine lv_iload hx hb dX8_list_66 (lv_at hl 3 rfl) ?_
                refine lv_ishr hx hb dX8_list_68 ?_
                refine lv_iconst (v := 1) hx hb dX8_list_69 (by decide) ?_
                refine lv_iand hx hb dX8_list_70 ?_
                refine ob_J (P := fun w9 => ∀ (H : Heap) (locs : List Loc) (ls : Array Slot), va_P D vwCl [(a_t, .inr (8, [.ref a_filled, .ref a_open, .ref a_chance, .int w9.1, .int x2])), (a_filled, eI cI 4096 w9.2.1), (a_open, eI cI 4096 w9.2.2), (a_p1, eI cI 12 v_p1)] H → va_S A s.heap H locs → lv_has ls 7 [(0, .ref a_t), (1, .ref a_p1), (2, .int x2), (4, .int y4_27), (5, .int z_size_27), (6, .int y6_42)] → W p l e { frames := 0, cells := 0, slots := 0, locals := 0 } s m args below meth c H locs 0 0 Q (F0 m 128 ls [])) hf ?_ ?_
                · intro w9 hf H locs ls hP hS hl
                  refine lv_iinc (v := (y6_42 + 1)) (lv' := [(6, .int (y6_42 + 1)), (0, .ref a_t), (1, .ref a_p1), (2, .int x2), (4, .int y4_27), (5, .int z_size_27)]) hx hb dX8_list_128 hl (k := 5) rfl rfl (by decide) rfl (fun ls hl => ?_)
                  refine lv_goto (tgt := 42) hx hb dX8_list_131 (by decide) ?_
                  exact ih (y6_42 + 1) w9.1 w9.2.1 w9.2.2 _ _ _ _ hf hP hS (lv_sub hl [1, 2, 3, 4, 5, 0] rfl) kk
                · intro J128_10 hf
                  refine lv_if_eq (tgt := 128) hx hb dX8_list_71 (by decide) (fun c11 => ?_) (fun c11 => ?_)
                  · have hf := ob_tk c11 hf
                    exact J128_10 (z_size_42, z_filled_42, z_open_42) hf _ _ _ hP hS (lv_sub hl [0, 1, 2, 3, 4, 5] rfl)
                  · have hf := ob_fk c11 hf
                    refine lv_aload_n hx hb dX8_list_74 rfl (lv_at hl 0 rfl) ?_
                    refine gf_X8_9 Cx hP 0 rfl rfl dX8_list_75 ?_
                    refine lv_aload_n hx hb dX8_list_78 rfl (lv_at hl 0 rfl) ?_
                    refine gf_X8_21 Cx hP 0 rfl rfl dX8_list_79 ?_
                    refine lv_aload_n hx hb dX8_list_82 rfl (lv_at hl 0 rfl) ?_
                    refine gf_X8_9 Cx hP 0 rfl rfl dX8_list_83 ?_
                    refine lv_iload hx hb dX8_list_86 (lv_at hl 5 rfl) ?_
                    obtain ⟨u12, hu12, hf⟩ := ob_bk hf
                    refine ba_iald Cx hP 1 rfl hu12 dX8_list_88 ?_
                    refine lv_iconst (v := 1) hx hb dX8_list_89 (by decide) ?_
                    refine lv_iload hx hb dX8_list_90 (lv_at hl 3 rfl) ?_
                    refine lv_ishl hx hb dX8_list_92 ?_
                    refine lv_ior hx hb dX8_list_93 ?_
                    obtain ⟨u13, hu13, hf⟩ := ob_bk hf
                    refine ba_iast (X' := [(a_t, .inr (8, [.ref a_filled, .ref a_open, .ref a_chance, .int z_size_42, .int x2])), (a_filled, eI cI 4096 u13), (a_open, eI cI 4096 z_open_42), (a_p1, eI cI 12 v_p1)]) Cx hP hS rfl 1 rfl rfl hu13 dX8_list_94 (fun H locs hP hS => ?_)
                    refine lv_aload_n hx hb dX8_list_95 rfl (lv_at hl 0 rfl) ?_
                    refine gf_X8_15 Cx hP 0 rfl rfl dX8_list_96 ?_
                    refine lv_aload_n hx hb dX8_list_99 rfl (lv_at hl 0 rfl) ?_
                    refine gf_X8_21 Cx hP 0 rfl rfl dX8_list_100 ?_
                    refine lv_aload_n hx hb dX8_list_103 rfl (lv_at hl 0 rfl) ?_
                    refine gf_X8_15 Cx hP 0 rfl rfl dX8_list_104 ?_
                    refine lv_iload hx hb dX8_list_107 (lv_at hl 5 rfl) ?_
                    obtain ⟨u14, hu14, hf⟩ := ob_bk hf
                    refine ba_iald Cx hP 2 rfl hu14 dX8_list_109 ?_
                    refine lv_aload_n hx hb dX8_list_110 rfl (lv_at hl 1 rfl) ?_
                    refine lv_iload hx hb dX8_list_111 (lv_at hl 3 rfl) ?_
                    obtain ⟨u15, hu15, hf⟩ := ob_bk hf
                    refine ba_iald Cx hP 3 rfl hu15 dX8_list_113 ?_
                    refine lv_iconst (v := (-1)) hx hb dX8_list_114 (by decide) ?_
                    refine lv_ixor hx hb dX8_list_115 ?_
                    refine lv_iand hx hb dX8_list_116 ?_
                    obtain ⟨u16, hu16, hf⟩ := ob_bk hf
                    refine ba_iast (X' := [(a_t, .inr (8, [.ref a_filled, .ref a_open, .ref a_chance, .int z_size_42, .int x2])), (a_filled, eI cI 4096 u13), (a_open, eI cI 4096 u16), (a_p1, eI cI 12 v_p1)]) Cx hP hS rfl 2 rfl rfl hu16 dX8_list_117 (fun H locs hP hS => ?_)
                    refine lv_aload_n hx hb dX8_list_118 rfl (lv_at hl 0 rfl) ?_
                    refine lv_dup hx hb dX8_list_119 rfl ?_
                    refine gf_X8_21 Cx hP 0 rfl rfl dX8_list_120 ?_
                    refine lv_iconst (v := 1) hx hb dX8_list_123 (by decide) ?_
                    refine lv_iadd hx hb dX8_list_124 ?_
                    refine pf_X8_21 (X' := [(a_t, .inr (8, [.ref a_filled, .ref a_open, .ref a_chance, .int (z_size_42 + (1 : Int32)), .int x2])), (a_filled, eI cI 4096 u13), (a_open, eI cI 4096 u16), (a_p1, eI cI 12 v_p1)]) Cx hP hS rfl 0 rfl rfl (Nat.le_of_ble_eq_true rfl) dX8_list_125 (fun H locs hP hS => ?_)
                    exact J128_10 ((z_size_42 + (1 : Int32)), u13, u16) hf _ _ _ hP hS (lv_sub hl [0, 1, 2, 3, 4, 5] rfl)
        obtain ⟨u17, hu17, hf⟩ := ob_b hf
        refine L42_5 FU (0 : Int32) z_size_27 z_filled_27 z_open_27 u17 _ _ _ hu17 hP hS (lv_sub hl [2, 3, 4, 5, 1, 0] rfl) ?_
        intro H locs ls hP hS hl
        refine lv_iinc (v := (y4_27 + 1)) (lv' := [(4, .int (y4_27 + 1)), (0, .ref a_t), (1, .ref a_p1), (2, .int x2)]) hx hb dX8_list_134 hl (k := 3) rfl rfl (by decide) rfl (fun ls hl => ?_)
        refine lv_goto (tgt := 27) hx hb dX8_list_137 (by decide) ?_
        exact ih (y4_27 + 1) u17.1 u17.2.1 u17.2.2 _ _ _ _ hf hP hS (lv_sub hl [1, 2, 3, 0] rfl) kk
  obtain ⟨u18, hu18, hf⟩ := ob_b hf
  refine L27_3 FU (0 : Int32) (1 : Int32) u1 u2 u18 _ _ _ hu18 hP hS (lv_sub hl [1, 2, 3, 0] rfl) ?_
  intro H locs ls hP hS hl
  obtain rfl := Option.some.inj hf
  exact ret _ _ _ _ dX8_list_140 hP hS

def f_X8_spreadChances_2 (v_size : Int32) (v_filled : Nat → Int32) : Nat → Int32 → (Nat → Int32) → Option ((Nat → Int32))
  | 0, _, _ => none
  | n + 1, y1_2, z_chance_2 =>
  if v_size ≤ y1_2 then
  some (z_chance_2)
  else
  (aget 4096 v_filled y1_2).bind (fun u3 =>
  (asetI 4096 z_chance_2 u3 (0 : Int32)).bind (fun u4 =>
  f_X8_spreadChances_2 v_size v_filled n (y1_2 + 1) u4))
theorem f_X8_spreadChances_2_s (v_size : Int32) (v_filled : Nat → Int32) (n : Nat) (y1_2 : Int32) (z_chance_2 : Nat → Int32) : f_X8_spreadChances_2 v_size v_filled (n + 1) y1_2 z_chance_2 =
  (if v_size ≤ y1_2 then
  some (z_chance_2)
  else
  (aget 4096 v_filled y1_2).bind (fun u3 =>
  (asetI 4096 z_chance_2 u3 (0 : Int32)).bind (fun u4 =>
  f_X8_spreadChances_2 v_size v_filled n (y1_2 + 1) u4))) := rfl
def f_X8_spreadChances_80 (v_places : Int32) (v_filled : Nat → Int32) (v_open : Nat → Int32) (u16 : Int32) (y1_38 : Int32) : Nat → Int32 → (Nat → Int32) → Option ((Nat → Int32))
  | 0, _, _ => none
  | n + 1, y4_80, z_chance_80 =>
  if v_places ≤ y4_80 then
  some (z_chance_80)
  else
  (aget 4096 v_open y1_38).bind (fun u19 =>
  (if ((u19 >>> (y4_80 &&& 31)) &&& (1 : Int32)) = 0 then
  some (z_chance_80)
  else
  (aget 4096 v_filled y1_38).bind (fun u23 =>
  (aget 4096 z_chance_80 (u23 ||| ((1 : Int32) <<< (y4_80 &&& 31)))).bind (fun u24 =>
  (asetI 4096 z_chance_80 (u23 ||| ((1 : Int32) <<< (y4_80 &&& 31))) (u24 + u16)).bind (fun u25 =>
  some (u25))))).bind (fun w20 =>
  f_X8_spreadChances_80 v_places v_filled v_open u16 y1_38 n (y4_80 + 1) w20))
theorem f_X8_spreadChances_80_s (v_places : Int32) (v_filled : Nat → Int32) (v_open : Nat → Int32) (u16 : Int32) (y1_38 : Int32) (n : Nat) (y4_80 : Int32) (z_chance_80 : Nat → Int32) : f_X8_spreadChances_80 v_places v_filled v_open u16 y1_38 (n + 1) y4_80 z_chance_80 =
  (if v_places ≤ y4_80 then
  some (z_chance_80)
  else
  (aget 4096 v_open y1_38).bind (fun u19 =>
  (if ((u19 >>> (y4_80 &&& 31)) &&& (1 : Int32)) = 0 then
  some (z_chance_80)
  else
  (aget 4096 v_filled y1_38).bind (fun u23 =>
  (aget 4096 z_chance_80 (u23 ||| ((1 : Int32) <<< (y4_80 &&& 31)))).bind (fun u24 =>
  (asetI 4096 z_chance_80 (u23 ||| ((1 : Int32) <<< (y4_80 &&& 31))) (u24 + u16)).bind (fun u25 =>
  some (u25))))).bind (fun w20 =>
  f_X8_spreadChances_80 v_places v_filled v_open u16 y1_38 n (y4_80 + 1) w20))) := rfl
def f_X8_spreadChances_38 (v_size : Int32) (v_places : Int32) (v_filled : Nat → Int32) (v_open : Nat → Int32) : Nat → Int32 → (Nat → Int32) → Option ((Nat → Int32))
  | 0, _, _ => none
  | n + 1, y1_38, z_chance_38 =>
  if v_size ≤ y1_38 then
  some (z_chance_38)
  else
  (aget 4096 v_open y1_38).bind (fun u9 =>
  (f_J6_bitCount_0f7a4 u9).bind (fun u10 =>
  (if u10 = 0 then
  some (z_chance_38)
  else
  (aget 4096 v_filled y1_38).bind (fun u14 =>
  (aget 4096 z_chance_38 u14).bind (fun u15 =>
  (odivI u15 u10).bind (fun u16 =>
  (f_X8_spreadChances_80 v_places v_filled v_open u16 y1_38 FU (0 : Int32) z_chance_38).bind (fun u26 =>
  some (u26)))))).bind (fun w11 =>
  f_X8_spreadChances_38 v_size v_places v_filled v_open n (y1_38 + 1) w11)))
theorem f_X8_spreadChances_38_s (v_size : Int32) (v_places : Int32) (v_filled : Nat → Int32) (v_open : Nat → Int32) (n : Nat) (y1_38 : Int32) (z_chance_38 : Nat → Int32) : f_X8_spreadChances_38 v_size v_places v_filled v_open (n + 1) y1_38 z_chance_38 =
  (if v_size ≤ y1_38 then
  some (z_chance_38)
  else
  (aget 4096 v_open y1_38).bind (fun u9 =>
  (f_J6_bitCount_0f7a4 u9).bind (fun u10 =>
  (if u10 = 0 then
  some (z_chance_38)
  else
  (aget 4096 v_filled y1_38).bind (fun u14 =>
  (aget 4096 z_chance_38 u14).bind (fun u15 =>
  (odivI u15 u10).bind (fun u16 =>
  (f_X8_spreadChances_80 v_places v_filled v_open u16 y1_38 FU (0 : Int32) z_chance_38).bind (fun u26 =>
  some (u26)))))).bind (fun w11 =>
  f_X8_spreadChances_38 v_size v_places v_filled v_open n (y1_38 + 1) w11)))) := rfl
def f_X8_spreadChances (v_size : Int32) (v_places : Int32) (v_filled : Nat → Int32) (v_chance : Nat → Int32) (v_open : Nat → Int32) : Option ((Nat → Int32)) :=
  (f_X8_spreadChances_2 v_size v_filled FU (0 : Int32) v_chance).bind (fun u5 =>
  (asetI 4096 u5 (0 : Int32) (479001600 : Int32)).bind (fun u6 =>
  (f_X8_spreadChances_38 v_size v_places v_filled v_open FU (0 : Int32) u6).bind (fun u27 =>
  some (u27))))
set_option maxHeartbeats 4000000 in
set_option maxRecDepth 100000 in
theorem c_X8_spreadChances (l : Launch) (D : va_G) (cI cJ cZ cO : ClassId) (a_t a_filled a_open a_chance : Nat) (v_size : Int32) (v_places : Int32) (v_filled : Nat → Int32) (v_chance : Nat → Int32) (v_open : Nat → Int32) (out : (Nat → Int32)) (hf : f_X8_spreadChances v_size v_places v_filled v_chance v_open = some out) : MetR l yX8_spreadChances (Cond.code yX8_spreadChances cX8_spreadChances 5 none :: tbG) { frames := 1, cells := 0, slots := 0, locals := 20 } D (tyL cI cJ cZ cO) [.ref a_t] [(a_t, .inr (8, [.ref a_filled, .ref a_open, .ref a_chance, .int v_size, .int v_places])), (a_filled, eI cI 4096 v_filled), (a_chance, eI cI 4096 v_chance), (a_open, eI cI 4096 v_open)] none [(a_t, .inr (8, [.ref a_filled, .ref a_open, .ref a_chance, .int v_size, .int v_places])), (a_filled, eI cI 4096 v_filled), (a_chance, eI cI 4096 out), (a_open, eI cI 4096 v_open)] := by
  refine ba_ofV RX8 [(0, .ref a_t)] (by decide +kernel) rfl (Nat.le_of_ble_eq_true rfl) rfl ?_
  intro p e s m args below meth c Q A Cx hP ret ls hl
  obtain ⟨⟨hx, hb, hml, hown, hts⟩, hK, hD, hA⟩ := id Cx
  have hS : va_S A s.heap s.heap [] := va_S.rf
  unfold f_X8_spreadChances at hf
  refine lv_iconst (v := 0) hx hb dX8_spreadChances_0 (by decide) ?_
  refine lv_istore_n (lv' := [(1, .int (0 : Int32)), (0, .ref a_t)]) hx hb dX8_spreadChances_1 rfl hl (by decide) rfl (fun ls hl => ?_)
  have L2_1 : ∀ (n : Nat) (y1_2 : Int32) (z_chance_2 : Nat → Int32) (o : (Nat → Int32)) (H : Heap) (locs : List Loc) (ls : Array Slot), f_X8_spreadChances_2 v_size v_filled n y1_2 z_chance_2 = some o → va_P D vwCl [(a_t, .inr (8, [.ref a_filled, .ref a_open, .ref a_chance, .int v_size, .int v_places])), (a_filled, eI cI 4096 v_filled), (a_chance, eI cI 4096 z_chance_2), (a_open, eI cI 4096 v_open)] H → va_S A s.heap H locs → lv_has ls 5 [(0, .ref a_t), (1, .int y1_2)] → (∀ (H : Heap) (locs : List Loc) (ls : Array Slot), va_P D vwCl [(a_t, .inr (8, [.ref a_filled, .ref a_open, .ref a_chance, .int v_size, .int v_places])), (a_filled, eI cI 4096 v_filled), (a_chance, eI cI 4096 o), (a_open, eI cI 4096 v_open)] H → va_S A s.heap H locs → lv_has ls 5 [(0, .ref a_t)] → W p l e { frames := 1, cells := 0, slots := 0, locals := 20 } s m args below meth c H locs 0 0 Q (F0 m 28 ls [])) → W p l e { frames := 1, cells := 0, slots := 0, locals := 20 } s m args below meth c H locs 0 0 Q (F0 m 2 ls []) := by
    intro n
    induction n with
    | zero => intro y1_2 z_chance_2 o H locs ls hf; exact (ob_n hf).elim
    | succ n ih =>
      intro y1_2 z_chance_2 o H locs ls hf hP hS hl kk
      rw [f_X8_spreadChances_2_s] at hf
      refine lv_iload_n hx hb dX8_spreadChances_2 rfl (lv_at hl 1 rfl) ?_
      refine lv_aload_n hx hb dX8_spreadChances_3 rfl (lv_at hl 0 rfl) ?_
      refine gf_X8_21 Cx hP 0 rfl rfl dX8_spreadChances_4 ?_
      refine lv_icmp_ge (tgt := 28) hx hb dX8_spreadChances_7 (by decide) (fun c2 => ?_) (fun c2 => ?_)
      · have hf := ob_t c2 hf
        obtain rfl := Option.some.inj hf
        exact kk _ _ _ hP hS (lv_sub hl [0] rfl)
      · have hf := ob_f c2 hf
        refine lv_aload_n hx hb dX8_spreadChances_10 rfl (lv_at hl 0 rfl) ?_
        refine gf_X8_18 Cx hP 0 rfl rfl dX8_spreadChances_11 ?_
        refine lv_aload_n hx hb dX8_spreadChances_14 rfl (lv_at hl 0 rfl) ?_
        refine gf_X8_9 Cx hP 0 rfl rfl dX8_spreadChances_15 ?_
        refine lv_iload_n hx hb dX8_spreadChances_18 rfl (lv_at hl 1 rfl) ?_
        obtain ⟨u3, hu3, hf⟩ := ob_b hf
        refine ba_iald Cx hP 1 rfl hu3 dX8_spreadChances_19 ?_
        refine lv_iconst (v := 0) hx hb dX8_spreadChances_20 (by decide) ?_
        obtain ⟨u4, hu4, hf⟩ := ob_b hf
        refine ba_iast (X' := [(a_t, .inr (8, [.ref a_filled, .ref a_open, .ref a_chance, .int v_size, .int v_places])), (a_filled, eI cI 4096 v_filled), (a_chance, eI cI 4096 u4), (a_open, eI cI 4096 v_open)]) Cx hP hS rfl 2 rfl rfl hu4 dX8_spreadChances_21 (fun H locs hP hS => ?_)
        refine lv_iinc (v := (y1_2 + 1)) (lv' := [(1, .int (y1_2 + 1)), (0, .ref a_t)]) hx hb dX8_spreadChances_22 hl (k := 1) rfl rfl (by decide) rfl (fun ls hl => ?_)
        refine lv_goto (tgt := 2) hx hb dX8_spreadChances_25 (by decide) ?_
        exact ih (y1_2 + 1) u4 _ _ _ _ hf hP hS (lv_sub hl [1, 0] rfl) kk
  obtain ⟨u5, hu5, hf⟩ := ob_b hf
  refine L2_1 FU (0 : Int32) v_chance u5 _ _ _ hu5 hP hS (lv_sub hl [1, 0] rfl) ?_
  intro H locs ls hP hS hl
  refine lv_aload_n hx hb dX8_spreadChances_28 rfl (lv_at hl 0 rfl) ?_
  refine gf_X8_18 Cx hP 0 rfl rfl dX8_spreadChances_29 ?_
  refine lv_iconst (v := 0) hx hb dX8_spreadChances_32 (by decide) ?_
  refine lv_ldc hx hb hown (hts _ kw_466) dX8_spreadChances_33 ?_
  obtain ⟨u6, hu6, hf⟩ := ob_b hf
  refine ba_iast (X' := [(a_t, .inr (8, [.ref a_filled, .ref a_open, .ref a_chance, .int v_size, .int v_places])), (a_filled, eI cI 4096 v_filled), (a_chance, eI cI 4096 u6), (a_open, eI cI 4096 v_open)]) Cx hP hS rfl 2 rfl rfl hu6 dX8_spreadChances_35 (fun H locs hP hS => ?_)
  refine lv_iconst (v := 0) hx hb dX8_spreadChances_36 (by decide) ?_
  refine lv_istore_n (lv' := [(1, .int (0 : Int32)), (0, .ref a_t)]) hx hb dX8_spreadChances_37 rfl hl (by decide) rfl (fun ls hl => ?_)
  have L38_7 : ∀ (n : Nat) (y1_38 : Int32) (z_chance_38 : Nat → Int32) (o : (Nat → Int32)) (H : Heap) (locs : List Loc) (ls : Array Slot), f_X8_spreadChances_38 v_size v_places v_filled v_open n y1_38 z_chance_38 = some o → va_P D vwCl [(a_t, .inr (8, [.ref a_filled, .ref a_open, .ref a_chance, .int v_size, .int v_places])), (a_filled, eI cI 4096 v_filled), (a_chance, eI cI 4096 z_chance_38), (a_open, eI cI 4096 v_open)] H → va_S A s.heap H locs → lv_has ls 5 [(0, .ref a_t), (1, .int y1_38)] → (∀ (H : Heap) (locs : List Loc) (ls : Array Slot), va_P D vwCl [(a_t, .inr (8, [.ref a_filled, .ref a_open, .ref a_chance, .int v_size, .int v_places])), (a_filled, eI cI 4096 v_filled), (a_chance, eI cI 4096 o), (a_open, eI cI 4096 v_open)] H → va_S A s.heap H locs → lv_has ls 5 [] → W p l e { frames := 1, cells := 0, slots := 0, locals := 20 } s m args below meth c H locs 0 0 Q (F0 m 135 ls [])) → W p l e { frames := 1, cells := 0, slots := 0, locals := 20 } s m args below meth c H locs 0 0 Q (F0 m 38 ls []) := by
    intro n
    induction n with
    | zero => intro y1_38 z_chance_38 o H locs ls hf; exact (ob_n hf).elim
    | succ n ih =>
      intro y1_38 z_chance_38 o H locs ls hf hP hS hl kk
      rw [f_X8_spreadChances_38_s] at hf
      refine lv_iload_n hx hb dX8_spreadChances_38 rfl (lv_at hl 1 rfl) ?_
      refine lv_aload_n hx hb dX8_spreadChances_39 rfl (lv_at hl 0 rfl) ?_
      refine gf_X8_21 Cx hP 0 rfl rfl dX8_spreadChances_40 ?_
      refine lv_icmp_ge (tgt := 135) hx hb dX8_spreadChances_43 (by decide) (fun c8 => ?_) (fun c8 => ?_)
      · have hf := ob_t c8 hf
        obtain rfl := Option.some.inj hf
        exact kk _ _ _ hP hS (lv_sub hl [] rfl)
      · have hf := ob_f c8 hf
        refine lv_aload_n hx hb dX8_spreadChances_46 rfl (lv_at hl 0 rfl) ?_
        refine gf_X8_15 Cx hP 0 rfl rfl dX8_spreadChances_47 ?_
        refine lv_iload_n hx hb dX8_spreadChances_50 rfl (lv_at hl 1 rfl) ?_
        obtain ⟨u9, hu9, hf⟩ := ob_b hf
        refine ba_iald Cx hP 3 rfl hu9 dX8_spreadChances_51 ?_
        obtain ⟨u10, hu10, hf⟩ := ob_b hf
        refine iv_X8_28 (As := [.int u9]) (rest := []) (is := []) (X' := [(a_t, .inr (8, [.ref a_filled, .ref a_open, .ref a_chance, .int v_size, .int v_places])), (a_filled, eI cI 4096 v_filled), (a_chance, eI cI 4096 z_chance_38), (a_open, eI cI 4096 v_open)]) Cx (c_J6_bitCount_0f7a4 l D cI cJ cZ cO  u9 u10 hu10) hP hS rfl rfl rfl rfl rfl rfl hl.1 (Nat.le_of_ble_eq_true rfl) dX8_spreadChances_52 rfl rfl ⟨Nat.le_of_ble_eq_true rfl, Nat.le_of_ble_eq_true rfl⟩ ⟨Nat.zero_le _, Nat.zero_le _⟩ rfl (fun H locs hP hS => ?_)
        refine lv_istore_n (lv' := [(2, .int u10), (0, .ref a_t), (1, .int y1_38)]) hx hb dX8_spreadChances_55 rfl hl (by decide) rfl (fun ls hl => ?_)
        refine lv_iload_n hx hb dX8_spreadChances_56 rfl (lv_at hl 0 rfl) ?_
        refine ob_J (P := fun w11 => ∀ (H : Heap) (locs : List Loc) (ls : Array Slot), va_P D vwCl [(a_t, .inr (8, [.ref a_filled, .ref a_open, .ref a_chance, .int v_size, .int v_places])), (a_filled, eI cI 4096 v_filled), (a_chance, eI cI 4096 w11), (a_open, eI cI 4096 v_open)] H → va_S A s.heap H locs → lv_has ls 5 [(0, .ref a_t), (1, .int y1_38)] → W p l e { frames := 1, cells := 0, slots := 0, locals := 20 } s m args below meth c H locs 0 0 Q (F0 m 129 ls [])) hf ?_ ?_
        · intro w11 hf H locs ls hP hS hl
          refine lv_iinc (v := (y1_38 + 1)) (lv' := [(1, .int (y1_38 + 1)), (0, .ref a_t)]) hx hb dX8_spreadChances_129 hl (k := 1) rfl rfl (by decide) rfl (fun ls hl => ?_)
          refine lv_goto (tgt := 38) hx hb dX8_spreadChances_132 (by decide) ?_
          exact ih (y1_38 + 1) w11 _ _ _ _ hf hP hS (lv_sub hl [1, 0] rfl) kk
        · intro J129_12 hf
          refine lv_if_ne (tgt := 63) hx hb dX8_spreadChances_57 (by decide) (fun c13 => ?_) (fun c13 => ?_)
          · have hf := ob_fk c13 hf
            refine lv_aload_n hx hb dX8_spreadChances_63 rfl (lv_at hl 1 rfl) ?_
            refine gf_X8_18 Cx hP 0 rfl rfl dX8_spreadChances_64 ?_
            refine lv_aload_n hx hb dX8_spreadChances_67 rfl (lv_at hl 1 rfl) ?_
            refine gf_X8_9 Cx hP 0 rfl rfl dX8_spreadChances_68 ?_
            refine lv_iload_n hx hb dX8_spreadChances_71 rfl (lv_at hl 2 rfl) ?_
            obtain ⟨u14, hu14, hf⟩ := ob_bk hf
            refine ba_iald Cx hP 1 rfl hu14 dX8_spreadChances_72 ?_
            obtain ⟨u15, hu15, hf⟩ := ob_bk hf
            refine ba_iald Cx hP 2 rfl hu15 dX8_spreadChances_73 ?_
            refine lv_iload_n hx hb dX8_spreadChances_74 rfl (lv_at hl 0 rfl) ?_
            obtain ⟨u16, hu16, hf⟩ := ob_bk hf
            refine ba_idiv hx hb hu16 dX8_spreadChances_75 ?_
            refine lv_istore_n (lv' := [(3, .int u16), (2, .int u10), (0, .ref a_t), (1, .int y1_38)]) hx hb dX8_spreadChances_76 rfl hl (by decide) rfl (fun ls hl => ?_)
            refine lv_iconst (v := 0) hx hb dX8_spreadChances_77 (by decide) ?_
            refine lv_istore (lv' := [(4, .int (0 : Int32)), (3, .int u16), (2, .int u10), (0, .ref a_t), (1, .int y1_38)]) hx hb dX8_spreadChances_78 hl (by decide) rfl (fun ls hl => ?_)
            have L80_17 : ∀ (n : Nat) (y4_80 : Int32) (z_chance_80 : Nat → Int32) (o : (Nat → Int32)) (H : Heap) (locs : List Loc) (ls : Array Slot), f_X8_spreadChances_80 v_places v_filled v_open u16 y1_38 n y4_80 z_chance_80 = some o → va_P D vwCl [(a_t, .inr (8, [.ref a_filled, .ref a_open, .ref a_chance, .int v_size, .int v_places])), (a_filled, eI cI 4096 v_filled), (a_chance, eI cI 4096 z_chance_80), (a_open, eI cI 4096 v_open)] H → va_S A s.heap H locs → lv_has ls 5 [(0, .ref a_t), (1, .int y1_38), (3, .int u16), (4, .int y4_80)] → (∀ (H : Heap) (locs : List Loc) (ls : Array Slot), va_P D vwCl [(a_t, .inr (8, [.ref a_filled, .ref a_open, .ref a_chance, .int v_size, .int v_places])), (a_filled, eI cI 4096 v_filled), (a_chance, eI cI 4096 o), (a_open, eI cI 4096 v_open)] H → va_S A s.heap H locs → lv_has ls 5 [(0, .ref a_t), (1, .int y1_38)] → W p l e { frames := 1, cells := 0, slots := 0, locals := 20 } s m args below meth c H locs 0 0 Q (F0 m 129 ls [])) → W p l e { frames := 1, cells := 0, slots := 0, locals := 20 } s m args below meth c H locs 0 0 Q (F0 m 80 ls []) := by
              intro n
              induction n with
              | zero => intro y4_80 z_chance_80 o H locs ls hf; exact (ob_n hf).elim
              | succ n ih =>
                intro y4_80 z_chance_80 o H locs ls hf hP hS hl kk
                rw [f_X8_spreadChances_80_s] at hf
                refine lv_iload hx hb dX8_spreadChances_80 (lv_at hl 3 rfl) ?_
                refine lv_aload_n hx hb dX8_spreadChances_82 rfl (lv_at hl 0 rfl) ?_
                refine gf_X8_25 Cx hP 0 rfl rfl dX8_spreadChances_83 ?_
                refine lv_icmp_ge (tgt := 129) hx hb dX8_spreadChances_86 (by decide) (fun c18 => ?_) (fun c18 => ?_)
                · have hf := ob_t c18 hf
                  obtain rfl := Option.some.inj hf
                  exact kk _ _ _ hP hS (lv_sub hl [0, 1] rfl)
                · have hf := ob_f c18 hf
                  refine lv_aload_n hx hb dX8_spreadChances_89 rfl (lv_at hl 0 rfl) ?_
                  refine gf_X8_15 Cx hP 0 rfl rfl dX8_spreadChances_90 ?_
                  refine lv_iload_n hx hb dX8_spreadChances_93 rfl (lv_at hl 1 rfl) ?_
                  obtain ⟨u19, hu19, hf⟩ := ob_b hf
                  refine ba_iald Cx hP 3 rfl hu19 dX8_spreadChances_94 ?_
                  refine lv_iload hx hb dX8_spreadChances_95 (lv_at hl 3 rfl) ?_
                  refine lv_ishr hx hb dX8_spreadChances_97 ?_
                  refine lv_iconst (v := 1) hx hb dX8_spreadChances_98 (by decide) ?_
                  refine lv_iand hx hb dX8_spreadChances_99 ?_
                  refine ob_J (P := fun w20 => ∀ (H : Heap) (locs : List Loc) (ls : Array Slot), va_P D vwCl [(a_t, .inr (8, [.ref a_filled, .ref a_open, .ref a_chance, .int v_size, .int v_places])), (a_filled, eI cI 4096 v_filled), (a_chance, eI cI 4096 w20), (a_open, eI cI 4096 v_open)] H → va_S A s.heap H locs → lv_has ls 5 [(0, .ref a_t), (1, .int y1_38), (3, .int u16), (4, .int y4_80)] → W p l e { frames := 1, cells := 0, slots := 0, locals := 20 } s m args below meth c H locs 0 0 Q (F0 m 123 ls [])) hf ?_ ?_
                  · intro w20 hf H locs ls hP hS hl
                    refine lv_iinc (v := (y4_80 + 1)) (lv' := [(4, .int (y4_80 + 1)), (0, .ref a_t), (1, .int y1_38), (3, .int u16)]) hx hb dX8_spreadChances_123 hl (k := 3) rfl rfl (by decide) rfl (fun ls hl => ?_)
                    refine lv_goto (tgt := 80) hx hb dX8_spreadChances_126 (by decide) ?_
                    exact ih (y4_80 + 1) w20 _ _ _ _ hf hP hS (lv_sub hl [1, 2, 3, 0] rfl) kk
                  · intro J123_21 hf
                    refine lv_if_eq (tgt := 123) hx hb dX8_spreadChances_100 (by decide) (fun c22 => ?_) (fun c22 => ?_)
                    · have hf := ob_tk c22 hf
                      exact J123_21 z_chance_80 hf _ _ _ hP hS (lv_sub hl [0, 1, 2, 3] rfl)
                    · have hf := ob_fk c22 hf
                      refine lv_aload_n hx hb dX8_spreadChances_103 rfl (lv_at hl 0 rfl) ?_
                      refine gf_X8_18 Cx hP 0 rfl rfl dX8_spreadChances_104 ?_
                      refine lv_aload_n hx hb dX8_spreadChances_107 rfl (lv_at hl 0 rfl) ?_
                      refine gf_X8_9 Cx hP 0 rfl rfl dX8_spreadChances_108 ?_
                      refine lv_iload_n hx hb dX8_spreadChances_111 rfl (lv_at hl 1 rfl) ?_
                      obtain ⟨u23, hu23, hf⟩ := ob_bk hf
                      refine ba_iald Cx hP 1 rfl hu23 dX8_spreadChances_112 ?_
                      refine lv_iconst (v := 1) hx hb dX8_spreadChances_113 (by decide) ?_
                      refine lv_iload hx hb dX8_spreadChances_114 (lv_at hl 3 rfl) ?_
                      refine lv_ishl hx hb dX8_spreadChances_116 ?_
                      refine lv_ior hx hb dX8_spreadChances_117 ?_
                      refine lv_dup2_11 hx hb dX8_spreadChances_118 rfl rfl ?_
                      obtain ⟨u24, hu24, hf⟩ := ob_bk hf
                      refine ba_iald Cx hP 2 rfl hu24 dX8_spreadChances_119 ?_
                      refine lv_iload_n hx hb dX8_spreadChances_120 rfl (lv_at hl 2 rfl) ?_
                      refine lv_iadd hx hb dX8_spreadChances_121 ?_
                      obtain ⟨u25, hu25, hf⟩ := ob_bk hf
                      refine ba_iast (X' := [(a_t, .inr (8, [.ref a_filled, .ref a_open, .ref a_chance, .int v_size, .int v_places])), (a_filled, eI cI 4096 v_filled), (a_chance, eI cI 4096 u25), (a_open, eI cI 4096 v_open)]) Cx hP hS rfl 2 rfl rfl hu25 dX8_spreadChances_122 (fun H locs hP hS => ?_)
                      exact J123_21 u25 hf _ _ _ hP hS (lv_sub hl [0, 1, 2, 3] rfl)
            obtain ⟨u26, hu26, hf⟩ := ob_bk hf
            refine L80_17 FU (0 : Int32) z_chance_38 u26 _ _ _ hu26 hP hS (lv_sub hl [3, 4, 1, 0] rfl) ?_
            intro H locs ls hP hS hl
            exact J129_12 u26 hf _ _ _ hP hS (lv_sub hl [0, 1] rfl)
          · have hf := ob_tk c13 hf
            refine lv_goto (tgt := 129) hx hb dX8_spreadChances_60 (by decide) ?_
            exact J129_12 z_chance_38 hf _ _ _ hP hS (lv_sub hl [1, 2] rfl)
  obtain ⟨u27, hu27, hf⟩ := ob_b hf
  refine L38_7 FU (0 : Int32) u6 u27 _ _ _ hu27 hP hS (lv_sub hl [1, 0] rfl) ?_
  intro H locs ls hP hS hl
  obtain rfl := Option.some.inj hf
  exact ret _ _ _ _ dX8_spreadChances_135 hP hS

def f_J7_fill_d0a16_6 (n_p0 : Nat) (x1 : Int64) : Nat → Int32 → (Nat → Int64) → Option ((Nat → Int64))
  | 0, _, _ => none
  | n + 1, y3_6, z_p0_6 =>
  if (Int32.ofNat n_p0) ≤ y3_6 then
  some (z_p0_6)
  else
  (asetL n_p0 z_p0_6 y3_6 x1).bind (fun u3 =>
  f_J7_fill_d0a16_6 n_p0 x1 n (y3_6 + 1) u3)
theorem f_J7_fill_d0a16_6_s (n_p0 : Nat) (x1 : Int64) (n : Nat) (y3_6 : Int32) (z_p0_6 : Nat → Int64) : f_J7_fill_d0a16_6 n_p0 x1 (n + 1) y3_6 z_p0_6 =
  (if (Int32.ofNat n_p0) ≤ y3_6 then
  some (z_p0_6)
  else
  (asetL n_p0 z_p0_6 y3_6 x1).bind (fun u3 =>
  f_J7_fill_d0a16_6 n_p0 x1 n (y3_6 + 1) u3)) := rfl
def f_J7_fill_d0a16 (n_p0 : Nat) (v_p0 : Nat → Int64) (x1 : Int64) : Option ((Nat → Int64)) :=
  (f_J7_fill_d0a16_6 n_p0 x1 FU (0 : Int32) v_p0).bind (fun u4 =>
  some (u4))
set_option maxHeartbeats 4000000 in
set_option maxRecDepth 100000 in
theorem c_J7_fill_d0a16 (l : Launch) (D : va_G) (cI cJ cZ cO : ClassId) (a_p0 : Nat) (n_p0 : Nat) (v_p0 : Nat → Int64) (x1 : Int64) (out : (Nat → Int64)) (hf : f_J7_fill_d0a16 n_p0 v_p0 x1 = some out) : MetR l yJ7_fill_d0a16 (Cond.code yJ7_fill_d0a16 cJ7_fill_d0a16 5 none :: tbG) { frames := 0, cells := 0, slots := 0, locals := 0 } D (tyL cI cJ cZ cO) [.ref a_p0, .long x1] [(a_p0, eJ cJ n_p0 v_p0)] none [(a_p0, eJ cJ n_p0 out)] := by
  refine ba_ofV RJ7 [(0, .ref a_p0), (1, .long x1)] (by decide +kernel) rfl (Nat.le_of_ble_eq_true rfl) rfl ?_
  intro p e s m args below meth c Q A Cx hP ret ls hl
  obtain ⟨⟨hx, hb, hml, hown, hts⟩, hK, hD, hA⟩ := id Cx
  have hS : va_S A s.heap s.heap [] := va_S.rf
  unfold f_J7_fill_d0a16 at hf
  refine lv_iconst (v := 0) hx hb dJ7_fill_d0a16_0 (by decide) ?_
  refine lv_istore_n (lv' := [(3, .int (0 : Int32)), (0, .ref a_p0), (1, .long x1)]) hx hb dJ7_fill_d0a16_1 rfl hl (by decide) rfl (fun ls hl => ?_)
  refine lv_aload_n hx hb dJ7_fill_d0a16_2 rfl (lv_at hl 1 rfl) ?_
  refine va_alen hx hb hK hP 0 1 rfl rfl rfl dJ7_fill_d0a16_3 ?_
  refine lv_istore (lv' := [(4, .int (Int32.ofNat n_p0)), (3, .int (0 : Int32)), (0, .ref a_p0), (1, .long x1)]) hx hb dJ7_fill_d0a16_4 hl (by decide) rfl (fun ls hl => ?_)
  have L6_1 : ∀ (n : Nat) (y3_6 : Int32) (z_p0_6 : Nat → Int64) (o : (Nat → Int64)) (H : Heap) (locs : List Loc) (ls : Array Slot), f_J7_fill_d0a16_6 n_p0 x1 n y3_6 z_p0_6 = some o → va_P D vwCl [(a_p0, eJ cJ n_p0 z_p0_6)] H → va_S A s.heap H locs → lv_has ls 5 [(0, .ref a_p0), (1, .long x1), (3, .int y3_6), (4, .int (Int32.ofNat n_p0))] → (∀ (H : Heap) (locs : List Loc) (ls : Array Slot), va_P D vwCl [(a_p0, eJ cJ n_p0 o)] H → va_S A s.heap H locs → lv_has ls 5 [] → W p l e { frames := 0, cells := 0, slots := 0, locals := 0 } s m args below meth c H locs 0 0 Q (F0 m 22 ls [])) → W p l e { frames := 0, cells := 0, slots := 0, locals := 0 } s m args below meth c H locs 0 0 Q (F0 m 6 ls []) := by
    intro n
    induction n with
    | zero => intro y3_6 z_p0_6 o H locs ls hf; exact (ob_n hf).elim
    | succ n ih =>
      intro y3_6 z_p0_6 o H locs ls hf hP hS hl kk
      rw [f_J7_fill_d0a16_6_s] at hf
      refine lv_iload_n hx hb dJ7_fill_d0a16_6 rfl (lv_at hl 2 rfl) ?_
      refine lv_iload hx hb dJ7_fill_d0a16_7 (lv_at hl 3 rfl) ?_
      refine lv_icmp_ge (tgt := 22) hx hb dJ7_fill_d0a16_9 (by decide) (fun c2 => ?_) (fun c2 => ?_)
      · have hf := ob_t c2 hf
        obtain rfl := Option.some.inj hf
        exact kk _ _ _ hP hS (lv_sub hl [] rfl)
      · have hf := ob_f c2 hf
        refine lv_aload_n hx hb dJ7_fill_d0a16_12 rfl (lv_at hl 0 rfl) ?_
        refine lv_iload_n hx hb dJ7_fill_d0a16_13 rfl (lv_at hl 2 rfl) ?_
        refine lv_lload_n hx hb dJ7_fill_d0a16_14 rfl (lv_at hl 1 rfl) ?_
        obtain ⟨u3, hu3, hf⟩ := ob_b hf
        refine ba_last (X' := [(a_p0, eJ cJ n_p0 u3)]) Cx hP hS rfl 0 rfl rfl hu3 dJ7_fill_d0a16_15 (fun H locs hP hS => ?_)
        refine lv_iinc (v := (y3_6 + 1)) (lv' := [(3, .int (y3_6 + 1)), (0, .ref a_p0), (1, .long x1), (4, .int (Int32.ofNat n_p0))]) hx hb dJ7_fill_d0a16_16 hl (k := 2) rfl rfl (by decide) rfl (fun ls hl => ?_)
        refine lv_goto (tgt := 6) hx hb dJ7_fill_d0a16_19 (by decide) ?_
        exact ih (y3_6 + 1) u3 _ _ _ _ hf hP hS (lv_sub hl [1, 2, 0, 3] rfl) kk
  obtain ⟨u4, hu4, hf⟩ := ob_b hf
  refine L6_1 FU (0 : Int32) v_p0 u4 _ _ _ hu4 hP hS (lv_sub hl [2, 3, 1, 0] rfl) ?_
  intro H locs ls hP hS hl
  obtain rfl := Option.some.inj hf
  exact ret _ _ _ _ dJ7_fill_d0a16_22 hP hS

def f_X1_note (v_least : Int32) (v_most : Int32) (v_wholeSets : Nat → Int32) (v_orders : Nat → Int64) (x1 : Int32) (x2 : Int32) : Option (Int32 × Int32 × (Nat → Int32) × (Nat → Int64)) :=
  (f_J6_bitCount_0f7a4 x1).bind (fun u1 =>
  (aget 13 v_wholeSets u1).bind (fun u2 =>
  (asetI 13 v_wholeSets u1 (u2 + (1 : Int32))).bind (fun u3 =>
  (aget 13 v_orders u1).bind (fun u4 =>
  (asetL 13 v_orders u1 (u4 + (x2).toInt64)).bind (fun u5 =>
  (if v_least = (-6 : Int32) then
  some (x1)
  else
  (f_J6_bitCount_0f7a4 v_least).bind (fun u14 =>
  if u14 ≤ u1 then
  some (v_least)
  else
  some (x1))).bind (fun w6 =>
  (if v_most = (-6 : Int32) then
  some (x1)
  else
  (f_J6_bitCount_0f7a4 v_most).bind (fun u11 =>
  if u1 ≤ u11 then
  some (v_most)
  else
  some (x1))).bind (fun w8 =>
  some (w6, w8, u3, u5))))))))
set_option maxHeartbeats 4000000 in
set_option maxRecDepth 100000 in
theorem c_X1_note (l : Launch) (D : va_G) (cI cJ cZ cO : ClassId) (a_t a_wholeSets a_orders : Nat) (v_least : Int32) (v_most : Int32) (v_known : Int32) (v_wholeSets : Nat → Int32) (v_orders : Nat → Int64) (x1 : Int32) (x2 : Int32) (out : Int32 × Int32 × (Nat → Int32) × (Nat → Int64)) (hf : f_X1_note v_least v_most v_wholeSets v_orders x1 x2 = some out) : MetR l yX1_note (Cond.code yX1_note cX1_note 4 none :: tbG) { frames := 1, cells := 0, slots := 0, locals := 20 } D (tyL cI cJ cZ cO) [.ref a_t, .int x1, .int x2] [(a_t, .inr (1, [.ref a_wholeSets, .ref a_orders, .int v_least, .int v_most, .int v_known])), (a_wholeSets, eI cI 13 v_wholeSets), (a_orders, eJ cJ 13 v_orders)] none [(a_t, .inr (1, [.ref a_wholeSets, .ref a_orders, .int out.1, .int out.2.1, .int v_known])), (a_wholeSets, eI cI 13 out.2.2.1), (a_orders, eJ cJ 13 out.2.2.2)] := by
  refine ba_ofV RX1 [(0, .ref a_t), (1, .int x1), (2, .int x2)] (by decide +kernel) rfl (Nat.le_of_ble_eq_true rfl) rfl ?_
  intro p e s m args below meth c Q A Cx hP ret ls hl
  obtain ⟨⟨hx, hb, hml, hown, hts⟩, hK, hD, hA⟩ := id Cx
  have hS : va_S A s.heap s.heap [] := va_S.rf
  unfold f_X1_note at hf
  refine lv_iload_n hx hb dX1_note_0 rfl (lv_at hl 1 rfl) ?_
  obtain ⟨u1, hu1, hf⟩ := ob_b hf
  refine iv_X1_82 (As := [.int x1]) (rest := []) (is := []) (X' := [(a_t, .inr (1, [.ref a_wholeSets, .ref a_orders, .int v_least, .int v_most, .int v_known])), (a_wholeSets, eI cI 13 v_wholeSets), (a_orders, eJ cJ 13 v_orders)]) Cx (c_J6_bitCount_0f7a4 l D cI cJ cZ cO  x1 u1 hu1) hP hS rfl rfl rfl rfl rfl rfl hl.1 (Nat.le_of_ble_eq_true rfl) dX1_note_1 rfl rfl ⟨Nat.le_of_ble_eq_true rfl, Nat.le_of_ble_eq_true rfl⟩ ⟨Nat.zero_le _, Nat.zero_le _⟩ rfl (fun H locs hP hS => ?_)
  refine lv_istore_n (lv' := [(3, .int u1), (0, .ref a_t), (1, .int x1), (2, .int x2)]) hx hb dX1_note_4 rfl hl (by decide) rfl (fun ls hl => ?_)
  refine lv_aload_n hx hb dX1_note_5 rfl (lv_at hl 1 rfl) ?_
  refine gf_X1_9 Cx hP 0 rfl rfl dX1_note_6 ?_
  refine lv_iload_n hx hb dX1_note_9 rfl (lv_at hl 0 rfl) ?_
  refine lv_dup2_11 hx hb dX1_note_10 rfl rfl ?_
  obtain ⟨u2, hu2, hf⟩ := ob_b hf
  refine ba_iald Cx hP 1 rfl hu2 dX1_note_11 ?_
  refine lv_iconst (v := 1) hx hb dX1_note_12 (by decide) ?_
  refine lv_iadd hx hb dX1_note_13 ?_
  obtain ⟨u3, hu3, hf⟩ := ob_b hf
  refine ba_iast (X' := [(a_t, .inr (1, [.ref a_wholeSets, .ref a_orders, .int v_least, .int v_most, .int v_known])), (a_wholeSets, eI cI 13 u3), (a_orders, eJ cJ 13 v_orders)]) Cx hP hS rfl 1 rfl rfl hu3 dX1_note_14 (fun H locs hP hS => ?_)
  refine lv_aload_n hx hb dX1_note_15 rfl (lv_at hl 1 rfl) ?_
  refine gf_X1_15 Cx hP 0 rfl rfl dX1_note_16 ?_
  refine lv_iload_n hx hb dX1_note_19 rfl (lv_at hl 0 rfl) ?_
  refine lv_dup2_11 hx hb dX1_note_20 rfl rfl ?_
  obtain ⟨u4, hu4, hf⟩ := ob_b hf
  refine ba_lald Cx hP 2 rfl hu4 dX1_note_21 ?_
  refine lv_iload_n hx hb dX1_note_22 rfl (lv_at hl 3 rfl) ?_
  refine lv_i2l (v := (x2).toInt64) hx hb dX1_note_23 rfl ?_
  refine lv_ladd hx hb dX1_note_24 ?_
  obtain ⟨u5, hu5, hf⟩ := ob_b hf
  refine ba_last (X' := [(a_t, .inr (1, [.ref a_wholeSets, .ref a_orders, .int v_least, .int v_most, .int v_known])), (a_wholeSets, eI cI 13 u3), (a_orders, eJ cJ 13 u5)]) Cx hP hS rfl 2 rfl rfl hu5 dX1_note_25 (fun H locs hP hS => ?_)
  refine lv_aload_n hx hb dX1_note_26 rfl (lv_at hl 1 rfl) ?_
  refine gf_X1_60 Cx hP 0 rfl rfl dX1_note_27 ?_
  refine lv_bipush (v := (-6)) hx hb dX1_note_30 (by decide) ?_
  refine ob_J (P := fun w6 => ∀ (H : Heap) (locs : List Loc) (ls : Array Slot), va_P D vwCl [(a_t, .inr (1, [.ref a_wholeSets, .ref a_orders, .int w6, .int v_most, .int v_known])), (a_wholeSets, eI cI 13 u3), (a_orders, eJ cJ 13 u5)] H → va_S A s.heap H locs → lv_has ls 4 [(0, .ref a_t), (1, .int x1), (3, .int u1)] → W p l e { frames := 1, cells := 0, slots := 0, locals := 20 } s m args below meth c H locs 0 0 Q (F0 m 51 ls [])) hf ?_ ?_
  · intro w6 hf H locs ls hP hS hl
    refine lv_aload_n hx hb dX1_note_51 rfl (lv_at hl 0 rfl) ?_
    refine gf_X1_63 Cx hP 0 rfl rfl dX1_note_52 ?_
    refine lv_bipush (v := (-6)) hx hb dX1_note_55 (by decide) ?_
    refine ob_J (P := fun w8 => ∀ (H : Heap) (locs : List Loc) (ls : Array Slot), va_P D vwCl [(a_t, .inr (1, [.ref a_wholeSets, .ref a_orders, .int w6, .int w8, .int v_known])), (a_wholeSets, eI cI 13 u3), (a_orders, eJ cJ 13 u5)] H → va_S A s.heap H locs → lv_has ls 4 [] → W p l e { frames := 1, cells := 0, slots := 0, locals := 20 } s m args below meth c H locs 0 0 Q (F0 m 76 ls [])) hf ?_ ?_
    · intro w8 hf H locs ls hP hS hl
      obtain rfl := Option.some.inj hf
      exact ret _ _ _ _ dX1_note_76 hP hS
    · intro J76_9 hf
      refine lv_icmp_eq (tgt := 71) hx hb dX1_note_57 (by decide) (fun c10 => ?_) (fun c10 => ?_)
      · have hf := ob_tk c10 hf
        refine lv_aload_n hx hb dX1_note_71 rfl (lv_at hl 0 rfl) ?_
        refine lv_iload_n hx hb dX1_note_72 rfl (lv_at hl 1 rfl) ?_
        refine pf_X1_63 (X' := [(a_t, .inr (1, [.ref a_wholeSets, .ref a_orders, .int w6, .int x1, .int v_known])), (a_wholeSets, eI cI 13 u3), (a_orders, eJ cJ 13 u5)]) Cx hP hS rfl 0 rfl rfl (Nat.le_of_ble_eq_true rfl) dX1_note_73 (fun H locs hP hS => ?_)
        exact J76_9 x1 hf _ _ _ hP hS (lv_sub hl [] rfl)
      · have hf := ob_fk c10 hf
        refine lv_iload_n hx hb dX1_note_60 rfl (lv_at hl 2 rfl) ?_
        refine lv_aload_n hx hb dX1_note_61 rfl (lv_at hl 0 rfl) ?_
        refine gf_X1_63 Cx hP 0 rfl rfl dX1_note_62 ?_
        obtain ⟨u11, hu11, hf⟩ := ob_bk hf
        refine iv_X1_82 (As := [.int v_most]) (rest := [.int u1]) (is := []) (X' := [(a_t, .inr (1, [.ref a_wholeSets, .ref a_orders, .int w6, .int v_most, .int v_known])), (a_wholeSets, eI cI 13 u3), (a_orders, eJ cJ 13 u5)]) Cx (c_J6_bitCount_0f7a4 l D cI cJ cZ cO  v_most u11 hu11) hP hS rfl rfl rfl rfl rfl rfl hl.1 (Nat.le_of_ble_eq_true rfl) dX1_note_65 rfl rfl ⟨Nat.le_of_ble_eq_true rfl, Nat.le_of_ble_eq_true rfl⟩ ⟨Nat.zero_le _, Nat.zero_le _⟩ rfl (fun H locs hP hS => ?_)
        refine lv_icmp_le (tgt := 76) hx hb dX1_note_68 (by decide) (fun c12 => ?_) (fun c12 => ?_)
        · have hf := ob_tk c12 hf
          exact J76_9 v_most hf _ _ _ hP hS (lv_sub hl [] rfl)
        · have hf := ob_fk c12 hf
          refine lv_aload_n hx hb dX1_note_71 rfl (lv_at hl 0 rfl) ?_
          refine lv_iload_n hx hb dX1_note_72 rfl (lv_at hl 1 rfl) ?_
          refine pf_X1_63 (X' := [(a_t, .inr (1, [.ref a_wholeSets, .ref a_orders, .int w6, .int x1, .int v_known])), (a_wholeSets, eI cI 13 u3), (a_orders, eJ cJ 13 u5)]) Cx hP hS rfl 0 rfl rfl (Nat.le_of_ble_eq_true rfl) dX1_note_73 (fun H locs hP hS => ?_)
          exact J76_9 x1 hf _ _ _ hP hS (lv_sub hl [] rfl)
  · intro J51_7 hf
    refine lv_icmp_eq (tgt := 46) hx hb dX1_note_32 (by decide) (fun c13 => ?_) (fun c13 => ?_)
    · have hf := ob_tk c13 hf
      refine lv_aload_n hx hb dX1_note_46 rfl (lv_at hl 1 rfl) ?_
      refine lv_iload_n hx hb dX1_note_47 rfl (lv_at hl 2 rfl) ?_
      refine pf_X1_60 (X' := [(a_t, .inr (1, [.ref a_wholeSets, .ref a_orders, .int x1, .int v_most, .int v_known])), (a_wholeSets, eI cI 13 u3), (a_orders, eJ cJ 13 u5)]) Cx hP hS rfl 0 rfl rfl (Nat.le_of_ble_eq_true rfl) dX1_note_48 (fun H locs hP hS => ?_)
      exact J51_7 x1 hf _ _ _ hP hS (lv_sub hl [1, 2, 0] rfl)
    · have hf := ob_fk c13 hf
      refine lv_iload_n hx hb dX1_note_35 rfl (lv_at hl 0 rfl) ?_
      refine lv_aload_n hx hb dX1_note_36 rfl (lv_at hl 1 rfl) ?_
      refine gf_X1_60 Cx hP 0 rfl rfl dX1_note_37 ?_
      obtain ⟨u14, hu14, hf⟩ := ob_bk hf
      refine iv_X1_82 (As := [.int v_least]) (rest := [.int u1]) (is := []) (X' := [(a_t, .inr (1, [.ref a_wholeSets, .ref a_orders, .int v_least, .int v_most, .int v_known])), (a_wholeSets, eI cI 13 u3), (a_orders, eJ cJ 13 u5)]) Cx (c_J6_bitCount_0f7a4 l D cI cJ cZ cO  v_least u14 hu14) hP hS rfl rfl rfl rfl rfl rfl hl.1 (Nat.le_of_ble_eq_true rfl) dX1_note_40 rfl rfl ⟨Nat.le_of_ble_eq_true rfl, Nat.le_of_ble_eq_true rfl⟩ ⟨Nat.zero_le _, Nat.zero_le _⟩ rfl (fun H locs hP hS => ?_)
      refine lv_icmp_ge (tgt := 51) hx hb dX1_note_43 (by decide) (fun c15 => ?_) (fun c15 => ?_)
      · have hf := ob_tk c15 hf
        exact J51_7 v_least hf _ _ _ hP hS (lv_sub hl [1, 2, 0] rfl)
      · have hf := ob_fk c15 hf
        refine lv_aload_n hx hb dX1_note_46 rfl (lv_at hl 1 rfl) ?_
        refine lv_iload_n hx hb dX1_note_47 rfl (lv_at hl 2 rfl) ?_
        refine pf_X1_60 (X' := [(a_t, .inr (1, [.ref a_wholeSets, .ref a_orders, .int x1, .int v_most, .int v_known])), (a_wholeSets, eI cI 13 u3), (a_orders, eJ cJ 13 u5)]) Cx hP hS rfl 0 rfl rfl (Nat.le_of_ble_eq_true rfl) dX1_note_48 (fun H locs hP hS => ?_)
        exact J51_7 x1 hf _ _ _ hP hS (lv_sub hl [1, 2, 0] rfl)

def f_X1_take_64 (u3 : Int32 × Int32 × (Nat → Int32) × (Nat → Int32)) (u4 : (Nat → Int32)) : Nat → Int32 → Int32 → Int32 → (Nat → Int32) → (Nat → Int64) → Option (Int32 × Int32 × (Nat → Int32) × (Nat → Int64))
  | 0, _, _, _, _, _ => none
  | n + 1, y3_64, z_least_64, z_most_64, z_wholeSets_64, z_orders_64 =>
  if u3.1 ≤ y3_64 then
  some (z_least_64, z_most_64, z_wholeSets_64, z_orders_64)
  else
  (aget 4096 u3.2.2.2 y3_64).bind (fun u9 =>
  (if u9 = 0 then
  (aget 4096 u3.2.2.1 y3_64).bind (fun u13 =>
  (aget 4096 u3.2.2.1 y3_64).bind (fun u14 =>
  (aget 4096 u4 u14).bind (fun u15 =>
  (f_X1_note z_least_64 z_most_64 z_wholeSets_64 z_orders_64 u13 u15).bind (fun u16 =>
  some (u16.1, u16.2.1, u16.2.2.1, u16.2.2.2)))))
  else
  some (z_least_64, z_most_64, z_wholeSets_64, z_orders_64)).bind (fun w10 =>
  f_X1_take_64 u3 u4 n (y3_64 + 1) w10.1 w10.2.1 w10.2.2.1 w10.2.2.2))
theorem f_X1_take_64_s (u3 : Int32 × Int32 × (Nat → Int32) × (Nat → Int32)) (u4 : (Nat → Int32)) (n : Nat) (y3_64 : Int32) (z_least_64 : Int32) (z_most_64 : Int32) (z_wholeSets_64 : Nat → Int32) (z_orders_64 : Nat → Int64) : f_X1_take_64 u3 u4 (n + 1) y3_64 z_least_64 z_most_64 z_wholeSets_64 z_orders_64 =
  (if u3.1 ≤ y3_64 then
  some (z_least_64, z_most_64, z_wholeSets_64, z_orders_64)
  else
  (aget 4096 u3.2.2.2 y3_64).bind (fun u9 =>
  (if u9 = 0 then
  (aget 4096 u3.2.2.1 y3_64).bind (fun u13 =>
  (aget 4096 u3.2.2.1 y3_64).bind (fun u14 =>
  (aget 4096 u4 u14).bind (fun u15 =>
  (f_X1_note z_least_64 z_most_64 z_wholeSets_64 z_orders_64 u13 u15).bind (fun u16 =>
  some (u16.1, u16.2.1, u16.2.2.1, u16.2.2.2)))))
  else
  some (z_least_64, z_most_64, z_wholeSets_64, z_orders_64)).bind (fun w10 =>
  f_X1_take_64 u3 u4 n (y3_64 + 1) w10.1 w10.2.1 w10.2.2.1 w10.2.2.2))) := rfl
def f_X1_take (v_least : Int32) (v_most : Int32) (v_known : Int32) (v_p1_scene_seats : Int32) (v_p2_size : Int32) (v_p2_places : Int32) (v_p2_filled : Nat → Int32) (v_p2_open : Nat → Int32) (v_p1_clash : Nat → Int32) (v_p2_chance : Nat → Int32) (v_wholeSets : Nat → Int32) (v_orders : Nat → Int64) : Option (Int32 × Int32 × Int32 × Int32 × Int32 × (Nat → Int32) × (Nat → Int32) × (Nat → Int32) × (Nat → Int32) × (Nat → Int64)) :=
  if v_known = 0 then
  (f_X7_allSeats v_p1_scene_seats).bind (fun u2 =>
  (f_X8_list v_p2_filled v_p2_open v_p1_clash v_p1_scene_seats u2).bind (fun u3 =>
  (f_X8_spreadChances u3.1 u3.2.1 u3.2.2.1 v_p2_chance u3.2.2.2).bind (fun u4 =>
  (f_J7_fill_53178 13 v_wholeSets (0 : Int32)).bind (fun u5 =>
  (f_J7_fill_d0a16 13 v_orders (0 : Int64)).bind (fun u6 =>
  (f_X1_take_64 u3 u4 FU (0 : Int32) (-6 : Int32) (-6 : Int32) u5 u6).bind (fun u17 =>
  some (u17.1, u17.2.1, (1 : Int32), u3.1, u3.2.1, u3.2.2.1, u3.2.2.2, u4, u17.2.2.1, u17.2.2.2)))))))
  else
  some (v_least, v_most, v_known, v_p2_size, v_p2_places, v_p2_filled, v_p2_open, v_p2_chance, v_wholeSets, v_orders)
set_option maxHeartbeats 4000000 in
set_option maxRecDepth 100000 in
theorem c_X1_take (l : Launch) (D : va_G) (cI cJ cZ cO : ClassId) (a_t a_wholeSets a_orders a_p1 a_p1_scene a_p1_apart a_p1_clash a_p1_neighbours a_p1_scene_steps a_p1_scene_worths a_p1_scene_comers a_p1_scene_seen a_p1_scene_seenLengths a_p2 a_p2_filled a_p2_open a_p2_chance : Nat) (v_least : Int32) (v_most : Int32) (v_known : Int32) (v_p1_scene_seats : Int32) (v_p1_scene_bear : Int32) (v_p1_scene_comerCount : Int32) (v_p1_scene_seenRows : Int32) (v_p2_size : Int32) (v_p2_places : Int32) (v_p2_filled : Nat → Int32) (v_p2_open : Nat → Int32) (v_p1_clash : Nat → Int32) (v_p2_chance : Nat → Int32) (v_wholeSets : Nat → Int32) (v_orders : Nat → Int64) (out : Int32 × Int32 × Int32 × Int32 × Int32 × (Nat → Int32) × (Nat → Int32) × (Nat → Int32) × (Nat → Int32) × (Nat → Int64)) (hf : f_X1_take v_least v_most v_known v_p1_scene_seats v_p2_size v_p2_places v_p2_filled v_p2_open v_p1_clash v_p2_chance v_wholeSets v_orders = some out) : MetR l yX1_take (Cond.code yX1_take cX1_take 4 none :: tbG) { frames := 2, cells := 0, slots := 0, locals := 44 } D (tyL cI cJ cZ cO) [.ref a_t, .ref a_p1, .ref a_p2] [(a_t, .inr (1, [.ref a_wholeSets, .ref a_orders, .int v_least, .int v_most, .int v_known])), (a_p1, .inr (0, [.ref a_p1_scene, .ref a_p1_apart, .ref a_p1_clash, .ref a_p1_neighbours])), (a_p1_scene, .inr (7, [.ref a_p1_scene_steps, .ref a_p1_scene_worths, .ref a_p1_scene_comers, .ref a_p1_scene_seen, .ref a_p1_scene_seenLengths, .int v_p1_scene_seats, .int v_p1_scene_bear, .int v_p1_scene_comerCount, .int v_p1_scene_seenRows])), (a_p2, .inr (8, [.ref a_p2_filled, .ref a_p2_open, .ref a_p2_chance, .int v_p2_size, .int v_p2_places])), (a_p2_filled, eI cI 4096 v_p2_filled), (a_p2_open, eI cI 4096 v_p2_open), (a_p1_clash, eI cI 12 v_p1_clash), (a_p2_chance, eI cI 4096 v_p2_chance), (a_wholeSets, eI cI 13 v_wholeSets), (a_orders, eJ cJ 13 v_orders)] none [(a_t, .inr (1, [.ref a_wholeSets, .ref a_orders, .int out.1, .int out.2.1, .int out.2.2.1])), (a_p1, .inr (0, [.ref a_p1_scene, .ref a_p1_apart, .ref a_p1_clash, .ref a_p1_neighbours])), (a_p1_scene, .inr (7, [.ref a_p1_scene_steps, .ref a_p1_scene_worths, .ref a_p1_scene_comers, .ref a_p1_scene_seen, .ref a_p1_scene_seenLengths, .int v_p1_scene_seats, .int v_p1_scene_bear, .int v_p1_scene_comerCount, .int v_p1_scene_seenRows])), (a_p2, .inr (8, [.ref a_p2_filled, .ref a_p2_open, .ref a_p2_chance, .int out.2.2.2.1, .int out.2.2.2.2.1])), (a_p2_filled, eI cI 4096 out.2.2.2.2.2.1), (a_p2_open, eI cI 4096 out.2.2.2.2.2.2.1), (a_p1_clash, eI cI 12 v_p1_clash), (a_p2_chance, eI cI 4096 out.2.2.2.2.2.2.2.1), (a_wholeSets, eI cI 13 out.2.2.2.2.2.2.2.2.1), (a_orders, eJ cJ 13 out.2.2.2.2.2.2.2.2.2)] := by
  refine ba_ofV RX1 [(0, .ref a_t), (1, .ref a_p1), (2, .ref a_p2)] (by decide +kernel) rfl (Nat.le_of_ble_eq_true rfl) rfl ?_
  intro p e s m args below meth c Q A Cx hP ret ls hl
  obtain ⟨⟨hx, hb, hml, hown, hts⟩, hK, hD, hA⟩ := id Cx
  have hS : va_S A s.heap s.heap [] := va_S.rf
  unfold f_X1_take at hf
  refine lv_aload_n hx hb dX1_take_0 rfl (lv_at hl 0 rfl) ?_
  refine gf_X1_19 Cx hP 0 rfl rfl dX1_take_1 ?_
  refine lv_if_eq (tgt := 8) hx hb dX1_take_4 (by decide) (fun c1 => ?_) (fun c1 => ?_)
  · have hf := ob_t c1 hf
    refine lv_aload_n hx hb dX1_take_8 rfl (lv_at hl 2 rfl) ?_
    refine lv_aload_n hx hb dX1_take_9 rfl (lv_at hl 1 rfl) ?_
    refine gf_X1_23 Cx hP 1 rfl rfl dX1_take_10 ?_
    refine lv_aload_n hx hb dX1_take_13 rfl (lv_at hl 1 rfl) ?_
    refine gf_X1_28 Cx hP 1 rfl rfl dX1_take_14 ?_
    refine gf_X1_32 Cx hP 2 rfl rfl dX1_take_17 ?_
    refine lv_aload_n hx hb dX1_take_20 rfl (lv_at hl 1 rfl) ?_
    refine gf_X1_28 Cx hP 1 rfl rfl dX1_take_21 ?_
    obtain ⟨u2, hu2, hf⟩ := ob_b hf
    refine iv_X1_38 (As := []) (rest := [.int v_p1_scene_seats, .ref a_p1_clash, .ref a_p2]) (is := [2]) (q0 := 2) (X' := [(a_t, .inr (1, [.ref a_wholeSets, .ref a_orders, .int v_least, .int v_most, .int v_known])), (a_p1, .inr (0, [.ref a_p1_scene, .ref a_p1_apart, .ref a_p1_clash, .ref a_p1_neighbours])), (a_p1_scene, .inr (7, [.ref a_p1_scene_steps, .ref a_p1_scene_worths, .ref a_p1_scene_comers, .ref a_p1_scene_seen, .ref a_p1_scene_seenLengths, .int v_p1_scene_seats, .int v_p1_scene_bear, .int v_p1_scene_comerCount, .int v_p1_scene_seenRows])), (a_p2, .inr (8, [.ref a_p2_filled, .ref a_p2_open, .ref a_p2_chance, .int v_p2_size, .int v_p2_places])), (a_p2_filled, eI cI 4096 v_p2_filled), (a_p2_open, eI cI 4096 v_p2_open), (a_p1_clash, eI cI 12 v_p1_clash), (a_p2_chance, eI cI 4096 v_p2_chance), (a_wholeSets, eI cI 13 v_wholeSets), (a_orders, eJ cJ 13 v_orders)]) Cx (c_X7_allSeats l D cI cJ cZ cO a_p1_scene a_p1_scene_steps a_p1_scene_worths a_p1_scene_comers a_p1_scene_seen a_p1_scene_seenLengths v_p1_scene_seats v_p1_scene_bear v_p1_scene_comerCount v_p1_scene_seenRows u2 hu2) hP hS rfl rfl rfl rfl rfl rfl rfl hl.1 (Nat.le_of_ble_eq_true rfl) dX1_take_24 rfl rfl ⟨Nat.le_of_ble_eq_true rfl, Nat.le_of_ble_eq_true rfl⟩ ⟨Nat.zero_le _, Nat.zero_le _⟩ rfl (fun H locs hP hS => ?_)
    obtain ⟨u3, hu3, hf⟩ := ob_b hf
    refine iv_X1_42 (As := [.ref a_p1_clash, .int v_p1_scene_seats, .int u2]) (rest := []) (is := [3, 4, 5, 6]) (q0 := 3) (X' := [(a_t, .inr (1, [.ref a_wholeSets, .ref a_orders, .int v_least, .int v_most, .int v_known])), (a_p1, .inr (0, [.ref a_p1_scene, .ref a_p1_apart, .ref a_p1_clash, .ref a_p1_neighbours])), (a_p1_scene, .inr (7, [.ref a_p1_scene_steps, .ref a_p1_scene_worths, .ref a_p1_scene_comers, .ref a_p1_scene_seen, .ref a_p1_scene_seenLengths, .int v_p1_scene_seats, .int v_p1_scene_bear, .int v_p1_scene_comerCount, .int v_p1_scene_seenRows])), (a_p2, .inr (8, [.ref a_p2_filled, .ref a_p2_open, .ref a_p2_chance, .int u3.1, .int u3.2.1])), (a_p2_filled, eI cI 4096 u3.2.2.1), (a_p2_open, eI cI 4096 u3.2.2.2), (a_p1_clash, eI cI 12 v_p1_clash), (a_p2_chance, eI cI 4096 v_p2_chance), (a_wholeSets, eI cI 13 v_wholeSets), (a_orders, eJ cJ 13 v_orders)]) Cx (c_X8_list l D cI cJ cZ cO a_p2 a_p2_filled a_p2_open a_p2_chance a_p1_clash v_p2_size v_p2_places v_p2_filled v_p2_open v_p1_clash v_p1_scene_seats u2 u3 hu3) hP hS rfl rfl rfl rfl rfl rfl rfl hl.1 (Nat.le_of_ble_eq_true rfl) dX1_take_27 rfl rfl ⟨Nat.le_of_ble_eq_true rfl, Nat.le_of_ble_eq_true rfl⟩ ⟨Nat.zero_le _, Nat.zero_le _⟩ rfl (fun H locs hP hS => ?_)
    refine lv_aload_n hx hb dX1_take_30 rfl (lv_at hl 2 rfl) ?_
    obtain ⟨u4, hu4, hf⟩ := ob_b hf
    refine iv_X1_48 (As := []) (rest := []) (is := [3, 4, 7, 5]) (q0 := 3) (X' := [(a_t, .inr (1, [.ref a_wholeSets, .ref a_orders, .int v_least, .int v_most, .int v_known])), (a_p1, .inr (0, [.ref a_p1_scene, .ref a_p1_apart, .ref a_p1_clash, .ref a_p1_neighbours])), (a_p1_scene, .inr (7, [.ref a_p1_scene_steps, .ref a_p1_scene_worths, .ref a_p1_scene_comers, .ref a_p1_scene_seen, .ref a_p1_scene_seenLengths, .int v_p1_scene_seats, .int v_p1_scene_bear, .int v_p1_scene_comerCount, .int v_p1_scene_seenRows])), (a_p2, .inr (8, [.ref a_p2_filled, .ref a_p2_open, .ref a_p2_chance, .int u3.1, .int u3.2.1])), (a_p2_filled, eI cI 4096 u3.2.2.1), (a_p2_open, eI cI 4096 u3.2.2.2), (a_p1_clash, eI cI 12 v_p1_clash), (a_p2_chance, eI cI 4096 u4), (a_wholeSets, eI cI 13 v_wholeSets), (a_orders, eJ cJ 13 v_orders)]) Cx (c_X8_spreadChances l D cI cJ cZ cO a_p2 a_p2_filled a_p2_open a_p2_chance u3.1 u3.2.1 u3.2.2.1 v_p2_chance u3.2.2.2 u4 hu4) hP hS rfl rfl rfl rfl rfl rfl rfl hl.1 (Nat.le_of_ble_eq_true rfl) dX1_take_31 rfl rfl ⟨Nat.le_of_ble_eq_true rfl, Nat.le_of_ble_eq_true rfl⟩ ⟨Nat.zero_le _, Nat.zero_le _⟩ rfl (fun H locs hP hS => ?_)
    refine lv_aload_n hx hb dX1_take_34 rfl (lv_at hl 0 rfl) ?_
    refine gf_X1_9 Cx hP 0 rfl rfl dX1_take_35 ?_
    refine lv_iconst (v := 0) hx hb dX1_take_38 (by decide) ?_
    obtain ⟨u5, hu5, hf⟩ := ob_b hf
    refine iv_X1_51 (As := [.ref a_wholeSets, .int (0 : Int32)]) (rest := []) (is := [8]) (X' := [(a_t, .inr (1, [.ref a_wholeSets, .ref a_orders, .int v_least, .int v_most, .int v_known])), (a_p1, .inr (0, [.ref a_p1_scene, .ref a_p1_apart, .ref a_p1_clash, .ref a_p1_neighbours])), (a_p1_scene, .inr (7, [.ref a_p1_scene_steps, .ref a_p1_scene_worths, .ref a_p1_scene_comers, .ref a_p1_scene_seen, .ref a_p1_scene_seenLengths, .int v_p1_scene_seats, .int v_p1_scene_bear, .int v_p1_scene_comerCount, .int v_p1_scene_seenRows])), (a_p2, .inr (8, [.ref a_p2_filled, .ref a_p2_open, .ref a_p2_chance, .int u3.1, .int u3.2.1])), (a_p2_filled, eI cI 4096 u3.2.2.1), (a_p2_open, eI cI 4096 u3.2.2.2), (a_p1_clash, eI cI 12 v_p1_clash), (a_p2_chance, eI cI 4096 u4), (a_wholeSets, eI cI 13 u5), (a_orders, eJ cJ 13 v_orders)]) Cx (c_J7_fill_53178 l D cI cJ cZ cO a_wholeSets 13 v_wholeSets (0 : Int32) u5 hu5) hP hS rfl rfl rfl rfl rfl rfl hl.1 (Nat.le_of_ble_eq_true rfl) dX1_take_39 rfl rfl ⟨Nat.le_of_ble_eq_true rfl, Nat.le_of_ble_eq_true rfl⟩ ⟨Nat.zero_le _, Nat.zero_le _⟩ rfl (fun H locs hP hS => ?_)
    refine lv_aload_n hx hb dX1_take_42 rfl (lv_at hl 0 rfl) ?_
    refine gf_X1_15 Cx hP 0 rfl rfl dX1_take_43 ?_
    refine lv_lconst (v := 0) hx hb dX1_take_46 (by decide) ?_
    obtain ⟨u6, hu6, hf⟩ := ob_b hf
    refine iv_X1_57 (As := [.ref a_orders, .long (0 : Int64)]) (rest := []) (is := [9]) (X' := [(a_t, .inr (1, [.ref a_wholeSets, .ref a_orders, .int v_least, .int v_most, .int v_known])), (a_p1, .inr (0, [.ref a_p1_scene, .ref a_p1_apart, .ref a_p1_clash, .ref a_p1_neighbours])), (a_p1_scene, .inr (7, [.ref a_p1_scene_steps, .ref a_p1_scene_worths, .ref a_p1_scene_comers, .ref a_p1_scene_seen, .ref a_p1_scene_seenLengths, .int v_p1_scene_seats, .int v_p1_scene_bear, .int v_p1_scene_comerCount, .int v_p1_scene_seenRows])), (a_p2, .inr (8, [.ref a_p2_filled, .ref a_p2_open, .ref a_p2_chance, .int u3.1, .int u3.2.1])), (a_p2_filled, eI cI 4096 u3.2.2.1), (a_p2_open, eI cI 4096 u3.2.2.2), (a_p1_clash, eI cI 12 v_p1_clash), (a_p2_chance, eI cI 4096 u4), (a_wholeSets, eI cI 13 u5), (a_orders, eJ cJ 13 u6)]) Cx (c_J7_fill_d0a16 l D cI cJ cZ cO a_orders 13 v_orders (0 : Int64) u6 hu6) hP hS rfl rfl rfl rfl rfl rfl hl.1 (Nat.le_of_ble_eq_true rfl) dX1_take_47 rfl rfl ⟨Nat.le_of_ble_eq_true rfl, Nat.le_of_ble_eq_true rfl⟩ ⟨Nat.zero_le _, Nat.zero_le _⟩ rfl (fun H locs hP hS => ?_)
    refine lv_aload_n hx hb dX1_take_50 rfl (lv_at hl 0 rfl) ?_
    refine lv_bipush (v := (-6)) hx hb dX1_take_51 (by decide) ?_
    refine pf_X1_60 (X' := [(a_t, .inr (1, [.ref a_wholeSets, .ref a_orders, .int (-6 : Int32), .int v_most, .int v_known])), (a_p1, .inr (0, [.ref a_p1_scene, .ref a_p1_apart, .ref a_p1_clash, .ref a_p1_neighbours])), (a_p1_scene, .inr (7, [.ref a_p1_scene_steps, .ref a_p1_scene_worths, .ref a_p1_scene_comers, .ref a_p1_scene_seen, .ref a_p1_scene_seenLengths, .int v_p1_scene_seats, .int v_p1_scene_bear, .int v_p1_scene_comerCount, .int v_p1_scene_seenRows])), (a_p2, .inr (8, [.ref a_p2_filled, .ref a_p2_open, .ref a_p2_chance, .int u3.1, .int u3.2.1])), (a_p2_filled, eI cI 4096 u3.2.2.1), (a_p2_open, eI cI 4096 u3.2.2.2), (a_p1_clash, eI cI 12 v_p1_clash), (a_p2_chance, eI cI 4096 u4), (a_wholeSets, eI cI 13 u5), (a_orders, eJ cJ 13 u6)]) Cx hP hS rfl 0 rfl rfl (Nat.le_of_ble_eq_true rfl) dX1_take_53 (fun H locs hP hS => ?_)
    refine lv_aload_n hx hb dX1_take_56 rfl (lv_at hl 0 rfl) ?_
    refine lv_bipush (v := (-6)) hx hb dX1_take_57 (by decide) ?_
    refine pf_X1_63 (X' := [(a_t, .inr (1, [.ref a_wholeSets, .ref a_orders, .int (-6 : Int32), .int (-6 : Int32), .int v_known])), (a_p1, .inr (0, [.ref a_p1_scene, .ref a_p1_apart, .ref a_p1_clash, .ref a_p1_neighbours])), (a_p1_scene, .inr (7, [.ref a_p1_scene_steps, .ref a_p1_scene_worths, .ref a_p1_scene_comers, .ref a_p1_scene_seen, .ref a_p1_scene_seenLengths, .int v_p1_scene_seats, .int v_p1_scene_bear, .int v_p1_scene_comerCount, .int v_p1_scene_seenRows])), (a_p2, .inr (8, [.ref a_p2_filled, .ref a_p2_open, .ref a_p2_chance, .int u3.1, .int u3.2.1])), (a_p2_filled, eI cI 4096 u3.2.2.1), (a_p2_open, eI cI 4096 u3.2.2.2), (a_p1_clash, eI cI 12 v_p1_clash), (a_p2_chance, eI cI 4096 u4), (a_wholeSets, eI cI 13 u5), (a_orders, eJ cJ 13 u6)]) Cx hP hS rfl 0 rfl rfl (Nat.le_of_ble_eq_true rfl) dX1_take_59 (fun H locs hP hS => ?_)
    refine lv_iconst (v := 0) hx hb dX1_take_62 (by decide) ?_
    refine lv_istore_n (lv' := [(3, .int (0 : Int32)), (0, .ref a_t), (1, .ref a_p1), (2, .ref a_p2)]) hx hb dX1_take_63 rfl hl (by decide) rfl (fun ls hl => ?_)
    have L64_7 : ∀ (n : Nat) (y3_64 : Int32) (z_least_64 : Int32) (z_most_64 : Int32) (z_wholeSets_64 : Nat → Int32) (z_orders_64 : Nat → Int64) (o : Int32 × Int32 × (Nat → Int32) × (Nat → Int64)) (H : Heap) (locs : List Loc) (ls : Array Slot), f_X1_take_64 u3 u4 n y3_64 z_least_64 z_most_64 z_wholeSets_64 z_orders_64 = some o → va_P D vwCl [(a_t, .inr (1, [.ref a_wholeSets, .ref a_orders, .int z_least_64, .int z_most_64, .int v_known])), (a_p1, .inr (0, [.ref a_p1_scene, .ref a_p1_apart, .ref a_p1_clash, .ref a_p1_neighbours])), (a_p1_scene, .inr (7, [.ref a_p1_scene_steps, .ref a_p1_scene_worths, .ref a_p1_scene_comers, .ref a_p1_scene_seen, .ref a_p1_scene_seenLengths, .int v_p1_scene_seats, .int v_p1_scene_bear, .int v_p1_scene_comerCount, .int v_p1_scene_seenRows])), (a_p2, .inr (8, [.ref a_p2_filled, .ref a_p2_open, .ref a_p2_chance, .int u3.1, .int u3.2.1])), (a_p2_filled, eI cI 4096 u3.2.2.1), (a_p2_open, eI cI 4096 u3.2.2.2), (a_p1_clash, eI cI 12 v_p1_clash), (a_p2_chance, eI cI 4096 u4), (a_wholeSets, eI cI 13 z_wholeSets_64), (a_orders, eJ cJ 13 z_orders_64)] H → va_S A s.heap H locs → lv_has ls 4 [(0, .ref a_t), (2, .ref a_p2), (3, .int y3_64)] → (∀ (H : Heap) (locs : List Loc) (ls : Array Slot), va_P D vwCl [(a_t, .inr (1, [.ref a_wholeSets, .ref a_orders, .int o.1, .int o.2.1, .int v_known])), (a_p1, .inr (0, [.ref a_p1_scene, .ref a_p1_apart, .ref a_p1_clash, .ref a_p1_neighbours])), (a_p1_scene, .inr (7, [.ref a_p1_scene_steps, .ref a_p1_scene_worths, .ref a_p1_scene_comers, .ref a_p1_scene_seen, .ref a_p1_scene_seenLengths, .int v_p1_scene_seats, .int v_p1_scene_bear, .int v_p1_scene_comerCount, .int v_p1_scene_seenRows])), (a_p2, .inr (8, [.ref a_p2_filled, .ref a_p2_open, .ref a_p2_chance, .int u3.1, .int u3.2.1])), (a_p2_filled, eI cI 4096 u3.2.2.1), (a_p2_open, eI cI 4096 u3.2.2.2), (a_p1_clash, eI cI 12 v_p1_clash), (a_p2_chance, eI cI 4096 u4), (a_wholeSets, eI cI 13 o.2.2.1), (a_orders, eJ cJ 13 o.2.2.2)] H → va_S A s.heap H locs → lv_has ls 4 [(0, .ref a_t)] → W p l e { frames := 2, cells := 0, slots := 0, locals := 44 } s m args below meth c H locs 0 0 Q (F0 m 108 ls [])) → W p l e { frames := 2, cells := 0, slots := 0, locals := 44 } s m args below meth c H locs 0 0 Q (F0 m 64 ls []) := by
      intro n
      induction n with
      | zero => intro y3_64 z_least_64 z_most_64 z_wholeSets_64 z_orders_64 o H locs ls hf; exact (ob_n hf).elim
      | succ n ih =>
        intro y3_64 z_least_64 z_most_64 z_wholeSets_64 z_orders_64 o H locs ls hf hP hS hl kk
        rw [f_X1_take_64_s] at hf
        refine lv_iload_n hx hb dX1_take_64 rfl (lv_at hl 2 rfl) ?_
        refine lv_aload_n hx hb dX1_take_65 rfl (lv_at hl 1 rfl) ?_
        refine gf_X1_66 Cx hP 3 rfl rfl dX1_take_66 ?_
        refine lv_icmp_ge (tgt := 108) hx hb dX1_take_69 (by decide) (fun c8 => ?_) (fun c8 => ?_)
        · have hf := ob_t c8 hf
          obtain rfl := Option.some.inj hf
          exact kk _ _ _ hP hS (lv_sub hl [0] rfl)
        · have hf := ob_f c8 hf
          refine lv_aload_n hx hb dX1_take_72 rfl (lv_at hl 1 rfl) ?_
          refine gf_X1_69 Cx hP 3 rfl rfl dX1_take_73 ?_
          refine lv_iload_n hx hb dX1_take_76 rfl (lv_at hl 2 rfl) ?_
          obtain ⟨u9, hu9, hf⟩ := ob_b hf
          refine ba_iald Cx hP 5 rfl hu9 dX1_take_77 ?_
          refine ob_J (P := fun w10 => ∀ (H : Heap) (locs : List Loc) (ls : Array Slot), va_P D vwCl [(a_t, .inr (1, [.ref a_wholeSets, .ref a_orders, .int w10.1, .int w10.2.1, .int v_known])), (a_p1, .inr (0, [.ref a_p1_scene, .ref a_p1_apart, .ref a_p1_clash, .ref a_p1_neighbours])), (a_p1_scene, .inr (7, [.ref a_p1_scene_steps, .ref a_p1_scene_worths, .ref a_p1_scene_comers, .ref a_p1_scene_seen, .ref a_p1_scene_seenLengths, .int v_p1_scene_seats, .int v_p1_scene_bear, .int v_p1_scene_comerCount, .int v_p1_scene_seenRows])), (a_p2, .inr (8, [.ref a_p2_filled, .ref a_p2_open, .ref a_p2_chance, .int u3.1, .int u3.2.1])), (a_p2_filled, eI cI 4096 u3.2.2.1), (a_p2_open, eI cI 4096 u3.2.2.2), (a_p1_clash, eI cI 12 v_p1_clash), (a_p2_chance, eI cI 4096 u4), (a_wholeSets, eI cI 13 w10.2.2.1), (a_orders, eJ cJ 13 w10.2.2.2)] H → va_S A s.heap H locs → lv_has ls 4 [(0, .ref a_t), (2, .ref a_p2), (3, .int y3_64)] → W p l e { frames := 2, cells := 0, slots := 0, locals := 44 } s m args below meth c H locs 0 0 Q (F0 m 102 ls [])) hf ?_ ?_
          · intro w10 hf H locs ls hP hS hl
            refine lv_iinc (v := (y3_64 + 1)) (lv' := [(3, .int (y3_64 + 1)), (0, .ref a_t), (2, .ref a_p2)]) hx hb dX1_take_102 hl (k := 2) rfl rfl (by decide) rfl (fun ls hl => ?_)
            refine lv_goto (tgt := 64) hx hb dX1_take_105 (by decide) ?_
            exact ih (y3_64 + 1) w10.1 w10.2.1 w10.2.2.1 w10.2.2.2 _ _ _ _ hf hP hS (lv_sub hl [1, 2, 0] rfl) kk
          · intro J102_11 hf
            refine lv_if_ne (tgt := 102) hx hb dX1_take_78 (by decide) (fun c12 => ?_) (fun c12 => ?_)
            · have hf := ob_fk c12 hf
              exact J102_11 (z_least_64, z_most_64, z_wholeSets_64, z_orders_64) hf _ _ _ hP hS (lv_sub hl [0, 1, 2] rfl)
            · have hf := ob_tk c12 hf
              refine lv_aload_n hx hb dX1_take_81 rfl (lv_at hl 0 rfl) ?_
              refine lv_aload_n hx hb dX1_take_82 rfl (lv_at hl 1 rfl) ?_
              refine gf_X1_72 Cx hP 3 rfl rfl dX1_take_83 ?_
              refine lv_iload_n hx hb dX1_take_86 rfl (lv_at hl 2 rfl) ?_
              obtain ⟨u13, hu13, hf⟩ := ob_bk hf
              refine ba_iald Cx hP 4 rfl hu13 dX1_take_87 ?_
              refine lv_aload_n hx hb dX1_take_88 rfl (lv_at hl 1 rfl) ?_
              refine gf_X1_75 Cx hP 3 rfl rfl dX1_take_89 ?_
              refine lv_aload_n hx hb dX1_take_92 rfl (lv_at hl 1 rfl) ?_
              refine gf_X1_72 Cx hP 3 rfl rfl dX1_take_93 ?_
              refine lv_iload_n hx hb dX1_take_96 rfl (lv_at hl 2 rfl) ?_
              obtain ⟨u14, hu14, hf⟩ := ob_bk hf
              refine ba_iald Cx hP 4 rfl hu14 dX1_take_97 ?_
              obtain ⟨u15, hu15, hf⟩ := ob_bk hf
              refine ba_iald Cx hP 7 rfl hu15 dX1_take_98 ?_
              obtain ⟨u16, hu16, hf⟩ := ob_bk hf
              refine iv_X1_78 (As := [.int u13, .int u15]) (rest := []) (is := [0, 8, 9]) (q0 := 0) (X' := [(a_t, .inr (1, [.ref a_wholeSets, .ref a_orders, .int u16.1, .int u16.2.1, .int v_known])), (a_p1, .inr (0, [.ref a_p1_scene, .ref a_p1_apart, .ref a_p1_clash, .ref a_p1_neighbours])), (a_p1_scene, .inr (7, [.ref a_p1_scene_steps, .ref a_p1_scene_worths, .ref a_p1_scene_comers, .ref a_p1_scene_seen, .ref a_p1_scene_seenLengths, .int v_p1_scene_seats, .int v_p1_scene_bear, .int v_p1_scene_comerCount, .int v_p1_scene_seenRows])), (a_p2, .inr (8, [.ref a_p2_filled, .ref a_p2_open, .ref a_p2_chance, .int u3.1, .int u3.2.1])), (a_p2_filled, eI cI 4096 u3.2.2.1), (a_p2_open, eI cI 4096 u3.2.2.2), (a_p1_clash, eI cI 12 v_p1_clash), (a_p2_chance, eI cI 4096 u4), (a_wholeSets, eI cI 13 u16.2.2.1), (a_orders, eJ cJ 13 u16.2.2.2)]) Cx (c_X1_note l D cI cJ cZ cO a_t a_wholeSets a_orders z_least_64 z_most_64 v_known z_wholeSets_64 z_orders_64 u13 u15 u16 hu16) hP hS rfl rfl rfl rfl rfl rfl rfl hl.1 (Nat.le_of_ble_eq_true rfl) dX1_take_99 rfl rfl ⟨Nat.le_of_ble_eq_true rfl, Nat.le_of_ble_eq_true rfl⟩ ⟨Nat.zero_le _, Nat.zero_le _⟩ rfl (fun H locs hP hS => ?_)
              exact J102_11 (u16.1, u16.2.1, u16.2.2.1, u16.2.2.2) hf _ _ _ hP hS (lv_sub hl [0, 1, 2] rfl)
    obtain ⟨u17, hu17, hf⟩ := ob_b hf
    refine L64_7 FU (0 : Int32) (-6 : Int32) (-6 : Int32) u5 u6 u17 _ _ _ hu17 hP hS (lv_sub hl [1, 3, 0] rfl) ?_
    intro H locs ls hP hS hl
    refine lv_aload_n hx hb dX1_take_108 rfl (lv_at hl 0 rfl) ?_
    refine lv_iconst (v := 1) hx hb dX1_take_109 (by decide) ?_
    refine pf_X1_19 (X' := [(a_t, .inr (1, [.ref a_wholeSets, .ref a_orders, .int u17.1, .int u17.2.1, .int (1 : Int32)])), (a_p1, .inr (0, [.ref a_p1_scene, .ref a_p1_apart, .ref a_p1_clash, .ref a_p1_neighbours])), (a_p1_scene, .inr (7, [.ref a_p1_scene_steps, .ref a_p1_scene_worths, .ref a_p1_scene_comers, .ref a_p1_scene_seen, .ref a_p1_scene_seenLengths, .int v_p1_scene_seats, .int v_p1_scene_bear, .int v_p1_scene_comerCount, .int v_p1_scene_seenRows])), (a_p2, .inr (8, [.ref a_p2_filled, .ref a_p2_open, .ref a_p2_chance, .int u3.1, .int u3.2.1])), (a_p2_filled, eI cI 4096 u3.2.2.1), (a_p2_open, eI cI 4096 u3.2.2.2), (a_p1_clash, eI cI 12 v_p1_clash), (a_p2_chance, eI cI 4096 u4), (a_wholeSets, eI cI 13 u17.2.2.1), (a_orders, eJ cJ 13 u17.2.2.2)]) Cx hP hS rfl 0 rfl (by decide) (by decide) rfl (Nat.le_of_ble_eq_true rfl) dX1_take_110 (fun H locs hP hS => ?_)
    obtain rfl := Option.some.inj hf
    exact ret _ _ _ _ dX1_take_113 hP hS
  · have hf := ob_f c1 hf
    obtain rfl := Option.some.inj hf
    exact ret _ _ _ _ dX1_take_7 hP hS

def f_X1_sumOfSitters_4 (v_orders : Nat → Int64) : Nat → Int64 → Int32 → Option (Int64)
  | 0, _, _ => none
  | n + 1, y1_4, y3_4 =>
  if (12 : Int32) < y3_4 then
  some (y1_4)
  else
  (aget 13 v_orders y3_4).bind (fun u3 =>
  f_X1_sumOfSitters_4 v_orders n (y1_4 + ((y3_4).toInt64 * u3)) (y3_4 + 1))
theorem f_X1_sumOfSitters_4_s (v_orders : Nat → Int64) (n : Nat) (y1_4 : Int64) (y3_4 : Int32) : f_X1_sumOfSitters_4 v_orders (n + 1) y1_4 y3_4 =
  (if (12 : Int32) < y3_4 then
  some (y1_4)
  else
  (aget 13 v_orders y3_4).bind (fun u3 =>
  f_X1_sumOfSitters_4 v_orders n (y1_4 + ((y3_4).toInt64 * u3)) (y3_4 + 1))) := rfl
def f_X1_sumOfSitters (v_orders : Nat → Int64) : Option (Int64) :=
  (f_X1_sumOfSitters_4 v_orders FU (0 : Int64) (0 : Int32)).bind (fun u4 =>
  some (u4))
set_option maxHeartbeats 4000000 in
set_option maxRecDepth 100000 in
theorem c_X1_sumOfSitters (l : Launch) (D : va_G) (cI cJ cZ cO : ClassId) (a_t a_wholeSets a_orders : Nat) (v_least : Int32) (v_most : Int32) (v_known : Int32) (v_orders : Nat → Int64) (out : Int64) (hf : f_X1_sumOfSitters v_orders = some out) : MetR l yX1_sumOfSitters (Cond.code yX1_sumOfSitters cX1_sumOfSitters 4 (some .long) :: tbG) { frames := 0, cells := 0, slots := 0, locals := 0 } D (tyL cI cJ cZ cO) [.ref a_t] [(a_t, .inr (1, [.ref a_wholeSets, .ref a_orders, .int v_least, .int v_most, .int v_known])), (a_orders, eJ cJ 13 v_orders)] (some (.long out)) [(a_t, .inr (1, [.ref a_wholeSets, .ref a_orders, .int v_least, .int v_most, .int v_known])), (a_orders, eJ cJ 13 v_orders)] := by
  refine ba_ofL RX1 [(0, .ref a_t)] (by decide +kernel) rfl (Nat.le_of_ble_eq_true rfl) rfl ?_
  intro p e s m args below meth c Q A Cx hP ret ls hl
  obtain ⟨⟨hx, hb, hml, hown, hts⟩, hK, hD, hA⟩ := id Cx
  have hS : va_S A s.heap s.heap [] := va_S.rf
  unfold f_X1_sumOfSitters at hf
  refine lv_lconst (v := 0) hx hb dX1_sumOfSitters_0 (by decide) ?_
  refine lv_lstore_n (lv' := [(1, .long (0 : Int64)), (0, .ref a_t)]) hx hb dX1_sumOfSitters_1 rfl hl (by decide) rfl (fun ls hl => ?_)
  refine lv_iconst (v := 0) hx hb dX1_sumOfSitters_2 (by decide) ?_
  refine lv_istore_n (lv' := [(3, .int (0 : Int32)), (1, .long (0 : Int64)), (0, .ref a_t)]) hx hb dX1_sumOfSitters_3 rfl hl (by decide) rfl (fun ls hl => ?_)
  have L4_1 : ∀ (n : Nat) (y1_4 : Int64) (y3_4 : Int32) (o : Int64) (H : Heap) (locs : List Loc) (ls : Array Slot), f_X1_sumOfSitters_4 v_orders n y1_4 y3_4 = some o → va_P D vwCl [(a_t, .inr (1, [.ref a_wholeSets, .ref a_orders, .int v_least, .int v_most, .int v_known])), (a_orders, eJ cJ 13 v_orders)] H → va_S A s.heap H locs → lv_has ls 4 [(0, .ref a_t), (1, .long y1_4), (3, .int y3_4)] → (∀ (H : Heap) (locs : List Loc) (ls : Array Slot), va_P D vwCl [(a_t, .inr (1, [.ref a_wholeSets, .ref a_orders, .int v_least, .int v_most, .int v_known])), (a_orders, eJ cJ 13 v_orders)] H → va_S A s.heap H locs → lv_has ls 4 [(1, .long o)] → W p l e { frames := 0, cells := 0, slots := 0, locals := 0 } s m args below meth c H locs 0 0 Q (F0 m 28 ls [])) → W p l e { frames := 0, cells := 0, slots := 0, locals := 0 } s m args below meth c H locs 0 0 Q (F0 m 4 ls []) := by
    intro n
    induction n with
    | zero => intro y1_4 y3_4 o H locs ls hf; exact (ob_n hf).elim
    | succ n ih =>
      intro y1_4 y3_4 o H locs ls hf hP hS hl kk
      rw [f_X1_sumOfSitters_4_s] at hf
      refine lv_iload_n hx hb dX1_sumOfSitters_4 rfl (lv_at hl 2 rfl) ?_
      refine lv_bipush (v := 12) hx hb dX1_sumOfSitters_5 (by decide) ?_
      refine lv_icmp_gt (tgt := 28) hx hb dX1_sumOfSitters_7 (by decide) (fun c2 => ?_) (fun c2 => ?_)
      · have hf := ob_t c2 hf
        obtain rfl := Option.some.inj hf
        exact kk _ _ _ hP hS (lv_sub hl [1] rfl)
      · have hf := ob_f c2 hf
        refine lv_lload_n hx hb dX1_sumOfSitters_10 rfl (lv_at hl 1 rfl) ?_
        refine lv_iload_n hx hb dX1_sumOfSitters_11 rfl (lv_at hl 2 rfl) ?_
        refine lv_i2l (v := (y3_4).toInt64) hx hb dX1_sumOfSitters_12 rfl ?_
        refine lv_aload_n hx hb dX1_sumOfSitters_13 rfl (lv_at hl 0 rfl) ?_
        refine gf_X1_15 Cx hP 0 rfl rfl dX1_sumOfSitters_14 ?_
        refine lv_iload_n hx hb dX1_sumOfSitters_17 rfl (lv_at hl 2 rfl) ?_
        obtain ⟨u3, hu3, hf⟩ := ob_b hf
        refine ba_lald Cx hP 1 rfl hu3 dX1_sumOfSitters_18 ?_
        refine lv_lmul hx hb dX1_sumOfSitters_19 ?_
        refine lv_ladd hx hb dX1_sumOfSitters_20 ?_
        refine lv_lstore_n (lv' := [(1, .long (y1_4 + ((y3_4).toInt64 * u3))), (0, .ref a_t), (3, .int y3_4)]) hx hb dX1_sumOfSitters_21 rfl hl (by decide) rfl (fun ls hl => ?_)
        refine lv_iinc (v := (y3_4 + 1)) (lv' := [(3, .int (y3_4 + 1)), (1, .long (y1_4 + ((y3_4).toInt64 * u3))), (0, .ref a_t)]) hx hb dX1_sumOfSitters_22 hl (k := 2) rfl rfl (by decide) rfl (fun ls hl => ?_)
        refine lv_goto (tgt := 4) hx hb dX1_sumOfSitters_25 (by decide) ?_
        exact ih (y1_4 + ((y3_4).toInt64 * u3)) (y3_4 + 1) _ _ _ _ hf hP hS (lv_sub hl [2, 1, 0] rfl) kk
  obtain ⟨u4, hu4, hf⟩ := ob_b hf
  refine L4_1 FU (0 : Int64) (0 : Int32) u4 _ _ _ hu4 hP hS (lv_sub hl [2, 1, 0] rfl) ?_
  intro H locs ls hP hS hl
  refine lv_lload_n hx hb dX1_sumOfSitters_28 rfl (lv_at hl 0 rfl) ?_
  obtain rfl := Option.some.inj hf
  exact ret _ _ _ _ dX1_sumOfSitters_29 hP hS

def f_X2_list_22 (v_p1_scene_seats : Int32) (v_p1_apart : Nat → Int32) (v_p1_clash : Nat → Int32) (y2_7 : Int32) : Nat → Int32 → Int32 → (Nat → Int32) → (Nat → Int32) → (Nat → Int32) → Option (Int32 × (Nat → Int32) × (Nat → Int32) × (Nat → Int32))
  | 0, _, _, _, _, _ => none
  | n + 1, y3_22, z_count_22, z_lesser_22, z_greater_22, z_tooNear_22 =>
  if v_p1_scene_seats ≤ y3_22 then
  some (z_count_22, z_lesser_22, z_greater_22, z_tooNear_22)
  else
  (f_X0_farness v_p1_apart y2_7 y3_22).bind (fun u5 =>
  (if u5 = (1 : Int32) then
  if (12 : Int32) ≤ z_count_22 then
  some (z_count_22, z_lesser_22, z_greater_22, z_tooNear_22)
  else
  (asetI 12 z_lesser_22 z_count_22 y2_7).bind (fun u10 =>
  (asetI 12 z_greater_22 z_count_22 y3_22).bind (fun u11 =>
  (aget 12 v_p1_clash y2_7).bind (fun u12 =>
  (aget 12 v_p1_clash y3_22).bind (fun u13 =>
  (asetI 12 z_tooNear_22 z_count_22 (u12 ||| u13)).bind (fun u14 =>
  some ((z_count_22 + (1 : Int32)), u10, u11, u14))))))
  else
  some (z_count_22, z_lesser_22, z_greater_22, z_tooNear_22)).bind (fun w6 =>
  f_X2_list_22 v_p1_scene_seats v_p1_apart v_p1_clash y2_7 n (y3_22 + 1) w6.1 w6.2.1 w6.2.2.1 w6.2.2.2))
theorem f_X2_list_22_s (v_p1_scene_seats : Int32) (v_p1_apart : Nat → Int32) (v_p1_clash : Nat → Int32) (y2_7 : Int32) (n : Nat) (y3_22 : Int32) (z_count_22 : Int32) (z_lesser_22 : Nat → Int32) (z_greater_22 : Nat → Int32) (z_tooNear_22 : Nat → Int32) : f_X2_list_22 v_p1_scene_seats v_p1_apart v_p1_clash y2_7 (n + 1) y3_22 z_count_22 z_lesser_22 z_greater_22 z_tooNear_22 =
  (if v_p1_scene_seats ≤ y3_22 then
  some (z_count_22, z_lesser_22, z_greater_22, z_tooNear_22)
  else
  (f_X0_farness v_p1_apart y2_7 y3_22).bind (fun u5 =>
  (if u5 = (1 : Int32) then
  if (12 : Int32) ≤ z_count_22 then
  some (z_count_22, z_lesser_22, z_greater_22, z_tooNear_22)
  else
  (asetI 12 z_lesser_22 z_count_22 y2_7).bind (fun u10 =>
  (asetI 12 z_greater_22 z_count_22 y3_22).bind (fun u11 =>
  (aget 12 v_p1_clash y2_7).bind (fun u12 =>
  (aget 12 v_p1_clash y3_22).bind (fun u13 =>
  (asetI 12 z_tooNear_22 z_count_22 (u12 ||| u13)).bind (fun u14 =>
  some ((z_count_22 + (1 : Int32)), u10, u11, u14))))))
  else
  some (z_count_22, z_lesser_22, z_greater_22, z_tooNear_22)).bind (fun w6 =>
  f_X2_list_22 v_p1_scene_seats v_p1_apart v_p1_clash y2_7 n (y3_22 + 1) w6.1 w6.2.1 w6.2.2.1 w6.2.2.2))) := rfl
def f_X2_list_7 (v_p1_scene_seats : Int32) (v_p1_apart : Nat → Int32) (v_p1_clash : Nat → Int32) : Nat → Int32 → Int32 → (Nat → Int32) → (Nat → Int32) → (Nat → Int32) → Option (Int32 × (Nat → Int32) × (Nat → Int32) × (Nat → Int32))
  | 0, _, _, _, _, _ => none
  | n + 1, y2_7, z_count_7, z_lesser_7, z_greater_7, z_tooNear_7 =>
  if v_p1_scene_seats ≤ y2_7 then
  some (z_count_7, z_lesser_7, z_greater_7, z_tooNear_7)
  else
  (f_X2_list_22 v_p1_scene_seats v_p1_apart v_p1_clash y2_7 FU (y2_7 + (1 : Int32)) z_count_7 z_lesser_7 z_greater_7 z_tooNear_7).bind (fun u15 =>
  f_X2_list_7 v_p1_scene_seats v_p1_apart v_p1_clash n (y2_7 + 1) u15.1 u15.2.1 u15.2.2.1 u15.2.2.2)
theorem f_X2_list_7_s (v_p1_scene_seats : Int32) (v_p1_apart : Nat → Int32) (v_p1_clash : Nat → Int32) (n : Nat) (y2_7 : Int32) (z_count_7 : Int32) (z_lesser_7 : Nat → Int32) (z_greater_7 : Nat → Int32) (z_tooNear_7 : Nat → Int32) : f_X2_list_7 v_p1_scene_seats v_p1_apart v_p1_clash (n + 1) y2_7 z_count_7 z_lesser_7 z_greater_7 z_tooNear_7 =
  (if v_p1_scene_seats ≤ y2_7 then
  some (z_count_7, z_lesser_7, z_greater_7, z_tooNear_7)
  else
  (f_X2_list_22 v_p1_scene_seats v_p1_apart v_p1_clash y2_7 FU (y2_7 + (1 : Int32)) z_count_7 z_lesser_7 z_greater_7 z_tooNear_7).bind (fun u15 =>
  f_X2_list_7 v_p1_scene_seats v_p1_apart v_p1_clash n (y2_7 + 1) u15.1 u15.2.1 u15.2.2.1 u15.2.2.2)) := rfl
def f_X2_list (v_p1_scene_seats : Int32) (v_p1_apart : Nat → Int32) (v_lesser : Nat → Int32) (v_greater : Nat → Int32) (v_p1_clash : Nat → Int32) (v_tooNear : Nat → Int32) : Option (Int32 × (Nat → Int32) × (Nat → Int32) × (Nat → Int32)) :=
  (f_X2_list_7 v_p1_scene_seats v_p1_apart v_p1_clash FU (0 : Int32) (0 : Int32) v_lesser v_greater v_tooNear).bind (fun u16 =>
  some (u16.1, u16.2.1, u16.2.2.1, u16.2.2.2))
set_option maxHeartbeats 4000000 in
set_option maxRecDepth 100000 in
theorem c_X2_list (l : Launch) (D : va_G) (cI cJ cZ cO : ClassId) (a_t a_lesser a_greater a_tooNear a_clash a_p1 a_p1_scene a_p1_apart a_p1_clash a_p1_neighbours a_p1_scene_steps a_p1_scene_worths a_p1_scene_comers a_p1_scene_seen a_p1_scene_seenLengths : Nat) (v_count : Int32) (v_p1_scene_seats : Int32) (v_p1_scene_bear : Int32) (v_p1_scene_comerCount : Int32) (v_p1_scene_seenRows : Int32) (v_p1_apart : Nat → Int32) (v_lesser : Nat → Int32) (v_greater : Nat → Int32) (v_p1_clash : Nat → Int32) (v_tooNear : Nat → Int32) (out : Int32 × (Nat → Int32) × (Nat → Int32) × (Nat → Int32)) (hf : f_X2_list v_p1_scene_seats v_p1_apart v_lesser v_greater v_p1_clash v_tooNear = some out) : MetR l yX2_list (Cond.code yX2_list cX2_list 4 none :: tbG) { frames := 1, cells := 0, slots := 0, locals := 22 } D (tyL cI cJ cZ cO) [.ref a_t, .ref a_p1] [(a_t, .inr (2, [.ref a_lesser, .ref a_greater, .ref a_tooNear, .ref a_clash, .int v_count])), (a_p1, .inr (0, [.ref a_p1_scene, .ref a_p1_apart, .ref a_p1_clash, .ref a_p1_neighbours])), (a_p1_scene, .inr (7, [.ref a_p1_scene_steps, .ref a_p1_scene_worths, .ref a_p1_scene_comers, .ref a_p1_scene_seen, .ref a_p1_scene_seenLengths, .int v_p1_scene_seats, .int v_p1_scene_bear, .int v_p1_scene_comerCount, .int v_p1_scene_seenRows])), (a_p1_apart, eI cI 144 v_p1_apart), (a_lesser, eI cI 12 v_lesser), (a_greater, eI cI 12 v_greater), (a_p1_clash, eI cI 12 v_p1_clash), (a_tooNear, eI cI 12 v_tooNear)] none [(a_t, .inr (2, [.ref a_lesser, .ref a_greater, .ref a_tooNear, .ref a_clash, .int out.1])), (a_p1, .inr (0, [.ref a_p1_scene, .ref a_p1_apart, .ref a_p1_clash, .ref a_p1_neighbours])), (a_p1_scene, .inr (7, [.ref a_p1_scene_steps, .ref a_p1_scene_worths, .ref a_p1_scene_comers, .ref a_p1_scene_seen, .ref a_p1_scene_seenLengths, .int v_p1_scene_seats, .int v_p1_scene_bear, .int v_p1_scene_comerCount, .int v_p1_scene_seenRows])), (a_p1_apart, eI cI 144 v_p1_apart), (a_lesser, eI cI 12 out.2.1), (a_greater, eI cI 12 out.2.2.1), (a_p1_clash, eI cI 12 v_p1_clash), (a_tooNear, eI cI 12 out.2.2.2)] := by
  refine ba_ofV RX2 [(0, .ref a_t), (1, .ref a_p1)] (by decide +kernel) rfl (Nat.le_of_ble_eq_true rfl) rfl ?_
  intro p e s m args below meth c Q A Cx hP ret ls hl
  obtain ⟨⟨hx, hb, hml, hown, hts⟩, hK, hD, hA⟩ := id Cx
  have hS : va_S A s.heap s.heap [] := va_S.rf
  unfold f_X2_list at hf
  refine lv_aload_n hx hb dX2_list_0 rfl (lv_at hl 0 rfl) ?_
  refine lv_iconst (v := 0) hx hb dX2_list_1 (by decide) ?_
  refine pf_X2_24 (X' := [(a_t, .inr (2, [.ref a_lesser, .ref a_greater, .ref a_tooNear, .ref a_clash, .int (0 : Int32)])), (a_p1, .inr (0, [.ref a_p1_scene, .ref a_p1_apart, .ref a_p1_clash, .ref a_p1_neighbours])), (a_p1_scene, .inr (7, [.ref a_p1_scene_steps, .ref a_p1_scene_worths, .ref a_p1_scene_comers, .ref a_p1_scene_seen, .ref a_p1_scene_seenLengths, .int v_p1_scene_seats, .int v_p1_scene_bear, .int v_p1_scene_comerCount, .int v_p1_scene_seenRows])), (a_p1_apart, eI cI 144 v_p1_apart), (a_lesser, eI cI 12 v_lesser), (a_greater, eI cI 12 v_greater), (a_p1_clash, eI cI 12 v_p1_clash), (a_tooNear, eI cI 12 v_tooNear)]) Cx hP hS rfl 0 rfl rfl (Nat.le_of_ble_eq_true rfl) dX2_list_2 (fun H locs hP hS => ?_)
  refine lv_iconst (v := 0) hx hb dX2_list_5 (by decide) ?_
  refine lv_istore_n (lv' := [(2, .int (0 : Int32)), (0, .ref a_t), (1, .ref a_p1)]) hx hb dX2_list_6 rfl hl (by decide) rfl (fun ls hl => ?_)
  have L7_1 : ∀ (n : Nat) (y2_7 : Int32) (z_count_7 : Int32) (z_lesser_7 : Nat → Int32) (z_greater_7 : Nat → Int32) (z_tooNear_7 : Nat → Int32) (o : Int32 × (Nat → Int32) × (Nat → Int32) × (Nat → Int32)) (H : Heap) (locs : List Loc) (ls : Array Slot), f_X2_list_7 v_p1_scene_seats v_p1_apart v_p1_clash n y2_7 z_count_7 z_lesser_7 z_greater_7 z_tooNear_7 = some o → va_P D vwCl [(a_t, .inr (2, [.ref a_lesser, .ref a_greater, .ref a_tooNear, .ref a_clash, .int z_count_7])), (a_p1, .inr (0, [.ref a_p1_scene, .ref a_p1_apart, .ref a_p1_clash, .ref a_p1_neighbours])), (a_p1_scene, .inr (7, [.ref a_p1_scene_steps, .ref a_p1_scene_worths, .ref a_p1_scene_comers, .ref a_p1_scene_seen, .ref a_p1_scene_seenLengths, .int v_p1_scene_seats, .int v_p1_scene_bear, .int v_p1_scene_comerCount, .int v_p1_scene_seenRows])), (a_p1_apart, eI cI 144 v_p1_apart), (a_lesser, eI cI 12 z_lesser_7), (a_greater, eI cI 12 z_greater_7), (a_p1_clash, eI cI 12 v_p1_clash), (a_tooNear, eI cI 12 z_tooNear_7)] H → va_S A s.heap H locs → lv_has ls 4 [(0, .ref a_t), (1, .ref a_p1), (2, .int y2_7)] → (∀ (H : Heap) (locs : List Loc) (ls : Array Slot), va_P D vwCl [(a_t, .inr (2, [.ref a_lesser, .ref a_greater, .ref a_tooNear, .ref a_clash, .int o.1])), (a_p1, .inr (0, [.ref a_p1_scene, .ref a_p1_apart, .ref a_p1_clash, .ref a_p1_neighbours])), (a_p1_scene, .inr (7, [.ref a_p1_scene_steps, .ref a_p1_scene_worths, .ref a_p1_scene_comers, .ref a_p1_scene_seen, .ref a_p1_scene_seenLengths, .int v_p1_scene_seats, .int v_p1_scene_bear, .int v_p1_scene_comerCount, .int v_p1_scene_seenRows])), (a_p1_apart, eI cI 144 v_p1_apart), (a_lesser, eI cI 12 o.2.1), (a_greater, eI cI 12 o.2.2.1), (a_p1_clash, eI cI 12 v_p1_clash), (a_tooNear, eI cI 12 o.2.2.2)] H → va_S A s.heap H locs → lv_has ls 4 [] → W p l e { frames := 1, cells := 0, slots := 0, locals := 22 } s m args below meth c H locs 0 0 Q (F0 m 116 ls [])) → W p l e { frames := 1, cells := 0, slots := 0, locals := 22 } s m args below meth c H locs 0 0 Q (F0 m 7 ls []) := by
    intro n
    induction n with
    | zero => intro y2_7 z_count_7 z_lesser_7 z_greater_7 z_tooNear_7 o H locs ls hf; exact (ob_n hf).elim
    | succ n ih =>
      intro y2_7 z_count_7 z_lesser_7 z_greater_7 z_tooNear_7 o H locs ls hf hP hS hl kk
      rw [f_X2_list_7_s] at hf
      refine lv_iload_n hx hb dX2_list_7 rfl (lv_at hl 2 rfl) ?_
      refine lv_aload_n hx hb dX2_list_8 rfl (lv_at hl 1 rfl) ?_
      refine gf_X2_28 Cx hP 1 rfl rfl dX2_list_9 ?_
      refine gf_X2_34 Cx hP 2 rfl rfl dX2_list_12 ?_
      refine lv_icmp_ge (tgt := 116) hx hb dX2_list_15 (by decide) (fun c2 => ?_) (fun c2 => ?_)
      · have hf := ob_t c2 hf
        obtain rfl := Option.some.inj hf
        exact kk _ _ _ hP hS (lv_sub hl [] rfl)
      · have hf := ob_f c2 hf
        refine lv_iload_n hx hb dX2_list_18 rfl (lv_at hl 2 rfl) ?_
        refine lv_iconst (v := 1) hx hb dX2_list_19 (by decide) ?_
        refine lv_iadd hx hb dX2_list_20 ?_
        refine lv_istore_n (lv' := [(3, .int (y2_7 + (1 : Int32))), (0, .ref a_t), (1, .ref a_p1), (2, .int y2_7)]) hx hb dX2_list_21 rfl hl (by decide) rfl (fun ls hl => ?_)
        have L22_3 : ∀ (n : Nat) (y3_22 : Int32) (z_count_22 : Int32) (z_lesser_22 : Nat → Int32) (z_greater_22 : Nat → Int32) (z_tooNear_22 : Nat → Int32) (o : Int32 × (Nat → Int32) × (Nat → Int32) × (Nat → Int32)) (H : Heap) (locs : List Loc) (ls : Array Slot), f_X2_list_22 v_p1_scene_seats v_p1_apart v_p1_clash y2_7 n y3_22 z_count_22 z_lesser_22 z_greater_22 z_tooNear_22 = some o → va_P D vwCl [(a_t, .inr (2, [.ref a_lesser, .ref a_greater, .ref a_tooNear, .ref a_clash, .int z_count_22])), (a_p1, .inr (0, [.ref a_p1_scene, .ref a_p1_apart, .ref a_p1_clash, .ref a_p1_neighbours])), (a_p1_scene, .inr (7, [.ref a_p1_scene_steps, .ref a_p1_scene_worths, .ref a_p1_scene_comers, .ref a_p1_scene_seen, .ref a_p1_scene_seenLengths, .int v_p1_scene_seats, .int v_p1_scene_bear, .int v_p1_scene_comerCount, .int v_p1_scene_seenRows])), (a_p1_apart, eI cI 144 v_p1_apart), (a_lesser, eI cI 12 z_lesser_22), (a_greater, eI cI 12 z_greater_22), (a_p1_clash, eI cI 12 v_p1_clash), (a_tooNear, eI cI 12 z_tooNear_22)] H → va_S A s.heap H locs → lv_has ls 4 [(0, .ref a_t), (1, .ref a_p1), (2, .int y2_7), (3, .int y3_22)] → (∀ (H : Heap) (locs : List Loc) (ls : Array Slot), va_P D vwCl [(a_t, .inr (2, [.ref a_lesser, .ref a_greater, .ref a_tooNear, .ref a_clash, .int o.1])), (a_p1, .inr (0, [.ref a_p1_scene, .ref a_p1_apart, .ref a_p1_clash, .ref a_p1_neighbours])), (a_p1_scene, .inr (7, [.ref a_p1_scene_steps, .ref a_p1_scene_worths, .ref a_p1_scene_comers, .ref a_p1_scene_seen, .ref a_p1_scene_seenLengths, .int v_p1_scene_seats, .int v_p1_scene_bear, .int v_p1_scene_comerCount, .int v_p1_scene_seenRows])), (a_p1_apart, eI cI 144 v_p1_apart), (a_lesser, eI cI 12 o.2.1), (a_greater, eI cI 12 o.2.2.1), (a_p1_clash, eI cI 12 v_p1_clash), (a_tooNear, eI cI 12 o.2.2.2)] H → va_S A s.heap H locs → lv_has ls 4 [(0, .ref a_t), (1, .ref a_p1), (2, .int y2_7)] → W p l e { frames := 1, cells := 0, slots := 0, locals := 22 } s m args below meth c H locs 0 0 Q (F0 m 110 ls [])) → W p l e { frames := 1, cells := 0, slots := 0, locals := 22 } s m args below meth c H locs 0 0 Q (F0 m 22 ls []) := by
          intro n
          induction n with
          | zero => intro y3_22 z_count_22 z_lesser_22 z_greater_22 z_tooNear_22 o H locs ls hf; exact (ob_n hf).elim
          | succ n ih =>
            intro y3_22 z_count_22 z_lesser_22 z_greater_22 z_tooNear_22 o H locs ls hf hP hS hl kk
            rw [f_X2_list_22_s] at hf
            refine lv_iload_n hx hb dX2_list_22 rfl (lv_at hl 3 rfl) ?_
            refine lv_aload_n hx hb dX2_list_23 rfl (lv_at hl 1 rfl) ?_
            refine gf_X2_28 Cx hP 1 rfl rfl dX2_list_24 ?_
            refine gf_X2_34 Cx hP 2 rfl rfl dX2_list_27 ?_
            refine lv_icmp_ge (tgt := 110) hx hb dX2_list_30 (by decide) (fun c4 => ?_) (fun c4 => ?_)
            · have hf := ob_t c4 hf
              obtain rfl := Option.some.inj hf
              exact kk _ _ _ hP hS (lv_sub hl [0, 1, 2] rfl)
            · have hf := ob_f c4 hf
              refine lv_aload_n hx hb dX2_list_33 rfl (lv_at hl 1 rfl) ?_
              refine lv_iload_n hx hb dX2_list_34 rfl (lv_at hl 2 rfl) ?_
              refine lv_iload_n hx hb dX2_list_35 rfl (lv_at hl 3 rfl) ?_
              obtain ⟨u5, hu5, hf⟩ := ob_b hf
              refine iv_X2_39 (As := [.int y2_7, .int y3_22]) (rest := []) (is := [1, 3]) (q0 := 1) (X' := [(a_t, .inr (2, [.ref a_lesser, .ref a_greater, .ref a_tooNear, .ref a_clash, .int z_count_22])), (a_p1, .inr (0, [.ref a_p1_scene, .ref a_p1_apart, .ref a_p1_clash, .ref a_p1_neighbours])), (a_p1_scene, .inr (7, [.ref a_p1_scene_steps, .ref a_p1_scene_worths, .ref a_p1_scene_comers, .ref a_p1_scene_seen, .ref a_p1_scene_seenLengths, .int v_p1_scene_seats, .int v_p1_scene_bear, .int v_p1_scene_comerCount, .int v_p1_scene_seenRows])), (a_p1_apart, eI cI 144 v_p1_apart), (a_lesser, eI cI 12 z_lesser_22), (a_greater, eI cI 12 z_greater_22), (a_p1_clash, eI cI 12 v_p1_clash), (a_tooNear, eI cI 12 z_tooNear_22)]) Cx (c_X0_farness l D cI cJ cZ cO a_p1 a_p1_scene a_p1_apart a_p1_clash a_p1_neighbours v_p1_apart y2_7 y3_22 u5 hu5) hP hS rfl rfl rfl rfl rfl rfl rfl hl.1 (Nat.le_of_ble_eq_true rfl) dX2_list_36 rfl rfl ⟨Nat.le_of_ble_eq_true rfl, Nat.le_of_ble_eq_true rfl⟩ ⟨Nat.zero_le _, Nat.zero_le _⟩ rfl (fun H locs hP hS => ?_)
              refine lv_iconst (v := 1) hx hb dX2_list_39 (by decide) ?_
              refine ob_J (P := fun w6 => ∀ (H : Heap) (locs : List Loc) (ls : Array Slot), va_P D vwCl [(a_t, .inr (2, [.ref a_lesser, .ref a_greater, .ref a_tooNear, .ref a_clash, .int w6.1])), (a_p1, .inr (0, [.ref a_p1_scene, .ref a_p1_apart, .ref a_p1_clash, .ref a_p1_neighbours])), (a_p1_scene, .inr (7, [.ref a_p1_scene_steps, .ref a_p1_scene_worths, .ref a_p1_scene_comers, .ref a_p1_scene_seen, .ref a_p1_scene_seenLengths, .int v_p1_scene_seats, .int v_p1_scene_bear, .int v_p1_scene_comerCount, .int v_p1_scene_seenRows])), (a_p1_apart, eI cI 144 v_p1_apart), (a_lesser, eI cI 12 w6.2.1), (a_greater, eI cI 12 w6.2.2.1), (a_p1_clash, eI cI 12 v_p1_clash), (a_tooNear, eI cI 12 w6.2.2.2)] H → va_S A s.heap H locs → lv_has ls 4 [(0, .ref a_t), (1, .ref a_p1), (2, .int y2_7), (3, .int y3_22)] → W p l e { frames := 1, cells := 0, slots := 0, locals := 22 } s m args below meth c H locs 0 0 Q (F0 m 104 ls [])) hf ?_ ?_
              · intro w6 hf H locs ls hP hS hl
                refine lv_iinc (v := (y3_22 + 1)) (lv' := [(3, .int (y3_22 + 1)), (0, .ref a_t), (1, .ref a_p1), (2, .int y2_7)]) hx hb dX2_list_104 hl (k := 3) rfl rfl (by decide) rfl (fun ls hl => ?_)
                refine lv_goto (tgt := 22) hx hb dX2_list_107 (by decide) ?_
                exact ih (y3_22 + 1) w6.1 w6.2.1 w6.2.2.1 w6.2.2.2 _ _ _ _ hf hP hS (lv_sub hl [1, 2, 3, 0] rfl) kk
              · intro J104_7 hf
                refine lv_icmp_ne (tgt := 104) hx hb dX2_list_40 (by decide) (fun c8 => ?_) (fun c8 => ?_)
                · have hf := ob_fk c8 hf
                  exact J104_7 (z_count_22, z_lesser_22, z_greater_22, z_tooNear_22) hf _ _ _ hP hS (lv_sub hl [0, 1, 2, 3] rfl)
                · have hf := ob_tk c8 hf
                  refine lv_aload_n hx hb dX2_list_43 rfl (lv_at hl 0 rfl) ?_
                  refine gf_X2_24 Cx hP 0 rfl rfl dX2_list_44 ?_
                  refine lv_bipush (v := 12) hx hb dX2_list_47 (by decide) ?_
                  refine lv_icmp_ge (tgt := 104) hx hb dX2_list_49 (by decide) (fun c9 => ?_) (fun c9 => ?_)
                  · have hf := ob_tk c9 hf
                    exact J104_7 (z_count_22, z_lesser_22, z_greater_22, z_tooNear_22) hf _ _ _ hP hS (lv_sub hl [0, 1, 2, 3] rfl)
                  · have hf := ob_fk c9 hf
                    refine lv_aload_n hx hb dX2_list_52 rfl (lv_at hl 0 rfl) ?_
                    refine gf_X2_9 Cx hP 0 rfl rfl dX2_list_53 ?_
                    refine lv_aload_n hx hb dX2_list_56 rfl (lv_at hl 0 rfl) ?_
                    refine gf_X2_24 Cx hP 0 rfl rfl dX2_list_57 ?_
                    refine lv_iload_n hx hb dX2_list_60 rfl (lv_at hl 2 rfl) ?_
                    obtain ⟨u10, hu10, hf⟩ := ob_bk hf
                    refine ba_iast (X' := [(a_t, .inr (2, [.ref a_lesser, .ref a_greater, .ref a_tooNear, .ref a_clash, .int z_count_22])), (a_p1, .inr (0, [.ref a_p1_scene, .ref a_p1_apart, .ref a_p1_clash, .ref a_p1_neighbours])), (a_p1_scene, .inr (7, [.ref a_p1_scene_steps, .ref a_p1_scene_worths, .ref a_p1_scene_comers, .ref a_p1_scene_seen, .ref a_p1_scene_seenLengths, .int v_p1_scene_seats, .int v_p1_scene_bear, .int v_p1_scene_comerCount, .int v_p1_scene_seenRows])), (a_p1_apart, eI cI 144 v_p1_apart), (a_lesser, eI cI 12 u10), (a_greater, eI cI 12 z_greater_22), (a_p1_clash, eI cI 12 v_p1_clash), (a_tooNear, eI cI 12 z_tooNear_22)]) Cx hP hS rfl 4 rfl rfl hu10 dX2_list_61 (fun H locs hP hS => ?_)
                    refine lv_aload_n hx hb dX2_list_62 rfl (lv_at hl 0 rfl) ?_
                    refine gf_X2_15 Cx hP 0 rfl rfl dX2_list_63 ?_
                    refine lv_aload_n hx hb dX2_list_66 rfl (lv_at hl 0 rfl) ?_
                    refine gf_X2_24 Cx hP 0 rfl rfl dX2_list_67 ?_
                    refine lv_iload_n hx hb dX2_list_70 rfl (lv_at hl 3 rfl) ?_
                    obtain ⟨u11, hu11, hf⟩ := ob_bk hf
                    refine ba_iast (X' := [(a_t, .inr (2, [.ref a_lesser, .ref a_greater, .ref a_tooNear, .ref a_clash, .int z_count_22])), (a_p1, .inr (0, [.ref a_p1_scene, .ref a_p1_apart, .ref a_p1_clash, .ref a_p1_neighbours])), (a_p1_scene, .inr (7, [.ref a_p1_scene_steps, .ref a_p1_scene_worths, .ref a_p1_scene_comers, .ref a_p1_scene_seen, .ref a_p1_scene_seenLengths, .int v_p1_scene_seats, .int v_p1_scene_bear, .int v_p1_scene_comerCount, .int v_p1_scene_seenRows])), (a_p1_apart, eI cI 144 v_p1_apart), (a_lesser, eI cI 12 u10), (a_greater, eI cI 12 u11), (a_p1_clash, eI cI 12 v_p1_clash), (a_tooNear, eI cI 12 z_tooNear_22)]) Cx hP hS rfl 5 rfl rfl hu11 dX2_list_71 (fun H locs hP hS => ?_)
                    refine lv_aload_n hx hb dX2_list_72 rfl (lv_at hl 0 rfl) ?_
                    refine gf_X2_18 Cx hP 0 rfl rfl dX2_list_73 ?_
                    refine lv_aload_n hx hb dX2_list_76 rfl (lv_at hl 0 rfl) ?_
                    refine gf_X2_24 Cx hP 0 rfl rfl dX2_list_77 ?_
                    refine lv_aload_n hx hb dX2_list_80 rfl (lv_at hl 1 rfl) ?_
                    refine gf_X2_43 Cx hP 1 rfl rfl dX2_list_81 ?_
                    refine lv_iload_n hx hb dX2_list_84 rfl (lv_at hl 2 rfl) ?_
                    obtain ⟨u12, hu12, hf⟩ := ob_bk hf
                    refine ba_iald Cx hP 6 rfl hu12 dX2_list_85 ?_
                    refine lv_aload_n hx hb dX2_list_86 rfl (lv_at hl 1 rfl) ?_
                    refine gf_X2_43 Cx hP 1 rfl rfl dX2_list_87 ?_
                    refine lv_iload_n hx hb dX2_list_90 rfl (lv_at hl 3 rfl) ?_
                    obtain ⟨u13, hu13, hf⟩ := ob_bk hf
                    refine ba_iald Cx hP 6 rfl hu13 dX2_list_91 ?_
                    refine lv_ior hx hb dX2_list_92 ?_
                    obtain ⟨u14, hu14, hf⟩ := ob_bk hf
                    refine ba_iast (X' := [(a_t, .inr (2, [.ref a_lesser, .ref a_greater, .ref a_tooNear, .ref a_clash, .int z_count_22])), (a_p1, .inr (0, [.ref a_p1_scene, .ref a_p1_apart, .ref a_p1_clash, .ref a_p1_neighbours])), (a_p1_scene, .inr (7, [.ref a_p1_scene_steps, .ref a_p1_scene_worths, .ref a_p1_scene_comers, .ref a_p1_scene_seen, .ref a_p1_scene_seenLengths, .int v_p1_scene_seats, .int v_p1_scene_bear, .int v_p1_scene_comerCount, .int v_p1_scene_seenRows])), (a_p1_apart, eI cI 144 v_p1_apart), (a_lesser, eI cI 12 u10), (a_greater, eI cI 12 u11), (a_p1_clash, eI cI 12 v_p1_clash), (a_tooNear, eI cI 12 u14)]) Cx hP hS rfl 7 rfl rfl hu14 dX2_list_93 (fun H locs hP hS => ?_)
                    refine lv_aload_n hx hb dX2_list_94 rfl (lv_at hl 0 rfl) ?_
                    refine lv_dup hx hb dX2_list_95 rfl ?_
                    refine gf_X2_24 Cx hP 0 rfl rfl dX2_list_96 ?_
                    refine lv_iconst (v := 1) hx hb dX2_list_99 (by decide) ?_
                    refine lv_iadd hx hb dX2_list_100 ?_
                    refine pf_X2_24 (X' := [(a_t, .inr (2, [.ref a_lesser, .ref a_greater, .ref a_tooNear, .ref a_clash, .int (z_count_22 + (1 : Int32))])), (a_p1, .inr (0, [.ref a_p1_scene, .ref a_p1_apart, .ref a_p1_clash, .ref a_p1_neighbours])), (a_p1_scene, .inr (7, [.ref a_p1_scene_steps, .ref a_p1_scene_worths, .ref a_p1_scene_comers, .ref a_p1_scene_seen, .ref a_p1_scene_seenLengths, .int v_p1_scene_seats, .int v_p1_scene_bear, .int v_p1_scene_comerCount, .int v_p1_scene_seenRows])), (a_p1_apart, eI cI 144 v_p1_apart), (a_lesser, eI cI 12 u10), (a_greater, eI cI 12 u11), (a_p1_clash, eI cI 12 v_p1_clash), (a_tooNear, eI cI 12 u14)]) Cx hP hS rfl 0 rfl rfl (Nat.le_of_ble_eq_true rfl) dX2_list_101 (fun H locs hP hS => ?_)
                    exact J104_7 ((z_count_22 + (1 : Int32)), u10, u11, u14) hf _ _ _ hP hS (lv_sub hl [0, 1, 2, 3] rfl)
        obtain ⟨u15, hu15, hf⟩ := ob_b hf
        refine L22_3 FU (y2_7 + (1 : Int32)) z_count_7 z_lesser_7 z_greater_7 z_tooNear_7 u15 _ _ _ hu15 hP hS (lv_sub hl [1, 2, 3, 0] rfl) ?_
        intro H locs ls hP hS hl
        refine lv_iinc (v := (y2_7 + 1)) (lv' := [(2, .int (y2_7 + 1)), (0, .ref a_t), (1, .ref a_p1)]) hx hb dX2_list_110 hl (k := 2) rfl rfl (by decide) rfl (fun ls hl => ?_)
        refine lv_goto (tgt := 7) hx hb dX2_list_113 (by decide) ?_
        exact ih (y2_7 + 1) u15.1 u15.2.1 u15.2.2.1 u15.2.2.2 _ _ _ _ hf hP hS (lv_sub hl [1, 2, 0] rfl) kk
  obtain ⟨u16, hu16, hf⟩ := ob_b hf
  refine L7_1 FU (0 : Int32) (0 : Int32) v_lesser v_greater v_tooNear u16 _ _ _ hu16 hP hS (lv_sub hl [1, 2, 0] rfl) ?_
  intro H locs ls hP hS hl
  obtain rfl := Option.some.inj hf
  exact ret _ _ _ _ dX2_list_116 hP hS

def f_X2_sitInTurn_8 (v_p1_bench_scene_seats : Int32) (v_count : Int32) (v_lesser : Nat → Int32) (v_greater : Nat → Int32) (v_p1_bench_apart : Nat → Int32) (u1 : Int32 × Int32 × (Nat → Int32)) : Nat → Int32 → Int32 → Int32 → (Nat → Int32) → Option (Int32 × Int32 × (Nat → Int32))
  | 0, _, _, _, _ => none
  | n + 1, y2_8, y3_8, z_p1_set_8, z_p1_nearest_8 =>
  if v_count ≤ y3_8 then
  some (y2_8, z_p1_set_8, z_p1_nearest_8)
  else
  (aget 12 v_lesser y3_8).bind (fun u4 =>
  (f_X9_isOpen u1.2.1 z_p1_nearest_8 u4).bind (fun u5 =>
  (if u5 = 0 then
  some (y2_8, z_p1_set_8, z_p1_nearest_8)
  else
  (aget 12 v_greater y3_8).bind (fun u9 =>
  (f_X9_isOpen u1.2.1 z_p1_nearest_8 u9).bind (fun u10 =>
  if u10 = 0 then
  some (y2_8, z_p1_set_8, z_p1_nearest_8)
  else
  (aget 12 v_lesser y3_8).bind (fun u12 =>
  (f_X9_sit z_p1_set_8 v_p1_bench_scene_seats z_p1_nearest_8 v_p1_bench_apart u12).bind (fun u13 =>
  (aget 12 v_greater y3_8).bind (fun u14 =>
  (f_X9_sit u13.1 v_p1_bench_scene_seats u13.2 v_p1_bench_apart u14).bind (fun u15 =>
  some ((y2_8 + 1), u15.1, u15.2)))))))).bind (fun w6 =>
  f_X2_sitInTurn_8 v_p1_bench_scene_seats v_count v_lesser v_greater v_p1_bench_apart u1 n w6.1 (y3_8 + 1) w6.2.1 w6.2.2)))
theorem f_X2_sitInTurn_8_s (v_p1_bench_scene_seats : Int32) (v_count : Int32) (v_lesser : Nat → Int32) (v_greater : Nat → Int32) (v_p1_bench_apart : Nat → Int32) (u1 : Int32 × Int32 × (Nat → Int32)) (n : Nat) (y2_8 : Int32) (y3_8 : Int32) (z_p1_set_8 : Int32) (z_p1_nearest_8 : Nat → Int32) : f_X2_sitInTurn_8 v_p1_bench_scene_seats v_count v_lesser v_greater v_p1_bench_apart u1 (n + 1) y2_8 y3_8 z_p1_set_8 z_p1_nearest_8 =
  (if v_count ≤ y3_8 then
  some (y2_8, z_p1_set_8, z_p1_nearest_8)
  else
  (aget 12 v_lesser y3_8).bind (fun u4 =>
  (f_X9_isOpen u1.2.1 z_p1_nearest_8 u4).bind (fun u5 =>
  (if u5 = 0 then
  some (y2_8, z_p1_set_8, z_p1_nearest_8)
  else
  (aget 12 v_greater y3_8).bind (fun u9 =>
  (f_X9_isOpen u1.2.1 z_p1_nearest_8 u9).bind (fun u10 =>
  if u10 = 0 then
  some (y2_8, z_p1_set_8, z_p1_nearest_8)
  else
  (aget 12 v_lesser y3_8).bind (fun u12 =>
  (f_X9_sit z_p1_set_8 v_p1_bench_scene_seats z_p1_nearest_8 v_p1_bench_apart u12).bind (fun u13 =>
  (aget 12 v_greater y3_8).bind (fun u14 =>
  (f_X9_sit u13.1 v_p1_bench_scene_seats u13.2 v_p1_bench_apart u14).bind (fun u15 =>
  some ((y2_8 + 1), u15.1, u15.2)))))))).bind (fun w6 =>
  f_X2_sitInTurn_8 v_p1_bench_scene_seats v_count v_lesser v_greater v_p1_bench_apart u1 n w6.1 (y3_8 + 1) w6.2.1 w6.2.2)))) := rfl
def f_X2_sitInTurn (v_p1_bench_scene_seats : Int32) (v_p1_bench_scene_bear : Int32) (v_p1_nearest : Nat → Int32) (v_count : Int32) (v_lesser : Nat → Int32) (v_greater : Nat → Int32) (v_p1_bench_apart : Nat → Int32) : Option (Int32 × Int32 × Int32 × (Nat → Int32)) :=
  (f_X9_leave v_p1_bench_scene_bear v_p1_nearest).bind (fun u1 =>
  (f_X2_sitInTurn_8 v_p1_bench_scene_seats v_count v_lesser v_greater v_p1_bench_apart u1 FU (0 : Int32) (0 : Int32) u1.1 u1.2.2).bind (fun u16 =>
  some (u16.1, u16.2.1, u1.2.1, u16.2.2)))
set_option maxHeartbeats 4000000 in
set_option maxRecDepth 100000 in
theorem c_X2_sitInTurn (l : Launch) (D : va_G) (cI cJ cZ cO : ClassId) (a_p1 a_p1_bench a_p1_nearest a_p1_bench_scene a_p1_bench_apart a_p1_bench_clash a_p1_bench_neighbours a_p1_bench_scene_steps a_p1_bench_scene_worths a_p1_bench_scene_comers a_p1_bench_scene_seen a_p1_bench_scene_seenLengths a_t a_lesser a_greater a_tooNear a_clash : Nat) (v_p1_set : Int32) (v_p1_bear : Int32) (v_p1_bench_scene_seats : Int32) (v_p1_bench_scene_bear : Int32) (v_p1_bench_scene_comerCount : Int32) (v_p1_bench_scene_seenRows : Int32) (v_p1_nearest : Nat → Int32) (v_count : Int32) (v_lesser : Nat → Int32) (v_greater : Nat → Int32) (v_p1_bench_apart : Nat → Int32) (out : Int32 × Int32 × Int32 × (Nat → Int32)) (hf : f_X2_sitInTurn v_p1_bench_scene_seats v_p1_bench_scene_bear v_p1_nearest v_count v_lesser v_greater v_p1_bench_apart = some out) : MetR l yX2_sitInTurn (Cond.code yX2_sitInTurn cX2_sitInTurn 4 (some .int) :: tbG) { frames := 2, cells := 0, slots := 0, locals := 44 } D (tyL cI cJ cZ cO) [.ref a_t, .ref a_p1] [(a_p1, .inr (9, [.ref a_p1_bench, .ref a_p1_nearest, .int v_p1_set, .int v_p1_bear])), (a_p1_bench, .inr (0, [.ref a_p1_bench_scene, .ref a_p1_bench_apart, .ref a_p1_bench_clash, .ref a_p1_bench_neighbours])), (a_p1_bench_scene, .inr (7, [.ref a_p1_bench_scene_steps, .ref a_p1_bench_scene_worths, .ref a_p1_bench_scene_comers, .ref a_p1_bench_scene_seen, .ref a_p1_bench_scene_seenLengths, .int v_p1_bench_scene_seats, .int v_p1_bench_scene_bear, .int v_p1_bench_scene_comerCount, .int v_p1_bench_scene_seenRows])), (a_p1_nearest, eI cI 12 v_p1_nearest), (a_t, .inr (2, [.ref a_lesser, .ref a_greater, .ref a_tooNear, .ref a_clash, .int v_count])), (a_lesser, eI cI 12 v_lesser), (a_greater, eI cI 12 v_greater), (a_p1_bench_apart, eI cI 144 v_p1_bench_apart)] (some (.int out.1)) [(a_p1, .inr (9, [.ref a_p1_bench, .ref a_p1_nearest, .int out.2.1, .int out.2.2.1])), (a_p1_bench, .inr (0, [.ref a_p1_bench_scene, .ref a_p1_bench_apart, .ref a_p1_bench_clash, .ref a_p1_bench_neighbours])), (a_p1_bench_scene, .inr (7, [.ref a_p1_bench_scene_steps, .ref a_p1_bench_scene_worths, .ref a_p1_bench_scene_comers, .ref a_p1_bench_scene_seen, .ref a_p1_bench_scene_seenLengths, .int v_p1_bench_scene_seats, .int v_p1_bench_scene_bear, .int v_p1_bench_scene_comerCount, .int v_p1_bench_scene_seenRows])), (a_p1_nearest, eI cI 12 out.2.2.2), (a_t, .inr (2, [.ref a_lesser, .ref a_greater, .ref a_tooNear, .ref a_clash, .int v_count])), (a_lesser, eI cI 12 v_lesser), (a_greater, eI cI 12 v_greater), (a_p1_bench_apart, eI cI 144 v_p1_bench_apart)] := by
  refine ba_ofI RX2 [(0, .ref a_t), (1, .ref a_p1)] (by decide +kernel) rfl (Nat.le_of_ble_eq_true rfl) rfl ?_
  intro p e s m args below meth c Q A Cx hP ret ls hl
  obtain ⟨⟨hx, hb, hml, hown, hts⟩, hK, hD, hA⟩ := id Cx
  have hS : va_S A s.heap s.heap [] := va_S.rf
  unfold f_X2_sitInTurn at hf
  refine lv_iconst (v := 0) hx hb dX2_sitInTurn_0 (by decide) ?_
  refine lv_istore_n (lv' := [(2, .int (0 : Int32)), (0, .ref a_t), (1, .ref a_p1)]) hx hb dX2_sitInTurn_1 rfl hl (by decide) rfl (fun ls hl => ?_)
  refine lv_aload_n hx hb dX2_sitInTurn_2 rfl (lv_at hl 2 rfl) ?_
  obtain ⟨u1, hu1, hf⟩ := ob_b hf
  refine iv_X2_44 (As := []) (rest := []) (is := [0, 1, 2, 3]) (q0 := 0) (X' := [(a_p1, .inr (9, [.ref a_p1_bench, .ref a_p1_nearest, .int u1.1, .int u1.2.1])), (a_p1_bench, .inr (0, [.ref a_p1_bench_scene, .ref a_p1_bench_apart, .ref a_p1_bench_clash, .ref a_p1_bench_neighbours])), (a_p1_bench_scene, .inr (7, [.ref a_p1_bench_scene_steps, .ref a_p1_bench_scene_worths, .ref a_p1_bench_scene_comers, .ref a_p1_bench_scene_seen, .ref a_p1_bench_scene_seenLengths, .int v_p1_bench_scene_seats, .int v_p1_bench_scene_bear, .int v_p1_bench_scene_comerCount, .int v_p1_bench_scene_seenRows])), (a_p1_nearest, eI cI 12 u1.2.2), (a_t, .inr (2, [.ref a_lesser, .ref a_greater, .ref a_tooNear, .ref a_clash, .int v_count])), (a_lesser, eI cI 12 v_lesser), (a_greater, eI cI 12 v_greater), (a_p1_bench_apart, eI cI 144 v_p1_bench_apart)]) Cx (c_X9_leave l D cI cJ cZ cO a_p1 a_p1_bench a_p1_nearest a_p1_bench_scene a_p1_bench_apart a_p1_bench_clash a_p1_bench_neighbours a_p1_bench_scene_steps a_p1_bench_scene_worths a_p1_bench_scene_comers a_p1_bench_scene_seen a_p1_bench_scene_seenLengths v_p1_set v_p1_bear v_p1_bench_scene_seats v_p1_bench_scene_bear v_p1_bench_scene_comerCount v_p1_bench_scene_seenRows v_p1_nearest u1 hu1) hP hS rfl rfl rfl rfl rfl rfl rfl hl.1 (Nat.le_of_ble_eq_true rfl) dX2_sitInTurn_3 rfl rfl ⟨Nat.le_of_ble_eq_true rfl, Nat.le_of_ble_eq_true rfl⟩ ⟨Nat.zero_le _, Nat.zero_le _⟩ rfl (fun H locs hP hS => ?_)
  refine lv_iconst (v := 0) hx hb dX2_sitInTurn_6 (by decide) ?_
  refine lv_istore_n (lv' := [(3, .int (0 : Int32)), (2, .int (0 : Int32)), (0, .ref a_t), (1, .ref a_p1)]) hx hb dX2_sitInTurn_7 rfl hl (by decide) rfl (fun ls hl => ?_)
  have L8_2 : ∀ (n : Nat) (y2_8 : Int32) (y3_8 : Int32) (z_p1_set_8 : Int32) (z_p1_nearest_8 : Nat → Int32) (o : Int32 × Int32 × (Nat → Int32)) (H : Heap) (locs : List Loc) (ls : Array Slot), f_X2_sitInTurn_8 v_p1_bench_scene_seats v_count v_lesser v_greater v_p1_bench_apart u1 n y2_8 y3_8 z_p1_set_8 z_p1_nearest_8 = some o → va_P D vwCl [(a_p1, .inr (9, [.ref a_p1_bench, .ref a_p1_nearest, .int z_p1_set_8, .int u1.2.1])), (a_p1_bench, .inr (0, [.ref a_p1_bench_scene, .ref a_p1_bench_apart, .ref a_p1_bench_clash, .ref a_p1_bench_neighbours])), (a_p1_bench_scene, .inr (7, [.ref a_p1_bench_scene_steps, .ref a_p1_bench_scene_worths, .ref a_p1_bench_scene_comers, .ref a_p1_bench_scene_seen, .ref a_p1_bench_scene_seenLengths, .int v_p1_bench_scene_seats, .int v_p1_bench_scene_bear, .int v_p1_bench_scene_comerCount, .int v_p1_bench_scene_seenRows])), (a_p1_nearest, eI cI 12 z_p1_nearest_8), (a_t, .inr (2, [.ref a_lesser, .ref a_greater, .ref a_tooNear, .ref a_clash, .int v_count])), (a_lesser, eI cI 12 v_lesser), (a_greater, eI cI 12 v_greater), (a_p1_bench_apart, eI cI 144 v_p1_bench_apart)] H → va_S A s.heap H locs → lv_has ls 4 [(0, .ref a_t), (1, .ref a_p1), (2, .int y2_8), (3, .int y3_8)] → (∀ (H : Heap) (locs : List Loc) (ls : Array Slot), va_P D vwCl [(a_p1, .inr (9, [.ref a_p1_bench, .ref a_p1_nearest, .int o.2.1, .int u1.2.1])), (a_p1_bench, .inr (0, [.ref a_p1_bench_scene, .ref a_p1_bench_apart, .ref a_p1_bench_clash, .ref a_p1_bench_neighbours])), (a_p1_bench_scene, .inr (7, [.ref a_p1_bench_scene_steps, .ref a_p1_bench_scene_worths, .ref a_p1_bench_scene_comers, .ref a_p1_bench_scene_seen, .ref a_p1_bench_scene_seenLengths, .int v_p1_bench_scene_seats, .int v_p1_bench_scene_bear, .int v_p1_bench_scene_comerCount, .int v_p1_bench_scene_seenRows])), (a_p1_nearest, eI cI 12 o.2.2), (a_t, .inr (2, [.ref a_lesser, .ref a_greater, .ref a_tooNear, .ref a_clash, .int v_count])), (a_lesser, eI cI 12 v_lesser), (a_greater, eI cI 12 v_greater), (a_p1_bench_apart, eI cI 144 v_p1_bench_apart)] H → va_S A s.heap H locs → lv_has ls 4 [(2, .int o.1)] → W p l e { frames := 2, cells := 0, slots := 0, locals := 44 } s m args below meth c H locs 0 0 Q (F0 m 71 ls [])) → W p l e { frames := 2, cells := 0, slots := 0, locals := 44 } s m args below meth c H locs 0 0 Q (F0 m 8 ls []) := by
    intro n
    induction n with
    | zero => intro y2_8 y3_8 z_p1_set_8 z_p1_nearest_8 o H locs ls hf; exact (ob_n hf).elim
    | succ n ih =>
      intro y2_8 y3_8 z_p1_set_8 z_p1_nearest_8 o H locs ls hf hP hS hl kk
      rw [f_X2_sitInTurn_8_s] at hf
      refine lv_iload_n hx hb dX2_sitInTurn_8 rfl (lv_at hl 3 rfl) ?_
      refine lv_aload_n hx hb dX2_sitInTurn_9 rfl (lv_at hl 0 rfl) ?_
      refine gf_X2_24 Cx hP 4 rfl rfl dX2_sitInTurn_10 ?_
      refine lv_icmp_ge (tgt := 71) hx hb dX2_sitInTurn_13 (by decide) (fun c3 => ?_) (fun c3 => ?_)
      · have hf := ob_t c3 hf
        obtain rfl := Option.some.inj hf
        exact kk _ _ _ hP hS (lv_sub hl [2] rfl)
      · have hf := ob_f c3 hf
        refine lv_aload_n hx hb dX2_sitInTurn_16 rfl (lv_at hl 1 rfl) ?_
        refine lv_aload_n hx hb dX2_sitInTurn_17 rfl (lv_at hl 0 rfl) ?_
        refine gf_X2_9 Cx hP 4 rfl rfl dX2_sitInTurn_18 ?_
        refine lv_iload_n hx hb dX2_sitInTurn_21 rfl (lv_at hl 3 rfl) ?_
        obtain ⟨u4, hu4, hf⟩ := ob_b hf
        refine ba_iald Cx hP 5 rfl hu4 dX2_sitInTurn_22 ?_
        obtain ⟨u5, hu5, hf⟩ := ob_b hf
        refine iv_X2_49 (As := [.int u4]) (rest := []) (is := [0, 3]) (q0 := 0) (X' := [(a_p1, .inr (9, [.ref a_p1_bench, .ref a_p1_nearest, .int z_p1_set_8, .int u1.2.1])), (a_p1_bench, .inr (0, [.ref a_p1_bench_scene, .ref a_p1_bench_apart, .ref a_p1_bench_clash, .ref a_p1_bench_neighbours])), (a_p1_bench_scene, .inr (7, [.ref a_p1_bench_scene_steps, .ref a_p1_bench_scene_worths, .ref a_p1_bench_scene_comers, .ref a_p1_bench_scene_seen, .ref a_p1_bench_scene_seenLengths, .int v_p1_bench_scene_seats, .int v_p1_bench_scene_bear, .int v_p1_bench_scene_comerCount, .int v_p1_bench_scene_seenRows])), (a_p1_nearest, eI cI 12 z_p1_nearest_8), (a_t, .inr (2, [.ref a_lesser, .ref a_greater, .ref a_tooNear, .ref a_clash, .int v_count])), (a_lesser, eI cI 12 v_lesser), (a_greater, eI cI 12 v_greater), (a_p1_bench_apart, eI cI 144 v_p1_bench_apart)]) Cx (c_X9_isOpen l D cI cJ cZ cO a_p1 a_p1_bench a_p1_nearest z_p1_set_8 u1.2.1 z_p1_nearest_8 u4 u5 hu5) hP hS rfl rfl rfl rfl rfl rfl rfl hl.1 (Nat.le_of_ble_eq_true rfl) dX2_sitInTurn_23 rfl rfl ⟨Nat.le_of_ble_eq_true rfl, Nat.le_of_ble_eq_true rfl⟩ ⟨Nat.zero_le _, Nat.zero_le _⟩ rfl (fun H locs hP hS => ?_)
        refine ob_J (P := fun w6 => ∀ (H : Heap) (locs : List Loc) (ls : Array Slot), va_P D vwCl [(a_p1, .inr (9, [.ref a_p1_bench, .ref a_p1_nearest, .int w6.2.1, .int u1.2.1])), (a_p1_bench, .inr (0, [.ref a_p1_bench_scene, .ref a_p1_bench_apart, .ref a_p1_bench_clash, .ref a_p1_bench_neighbours])), (a_p1_bench_scene, .inr (7, [.ref a_p1_bench_scene_steps, .ref a_p1_bench_scene_worths, .ref a_p1_bench_scene_comers, .ref a_p1_bench_scene_seen, .ref a_p1_bench_scene_seenLengths, .int v_p1_bench_scene_seats, .int v_p1_bench_scene_bear, .int v_p1_bench_scene_comerCount, .int v_p1_bench_scene_seenRows])), (a_p1_nearest, eI cI 12 w6.2.2), (a_t, .inr (2, [.ref a_lesser, .ref a_greater, .ref a_tooNear, .ref a_clash, .int v_count])), (a_lesser, eI cI 12 v_lesser), (a_greater, eI cI 12 v_greater), (a_p1_bench_apart, eI cI 144 v_p1_bench_apart)] H → va_S A s.heap H locs → lv_has ls 4 [(0, .ref a_t), (1, .ref a_p1), (2, .int w6.1), (3, .int y3_8)] → W p l e { frames := 2, cells := 0, slots := 0, locals := 44 } s m args below meth c H locs 0 0 Q (F0 m 65 ls [])) hf ?_ ?_
        · intro w6 hf H locs ls hP hS hl
          refine lv_iinc (v := (y3_8 + 1)) (lv' := [(3, .int (y3_8 + 1)), (0, .ref a_t), (1, .ref a_p1), (2, .int w6.1)]) hx hb dX2_sitInTurn_65 hl (k := 3) rfl rfl (by decide) rfl (fun ls hl => ?_)
          refine lv_goto (tgt := 8) hx hb dX2_sitInTurn_68 (by decide) ?_
          exact ih w6.1 (y3_8 + 1) w6.2.1 w6.2.2 _ _ _ _ hf hP hS (lv_sub hl [1, 2, 3, 0] rfl) kk
        · intro J65_7 hf
          refine lv_if_eq (tgt := 65) hx hb dX2_sitInTurn_26 (by decide) (fun c8 => ?_) (fun c8 => ?_)
          · have hf := ob_tk c8 hf
            exact J65_7 (y2_8, z_p1_set_8, z_p1_nearest_8) hf _ _ _ hP hS (lv_sub hl [0, 1, 2, 3] rfl)
          · have hf := ob_fk c8 hf
            refine lv_aload_n hx hb dX2_sitInTurn_29 rfl (lv_at hl 1 rfl) ?_
            refine lv_aload_n hx hb dX2_sitInTurn_30 rfl (lv_at hl 0 rfl) ?_
            refine gf_X2_15 Cx hP 4 rfl rfl dX2_sitInTurn_31 ?_
            refine lv_iload_n hx hb dX2_sitInTurn_34 rfl (lv_at hl 3 rfl) ?_
            obtain ⟨u9, hu9, hf⟩ := ob_bk hf
            refine ba_iald Cx hP 6 rfl hu9 dX2_sitInTurn_35 ?_
            obtain ⟨u10, hu10, hf⟩ := ob_bk hf
            refine iv_X2_49 (As := [.int u9]) (rest := []) (is := [0, 3]) (q0 := 0) (X' := [(a_p1, .inr (9, [.ref a_p1_bench, .ref a_p1_nearest, .int z_p1_set_8, .int u1.2.1])), (a_p1_bench, .inr (0, [.ref a_p1_bench_scene, .ref a_p1_bench_apart, .ref a_p1_bench_clash, .ref a_p1_bench_neighbours])), (a_p1_bench_scene, .inr (7, [.ref a_p1_bench_scene_steps, .ref a_p1_bench_scene_worths, .ref a_p1_bench_scene_comers, .ref a_p1_bench_scene_seen, .ref a_p1_bench_scene_seenLengths, .int v_p1_bench_scene_seats, .int v_p1_bench_scene_bear, .int v_p1_bench_scene_comerCount, .int v_p1_bench_scene_seenRows])), (a_p1_nearest, eI cI 12 z_p1_nearest_8), (a_t, .inr (2, [.ref a_lesser, .ref a_greater, .ref a_tooNear, .ref a_clash, .int v_count])), (a_lesser, eI cI 12 v_lesser), (a_greater, eI cI 12 v_greater), (a_p1_bench_apart, eI cI 144 v_p1_bench_apart)]) Cx (c_X9_isOpen l D cI cJ cZ cO a_p1 a_p1_bench a_p1_nearest z_p1_set_8 u1.2.1 z_p1_nearest_8 u9 u10 hu10) hP hS rfl rfl rfl rfl rfl rfl rfl hl.1 (Nat.le_of_ble_eq_true rfl) dX2_sitInTurn_36 rfl rfl ⟨Nat.le_of_ble_eq_true rfl, Nat.le_of_ble_eq_true rfl⟩ ⟨Nat.zero_le _, Nat.zero_le _⟩ rfl (fun H locs hP hS => ?_)
            refine lv_if_eq (tgt := 65) hx hb dX2_sitInTurn_39 (by decide) (fun c11 => ?_) (fun c11 => ?_)
            · have hf := ob_tk c11 hf
              exact J65_7 (y2_8, z_p1_set_8, z_p1_nearest_8) hf _ _ _ hP hS (lv_sub hl [0, 1, 2, 3] rfl)
            · have hf := ob_fk c11 hf
              refine lv_aload_n hx hb dX2_sitInTurn_42 rfl (lv_at hl 1 rfl) ?_
              refine lv_aload_n hx hb dX2_sitInTurn_43 rfl (lv_at hl 0 rfl) ?_
              refine gf_X2_9 Cx hP 4 rfl rfl dX2_sitInTurn_44 ?_
              refine lv_iload_n hx hb dX2_sitInTurn_47 rfl (lv_at hl 3 rfl) ?_
              obtain ⟨u12, hu12, hf⟩ := ob_bk hf
              refine ba_iald Cx hP 5 rfl hu12 dX2_sitInTurn_48 ?_
              obtain ⟨u13, hu13, hf⟩ := ob_bk hf
              refine iv_X2_53 (As := [.int u12]) (rest := []) (is := [0, 1, 2, 3, 7]) (q0 := 0) (X' := [(a_p1, .inr (9, [.ref a_p1_bench, .ref a_p1_nearest, .int u13.1, .int u1.2.1])), (a_p1_bench, .inr (0, [.ref a_p1_bench_scene, .ref a_p1_bench_apart, .ref a_p1_bench_clash, .ref a_p1_bench_neighbours])), (a_p1_bench_scene, .inr (7, [.ref a_p1_bench_scene_steps, .ref a_p1_bench_scene_worths, .ref a_p1_bench_scene_comers, .ref a_p1_bench_scene_seen, .ref a_p1_bench_scene_seenLengths, .int v_p1_bench_scene_seats, .int v_p1_bench_scene_bear, .int v_p1_bench_scene_comerCount, .int v_p1_bench_scene_seenRows])), (a_p1_nearest, eI cI 12 u13.2), (a_t, .inr (2, [.ref a_lesser, .ref a_greater, .ref a_tooNear, .ref a_clash, .int v_count])), (a_lesser, eI cI 12 v_lesser), (a_greater, eI cI 12 v_greater), (a_p1_bench_apart, eI cI 144 v_p1_bench_apart)]) Cx (c_X9_sit l D cI cJ cZ cO a_p1 a_p1_bench a_p1_nearest a_p1_bench_scene a_p1_bench_apart a_p1_bench_clash a_p1_bench_neighbours a_p1_bench_scene_steps a_p1_bench_scene_worths a_p1_bench_scene_comers a_p1_bench_scene_seen a_p1_bench_scene_seenLengths z_p1_set_8 u1.2.1 v_p1_bench_scene_seats v_p1_bench_scene_bear v_p1_bench_scene_comerCount v_p1_bench_scene_seenRows z_p1_nearest_8 v_p1_bench_apart u12 u13 hu13) hP hS rfl rfl rfl rfl rfl rfl rfl hl.1 (Nat.le_of_ble_eq_true rfl) dX2_sitInTurn_49 rfl rfl ⟨Nat.le_of_ble_eq_true rfl, Nat.le_of_ble_eq_true rfl⟩ ⟨Nat.zero_le _, Nat.zero_le _⟩ rfl (fun H locs hP hS => ?_)
              refine lv_aload_n hx hb dX2_sitInTurn_52 rfl (lv_at hl 1 rfl) ?_
              refine lv_aload_n hx hb dX2_sitInTurn_53 rfl (lv_at hl 0 rfl) ?_
              refine gf_X2_15 Cx hP 4 rfl rfl dX2_sitInTurn_54 ?_
              refine lv_iload_n hx hb dX2_sitInTurn_57 rfl (lv_at hl 3 rfl) ?_
              obtain ⟨u14, hu14, hf⟩ := ob_bk hf
              refine ba_iald Cx hP 6 rfl hu14 dX2_sitInTurn_58 ?_
              obtain ⟨u15, hu15, hf⟩ := ob_bk hf
              refine iv_X2_53 (As := [.int u14]) (rest := []) (is := [0, 1, 2, 3, 7]) (q0 := 0) (X' := [(a_p1, .inr (9, [.ref a_p1_bench, .ref a_p1_nearest, .int u15.1, .int u1.2.1])), (a_p1_bench, .inr (0, [.ref a_p1_bench_scene, .ref a_p1_bench_apart, .ref a_p1_bench_clash, .ref a_p1_bench_neighbours])), (a_p1_bench_scene, .inr (7, [.ref a_p1_bench_scene_steps, .ref a_p1_bench_scene_worths, .ref a_p1_bench_scene_comers, .ref a_p1_bench_scene_seen, .ref a_p1_bench_scene_seenLengths, .int v_p1_bench_scene_seats, .int v_p1_bench_scene_bear, .int v_p1_bench_scene_comerCount, .int v_p1_bench_scene_seenRows])), (a_p1_nearest, eI cI 12 u15.2), (a_t, .inr (2, [.ref a_lesser, .ref a_greater, .ref a_tooNear, .ref a_clash, .int v_count])), (a_lesser, eI cI 12 v_lesser), (a_greater, eI cI 12 v_greater), (a_p1_bench_apart, eI cI 144 v_p1_bench_apart)]) Cx (c_X9_sit l D cI cJ cZ cO a_p1 a_p1_bench a_p1_nearest a_p1_bench_scene a_p1_bench_apart a_p1_bench_clash a_p1_bench_neighbours a_p1_bench_scene_steps a_p1_bench_scene_worths a_p1_bench_scene_comers a_p1_bench_scene_seen a_p1_bench_scene_seenLengths u13.1 u1.2.1 v_p1_bench_scene_seats v_p1_bench_scene_bear v_p1_bench_scene_comerCount v_p1_bench_scene_seenRows u13.2 v_p1_bench_apart u14 u15 hu15) hP hS rfl rfl rfl rfl rfl rfl rfl hl.1 (Nat.le_of_ble_eq_true rfl) dX2_sitInTurn_59 rfl rfl ⟨Nat.le_of_ble_eq_true rfl, Nat.le_of_ble_eq_true rfl⟩ ⟨Nat.zero_le _, Nat.zero_le _⟩ rfl (fun H locs hP hS => ?_)
              refine lv_iinc (v := (y2_8 + 1)) (lv' := [(2, .int (y2_8 + 1)), (0, .ref a_t), (1, .ref a_p1), (3, .int y3_8)]) hx hb dX2_sitInTurn_62 hl (k := 2) rfl rfl (by decide) rfl (fun ls hl => ?_)
              exact J65_7 ((y2_8 + 1), u15.1, u15.2) hf _ _ _ hP hS (lv_sub hl [1, 2, 0, 3] rfl)
  obtain ⟨u16, hu16, hf⟩ := ob_b hf
  refine L8_2 FU (0 : Int32) (0 : Int32) u1.1 u1.2.2 u16 _ _ _ hu16 hP hS (lv_sub hl [2, 3, 1, 0] rfl) ?_
  intro H locs ls hP hS hl
  refine lv_iload_n hx hb dX2_sitInTurn_71 rfl (lv_at hl 0 rfl) ?_
  obtain rfl := Option.some.inj hf
  exact ret _ _ _ _ dX2_sitInTurn_72 hP hS

def f_X8_mostIn_4 (v_size : Int32) (v_filled : Nat → Int32) : Nat → Int32 → Int32 → Option (Int32)
  | 0, _, _ => none
  | n + 1, y1_4, y2_4 =>
  if v_size ≤ y2_4 then
  some (y1_4)
  else
  (aget 4096 v_filled y2_4).bind (fun u3 =>
  (f_J6_bitCount_0f7a4 u3).bind (fun u4 =>
  f_X8_mostIn_4 v_size v_filled n (imax y1_4 u4) (y2_4 + 1)))
theorem f_X8_mostIn_4_s (v_size : Int32) (v_filled : Nat → Int32) (n : Nat) (y1_4 : Int32) (y2_4 : Int32) : f_X8_mostIn_4 v_size v_filled (n + 1) y1_4 y2_4 =
  (if v_size ≤ y2_4 then
  some (y1_4)
  else
  (aget 4096 v_filled y2_4).bind (fun u3 =>
  (f_J6_bitCount_0f7a4 u3).bind (fun u4 =>
  f_X8_mostIn_4 v_size v_filled n (imax y1_4 u4) (y2_4 + 1)))) := rfl
def f_X8_mostIn (v_size : Int32) (v_filled : Nat → Int32) : Option (Int32) :=
  (f_X8_mostIn_4 v_size v_filled FU (0 : Int32) (0 : Int32)).bind (fun u5 =>
  some (u5))
set_option maxHeartbeats 4000000 in
set_option maxRecDepth 100000 in
theorem c_X8_mostIn (l : Launch) (D : va_G) (cI cJ cZ cO : ClassId) (a_t a_filled a_open a_chance : Nat) (v_size : Int32) (v_places : Int32) (v_filled : Nat → Int32) (out : Int32) (hf : f_X8_mostIn v_size v_filled = some out) : MetR l yX8_mostIn (Cond.code yX8_mostIn cX8_mostIn 3 (some .int) :: tbG) { frames := 1, cells := 0, slots := 0, locals := 21 } D (tyL cI cJ cZ cO) [.ref a_t] [(a_t, .inr (8, [.ref a_filled, .ref a_open, .ref a_chance, .int v_size, .int v_places])), (a_filled, eI cI 4096 v_filled)] (some (.int out)) [(a_t, .inr (8, [.ref a_filled, .ref a_open, .ref a_chance, .int v_size, .int v_places])), (a_filled, eI cI 4096 v_filled)] := by
  refine ba_ofI RX8 [(0, .ref a_t)] (by decide +kernel) rfl (Nat.le_of_ble_eq_true rfl) rfl ?_
  intro p e s m args below meth c Q A Cx hP ret ls hl
  obtain ⟨⟨hx, hb, hml, hown, hts⟩, hK, hD, hA⟩ := id Cx
  have hS : va_S A s.heap s.heap [] := va_S.rf
  unfold f_X8_mostIn at hf
  refine lv_iconst (v := 0) hx hb dX8_mostIn_0 (by decide) ?_
  refine lv_istore_n (lv' := [(1, .int (0 : Int32)), (0, .ref a_t)]) hx hb dX8_mostIn_1 rfl hl (by decide) rfl (fun ls hl => ?_)
  refine lv_iconst (v := 0) hx hb dX8_mostIn_2 (by decide) ?_
  refine lv_istore_n (lv' := [(2, .int (0 : Int32)), (1, .int (0 : Int32)), (0, .ref a_t)]) hx hb dX8_mostIn_3 rfl hl (by decide) rfl (fun ls hl => ?_)
  have L4_1 : ∀ (n : Nat) (y1_4 : Int32) (y2_4 : Int32) (o : Int32) (H : Heap) (locs : List Loc) (ls : Array Slot), f_X8_mostIn_4 v_size v_filled n y1_4 y2_4 = some o → va_P D vwCl [(a_t, .inr (8, [.ref a_filled, .ref a_open, .ref a_chance, .int v_size, .int v_places])), (a_filled, eI cI 4096 v_filled)] H → va_S A s.heap H locs → lv_has ls 3 [(0, .ref a_t), (1, .int y1_4), (2, .int y2_4)] → (∀ (H : Heap) (locs : List Loc) (ls : Array Slot), va_P D vwCl [(a_t, .inr (8, [.ref a_filled, .ref a_open, .ref a_chance, .int v_size, .int v_places])), (a_filled, eI cI 4096 v_filled)] H → va_S A s.heap H locs → lv_has ls 3 [(1, .int o)] → W p l e { frames := 1, cells := 0, slots := 0, locals := 21 } s m args below meth c H locs 0 0 Q (F0 m 32 ls [])) → W p l e { frames := 1, cells := 0, slots := 0, locals := 21 } s m args below meth c H locs 0 0 Q (F0 m 4 ls []) := by
    intro n
    induction n with
    | zero => intro y1_4 y2_4 o H locs ls hf; exact (ob_n hf).elim
    | succ n ih =>
      intro y1_4 y2_4 o H locs ls hf hP hS hl kk
      rw [f_X8_mostIn_4_s] at hf
      refine lv_iload_n hx hb dX8_mostIn_4 rfl (lv_at hl 2 rfl) ?_
      refine lv_aload_n hx hb dX8_mostIn_5 rfl (lv_at hl 0 rfl) ?_
      refine gf_X8_21 Cx hP 0 rfl rfl dX8_mostIn_6 ?_
      refine lv_icmp_ge (tgt := 32) hx hb dX8_mostIn_9 (by decide) (fun c2 => ?_) (fun c2 => ?_)
      · have hf := ob_t c2 hf
        obtain rfl := Option.some.inj hf
        exact kk _ _ _ hP hS (lv_sub hl [1] rfl)
      · have hf := ob_f c2 hf
        refine lv_iload_n hx hb dX8_mostIn_12 rfl (lv_at hl 1 rfl) ?_
        refine lv_aload_n hx hb dX8_mostIn_13 rfl (lv_at hl 0 rfl) ?_
        refine gf_X8_9 Cx hP 0 rfl rfl dX8_mostIn_14 ?_
        refine lv_iload_n hx hb dX8_mostIn_17 rfl (lv_at hl 2 rfl) ?_
        obtain ⟨u3, hu3, hf⟩ := ob_b hf
        refine ba_iald Cx hP 1 rfl hu3 dX8_mostIn_18 ?_
        obtain ⟨u4, hu4, hf⟩ := ob_b hf
        refine iv_X8_28 (As := [.int u3]) (rest := [.int y1_4]) (is := []) (X' := [(a_t, .inr (8, [.ref a_filled, .ref a_open, .ref a_chance, .int v_size, .int v_places])), (a_filled, eI cI 4096 v_filled)]) Cx (c_J6_bitCount_0f7a4 l D cI cJ cZ cO  u3 u4 hu4) hP hS rfl rfl rfl rfl rfl rfl hl.1 (Nat.le_of_ble_eq_true rfl) dX8_mostIn_19 rfl rfl ⟨Nat.le_of_ble_eq_true rfl, Nat.le_of_ble_eq_true rfl⟩ ⟨Nat.zero_le _, Nat.zero_le _⟩ rfl (fun H locs hP hS => ?_)
        refine ba_mmax Cx (hts _ kw_575) hl.1 (Nat.le_of_ble_eq_true rfl) (Nat.le_of_ble_eq_true rfl) (Nat.zero_le _) (Nat.zero_le _) dX8_mostIn_22 ?_
        refine lv_istore_n (lv' := [(1, .int (imax y1_4 u4)), (0, .ref a_t), (2, .int y2_4)]) hx hb dX8_mostIn_25 rfl hl (by decide) rfl (fun ls hl => ?_)
        refine lv_iinc (v := (y2_4 + 1)) (lv' := [(2, .int (y2_4 + 1)), (1, .int (imax y1_4 u4)), (0, .ref a_t)]) hx hb dX8_mostIn_26 hl (k := 2) rfl rfl (by decide) rfl (fun ls hl => ?_)
        refine lv_goto (tgt := 4) hx hb dX8_mostIn_29 (by decide) ?_
        exact ih (imax y1_4 u4) (y2_4 + 1) _ _ _ _ hf hP hS (lv_sub hl [2, 1, 0] rfl) kk
  obtain ⟨u5, hu5, hf⟩ := ob_b hf
  refine L4_1 FU (0 : Int32) (0 : Int32) u5 _ _ _ hu5 hP hS (lv_sub hl [2, 1, 0] rfl) ?_
  intro H locs ls hP hS hl
  refine lv_iload_n hx hb dX8_mostIn_32 rfl (lv_at hl 0 rfl) ?_
  obtain rfl := Option.some.inj hf
  exact ret _ _ _ _ dX8_mostIn_33 hP hS

def f_X2_mostAtOnce_19 (v_count : Int32) (v_lesser : Nat → Int32) (v_greater : Nat → Int32) (v_tooNear : Nat → Int32) (y2_2 : Int32) : Nat → Int32 → (Nat → Int32) → Option ((Nat → Int32))
  | 0, _, _ => none
  | n + 1, y3_19, z_clash_19 =>
  if v_count ≤ y3_19 then
  some (z_clash_19)
  else
  (aget 12 v_lesser y3_19).bind (fun u6 =>
  (aget 12 v_greater y3_19).bind (fun u7 =>
  (aget 12 v_tooNear y2_2).bind (fun u8 =>
  (if (u8 &&& (((1 : Int32) <<< (u6 &&& 31)) ||| ((1 : Int32) <<< (u7 &&& 31)))) = 0 then
  some (z_clash_19)
  else
  (aget 12 z_clash_19 y2_2).bind (fun u12 =>
  (asetI 12 z_clash_19 y2_2 (u12 ||| ((1 : Int32) <<< (y3_19 &&& 31)))).bind (fun u13 =>
  some (u13)))).bind (fun w9 =>
  f_X2_mostAtOnce_19 v_count v_lesser v_greater v_tooNear y2_2 n (y3_19 + 1) w9))))
theorem f_X2_mostAtOnce_19_s (v_count : Int32) (v_lesser : Nat → Int32) (v_greater : Nat → Int32) (v_tooNear : Nat → Int32) (y2_2 : Int32) (n : Nat) (y3_19 : Int32) (z_clash_19 : Nat → Int32) : f_X2_mostAtOnce_19 v_count v_lesser v_greater v_tooNear y2_2 (n + 1) y3_19 z_clash_19 =
  (if v_count ≤ y3_19 then
  some (z_clash_19)
  else
  (aget 12 v_lesser y3_19).bind (fun u6 =>
  (aget 12 v_greater y3_19).bind (fun u7 =>
  (aget 12 v_tooNear y2_2).bind (fun u8 =>
  (if (u8 &&& (((1 : Int32) <<< (u6 &&& 31)) ||| ((1 : Int32) <<< (u7 &&& 31)))) = 0 then
  some (z_clash_19)
  else
  (aget 12 z_clash_19 y2_2).bind (fun u12 =>
  (asetI 12 z_clash_19 y2_2 (u12 ||| ((1 : Int32) <<< (y3_19 &&& 31)))).bind (fun u13 =>
  some (u13)))).bind (fun w9 =>
  f_X2_mostAtOnce_19 v_count v_lesser v_greater v_tooNear y2_2 n (y3_19 + 1) w9))))) := rfl
def f_X2_mostAtOnce_2 (v_count : Int32) (v_lesser : Nat → Int32) (v_greater : Nat → Int32) (v_tooNear : Nat → Int32) : Nat → Int32 → (Nat → Int32) → Option ((Nat → Int32))
  | 0, _, _ => none
  | n + 1, y2_2, z_clash_2 =>
  if v_count ≤ y2_2 then
  some (z_clash_2)
  else
  (asetI 12 z_clash_2 y2_2 (0 : Int32)).bind (fun u3 =>
  (f_X2_mostAtOnce_19 v_count v_lesser v_greater v_tooNear y2_2 FU (0 : Int32) u3).bind (fun u14 =>
  f_X2_mostAtOnce_2 v_count v_lesser v_greater v_tooNear n (y2_2 + 1) u14))
theorem f_X2_mostAtOnce_2_s (v_count : Int32) (v_lesser : Nat → Int32) (v_greater : Nat → Int32) (v_tooNear : Nat → Int32) (n : Nat) (y2_2 : Int32) (z_clash_2 : Nat → Int32) : f_X2_mostAtOnce_2 v_count v_lesser v_greater v_tooNear (n + 1) y2_2 z_clash_2 =
  (if v_count ≤ y2_2 then
  some (z_clash_2)
  else
  (asetI 12 z_clash_2 y2_2 (0 : Int32)).bind (fun u3 =>
  (f_X2_mostAtOnce_19 v_count v_lesser v_greater v_tooNear y2_2 FU (0 : Int32) u3).bind (fun u14 =>
  f_X2_mostAtOnce_2 v_count v_lesser v_greater v_tooNear n (y2_2 + 1) u14))) := rfl
def f_X2_mostAtOnce (v_count : Int32) (v_clash : Nat → Int32) (v_lesser : Nat → Int32) (v_greater : Nat → Int32) (v_tooNear : Nat → Int32) (v_p1_filled : Nat → Int32) (v_p1_open : Nat → Int32) : Option (Int32 × (Nat → Int32) × Int32 × Int32 × (Nat → Int32) × (Nat → Int32)) :=
  (f_X2_mostAtOnce_2 v_count v_lesser v_greater v_tooNear FU (0 : Int32) v_clash).bind (fun u15 =>
  (f_X8_list v_p1_filled v_p1_open u15 v_count (((1 : Int32) <<< (v_count &&& 31)) - (1 : Int32))).bind (fun u16 =>
  (f_X8_mostIn u16.1 u16.2.2.1).bind (fun u17 =>
  some (u17, u15, u16.1, u16.2.1, u16.2.2.1, u16.2.2.2))))
set_option maxHeartbeats 4000000 in
set_option maxRecDepth 100000 in
theorem c_X2_mostAtOnce (l : Launch) (D : va_G) (cI cJ cZ cO : ClassId) (a_t a_lesser a_greater a_tooNear a_clash a_p1 a_p1_filled a_p1_open a_p1_chance : Nat) (v_count : Int32) (v_clash : Nat → Int32) (v_lesser : Nat → Int32) (v_greater : Nat → Int32) (v_tooNear : Nat → Int32) (v_p1_size : Int32) (v_p1_places : Int32) (v_p1_filled : Nat → Int32) (v_p1_open : Nat → Int32) (out : Int32 × (Nat → Int32) × Int32 × Int32 × (Nat → Int32) × (Nat → Int32)) (hf : f_X2_mostAtOnce v_count v_clash v_lesser v_greater v_tooNear v_p1_filled v_p1_open = some out) : MetR l yX2_mostAtOnce (Cond.code yX2_mostAtOnce cX2_mostAtOnce 5 (some .int) :: tbG) { frames := 2, cells := 0, slots := 0, locals := 43 } D (tyL cI cJ cZ cO) [.ref a_t, .ref a_p1] [(a_t, .inr (2, [.ref a_lesser, .ref a_greater, .ref a_tooNear, .ref a_clash, .int v_count])), (a_clash, eI cI 12 v_clash), (a_lesser, eI cI 12 v_lesser), (a_greater, eI cI 12 v_greater), (a_tooNear, eI cI 12 v_tooNear), (a_p1, .inr (8, [.ref a_p1_filled, .ref a_p1_open, .ref a_p1_chance, .int v_p1_size, .int v_p1_places])), (a_p1_filled, eI cI 4096 v_p1_filled), (a_p1_open, eI cI 4096 v_p1_open)] (some (.int out.1)) [(a_t, .inr (2, [.ref a_lesser, .ref a_greater, .ref a_tooNear, .ref a_clash, .int v_count])), (a_clash, eI cI 12 out.2.1), (a_lesser, eI cI 12 v_lesser), (a_greater, eI cI 12 v_greater), (a_tooNear, eI cI 12 v_tooNear), (a_p1, .inr (8, [.ref a_p1_filled, .ref a_p1_open, .ref a_p1_chance, .int out.2.2.1, .int out.2.2.2.1])), (a_p1_filled, eI cI 4096 out.2.2.2.2.1), (a_p1_open, eI cI 4096 out.2.2.2.2.2)] := by
  refine ba_ofI RX2 [(0, .ref a_t), (1, .ref a_p1)] (by decide +kernel) rfl (Nat.le_of_ble_eq_true rfl) rfl ?_
  intro p e s m args below meth c Q A Cx hP ret ls hl
  obtain ⟨⟨hx, hb, hml, hown, hts⟩, hK, hD, hA⟩ := id Cx
  have hS : va_S A s.heap s.heap [] := va_S.rf
  unfold f_X2_mostAtOnce at hf
  refine lv_iconst (v := 0) hx hb dX2_mostAtOnce_0 (by decide) ?_
  refine lv_istore_n (lv' := [(2, .int (0 : Int32)), (0, .ref a_t), (1, .ref a_p1)]) hx hb dX2_mostAtOnce_1 rfl hl (by decide) rfl (fun ls hl => ?_)
  have L2_1 : ∀ (n : Nat) (y2_2 : Int32) (z_clash_2 : Nat → Int32) (o : (Nat → Int32)) (H : Heap) (locs : List Loc) (ls : Array Slot), f_X2_mostAtOnce_2 v_count v_lesser v_greater v_tooNear n y2_2 z_clash_2 = some o → va_P D vwCl [(a_t, .inr (2, [.ref a_lesser, .ref a_greater, .ref a_tooNear, .ref a_clash, .int v_count])), (a_clash, eI cI 12 z_clash_2), (a_lesser, eI cI 12 v_lesser), (a_greater, eI cI 12 v_greater), (a_tooNear, eI cI 12 v_tooNear), (a_p1, .inr (8, [.ref a_p1_filled, .ref a_p1_open, .ref a_p1_chance, .int v_p1_size, .int v_p1_places])), (a_p1_filled, eI cI 4096 v_p1_filled), (a_p1_open, eI cI 4096 v_p1_open)] H → va_S A s.heap H locs → lv_has ls 5 [(0, .ref a_t), (1, .ref a_p1), (2, .int y2_2)] → (∀ (H : Heap) (locs : List Loc) (ls : Array Slot), va_P D vwCl [(a_t, .inr (2, [.ref a_lesser, .ref a_greater, .ref a_tooNear, .ref a_clash, .int v_count])), (a_clash, eI cI 12 o), (a_lesser, eI cI 12 v_lesser), (a_greater, eI cI 12 v_greater), (a_tooNear, eI cI 12 v_tooNear), (a_p1, .inr (8, [.ref a_p1_filled, .ref a_p1_open, .ref a_p1_chance, .int v_p1_size, .int v_p1_places])), (a_p1_filled, eI cI 4096 v_p1_filled), (a_p1_open, eI cI 4096 v_p1_open)] H → va_S A s.heap H locs → lv_has ls 5 [(0, .ref a_t), (1, .ref a_p1)] → W p l e { frames := 2, cells := 0, slots := 0, locals := 43 } s m args below meth c H locs 0 0 Q (F0 m 82 ls [])) → W p l e { frames := 2, cells := 0, slots := 0, locals := 43 } s m args below meth c H locs 0 0 Q (F0 m 2 ls []) := by
    intro n
    induction n with
    | zero => intro y2_2 z_clash_2 o H locs ls hf; exact (ob_n hf).elim
    | succ n ih =>
      intro y2_2 z_clash_2 o H locs ls hf hP hS hl kk
      rw [f_X2_mostAtOnce_2_s] at hf
      refine lv_iload_n hx hb dX2_mostAtOnce_2 rfl (lv_at hl 2 rfl) ?_
      refine lv_aload_n hx hb dX2_mostAtOnce_3 rfl (lv_at hl 0 rfl) ?_
      refine gf_X2_24 Cx hP 0 rfl rfl dX2_mostAtOnce_4 ?_
      refine lv_icmp_ge (tgt := 82) hx hb dX2_mostAtOnce_7 (by decide) (fun c2 => ?_) (fun c2 => ?_)
      · have hf := ob_t c2 hf
        obtain rfl := Option.some.inj hf
        exact kk _ _ _ hP hS (lv_sub hl [0, 1] rfl)
      · have hf := ob_f c2 hf
        refine lv_aload_n hx hb dX2_mostAtOnce_10 rfl (lv_at hl 0 rfl) ?_
        refine gf_X2_21 Cx hP 0 rfl rfl dX2_mostAtOnce_11 ?_
        refine lv_iload_n hx hb dX2_mostAtOnce_14 rfl (lv_at hl 2 rfl) ?_
        refine lv_iconst (v := 0) hx hb dX2_mostAtOnce_15 (by decide) ?_
        obtain ⟨u3, hu3, hf⟩ := ob_b hf
        refine ba_iast (X' := [(a_t, .inr (2, [.ref a_lesser, .ref a_greater, .ref a_tooNear, .ref a_clash, .int v_count])), (a_clash, eI cI 12 u3), (a_lesser, eI cI 12 v_lesser), (a_greater, eI cI 12 v_greater), (a_tooNear, eI cI 12 v_tooNear), (a_p1, .inr (8, [.ref a_p1_filled, .ref a_p1_open, .ref a_p1_chance, .int v_p1_size, .int v_p1_places])), (a_p1_filled, eI cI 4096 v_p1_filled), (a_p1_open, eI cI 4096 v_p1_open)]) Cx hP hS rfl 1 rfl rfl hu3 dX2_mostAtOnce_16 (fun H locs hP hS => ?_)
        refine lv_iconst (v := 0) hx hb dX2_mostAtOnce_17 (by decide) ?_
        refine lv_istore_n (lv' := [(3, .int (0 : Int32)), (0, .ref a_t), (1, .ref a_p1), (2, .int y2_2)]) hx hb dX2_mostAtOnce_18 rfl hl (by decide) rfl (fun ls hl => ?_)
        have L19_4 : ∀ (n : Nat) (y3_19 : Int32) (z_clash_19 : Nat → Int32) (o : (Nat → Int32)) (H : Heap) (locs : List Loc) (ls : Array Slot), f_X2_mostAtOnce_19 v_count v_lesser v_greater v_tooNear y2_2 n y3_19 z_clash_19 = some o → va_P D vwCl [(a_t, .inr (2, [.ref a_lesser, .ref a_greater, .ref a_tooNear, .ref a_clash, .int v_count])), (a_clash, eI cI 12 z_clash_19), (a_lesser, eI cI 12 v_lesser), (a_greater, eI cI 12 v_greater), (a_tooNear, eI cI 12 v_tooNear), (a_p1, .inr (8, [.ref a_p1_filled, .ref a_p1_open, .ref a_p1_chance, .int v_p1_size, .int v_p1_places])), (a_p1_filled, eI cI 4096 v_p1_filled), (a_p1_open, eI cI 4096 v_p1_open)] H → va_S A s.heap H locs → lv_has ls 5 [(0, .ref a_t), (1, .ref a_p1), (2, .int y2_2), (3, .int y3_19)] → (∀ (H : Heap) (locs : List Loc) (ls : Array Slot), va_P D vwCl [(a_t, .inr (2, [.ref a_lesser, .ref a_greater, .ref a_tooNear, .ref a_clash, .int v_count])), (a_clash, eI cI 12 o), (a_lesser, eI cI 12 v_lesser), (a_greater, eI cI 12 v_greater), (a_tooNear, eI cI 12 v_tooNear), (a_p1, .inr (8, [.ref a_p1_filled, .ref a_p1_open, .ref a_p1_chance, .int v_p1_size, .int v_p1_places])), (a_p1_filled, eI cI 4096 v_p1_filled), (a_p1_open, eI cI 4096 v_p1_open)] H → va_S A s.heap H locs → lv_has ls 5 [(0, .ref a_t), (1, .ref a_p1), (2, .int y2_2)] → W p l e { frames := 2, cells := 0, slots := 0, locals := 43 } s m args below meth c H locs 0 0 Q (F0 m 76 ls [])) → W p l e { frames := 2, cells := 0, slots := 0, locals := 43 } s m args below meth c H locs 0 0 Q (F0 m 19 ls []) := by
          intro n
          induction n with
          | zero => intro y3_19 z_clash_19 o H locs ls hf; exact (ob_n hf).elim
          | succ n ih =>
            intro y3_19 z_clash_19 o H locs ls hf hP hS hl kk
            rw [f_X2_mostAtOnce_19_s] at hf
            refine lv_iload_n hx hb dX2_mostAtOnce_19 rfl (lv_at hl 3 rfl) ?_
            refine lv_aload_n hx hb dX2_mostAtOnce_20 rfl (lv_at hl 0 rfl) ?_
            refine gf_X2_24 Cx hP 0 rfl rfl dX2_mostAtOnce_21 ?_
            refine lv_icmp_ge (tgt := 76) hx hb dX2_mostAtOnce_24 (by decide) (fun c5 => ?_) (fun c5 => ?_)
            · have hf := ob_t c5 hf
              obtain rfl := Option.some.inj hf
              exact kk _ _ _ hP hS (lv_sub hl [0, 1, 2] rfl)
            · have hf := ob_f c5 hf
              refine lv_iconst (v := 1) hx hb dX2_mostAtOnce_27 (by decide) ?_
              refine lv_aload_n hx hb dX2_mostAtOnce_28 rfl (lv_at hl 0 rfl) ?_
              refine gf_X2_9 Cx hP 0 rfl rfl dX2_mostAtOnce_29 ?_
              refine lv_iload_n hx hb dX2_mostAtOnce_32 rfl (lv_at hl 3 rfl) ?_
              obtain ⟨u6, hu6, hf⟩ := ob_b hf
              refine ba_iald Cx hP 2 rfl hu6 dX2_mostAtOnce_33 ?_
              refine lv_ishl hx hb dX2_mostAtOnce_34 ?_
              refine lv_iconst (v := 1) hx hb dX2_mostAtOnce_35 (by decide) ?_
              refine lv_aload_n hx hb dX2_mostAtOnce_36 rfl (lv_at hl 0 rfl) ?_
              refine gf_X2_15 Cx hP 0 rfl rfl dX2_mostAtOnce_37 ?_
              refine lv_iload_n hx hb dX2_mostAtOnce_40 rfl (lv_at hl 3 rfl) ?_
              obtain ⟨u7, hu7, hf⟩ := ob_b hf
              refine ba_iald Cx hP 3 rfl hu7 dX2_mostAtOnce_41 ?_
              refine lv_ishl hx hb dX2_mostAtOnce_42 ?_
              refine lv_ior hx hb dX2_mostAtOnce_43 ?_
              refine lv_istore (lv' := [(4, .int (((1 : Int32) <<< (u6 &&& 31)) ||| ((1 : Int32) <<< (u7 &&& 31)))), (0, .ref a_t), (1, .ref a_p1), (2, .int y2_2), (3, .int y3_19)]) hx hb dX2_mostAtOnce_44 hl (by decide) rfl (fun ls hl => ?_)
              refine lv_aload_n hx hb dX2_mostAtOnce_46 rfl (lv_at hl 1 rfl) ?_
              refine gf_X2_18 Cx hP 0 rfl rfl dX2_mostAtOnce_47 ?_
              refine lv_iload_n hx hb dX2_mostAtOnce_50 rfl (lv_at hl 3 rfl) ?_
              obtain ⟨u8, hu8, hf⟩ := ob_b hf
              refine ba_iald Cx hP 4 rfl hu8 dX2_mostAtOnce_51 ?_
              refine lv_iload hx hb dX2_mostAtOnce_52 (lv_at hl 0 rfl) ?_
              refine lv_iand hx hb dX2_mostAtOnce_54 ?_
              refine ob_J (P := fun w9 => ∀ (H : Heap) (locs : List Loc) (ls : Array Slot), va_P D vwCl [(a_t, .inr (2, [.ref a_lesser, .ref a_greater, .ref a_tooNear, .ref a_clash, .int v_count])), (a_clash, eI cI 12 w9), (a_lesser, eI cI 12 v_lesser), (a_greater, eI cI 12 v_greater), (a_tooNear, eI cI 12 v_tooNear), (a_p1, .inr (8, [.ref a_p1_filled, .ref a_p1_open, .ref a_p1_chance, .int v_p1_size, .int v_p1_places])), (a_p1_filled, eI cI 4096 v_p1_filled), (a_p1_open, eI cI 4096 v_p1_open)] H → va_S A s.heap H locs → lv_has ls 5 [(0, .ref a_t), (1, .ref a_p1), (2, .int y2_2), (3, .int y3_19)] → W p l e { frames := 2, cells := 0, slots := 0, locals := 43 } s m args below meth c H locs 0 0 Q (F0 m 70 ls [])) hf ?_ ?_
              · intro w9 hf H locs ls hP hS hl
                refine lv_iinc (v := (y3_19 + 1)) (lv' := [(3, .int (y3_19 + 1)), (0, .ref a_t), (1, .ref a_p1), (2, .int y2_2)]) hx hb dX2_mostAtOnce_70 hl (k := 3) rfl rfl (by decide) rfl (fun ls hl => ?_)
                refine lv_goto (tgt := 19) hx hb dX2_mostAtOnce_73 (by decide) ?_
                exact ih (y3_19 + 1) w9 _ _ _ _ hf hP hS (lv_sub hl [1, 2, 3, 0] rfl) kk
              · intro J70_10 hf
                refine lv_if_eq (tgt := 70) hx hb dX2_mostAtOnce_55 (by decide) (fun c11 => ?_) (fun c11 => ?_)
                · have hf := ob_tk c11 hf
                  exact J70_10 z_clash_19 hf _ _ _ hP hS (lv_sub hl [1, 2, 3, 4] rfl)
                · have hf := ob_fk c11 hf
                  refine lv_aload_n hx hb dX2_mostAtOnce_58 rfl (lv_at hl 1 rfl) ?_
                  refine gf_X2_21 Cx hP 0 rfl rfl dX2_mostAtOnce_59 ?_
                  refine lv_iload_n hx hb dX2_mostAtOnce_62 rfl (lv_at hl 3 rfl) ?_
                  refine lv_dup2_11 hx hb dX2_mostAtOnce_63 rfl rfl ?_
                  obtain ⟨u12, hu12, hf⟩ := ob_bk hf
                  refine ba_iald Cx hP 1 rfl hu12 dX2_mostAtOnce_64 ?_
                  refine lv_iconst (v := 1) hx hb dX2_mostAtOnce_65 (by decide) ?_
                  refine lv_iload_n hx hb dX2_mostAtOnce_66 rfl (lv_at hl 4 rfl) ?_
                  refine lv_ishl hx hb dX2_mostAtOnce_67 ?_
                  refine lv_ior hx hb dX2_mostAtOnce_68 ?_
                  obtain ⟨u13, hu13, hf⟩ := ob_bk hf
                  refine ba_iast (X' := [(a_t, .inr (2, [.ref a_lesser, .ref a_greater, .ref a_tooNear, .ref a_clash, .int v_count])), (a_clash, eI cI 12 u13), (a_lesser, eI cI 12 v_lesser), (a_greater, eI cI 12 v_greater), (a_tooNear, eI cI 12 v_tooNear), (a_p1, .inr (8, [.ref a_p1_filled, .ref a_p1_open, .ref a_p1_chance, .int v_p1_size, .int v_p1_places])), (a_p1_filled, eI cI 4096 v_p1_filled), (a_p1_open, eI cI 4096 v_p1_open)]) Cx hP hS rfl 1 rfl rfl hu13 dX2_mostAtOnce_69 (fun H locs hP hS => ?_)
                  exact J70_10 u13 hf _ _ _ hP hS (lv_sub hl [1, 2, 3, 4] rfl)
        obtain ⟨u14, hu14, hf⟩ := ob_b hf
        refine L19_4 FU (0 : Int32) u3 u14 _ _ _ hu14 hP hS (lv_sub hl [1, 2, 3, 0] rfl) ?_
        intro H locs ls hP hS hl
        refine lv_iinc (v := (y2_2 + 1)) (lv' := [(2, .int (y2_2 + 1)), (0, .ref a_t), (1, .ref a_p1)]) hx hb dX2_mostAtOnce_76 hl (k := 2) rfl rfl (by decide) rfl (fun ls hl => ?_)
        refine lv_goto (tgt := 2) hx hb dX2_mostAtOnce_79 (by decide) ?_
        exact ih (y2_2 + 1) u14 _ _ _ _ hf hP hS (lv_sub hl [1, 2, 0] rfl) kk
  obtain ⟨u15, hu15, hf⟩ := ob_b hf
  refine L2_1 FU (0 : Int32) v_clash u15 _ _ _ hu15 hP hS (lv_sub hl [1, 2, 0] rfl) ?_
  intro H locs ls hP hS hl
  refine lv_aload_n hx hb dX2_mostAtOnce_82 rfl (lv_at hl 1 rfl) ?_
  refine lv_aload_n hx hb dX2_mostAtOnce_83 rfl (lv_at hl 0 rfl) ?_
  refine gf_X2_21 Cx hP 0 rfl rfl dX2_mostAtOnce_84 ?_
  refine lv_aload_n hx hb dX2_mostAtOnce_87 rfl (lv_at hl 0 rfl) ?_
  refine gf_X2_24 Cx hP 0 rfl rfl dX2_mostAtOnce_88 ?_
  refine lv_iconst (v := 1) hx hb dX2_mostAtOnce_91 (by decide) ?_
  refine lv_aload_n hx hb dX2_mostAtOnce_92 rfl (lv_at hl 0 rfl) ?_
  refine gf_X2_24 Cx hP 0 rfl rfl dX2_mostAtOnce_93 ?_
  refine lv_ishl hx hb dX2_mostAtOnce_96 ?_
  refine lv_iconst (v := 1) hx hb dX2_mostAtOnce_97 (by decide) ?_
  refine lv_isub hx hb dX2_mostAtOnce_98 ?_
  obtain ⟨u16, hu16, hf⟩ := ob_b hf
  refine iv_X2_57 (As := [.ref a_clash, .int v_count, .int (((1 : Int32) <<< (v_count &&& 31)) - (1 : Int32))]) (rest := []) (is := [5, 6, 7, 1]) (q0 := 5) (X' := [(a_t, .inr (2, [.ref a_lesser, .ref a_greater, .ref a_tooNear, .ref a_clash, .int v_count])), (a_clash, eI cI 12 u15), (a_lesser, eI cI 12 v_lesser), (a_greater, eI cI 12 v_greater), (a_tooNear, eI cI 12 v_tooNear), (a_p1, .inr (8, [.ref a_p1_filled, .ref a_p1_open, .ref a_p1_chance, .int u16.1, .int u16.2.1])), (a_p1_filled, eI cI 4096 u16.2.2.1), (a_p1_open, eI cI 4096 u16.2.2.2)]) Cx (c_X8_list l D cI cJ cZ cO a_p1 a_p1_filled a_p1_open a_p1_chance a_clash v_p1_size v_p1_places v_p1_filled v_p1_open u15 v_count (((1 : Int32) <<< (v_count &&& 31)) - (1 : Int32)) u16 hu16) hP hS rfl rfl rfl rfl rfl rfl rfl hl.1 (Nat.le_of_ble_eq_true rfl) dX2_mostAtOnce_99 rfl rfl ⟨Nat.le_of_ble_eq_true rfl, Nat.le_of_ble_eq_true rfl⟩ ⟨Nat.zero_le _, Nat.zero_le _⟩ rfl (fun H locs hP hS => ?_)
  refine lv_aload_n hx hb dX2_mostAtOnce_102 rfl (lv_at hl 1 rfl) ?_
  obtain ⟨u17, hu17, hf⟩ := ob_b hf
  refine iv_X2_63 (As := []) (rest := []) (is := [5, 6]) (q0 := 5) (X' := [(a_t, .inr (2, [.ref a_lesser, .ref a_greater, .ref a_tooNear, .ref a_clash, .int v_count])), (a_clash, eI cI 12 u15), (a_lesser, eI cI 12 v_lesser), (a_greater, eI cI 12 v_greater), (a_tooNear, eI cI 12 v_tooNear), (a_p1, .inr (8, [.ref a_p1_filled, .ref a_p1_open, .ref a_p1_chance, .int u16.1, .int u16.2.1])), (a_p1_filled, eI cI 4096 u16.2.2.1), (a_p1_open, eI cI 4096 u16.2.2.2)]) Cx (c_X8_mostIn l D cI cJ cZ cO a_p1 a_p1_filled a_p1_open a_p1_chance u16.1 u16.2.1 u16.2.2.1 u17 hu17) hP hS rfl rfl rfl rfl rfl rfl rfl hl.1 (Nat.le_of_ble_eq_true rfl) dX2_mostAtOnce_103 rfl rfl ⟨Nat.le_of_ble_eq_true rfl, Nat.le_of_ble_eq_true rfl⟩ ⟨Nat.zero_le _, Nat.zero_le _⟩ rfl (fun H locs hP hS => ?_)
  obtain rfl := Option.some.inj hf
  exact ret _ _ _ _ dX2_mostAtOnce_106 hP hS

