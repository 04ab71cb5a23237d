def f_X10_ways (v_census_least : Int32) (v_census_most : Int32) (v_census_known : Int32) (v_scene_seats : Int32) (v_sets_size : Int32) (v_sets_places : Int32) (v_sets_filled : Nat → Int32) (v_sets_open : Nat → Int32) (v_bench_clash : Nat → Int32) (v_sets_chance : Nat → Int32) (v_census_wholeSets : Nat → Int32) (v_census_orders : Nat → Int64) (x1 : Int32) : Option (Int32 × Int32 × Int32 × Int32 × Int32 × Int32 × (Nat → Int32) × (Nat → Int32) × (Nat → Int32) × (Nat → Int32) × (Nat → Int64)) :=
  (f_X10_isWithin x1 (0 : Int32) (12 : Int32)).bind (fun u1 =>
  if u1 = 0 then
  some ((-2 : Int32), v_census_least, v_census_most, v_census_known, v_sets_size, v_sets_places, v_sets_filled, v_sets_open, v_sets_chance, v_census_wholeSets, v_census_orders)
  else
  (f_X1_take v_census_least v_census_most v_census_known v_scene_seats v_sets_size v_sets_places v_sets_filled v_sets_open v_bench_clash v_sets_chance v_census_wholeSets v_census_orders).bind (fun u3 =>
  (aget 13 u3.2.2.2.2.2.2.2.2.1 x1).bind (fun u4 =>
  some (u4, u3.1, u3.2.1, u3.2.2.1, u3.2.2.2.1, u3.2.2.2.2.1, u3.2.2.2.2.2.1, u3.2.2.2.2.2.2.1, u3.2.2.2.2.2.2.2.1, u3.2.2.2.2.2.2.2.2.1, u3.2.2.2.2.2.2.2.2.2))))
set_option maxHeartbeats 4000000 in
set_option maxRecDepth 100000 in
theorem c_X10_ways (l : Launch) (D : va_G) (cI cJ cZ cO : ClassId) (a_t a_pad a_scene a_images a_bench a_trial a_sitters a_trialSitters a_sets a_census a_match a_couples a_passing a_longRows a_census_wholeSets a_census_orders a_bench_apart a_bench_clash a_bench_neighbours a_scene_steps a_scene_worths a_scene_comers a_scene_seen a_scene_seenLengths a_sets_filled a_sets_open a_sets_chance : Nat) (v_census_least : Int32) (v_census_most : Int32) (v_census_known : Int32) (v_scene_seats : Int32) (v_scene_bear : Int32) (v_scene_comerCount : Int32) (v_scene_seenRows : Int32) (v_sets_size : Int32) (v_sets_places : Int32) (v_sets_filled : Nat → Int32) (v_sets_open : Nat → Int32) (v_bench_clash : Nat → Int32) (v_sets_chance : Nat → Int32) (v_census_wholeSets : Nat → Int32) (v_census_orders : Nat → Int64) (x1 : Int32) (out : Int32 × Int32 × Int32 × Int32 × Int32 × Int32 × (Nat → Int32) × (Nat → Int32) × (Nat → Int32) × (Nat → Int32) × (Nat → Int64)) (hf : f_X10_ways v_census_least v_census_most v_census_known v_scene_seats v_sets_size v_sets_places v_sets_filled v_sets_open v_bench_clash v_sets_chance v_census_wholeSets v_census_orders x1 = some out) : MetR l yX10_ways (Cond.code yX10_ways cX10_ways 2 (some .int) :: tbG) { frames := 3, cells := 0, slots := 0, locals := 67 } D (tyL cI cJ cZ cO) [.ref a_t, .int x1] [(a_t, .inr (10, [.ref a_pad, .ref a_scene, .ref a_images, .ref a_bench, .ref a_trial, .ref a_sitters, .ref a_trialSitters, .ref a_sets, .ref a_census, .ref a_match, .ref a_couples, .ref a_passing, .ref a_longRows])), (a_census, .inr (1, [.ref a_census_wholeSets, .ref a_census_orders, .int v_census_least, .int v_census_most, .int v_census_known])), (a_bench, .inr (0, [.ref a_scene, .ref a_bench_apart, .ref a_bench_clash, .ref a_bench_neighbours])), (a_scene, .inr (7, [.ref a_scene_steps, .ref a_scene_worths, .ref a_scene_comers, .ref a_scene_seen, .ref a_scene_seenLengths, .int v_scene_seats, .int v_scene_bear, .int v_scene_comerCount, .int v_scene_seenRows])), (a_sets, .inr (8, [.ref a_sets_filled, .ref a_sets_open, .ref a_sets_chance, .int v_sets_size, .int v_sets_places])), (a_sets_filled, eI cI 4096 v_sets_filled), (a_sets_open, eI cI 4096 v_sets_open), (a_bench_clash, eI cI 12 v_bench_clash), (a_sets_chance, eI cI 4096 v_sets_chance), (a_census_wholeSets, eI cI 13 v_census_wholeSets), (a_census_orders, eJ cJ 13 v_census_orders)] (some (.int out.1)) [(a_t, .inr (10, [.ref a_pad, .ref a_scene, .ref a_images, .ref a_bench, .ref a_trial, .ref a_sitters, .ref a_trialSitters, .ref a_sets, .ref a_census, .ref a_match, .ref a_couples, .ref a_passing, .ref a_longRows])), (a_census, .inr (1, [.ref a_census_wholeSets, .ref a_census_orders, .int out.2.1, .int out.2.2.1, .int out.2.2.2.1])), (a_bench, .inr (0, [.ref a_scene, .ref a_bench_apart, .ref a_bench_clash, .ref a_bench_neighbours])), (a_scene, .inr (7, [.ref a_scene_steps, .ref a_scene_worths, .ref a_scene_comers, .ref a_scene_seen, .ref a_scene_seenLengths, .int v_scene_seats, .int v_scene_bear, .int v_scene_comerCount, .int v_scene_seenRows])), (a_sets, .inr (8, [.ref a_sets_filled, .ref a_sets_open, .ref a_sets_chance, .int out.2.2.2.2.1, .int out.2.2.2.2.2.1])), (a_sets_filled, eI cI 4096 out.2.2.2.2.2.2.1), (a_sets_open, eI cI 4096 out.2.2.2.2.2.2.2.1), (a_bench_clash, eI cI 12 v_bench_clash), (a_sets_chance, eI cI 4096 out.2.2.2.2.2.2.2.2.1), (a_census_wholeSets, eI cI 13 out.2.2.2.2.2.2.2.2.2.1), (a_census_orders, eJ cJ 13 out.2.2.2.2.2.2.2.2.2.2)] := by
  refine ba_ofI RX10 [(0, .ref a_t), (1, .int x1)] (by decide +kernel) rfl (Nat.le_of_ble_eq_true rfl) rfl ?_
  intro p e s m args below meth c Q A Cx hP ret ls hl
  obtain ⟨⟨hx, hb, hml, hown, hts⟩, hK, hD, hA⟩ := id Cx
  have hS : va_S A s.heap s.heap [] := va_S.rf
  unfold f_X10_ways at hf
  refine lv_iload_n hx hb dX10_ways_0 rfl (lv_at hl 1 rfl) ?_
  refine lv_iconst (v := 0) hx hb dX10_ways_1 (by decide) ?_
  refine lv_bipush (v := 12) hx hb dX10_ways_2 (by decide) ?_
  obtain ⟨u1, hu1, hf⟩ := ob_b hf
  refine iv_X10_99 (As := [.int x1, .int (0 : Int32), .int (12 : Int32)]) (rest := []) (is := []) (X' := [(a_t, .inr (10, [.ref a_pad, .ref a_scene, .ref a_images, .ref a_bench, .ref a_trial, .ref a_sitters, .ref a_trialSitters, .ref a_sets, .ref a_census, .ref a_match, .ref a_couples, .ref a_passing, .ref a_longRows])), (a_census, .inr (1, [.ref a_census_wholeSets, .ref a_census_orders, .int v_census_least, .int v_census_most, .int v_census_known])), (a_bench, .inr (0, [.ref a_scene, .ref a_bench_apart, .ref a_bench_clash, .ref a_bench_neighbours])), (a_scene, .inr (7, [.ref a_scene_steps, .ref a_scene_worths, .ref a_scene_comers, .ref a_scene_seen, .ref a_scene_seenLengths, .int v_scene_seats, .int v_scene_bear, .int v_scene_comerCount, .int v_scene_seenRows])), (a_sets, .inr (8, [.ref a_sets_filled, .ref a_sets_open, .ref a_sets_chance, .int v_sets_size, .int v_sets_places])), (a_sets_filled, eI cI 4096 v_sets_filled), (a_sets_open, eI cI 4096 v_sets_open), (a_bench_clash, eI cI 12 v_bench_clash), (a_sets_chance, eI cI 4096 v_sets_chance), (a_census_wholeSets, eI cI 13 v_census_wholeSets), (a_census_orders, eJ cJ 13 v_census_orders)]) Cx (c_X10_isWithin l D cI cJ cZ cO  x1 (0 : Int32) (12 : Int32) u1 hu1) hP hS rfl rfl rfl rfl rfl rfl hl.1 (Nat.le_of_ble_eq_true rfl) dX10_ways_4 rfl rfl ⟨Nat.le_of_ble_eq_true rfl, Nat.le_of_ble_eq_true rfl⟩ ⟨Nat.zero_le _, Nat.zero_le _⟩ rfl (fun H locs hP hS => ?_)
  refine lv_if_ne (tgt := 13) hx hb dX10_ways_7 (by decide) (fun c2 => ?_) (fun c2 => ?_)
  · have hf := ob_f c2 hf
    refine lv_aload_n hx hb dX10_ways_13 rfl (lv_at hl 0 rfl) ?_
    refine gf_X10_61 Cx hP 0 rfl rfl dX10_ways_14 ?_
    refine lv_aload_n hx hb dX10_ways_17 rfl (lv_at hl 0 rfl) ?_
    refine gf_X10_32 Cx hP 0 rfl rfl dX10_ways_18 ?_
    refine lv_aload_n hx hb dX10_ways_21 rfl (lv_at hl 0 rfl) ?_
    refine gf_X10_54 Cx hP 0 rfl rfl dX10_ways_22 ?_
    obtain ⟨u3, hu3, hf⟩ := ob_b hf
    refine iv_X10_170 (As := [.ref a_bench, .ref a_sets]) (rest := []) (is := [1, 2, 3, 4, 5, 6, 7, 8, 9, 10]) (q0 := 1) (X' := [(a_t, .inr (10, [.ref a_pad, .ref a_scene, .ref a_images, .ref a_bench, .ref a_trial, .ref a_sitters, .ref a_trialSitters, .ref a_sets, .ref a_census, .ref a_match, .ref a_couples, .ref a_passing, .ref a_longRows])), (a_census, .inr (1, [.ref a_census_wholeSets, .ref a_census_orders, .int u3.1, .int u3.2.1, .int u3.2.2.1])), (a_bench, .inr (0, [.ref a_scene, .ref a_bench_apart, .ref a_bench_clash, .ref a_bench_neighbours])), (a_scene, .inr (7, [.ref a_scene_steps, .ref a_scene_worths, .ref a_scene_comers, .ref a_scene_seen, .ref a_scene_seenLengths, .int v_scene_seats, .int v_scene_bear, .int v_scene_comerCount, .int v_scene_seenRows])), (a_sets, .inr (8, [.ref a_sets_filled, .ref a_sets_open, .ref a_sets_chance, .int u3.2.2.2.1, .int u3.2.2.2.2.1])), (a_sets_filled, eI cI 4096 u3.2.2.2.2.2.1), (a_sets_open, eI cI 4096 u3.2.2.2.2.2.2.1), (a_bench_clash, eI cI 12 v_bench_clash), (a_sets_chance, eI cI 4096 u3.2.2.2.2.2.2.2.1), (a_census_wholeSets, eI cI 13 u3.2.2.2.2.2.2.2.2.1), (a_census_orders, eJ cJ 13 u3.2.2.2.2.2.2.2.2.2)]) Cx (c_X1_take l D cI cJ cZ cO a_census a_census_wholeSets a_census_orders a_bench a_scene a_bench_apart a_bench_clash a_bench_neighbours a_scene_steps a_scene_worths a_scene_comers a_scene_seen a_scene_seenLengths a_sets a_sets_filled a_sets_open a_sets_chance v_census_least v_census_most v_census_known v_scene_seats v_scene_bear v_scene_comerCount v_scene_seenRows v_sets_size v_sets_places v_sets_filled v_sets_open v_bench_clash v_sets_chance v_census_wholeSets v_census_orders u3 hu3) hP hS rfl rfl rfl rfl rfl rfl rfl hl.1 (Nat.le_of_ble_eq_true rfl) dX10_ways_25 rfl rfl ⟨Nat.le_of_ble_eq_true rfl, Nat.le_of_ble_eq_true rfl⟩ ⟨Nat.zero_le _, Nat.zero_le _⟩ rfl (fun H locs hP hS => ?_)
    refine lv_aload_n hx hb dX10_ways_28 rfl (lv_at hl 0 rfl) ?_
    refine gf_X10_61 Cx hP 0 rfl rfl dX10_ways_29 ?_
    refine gf_X10_185 Cx hP 1 rfl rfl dX10_ways_32 ?_
    refine lv_iload_n hx hb dX10_ways_35 rfl (lv_at hl 1 rfl) ?_
    obtain ⟨u4, hu4, hf⟩ := ob_b hf
    refine ba_iald Cx hP 9 rfl hu4 dX10_ways_36 ?_
    obtain rfl := Option.some.inj hf
    exact ret _ _ _ _ dX10_ways_37 hP hS
  · have hf := ob_t c2 hf
    refine lv_bipush (v := (-2)) hx hb dX10_ways_10 (by decide) ?_
    obtain rfl := Option.some.inj hf
    exact ret _ _ _ _ dX10_ways_12 hP hS

def f_X10_commonDivisor_9  : Nat → Int64 → Int64 → Int32 → Option (Int64)
  | 0, _, _, _ => none
  | n + 1, y4_9, y6_9, y8_9 =>
  if (100 : Int32) ≤ y8_9 then
  some (y4_9)
  else
  if (lg_cmp y6_9 (0 : Int64)) = 0 then
  some (y4_9)
  else
  (oremL y4_9 y6_9).bind (fun u4 =>
  f_X10_commonDivisor_9  n y6_9 u4 (y8_9 + 1))
theorem f_X10_commonDivisor_9_s  (n : Nat) (y4_9 : Int64) (y6_9 : Int64) (y8_9 : Int32) : f_X10_commonDivisor_9  (n + 1) y4_9 y6_9 y8_9 =
  (if (100 : Int32) ≤ y8_9 then
  some (y4_9)
  else
  if (lg_cmp y6_9 (0 : Int64)) = 0 then
  some (y4_9)
  else
  (oremL y4_9 y6_9).bind (fun u4 =>
  f_X10_commonDivisor_9  n y6_9 u4 (y8_9 + 1))) := rfl
def f_X10_commonDivisor (x0 : Int64) (x2 : Int64) : Option (Int64) :=
  (f_X10_commonDivisor_9  FU x0 x2 (0 : Int32)).bind (fun u5 =>
  some (u5))
set_option maxHeartbeats 4000000 in
set_option maxRecDepth 100000 in
theorem c_X10_commonDivisor (l : Launch) (D : va_G) (cI cJ cZ cO : ClassId) (x0 : Int64) (x2 : Int64) (out : Int64) (hf : f_X10_commonDivisor x0 x2 = some out) : MetR l yX10_commonDivisor (Cond.code yX10_commonDivisor cX10_commonDivisor 11 (some .long) :: tbG) { frames := 0, cells := 0, slots := 0, locals := 0 } D (tyL cI cJ cZ cO) [.long x0, .long x2] [] (some (.long out)) [] := by
  refine ba_ofL RX10 [(0, .long x0), (2, .long x2)] (by decide +kernel) rfl (Nat.le_of_ble_eq_true rfl) rfl ?_
  intro p e s m args below meth c Q A Cx hP ret ls hl
  obtain ⟨⟨hx, hb, hml, hown, hts⟩, hK, hD, hA⟩ := id Cx
  have hS : va_S A s.heap s.heap [] := va_S.rf
  unfold f_X10_commonDivisor at hf
  refine lv_lload_n hx hb dX10_commonDivisor_0 rfl (lv_at hl 0 rfl) ?_
  refine lv_lstore (lv' := [(4, .long x0), (0, .long x0), (2, .long x2)]) hx hb dX10_commonDivisor_1 hl (by decide) rfl (fun ls hl => ?_)
  refine lv_lload_n hx hb dX10_commonDivisor_3 rfl (lv_at hl 2 rfl) ?_
  refine lv_lstore (lv' := [(6, .long x2), (4, .long x0), (0, .long x0), (2, .long x2)]) hx hb dX10_commonDivisor_4 hl (by decide) rfl (fun ls hl => ?_)
  refine lv_iconst (v := 0) hx hb dX10_commonDivisor_6 (by decide) ?_
  refine lv_istore (lv' := [(8, .int (0 : Int32)), (6, .long x2), (4, .long x0), (0, .long x0), (2, .long x2)]) hx hb dX10_commonDivisor_7 hl (by decide) rfl (fun ls hl => ?_)
  have L9_1 : ∀ (n : Nat) (y4_9 : Int64) (y6_9 : Int64) (y8_9 : Int32) (o : Int64) (H : Heap) (locs : List Loc) (ls : Array Slot), f_X10_commonDivisor_9  n y4_9 y6_9 y8_9 = some o → va_P D vwCl [] H → va_S A s.heap H locs → lv_has ls 11 [(4, .long y4_9), (6, .long y6_9), (8, .int y8_9)] → (∀ (H : Heap) (locs : List Loc) (ls : Array Slot), va_P D vwCl [] H → va_S A s.heap H locs → lv_has ls 11 [(4, .long o)] → W p l e { frames := 0, cells := 0, slots := 0, locals := 0 } s m args below meth c H locs 0 0 Q (F0 m 44 ls [])) → W p l e { frames := 0, cells := 0, slots := 0, locals := 0 } s m args below meth c H locs 0 0 Q (F0 m 9 ls []) := by
    intro n
    induction n with
    | zero => intro y4_9 y6_9 y8_9 o H locs ls hf; exact (ob_n hf).elim
    | succ n ih =>
      intro y4_9 y6_9 y8_9 o H locs ls hf hP hS hl kk
      rw [f_X10_commonDivisor_9_s] at hf
      refine lv_iload hx hb dX10_commonDivisor_9 (lv_at hl 2 rfl) ?_
      refine lv_bipush (v := 100) hx hb dX10_commonDivisor_11 (by decide) ?_
      refine lv_icmp_ge (tgt := 44) hx hb dX10_commonDivisor_13 (by decide) (fun c2 => ?_) (fun c2 => ?_)
      · have hf := ob_t c2 hf
        obtain rfl := Option.some.inj hf
        exact kk _ _ _ hP hS (lv_sub hl [0] rfl)
      · have hf := ob_f c2 hf
        refine lv_lload hx hb dX10_commonDivisor_16 (lv_at hl 1 rfl) ?_
        refine lv_lconst (v := 0) hx hb dX10_commonDivisor_18 (by decide) ?_
        refine W.lcmp hx hb dX10_commonDivisor_19 ?_
        refine lv_if_eq (tgt := 44) hx hb dX10_commonDivisor_20 (by decide) (fun c3 => ?_) (fun c3 => ?_)
        · have hf := ob_t c3 hf
          obtain rfl := Option.some.inj hf
          exact kk _ _ _ hP hS (lv_sub hl [0] rfl)
        · have hf := ob_f c3 hf
          refine lv_lload hx hb dX10_commonDivisor_23 (lv_at hl 0 rfl) ?_
          refine lv_lload hx hb dX10_commonDivisor_25 (lv_at hl 1 rfl) ?_
          obtain ⟨u4, hu4, hf⟩ := ob_b hf
          refine ba_lrem hx hb hu4 dX10_commonDivisor_27 ?_
          refine lv_lstore (lv' := [(9, .long u4), (4, .long y4_9), (6, .long y6_9), (8, .int y8_9)]) hx hb dX10_commonDivisor_28 hl (by decide) rfl (fun ls hl => ?_)
          refine lv_lload hx hb dX10_commonDivisor_30 (lv_at hl 2 rfl) ?_
          refine lv_lstore (lv' := [(4, .long y6_9), (9, .long u4), (6, .long y6_9), (8, .int y8_9)]) hx hb dX10_commonDivisor_32 hl (by decide) rfl (fun ls hl => ?_)
          refine lv_lload hx hb dX10_commonDivisor_34 (lv_at hl 1 rfl) ?_
          refine lv_lstore (lv' := [(6, .long u4), (4, .long y6_9), (9, .long u4), (8, .int y8_9)]) hx hb dX10_commonDivisor_36 hl (by decide) rfl (fun ls hl => ?_)
          refine lv_iinc (v := (y8_9 + 1)) (lv' := [(8, .int (y8_9 + 1)), (6, .long u4), (4, .long y6_9), (9, .long u4)]) hx hb dX10_commonDivisor_38 hl (k := 3) rfl rfl (by decide) rfl (fun ls hl => ?_)
          refine lv_goto (tgt := 9) hx hb dX10_commonDivisor_41 (by decide) ?_
          exact ih y6_9 u4 (y8_9 + 1) _ _ _ _ hf hP hS (lv_sub hl [2, 1, 0] rfl) kk
  obtain ⟨u5, hu5, hf⟩ := ob_b hf
  refine L9_1 FU x0 x2 (0 : Int32) u5 _ _ _ hu5 hP hS (lv_sub hl [2, 1, 0] rfl) ?_
  intro H locs ls hP hS hl
  refine lv_lload hx hb dX10_commonDivisor_44 (lv_at hl 0 rfl) ?_
  obtain rfl := Option.some.inj hf
  exact ret _ _ _ _ dX10_commonDivisor_46 hP hS

def f_X10_lowestPart (x0 : Int64) (x2 : Int64) (x4 : Int32) : Option (Int64) :=
  (f_X10_commonDivisor x0 x2).bind (fun u1 =>
  if (lg_cmp u1 (0 : Int64)) = 0 then
  some (0 : Int64)
  else
  (if x4 = 0 then
  some (x0)
  else
  some (x2)).bind (fun w3 =>
  (odivL w3 u1).bind (fun u5 =>
  some (u5))))
set_option maxHeartbeats 4000000 in
set_option maxRecDepth 100000 in
theorem c_X10_lowestPart (l : Launch) (D : va_G) (cI cJ cZ cO : ClassId) (x0 : Int64) (x2 : Int64) (x4 : Int32) (out : Int64) (hf : f_X10_lowestPart x0 x2 x4 = some out) : MetR l yX10_lowestPart (Cond.code yX10_lowestPart cX10_lowestPart 7 (some .long) :: tbG) { frames := 1, cells := 0, slots := 0, locals := 30 } D (tyL cI cJ cZ cO) [.long x0, .long x2, .int x4] [] (some (.long out)) [] := by
  refine ba_ofL RX10 [(0, .long x0), (2, .long x2), (4, .int x4)] (by decide +kernel) rfl (Nat.le_of_ble_eq_true rfl) rfl ?_
  intro p e s m args below meth c Q A Cx hP ret ls hl
  obtain ⟨⟨hx, hb, hml, hown, hts⟩, hK, hD, hA⟩ := id Cx
  have hS : va_S A s.heap s.heap [] := va_S.rf
  unfold f_X10_lowestPart at hf
  refine lv_lload_n hx hb dX10_lowestPart_0 rfl (lv_at hl 0 rfl) ?_
  refine lv_lload_n hx hb dX10_lowestPart_1 rfl (lv_at hl 1 rfl) ?_
  obtain ⟨u1, hu1, hf⟩ := ob_b hf
  refine iv_X10_319 (As := [.long x0, .long x2]) (rest := []) (is := []) (X' := []) Cx (c_X10_commonDivisor l D cI cJ cZ cO  x0 x2 u1 hu1) hP hS rfl rfl rfl rfl rfl rfl hl.1 (Nat.le_of_ble_eq_true rfl) dX10_lowestPart_2 rfl rfl ⟨Nat.le_of_ble_eq_true rfl, Nat.le_of_ble_eq_true rfl⟩ ⟨Nat.zero_le _, Nat.zero_le _⟩ rfl (fun H locs hP hS => ?_)
  refine lv_lstore (lv' := [(5, .long u1), (0, .long x0), (2, .long x2), (4, .int x4)]) hx hb dX10_lowestPart_5 hl (by decide) rfl (fun ls hl => ?_)
  refine lv_lload hx hb dX10_lowestPart_7 (lv_at hl 0 rfl) ?_
  refine lv_lconst (v := 0) hx hb dX10_lowestPart_9 (by decide) ?_
  refine W.lcmp hx hb dX10_lowestPart_10 ?_
  refine lv_if_ne (tgt := 16) hx hb dX10_lowestPart_11 (by decide) (fun c2 => ?_) (fun c2 => ?_)
  · have hf := ob_f c2 hf
    refine lv_iload hx hb dX10_lowestPart_16 (lv_at hl 3 rfl) ?_
    refine ob_J (P := fun w3 => ∀ (H : Heap) (locs : List Loc) (ls : Array Slot), va_P D vwCl [] H → va_S A s.heap H locs → lv_has ls 7 [(5, .long u1)] → W p l e { frames := 1, cells := 0, slots := 0, locals := 30 } s m args below meth c H locs 0 0 Q (F0 m 26 ls [.long w3])) hf ?_ ?_
    · intro w3 hf H locs ls hP hS hl
      refine lv_lload hx hb dX10_lowestPart_26 (lv_at hl 0 rfl) ?_
      obtain ⟨u5, hu5, hf⟩ := ob_b hf
      refine ba_ldiv hx hb hu5 dX10_lowestPart_28 ?_
      obtain rfl := Option.some.inj hf
      exact ret _ _ _ _ dX10_lowestPart_29 hP hS
    · intro J26_4 hf
      refine lv_if_ne (tgt := 25) hx hb dX10_lowestPart_18 (by decide) (fun c6 => ?_) (fun c6 => ?_)
      · have hf := ob_fk c6 hf
        refine lv_lload_n hx hb dX10_lowestPart_25 rfl (lv_at hl 2 rfl) ?_
        exact J26_4 x2 hf _ _ _ hP hS (lv_sub hl [0] rfl)
      · have hf := ob_tk c6 hf
        refine lv_lload_n hx hb dX10_lowestPart_21 rfl (lv_at hl 1 rfl) ?_
        refine lv_goto (tgt := 26) hx hb dX10_lowestPart_22 (by decide) ?_
        exact J26_4 x0 hf _ _ _ hP hS (lv_sub hl [0] rfl)
  · have hf := ob_t c2 hf
    refine lv_lconst (v := 0) hx hb dX10_lowestPart_14 (by decide) ?_
    obtain rfl := Option.some.inj hf
    exact ret _ _ _ _ dX10_lowestPart_15 hP hS

def f_X10_mean (v_census_least : Int32) (v_census_most : Int32) (v_census_known : Int32) (v_scene_seats : Int32) (v_sets_size : Int32) (v_sets_places : Int32) (v_sets_filled : Nat → Int32) (v_sets_open : Nat → Int32) (v_bench_clash : Nat → Int32) (v_sets_chance : Nat → Int32) (v_census_wholeSets : Nat → Int32) (v_census_orders : Nat → Int64) (x1 : Int32) : Option (Int64 × Int32 × Int32 × Int32 × Int32 × Int32 × (Nat → Int32) × (Nat → Int32) × (Nat → Int32) × (Nat → Int32) × (Nat → Int64)) :=
  (f_X10_isWithin x1 (0 : Int32) (1 : Int32)).bind (fun u1 =>
  if u1 = 0 then
  some ((-1000000000000000002 : Int64), v_census_least, v_census_most, v_census_known, v_sets_size, v_sets_places, v_sets_filled, v_sets_open, v_sets_chance, v_census_wholeSets, v_census_orders)
  else
  (f_X1_take v_census_least v_census_most v_census_known v_scene_seats v_sets_size v_sets_places v_sets_filled v_sets_open v_bench_clash v_sets_chance v_census_wholeSets v_census_orders).bind (fun u3 =>
  (f_X1_sumOfSitters u3.2.2.2.2.2.2.2.2.2).bind (fun u4 =>
  (f_X10_lowestPart u4 (479001600 : Int64) x1).bind (fun u5 =>
  some (u5, u3.1, u3.2.1, u3.2.2.1, u3.2.2.2.1, u3.2.2.2.2.1, u3.2.2.2.2.2.1, u3.2.2.2.2.2.2.1, u3.2.2.2.2.2.2.2.1, u3.2.2.2.2.2.2.2.2.1, u3.2.2.2.2.2.2.2.2.2)))))
set_option maxHeartbeats 4000000 in
set_option maxRecDepth 100000 in
theorem c_X10_mean (l : Launch) (D : va_G) (cI cJ cZ cO : ClassId) (a_t a_pad a_scene a_images a_bench a_trial a_sitters a_trialSitters a_sets a_census a_match a_couples a_passing a_longRows a_census_wholeSets a_census_orders a_bench_apart a_bench_clash a_bench_neighbours a_scene_steps a_scene_worths a_scene_comers a_scene_seen a_scene_seenLengths a_sets_filled a_sets_open a_sets_chance : Nat) (v_census_least : Int32) (v_census_most : Int32) (v_census_known : Int32) (v_scene_seats : Int32) (v_scene_bear : Int32) (v_scene_comerCount : Int32) (v_scene_seenRows : Int32) (v_sets_size : Int32) (v_sets_places : Int32) (v_sets_filled : Nat → Int32) (v_sets_open : Nat → Int32) (v_bench_clash : Nat → Int32) (v_sets_chance : Nat → Int32) (v_census_wholeSets : Nat → Int32) (v_census_orders : Nat → Int64) (x1 : Int32) (out : Int64 × Int32 × Int32 × Int32 × Int32 × Int32 × (Nat → Int32) × (Nat → Int32) × (Nat → Int32) × (Nat → Int32) × (Nat → Int64)) (hf : f_X10_mean v_census_least v_census_most v_census_known v_scene_seats v_sets_size v_sets_places v_sets_filled v_sets_open v_bench_clash v_sets_chance v_census_wholeSets v_census_orders x1 = some out) : MetR l yX10_mean (Cond.code yX10_mean cX10_mean 2 (some .long) :: tbG) { frames := 3, cells := 0, slots := 0, locals := 67 } D (tyL cI cJ cZ cO) [.ref a_t, .int x1] [(a_t, .inr (10, [.ref a_pad, .ref a_scene, .ref a_images, .ref a_bench, .ref a_trial, .ref a_sitters, .ref a_trialSitters, .ref a_sets, .ref a_census, .ref a_match, .ref a_couples, .ref a_passing, .ref a_longRows])), (a_census, .inr (1, [.ref a_census_wholeSets, .ref a_census_orders, .int v_census_least, .int v_census_most, .int v_census_known])), (a_bench, .inr (0, [.ref a_scene, .ref a_bench_apart, .ref a_bench_clash, .ref a_bench_neighbours])), (a_scene, .inr (7, [.ref a_scene_steps, .ref a_scene_worths, .ref a_scene_comers, .ref a_scene_seen, .ref a_scene_seenLengths, .int v_scene_seats, .int v_scene_bear, .int v_scene_comerCount, .int v_scene_seenRows])), (a_sets, .inr (8, [.ref a_sets_filled, .ref a_sets_open, .ref a_sets_chance, .int v_sets_size, .int v_sets_places])), (a_sets_filled, eI cI 4096 v_sets_filled), (a_sets_open, eI cI 4096 v_sets_open), (a_bench_clash, eI cI 12 v_bench_clash), (a_sets_chance, eI cI 4096 v_sets_chance), (a_census_wholeSets, eI cI 13 v_census_wholeSets), (a_census_orders, eJ cJ 13 v_census_orders)] (some (.long out.1)) [(a_t, .inr (10, [.ref a_pad, .ref a_scene, .ref a_images, .ref a_bench, .ref a_trial, .ref a_sitters, .ref a_trialSitters, .ref a_sets, .ref a_census, .ref a_match, .ref a_couples, .ref a_passing, .ref a_longRows])), (a_census, .inr (1, [.ref a_census_wholeSets, .ref a_census_orders, .int out.2.1, .int out.2.2.1, .int out.2.2.2.1])), (a_bench, .inr (0, [.ref a_scene, .ref a_bench_apart, .ref a_bench_clash, .ref a_bench_neighbours])), (a_scene, .inr (7, [.ref a_scene_steps, .ref a_scene_worths, .ref a_scene_comers, .ref a_scene_seen, .ref a_scene_seenLengths, .int v_scene_seats, .int v_scene_bear, .int v_scene_comerCount, .int v_scene_seenRows])), (a_sets, .inr (8, [.ref a_sets_filled, .ref a_sets_open, .ref a_sets_chance, .int out.2.2.2.2.1, .int out.2.2.2.2.2.1])), (a_sets_filled, eI cI 4096 out.2.2.2.2.2.2.1), (a_sets_open, eI cI 4096 out.2.2.2.2.2.2.2.1), (a_bench_clash, eI cI 12 v_bench_clash), (a_sets_chance, eI cI 4096 out.2.2.2.2.2.2.2.2.1), (a_census_wholeSets, eI cI 13 out.2.2.2.2.2.2.2.2.2.1), (a_census_orders, eJ cJ 13 out.2.2.2.2.2.2.2.2.2.2)] := by
  refine ba_ofL RX10 [(0, .ref a_t), (1, .int x1)] (by decide +kernel) rfl (Nat.le_of_ble_eq_true rfl) rfl ?_
  intro p e s m args below meth c Q A Cx hP ret ls hl
  obtain ⟨⟨hx, hb, hml, hown, hts⟩, hK, hD, hA⟩ := id Cx
  have hS : va_S A s.heap s.heap [] := va_S.rf
  unfold f_X10_mean at hf
  refine lv_iload_n hx hb dX10_mean_0 rfl (lv_at hl 1 rfl) ?_
  refine lv_iconst (v := 0) hx hb dX10_mean_1 (by decide) ?_
  refine lv_iconst (v := 1) hx hb dX10_mean_2 (by decide) ?_
  obtain ⟨u1, hu1, hf⟩ := ob_b hf
  refine iv_X10_99 (As := [.int x1, .int (0 : Int32), .int (1 : Int32)]) (rest := []) (is := []) (X' := [(a_t, .inr (10, [.ref a_pad, .ref a_scene, .ref a_images, .ref a_bench, .ref a_trial, .ref a_sitters, .ref a_trialSitters, .ref a_sets, .ref a_census, .ref a_match, .ref a_couples, .ref a_passing, .ref a_longRows])), (a_census, .inr (1, [.ref a_census_wholeSets, .ref a_census_orders, .int v_census_least, .int v_census_most, .int v_census_known])), (a_bench, .inr (0, [.ref a_scene, .ref a_bench_apart, .ref a_bench_clash, .ref a_bench_neighbours])), (a_scene, .inr (7, [.ref a_scene_steps, .ref a_scene_worths, .ref a_scene_comers, .ref a_scene_seen, .ref a_scene_seenLengths, .int v_scene_seats, .int v_scene_bear, .int v_scene_comerCount, .int v_scene_seenRows])), (a_sets, .inr (8, [.ref a_sets_filled, .ref a_sets_open, .ref a_sets_chance, .int v_sets_size, .int v_sets_places])), (a_sets_filled, eI cI 4096 v_sets_filled), (a_sets_open, eI cI 4096 v_sets_open), (a_bench_clash, eI cI 12 v_bench_clash), (a_sets_chance, eI cI 4096 v_sets_chance), (a_census_wholeSets, eI cI 13 v_census_wholeSets), (a_census_orders, eJ cJ 13 v_census_orders)]) Cx (c_X10_isWithin l D cI cJ cZ cO  x1 (0 : Int32) (1 : Int32) u1 hu1) hP hS rfl rfl rfl rfl rfl rfl hl.1 (Nat.le_of_ble_eq_true rfl) dX10_mean_3 rfl rfl ⟨Nat.le_of_ble_eq_true rfl, Nat.le_of_ble_eq_true rfl⟩ ⟨Nat.zero_le _, Nat.zero_le _⟩ rfl (fun H locs hP hS => ?_)
  refine lv_if_ne (tgt := 13) hx hb dX10_mean_6 (by decide) (fun c2 => ?_) (fun c2 => ?_)
  · have hf := ob_f c2 hf
    refine lv_aload_n hx hb dX10_mean_13 rfl (lv_at hl 0 rfl) ?_
    refine gf_X10_61 Cx hP 0 rfl rfl dX10_mean_14 ?_
    refine lv_aload_n hx hb dX10_mean_17 rfl (lv_at hl 0 rfl) ?_
    refine gf_X10_32 Cx hP 0 rfl rfl dX10_mean_18 ?_
    refine lv_aload_n hx hb dX10_mean_21 rfl (lv_at hl 0 rfl) ?_
    refine gf_X10_54 Cx hP 0 rfl rfl dX10_mean_22 ?_
    obtain ⟨u3, hu3, hf⟩ := ob_b hf
    refine iv_X10_170 (As := [.ref a_bench, .ref a_sets]) (rest := []) (is := [1, 2, 3, 4, 5, 6, 7, 8, 9, 10]) (q0 := 1) (X' := [(a_t, .inr (10, [.ref a_pad, .ref a_scene, .ref a_images, .ref a_bench, .ref a_trial, .ref a_sitters, .ref a_trialSitters, .ref a_sets, .ref a_census, .ref a_match, .ref a_couples, .ref a_passing, .ref a_longRows])), (a_census, .inr (1, [.ref a_census_wholeSets, .ref a_census_orders, .int u3.1, .int u3.2.1, .int u3.2.2.1])), (a_bench, .inr (0, [.ref a_scene, .ref a_bench_apart, .ref a_bench_clash, .ref a_bench_neighbours])), (a_scene, .inr (7, [.ref a_scene_steps, .ref a_scene_worths, .ref a_scene_comers, .ref a_scene_seen, .ref a_scene_seenLengths, .int v_scene_seats, .int v_scene_bear, .int v_scene_comerCount, .int v_scene_seenRows])), (a_sets, .inr (8, [.ref a_sets_filled, .ref a_sets_open, .ref a_sets_chance, .int u3.2.2.2.1, .int u3.2.2.2.2.1])), (a_sets_filled, eI cI 4096 u3.2.2.2.2.2.1), (a_sets_open, eI cI 4096 u3.2.2.2.2.2.2.1), (a_bench_clash, eI cI 12 v_bench_clash), (a_sets_chance, eI cI 4096 u3.2.2.2.2.2.2.2.1), (a_census_wholeSets, eI cI 13 u3.2.2.2.2.2.2.2.2.1), (a_census_orders, eJ cJ 13 u3.2.2.2.2.2.2.2.2.2)]) Cx (c_X1_take l D cI cJ cZ cO a_census a_census_wholeSets a_census_orders a_bench a_scene a_bench_apart a_bench_clash a_bench_neighbours a_scene_steps a_scene_worths a_scene_comers a_scene_seen a_scene_seenLengths a_sets a_sets_filled a_sets_open a_sets_chance v_census_least v_census_most v_census_known v_scene_seats v_scene_bear v_scene_comerCount v_scene_seenRows v_sets_size v_sets_places v_sets_filled v_sets_open v_bench_clash v_sets_chance v_census_wholeSets v_census_orders u3 hu3) hP hS rfl rfl rfl rfl rfl rfl rfl hl.1 (Nat.le_of_ble_eq_true rfl) dX10_mean_25 rfl rfl ⟨Nat.le_of_ble_eq_true rfl, Nat.le_of_ble_eq_true rfl⟩ ⟨Nat.zero_le _, Nat.zero_le _⟩ rfl (fun H locs hP hS => ?_)
    refine lv_aload_n hx hb dX10_mean_28 rfl (lv_at hl 0 rfl) ?_
    refine gf_X10_61 Cx hP 0 rfl rfl dX10_mean_29 ?_
    obtain ⟨u4, hu4, hf⟩ := ob_b hf
    refine iv_X10_190 (As := []) (rest := []) (is := [1, 10]) (q0 := 1) (X' := [(a_t, .inr (10, [.ref a_pad, .ref a_scene, .ref a_images, .ref a_bench, .ref a_trial, .ref a_sitters, .ref a_trialSitters, .ref a_sets, .ref a_census, .ref a_match, .ref a_couples, .ref a_passing, .ref a_longRows])), (a_census, .inr (1, [.ref a_census_wholeSets, .ref a_census_orders, .int u3.1, .int u3.2.1, .int u3.2.2.1])), (a_bench, .inr (0, [.ref a_scene, .ref a_bench_apart, .ref a_bench_clash, .ref a_bench_neighbours])), (a_scene, .inr (7, [.ref a_scene_steps, .ref a_scene_worths, .ref a_scene_comers, .ref a_scene_seen, .ref a_scene_seenLengths, .int v_scene_seats, .int v_scene_bear, .int v_scene_comerCount, .int v_scene_seenRows])), (a_sets, .inr (8, [.ref a_sets_filled, .ref a_sets_open, .ref a_sets_chance, .int u3.2.2.2.1, .int u3.2.2.2.2.1])), (a_sets_filled, eI cI 4096 u3.2.2.2.2.2.1), (a_sets_open, eI cI 4096 u3.2.2.2.2.2.2.1), (a_bench_clash, eI cI 12 v_bench_clash), (a_sets_chance, eI cI 4096 u3.2.2.2.2.2.2.2.1), (a_census_wholeSets, eI cI 13 u3.2.2.2.2.2.2.2.2.1), (a_census_orders, eJ cJ 13 u3.2.2.2.2.2.2.2.2.2)]) Cx (c_X1_sumOfSitters l D cI cJ cZ cO a_census a_census_wholeSets a_census_orders u3.1 u3.2.1 u3.2.2.1 u3.2.2.2.2.2.2.2.2.2 u4 hu4) hP hS rfl rfl rfl rfl rfl rfl rfl hl.1 (Nat.le_of_ble_eq_true rfl) dX10_mean_32 rfl rfl ⟨Nat.le_of_ble_eq_true rfl, Nat.le_of_ble_eq_true rfl⟩ ⟨Nat.zero_le _, Nat.zero_le _⟩ rfl (fun H locs hP hS => ?_)
    refine lv_ldc2 hx hb hown (hts _ kw_496) dX10_mean_35 ?_
    refine lv_iload_n hx hb dX10_mean_38 rfl (lv_at hl 1 rfl) ?_
    obtain ⟨u5, hu5, hf⟩ := ob_b hf
    refine iv_X10_196 (As := [.long u4, .long (479001600 : Int64), .int x1]) (rest := []) (is := []) (X' := [(a_t, .inr (10, [.ref a_pad, .ref a_scene, .ref a_images, .ref a_bench, .ref a_trial, .ref a_sitters, .ref a_trialSitters, .ref a_sets, .ref a_census, .ref a_match, .ref a_couples, .ref a_passing, .ref a_longRows])), (a_census, .inr (1, [.ref a_census_wholeSets, .ref a_census_orders, .int u3.1, .int u3.2.1, .int u3.2.2.1])), (a_bench, .inr (0, [.ref a_scene, .ref a_bench_apart, .ref a_bench_clash, .ref a_bench_neighbours])), (a_scene, .inr (7, [.ref a_scene_steps, .ref a_scene_worths, .ref a_scene_comers, .ref a_scene_seen, .ref a_scene_seenLengths, .int v_scene_seats, .int v_scene_bear, .int v_scene_comerCount, .int v_scene_seenRows])), (a_sets, .inr (8, [.ref a_sets_filled, .ref a_sets_open, .ref a_sets_chance, .int u3.2.2.2.1, .int u3.2.2.2.2.1])), (a_sets_filled, eI cI 4096 u3.2.2.2.2.2.1), (a_sets_open, eI cI 4096 u3.2.2.2.2.2.2.1), (a_bench_clash, eI cI 12 v_bench_clash), (a_sets_chance, eI cI 4096 u3.2.2.2.2.2.2.2.1), (a_census_wholeSets, eI cI 13 u3.2.2.2.2.2.2.2.2.1), (a_census_orders, eJ cJ 13 u3.2.2.2.2.2.2.2.2.2)]) Cx (c_X10_lowestPart l D cI cJ cZ cO  u4 (479001600 : Int64) x1 u5 hu5) hP hS rfl rfl rfl rfl rfl rfl hl.1 (Nat.le_of_ble_eq_true rfl) dX10_mean_39 rfl rfl ⟨Nat.le_of_ble_eq_true rfl, Nat.le_of_ble_eq_true rfl⟩ ⟨Nat.zero_le _, Nat.zero_le _⟩ rfl (fun H locs hP hS => ?_)
    obtain rfl := Option.some.inj hf
    exact ret _ _ _ _ dX10_mean_42 hP hS
  · have hf := ob_t c2 hf
    refine lv_ldc2 hx hb hown (hts _ kw_491) dX10_mean_9 ?_
    obtain rfl := Option.some.inj hf
    exact ret _ _ _ _ dX10_mean_12 hP hS

def f_X10_odds (v_census_least : Int32) (v_census_most : Int32) (v_census_known : Int32) (v_scene_seats : Int32) (v_sets_size : Int32) (v_sets_places : Int32) (v_sets_filled : Nat → Int32) (v_sets_open : Nat → Int32) (v_bench_clash : Nat → Int32) (v_sets_chance : Nat → Int32) (v_census_wholeSets : Nat → Int32) (v_census_orders : Nat → Int64) (x1 : Int32) (x2 : Int32) : Option (Int64 × Int32 × Int32 × Int32 × Int32 × Int32 × (Nat → Int32) × (Nat → Int32) × (Nat → Int32) × (Nat → Int32) × (Nat → Int64)) :=
  (f_X10_isWithin x1 (0 : Int32) (12 : Int32)).bind (fun u1 =>
  if u1 = 0 then
  some ((-1000000000000000002 : Int64), v_census_least, v_census_most, v_census_known, v_sets_size, v_sets_places, v_sets_filled, v_sets_open, v_sets_chance, v_census_wholeSets, v_census_orders)
  else
  (f_X10_isWithin x2 (0 : Int32) (1 : Int32)).bind (fun u3 =>
  if u3 = 0 then
  some ((-1000000000000000002 : Int64), v_census_least, v_census_most, v_census_known, v_sets_size, v_sets_places, v_sets_filled, v_sets_open, v_sets_chance, v_census_wholeSets, v_census_orders)
  else
  (f_X1_take v_census_least v_census_most v_census_known v_scene_seats v_sets_size v_sets_places v_sets_filled v_sets_open v_bench_clash v_sets_chance v_census_wholeSets v_census_orders).bind (fun u5 =>
  (aget 13 u5.2.2.2.2.2.2.2.2.2 x1).bind (fun u6 =>
  (f_X10_lowestPart u6 (479001600 : Int64) x2).bind (fun u7 =>
  some (u7, u5.1, u5.2.1, u5.2.2.1, u5.2.2.2.1, u5.2.2.2.2.1, u5.2.2.2.2.2.1, u5.2.2.2.2.2.2.1, u5.2.2.2.2.2.2.2.1, u5.2.2.2.2.2.2.2.2.1, u5.2.2.2.2.2.2.2.2.2))))))
set_option maxHeartbeats 4000000 in
set_option maxRecDepth 100000 in
theorem c_X10_odds (l : Launch) (D : va_G) (cI cJ cZ cO : ClassId) (a_t a_pad a_scene a_images a_bench a_trial a_sitters a_trialSitters a_sets a_census a_match a_couples a_passing a_longRows a_census_wholeSets a_census_orders a_bench_apart a_bench_clash a_bench_neighbours a_scene_steps a_scene_worths a_scene_comers a_scene_seen a_scene_seenLengths a_sets_filled a_sets_open a_sets_chance : Nat) (v_census_least : Int32) (v_census_most : Int32) (v_census_known : Int32) (v_scene_seats : Int32) (v_scene_bear : Int32) (v_scene_comerCount : Int32) (v_scene_seenRows : Int32) (v_sets_size : Int32) (v_sets_places : Int32) (v_sets_filled : Nat → Int32) (v_sets_open : Nat → Int32) (v_bench_clash : Nat → Int32) (v_sets_chance : Nat → Int32) (v_census_wholeSets : Nat → Int32) (v_census_orders : Nat → Int64) (x1 : Int32) (x2 : Int32) (out : Int64 × Int32 × Int32 × Int32 × Int32 × Int32 × (Nat → Int32) × (Nat → Int32) × (Nat → Int32) × (Nat → Int32) × (Nat → Int64)) (hf : f_X10_odds v_census_least v_census_most v_census_known v_scene_seats v_sets_size v_sets_places v_sets_filled v_sets_open v_bench_clash v_sets_chance v_census_wholeSets v_census_orders x1 x2 = some out) : MetR l yX10_odds (Cond.code yX10_odds cX10_odds 3 (some .long) :: tbG) { frames := 3, cells := 0, slots := 0, locals := 67 } D (tyL cI cJ cZ cO) [.ref a_t, .int x1, .int x2] [(a_t, .inr (10, [.ref a_pad, .ref a_scene, .ref a_images, .ref a_bench, .ref a_trial, .ref a_sitters, .ref a_trialSitters, .ref a_sets, .ref a_census, .ref a_match, .ref a_couples, .ref a_passing, .ref a_longRows])), (a_census, .inr (1, [.ref a_census_wholeSets, .ref a_census_orders, .int v_census_least, .int v_census_most, .int v_census_known])), (a_bench, .inr (0, [.ref a_scene, .ref a_bench_apart, .ref a_bench_clash, .ref a_bench_neighbours])), (a_scene, .inr (7, [.ref a_scene_steps, .ref a_scene_worths, .ref a_scene_comers, .ref a_scene_seen, .ref a_scene_seenLengths, .int v_scene_seats, .int v_scene_bear, .int v_scene_comerCount, .int v_scene_seenRows])), (a_sets, .inr (8, [.ref a_sets_filled, .ref a_sets_open, .ref a_sets_chance, .int v_sets_size, .int v_sets_places])), (a_sets_filled, eI cI 4096 v_sets_filled), (a_sets_open, eI cI 4096 v_sets_open), (a_bench_clash, eI cI 12 v_bench_clash), (a_sets_chance, eI cI 4096 v_sets_chance), (a_census_wholeSets, eI cI 13 v_census_wholeSets), (a_census_orders, eJ cJ 13 v_census_orders)] (some (.long out.1)) [(a_t, .inr (10, [.ref a_pad, .ref a_scene, .ref a_images, .ref a_bench, .ref a_trial, .ref a_sitters, .ref a_trialSitters, .ref a_sets, .ref a_census, .ref a_match, .ref a_couples, .ref a_passing, .ref a_longRows])), (a_census, .inr (1, [.ref a_census_wholeSets, .ref a_census_orders, .int out.2.1, .int out.2.2.1, .int out.2.2.2.1])), (a_bench, .inr (0, [.ref a_scene, .ref a_bench_apart, .ref a_bench_clash, .ref a_bench_neighbours])), (a_scene, .inr (7, [.ref a_scene_steps, .ref a_scene_worths, .ref a_scene_comers, .ref a_scene_seen, .ref a_scene_seenLengths, .int v_scene_seats, .int v_scene_bear, .int v_scene_comerCount, .int v_scene_seenRows])), (a_sets, .inr (8, [.ref a_sets_filled, .ref a_sets_open, .ref a_sets_chance, .int out.2.2.2.2.1, .int out.2.2.2.2.2.1])), (a_sets_filled, eI cI 4096 out.2.2.2.2.2.2.1), (a_sets_open, eI cI 4096 out.2.2.2.2.2.2.2.1), (a_bench_clash, eI cI 12 v_bench_clash), (a_sets_chance, eI cI 4096 out.2.2.2.2.2.2.2.2.1), (a_census_wholeSets, eI cI 13 out.2.2.2.2.2.2.2.2.2.1), (a_census_orders, eJ cJ 13 out.2.2.2.2.2.2.2.2.2.2)] := by
  refine ba_ofL RX10 [(0, .ref a_t), (1, .int x1), (2, .int x2)] (by decide +kernel) rfl (Nat.le_of_ble_eq_true rfl) rfl ?_
  intro p e s m args below meth c Q A Cx hP ret ls hl
  obtain ⟨⟨hx, hb, hml, hown, hts⟩, hK, hD, hA⟩ := id Cx
  have hS : va_S A s.heap s.heap [] := va_S.rf
  unfold f_X10_odds at hf
  refine lv_iload_n hx hb dX10_odds_0 rfl (lv_at hl 1 rfl) ?_
  refine lv_iconst (v := 0) hx hb dX10_odds_1 (by decide) ?_
  refine lv_bipush (v := 12) hx hb dX10_odds_2 (by decide) ?_
  obtain ⟨u1, hu1, hf⟩ := ob_b hf
  refine iv_X10_99 (As := [.int x1, .int (0 : Int32), .int (12 : Int32)]) (rest := []) (is := []) (X' := [(a_t, .inr (10, [.ref a_pad, .ref a_scene, .ref a_images, .ref a_bench, .ref a_trial, .ref a_sitters, .ref a_trialSitters, .ref a_sets, .ref a_census, .ref a_match, .ref a_couples, .ref a_passing, .ref a_longRows])), (a_census, .inr (1, [.ref a_census_wholeSets, .ref a_census_orders, .int v_census_least, .int v_census_most, .int v_census_known])), (a_bench, .inr (0, [.ref a_scene, .ref a_bench_apart, .ref a_bench_clash, .ref a_bench_neighbours])), (a_scene, .inr (7, [.ref a_scene_steps, .ref a_scene_worths, .ref a_scene_comers, .ref a_scene_seen, .ref a_scene_seenLengths, .int v_scene_seats, .int v_scene_bear, .int v_scene_comerCount, .int v_scene_seenRows])), (a_sets, .inr (8, [.ref a_sets_filled, .ref a_sets_open, .ref a_sets_chance, .int v_sets_size, .int v_sets_places])), (a_sets_filled, eI cI 4096 v_sets_filled), (a_sets_open, eI cI 4096 v_sets_open), (a_bench_clash, eI cI 12 v_bench_clash), (a_sets_chance, eI cI 4096 v_sets_chance), (a_census_wholeSets, eI cI 13 v_census_wholeSets), (a_census_orders, eJ cJ 13 v_census_orders)]) Cx (c_X10_isWithin l D cI cJ cZ cO  x1 (0 : Int32) (12 : Int32) u1 hu1) hP hS rfl rfl rfl rfl rfl rfl hl.1 (Nat.le_of_ble_eq_true rfl) dX10_odds_4 rfl rfl ⟨Nat.le_of_ble_eq_true rfl, Nat.le_of_ble_eq_true rfl⟩ ⟨Nat.zero_le _, Nat.zero_le _⟩ rfl (fun H locs hP hS => ?_)
  refine lv_if_eq (tgt := 19) hx hb dX10_odds_7 (by decide) (fun c2 => ?_) (fun c2 => ?_)
  · have hf := ob_t c2 hf
    refine lv_ldc2 hx hb hown (hts _ kw_491) dX10_odds_19 ?_
    obtain rfl := Option.some.inj hf
    exact ret _ _ _ _ dX10_odds_22 hP hS
  · have hf := ob_f c2 hf
    refine lv_iload_n hx hb dX10_odds_10 rfl (lv_at hl 2 rfl) ?_
    refine lv_iconst (v := 0) hx hb dX10_odds_11 (by decide) ?_
    refine lv_iconst (v := 1) hx hb dX10_odds_12 (by decide) ?_
    obtain ⟨u3, hu3, hf⟩ := ob_b hf
    refine iv_X10_99 (As := [.int x2, .int (0 : Int32), .int (1 : Int32)]) (rest := []) (is := []) (X' := [(a_t, .inr (10, [.ref a_pad, .ref a_scene, .ref a_images, .ref a_bench, .ref a_trial, .ref a_sitters, .ref a_trialSitters, .ref a_sets, .ref a_census, .ref a_match, .ref a_couples, .ref a_passing, .ref a_longRows])), (a_census, .inr (1, [.ref a_census_wholeSets, .ref a_census_orders, .int v_census_least, .int v_census_most, .int v_census_known])), (a_bench, .inr (0, [.ref a_scene, .ref a_bench_apart, .ref a_bench_clash, .ref a_bench_neighbours])), (a_scene, .inr (7, [.ref a_scene_steps, .ref a_scene_worths, .ref a_scene_comers, .ref a_scene_seen, .ref a_scene_seenLengths, .int v_scene_seats, .int v_scene_bear, .int v_scene_comerCount, .int v_scene_seenRows])), (a_sets, .inr (8, [.ref a_sets_filled, .ref a_sets_open, .ref a_sets_chance, .int v_sets_size, .int v_sets_places])), (a_sets_filled, eI cI 4096 v_sets_filled), (a_sets_open, eI cI 4096 v_sets_open), (a_bench_clash, eI cI 12 v_bench_clash), (a_sets_chance, eI cI 4096 v_sets_chance), (a_census_wholeSets, eI cI 13 v_census_wholeSets), (a_census_orders, eJ cJ 13 v_census_orders)]) Cx (c_X10_isWithin l D cI cJ cZ cO  x2 (0 : Int32) (1 : Int32) u3 hu3) hP hS rfl rfl rfl rfl rfl rfl hl.1 (Nat.le_of_ble_eq_true rfl) dX10_odds_13 rfl rfl ⟨Nat.le_of_ble_eq_true rfl, Nat.le_of_ble_eq_true rfl⟩ ⟨Nat.zero_le _, Nat.zero_le _⟩ rfl (fun H locs hP hS => ?_)
    refine lv_if_ne (tgt := 23) hx hb dX10_odds_16 (by decide) (fun c4 => ?_) (fun c4 => ?_)
    · have hf := ob_f c4 hf
      refine lv_aload_n hx hb dX10_odds_23 rfl (lv_at hl 0 rfl) ?_
      refine gf_X10_61 Cx hP 0 rfl rfl dX10_odds_24 ?_
      refine lv_aload_n hx hb dX10_odds_27 rfl (lv_at hl 0 rfl) ?_
      refine gf_X10_32 Cx hP 0 rfl rfl dX10_odds_28 ?_
      refine lv_aload_n hx hb dX10_odds_31 rfl (lv_at hl 0 rfl) ?_
      refine gf_X10_54 Cx hP 0 rfl rfl dX10_odds_32 ?_
      obtain ⟨u5, hu5, hf⟩ := ob_b hf
      refine iv_X10_170 (As := [.ref a_bench, .ref a_sets]) (rest := []) (is := [1, 2, 3, 4, 5, 6, 7, 8, 9, 10]) (q0 := 1) (X' := [(a_t, .inr (10, [.ref a_pad, .ref a_scene, .ref a_images, .ref a_bench, .ref a_trial, .ref a_sitters, .ref a_trialSitters, .ref a_sets, .ref a_census, .ref a_match, .ref a_couples, .ref a_passing, .ref a_longRows])), (a_census, .inr (1, [.ref a_census_wholeSets, .ref a_census_orders, .int u5.1, .int u5.2.1, .int u5.2.2.1])), (a_bench, .inr (0, [.ref a_scene, .ref a_bench_apart, .ref a_bench_clash, .ref a_bench_neighbours])), (a_scene, .inr (7, [.ref a_scene_steps, .ref a_scene_worths, .ref a_scene_comers, .ref a_scene_seen, .ref a_scene_seenLengths, .int v_scene_seats, .int v_scene_bear, .int v_scene_comerCount, .int v_scene_seenRows])), (a_sets, .inr (8, [.ref a_sets_filled, .ref a_sets_open, .ref a_sets_chance, .int u5.2.2.2.1, .int u5.2.2.2.2.1])), (a_sets_filled, eI cI 4096 u5.2.2.2.2.2.1), (a_sets_open, eI cI 4096 u5.2.2.2.2.2.2.1), (a_bench_clash, eI cI 12 v_bench_clash), (a_sets_chance, eI cI 4096 u5.2.2.2.2.2.2.2.1), (a_census_wholeSets, eI cI 13 u5.2.2.2.2.2.2.2.2.1), (a_census_orders, eJ cJ 13 u5.2.2.2.2.2.2.2.2.2)]) Cx (c_X1_take l D cI cJ cZ cO a_census a_census_wholeSets a_census_orders a_bench a_scene a_bench_apart a_bench_clash a_bench_neighbours a_scene_steps a_scene_worths a_scene_comers a_scene_seen a_scene_seenLengths a_sets a_sets_filled a_sets_open a_sets_chance v_census_least v_census_most v_census_known v_scene_seats v_scene_bear v_scene_comerCount v_scene_seenRows v_sets_size v_sets_places v_sets_filled v_sets_open v_bench_clash v_sets_chance v_census_wholeSets v_census_orders u5 hu5) hP hS rfl rfl rfl rfl rfl rfl rfl hl.1 (Nat.le_of_ble_eq_true rfl) dX10_odds_35 rfl rfl ⟨Nat.le_of_ble_eq_true rfl, Nat.le_of_ble_eq_true rfl⟩ ⟨Nat.zero_le _, Nat.zero_le _⟩ rfl (fun H locs hP hS => ?_)
      refine lv_aload_n hx hb dX10_odds_38 rfl (lv_at hl 0 rfl) ?_
      refine gf_X10_61 Cx hP 0 rfl rfl dX10_odds_39 ?_
      refine gf_X10_200 Cx hP 1 rfl rfl dX10_odds_42 ?_
      refine lv_iload_n hx hb dX10_odds_45 rfl (lv_at hl 1 rfl) ?_
      obtain ⟨u6, hu6, hf⟩ := ob_b hf
      refine ba_lald Cx hP 10 rfl hu6 dX10_odds_46 ?_
      refine lv_ldc2 hx hb hown (hts _ kw_496) dX10_odds_47 ?_
      refine lv_iload_n hx hb dX10_odds_50 rfl (lv_at hl 2 rfl) ?_
      obtain ⟨u7, hu7, hf⟩ := ob_b hf
      refine iv_X10_196 (As := [.long u6, .long (479001600 : Int64), .int x2]) (rest := []) (is := []) (X' := [(a_t, .inr (10, [.ref a_pad, .ref a_scene, .ref a_images, .ref a_bench, .ref a_trial, .ref a_sitters, .ref a_trialSitters, .ref a_sets, .ref a_census, .ref a_match, .ref a_couples, .ref a_passing, .ref a_longRows])), (a_census, .inr (1, [.ref a_census_wholeSets, .ref a_census_orders, .int u5.1, .int u5.2.1, .int u5.2.2.1])), (a_bench, .inr (0, [.ref a_scene, .ref a_bench_apart, .ref a_bench_clash, .ref a_bench_neighbours])), (a_scene, .inr (7, [.ref a_scene_steps, .ref a_scene_worths, .ref a_scene_comers, .ref a_scene_seen, .ref a_scene_seenLengths, .int v_scene_seats, .int v_scene_bear, .int v_scene_comerCount, .int v_scene_seenRows])), (a_sets, .inr (8, [.ref a_sets_filled, .ref a_sets_open, .ref a_sets_chance, .int u5.2.2.2.1, .int u5.2.2.2.2.1])), (a_sets_filled, eI cI 4096 u5.2.2.2.2.2.1), (a_sets_open, eI cI 4096 u5.2.2.2.2.2.2.1), (a_bench_clash, eI cI 12 v_bench_clash), (a_sets_chance, eI cI 4096 u5.2.2.2.2.2.2.2.1), (a_census_wholeSets, eI cI 13 u5.2.2.2.2.2.2.2.2.1), (a_census_orders, eJ cJ 13 u5.2.2.2.2.2.2.2.2.2)]) Cx (c_X10_lowestPart l D cI cJ cZ cO  u6 (479001600 : Int64) x2 u7 hu7) hP hS rfl rfl rfl rfl rfl rfl hl.1 (Nat.le_of_ble_eq_true rfl) dX10_odds_51 rfl rfl ⟨Nat.le_of_ble_eq_true rfl, Nat.le_of_ble_eq_true rfl⟩ ⟨Nat.zero_le _, Nat.zero_le _⟩ rfl (fun H locs hP hS => ?_)
      obtain rfl := Option.some.inj hf
      exact ret _ _ _ _ dX10_odds_54 hP hS
    · have hf := ob_t c4 hf
      refine lv_ldc2 hx hb hown (hts _ kw_491) dX10_odds_19 ?_
      obtain rfl := Option.some.inj hf
      exact ret _ _ _ _ dX10_odds_22 hP hS

def f_X10_comeInAfter (v_scene_seats : Int32) (v_scene_bear : Int32) (v_sitters_nearest : Nat → Int32) (v_bench_apart : Nat → Int32) (v_scene_worths : Nat → Int32) (v_bench_neighbours : Nat → Int32) (x1 : Int32) (x2 : Int32) : Option (Int32 × Int32 × Int32 × (Nat → Int32)) :=
  (f_X9_leave v_scene_bear v_sitters_nearest).bind (fun u1 =>
  (f_X9_sit u1.1 v_scene_seats u1.2.2 v_bench_apart x1).bind (fun u2 =>
  (f_X9_fillUp u2.1 u1.2.1 v_scene_seats u2.2 v_scene_worths v_bench_neighbours v_bench_apart x2).bind (fun u3 =>
  (f_X9_number u3.1).bind (fun u4 =>
  some (u4, u3.1, u1.2.1, u3.2)))))
set_option maxHeartbeats 4000000 in
set_option maxRecDepth 100000 in
theorem c_X10_comeInAfter (l : Launch) (D : va_G) (cI cJ cZ cO : ClassId) (a_t a_pad a_scene a_images a_bench a_trial a_sitters a_trialSitters a_sets a_census a_match a_couples a_passing a_longRows a_sitters_nearest a_bench_apart a_bench_clash a_bench_neighbours a_scene_steps a_scene_worths a_scene_comers a_scene_seen a_scene_seenLengths : Nat) (v_sitters_set : Int32) (v_sitters_bear : Int32) (v_scene_seats : Int32) (v_scene_bear : Int32) (v_scene_comerCount : Int32) (v_scene_seenRows : Int32) (v_sitters_nearest : Nat → Int32) (v_bench_apart : Nat → Int32) (v_scene_worths : Nat → Int32) (v_bench_neighbours : Nat → Int32) (x1 : Int32) (x2 : Int32) (out : Int32 × Int32 × Int32 × (Nat → Int32)) (hf : f_X10_comeInAfter v_scene_seats v_scene_bear v_sitters_nearest v_bench_apart v_scene_worths v_bench_neighbours x1 x2 = some out) : MetR l yX10_comeInAfter (Cond.code yX10_comeInAfter cX10_comeInAfter 3 (some .int) :: tbG) { frames := 3, cells := 0, slots := 0, locals := 70 } D (tyL cI cJ cZ cO) [.ref a_t, .int x1, .int x2] [(a_t, .inr (10, [.ref a_pad, .ref a_scene, .ref a_images, .ref a_bench, .ref a_trial, .ref a_sitters, .ref a_trialSitters, .ref a_sets, .ref a_census, .ref a_match, .ref a_couples, .ref a_passing, .ref a_longRows])), (a_sitters, .inr (9, [.ref a_bench, .ref a_sitters_nearest, .int v_sitters_set, .int v_sitters_bear])), (a_bench, .inr (0, [.ref a_scene, .ref a_bench_apart, .ref a_bench_clash, .ref a_bench_neighbours])), (a_scene, .inr (7, [.ref a_scene_steps, .ref a_scene_worths, .ref a_scene_comers, .ref a_scene_seen, .ref a_scene_seenLengths, .int v_scene_seats, .int v_scene_bear, .int v_scene_comerCount, .int v_scene_seenRows])), (a_sitters_nearest, eI cI 12 v_sitters_nearest), (a_bench_apart, eI cI 144 v_bench_apart), (a_scene_worths, eI cI 12 v_scene_worths), (a_bench_neighbours, eI cI 12 v_bench_neighbours)] (some (.int out.1)) [(a_t, .inr (10, [.ref a_pad, .ref a_scene, .ref a_images, .ref a_bench, .ref a_trial, .ref a_sitters, .ref a_trialSitters, .ref a_sets, .ref a_census, .ref a_match, .ref a_couples, .ref a_passing, .ref a_longRows])), (a_sitters, .inr (9, [.ref a_bench, .ref a_sitters_nearest, .int out.2.1, .int out.2.2.1])), (a_bench, .inr (0, [.ref a_scene, .ref a_bench_apart, .ref a_bench_clash, .ref a_bench_neighbours])), (a_scene, .inr (7, [.ref a_scene_steps, .ref a_scene_worths, .ref a_scene_comers, .ref a_scene_seen, .ref a_scene_seenLengths, .int v_scene_seats, .int v_scene_bear, .int v_scene_comerCount, .int v_scene_seenRows])), (a_sitters_nearest, eI cI 12 out.2.2.2), (a_bench_apart, eI cI 144 v_bench_apart), (a_scene_worths, eI cI 12 v_scene_worths), (a_bench_neighbours, eI cI 12 v_bench_neighbours)] := by
  refine ba_ofI RX10 [(0, .ref a_t), (1, .int x1), (2, .int x2)] (by decide +kernel) rfl (Nat.le_of_ble_eq_true rfl) rfl ?_
  intro p e s m args below meth c Q A Cx hP ret ls hl
  obtain ⟨⟨hx, hb, hml, hown, hts⟩, hK, hD, hA⟩ := id Cx
  have hS : va_S A s.heap s.heap [] := va_S.rf
  unfold f_X10_comeInAfter at hf
  refine lv_aload_n hx hb dX10_comeInAfter_0 rfl (lv_at hl 0 rfl) ?_
  refine gf_X10_44 Cx hP 0 rfl rfl dX10_comeInAfter_1 ?_
  obtain ⟨u1, hu1, hf⟩ := ob_b hf
  refine iv_X10_228 (As := []) (rest := []) (is := [1, 2, 3, 4]) (q0 := 1) (X' := [(a_t, .inr (10, [.ref a_pad, .ref a_scene, .ref a_images, .ref a_bench, .ref a_trial, .ref a_sitters, .ref a_trialSitters, .ref a_sets, .ref a_census, .ref a_match, .ref a_couples, .ref a_passing, .ref a_longRows])), (a_sitters, .inr (9, [.ref a_bench, .ref a_sitters_nearest, .int u1.1, .int u1.2.1])), (a_bench, .inr (0, [.ref a_scene, .ref a_bench_apart, .ref a_bench_clash, .ref a_bench_neighbours])), (a_scene, .inr (7, [.ref a_scene_steps, .ref a_scene_worths, .ref a_scene_comers, .ref a_scene_seen, .ref a_scene_seenLengths, .int v_scene_seats, .int v_scene_bear, .int v_scene_comerCount, .int v_scene_seenRows])), (a_sitters_nearest, eI cI 12 u1.2.2), (a_bench_apart, eI cI 144 v_bench_apart), (a_scene_worths, eI cI 12 v_scene_worths), (a_bench_neighbours, eI cI 12 v_bench_neighbours)]) Cx (c_X9_leave l D cI cJ cZ cO a_sitters a_bench a_sitters_nearest a_scene a_bench_apart a_bench_clash a_bench_neighbours a_scene_steps a_scene_worths a_scene_comers a_scene_seen a_scene_seenLengths v_sitters_set v_sitters_bear v_scene_seats v_scene_bear v_scene_comerCount v_scene_seenRows v_sitters_nearest u1 hu1) hP hS rfl rfl rfl rfl rfl rfl rfl hl.1 (Nat.le_of_ble_eq_true rfl) dX10_comeInAfter_4 rfl rfl ⟨Nat.le_of_ble_eq_true rfl, Nat.le_of_ble_eq_true rfl⟩ ⟨Nat.zero_le _, Nat.zero_le _⟩ rfl (fun H locs hP hS => ?_)
  refine lv_aload_n hx hb dX10_comeInAfter_7 rfl (lv_at hl 0 rfl) ?_
  refine gf_X10_44 Cx hP 0 rfl rfl dX10_comeInAfter_8 ?_
  refine lv_iload_n hx hb dX10_comeInAfter_11 rfl (lv_at hl 1 rfl) ?_
  obtain ⟨u2, hu2, hf⟩ := ob_b hf
  refine iv_X10_266 (As := [.int x1]) (rest := []) (is := [1, 2, 3, 4, 5]) (q0 := 1) (X' := [(a_t, .inr (10, [.ref a_pad, .ref a_scene, .ref a_images, .ref a_bench, .ref a_trial, .ref a_sitters, .ref a_trialSitters, .ref a_sets, .ref a_census, .ref a_match, .ref a_couples, .ref a_passing, .ref a_longRows])), (a_sitters, .inr (9, [.ref a_bench, .ref a_sitters_nearest, .int u2.1, .int u1.2.1])), (a_bench, .inr (0, [.ref a_scene, .ref a_bench_apart, .ref a_bench_clash, .ref a_bench_neighbours])), (a_scene, .inr (7, [.ref a_scene_steps, .ref a_scene_worths, .ref a_scene_comers, .ref a_scene_seen, .ref a_scene_seenLengths, .int v_scene_seats, .int v_scene_bear, .int v_scene_comerCount, .int v_scene_seenRows])), (a_sitters_nearest, eI cI 12 u2.2), (a_bench_apart, eI cI 144 v_bench_apart), (a_scene_worths, eI cI 12 v_scene_worths), (a_bench_neighbours, eI cI 12 v_bench_neighbours)]) Cx (c_X9_sit l D cI cJ cZ cO a_sitters a_bench a_sitters_nearest a_scene a_bench_apart a_bench_clash a_bench_neighbours a_scene_steps a_scene_worths a_scene_comers a_scene_seen a_scene_seenLengths u1.1 u1.2.1 v_scene_seats v_scene_bear v_scene_comerCount v_scene_seenRows u1.2.2 v_bench_apart x1 u2 hu2) hP hS rfl rfl rfl rfl rfl rfl rfl hl.1 (Nat.le_of_ble_eq_true rfl) dX10_comeInAfter_12 rfl rfl ⟨Nat.le_of_ble_eq_true rfl, Nat.le_of_ble_eq_true rfl⟩ ⟨Nat.zero_le _, Nat.zero_le _⟩ rfl (fun H locs hP hS => ?_)
  refine lv_aload_n hx hb dX10_comeInAfter_15 rfl (lv_at hl 0 rfl) ?_
  refine gf_X10_44 Cx hP 0 rfl rfl dX10_comeInAfter_16 ?_
  refine lv_iload_n hx hb dX10_comeInAfter_19 rfl (lv_at hl 2 rfl) ?_
  obtain ⟨u3, hu3, hf⟩ := ob_b hf
  refine iv_X10_164 (As := [.int x2]) (rest := []) (is := [1, 2, 3, 4, 6, 7, 5]) (q0 := 1) (X' := [(a_t, .inr (10, [.ref a_pad, .ref a_scene, .ref a_images, .ref a_bench, .ref a_trial, .ref a_sitters, .ref a_trialSitters, .ref a_sets, .ref a_census, .ref a_match, .ref a_couples, .ref a_passing, .ref a_longRows])), (a_sitters, .inr (9, [.ref a_bench, .ref a_sitters_nearest, .int u3.1, .int u1.2.1])), (a_bench, .inr (0, [.ref a_scene, .ref a_bench_apart, .ref a_bench_clash, .ref a_bench_neighbours])), (a_scene, .inr (7, [.ref a_scene_steps, .ref a_scene_worths, .ref a_scene_comers, .ref a_scene_seen, .ref a_scene_seenLengths, .int v_scene_seats, .int v_scene_bear, .int v_scene_comerCount, .int v_scene_seenRows])), (a_sitters_nearest, eI cI 12 u3.2), (a_bench_apart, eI cI 144 v_bench_apart), (a_scene_worths, eI cI 12 v_scene_worths), (a_bench_neighbours, eI cI 12 v_bench_neighbours)]) Cx (c_X9_fillUp l D cI cJ cZ cO a_sitters a_bench a_sitters_nearest a_scene a_bench_apart a_bench_clash a_bench_neighbours a_scene_steps a_scene_worths a_scene_comers a_scene_seen a_scene_seenLengths u2.1 u1.2.1 v_scene_seats v_scene_bear v_scene_comerCount v_scene_seenRows u2.2 v_scene_worths v_bench_neighbours v_bench_apart x2 u3 hu3) hP hS rfl rfl rfl rfl rfl rfl rfl hl.1 (Nat.le_of_ble_eq_true rfl) dX10_comeInAfter_20 rfl rfl ⟨Nat.le_of_ble_eq_true rfl, Nat.le_of_ble_eq_true rfl⟩ ⟨Nat.zero_le _, Nat.zero_le _⟩ rfl (fun H locs hP hS => ?_)
  refine lv_aload_n hx hb dX10_comeInAfter_23 rfl (lv_at hl 0 rfl) ?_
  refine gf_X10_44 Cx hP 0 rfl rfl dX10_comeInAfter_24 ?_
  obtain ⟨u4, hu4, hf⟩ := ob_b hf
  refine iv_X10_232 (As := []) (rest := []) (is := [1]) (q0 := 1) (X' := [(a_t, .inr (10, [.ref a_pad, .ref a_scene, .ref a_images, .ref a_bench, .ref a_trial, .ref a_sitters, .ref a_trialSitters, .ref a_sets, .ref a_census, .ref a_match, .ref a_couples, .ref a_passing, .ref a_longRows])), (a_sitters, .inr (9, [.ref a_bench, .ref a_sitters_nearest, .int u3.1, .int u1.2.1])), (a_bench, .inr (0, [.ref a_scene, .ref a_bench_apart, .ref a_bench_clash, .ref a_bench_neighbours])), (a_scene, .inr (7, [.ref a_scene_steps, .ref a_scene_worths, .ref a_scene_comers, .ref a_scene_seen, .ref a_scene_seenLengths, .int v_scene_seats, .int v_scene_bear, .int v_scene_comerCount, .int v_scene_seenRows])), (a_sitters_nearest, eI cI 12 u3.2), (a_bench_apart, eI cI 144 v_bench_apart), (a_scene_worths, eI cI 12 v_scene_worths), (a_bench_neighbours, eI cI 12 v_bench_neighbours)]) Cx (c_X9_number l D cI cJ cZ cO a_sitters a_bench a_sitters_nearest u3.1 u1.2.1 u4 hu4) hP hS rfl rfl rfl rfl rfl rfl rfl hl.1 (Nat.le_of_ble_eq_true rfl) dX10_comeInAfter_27 rfl rfl ⟨Nat.le_of_ble_eq_true rfl, Nat.le_of_ble_eq_true rfl⟩ ⟨Nat.zero_le _, Nat.zero_le _⟩ rfl (fun H locs hP hS => ?_)
  obtain rfl := Option.some.inj hf
  exact ret _ _ _ _ dX10_comeInAfter_30 hP hS

def f_X10_first_48 (v_scene_seats : Int32) (v_scene_bear : Int32) (v_bench_apart : Nat → Int32) (v_scene_worths : Nat → Int32) (v_bench_neighbours : Nat → Int32) (x1 : Int32) (w5 : Int32) : Nat → Int32 → Int32 → Int32 → Int32 → Int32 → (Nat → Int32) → Option (Int32 × Int32 × Int32 × Int32 × (Nat → Int32))
  | 0, _, _, _, _, _, _ => none
  | n + 1, y4_48, y5_48, y6_48, z_sitters_set_48, z_sitters_bear_48, z_sitters_nearest_48 =>
  if v_scene_seats ≤ y6_48 then
  some (y4_48, y5_48, z_sitters_set_48, z_sitters_bear_48, z_sitters_nearest_48)
  else
  (f_X10_comeInAfter v_scene_seats v_scene_bear z_sitters_nearest_48 v_bench_apart v_scene_worths v_bench_neighbours y6_48 x1).bind (fun u10 =>
  (if w5 = 0 then
  if y5_48 ≤ u10.1 then
  some (y4_48, y5_48)
  else
  some (y6_48, u10.1)
  else
  if u10.1 ≤ y5_48 then
  some (y4_48, y5_48)
  else
  some (y6_48, u10.1)).bind (fun w11 =>
  f_X10_first_48 v_scene_seats v_scene_bear v_bench_apart v_scene_worths v_bench_neighbours x1 w5 n w11.1 w11.2 (y6_48 + 1) u10.2.1 u10.2.2.1 u10.2.2.2))
theorem f_X10_first_48_s (v_scene_seats : Int32) (v_scene_bear : Int32) (v_bench_apart : Nat → Int32) (v_scene_worths : Nat → Int32) (v_bench_neighbours : Nat → Int32) (x1 : Int32) (w5 : Int32) (n : Nat) (y4_48 : Int32) (y5_48 : Int32) (y6_48 : Int32) (z_sitters_set_48 : Int32) (z_sitters_bear_48 : Int32) (z_sitters_nearest_48 : Nat → Int32) : f_X10_first_48 v_scene_seats v_scene_bear v_bench_apart v_scene_worths v_bench_neighbours x1 w5 (n + 1) y4_48 y5_48 y6_48 z_sitters_set_48 z_sitters_bear_48 z_sitters_nearest_48 =
  (if v_scene_seats ≤ y6_48 then
  some (y4_48, y5_48, z_sitters_set_48, z_sitters_bear_48, z_sitters_nearest_48)
  else
  (f_X10_comeInAfter v_scene_seats v_scene_bear z_sitters_nearest_48 v_bench_apart v_scene_worths v_bench_neighbours y6_48 x1).bind (fun u10 =>
  (if w5 = 0 then
  if y5_48 ≤ u10.1 then
  some (y4_48, y5_48)
  else
  some (y6_48, u10.1)
  else
  if u10.1 ≤ y5_48 then
  some (y4_48, y5_48)
  else
  some (y6_48, u10.1)).bind (fun w11 =>
  f_X10_first_48 v_scene_seats v_scene_bear v_bench_apart v_scene_worths v_bench_neighbours x1 w5 n w11.1 w11.2 (y6_48 + 1) u10.2.1 u10.2.2.1 u10.2.2.2))) := rfl
def f_X10_first (v_sitters_set : Int32) (v_sitters_bear : Int32) (v_scene_seats : Int32) (v_scene_bear : Int32) (v_sitters_nearest : Nat → Int32) (v_bench_apart : Nat → Int32) (v_scene_worths : Nat → Int32) (v_bench_neighbours : Nat → Int32) (x1 : Int32) (x2 : Int32) : Option (Int32 × Int32 × Int32 × (Nat → Int32)) :=
  (f_X10_isHabit x1).bind (fun u1 =>
  if u1 = 0 then
  some ((-2 : Int32), v_sitters_set, v_sitters_bear, v_sitters_nearest)
  else
  (f_X10_isWithin x2 (0 : Int32) (3 : Int32)).bind (fun u3 =>
  if u3 = 0 then
  some ((-2 : Int32), v_sitters_set, v_sitters_bear, v_sitters_nearest)
  else
  (if x2 = 0 then
  some (1 : Int32)
  else
  if x2 = (2 : Int32) then
  some (1 : Int32)
  else
  some (0 : Int32)).bind (fun w5 =>
  (f_X10_comeInAfter v_scene_seats v_scene_bear v_sitters_nearest v_bench_apart v_scene_worths v_bench_neighbours (0 : Int32) x1).bind (fun u7 =>
  (f_X10_first_48 v_scene_seats v_scene_bear v_bench_apart v_scene_worths v_bench_neighbours x1 w5 FU (0 : Int32) u7.1 (1 : Int32) u7.2.1 u7.2.2.1 u7.2.2.2).bind (fun u16 =>
  (if (2 : Int32) ≤ x2 then
  some (u16.2.1)
  else
  some (u16.1)).bind (fun w17 =>
  some (w17, u16.2.2.1, u16.2.2.2.1, u16.2.2.2.2)))))))
set_option maxHeartbeats 4000000 in
set_option maxRecDepth 100000 in
theorem c_X10_first (l : Launch) (D : va_G) (cI cJ cZ cO : ClassId) (a_t a_pad a_scene a_images a_bench a_trial a_sitters a_trialSitters a_sets a_census a_match a_couples a_passing a_longRows a_sitters_nearest a_bench_apart a_bench_clash a_bench_neighbours a_scene_steps a_scene_worths a_scene_comers a_scene_seen a_scene_seenLengths : Nat) (v_sitters_set : Int32) (v_sitters_bear : Int32) (v_scene_seats : Int32) (v_scene_bear : Int32) (v_scene_comerCount : Int32) (v_scene_seenRows : Int32) (v_sitters_nearest : Nat → Int32) (v_bench_apart : Nat → Int32) (v_scene_worths : Nat → Int32) (v_bench_neighbours : Nat → Int32) (x1 : Int32) (x2 : Int32) (out : Int32 × Int32 × Int32 × (Nat → Int32)) (hf : f_X10_first v_sitters_set v_sitters_bear v_scene_seats v_scene_bear v_sitters_nearest v_bench_apart v_scene_worths v_bench_neighbours x1 x2 = some out) : MetR l yX10_first (Cond.code yX10_first cX10_first 8 (some .int) :: tbG) { frames := 4, cells := 0, slots := 0, locals := 92 } D (tyL cI cJ cZ cO) [.ref a_t, .int x1, .int x2] [(a_t, .inr (10, [.ref a_pad, .ref a_scene, .ref a_images, .ref a_bench, .ref a_trial, .ref a_sitters, .ref a_trialSitters, .ref a_sets, .ref a_census, .ref a_match, .ref a_couples, .ref a_passing, .ref a_longRows])), (a_sitters, .inr (9, [.ref a_bench, .ref a_sitters_nearest, .int v_sitters_set, .int v_sitters_bear])), (a_bench, .inr (0, [.ref a_scene, .ref a_bench_apart, .ref a_bench_clash, .ref a_bench_neighbours])), (a_scene, .inr (7, [.ref a_scene_steps, .ref a_scene_worths, .ref a_scene_comers, .ref a_scene_seen, .ref a_scene_seenLengths, .int v_scene_seats, .int v_scene_bear, .int v_scene_comerCount, .int v_scene_seenRows])), (a_sitters_nearest, eI cI 12 v_sitters_nearest), (a_bench_apart, eI cI 144 v_bench_apart), (a_scene_worths, eI cI 12 v_scene_worths), (a_bench_neighbours, eI cI 12 v_bench_neighbours)] (some (.int out.1)) [(a_t, .inr (10, [.ref a_pad, .ref a_scene, .ref a_images, .ref a_bench, .ref a_trial, .ref a_sitters, .ref a_trialSitters, .ref a_sets, .ref a_census, .ref a_match, .ref a_couples, .ref a_passing, .ref a_longRows])), (a_sitters, .inr (9, [.ref a_bench, .ref a_sitters_nearest, .int out.2.1, .int out.2.2.1])), (a_bench, .inr (0, [.ref a_scene, .ref a_bench_apart, .ref a_bench_clash, .ref a_bench_neighbours])), (a_scene, .inr (7, [.ref a_scene_steps, .ref a_scene_worths, .ref a_scene_comers, .ref a_scene_seen, .ref a_scene_seenLengths, .int v_scene_seats, .int v_scene_bear, .int v_scene_comerCount, .int v_scene_seenRows])), (a_sitters_nearest, eI cI 12 out.2.2.2), (a_bench_apart, eI cI 144 v_bench_apart), (a_scene_worths, eI cI 12 v_scene_worths), (a_bench_neighbours, eI cI 12 v_bench_neighbours)] := by
  refine ba_ofI RX10 [(0, .ref a_t), (1, .int x1), (2, .int x2)] (by decide +kernel) rfl (Nat.le_of_ble_eq_true rfl) rfl ?_
  intro p e s m args below meth c Q A Cx hP ret ls hl
  obtain ⟨⟨hx, hb, hml, hown, hts⟩, hK, hD, hA⟩ := id Cx
  have hS : va_S A s.heap s.heap [] := va_S.rf
  unfold f_X10_first at hf
  refine lv_iload_n hx hb dX10_first_0 rfl (lv_at hl 1 rfl) ?_
  obtain ⟨u1, hu1, hf⟩ := ob_b hf
  refine iv_X10_158 (As := [.int x1]) (rest := []) (is := []) (X' := [(a_t, .inr (10, [.ref a_pad, .ref a_scene, .ref a_images, .ref a_bench, .ref a_trial, .ref a_sitters, .ref a_trialSitters, .ref a_sets, .ref a_census, .ref a_match, .ref a_couples, .ref a_passing, .ref a_longRows])), (a_sitters, .inr (9, [.ref a_bench, .ref a_sitters_nearest, .int v_sitters_set, .int v_sitters_bear])), (a_bench, .inr (0, [.ref a_scene, .ref a_bench_apart, .ref a_bench_clash, .ref a_bench_neighbours])), (a_scene, .inr (7, [.ref a_scene_steps, .ref a_scene_worths, .ref a_scene_comers, .ref a_scene_seen, .ref a_scene_seenLengths, .int v_scene_seats, .int v_scene_bear, .int v_scene_comerCount, .int v_scene_seenRows])), (a_sitters_nearest, eI cI 12 v_sitters_nearest), (a_bench_apart, eI cI 144 v_bench_apart), (a_scene_worths, eI cI 12 v_scene_worths), (a_bench_neighbours, eI cI 12 v_bench_neighbours)]) Cx (c_X10_isHabit l D cI cJ cZ cO  x1 u1 hu1) hP hS rfl rfl rfl rfl rfl rfl hl.1 (Nat.le_of_ble_eq_true rfl) dX10_first_1 rfl rfl ⟨Nat.le_of_ble_eq_true rfl, Nat.le_of_ble_eq_true rfl⟩ ⟨Nat.zero_le _, Nat.zero_le _⟩ rfl (fun H locs hP hS => ?_)
  refine lv_if_eq (tgt := 16) hx hb dX10_first_4 (by decide) (fun c2 => ?_) (fun c2 => ?_)
  · have hf := ob_t c2 hf
    refine lv_bipush (v := (-2)) hx hb dX10_first_16 (by decide) ?_
    obtain rfl := Option.some.inj hf
    exact ret _ _ _ _ dX10_first_18 hP hS
  · have hf := ob_f c2 hf
    refine lv_iload_n hx hb dX10_first_7 rfl (lv_at hl 2 rfl) ?_
    refine lv_iconst (v := 0) hx hb dX10_first_8 (by decide) ?_
    refine lv_iconst (v := 3) hx hb dX10_first_9 (by decide) ?_
    obtain ⟨u3, hu3, hf⟩ := ob_b hf
    refine iv_X10_99 (As := [.int x2, .int (0 : Int32), .int (3 : Int32)]) (rest := []) (is := []) (X' := [(a_t, .inr (10, [.ref a_pad, .ref a_scene, .ref a_images, .ref a_bench, .ref a_trial, .ref a_sitters, .ref a_trialSitters, .ref a_sets, .ref a_census, .ref a_match, .ref a_couples, .ref a_passing, .ref a_longRows])), (a_sitters, .inr (9, [.ref a_bench, .ref a_sitters_nearest, .int v_sitters_set, .int v_sitters_bear])), (a_bench, .inr (0, [.ref a_scene, .ref a_bench_apart, .ref a_bench_clash, .ref a_bench_neighbours])), (a_scene, .inr (7, [.ref a_scene_steps, .ref a_scene_worths, .ref a_scene_comers, .ref a_scene_seen, .ref a_scene_seenLengths, .int v_scene_seats, .int v_scene_bear, .int v_scene_comerCount, .int v_scene_seenRows])), (a_sitters_nearest, eI cI 12 v_sitters_nearest), (a_bench_apart, eI cI 144 v_bench_apart), (a_scene_worths, eI cI 12 v_scene_worths), (a_bench_neighbours, eI cI 12 v_bench_neighbours)]) Cx (c_X10_isWithin l D cI cJ cZ cO  x2 (0 : Int32) (3 : Int32) u3 hu3) hP hS rfl rfl rfl rfl rfl rfl hl.1 (Nat.le_of_ble_eq_true rfl) dX10_first_10 rfl rfl ⟨Nat.le_of_ble_eq_true rfl, Nat.le_of_ble_eq_true rfl⟩ ⟨Nat.zero_le _, Nat.zero_le _⟩ rfl (fun H locs hP hS => ?_)
    refine lv_if_ne (tgt := 19) hx hb dX10_first_13 (by decide) (fun c4 => ?_) (fun c4 => ?_)
    · have hf := ob_f c4 hf
      refine lv_iload_n hx hb dX10_first_19 rfl (lv_at hl 2 rfl) ?_
      refine ob_J (P := fun w5 => ∀ (H : Heap) (locs : List Loc) (ls : Array Slot), va_P D vwCl [(a_t, .inr (10, [.ref a_pad, .ref a_scene, .ref a_images, .ref a_bench, .ref a_trial, .ref a_sitters, .ref a_trialSitters, .ref a_sets, .ref a_census, .ref a_match, .ref a_couples, .ref a_passing, .ref a_longRows])), (a_sitters, .inr (9, [.ref a_bench, .ref a_sitters_nearest, .int v_sitters_set, .int v_sitters_bear])), (a_bench, .inr (0, [.ref a_scene, .ref a_bench_apart, .ref a_bench_clash, .ref a_bench_neighbours])), (a_scene, .inr (7, [.ref a_scene_steps, .ref a_scene_worths, .ref a_scene_comers, .ref a_scene_seen, .ref a_scene_seenLengths, .int v_scene_seats, .int v_scene_bear, .int v_scene_comerCount, .int v_scene_seenRows])), (a_sitters_nearest, eI cI 12 v_sitters_nearest), (a_bench_apart, eI cI 144 v_bench_apart), (a_scene_worths, eI cI 12 v_scene_worths), (a_bench_neighbours, eI cI 12 v_bench_neighbours)] H → va_S A s.heap H locs → lv_has ls 8 [(0, .ref a_t), (1, .int x1), (2, .int x2)] → W p l e { frames := 4, cells := 0, slots := 0, locals := 92 } s m args below meth c H locs 0 0 Q (F0 m 33 ls [.int w5])) hf ?_ ?_
      · intro w5 hf H locs ls hP hS hl
        refine lv_istore_n (lv' := [(3, .int w5), (0, .ref a_t), (1, .int x1), (2, .int x2)]) hx hb dX10_first_33 rfl hl (by decide) rfl (fun ls hl => ?_)
        refine lv_iconst (v := 0) hx hb dX10_first_34 (by decide) ?_
        refine lv_istore (lv' := [(4, .int (0 : Int32)), (3, .int w5), (0, .ref a_t), (1, .int x1), (2, .int x2)]) hx hb dX10_first_35 hl (by decide) rfl (fun ls hl => ?_)
        refine lv_aload_n hx hb dX10_first_37 rfl (lv_at hl 2 rfl) ?_
        refine lv_iconst (v := 0) hx hb dX10_first_38 (by decide) ?_
        refine lv_iload_n hx hb dX10_first_39 rfl (lv_at hl 3 rfl) ?_
        obtain ⟨u7, hu7, hf⟩ := ob_b hf
        refine iv_X10_204 (As := [.int (0 : Int32), .int x1]) (rest := []) (is := [0, 1, 2, 3, 4, 5, 6, 7]) (q0 := 0) (X' := [(a_t, .inr (10, [.ref a_pad, .ref a_scene, .ref a_images, .ref a_bench, .ref a_trial, .ref a_sitters, .ref a_trialSitters, .ref a_sets, .ref a_census, .ref a_match, .ref a_couples, .ref a_passing, .ref a_longRows])), (a_sitters, .inr (9, [.ref a_bench, .ref a_sitters_nearest, .int u7.2.1, .int u7.2.2.1])), (a_bench, .inr (0, [.ref a_scene, .ref a_bench_apart, .ref a_bench_clash, .ref a_bench_neighbours])), (a_scene, .inr (7, [.ref a_scene_steps, .ref a_scene_worths, .ref a_scene_comers, .ref a_scene_seen, .ref a_scene_seenLengths, .int v_scene_seats, .int v_scene_bear, .int v_scene_comerCount, .int v_scene_seenRows])), (a_sitters_nearest, eI cI 12 u7.2.2.2), (a_bench_apart, eI cI 144 v_bench_apart), (a_scene_worths, eI cI 12 v_scene_worths), (a_bench_neighbours, eI cI 12 v_bench_neighbours)]) Cx (c_X10_comeInAfter l D cI cJ cZ cO a_t a_pad a_scene a_images a_bench a_trial a_sitters a_trialSitters a_sets a_census a_match a_couples a_passing a_longRows a_sitters_nearest a_bench_apart a_bench_clash a_bench_neighbours a_scene_steps a_scene_worths a_scene_comers a_scene_seen a_scene_seenLengths v_sitters_set v_sitters_bear v_scene_seats v_scene_bear v_scene_comerCount v_scene_seenRows v_sitters_nearest v_bench_apart v_scene_worths v_bench_neighbours (0 : Int32) x1 u7 hu7) hP hS rfl rfl rfl rfl rfl rfl rfl hl.1 (Nat.le_of_ble_eq_true rfl) dX10_first_40 rfl rfl ⟨Nat.le_of_ble_eq_true rfl, Nat.le_of_ble_eq_true rfl⟩ ⟨Nat.zero_le _, Nat.zero_le _⟩ rfl (fun H locs hP hS => ?_)
        refine lv_istore (lv' := [(5, .int u7.1), (4, .int (0 : Int32)), (3, .int w5), (0, .ref a_t), (1, .int x1), (2, .int x2)]) hx hb dX10_first_43 hl (by decide) rfl (fun ls hl => ?_)
        refine lv_iconst (v := 1) hx hb dX10_first_45 (by decide) ?_
        refine lv_istore (lv' := [(6, .int (1 : Int32)), (5, .int u7.1), (4, .int (0 : Int32)), (3, .int w5), (0, .ref a_t), (1, .int x1), (2, .int x2)]) hx hb dX10_first_46 hl (by decide) rfl (fun ls hl => ?_)
        have L48_8 : ∀ (n : Nat) (y4_48 : Int32) (y5_48 : Int32) (y6_48 : Int32) (z_sitters_set_48 : Int32) (z_sitters_bear_48 : Int32) (z_sitters_nearest_48 : Nat → Int32) (o : Int32 × Int32 × Int32 × Int32 × (Nat → Int32)) (H : Heap) (locs : List Loc) (ls : Array Slot), f_X10_first_48 v_scene_seats v_scene_bear v_bench_apart v_scene_worths v_bench_neighbours x1 w5 n y4_48 y5_48 y6_48 z_sitters_set_48 z_sitters_bear_48 z_sitters_nearest_48 = some o → va_P D vwCl [(a_t, .inr (10, [.ref a_pad, .ref a_scene, .ref a_images, .ref a_bench, .ref a_trial, .ref a_sitters, .ref a_trialSitters, .ref a_sets, .ref a_census, .ref a_match, .ref a_couples, .ref a_passing, .ref a_longRows])), (a_sitters, .inr (9, [.ref a_bench, .ref a_sitters_nearest, .int z_sitters_set_48, .int z_sitters_bear_48])), (a_bench, .inr (0, [.ref a_scene, .ref a_bench_apart, .ref a_bench_clash, .ref a_bench_neighbours])), (a_scene, .inr (7, [.ref a_scene_steps, .ref a_scene_worths, .ref a_scene_comers, .ref a_scene_seen, .ref a_scene_seenLengths, .int v_scene_seats, .int v_scene_bear, .int v_scene_comerCount, .int v_scene_seenRows])), (a_sitters_nearest, eI cI 12 z_sitters_nearest_48), (a_bench_apart, eI cI 144 v_bench_apart), (a_scene_worths, eI cI 12 v_scene_worths), (a_bench_neighbours, eI cI 12 v_bench_neighbours)] H → va_S A s.heap H locs → lv_has ls 8 [(0, .ref a_t), (1, .int x1), (2, .int x2), (3, .int w5), (4, .int y4_48), (5, .int y5_48), (6, .int y6_48)] → (∀ (H : Heap) (locs : List Loc) (ls : Array Slot), va_P D vwCl [(a_t, .inr (10, [.ref a_pad, .ref a_scene, .ref a_images, .ref a_bench, .ref a_trial, .ref a_sitters, .ref a_trialSitters, .ref a_sets, .ref a_census, .ref a_match, .ref a_couples, .ref a_passing, .ref a_longRows])), (a_sitters, .inr (9, [.ref a_bench, .ref a_sitters_nearest, .int o.2.2.1, .int o.2.2.2.1])), (a_bench, .inr (0, [.ref a_scene, .ref a_bench_apart, .ref a_bench_clash, .ref a_bench_neighbours])), (a_scene, .inr (7, [.ref a_scene_steps, .ref a_scene_worths, .ref a_scene_comers, .ref a_scene_seen, .ref a_scene_seenLengths, .int v_scene_seats, .int v_scene_bear, .int v_scene_comerCount, .int v_scene_seenRows])), (a_sitters_nearest, eI cI 12 o.2.2.2.2), (a_bench_apart, eI cI 144 v_bench_apart), (a_scene_worths, eI cI 12 v_scene_worths), (a_bench_neighbours, eI cI 12 v_bench_neighbours)] H → va_S A s.heap H locs → lv_has ls 8 [(2, .int x2), (4, .int o.1), (5, .int o.2.1)] → W p l e { frames := 4, cells := 0, slots := 0, locals := 92 } s m args below meth c H locs 0 0 Q (F0 m 104 ls [])) → W p l e { frames := 4, cells := 0, slots := 0, locals := 92 } s m args below meth c H locs 0 0 Q (F0 m 48 ls []) := by
          intro n
          induction n with
          | zero => intro y4_48 y5_48 y6_48 z_sitters_set_48 z_sitters_bear_48 z_sitters_nearest_48 o H locs ls hf; exact (ob_n hf).elim
          | succ n ih =>
            intro y4_48 y5_48 y6_48 z_sitters_set_48 z_sitters_bear_48 z_sitters_nearest_48 o H locs ls hf hP hS hl kk
            rw [f_X10_first_48_s] at hf
            refine lv_iload hx hb dX10_first_48 (lv_at hl 6 rfl) ?_
            refine lv_aload_n hx hb dX10_first_50 rfl (lv_at hl 0 rfl) ?_
            refine gf_X10_19 Cx hP 0 rfl rfl dX10_first_51 ?_
            refine gf_X10_123 Cx hP 3 rfl rfl dX10_first_54 ?_
            refine lv_icmp_ge (tgt := 104) hx hb dX10_first_57 (by decide) (fun c9 => ?_) (fun c9 => ?_)
            · have hf := ob_t c9 hf
              obtain rfl := Option.some.inj hf
              exact kk _ _ _ hP hS (lv_sub hl [2, 4, 5] rfl)
            · have hf := ob_f c9 hf
              refine lv_aload_n hx hb dX10_first_60 rfl (lv_at hl 0 rfl) ?_
              refine lv_iload hx hb dX10_first_61 (lv_at hl 6 rfl) ?_
              refine lv_iload_n hx hb dX10_first_63 rfl (lv_at hl 1 rfl) ?_
              obtain ⟨u10, hu10, hf⟩ := ob_b hf
              refine iv_X10_204 (As := [.int y6_48, .int x1]) (rest := []) (is := [0, 1, 2, 3, 4, 5, 6, 7]) (q0 := 0) (X' := [(a_t, .inr (10, [.ref a_pad, .ref a_scene, .ref a_images, .ref a_bench, .ref a_trial, .ref a_sitters, .ref a_trialSitters, .ref a_sets, .ref a_census, .ref a_match, .ref a_couples, .ref a_passing, .ref a_longRows])), (a_sitters, .inr (9, [.ref a_bench, .ref a_sitters_nearest, .int u10.2.1, .int u10.2.2.1])), (a_bench, .inr (0, [.ref a_scene, .ref a_bench_apart, .ref a_bench_clash, .ref a_bench_neighbours])), (a_scene, .inr (7, [.ref a_scene_steps, .ref a_scene_worths, .ref a_scene_comers, .ref a_scene_seen, .ref a_scene_seenLengths, .int v_scene_seats, .int v_scene_bear, .int v_scene_comerCount, .int v_scene_seenRows])), (a_sitters_nearest, eI cI 12 u10.2.2.2), (a_bench_apart, eI cI 144 v_bench_apart), (a_scene_worths, eI cI 12 v_scene_worths), (a_bench_neighbours, eI cI 12 v_bench_neighbours)]) Cx (c_X10_comeInAfter l D cI cJ cZ cO a_t a_pad a_scene a_images a_bench a_trial a_sitters a_trialSitters a_sets a_census a_match a_couples a_passing a_longRows a_sitters_nearest a_bench_apart a_bench_clash a_bench_neighbours a_scene_steps a_scene_worths a_scene_comers a_scene_seen a_scene_seenLengths z_sitters_set_48 z_sitters_bear_48 v_scene_seats v_scene_bear v_scene_comerCount v_scene_seenRows z_sitters_nearest_48 v_bench_apart v_scene_worths v_bench_neighbours y6_48 x1 u10 hu10) hP hS rfl rfl rfl rfl rfl rfl rfl hl.1 (Nat.le_of_ble_eq_true rfl) dX10_first_64 rfl rfl ⟨Nat.le_of_ble_eq_true rfl, Nat.le_of_ble_eq_true rfl⟩ ⟨Nat.zero_le _, Nat.zero_le _⟩ rfl (fun H locs hP hS => ?_)
              refine lv_istore (lv' := [(7, .int u10.1), (0, .ref a_t), (1, .int x1), (2, .int x2), (3, .int w5), (4, .int y4_48), (5, .int y5_48), (6, .int y6_48)]) hx hb dX10_first_67 hl (by decide) rfl (fun ls hl => ?_)
              refine lv_iload_n hx hb dX10_first_69 rfl (lv_at hl 4 rfl) ?_
              refine ob_J (P := fun w11 => ∀ (H : Heap) (locs : List Loc) (ls : Array Slot), va_P D vwCl [(a_t, .inr (10, [.ref a_pad, .ref a_scene, .ref a_images, .ref a_bench, .ref a_trial, .ref a_sitters, .ref a_trialSitters, .ref a_sets, .ref a_census, .ref a_match, .ref a_couples, .ref a_passing, .ref a_longRows])), (a_sitters, .inr (9, [.ref a_bench, .ref a_sitters_nearest, .int u10.2.1, .int u10.2.2.1])), (a_bench, .inr (0, [.ref a_scene, .ref a_bench_apart, .ref a_bench_clash, .ref a_bench_neighbours])), (a_scene, .inr (7, [.ref a_scene_steps, .ref a_scene_worths, .ref a_scene_comers, .ref a_scene_seen, .ref a_scene_seenLengths, .int v_scene_seats, .int v_scene_bear, .int v_scene_comerCount, .int v_scene_seenRows])), (a_sitters_nearest, eI cI 12 u10.2.2.2), (a_bench_apart, eI cI 144 v_bench_apart), (a_scene_worths, eI cI 12 v_scene_worths), (a_bench_neighbours, eI cI 12 v_bench_neighbours)] H → va_S A s.heap H locs → lv_has ls 8 [(0, .ref a_t), (1, .int x1), (2, .int x2), (3, .int w5), (4, .int w11.1), (5, .int w11.2), (6, .int y6_48)] → W p l e { frames := 4, cells := 0, slots := 0, locals := 92 } s m args below meth c H locs 0 0 Q (F0 m 98 ls [])) hf ?_ ?_
              · intro w11 hf H locs ls hP hS hl
                refine lv_iinc (v := (y6_48 + 1)) (lv' := [(6, .int (y6_48 + 1)), (0, .ref a_t), (1, .int x1), (2, .int x2), (3, .int w5), (4, .int w11.1), (5, .int w11.2)]) hx hb dX10_first_98 hl (k := 6) rfl rfl (by decide) rfl (fun ls hl => ?_)
                refine lv_goto (tgt := 48) hx hb dX10_first_101 (by decide) ?_
                exact ih w11.1 w11.2 (y6_48 + 1) u10.2.1 u10.2.2.1 u10.2.2.2 _ _ _ _ hf hP hS (lv_sub hl [1, 2, 3, 4, 5, 6, 0] rfl) kk
              · intro J98_12 hf
                refine lv_if_eq (tgt := 83) hx hb dX10_first_70 (by decide) (fun c13 => ?_) (fun c13 => ?_)
                · have hf := ob_tk c13 hf
                  refine lv_iload hx hb dX10_first_83 (lv_at hl 0 rfl) ?_
                  refine lv_iload hx hb dX10_first_85 (lv_at hl 6 rfl) ?_
                  refine lv_icmp_ge (tgt := 98) hx hb dX10_first_87 (by decide) (fun c14 => ?_) (fun c14 => ?_)
                  · have hf := ob_tk c14 hf
                    exact J98_12 (y4_48, y5_48) hf _ _ _ hP hS (lv_sub hl [1, 2, 3, 4, 5, 6, 7] rfl)
                  · have hf := ob_fk c14 hf
                    refine lv_iload hx hb dX10_first_90 (lv_at hl 0 rfl) ?_
                    refine lv_istore (lv' := [(5, .int u10.1), (7, .int u10.1), (0, .ref a_t), (1, .int x1), (2, .int x2), (3, .int w5), (4, .int y4_48), (6, .int y6_48)]) hx hb dX10_first_92 hl (by decide) rfl (fun ls hl => ?_)
                    refine lv_iload hx hb dX10_first_94 (lv_at hl 7 rfl) ?_
                    refine lv_istore (lv' := [(4, .int y6_48), (5, .int u10.1), (7, .int u10.1), (0, .ref a_t), (1, .int x1), (2, .int x2), (3, .int w5), (6, .int y6_48)]) hx hb dX10_first_96 hl (by decide) rfl (fun ls hl => ?_)
                    exact J98_12 (y6_48, u10.1) hf _ _ _ hP hS (lv_sub hl [3, 4, 5, 6, 0, 1, 7] rfl)
                · have hf := ob_fk c13 hf
                  refine lv_iload hx hb dX10_first_73 (lv_at hl 0 rfl) ?_
                  refine lv_iload hx hb dX10_first_75 (lv_at hl 6 rfl) ?_
                  refine lv_icmp_le (tgt := 98) hx hb dX10_first_77 (by decide) (fun c15 => ?_) (fun c15 => ?_)
                  · have hf := ob_tk c15 hf
                    exact J98_12 (y4_48, y5_48) hf _ _ _ hP hS (lv_sub hl [1, 2, 3, 4, 5, 6, 7] rfl)
                  · have hf := ob_fk c15 hf
                    refine lv_goto (tgt := 90) hx hb dX10_first_80 (by decide) ?_
                    refine lv_iload hx hb dX10_first_90 (lv_at hl 0 rfl) ?_
                    refine lv_istore (lv' := [(5, .int u10.1), (7, .int u10.1), (0, .ref a_t), (1, .int x1), (2, .int x2), (3, .int w5), (4, .int y4_48), (6, .int y6_48)]) hx hb dX10_first_92 hl (by decide) rfl (fun ls hl => ?_)
                    refine lv_iload hx hb dX10_first_94 (lv_at hl 7 rfl) ?_
                    refine lv_istore (lv' := [(4, .int y6_48), (5, .int u10.1), (7, .int u10.1), (0, .ref a_t), (1, .int x1), (2, .int x2), (3, .int w5), (6, .int y6_48)]) hx hb dX10_first_96 hl (by decide) rfl (fun ls hl => ?_)
                    exact J98_12 (y6_48, u10.1) hf _ _ _ hP hS (lv_sub hl [3, 4, 5, 6, 0, 1, 7] rfl)
        obtain ⟨u16, hu16, hf⟩ := ob_b hf
        refine L48_8 FU (0 : Int32) u7.1 (1 : Int32) u7.2.1 u7.2.2.1 u7.2.2.2 u16 _ _ _ hu16 hP hS (lv_sub hl [4, 5, 6, 3, 2, 1, 0] rfl) ?_
        intro H locs ls hP hS hl
        refine lv_iload_n hx hb dX10_first_104 rfl (lv_at hl 0 rfl) ?_
        refine lv_iconst (v := 2) hx hb dX10_first_105 (by decide) ?_
        refine ob_J (P := fun w17 => ∀ (H : Heap) (locs : List Loc) (ls : Array Slot), va_P D vwCl [(a_t, .inr (10, [.ref a_pad, .ref a_scene, .ref a_images, .ref a_bench, .ref a_trial, .ref a_sitters, .ref a_trialSitters, .ref a_sets, .ref a_census, .ref a_match, .ref a_couples, .ref a_passing, .ref a_longRows])), (a_sitters, .inr (9, [.ref a_bench, .ref a_sitters_nearest, .int u16.2.2.1, .int u16.2.2.2.1])), (a_bench, .inr (0, [.ref a_scene, .ref a_bench_apart, .ref a_bench_clash, .ref a_bench_neighbours])), (a_scene, .inr (7, [.ref a_scene_steps, .ref a_scene_worths, .ref a_scene_comers, .ref a_scene_seen, .ref a_scene_seenLengths, .int v_scene_seats, .int v_scene_bear, .int v_scene_comerCount, .int v_scene_seenRows])), (a_sitters_nearest, eI cI 12 u16.2.2.2.2), (a_bench_apart, eI cI 144 v_bench_apart), (a_scene_worths, eI cI 12 v_scene_worths), (a_bench_neighbours, eI cI 12 v_bench_neighbours)] H → va_S A s.heap H locs → lv_has ls 8 [] → W p l e { frames := 4, cells := 0, slots := 0, locals := 92 } s m args below meth c H locs 0 0 Q (F0 m 116 ls [.int w17])) hf ?_ ?_
        · intro w17 hf H locs ls hP hS hl
          obtain rfl := Option.some.inj hf
          exact ret _ _ _ _ dX10_first_116 hP hS
        · intro J116_18 hf
          refine lv_icmp_ge (tgt := 114) hx hb dX10_first_106 (by decide) (fun c19 => ?_) (fun c19 => ?_)
          · have hf := ob_tk c19 hf
            refine lv_iload hx hb dX10_first_114 (lv_at hl 2 rfl) ?_
            exact J116_18 u16.2.1 hf _ _ _ hP hS (lv_sub hl [] rfl)
          · have hf := ob_fk c19 hf
            refine lv_iload hx hb dX10_first_109 (lv_at hl 1 rfl) ?_
            refine lv_goto (tgt := 116) hx hb dX10_first_111 (by decide) ?_
            exact J116_18 u16.1 hf _ _ _ hP hS (lv_sub hl [] rfl)
      · intro J33_6 hf
        refine lv_if_eq (tgt := 28) hx hb dX10_first_20 (by decide) (fun c20 => ?_) (fun c20 => ?_)
        · have hf := ob_tk c20 hf
          refine lv_iconst (v := 1) hx hb dX10_first_28 (by decide) ?_
          refine lv_goto (tgt := 33) hx hb dX10_first_29 (by decide) ?_
          exact J33_6 (1 : Int32) hf _ _ _ hP hS (lv_sub hl [0, 1, 2] rfl)
        · have hf := ob_fk c20 hf
          refine lv_iload_n hx hb dX10_first_23 rfl (lv_at hl 2 rfl) ?_
          refine lv_iconst (v := 2) hx hb dX10_first_24 (by decide) ?_
          refine lv_icmp_ne (tgt := 32) hx hb dX10_first_25 (by decide) (fun c21 => ?_) (fun c21 => ?_)
          · have hf := ob_fk c21 hf
            refine lv_iconst (v := 0) hx hb dX10_first_32 (by decide) ?_
            exact J33_6 (0 : Int32) hf _ _ _ hP hS (lv_sub hl [0, 1, 2] rfl)
          · have hf := ob_tk c21 hf
            refine lv_iconst (v := 1) hx hb dX10_first_28 (by decide) ?_
            refine lv_goto (tgt := 33) hx hb dX10_first_29 (by decide) ?_
            exact J33_6 (1 : Int32) hf _ _ _ hP hS (lv_sub hl [0, 1, 2] rfl)
    · have hf := ob_t c4 hf
      refine lv_bipush (v := (-2)) hx hb dX10_first_16 (by decide) ?_
      obtain rfl := Option.some.inj hf
      exact ret _ _ _ _ dX10_first_18 hP hS

def f_X10_game (v_scene_seats : Int32) (v_scene_bear : Int32) (v_sitters_set : Int32) (v_sitters_bear : Int32) (v_sitters_nearest : Nat → Int32) (v_bench_apart : Nat → Int32) (v_match_known : Int32) (v_sets_size : Int32) (v_sets_places : Int32) (v_sets_filled : Nat → Int32) (v_sets_open : Nat → Int32) (v_bench_clash : Nat → Int32) (v_match_wicked : Nat → Int32) (v_match_kind : Nat → Int32) (x1 : Int32) (x2 : Int32) (x3 : Int32) : Option (Int32 × Int32 × Int32 × (Nat → Int32) × Int32 × Int32 × Int32 × (Nat → Int32) × (Nat → Int32) × (Nat → Int32) × (Nat → Int32)) :=
  (f_X10_isWithin x2 (0 : Int32) (1 : Int32)).bind (fun u1 =>
  if u1 = 0 then
  some ((-2 : Int32), v_sitters_set, v_sitters_bear, v_sitters_nearest, v_match_known, v_sets_size, v_sets_places, v_sets_filled, v_sets_open, v_match_wicked, v_match_kind)
  else
  (f_X10_isWithin x3 (0 : Int32) (1 : Int32)).bind (fun u3 =>
  if u3 = 0 then
  some ((-2 : Int32), v_sitters_set, v_sitters_bear, v_sitters_nearest, v_match_known, v_sets_size, v_sets_places, v_sets_filled, v_sets_open, v_match_wicked, v_match_kind)
  else
  (f_X10_seatAll v_scene_seats v_scene_bear v_sitters_set v_sitters_bear v_sitters_nearest v_bench_apart x1).bind (fun u5 =>
  if u5.1 = 0 then
  (f_X4_play v_match_known v_scene_seats v_sets_size v_sets_places v_sets_filled v_sets_open v_bench_clash v_match_wicked v_match_kind).bind (fun u7 =>
  (if x3 = 0 then
  (f_X4_result u7.2.2.2.2.2.1 u7.2.2.2.2.2.2 x1 x2).bind (fun u13 =>
  some (u13))
  else
  (f_X9_openSeats u5.2.2.1 v_scene_seats u5.2.2.2).bind (fun u11 =>
  (f_X4_bestSeat u7.2.2.2.2.2.1 u7.2.2.2.2.2.2 x1 u11 x2).bind (fun u12 =>
  some (u12)))).bind (fun w8 =>
  some (w8, u5.2.1, u5.2.2.1, u5.2.2.2, u7.1, u7.2.1, u7.2.2.1, u7.2.2.2.1, u7.2.2.2.2.1, u7.2.2.2.2.2.1, u7.2.2.2.2.2.2)))
  else
  some (u5.1, u5.2.1, u5.2.2.1, u5.2.2.2, v_match_known, v_sets_size, v_sets_places, v_sets_filled, v_sets_open, v_match_wicked, v_match_kind))))
set_option maxHeartbeats 4000000 in
set_option maxRecDepth 100000 in
theorem c_X10_game (l : Launch) (D : va_G) (cI cJ cZ cO : ClassId) (a_t a_pad a_scene a_images a_bench a_trial a_sitters a_trialSitters a_sets a_census a_match a_couples a_passing a_longRows a_scene_steps a_scene_worths a_scene_comers a_scene_seen a_scene_seenLengths a_sitters_nearest a_bench_apart a_bench_clash a_bench_neighbours a_match_kind a_match_wicked a_sets_filled a_sets_open a_sets_chance : Nat) (v_scene_seats : Int32) (v_scene_bear : Int32) (v_scene_comerCount : Int32) (v_scene_seenRows : Int32) (v_sitters_set : Int32) (v_sitters_bear : Int32) (v_sitters_nearest : Nat → Int32) (v_bench_apart : Nat → Int32) (v_match_known : Int32) (v_sets_size : Int32) (v_sets_places : Int32) (v_sets_filled : Nat → Int32) (v_sets_open : Nat → Int32) (v_bench_clash : Nat → Int32) (v_match_wicked : Nat → Int32) (v_match_kind : Nat → Int32) (x1 : Int32) (x2 : Int32) (x3 : Int32) (out : Int32 × Int32 × Int32 × (Nat → Int32) × Int32 × Int32 × Int32 × (Nat → Int32) × (Nat → Int32) × (Nat → Int32) × (Nat → Int32)) (hf : f_X10_game v_scene_seats v_scene_bear v_sitters_set v_sitters_bear v_sitters_nearest v_bench_apart v_match_known v_sets_size v_sets_places v_sets_filled v_sets_open v_bench_clash v_match_wicked v_match_kind x1 x2 x3 = some out) : MetR l yX10_game (Cond.code yX10_game cX10_game 5 (some .int) :: tbG) { frames := 4, cells := 0, slots := 0, locals := 87 } D (tyL cI cJ cZ cO) [.ref a_t, .int x1, .int x2, .int x3] [(a_t, .inr (10, [.ref a_pad, .ref a_scene, .ref a_images, .ref a_bench, .ref a_trial, .ref a_sitters, .ref a_trialSitters, .ref a_sets, .ref a_census, .ref a_match, .ref a_couples, .ref a_passing, .ref a_longRows])), (a_scene, .inr (7, [.ref a_scene_steps, .ref a_scene_worths, .ref a_scene_comers, .ref a_scene_seen, .ref a_scene_seenLengths, .int v_scene_seats, .int v_scene_bear, .int v_scene_comerCount, .int v_scene_seenRows])), (a_sitters, .inr (9, [.ref a_bench, .ref a_sitters_nearest, .int v_sitters_set, .int v_sitters_bear])), (a_bench, .inr (0, [.ref a_scene, .ref a_bench_apart, .ref a_bench_clash, .ref a_bench_neighbours])), (a_sitters_nearest, eI cI 12 v_sitters_nearest), (a_bench_apart, eI cI 144 v_bench_apart), (a_match, .inr (4, [.ref a_match_kind, .ref a_match_wicked, .int v_match_known])), (a_sets, .inr (8, [.ref a_sets_filled, .ref a_sets_open, .ref a_sets_chance, .int v_sets_size, .int v_sets_places])), (a_sets_filled, eI cI 4096 v_sets_filled), (a_sets_open, eI cI 4096 v_sets_open), (a_bench_clash, eI cI 12 v_bench_clash), (a_match_wicked, eI cI 4096 v_match_wicked), (a_match_kind, eI cI 4096 v_match_kind)] (some (.int out.1)) [(a_t, .inr (10, [.ref a_pad, .ref a_scene, .ref a_images, .ref a_bench, .ref a_trial, .ref a_sitters, .ref a_trialSitters, .ref a_sets, .ref a_census, .ref a_match, .ref a_couples, .ref a_passing, .ref a_longRows])), (a_scene, .inr (7, [.ref a_scene_steps, .ref a_scene_worths, .ref a_scene_comers, .ref a_scene_seen, .ref a_scene_seenLengths, .int v_scene_seats, .int v_scene_bear, .int v_scene_comerCount, .int v_scene_seenRows])), (a_sitters, .inr (9, [.ref a_bench, .ref a_sitters_nearest, .int out.2.1, .int out.2.2.1])), (a_bench, .inr (0, [.ref a_scene, .ref a_bench_apart, .ref a_bench_clash, .ref a_bench_neighbours])), (a_sitters_nearest, eI cI 12 out.2.2.2.1), (a_bench_apart, eI cI 144 v_bench_apart), (a_match, .inr (4, [.ref a_match_kind, .ref a_match_wicked, .int out.2.2.2.2.1])), (a_sets, .inr (8, [.ref a_sets_filled, .ref a_sets_open, .ref a_sets_chance, .int out.2.2.2.2.2.1, .int out.2.2.2.2.2.2.1])), (a_sets_filled, eI cI 4096 out.2.2.2.2.2.2.2.1), (a_sets_open, eI cI 4096 out.2.2.2.2.2.2.2.2.1), (a_bench_clash, eI cI 12 v_bench_clash), (a_match_wicked, eI cI 4096 out.2.2.2.2.2.2.2.2.2.1), (a_match_kind, eI cI 4096 out.2.2.2.2.2.2.2.2.2.2)] := by
  refine ba_ofI RX10 [(0, .ref a_t), (1, .int x1), (2, .int x2), (3, .int x3)] (by decide +kernel) rfl (Nat.le_of_ble_eq_true rfl) rfl ?_
  intro p e s m args below meth c Q A Cx hP ret ls hl
  obtain ⟨⟨hx, hb, hml, hown, hts⟩, hK, hD, hA⟩ := id Cx
  have hS : va_S A s.heap s.heap [] := va_S.rf
  unfold f_X10_game at hf
  refine lv_iload_n hx hb dX10_game_0 rfl (lv_at hl 2 rfl) ?_
  refine lv_iconst (v := 0) hx hb dX10_game_1 (by decide) ?_
  refine lv_iconst (v := 1) hx hb dX10_game_2 (by decide) ?_
  obtain ⟨u1, hu1, hf⟩ := ob_b hf
  refine iv_X10_99 (As := [.int x2, .int (0 : Int32), .int (1 : Int32)]) (rest := []) (is := []) (X' := [(a_t, .inr (10, [.ref a_pad, .ref a_scene, .ref a_images, .ref a_bench, .ref a_trial, .ref a_sitters, .ref a_trialSitters, .ref a_sets, .ref a_census, .ref a_match, .ref a_couples, .ref a_passing, .ref a_longRows])), (a_scene, .inr (7, [.ref a_scene_steps, .ref a_scene_worths, .ref a_scene_comers, .ref a_scene_seen, .ref a_scene_seenLengths, .int v_scene_seats, .int v_scene_bear, .int v_scene_comerCount, .int v_scene_seenRows])), (a_sitters, .inr (9, [.ref a_bench, .ref a_sitters_nearest, .int v_sitters_set, .int v_sitters_bear])), (a_bench, .inr (0, [.ref a_scene, .ref a_bench_apart, .ref a_bench_clash, .ref a_bench_neighbours])), (a_sitters_nearest, eI cI 12 v_sitters_nearest), (a_bench_apart, eI cI 144 v_bench_apart), (a_match, .inr (4, [.ref a_match_kind, .ref a_match_wicked, .int v_match_known])), (a_sets, .inr (8, [.ref a_sets_filled, .ref a_sets_open, .ref a_sets_chance, .int v_sets_size, .int v_sets_places])), (a_sets_filled, eI cI 4096 v_sets_filled), (a_sets_open, eI cI 4096 v_sets_open), (a_bench_clash, eI cI 12 v_bench_clash), (a_match_wicked, eI cI 4096 v_match_wicked), (a_match_kind, eI cI 4096 v_match_kind)]) Cx (c_X10_isWithin l D cI cJ cZ cO  x2 (0 : Int32) (1 : Int32) u1 hu1) hP hS rfl rfl rfl rfl rfl rfl hl.1 (Nat.le_of_ble_eq_true rfl) dX10_game_3 rfl rfl ⟨Nat.le_of_ble_eq_true rfl, Nat.le_of_ble_eq_true rfl⟩ ⟨Nat.zero_le _, Nat.zero_le _⟩ rfl (fun H locs hP hS => ?_)
  refine lv_if_eq (tgt := 18) hx hb dX10_game_6 (by decide) (fun c2 => ?_) (fun c2 => ?_)
  · have hf := ob_t c2 hf
    refine lv_bipush (v := (-2)) hx hb dX10_game_18 (by decide) ?_
    obtain rfl := Option.some.inj hf
    exact ret _ _ _ _ dX10_game_20 hP hS
  · have hf := ob_f c2 hf
    refine lv_iload_n hx hb dX10_game_9 rfl (lv_at hl 3 rfl) ?_
    refine lv_iconst (v := 0) hx hb dX10_game_10 (by decide) ?_
    refine lv_iconst (v := 1) hx hb dX10_game_11 (by decide) ?_
    obtain ⟨u3, hu3, hf⟩ := ob_b hf
    refine iv_X10_99 (As := [.int x3, .int (0 : Int32), .int (1 : Int32)]) (rest := []) (is := []) (X' := [(a_t, .inr (10, [.ref a_pad, .ref a_scene, .ref a_images, .ref a_bench, .ref a_trial, .ref a_sitters, .ref a_trialSitters, .ref a_sets, .ref a_census, .ref a_match, .ref a_couples, .ref a_passing, .ref a_longRows])), (a_scene, .inr (7, [.ref a_scene_steps, .ref a_scene_worths, .ref a_scene_comers, .ref a_scene_seen, .ref a_scene_seenLengths, .int v_scene_seats, .int v_scene_bear, .int v_scene_comerCount, .int v_scene_seenRows])), (a_sitters, .inr (9, [.ref a_bench, .ref a_sitters_nearest, .int v_sitters_set, .int v_sitters_bear])), (a_bench, .inr (0, [.ref a_scene, .ref a_bench_apart, .ref a_bench_clash, .ref a_bench_neighbours])), (a_sitters_nearest, eI cI 12 v_sitters_nearest), (a_bench_apart, eI cI 144 v_bench_apart), (a_match, .inr (4, [.ref a_match_kind, .ref a_match_wicked, .int v_match_known])), (a_sets, .inr (8, [.ref a_sets_filled, .ref a_sets_open, .ref a_sets_chance, .int v_sets_size, .int v_sets_places])), (a_sets_filled, eI cI 4096 v_sets_filled), (a_sets_open, eI cI 4096 v_sets_open), (a_bench_clash, eI cI 12 v_bench_clash), (a_match_wicked, eI cI 4096 v_match_wicked), (a_match_kind, eI cI 4096 v_match_kind)]) Cx (c_X10_isWithin l D cI cJ cZ cO  x3 (0 : Int32) (1 : Int32) u3 hu3) hP hS rfl rfl rfl rfl rfl rfl hl.1 (Nat.le_of_ble_eq_true rfl) dX10_game_12 rfl rfl ⟨Nat.le_of_ble_eq_true rfl, Nat.le_of_ble_eq_true rfl⟩ ⟨Nat.zero_le _, Nat.zero_le _⟩ rfl (fun H locs hP hS => ?_)
    refine lv_if_ne (tgt := 21) hx hb dX10_game_15 (by decide) (fun c4 => ?_) (fun c4 => ?_)
    · have hf := ob_f c4 hf
      refine lv_aload_n hx hb dX10_game_21 rfl (lv_at hl 0 rfl) ?_
      refine lv_iload_n hx hb dX10_game_22 rfl (lv_at hl 1 rfl) ?_
      obtain ⟨u5, hu5, hf⟩ := ob_b hf
      refine iv_X10_151 (As := [.int x1]) (rest := []) (is := [0, 1, 2, 3, 4, 5]) (q0 := 0) (X' := [(a_t, .inr (10, [.ref a_pad, .ref a_scene, .ref a_images, .ref a_bench, .ref a_trial, .ref a_sitters, .ref a_trialSitters, .ref a_sets, .ref a_census, .ref a_match, .ref a_couples, .ref a_passing, .ref a_longRows])), (a_scene, .inr (7, [.ref a_scene_steps, .ref a_scene_worths, .ref a_scene_comers, .ref a_scene_seen, .ref a_scene_seenLengths, .int v_scene_seats, .int v_scene_bear, .int v_scene_comerCount, .int v_scene_seenRows])), (a_sitters, .inr (9, [.ref a_bench, .ref a_sitters_nearest, .int u5.2.1, .int u5.2.2.1])), (a_bench, .inr (0, [.ref a_scene, .ref a_bench_apart, .ref a_bench_clash, .ref a_bench_neighbours])), (a_sitters_nearest, eI cI 12 u5.2.2.2), (a_bench_apart, eI cI 144 v_bench_apart), (a_match, .inr (4, [.ref a_match_kind, .ref a_match_wicked, .int v_match_known])), (a_sets, .inr (8, [.ref a_sets_filled, .ref a_sets_open, .ref a_sets_chance, .int v_sets_size, .int v_sets_places])), (a_sets_filled, eI cI 4096 v_sets_filled), (a_sets_open, eI cI 4096 v_sets_open), (a_bench_clash, eI cI 12 v_bench_clash), (a_match_wicked, eI cI 4096 v_match_wicked), (a_match_kind, eI cI 4096 v_match_kind)]) Cx (c_X10_seatAll l D cI cJ cZ cO a_t a_pad a_scene a_images a_bench a_trial a_sitters a_trialSitters a_sets a_census a_match a_couples a_passing a_longRows a_scene_steps a_scene_worths a_scene_comers a_scene_seen a_scene_seenLengths a_sitters_nearest a_bench_apart a_bench_clash a_bench_neighbours v_scene_seats v_scene_bear v_scene_comerCount v_scene_seenRows v_sitters_set v_sitters_bear v_sitters_nearest v_bench_apart x1 u5 hu5) hP hS rfl rfl rfl rfl rfl rfl rfl hl.1 (Nat.le_of_ble_eq_true rfl) dX10_game_23 rfl rfl ⟨Nat.le_of_ble_eq_true rfl, Nat.le_of_ble_eq_true rfl⟩ ⟨Nat.zero_le _, Nat.zero_le _⟩ rfl (fun H locs hP hS => ?_)
      refine lv_istore (lv' := [(4, .int u5.1), (0, .ref a_t), (1, .int x1), (2, .int x2), (3, .int x3)]) hx hb dX10_game_26 hl (by decide) rfl (fun ls hl => ?_)
      refine lv_iload hx hb dX10_game_28 (lv_at hl 0 rfl) ?_
      refine lv_if_eq (tgt := 36) hx hb dX10_game_30 (by decide) (fun c6 => ?_) (fun c6 => ?_)
      · have hf := ob_t c6 hf
        refine lv_aload_n hx hb dX10_game_36 rfl (lv_at hl 1 rfl) ?_
        refine gf_X10_68 Cx hP 0 rfl rfl dX10_game_37 ?_
        refine lv_aload_n hx hb dX10_game_40 rfl (lv_at hl 1 rfl) ?_
        refine gf_X10_32 Cx hP 0 rfl rfl dX10_game_41 ?_
        refine lv_aload_n hx hb dX10_game_44 rfl (lv_at hl 1 rfl) ?_
        refine gf_X10_54 Cx hP 0 rfl rfl dX10_game_45 ?_
        obtain ⟨u7, hu7, hf⟩ := ob_b hf
        refine iv_X10_207 (As := [.ref a_bench, .ref a_sets]) (rest := []) (is := [6, 3, 1, 7, 8, 9, 10, 11, 12]) (q0 := 6) (X' := [(a_t, .inr (10, [.ref a_pad, .ref a_scene, .ref a_images, .ref a_bench, .ref a_trial, .ref a_sitters, .ref a_trialSitters, .ref a_sets, .ref a_census, .ref a_match, .ref a_couples, .ref a_passing, .ref a_longRows])), (a_scene, .inr (7, [.ref a_scene_steps, .ref a_scene_worths, .ref a_scene_comers, .ref a_scene_seen, .ref a_scene_seenLengths, .int v_scene_seats, .int v_scene_bear, .int v_scene_comerCount, .int v_scene_seenRows])), (a_sitters, .inr (9, [.ref a_bench, .ref a_sitters_nearest, .int u5.2.1, .int u5.2.2.1])), (a_bench, .inr (0, [.ref a_scene, .ref a_bench_apart, .ref a_bench_clash, .ref a_bench_neighbours])), (a_sitters_nearest, eI cI 12 u5.2.2.2), (a_bench_apart, eI cI 144 v_bench_apart), (a_match, .inr (4, [.ref a_match_kind, .ref a_match_wicked, .int u7.1])), (a_sets, .inr (8, [.ref a_sets_filled, .ref a_sets_open, .ref a_sets_chance, .int u7.2.1, .int u7.2.2.1])), (a_sets_filled, eI cI 4096 u7.2.2.2.1), (a_sets_open, eI cI 4096 u7.2.2.2.2.1), (a_bench_clash, eI cI 12 v_bench_clash), (a_match_wicked, eI cI 4096 u7.2.2.2.2.2.1), (a_match_kind, eI cI 4096 u7.2.2.2.2.2.2)]) Cx (c_X4_play l D cI cJ cZ cO a_match a_match_kind a_match_wicked a_bench a_scene a_bench_apart a_bench_clash a_bench_neighbours a_scene_steps a_scene_worths a_scene_comers a_scene_seen a_scene_seenLengths a_sets a_sets_filled a_sets_open a_sets_chance v_match_known v_scene_seats v_scene_bear v_scene_comerCount v_scene_seenRows v_sets_size v_sets_places v_sets_filled v_sets_open v_bench_clash v_match_wicked v_match_kind u7 hu7) hP hS rfl rfl rfl rfl rfl rfl rfl hl.1 (Nat.le_of_ble_eq_true rfl) dX10_game_48 rfl rfl ⟨Nat.le_of_ble_eq_true rfl, Nat.le_of_ble_eq_true rfl⟩ ⟨Nat.zero_le _, Nat.zero_le _⟩ rfl (fun H locs hP hS => ?_)
        refine lv_iload_n hx hb dX10_game_51 rfl (lv_at hl 4 rfl) ?_
        refine ob_J (P := fun w8 => ∀ (H : Heap) (locs : List Loc) (ls : Array Slot), va_P D vwCl [(a_t, .inr (10, [.ref a_pad, .ref a_scene, .ref a_images, .ref a_bench, .ref a_trial, .ref a_sitters, .ref a_trialSitters, .ref a_sets, .ref a_census, .ref a_match, .ref a_couples, .ref a_passing, .ref a_longRows])), (a_scene, .inr (7, [.ref a_scene_steps, .ref a_scene_worths, .ref a_scene_comers, .ref a_scene_seen, .ref a_scene_seenLengths, .int v_scene_seats, .int v_scene_bear, .int v_scene_comerCount, .int v_scene_seenRows])), (a_sitters, .inr (9, [.ref a_bench, .ref a_sitters_nearest, .int u5.2.1, .int u5.2.2.1])), (a_bench, .inr (0, [.ref a_scene, .ref a_bench_apart, .ref a_bench_clash, .ref a_bench_neighbours])), (a_sitters_nearest, eI cI 12 u5.2.2.2), (a_bench_apart, eI cI 144 v_bench_apart), (a_match, .inr (4, [.ref a_match_kind, .ref a_match_wicked, .int u7.1])), (a_sets, .inr (8, [.ref a_sets_filled, .ref a_sets_open, .ref a_sets_chance, .int u7.2.1, .int u7.2.2.1])), (a_sets_filled, eI cI 4096 u7.2.2.2.1), (a_sets_open, eI cI 4096 u7.2.2.2.2.1), (a_bench_clash, eI cI 12 v_bench_clash), (a_match_wicked, eI cI 4096 u7.2.2.2.2.2.1), (a_match_kind, eI cI 4096 u7.2.2.2.2.2.2)] H → va_S A s.heap H locs → lv_has ls 5 [] → W p l e { frames := 4, cells := 0, slots := 0, locals := 87 } s m args below meth c H locs 0 0 Q (F0 m 83 ls [.int w8])) hf ?_ ?_
        · intro w8 hf H locs ls hP hS hl
          obtain rfl := Option.some.inj hf
          exact ret _ _ _ _ dX10_game_83 hP hS
        · intro J83_9 hf
          refine lv_if_ne (tgt := 67) hx hb dX10_game_52 (by decide) (fun c10 => ?_) (fun c10 => ?_)
          · have hf := ob_fk c10 hf
            refine lv_aload_n hx hb dX10_game_67 rfl (lv_at hl 1 rfl) ?_
            refine gf_X10_68 Cx hP 0 rfl rfl dX10_game_68 ?_
            refine lv_iload_n hx hb dX10_game_71 rfl (lv_at hl 2 rfl) ?_
            refine lv_aload_n hx hb dX10_game_72 rfl (lv_at hl 1 rfl) ?_
            refine gf_X10_44 Cx hP 0 rfl rfl dX10_game_73 ?_
            obtain ⟨u11, hu11, hf⟩ := ob_bk hf
            refine iv_X10_155 (As := []) (rest := [.int x1, .ref a_match]) (is := [2, 3, 1, 4]) (q0 := 2) (X' := [(a_t, .inr (10, [.ref a_pad, .ref a_scene, .ref a_images, .ref a_bench, .ref a_trial, .ref a_sitters, .ref a_trialSitters, .ref a_sets, .ref a_census, .ref a_match, .ref a_couples, .ref a_passing, .ref a_longRows])), (a_scene, .inr (7, [.ref a_scene_steps, .ref a_scene_worths, .ref a_scene_comers, .ref a_scene_seen, .ref a_scene_seenLengths, .int v_scene_seats, .int v_scene_bear, .int v_scene_comerCount, .int v_scene_seenRows])), (a_sitters, .inr (9, [.ref a_bench, .ref a_sitters_nearest, .int u5.2.1, .int u5.2.2.1])), (a_bench, .inr (0, [.ref a_scene, .ref a_bench_apart, .ref a_bench_clash, .ref a_bench_neighbours])), (a_sitters_nearest, eI cI 12 u5.2.2.2), (a_bench_apart, eI cI 144 v_bench_apart), (a_match, .inr (4, [.ref a_match_kind, .ref a_match_wicked, .int u7.1])), (a_sets, .inr (8, [.ref a_sets_filled, .ref a_sets_open, .ref a_sets_chance, .int u7.2.1, .int u7.2.2.1])), (a_sets_filled, eI cI 4096 u7.2.2.2.1), (a_sets_open, eI cI 4096 u7.2.2.2.2.1), (a_bench_clash, eI cI 12 v_bench_clash), (a_match_wicked, eI cI 4096 u7.2.2.2.2.2.1), (a_match_kind, eI cI 4096 u7.2.2.2.2.2.2)]) Cx (c_X9_openSeats l D cI cJ cZ cO a_sitters a_bench a_sitters_nearest a_scene a_bench_apart a_bench_clash a_bench_neighbours a_scene_steps a_scene_worths a_scene_comers a_scene_seen a_scene_seenLengths u5.2.1 u5.2.2.1 v_scene_seats v_scene_bear v_scene_comerCount v_scene_seenRows u5.2.2.2 u11 hu11) hP hS rfl rfl rfl rfl rfl rfl rfl hl.1 (Nat.le_of_ble_eq_true rfl) dX10_game_76 rfl rfl ⟨Nat.le_of_ble_eq_true rfl, Nat.le_of_ble_eq_true rfl⟩ ⟨Nat.zero_le _, Nat.zero_le _⟩ rfl (fun H locs hP hS => ?_)
            refine lv_iload_n hx hb dX10_game_79 rfl (lv_at hl 3 rfl) ?_
            obtain ⟨u12, hu12, hf⟩ := ob_bk hf
            refine iv_X10_213 (As := [.int x1, .int u11, .int x2]) (rest := []) (is := [6, 11, 12]) (q0 := 6) (X' := [(a_t, .inr (10, [.ref a_pad, .ref a_scene, .ref a_images, .ref a_bench, .ref a_trial, .ref a_sitters, .ref a_trialSitters, .ref a_sets, .ref a_census, .ref a_match, .ref a_couples, .ref a_passing, .ref a_longRows])), (a_scene, .inr (7, [.ref a_scene_steps, .ref a_scene_worths, .ref a_scene_comers, .ref a_scene_seen, .ref a_scene_seenLengths, .int v_scene_seats, .int v_scene_bear, .int v_scene_comerCount, .int v_scene_seenRows])), (a_sitters, .inr (9, [.ref a_bench, .ref a_sitters_nearest, .int u5.2.1, .int u5.2.2.1])), (a_bench, .inr (0, [.ref a_scene, .ref a_bench_apart, .ref a_bench_clash, .ref a_bench_neighbours])), (a_sitters_nearest, eI cI 12 u5.2.2.2), (a_bench_apart, eI cI 144 v_bench_apart), (a_match, .inr (4, [.ref a_match_kind, .ref a_match_wicked, .int u7.1])), (a_sets, .inr (8, [.ref a_sets_filled, .ref a_sets_open, .ref a_sets_chance, .int u7.2.1, .int u7.2.2.1])), (a_sets_filled, eI cI 4096 u7.2.2.2.1), (a_sets_open, eI cI 4096 u7.2.2.2.2.1), (a_bench_clash, eI cI 12 v_bench_clash), (a_match_wicked, eI cI 4096 u7.2.2.2.2.2.1), (a_match_kind, eI cI 4096 u7.2.2.2.2.2.2)]) Cx (c_X4_bestSeat l D cI cJ cZ cO a_match a_match_kind a_match_wicked u7.1 u7.2.2.2.2.2.1 u7.2.2.2.2.2.2 x1 u11 x2 u12 hu12) hP hS rfl rfl rfl rfl rfl rfl rfl hl.1 (Nat.le_of_ble_eq_true rfl) dX10_game_80 rfl rfl ⟨Nat.le_of_ble_eq_true rfl, Nat.le_of_ble_eq_true rfl⟩ ⟨Nat.zero_le _, Nat.zero_le _⟩ rfl (fun H locs hP hS => ?_)
            exact J83_9 u12 hf _ _ _ hP hS (lv_sub hl [] rfl)
          · have hf := ob_tk c10 hf
            refine lv_aload_n hx hb dX10_game_55 rfl (lv_at hl 1 rfl) ?_
            refine gf_X10_68 Cx hP 0 rfl rfl dX10_game_56 ?_
            refine lv_iload_n hx hb dX10_game_59 rfl (lv_at hl 2 rfl) ?_
            refine lv_iload_n hx hb dX10_game_60 rfl (lv_at hl 3 rfl) ?_
            obtain ⟨u13, hu13, hf⟩ := ob_bk hf
            refine iv_X10_210 (As := [.int x1, .int x2]) (rest := []) (is := [6, 11, 12]) (q0 := 6) (X' := [(a_t, .inr (10, [.ref a_pad, .ref a_scene, .ref a_images, .ref a_bench, .ref a_trial, .ref a_sitters, .ref a_trialSitters, .ref a_sets, .ref a_census, .ref a_match, .ref a_couples, .ref a_passing, .ref a_longRows])), (a_scene, .inr (7, [.ref a_scene_steps, .ref a_scene_worths, .ref a_scene_comers, .ref a_scene_seen, .ref a_scene_seenLengths, .int v_scene_seats, .int v_scene_bear, .int v_scene_comerCount, .int v_scene_seenRows])), (a_sitters, .inr (9, [.ref a_bench, .ref a_sitters_nearest, .int u5.2.1, .int u5.2.2.1])), (a_bench, .inr (0, [.ref a_scene, .ref a_bench_apart, .ref a_bench_clash, .ref a_bench_neighbours])), (a_sitters_nearest, eI cI 12 u5.2.2.2), (a_bench_apart, eI cI 144 v_bench_apart), (a_match, .inr (4, [.ref a_match_kind, .ref a_match_wicked, .int u7.1])), (a_sets, .inr (8, [.ref a_sets_filled, .ref a_sets_open, .ref a_sets_chance, .int u7.2.1, .int u7.2.2.1])), (a_sets_filled, eI cI 4096 u7.2.2.2.1), (a_sets_open, eI cI 4096 u7.2.2.2.2.1), (a_bench_clash, eI cI 12 v_bench_clash), (a_match_wicked, eI cI 4096 u7.2.2.2.2.2.1), (a_match_kind, eI cI 4096 u7.2.2.2.2.2.2)]) Cx (c_X4_result l D cI cJ cZ cO a_match a_match_kind a_match_wicked u7.1 u7.2.2.2.2.2.1 u7.2.2.2.2.2.2 x1 x2 u13 hu13) hP hS rfl rfl rfl rfl rfl rfl rfl hl.1 (Nat.le_of_ble_eq_true rfl) dX10_game_61 rfl rfl ⟨Nat.le_of_ble_eq_true rfl, Nat.le_of_ble_eq_true rfl⟩ ⟨Nat.zero_le _, Nat.zero_le _⟩ rfl (fun H locs hP hS => ?_)
            refine lv_goto (tgt := 83) hx hb dX10_game_64 (by decide) ?_
            exact J83_9 u13 hf _ _ _ hP hS (lv_sub hl [] rfl)
      · have hf := ob_f c6 hf
        refine lv_iload hx hb dX10_game_33 (lv_at hl 0 rfl) ?_
        obtain rfl := Option.some.inj hf
        exact ret _ _ _ _ dX10_game_35 hP hS
    · have hf := ob_t c4 hf
      refine lv_bipush (v := (-2)) hx hb dX10_game_18 (by decide) ?_
      obtain rfl := Option.some.inj hf
      exact ret _ _ _ _ dX10_game_20 hP hS

def f_X10_pairs (v_couples_count : Int32) (v_scene_seats : Int32) (v_scene_bear : Int32) (v_bench_apart : Nat → Int32) (v_couples_lesser : Nat → Int32) (v_couples_greater : Nat → Int32) (v_bench_clash : Nat → Int32) (v_couples_tooNear : Nat → Int32) (v_couples_clash : Nat → Int32) (v_sets_size : Int32) (v_sets_places : Int32) (v_sets_filled : Nat → Int32) (v_sets_open : Nat → Int32) (v_sitters_set : Int32) (v_sitters_bear : Int32) (v_sitters_nearest : Nat → Int32) (x1 : Int32) : Option (Int32 × Int32 × (Nat → Int32) × (Nat → Int32) × (Nat → Int32) × (Nat → Int32) × Int32 × Int32 × (Nat → Int32) × (Nat → Int32) × Int32 × Int32 × (Nat → Int32)) :=
  (f_X10_isWithin x1 (0 : Int32) (1 : Int32)).bind (fun u1 =>
  if u1 = 0 then
  some ((-2 : Int32), v_couples_count, v_couples_lesser, v_couples_greater, v_couples_tooNear, v_couples_clash, v_sets_size, v_sets_places, v_sets_filled, v_sets_open, v_sitters_set, v_sitters_bear, v_sitters_nearest)
  else
  (f_X2_list v_scene_seats v_bench_apart v_couples_lesser v_couples_greater v_bench_clash v_couples_tooNear).bind (fun u3 =>
  (if x1 = 0 then
  (f_X2_sitInTurn v_scene_seats v_scene_bear v_sitters_nearest u3.1 u3.2.1 u3.2.2.1 v_bench_apart).bind (fun u8 =>
  some (u8.1, v_couples_clash, v_sets_size, v_sets_places, v_sets_filled, v_sets_open, u8.2.1, u8.2.2.1, u8.2.2.2))
  else
  (f_X2_mostAtOnce u3.1 v_couples_clash u3.2.1 u3.2.2.1 u3.2.2.2 v_sets_filled v_sets_open).bind (fun u7 =>
  some (u7.1, u7.2.1, u7.2.2.1, u7.2.2.2.1, u7.2.2.2.2.1, u7.2.2.2.2.2, v_sitters_set, v_sitters_bear, v_sitters_nearest))).bind (fun w4 =>
  some (w4.1, u3.1, u3.2.1, u3.2.2.1, u3.2.2.2, w4.2.1, w4.2.2.1, w4.2.2.2.1, w4.2.2.2.2.1, w4.2.2.2.2.2.1, w4.2.2.2.2.2.2.1, w4.2.2.2.2.2.2.2.1, w4.2.2.2.2.2.2.2.2))))
set_option maxHeartbeats 4000000 in
set_option maxRecDepth 100000 in
theorem c_X10_pairs (l : Launch) (D : va_G) (cI cJ cZ cO : ClassId) (a_t a_pad a_scene a_images a_bench a_trial a_sitters a_trialSitters a_sets a_census a_match a_couples a_passing a_longRows a_couples_lesser a_couples_greater a_couples_tooNear a_couples_clash a_bench_apart a_bench_clash a_bench_neighbours a_scene_steps a_scene_worths a_scene_comers a_scene_seen a_scene_seenLengths a_sets_filled a_sets_open a_sets_chance a_sitters_nearest : Nat) (v_couples_count : Int32) (v_scene_seats : Int32) (v_scene_bear : Int32) (v_scene_comerCount : Int32) (v_scene_seenRows : Int32) (v_bench_apart : Nat → Int32) (v_couples_lesser : Nat → Int32) (v_couples_greater : Nat → Int32) (v_bench_clash : Nat → Int32) (v_couples_tooNear : Nat → Int32) (v_couples_clash : Nat → Int32) (v_sets_size : Int32) (v_sets_places : Int32) (v_sets_filled : Nat → Int32) (v_sets_open : Nat → Int32) (v_sitters_set : Int32) (v_sitters_bear : Int32) (v_sitters_nearest : Nat → Int32) (x1 : Int32) (out : Int32 × Int32 × (Nat → Int32) × (Nat → Int32) × (Nat → Int32) × (Nat → Int32) × Int32 × Int32 × (Nat → Int32) × (Nat → Int32) × Int32 × Int32 × (Nat → Int32)) (hf : f_X10_pairs v_couples_count v_scene_seats v_scene_bear v_bench_apart v_couples_lesser v_couples_greater v_bench_clash v_couples_tooNear v_couples_clash v_sets_size v_sets_places v_sets_filled v_sets_open v_sitters_set v_sitters_bear v_sitters_nearest x1 = some out) : MetR l yX10_pairs (Cond.code yX10_pairs cX10_pairs 2 (some .int) :: tbG) { frames := 3, cells := 0, slots := 0, locals := 67 } D (tyL cI cJ cZ cO) [.ref a_t, .int x1] [(a_t, .inr (10, [.ref a_pad, .ref a_scene, .ref a_images, .ref a_bench, .ref a_trial, .ref a_sitters, .ref a_trialSitters, .ref a_sets, .ref a_census, .ref a_match, .ref a_couples, .ref a_passing, .ref a_longRows])), (a_couples, .inr (2, [.ref a_couples_lesser, .ref a_couples_greater, .ref a_couples_tooNear, .ref a_couples_clash, .int v_couples_count])), (a_bench, .inr (0, [.ref a_scene, .ref a_bench_apart, .ref a_bench_clash, .ref a_bench_neighbours])), (a_scene, .inr (7, [.ref a_scene_steps, .ref a_scene_worths, .ref a_scene_comers, .ref a_scene_seen, .ref a_scene_seenLengths, .int v_scene_seats, .int v_scene_bear, .int v_scene_comerCount, .int v_scene_seenRows])), (a_bench_apart, eI cI 144 v_bench_apart), (a_couples_lesser, eI cI 12 v_couples_lesser), (a_couples_greater, eI cI 12 v_couples_greater), (a_bench_clash, eI cI 12 v_bench_clash), (a_couples_tooNear, eI cI 12 v_couples_tooNear), (a_couples_clash, eI cI 12 v_couples_clash), (a_sets, .inr (8, [.ref a_sets_filled, .ref a_sets_open, .ref a_sets_chance, .int v_sets_size, .int v_sets_places])), (a_sets_filled, eI cI 4096 v_sets_filled), (a_sets_open, eI cI 4096 v_sets_open), (a_sitters, .inr (9, [.ref a_bench, .ref a_sitters_nearest, .int v_sitters_set, .int v_sitters_bear])), (a_sitters_nearest, eI cI 12 v_sitters_nearest)] (some (.int out.1)) [(a_t, .inr (10, [.ref a_pad, .ref a_scene, .ref a_images, .ref a_bench, .ref a_trial, .ref a_sitters, .ref a_trialSitters, .ref a_sets, .ref a_census, .ref a_match, .ref a_couples, .ref a_passing, .ref a_longRows])), (a_couples, .inr (2, [.ref a_couples_lesser, .ref a_couples_greater, .ref a_couples_tooNear, .ref a_couples_clash, .int out.2.1])), (a_bench, .inr (0, [.ref a_scene, .ref a_bench_apart, .ref a_bench_clash, .ref a_bench_neighbours])), (a_scene, .inr (7, [.ref a_scene_steps, .ref a_scene_worths, .ref a_scene_comers, .ref a_scene_seen, .ref a_scene_seenLengths, .int v_scene_seats, .int v_scene_bear, .int v_scene_comerCount, .int v_scene_seenRows])), (a_bench_apart, eI cI 144 v_bench_apart), (a_couples_lesser, eI cI 12 out.2.2.1), (a_couples_greater, eI cI 12 out.2.2.2.1), (a_bench_clash, eI cI 12 v_bench_clash), (a_couples_tooNear, eI cI 12 out.2.2.2.2.1), (a_couples_clash, eI cI 12 out.2.2.2.2.2.1), (a_sets, .inr (8, [.ref a_sets_filled, .ref a_sets_open, .ref a_sets_chance, .int out.2.2.2.2.2.2.1, .int out.2.2.2.2.2.2.2.1])), (a_sets_filled, eI cI 4096 out.2.2.2.2.2.2.2.2.1), (a_sets_open, eI cI 4096 out.2.2.2.2.2.2.2.2.2.1), (a_sitters, .inr (9, [.ref a_bench, .ref a_sitters_nearest, .int out.2.2.2.2.2.2.2.2.2.2.1, .int out.2.2.2.2.2.2.2.2.2.2.2.1])), (a_sitters_nearest, eI cI 12 out.2.2.2.2.2.2.2.2.2.2.2.2)] := by
  refine ba_ofI RX10 [(0, .ref a_t), (1, .int x1)] (by decide +kernel) rfl (Nat.le_of_ble_eq_true rfl) rfl ?_
  intro p e s m args below meth c Q A Cx hP ret ls hl
  obtain ⟨⟨hx, hb, hml, hown, hts⟩, hK, hD, hA⟩ := id Cx
  have hS : va_S A s.heap s.heap [] := va_S.rf
  unfold f_X10_pairs at hf
  refine lv_iload_n hx hb dX10_pairs_0 rfl (lv_at hl 1 rfl) ?_
  refine lv_iconst (v := 0) hx hb dX10_pairs_1 (by decide) ?_
  refine lv_iconst (v := 1) hx hb dX10_pairs_2 (by decide) ?_
  obtain ⟨u1, hu1, hf⟩ := ob_b hf
  refine iv_X10_99 (As := [.int x1, .int (0 : Int32), .int (1 : Int32)]) (rest := []) (is := []) (X' := [(a_t, .inr (10, [.ref a_pad, .ref a_scene, .ref a_images, .ref a_bench, .ref a_trial, .ref a_sitters, .ref a_trialSitters, .ref a_sets, .ref a_census, .ref a_match, .ref a_couples, .ref a_passing, .ref a_longRows])), (a_couples, .inr (2, [.ref a_couples_lesser, .ref a_couples_greater, .ref a_couples_tooNear, .ref a_couples_clash, .int v_couples_count])), (a_bench, .inr (0, [.ref a_scene, .ref a_bench_apart, .ref a_bench_clash, .ref a_bench_neighbours])), (a_scene, .inr (7, [.ref a_scene_steps, .ref a_scene_worths, .ref a_scene_comers, .ref a_scene_seen, .ref a_scene_seenLengths, .int v_scene_seats, .int v_scene_bear, .int v_scene_comerCount, .int v_scene_seenRows])), (a_bench_apart, eI cI 144 v_bench_apart), (a_couples_lesser, eI cI 12 v_couples_lesser), (a_couples_greater, eI cI 12 v_couples_greater), (a_bench_clash, eI cI 12 v_bench_clash), (a_couples_tooNear, eI cI 12 v_couples_tooNear), (a_couples_clash, eI cI 12 v_couples_clash), (a_sets, .inr (8, [.ref a_sets_filled, .ref a_sets_open, .ref a_sets_chance, .int v_sets_size, .int v_sets_places])), (a_sets_filled, eI cI 4096 v_sets_filled), (a_sets_open, eI cI 4096 v_sets_open), (a_sitters, .inr (9, [.ref a_bench, .ref a_sitters_nearest, .int v_sitters_set, .int v_sitters_bear])), (a_sitters_nearest, eI cI 12 v_sitters_nearest)]) Cx (c_X10_isWithin l D cI cJ cZ cO  x1 (0 : Int32) (1 : Int32) u1 hu1) hP hS rfl rfl rfl rfl rfl rfl hl.1 (Nat.le_of_ble_eq_true rfl) dX10_pairs_3 rfl rfl ⟨Nat.le_of_ble_eq_true rfl, Nat.le_of_ble_eq_true rfl⟩ ⟨Nat.zero_le _, Nat.zero_le _⟩ rfl (fun H locs hP hS => ?_)
  refine lv_if_ne (tgt := 12) hx hb dX10_pairs_6 (by decide) (fun c2 => ?_) (fun c2 => ?_)
  · have hf := ob_f c2 hf
    refine lv_aload_n hx hb dX10_pairs_12 rfl (lv_at hl 0 rfl) ?_
    refine gf_X10_75 Cx hP 0 rfl rfl dX10_pairs_13 ?_
    refine lv_aload_n hx hb dX10_pairs_16 rfl (lv_at hl 0 rfl) ?_
    refine gf_X10_32 Cx hP 0 rfl rfl dX10_pairs_17 ?_
    obtain ⟨u3, hu3, hf⟩ := ob_b hf
    refine iv_X10_217 (As := [.ref a_bench]) (rest := []) (is := [1, 2, 3, 4, 5, 6, 7, 8]) (q0 := 1) (X' := [(a_t, .inr (10, [.ref a_pad, .ref a_scene, .ref a_images, .ref a_bench, .ref a_trial, .ref a_sitters, .ref a_trialSitters, .ref a_sets, .ref a_census, .ref a_match, .ref a_couples, .ref a_passing, .ref a_longRows])), (a_couples, .inr (2, [.ref a_couples_lesser, .ref a_couples_greater, .ref a_couples_tooNear, .ref a_couples_clash, .int u3.1])), (a_bench, .inr (0, [.ref a_scene, .ref a_bench_apart, .ref a_bench_clash, .ref a_bench_neighbours])), (a_scene, .inr (7, [.ref a_scene_steps, .ref a_scene_worths, .ref a_scene_comers, .ref a_scene_seen, .ref a_scene_seenLengths, .int v_scene_seats, .int v_scene_bear, .int v_scene_comerCount, .int v_scene_seenRows])), (a_bench_apart, eI cI 144 v_bench_apart), (a_couples_lesser, eI cI 12 u3.2.1), (a_couples_greater, eI cI 12 u3.2.2.1), (a_bench_clash, eI cI 12 v_bench_clash), (a_couples_tooNear, eI cI 12 u3.2.2.2), (a_couples_clash, eI cI 12 v_couples_clash), (a_sets, .inr (8, [.ref a_sets_filled, .ref a_sets_open, .ref a_sets_chance, .int v_sets_size, .int v_sets_places])), (a_sets_filled, eI cI 4096 v_sets_filled), (a_sets_open, eI cI 4096 v_sets_open), (a_sitters, .inr (9, [.ref a_bench, .ref a_sitters_nearest, .int v_sitters_set, .int v_sitters_bear])), (a_sitters_nearest, eI cI 12 v_sitters_nearest)]) Cx (c_X2_list l D cI cJ cZ cO a_couples a_couples_lesser a_couples_greater a_couples_tooNear a_couples_clash a_bench a_scene a_bench_apart a_bench_clash a_bench_neighbours a_scene_steps a_scene_worths a_scene_comers a_scene_seen a_scene_seenLengths v_couples_count v_scene_seats v_scene_bear v_scene_comerCount v_scene_seenRows v_bench_apart v_couples_lesser v_couples_greater v_bench_clash v_couples_tooNear u3 hu3) hP hS rfl rfl rfl rfl rfl rfl rfl hl.1 (Nat.le_of_ble_eq_true rfl) dX10_pairs_20 rfl rfl ⟨Nat.le_of_ble_eq_true rfl, Nat.le_of_ble_eq_true rfl⟩ ⟨Nat.zero_le _, Nat.zero_le _⟩ rfl (fun H locs hP hS => ?_)
    refine lv_iload_n hx hb dX10_pairs_23 rfl (lv_at hl 1 rfl) ?_
    refine ob_J (P := fun w4 => ∀ (H : Heap) (locs : List Loc) (ls : Array Slot), va_P D vwCl [(a_t, .inr (10, [.ref a_pad, .ref a_scene, .ref a_images, .ref a_bench, .ref a_trial, .ref a_sitters, .ref a_trialSitters, .ref a_sets, .ref a_census, .ref a_match, .ref a_couples, .ref a_passing, .ref a_longRows])), (a_couples, .inr (2, [.ref a_couples_lesser, .ref a_couples_greater, .ref a_couples_tooNear, .ref a_couples_clash, .int u3.1])), (a_bench, .inr (0, [.ref a_scene, .ref a_bench_apart, .ref a_bench_clash, .ref a_bench_neighbours])), (a_scene, .inr (7, [.ref a_scene_steps, .ref a_scene_worths, .ref a_scene_comers, .ref a_scene_seen, .ref a_scene_seenLengths, .int v_scene_seats, .int v_scene_bear, .int v_scene_comerCount, .int v_scene_seenRows])), (a_bench_apart, eI cI 144 v_bench_apart), (a_couples_lesser, eI cI 12 u3.2.1), (a_couples_greater, eI cI 12 u3.2.2.1), (a_bench_clash, eI cI 12 v_bench_clash), (a_couples_tooNear, eI cI 12 u3.2.2.2), (a_couples_clash, eI cI 12 w4.2.1), (a_sets, .inr (8, [.ref a_sets_filled, .ref a_sets_open, .ref a_sets_chance, .int w4.2.2.1, .int w4.2.2.2.1])), (a_sets_filled, eI cI 4096 w4.2.2.2.2.1), (a_sets_open, eI cI 4096 w4.2.2.2.2.2.1), (a_sitters, .inr (9, [.ref a_bench, .ref a_sitters_nearest, .int w4.2.2.2.2.2.2.1, .int w4.2.2.2.2.2.2.2.1])), (a_sitters_nearest, eI cI 12 w4.2.2.2.2.2.2.2.2)] H → va_S A s.heap H locs → lv_has ls 2 [] → W p l e { frames := 3, cells := 0, slots := 0, locals := 67 } s m args below meth c H locs 0 0 Q (F0 m 52 ls [.int w4.1])) hf ?_ ?_
    · intro w4 hf H locs ls hP hS hl
      obtain rfl := Option.some.inj hf
      exact ret _ _ _ _ dX10_pairs_52 hP hS
    · intro J52_5 hf
      refine lv_if_ne (tgt := 41) hx hb dX10_pairs_24 (by decide) (fun c6 => ?_) (fun c6 => ?_)
      · have hf := ob_fk c6 hf
        refine lv_aload_n hx hb dX10_pairs_41 rfl (lv_at hl 0 rfl) ?_
        refine gf_X10_75 Cx hP 0 rfl rfl dX10_pairs_42 ?_
        refine lv_aload_n hx hb dX10_pairs_45 rfl (lv_at hl 0 rfl) ?_
        refine gf_X10_54 Cx hP 0 rfl rfl dX10_pairs_46 ?_
        obtain ⟨u7, hu7, hf⟩ := ob_bk hf
        refine iv_X10_224 (As := [.ref a_sets]) (rest := []) (is := [1, 9, 5, 6, 8, 10, 11, 12]) (q0 := 1) (X' := [(a_t, .inr (10, [.ref a_pad, .ref a_scene, .ref a_images, .ref a_bench, .ref a_trial, .ref a_sitters, .ref a_trialSitters, .ref a_sets, .ref a_census, .ref a_match, .ref a_couples, .ref a_passing, .ref a_longRows])), (a_couples, .inr (2, [.ref a_couples_lesser, .ref a_couples_greater, .ref a_couples_tooNear, .ref a_couples_clash, .int u3.1])), (a_bench, .inr (0, [.ref a_scene, .ref a_bench_apart, .ref a_bench_clash, .ref a_bench_neighbours])), (a_scene, .inr (7, [.ref a_scene_steps, .ref a_scene_worths, .ref a_scene_comers, .ref a_scene_seen, .ref a_scene_seenLengths, .int v_scene_seats, .int v_scene_bear, .int v_scene_comerCount, .int v_scene_seenRows])), (a_bench_apart, eI cI 144 v_bench_apart), (a_couples_lesser, eI cI 12 u3.2.1), (a_couples_greater, eI cI 12 u3.2.2.1), (a_bench_clash, eI cI 12 v_bench_clash), (a_couples_tooNear, eI cI 12 u3.2.2.2), (a_couples_clash, eI cI 12 u7.2.1), (a_sets, .inr (8, [.ref a_sets_filled, .ref a_sets_open, .ref a_sets_chance, .int u7.2.2.1, .int u7.2.2.2.1])), (a_sets_filled, eI cI 4096 u7.2.2.2.2.1), (a_sets_open, eI cI 4096 u7.2.2.2.2.2), (a_sitters, .inr (9, [.ref a_bench, .ref a_sitters_nearest, .int v_sitters_set, .int v_sitters_bear])), (a_sitters_nearest, eI cI 12 v_sitters_nearest)]) Cx (c_X2_mostAtOnce l D cI cJ cZ cO a_couples a_couples_lesser a_couples_greater a_couples_tooNear a_couples_clash a_sets a_sets_filled a_sets_open a_sets_chance u3.1 v_couples_clash u3.2.1 u3.2.2.1 u3.2.2.2 v_sets_size v_sets_places v_sets_filled v_sets_open u7 hu7) hP hS rfl rfl rfl rfl rfl rfl rfl hl.1 (Nat.le_of_ble_eq_true rfl) dX10_pairs_49 rfl rfl ⟨Nat.le_of_ble_eq_true rfl, Nat.le_of_ble_eq_true rfl⟩ ⟨Nat.zero_le _, Nat.zero_le _⟩ rfl (fun H locs hP hS => ?_)
        exact J52_5 (u7.1, u7.2.1, u7.2.2.1, u7.2.2.2.1, u7.2.2.2.2.1, u7.2.2.2.2.2, v_sitters_set, v_sitters_bear, v_sitters_nearest) hf _ _ _ hP hS (lv_sub hl [] rfl)
      · have hf := ob_tk c6 hf
        refine lv_aload_n hx hb dX10_pairs_27 rfl (lv_at hl 0 rfl) ?_
        refine gf_X10_75 Cx hP 0 rfl rfl dX10_pairs_28 ?_
        refine lv_aload_n hx hb dX10_pairs_31 rfl (lv_at hl 0 rfl) ?_
        refine gf_X10_44 Cx hP 0 rfl rfl dX10_pairs_32 ?_
        obtain ⟨u8, hu8, hf⟩ := ob_bk hf
        refine iv_X10_220 (As := [.ref a_sitters]) (rest := []) (is := [13, 2, 3, 14, 1, 5, 6, 4]) (q0 := 1) (X' := [(a_t, .inr (10, [.ref a_pad, .ref a_scene, .ref a_images, .ref a_bench, .ref a_trial, .ref a_sitters, .ref a_trialSitters, .ref a_sets, .ref a_census, .ref a_match, .ref a_couples, .ref a_passing, .ref a_longRows])), (a_couples, .inr (2, [.ref a_couples_lesser, .ref a_couples_greater, .ref a_couples_tooNear, .ref a_couples_clash, .int u3.1])), (a_bench, .inr (0, [.ref a_scene, .ref a_bench_apart, .ref a_bench_clash, .ref a_bench_neighbours])), (a_scene, .inr (7, [.ref a_scene_steps, .ref a_scene_worths, .ref a_scene_comers, .ref a_scene_seen, .ref a_scene_seenLengths, .int v_scene_seats, .int v_scene_bear, .int v_scene_comerCount, .int v_scene_seenRows])), (a_bench_apart, eI cI 144 v_bench_apart), (a_couples_lesser, eI cI 12 u3.2.1), (a_couples_greater, eI cI 12 u3.2.2.1), (a_bench_clash, eI cI 12 v_bench_clash), (a_couples_tooNear, eI cI 12 u3.2.2.2), (a_couples_clash, eI cI 12 v_couples_clash), (a_sets, .inr (8, [.ref a_sets_filled, .ref a_sets_open, .ref a_sets_chance, .int v_sets_size, .int v_sets_places])), (a_sets_filled, eI cI 4096 v_sets_filled), (a_sets_open, eI cI 4096 v_sets_open), (a_sitters, .inr (9, [.ref a_bench, .ref a_sitters_nearest, .int u8.2.1, .int u8.2.2.1])), (a_sitters_nearest, eI cI 12 u8.2.2.2)]) Cx (c_X2_sitInTurn l D cI cJ cZ cO a_sitters a_bench a_sitters_nearest a_scene a_bench_apart a_bench_clash a_bench_neighbours a_scene_steps a_scene_worths a_scene_comers a_scene_seen a_scene_seenLengths a_couples a_couples_lesser a_couples_greater a_couples_tooNear a_couples_clash v_sitters_set v_sitters_bear v_scene_seats v_scene_bear v_scene_comerCount v_scene_seenRows v_sitters_nearest u3.1 u3.2.1 u3.2.2.1 v_bench_apart u8 hu8) hP hS rfl rfl rfl rfl rfl rfl rfl hl.1 (Nat.le_of_ble_eq_true rfl) dX10_pairs_35 rfl rfl ⟨Nat.le_of_ble_eq_true rfl, Nat.le_of_ble_eq_true rfl⟩ ⟨Nat.zero_le _, Nat.zero_le _⟩ rfl (fun H locs hP hS => ?_)
        refine lv_goto (tgt := 52) hx hb dX10_pairs_38 (by decide) ?_
        exact J52_5 (u8.1, v_couples_clash, v_sets_size, v_sets_places, v_sets_filled, v_sets_open, u8.2.1, u8.2.2.1, u8.2.2.2) hf _ _ _ hP hS (lv_sub hl [] rfl)
  · have hf := ob_t c2 hf
    refine lv_bipush (v := (-2)) hx hb dX10_pairs_9 (by decide) ?_
    obtain rfl := Option.some.inj hf
    exact ret _ _ _ _ dX10_pairs_11 hP hS

def f_X10_late_40 (v_scene_seats : Int32) (v_scene_worths : Nat → Int32) (v_bench_neighbours : Nat → Int32) (v_bench_apart : Nat → Int32) (x1 : Int32) (x2 : Int32) : Nat → Int32 → Int32 → Int32 → (Nat → Int32) → Option (Int32 × Int32 × (Nat → Int32))
  | 0, _, _, _, _ => none
  | n + 1, y3_40, z_sitters_set_40, z_sitters_bear_40, z_sitters_nearest_40 =>
  if y3_40 < x2 then
  some (z_sitters_set_40, z_sitters_bear_40, z_sitters_nearest_40)
  else
  (f_X9_fillUp z_sitters_set_40 y3_40 v_scene_seats z_sitters_nearest_40 v_scene_worths v_bench_neighbours v_bench_apart x1).bind (fun u8 =>
  f_X10_late_40 v_scene_seats v_scene_worths v_bench_neighbours v_bench_apart x1 x2 n (y3_40 + (-1)) u8.1 y3_40 u8.2)
theorem f_X10_late_40_s (v_scene_seats : Int32) (v_scene_worths : Nat → Int32) (v_bench_neighbours : Nat → Int32) (v_bench_apart : Nat → Int32) (x1 : Int32) (x2 : Int32) (n : Nat) (y3_40 : Int32) (z_sitters_set_40 : Int32) (z_sitters_bear_40 : Int32) (z_sitters_nearest_40 : Nat → Int32) : f_X10_late_40 v_scene_seats v_scene_worths v_bench_neighbours v_bench_apart x1 x2 (n + 1) y3_40 z_sitters_set_40 z_sitters_bear_40 z_sitters_nearest_40 =
  (if y3_40 < x2 then
  some (z_sitters_set_40, z_sitters_bear_40, z_sitters_nearest_40)
  else
  (f_X9_fillUp z_sitters_set_40 y3_40 v_scene_seats z_sitters_nearest_40 v_scene_worths v_bench_neighbours v_bench_apart x1).bind (fun u8 =>
  f_X10_late_40 v_scene_seats v_scene_worths v_bench_neighbours v_bench_apart x1 x2 n (y3_40 + (-1)) u8.1 y3_40 u8.2)) := rfl
def f_X10_late (v_scene_seats : Int32) (v_scene_bear : Int32) (v_sitters_set : Int32) (v_sitters_bear : Int32) (v_sitters_nearest : Nat → Int32) (v_scene_worths : Nat → Int32) (v_bench_neighbours : Nat → Int32) (v_bench_apart : Nat → Int32) (x1 : Int32) (x2 : Int32) : Option (Int32 × Int32 × Int32 × (Nat → Int32)) :=
  (f_X10_isHabit x1).bind (fun u1 =>
  if u1 = 0 then
  some ((-2 : Int32), v_sitters_set, v_sitters_bear, v_sitters_nearest)
  else
  (f_X10_isWithin x2 (1 : Int32) v_scene_bear).bind (fun u3 =>
  if u3 = 0 then
  some ((-2 : Int32), v_sitters_set, v_sitters_bear, v_sitters_nearest)
  else
  (f_X9_leave v_scene_bear v_sitters_nearest).bind (fun u5 =>
  (f_X10_late_40 v_scene_seats v_scene_worths v_bench_neighbours v_bench_apart x1 x2 FU v_scene_bear u5.1 u5.2.1 u5.2.2).bind (fun u9 =>
  (f_X9_number u9.1).bind (fun u10 =>
  some (u10, u9.1, u9.2.1, u9.2.2))))))
set_option maxHeartbeats 4000000 in
set_option maxRecDepth 100000 in
theorem c_X10_late (l : Launch) (D : va_G) (cI cJ cZ cO : ClassId) (a_t a_pad a_scene a_images a_bench a_trial a_sitters a_trialSitters a_sets a_census a_match a_couples a_passing a_longRows a_scene_steps a_scene_worths a_scene_comers a_scene_seen a_scene_seenLengths a_sitters_nearest a_bench_apart a_bench_clash a_bench_neighbours : Nat) (v_scene_seats : Int32) (v_scene_bear : Int32) (v_scene_comerCount : Int32) (v_scene_seenRows : Int32) (v_sitters_set : Int32) (v_sitters_bear : Int32) (v_sitters_nearest : Nat → Int32) (v_scene_worths : Nat → Int32) (v_bench_neighbours : Nat → Int32) (v_bench_apart : Nat → Int32) (x1 : Int32) (x2 : Int32) (out : Int32 × Int32 × Int32 × (Nat → Int32)) (hf : f_X10_late v_scene_seats v_scene_bear v_sitters_set v_sitters_bear v_sitters_nearest v_scene_worths v_bench_neighbours v_bench_apart x1 x2 = some out) : MetR l yX10_late (Cond.code yX10_late cX10_late 4 (some .int) :: tbG) { frames := 3, cells := 0, slots := 0, locals := 70 } D (tyL cI cJ cZ cO) [.ref a_t, .int x1, .int x2] [(a_t, .inr (10, [.ref a_pad, .ref a_scene, .ref a_images, .ref a_bench, .ref a_trial, .ref a_sitters, .ref a_trialSitters, .ref a_sets, .ref a_census, .ref a_match, .ref a_couples, .ref a_passing, .ref a_longRows])), (a_scene, .inr (7, [.ref a_scene_steps, .ref a_scene_worths, .ref a_scene_comers, .ref a_scene_seen, .ref a_scene_seenLengths, .int v_scene_seats, .int v_scene_bear, .int v_scene_comerCount, .int v_scene_seenRows])), (a_sitters, .inr (9, [.ref a_bench, .ref a_sitters_nearest, .int v_sitters_set, .int v_sitters_bear])), (a_bench, .inr (0, [.ref a_scene, .ref a_bench_apart, .ref a_bench_clash, .ref a_bench_neighbours])), (a_sitters_nearest, eI cI 12 v_sitters_nearest), (a_scene_worths, eI cI 12 v_scene_worths), (a_bench_neighbours, eI cI 12 v_bench_neighbours), (a_bench_apart, eI cI 144 v_bench_apart)] (some (.int out.1)) [(a_t, .inr (10, [.ref a_pad, .ref a_scene, .ref a_images, .ref a_bench, .ref a_trial, .ref a_sitters, .ref a_trialSitters, .ref a_sets, .ref a_census, .ref a_match, .ref a_couples, .ref a_passing, .ref a_longRows])), (a_scene, .inr (7, [.ref a_scene_steps, .ref a_scene_worths, .ref a_scene_comers, .ref a_scene_seen, .ref a_scene_seenLengths, .int v_scene_seats, .int v_scene_bear, .int v_scene_comerCount, .int v_scene_seenRows])), (a_sitters, .inr (9, [.ref a_bench, .ref a_sitters_nearest, .int out.2.1, .int out.2.2.1])), (a_bench, .inr (0, [.ref a_scene, .ref a_bench_apart, .ref a_bench_clash, .ref a_bench_neighbours])), (a_sitters_nearest, eI cI 12 out.2.2.2), (a_scene_worths, eI cI 12 v_scene_worths), (a_bench_neighbours, eI cI 12 v_bench_neighbours), (a_bench_apart, eI cI 144 v_bench_apart)] := by
  refine ba_ofI RX10 [(0, .ref a_t), (1, .int x1), (2, .int x2)] (by decide +kernel) rfl (Nat.le_of_ble_eq_true rfl) rfl ?_
  intro p e s m args below meth c Q A Cx hP ret ls hl
  obtain ⟨⟨hx, hb, hml, hown, hts⟩, hK, hD, hA⟩ := id Cx
  have hS : va_S A s.heap s.heap [] := va_S.rf
  unfold f_X10_late at hf
  refine lv_iload_n hx hb dX10_late_0 rfl (lv_at hl 1 rfl) ?_
  obtain ⟨u1, hu1, hf⟩ := ob_b hf
  refine iv_X10_158 (As := [.int x1]) (rest := []) (is := []) (X' := [(a_t, .inr (10, [.ref a_pad, .ref a_scene, .ref a_images, .ref a_bench, .ref a_trial, .ref a_sitters, .ref a_trialSitters, .ref a_sets, .ref a_census, .ref a_match, .ref a_couples, .ref a_passing, .ref a_longRows])), (a_scene, .inr (7, [.ref a_scene_steps, .ref a_scene_worths, .ref a_scene_comers, .ref a_scene_seen, .ref a_scene_seenLengths, .int v_scene_seats, .int v_scene_bear, .int v_scene_comerCount, .int v_scene_seenRows])), (a_sitters, .inr (9, [.ref a_bench, .ref a_sitters_nearest, .int v_sitters_set, .int v_sitters_bear])), (a_bench, .inr (0, [.ref a_scene, .ref a_bench_apart, .ref a_bench_clash, .ref a_bench_neighbours])), (a_sitters_nearest, eI cI 12 v_sitters_nearest), (a_scene_worths, eI cI 12 v_scene_worths), (a_bench_neighbours, eI cI 12 v_bench_neighbours), (a_bench_apart, eI cI 144 v_bench_apart)]) Cx (c_X10_isHabit l D cI cJ cZ cO  x1 u1 hu1) hP hS rfl rfl rfl rfl rfl rfl hl.1 (Nat.le_of_ble_eq_true rfl) dX10_late_1 rfl rfl ⟨Nat.le_of_ble_eq_true rfl, Nat.le_of_ble_eq_true rfl⟩ ⟨Nat.zero_le _, Nat.zero_le _⟩ rfl (fun H locs hP hS => ?_)
  refine lv_if_eq (tgt := 22) hx hb dX10_late_4 (by decide) (fun c2 => ?_) (fun c2 => ?_)
  · have hf := ob_t c2 hf
    refine lv_bipush (v := (-2)) hx hb dX10_late_22 (by decide) ?_
    obtain rfl := Option.some.inj hf
    exact ret _ _ _ _ dX10_late_24 hP hS
  · have hf := ob_f c2 hf
    refine lv_iload_n hx hb dX10_late_7 rfl (lv_at hl 2 rfl) ?_
    refine lv_iconst (v := 1) hx hb dX10_late_8 (by decide) ?_
    refine lv_aload_n hx hb dX10_late_9 rfl (lv_at hl 0 rfl) ?_
    refine gf_X10_19 Cx hP 0 rfl rfl dX10_late_10 ?_
    refine gf_X10_144 Cx hP 1 rfl rfl dX10_late_13 ?_
    obtain ⟨u3, hu3, hf⟩ := ob_b hf
    refine iv_X10_99 (As := [.int x2, .int (1 : Int32), .int v_scene_bear]) (rest := []) (is := []) (X' := [(a_t, .inr (10, [.ref a_pad, .ref a_scene, .ref a_images, .ref a_bench, .ref a_trial, .ref a_sitters, .ref a_trialSitters, .ref a_sets, .ref a_census, .ref a_match, .ref a_couples, .ref a_passing, .ref a_longRows])), (a_scene, .inr (7, [.ref a_scene_steps, .ref a_scene_worths, .ref a_scene_comers, .ref a_scene_seen, .ref a_scene_seenLengths, .int v_scene_seats, .int v_scene_bear, .int v_scene_comerCount, .int v_scene_seenRows])), (a_sitters, .inr (9, [.ref a_bench, .ref a_sitters_nearest, .int v_sitters_set, .int v_sitters_bear])), (a_bench, .inr (0, [.ref a_scene, .ref a_bench_apart, .ref a_bench_clash, .ref a_bench_neighbours])), (a_sitters_nearest, eI cI 12 v_sitters_nearest), (a_scene_worths, eI cI 12 v_scene_worths), (a_bench_neighbours, eI cI 12 v_bench_neighbours), (a_bench_apart, eI cI 144 v_bench_apart)]) Cx (c_X10_isWithin l D cI cJ cZ cO  x2 (1 : Int32) v_scene_bear u3 hu3) hP hS rfl rfl rfl rfl rfl rfl hl.1 (Nat.le_of_ble_eq_true rfl) dX10_late_16 rfl rfl ⟨Nat.le_of_ble_eq_true rfl, Nat.le_of_ble_eq_true rfl⟩ ⟨Nat.zero_le _, Nat.zero_le _⟩ rfl (fun H locs hP hS => ?_)
    refine lv_if_ne (tgt := 25) hx hb dX10_late_19 (by decide) (fun c4 => ?_) (fun c4 => ?_)
    · have hf := ob_f c4 hf
      refine lv_aload_n hx hb dX10_late_25 rfl (lv_at hl 0 rfl) ?_
      refine gf_X10_44 Cx hP 0 rfl rfl dX10_late_26 ?_
      obtain ⟨u5, hu5, hf⟩ := ob_b hf
      refine iv_X10_228 (As := []) (rest := []) (is := [2, 3, 1, 4]) (q0 := 2) (X' := [(a_t, .inr (10, [.ref a_pad, .ref a_scene, .ref a_images, .ref a_bench, .ref a_trial, .ref a_sitters, .ref a_trialSitters, .ref a_sets, .ref a_census, .ref a_match, .ref a_couples, .ref a_passing, .ref a_longRows])), (a_scene, .inr (7, [.ref a_scene_steps, .ref a_scene_worths, .ref a_scene_comers, .ref a_scene_seen, .ref a_scene_seenLengths, .int v_scene_seats, .int v_scene_bear, .int v_scene_comerCount, .int v_scene_seenRows])), (a_sitters, .inr (9, [.ref a_bench, .ref a_sitters_nearest, .int u5.1, .int u5.2.1])), (a_bench, .inr (0, [.ref a_scene, .ref a_bench_apart, .ref a_bench_clash, .ref a_bench_neighbours])), (a_sitters_nearest, eI cI 12 u5.2.2), (a_scene_worths, eI cI 12 v_scene_worths), (a_bench_neighbours, eI cI 12 v_bench_neighbours), (a_bench_apart, eI cI 144 v_bench_apart)]) Cx (c_X9_leave l D cI cJ cZ cO a_sitters a_bench a_sitters_nearest a_scene a_bench_apart a_bench_clash a_bench_neighbours a_scene_steps a_scene_worths a_scene_comers a_scene_seen a_scene_seenLengths v_sitters_set v_sitters_bear v_scene_seats v_scene_bear v_scene_comerCount v_scene_seenRows v_sitters_nearest u5 hu5) hP hS rfl rfl rfl rfl rfl rfl rfl hl.1 (Nat.le_of_ble_eq_true rfl) dX10_late_29 rfl rfl ⟨Nat.le_of_ble_eq_true rfl, Nat.le_of_ble_eq_true rfl⟩ ⟨Nat.zero_le _, Nat.zero_le _⟩ rfl (fun H locs hP hS => ?_)
      refine lv_aload_n hx hb dX10_late_32 rfl (lv_at hl 0 rfl) ?_
      refine gf_X10_19 Cx hP 0 rfl rfl dX10_late_33 ?_
      refine gf_X10_144 Cx hP 1 rfl rfl dX10_late_36 ?_
      refine lv_istore_n (lv' := [(3, .int v_scene_bear), (0, .ref a_t), (1, .int x1), (2, .int x2)]) hx hb dX10_late_39 rfl hl (by decide) rfl (fun ls hl => ?_)
      have L40_6 : ∀ (n : Nat) (y3_40 : Int32) (z_sitters_set_40 : Int32) (z_sitters_bear_40 : Int32) (z_sitters_nearest_40 : Nat → Int32) (o : Int32 × Int32 × (Nat → Int32)) (H : Heap) (locs : List Loc) (ls : Array Slot), f_X10_late_40 v_scene_seats v_scene_worths v_bench_neighbours v_bench_apart x1 x2 n y3_40 z_sitters_set_40 z_sitters_bear_40 z_sitters_nearest_40 = some o → va_P D vwCl [(a_t, .inr (10, [.ref a_pad, .ref a_scene, .ref a_images, .ref a_bench, .ref a_trial, .ref a_sitters, .ref a_trialSitters, .ref a_sets, .ref a_census, .ref a_match, .ref a_couples, .ref a_passing, .ref a_longRows])), (a_scene, .inr (7, [.ref a_scene_steps, .ref a_scene_worths, .ref a_scene_comers, .ref a_scene_seen, .ref a_scene_seenLengths, .int v_scene_seats, .int v_scene_bear, .int v_scene_comerCount, .int v_scene_seenRows])), (a_sitters, .inr (9, [.ref a_bench, .ref a_sitters_nearest, .int z_sitters_set_40, .int z_sitters_bear_40])), (a_bench, .inr (0, [.ref a_scene, .ref a_bench_apart, .ref a_bench_clash, .ref a_bench_neighbours])), (a_sitters_nearest, eI cI 12 z_sitters_nearest_40), (a_scene_worths, eI cI 12 v_scene_worths), (a_bench_neighbours, eI cI 12 v_bench_neighbours), (a_bench_apart, eI cI 144 v_bench_apart)] H → va_S A s.heap H locs → lv_has ls 4 [(0, .ref a_t), (1, .int x1), (2, .int x2), (3, .int y3_40)] → (∀ (H : Heap) (locs : List Loc) (ls : Array Slot), va_P D vwCl [(a_t, .inr (10, [.ref a_pad, .ref a_scene, .ref a_images, .ref a_bench, .ref a_trial, .ref a_sitters, .ref a_trialSitters, .ref a_sets, .ref a_census, .ref a_match, .ref a_couples, .ref a_passing, .ref a_longRows])), (a_scene, .inr (7, [.ref a_scene_steps, .ref a_scene_worths, .ref a_scene_comers, .ref a_scene_seen, .ref a_scene_seenLengths, .int v_scene_seats, .int v_scene_bear, .int v_scene_comerCount, .int v_scene_seenRows])), (a_sitters, .inr (9, [.ref a_bench, .ref a_sitters_nearest, .int o.1, .int o.2.1])), (a_bench, .inr (0, [.ref a_scene, .ref a_bench_apart, .ref a_bench_clash, .ref a_bench_neighbours])), (a_sitters_nearest, eI cI 12 o.2.2), (a_scene_worths, eI cI 12 v_scene_worths), (a_bench_neighbours, eI cI 12 v_bench_neighbours), (a_bench_apart, eI cI 144 v_bench_apart)] H → va_S A s.heap H locs → lv_has ls 4 [(0, .ref a_t)] → W p l e { frames := 3, cells := 0, slots := 0, locals := 70 } s m args below meth c H locs 0 0 Q (F0 m 67 ls [])) → W p l e { frames := 3, cells := 0, slots := 0, locals := 70 } s m args below meth c H locs 0 0 Q (F0 m 40 ls []) := by
        intro n
        induction n with
        | zero => intro y3_40 z_sitters_set_40 z_sitters_bear_40 z_sitters_nearest_40 o H locs ls hf; exact (ob_n hf).elim
        | succ n ih =>
          intro y3_40 z_sitters_set_40 z_sitters_bear_40 z_sitters_nearest_40 o H locs ls hf hP hS hl kk
          rw [f_X10_late_40_s] at hf
          refine lv_iload_n hx hb dX10_late_40 rfl (lv_at hl 3 rfl) ?_
          refine lv_iload_n hx hb dX10_late_41 rfl (lv_at hl 2 rfl) ?_
          refine lv_icmp_lt (tgt := 67) hx hb dX10_late_42 (by decide) (fun c7 => ?_) (fun c7 => ?_)
          · have hf := ob_t c7 hf
            obtain rfl := Option.some.inj hf
            exact kk _ _ _ hP hS (lv_sub hl [0] rfl)
          · have hf := ob_f c7 hf
            refine lv_aload_n hx hb dX10_late_45 rfl (lv_at hl 0 rfl) ?_
            refine gf_X10_44 Cx hP 0 rfl rfl dX10_late_46 ?_
            refine lv_iload_n hx hb dX10_late_49 rfl (lv_at hl 3 rfl) ?_
            refine pf_X10_231 (X' := [(a_t, .inr (10, [.ref a_pad, .ref a_scene, .ref a_images, .ref a_bench, .ref a_trial, .ref a_sitters, .ref a_trialSitters, .ref a_sets, .ref a_census, .ref a_match, .ref a_couples, .ref a_passing, .ref a_longRows])), (a_scene, .inr (7, [.ref a_scene_steps, .ref a_scene_worths, .ref a_scene_comers, .ref a_scene_seen, .ref a_scene_seenLengths, .int v_scene_seats, .int v_scene_bear, .int v_scene_comerCount, .int v_scene_seenRows])), (a_sitters, .inr (9, [.ref a_bench, .ref a_sitters_nearest, .int z_sitters_set_40, .int y3_40])), (a_bench, .inr (0, [.ref a_scene, .ref a_bench_apart, .ref a_bench_clash, .ref a_bench_neighbours])), (a_sitters_nearest, eI cI 12 z_sitters_nearest_40), (a_scene_worths, eI cI 12 v_scene_worths), (a_bench_neighbours, eI cI 12 v_bench_neighbours), (a_bench_apart, eI cI 144 v_bench_apart)]) Cx hP hS rfl 2 rfl rfl (Nat.le_of_ble_eq_true rfl) dX10_late_50 (fun H locs hP hS => ?_)
            refine lv_aload_n hx hb dX10_late_53 rfl (lv_at hl 0 rfl) ?_
            refine gf_X10_44 Cx hP 0 rfl rfl dX10_late_54 ?_
            refine lv_iload_n hx hb dX10_late_57 rfl (lv_at hl 1 rfl) ?_
            obtain ⟨u8, hu8, hf⟩ := ob_b hf
            refine iv_X10_164 (As := [.int x1]) (rest := []) (is := [2, 3, 1, 4, 5, 6, 7]) (q0 := 2) (X' := [(a_t, .inr (10, [.ref a_pad, .ref a_scene, .ref a_images, .ref a_bench, .ref a_trial, .ref a_sitters, .ref a_trialSitters, .ref a_sets, .ref a_census, .ref a_match, .ref a_couples, .ref a_passing, .ref a_longRows])), (a_scene, .inr (7, [.ref a_scene_steps, .ref a_scene_worths, .ref a_scene_comers, .ref a_scene_seen, .ref a_scene_seenLengths, .int v_scene_seats, .int v_scene_bear, .int v_scene_comerCount, .int v_scene_seenRows])), (a_sitters, .inr (9, [.ref a_bench, .ref a_sitters_nearest, .int u8.1, .int y3_40])), (a_bench, .inr (0, [.ref a_scene, .ref a_bench_apart, .ref a_bench_clash, .ref a_bench_neighbours])), (a_sitters_nearest, eI cI 12 u8.2), (a_scene_worths, eI cI 12 v_scene_worths), (a_bench_neighbours, eI cI 12 v_bench_neighbours), (a_bench_apart, eI cI 144 v_bench_apart)]) Cx (c_X9_fillUp l D cI cJ cZ cO a_sitters a_bench a_sitters_nearest a_scene a_bench_apart a_bench_clash a_bench_neighbours a_scene_steps a_scene_worths a_scene_comers a_scene_seen a_scene_seenLengths z_sitters_set_40 y3_40 v_scene_seats v_scene_bear v_scene_comerCount v_scene_seenRows z_sitters_nearest_40 v_scene_worths v_bench_neighbours v_bench_apart x1 u8 hu8) hP hS rfl rfl rfl rfl rfl rfl rfl hl.1 (Nat.le_of_ble_eq_true rfl) dX10_late_58 rfl rfl ⟨Nat.le_of_ble_eq_true rfl, Nat.le_of_ble_eq_true rfl⟩ ⟨Nat.zero_le _, Nat.zero_le _⟩ rfl (fun H locs hP hS => ?_)
            refine lv_iinc (v := (y3_40 + (-1))) (lv' := [(3, .int (y3_40 + (-1))), (0, .ref a_t), (1, .int x1), (2, .int x2)]) hx hb dX10_late_61 hl (k := 3) rfl rfl (by decide) rfl (fun ls hl => ?_)
            refine lv_goto (tgt := 40) hx hb dX10_late_64 (by decide) ?_
            exact ih (y3_40 + (-1)) u8.1 y3_40 u8.2 _ _ _ _ hf hP hS (lv_sub hl [1, 2, 3, 0] rfl) kk
      obtain ⟨u9, hu9, hf⟩ := ob_b hf
      refine L40_6 FU v_scene_bear u5.1 u5.2.1 u5.2.2 u9 _ _ _ hu9 hP hS (lv_sub hl [1, 2, 3, 0] rfl) ?_
      intro H locs ls hP hS hl
      refine lv_aload_n hx hb dX10_late_67 rfl (lv_at hl 0 rfl) ?_
      refine gf_X10_44 Cx hP 0 rfl rfl dX10_late_68 ?_
      obtain ⟨u10, hu10, hf⟩ := ob_b hf
      refine iv_X10_232 (As := []) (rest := []) (is := [2]) (q0 := 2) (X' := [(a_t, .inr (10, [.ref a_pad, .ref a_scene, .ref a_images, .ref a_bench, .ref a_trial, .ref a_sitters, .ref a_trialSitters, .ref a_sets, .ref a_census, .ref a_match, .ref a_couples, .ref a_passing, .ref a_longRows])), (a_scene, .inr (7, [.ref a_scene_steps, .ref a_scene_worths, .ref a_scene_comers, .ref a_scene_seen, .ref a_scene_seenLengths, .int v_scene_seats, .int v_scene_bear, .int v_scene_comerCount, .int v_scene_seenRows])), (a_sitters, .inr (9, [.ref a_bench, .ref a_sitters_nearest, .int u9.1, .int u9.2.1])), (a_bench, .inr (0, [.ref a_scene, .ref a_bench_apart, .ref a_bench_clash, .ref a_bench_neighbours])), (a_sitters_nearest, eI cI 12 u9.2.2), (a_scene_worths, eI cI 12 v_scene_worths), (a_bench_neighbours, eI cI 12 v_bench_neighbours), (a_bench_apart, eI cI 144 v_bench_apart)]) Cx (c_X9_number l D cI cJ cZ cO a_sitters a_bench a_sitters_nearest u9.1 u9.2.1 u10 hu10) hP hS rfl rfl rfl rfl rfl rfl rfl hl.1 (Nat.le_of_ble_eq_true rfl) dX10_late_71 rfl rfl ⟨Nat.le_of_ble_eq_true rfl, Nat.le_of_ble_eq_true rfl⟩ ⟨Nat.zero_le _, Nat.zero_le _⟩ rfl (fun H locs hP hS => ?_)
      obtain rfl := Option.some.inj hf
      exact ret _ _ _ _ dX10_late_74 hP hS
    · have hf := ob_t c4 hf
      refine lv_bipush (v := (-2)) hx hb dX10_late_22 (by decide) ?_
      obtain rfl := Option.some.inj hf
      exact ret _ _ _ _ dX10_late_24 hP hS

def f_X10_rows (v_longRows_between : Nat → Int32) (x1 : Int32) (x2 : Int32) : Option (Int32) :=
  (f_X10_isWithin x1 (1 : Int32) (200 : Int32)).bind (fun u1 =>
  if u1 = 0 then
  some (-2 : Int32)
  else
  (f_X10_isWithin x2 (0 : Int32) (x1 - (1 : Int32))).bind (fun u3 =>
  if u3 = 0 then
  some (-1 : Int32)
  else
  (f_X3_comeIn v_longRows_between x1 x2).bind (fun u5 =>
  some (u5))))
set_option maxHeartbeats 4000000 in
set_option maxRecDepth 100000 in
theorem c_X10_rows (l : Launch) (D : va_G) (cI cJ cZ cO : ClassId) (a_t a_pad a_scene a_images a_bench a_trial a_sitters a_trialSitters a_sets a_census a_match a_couples a_passing a_longRows a_longRows_between : Nat) (v_longRows_between : Nat → Int32) (x1 : Int32) (x2 : Int32) (out : Int32) (hf : f_X10_rows v_longRows_between x1 x2 = some out) : MetR l yX10_rows (Cond.code yX10_rows cX10_rows 3 (some .int) :: tbG) { frames := 2, cells := 0, slots := 0, locals := 43 } D (tyL cI cJ cZ cO) [.ref a_t, .int x1, .int x2] [(a_t, .inr (10, [.ref a_pad, .ref a_scene, .ref a_images, .ref a_bench, .ref a_trial, .ref a_sitters, .ref a_trialSitters, .ref a_sets, .ref a_census, .ref a_match, .ref a_couples, .ref a_passing, .ref a_longRows])), (a_longRows, .inr (3, [.ref a_longRows_between])), (a_longRows_between, eI cI 201 v_longRows_between)] (some (.int out)) [(a_t, .inr (10, [.ref a_pad, .ref a_scene, .ref a_images, .ref a_bench, .ref a_trial, .ref a_sitters, .ref a_trialSitters, .ref a_sets, .ref a_census, .ref a_match, .ref a_couples, .ref a_passing, .ref a_longRows])), (a_longRows, .inr (3, [.ref a_longRows_between])), (a_longRows_between, eI cI 201 v_longRows_between)] := by
  refine ba_ofI RX10 [(0, .ref a_t), (1, .int x1), (2, .int x2)] (by decide +kernel) rfl (Nat.le_of_ble_eq_true rfl) rfl ?_
  intro p e s m args below meth c Q A Cx hP ret ls hl
  obtain ⟨⟨hx, hb, hml, hown, hts⟩, hK, hD, hA⟩ := id Cx
  have hS : va_S A s.heap s.heap [] := va_S.rf
  unfold f_X10_rows at hf
  refine lv_iload_n hx hb dX10_rows_0 rfl (lv_at hl 1 rfl) ?_
  refine lv_iconst (v := 1) hx hb dX10_rows_1 (by decide) ?_
  refine lv_sipush (v := 200) hx hb dX10_rows_2 (by decide) ?_
  obtain ⟨u1, hu1, hf⟩ := ob_b hf
  refine iv_X10_99 (As := [.int x1, .int (1 : Int32), .int (200 : Int32)]) (rest := []) (is := []) (X' := [(a_t, .inr (10, [.ref a_pad, .ref a_scene, .ref a_images, .ref a_bench, .ref a_trial, .ref a_sitters, .ref a_trialSitters, .ref a_sets, .ref a_census, .ref a_match, .ref a_couples, .ref a_passing, .ref a_longRows])), (a_longRows, .inr (3, [.ref a_longRows_between])), (a_longRows_between, eI cI 201 v_longRows_between)]) Cx (c_X10_isWithin l D cI cJ cZ cO  x1 (1 : Int32) (200 : Int32) u1 hu1) hP hS rfl rfl rfl rfl rfl rfl hl.1 (Nat.le_of_ble_eq_true rfl) dX10_rows_5 rfl rfl ⟨Nat.le_of_ble_eq_true rfl, Nat.le_of_ble_eq_true rfl⟩ ⟨Nat.zero_le _, Nat.zero_le _⟩ rfl (fun H locs hP hS => ?_)
  refine lv_if_ne (tgt := 14) hx hb dX10_rows_8 (by decide) (fun c2 => ?_) (fun c2 => ?_)
  · have hf := ob_f c2 hf
    refine lv_iload_n hx hb dX10_rows_14 rfl (lv_at hl 2 rfl) ?_
    refine lv_iconst (v := 0) hx hb dX10_rows_15 (by decide) ?_
    refine lv_iload_n hx hb dX10_rows_16 rfl (lv_at hl 1 rfl) ?_
    refine lv_iconst (v := 1) hx hb dX10_rows_17 (by decide) ?_
    refine lv_isub hx hb dX10_rows_18 ?_
    obtain ⟨u3, hu3, hf⟩ := ob_b hf
    refine iv_X10_99 (As := [.int x2, .int (0 : Int32), .int (x1 - (1 : Int32))]) (rest := []) (is := []) (X' := [(a_t, .inr (10, [.ref a_pad, .ref a_scene, .ref a_images, .ref a_bench, .ref a_trial, .ref a_sitters, .ref a_trialSitters, .ref a_sets, .ref a_census, .ref a_match, .ref a_couples, .ref a_passing, .ref a_longRows])), (a_longRows, .inr (3, [.ref a_longRows_between])), (a_longRows_between, eI cI 201 v_longRows_between)]) Cx (c_X10_isWithin l D cI cJ cZ cO  x2 (0 : Int32) (x1 - (1 : Int32)) u3 hu3) hP hS rfl rfl rfl rfl rfl rfl hl.1 (Nat.le_of_ble_eq_true rfl) dX10_rows_19 rfl rfl ⟨Nat.le_of_ble_eq_true rfl, Nat.le_of_ble_eq_true rfl⟩ ⟨Nat.zero_le _, Nat.zero_le _⟩ rfl (fun H locs hP hS => ?_)
    refine lv_if_ne (tgt := 27) hx hb dX10_rows_22 (by decide) (fun c4 => ?_) (fun c4 => ?_)
    · have hf := ob_f c4 hf
      refine lv_aload_n hx hb dX10_rows_27 rfl (lv_at hl 0 rfl) ?_
      refine gf_X10_91 Cx hP 0 rfl rfl dX10_rows_28 ?_
      refine lv_iload_n hx hb dX10_rows_31 rfl (lv_at hl 1 rfl) ?_
      refine lv_iload_n hx hb dX10_rows_32 rfl (lv_at hl 2 rfl) ?_
      obtain ⟨u5, hu5, hf⟩ := ob_b hf
      refine iv_X10_235 (As := [.int x1, .int x2]) (rest := []) (is := [1, 2]) (q0 := 1) (X' := [(a_t, .inr (10, [.ref a_pad, .ref a_scene, .ref a_images, .ref a_bench, .ref a_trial, .ref a_sitters, .ref a_trialSitters, .ref a_sets, .ref a_census, .ref a_match, .ref a_couples, .ref a_passing, .ref a_longRows])), (a_longRows, .inr (3, [.ref a_longRows_between])), (a_longRows_between, eI cI 201 v_longRows_between)]) Cx (c_X3_comeIn l D cI cJ cZ cO a_longRows a_longRows_between v_longRows_between x1 x2 u5 hu5) hP hS rfl rfl rfl rfl rfl rfl rfl hl.1 (Nat.le_of_ble_eq_true rfl) dX10_rows_33 rfl rfl ⟨Nat.le_of_ble_eq_true rfl, Nat.le_of_ble_eq_true rfl⟩ ⟨Nat.zero_le _, Nat.zero_le _⟩ rfl (fun H locs hP hS => ?_)
      obtain rfl := Option.some.inj hf
      exact ret _ _ _ _ dX10_rows_36 hP hS
    · have hf := ob_t c4 hf
      refine lv_iconst (v := (-1)) hx hb dX10_rows_25 (by decide) ?_
      obtain rfl := Option.some.inj hf
      exact ret _ _ _ _ dX10_rows_26 hP hS
  · have hf := ob_t c2 hf
    refine lv_bipush (v := (-2)) hx hb dX10_rows_11 (by decide) ?_
    obtain rfl := Option.some.inj hf
    exact ret _ _ _ _ dX10_rows_13 hP hS

def f_X10_longer_15 (v_longRows_between : Nat → Int32) (x1 : Int32) : Nat → Int32 → Option ((Unit) ⊕ (Int32))
  | 0, _ => none
  | n + 1, y2_15 =>
  if (200 : Int32) < y2_15 then
  some (Sum.inl ())
  else
  (f_X3_comeIn v_longRows_between y2_15 (0 : Int32)).bind (fun u5 =>
  if u5 < x1 then
  f_X10_longer_15 v_longRows_between x1 n (y2_15 + 1)
  else
  some (Sum.inr (y2_15)))
theorem f_X10_longer_15_s (v_longRows_between : Nat → Int32) (x1 : Int32) (n : Nat) (y2_15 : Int32) : f_X10_longer_15 v_longRows_between x1 (n + 1) y2_15 =
  (if (200 : Int32) < y2_15 then
  some (Sum.inl ())
  else
  (f_X3_comeIn v_longRows_between y2_15 (0 : Int32)).bind (fun u5 =>
  if u5 < x1 then
  f_X10_longer_15 v_longRows_between x1 n (y2_15 + 1)
  else
  some (Sum.inr (y2_15)))) := rfl
def f_X10_longer (v_longRows_between : Nat → Int32) (x1 : Int32) : Option (Int32) :=
  (f_X10_isWithin x1 (1 : Int32) (100 : Int32)).bind (fun u1 =>
  if u1 = 0 then
  some (-2 : Int32)
  else
  (f_X10_longer_15 v_longRows_between x1 FU (1 : Int32)).bind (fun u7 => Sum.elim (fun w8 =>
  some (-6 : Int32)) (fun r => some r) u7))
set_option maxHeartbeats 4000000 in
set_option maxRecDepth 100000 in
theorem c_X10_longer (l : Launch) (D : va_G) (cI cJ cZ cO : ClassId) (a_t a_pad a_scene a_images a_bench a_trial a_sitters a_trialSitters a_sets a_census a_match a_couples a_passing a_longRows a_longRows_between : Nat) (v_longRows_between : Nat → Int32) (x1 : Int32) (out : Int32) (hf : f_X10_longer v_longRows_between x1 = some out) : MetR l yX10_longer (Cond.code yX10_longer cX10_longer 3 (some .int) :: tbG) { frames := 2, cells := 0, slots := 0, locals := 43 } D (tyL cI cJ cZ cO) [.ref a_t, .int x1] [(a_t, .inr (10, [.ref a_pad, .ref a_scene, .ref a_images, .ref a_bench, .ref a_trial, .ref a_sitters, .ref a_trialSitters, .ref a_sets, .ref a_census, .ref a_match, .ref a_couples, .ref a_passing, .ref a_longRows])), (a_longRows, .inr (3, [.ref a_longRows_between])), (a_longRows_between, eI cI 201 v_longRows_between)] (some (.int out)) [(a_t, .inr (10, [.ref a_pad, .ref a_scene, .ref a_images, .ref a_bench, .ref a_trial, .ref a_sitters, .ref a_trialSitters, .ref a_sets, .ref a_census, .ref a_match, .ref a_couples, .ref a_passing, .ref a_longRows])), (a_longRows, .inr (3, [.ref a_longRows_between])), (a_longRows_between, eI cI 201 v_longRows_between)] := by
  refine ba_ofI RX10 [(0, .ref a_t), (1, .int x1)] (by decide +kernel) rfl (Nat.le_of_ble_eq_true rfl) rfl ?_
  intro p e s m args below meth c Q A Cx hP ret ls hl
  obtain ⟨⟨hx, hb, hml, hown, hts⟩, hK, hD, hA⟩ := id Cx
  have hS : va_S A s.heap s.heap [] := va_S.rf
  unfold f_X10_longer at hf
  refine lv_iload_n hx hb dX10_longer_0 rfl (lv_at hl 1 rfl) ?_
  refine lv_iconst (v := 1) hx hb dX10_longer_1 (by decide) ?_
  refine lv_bipush (v := 100) hx hb dX10_longer_2 (by decide) ?_
  obtain ⟨u1, hu1, hf⟩ := ob_b hf
  refine iv_X10_99 (As := [.int x1, .int (1 : Int32), .int (100 : Int32)]) (rest := []) (is := []) (X' := [(a_t, .inr (10, [.ref a_pad, .ref a_scene, .ref a_images, .ref a_bench, .ref a_trial, .ref a_sitters, .ref a_trialSitters, .ref a_sets, .ref a_census, .ref a_match, .ref a_couples, .ref a_passing, .ref a_longRows])), (a_longRows, .inr (3, [.ref a_longRows_between])), (a_longRows_between, eI cI 201 v_longRows_between)]) Cx (c_X10_isWithin l D cI cJ cZ cO  x1 (1 : Int32) (100 : Int32) u1 hu1) hP hS rfl rfl rfl rfl rfl rfl hl.1 (Nat.le_of_ble_eq_true rfl) dX10_longer_4 rfl rfl ⟨Nat.le_of_ble_eq_true rfl, Nat.le_of_ble_eq_true rfl⟩ ⟨Nat.zero_le _, Nat.zero_le _⟩ rfl (fun H locs hP hS => ?_)
  refine lv_if_ne (tgt := 13) hx hb dX10_longer_7 (by decide) (fun c2 => ?_) (fun c2 => ?_)
  · have hf := ob_f c2 hf
    refine lv_iconst (v := 1) hx hb dX10_longer_13 (by decide) ?_
    refine lv_istore_n (lv' := [(2, .int (1 : Int32)), (0, .ref a_t), (1, .int x1)]) hx hb dX10_longer_14 rfl hl (by decide) rfl (fun ls hl => ?_)
    have L15_3 : ∀ (n : Nat) (y2_15 : Int32) (o : (Unit) ⊕ (Int32)) (H : Heap) (locs : List Loc) (ls : Array Slot), f_X10_longer_15 v_longRows_between x1 n y2_15 = some o → va_P D vwCl [(a_t, .inr (10, [.ref a_pad, .ref a_scene, .ref a_images, .ref a_bench, .ref a_trial, .ref a_sitters, .ref a_trialSitters, .ref a_sets, .ref a_census, .ref a_match, .ref a_couples, .ref a_passing, .ref a_longRows])), (a_longRows, .inr (3, [.ref a_longRows_between])), (a_longRows_between, eI cI 201 v_longRows_between)] H → va_S A s.heap H locs → lv_has ls 3 [(0, .ref a_t), (1, .int x1), (2, .int y2_15)] → (∀ w, o = Sum.inl w → ∀ (H : Heap) (locs : List Loc) (ls : Array Slot), va_P D vwCl [(a_t, .inr (10, [.ref a_pad, .ref a_scene, .ref a_images, .ref a_bench, .ref a_trial, .ref a_sitters, .ref a_trialSitters, .ref a_sets, .ref a_census, .ref a_match, .ref a_couples, .ref a_passing, .ref a_longRows])), (a_longRows, .inr (3, [.ref a_longRows_between])), (a_longRows_between, eI cI 201 v_longRows_between)] H → va_S A s.heap H locs → lv_has ls 3 [] → W p l e { frames := 2, cells := 0, slots := 0, locals := 43 } s m args below meth c H locs 0 0 Q (F0 m 43 ls [])) → (∀ r, o = Sum.inr r → ∀ (pc : Nat) (H : Heap) (locs : List Loc) (ls : Array Slot), decode cX10_longer pc = .ok (.ireturn, 1) → va_P D vwCl [(a_t, .inr (10, [.ref a_pad, .ref a_scene, .ref a_images, .ref a_bench, .ref a_trial, .ref a_sitters, .ref a_trialSitters, .ref a_sets, .ref a_census, .ref a_match, .ref a_couples, .ref a_passing, .ref a_longRows])), (a_longRows, .inr (3, [.ref a_longRows_between])), (a_longRows_between, eI cI 201 v_longRows_between)] H → va_S A s.heap H locs → W p l e { frames := 2, cells := 0, slots := 0, locals := 43 } s m args below meth c H locs 0 0 Q (F0 m pc ls [.int r])) → W p l e { frames := 2, cells := 0, slots := 0, locals := 43 } s m args below meth c H locs 0 0 Q (F0 m 15 ls []) := by
      intro n
      induction n with
      | zero => intro y2_15 o H locs ls hf; exact (ob_n hf).elim
      | succ n ih =>
        intro y2_15 o H locs ls hf hP hS hl kk kr
        rw [f_X10_longer_15_s] at hf
        refine lv_iload_n hx hb dX10_longer_15 rfl (lv_at hl 2 rfl) ?_
        refine lv_sipush (v := 200) hx hb dX10_longer_16 (by decide) ?_
        refine lv_icmp_gt (tgt := 43) hx hb dX10_longer_19 (by decide) (fun c4 => ?_) (fun c4 => ?_)
        · have hf := ob_t c4 hf
          obtain rfl := Option.some.inj hf
          exact kk _ rfl _ _ _ hP hS (lv_sub hl [] rfl)
        · have hf := ob_f c4 hf
          refine lv_aload_n hx hb dX10_longer_22 rfl (lv_at hl 0 rfl) ?_
          refine gf_X10_91 Cx hP 0 rfl rfl dX10_longer_23 ?_
          refine lv_iload_n hx hb dX10_longer_26 rfl (lv_at hl 2 rfl) ?_
          refine lv_iconst (v := 0) hx hb dX10_longer_27 (by decide) ?_
          obtain ⟨u5, hu5, hf⟩ := ob_b hf
          refine iv_X10_235 (As := [.int y2_15, .int (0 : Int32)]) (rest := []) (is := [1, 2]) (q0 := 1) (X' := [(a_t, .inr (10, [.ref a_pad, .ref a_scene, .ref a_images, .ref a_bench, .ref a_trial, .ref a_sitters, .ref a_trialSitters, .ref a_sets, .ref a_census, .ref a_match, .ref a_couples, .ref a_passing, .ref a_longRows])), (a_longRows, .inr (3, [.ref a_longRows_between])), (a_longRows_between, eI cI 201 v_longRows_between)]) Cx (c_X3_comeIn l D cI cJ cZ cO a_longRows a_longRows_between v_longRows_between y2_15 (0 : Int32) u5 hu5) hP hS rfl rfl rfl rfl rfl rfl rfl hl.1 (Nat.le_of_ble_eq_true rfl) dX10_longer_28 rfl rfl ⟨Nat.le_of_ble_eq_true rfl, Nat.le_of_ble_eq_true rfl⟩ ⟨Nat.zero_le _, Nat.zero_le _⟩ rfl (fun H locs hP hS => ?_)
          refine lv_iload_n hx hb dX10_longer_31 rfl (lv_at hl 1 rfl) ?_
          refine lv_icmp_lt (tgt := 37) hx hb dX10_longer_32 (by decide) (fun c6 => ?_) (fun c6 => ?_)
          · have hf := ob_t c6 hf
            refine lv_iinc (v := (y2_15 + 1)) (lv' := [(2, .int (y2_15 + 1)), (0, .ref a_t), (1, .int x1)]) hx hb dX10_longer_37 hl (k := 2) rfl rfl (by decide) rfl (fun ls hl => ?_)
            refine lv_goto (tgt := 15) hx hb dX10_longer_40 (by decide) ?_
            exact ih (y2_15 + 1) _ _ _ _ hf hP hS (lv_sub hl [1, 2, 0] rfl) kk kr
          · have hf := ob_f c6 hf
            refine lv_iload_n hx hb dX10_longer_35 rfl (lv_at hl 2 rfl) ?_
            obtain rfl := Option.some.inj hf
            exact kr _ rfl _ _ _ _ dX10_longer_36 hP hS
    obtain ⟨u7, hu7, hf⟩ := ob_b hf
    refine L15_3 FU (1 : Int32) u7 _ _ _ hu7 hP hS (lv_sub hl [1, 2, 0] rfl) ?_ ?_
    · intro w8 hw H locs ls hP hS hl
      rw [hw] at hf
      have hf := ob_l hf
      refine lv_bipush (v := (-6)) hx hb dX10_longer_43 (by decide) ?_
      obtain rfl := Option.some.inj hf
      exact ret _ _ _ _ dX10_longer_45 hP hS
    · intro r hr pc H locs ls hd hP hS
      rw [hr] at hf
      have hf := ob_r hf
      obtain rfl := Option.some.inj hf
      exact ret _ _ _ _ hd hP hS
  · have hf := ob_t c2 hf
    refine lv_bipush (v := (-2)) hx hb dX10_longer_10 (by decide) ?_
    obtain rfl := Option.some.inj hf
    exact ret _ _ _ _ dX10_longer_12 hP hS

def f_X10_comeInWithArms (v_scene_seats : Int32) (v_scene_bear : Int32) (v_trial_apart : Nat → Int32) (v_scene_steps : Nat → Int32) (v_trial_clash : Nat → Int32) (v_trial_neighbours : Nat → Int32) (v_trialSitters_nearest : Nat → Int32) (v_scene_worths : Nat → Int32) (x1 : Int32) (x2 : Int32) : Option (Int32 × (Nat → Int32) × (Nat → Int32) × (Nat → Int32) × Int32 × Int32 × (Nat → Int32)) :=
  (f_X0_measure v_scene_seats v_scene_bear v_trial_apart v_scene_steps v_trial_clash v_trial_neighbours x1).bind (fun u1 =>
  (f_X9_leave v_scene_bear v_trialSitters_nearest).bind (fun u2 =>
  (f_X9_fillUp u2.1 u2.2.1 v_scene_seats u2.2.2 v_scene_worths u1.2.2 u1.1 x2).bind (fun u3 =>
  (f_X9_number u3.1).bind (fun u4 =>
  some (u4, u1.1, u1.2.1, u1.2.2, u3.1, u2.2.1, u3.2)))))
set_option maxHeartbeats 4000000 in
set_option maxRecDepth 100000 in
theorem c_X10_comeInWithArms (l : Launch) (D : va_G) (cI cJ cZ cO : ClassId) (a_t a_pad a_scene a_images a_bench a_trial a_sitters a_trialSitters a_sets a_census a_match a_couples a_passing a_longRows a_trial_apart a_trial_clash a_trial_neighbours a_scene_steps a_scene_worths a_scene_comers a_scene_seen a_scene_seenLengths a_trialSitters_nearest : Nat) (v_scene_seats : Int32) (v_scene_bear : Int32) (v_scene_comerCount : Int32) (v_scene_seenRows : Int32) (v_trial_apart : Nat → Int32) (v_scene_steps : Nat → Int32) (v_trial_clash : Nat → Int32) (v_trial_neighbours : Nat → Int32) (v_trialSitters_set : Int32) (v_trialSitters_bear : Int32) (v_trialSitters_nearest : Nat → Int32) (v_scene_worths : Nat → Int32) (x1 : Int32) (x2 : Int32) (out : Int32 × (Nat → Int32) × (Nat → Int32) × (Nat → Int32) × Int32 × Int32 × (Nat → Int32)) (hf : f_X10_comeInWithArms v_scene_seats v_scene_bear v_trial_apart v_scene_steps v_trial_clash v_trial_neighbours v_trialSitters_nearest v_scene_worths x1 x2 = some out) : MetR l yX10_comeInWithArms (Cond.code yX10_comeInWithArms cX10_comeInWithArms 3 (some .int) :: tbG) { frames := 3, cells := 0, slots := 0, locals := 70 } D (tyL cI cJ cZ cO) [.ref a_t, .int x1, .int x2] [(a_t, .inr (10, [.ref a_pad, .ref a_scene, .ref a_images, .ref a_bench, .ref a_trial, .ref a_sitters, .ref a_trialSitters, .ref a_sets, .ref a_census, .ref a_match, .ref a_couples, .ref a_passing, .ref a_longRows])), (a_trial, .inr (0, [.ref a_scene, .ref a_trial_apart, .ref a_trial_clash, .ref a_trial_neighbours])), (a_scene, .inr (7, [.ref a_scene_steps, .ref a_scene_worths, .ref a_scene_comers, .ref a_scene_seen, .ref a_scene_seenLengths, .int v_scene_seats, .int v_scene_bear, .int v_scene_comerCount, .int v_scene_seenRows])), (a_trial_apart, eI cI 144 v_trial_apart), (a_scene_steps, eI cI 12 v_scene_steps), (a_trial_clash, eI cI 12 v_trial_clash), (a_trial_neighbours, eI cI 12 v_trial_neighbours), (a_trialSitters, .inr (9, [.ref a_trial, .ref a_trialSitters_nearest, .int v_trialSitters_set, .int v_trialSitters_bear])), (a_trialSitters_nearest, eI cI 12 v_trialSitters_nearest), (a_scene_worths, eI cI 12 v_scene_worths)] (some (.int out.1)) [(a_t, .inr (10, [.ref a_pad, .ref a_scene, .ref a_images, .ref a_bench, .ref a_trial, .ref a_sitters, .ref a_trialSitters, .ref a_sets, .ref a_census, .ref a_match, .ref a_couples, .ref a_passing, .ref a_longRows])), (a_trial, .inr (0, [.ref a_scene, .ref a_trial_apart, .ref a_trial_clash, .ref a_trial_neighbours])), (a_scene, .inr (7, [.ref a_scene_steps, .ref a_scene_worths, .ref a_scene_comers, .ref a_scene_seen, .ref a_scene_seenLengths, .int v_scene_seats, .int v_scene_bear, .int v_scene_comerCount, .int v_scene_seenRows])), (a_trial_apart, eI cI 144 out.2.1), (a_scene_steps, eI cI 12 v_scene_steps), (a_trial_clash, eI cI 12 out.2.2.1), (a_trial_neighbours, eI cI 12 out.2.2.2.1), (a_trialSitters, .inr (9, [.ref a_trial, .ref a_trialSitters_nearest, .int out.2.2.2.2.1, .int out.2.2.2.2.2.1])), (a_trialSitters_nearest, eI cI 12 out.2.2.2.2.2.2), (a_scene_worths, eI cI 12 v_scene_worths)] := by
  refine ba_ofI RX10 [(0, .ref a_t), (1, .int x1), (2, .int x2)] (by decide +kernel) rfl (Nat.le_of_ble_eq_true rfl) rfl ?_
  intro p e s m args below meth c Q A Cx hP ret ls hl
  obtain ⟨⟨hx, hb, hml, hown, hts⟩, hK, hD, hA⟩ := id Cx
  have hS : va_S A s.heap s.heap [] := va_S.rf
  unfold f_X10_comeInWithArms at hf
  refine lv_aload_n hx hb dX10_comeInWithArms_0 rfl (lv_at hl 0 rfl) ?_
  refine gf_X10_36 Cx hP 0 rfl rfl dX10_comeInWithArms_1 ?_
  refine lv_iload_n hx hb dX10_comeInWithArms_4 rfl (lv_at hl 1 rfl) ?_
  obtain ⟨u1, hu1, hf⟩ := ob_b hf
  refine iv_X10_95 (As := [.int x1]) (rest := []) (is := [1, 2, 3, 4, 5, 6]) (q0 := 1) (X' := [(a_t, .inr (10, [.ref a_pad, .ref a_scene, .ref a_images, .ref a_bench, .ref a_trial, .ref a_sitters, .ref a_trialSitters, .ref a_sets, .ref a_census, .ref a_match, .ref a_couples, .ref a_passing, .ref a_longRows])), (a_trial, .inr (0, [.ref a_scene, .ref a_trial_apart, .ref a_trial_clash, .ref a_trial_neighbours])), (a_scene, .inr (7, [.ref a_scene_steps, .ref a_scene_worths, .ref a_scene_comers, .ref a_scene_seen, .ref a_scene_seenLengths, .int v_scene_seats, .int v_scene_bear, .int v_scene_comerCount, .int v_scene_seenRows])), (a_trial_apart, eI cI 144 u1.1), (a_scene_steps, eI cI 12 v_scene_steps), (a_trial_clash, eI cI 12 u1.2.1), (a_trial_neighbours, eI cI 12 u1.2.2), (a_trialSitters, .inr (9, [.ref a_trial, .ref a_trialSitters_nearest, .int v_trialSitters_set, .int v_trialSitters_bear])), (a_trialSitters_nearest, eI cI 12 v_trialSitters_nearest), (a_scene_worths, eI cI 12 v_scene_worths)]) Cx (c_X0_measure l D cI cJ cZ cO a_trial a_scene a_trial_apart a_trial_clash a_trial_neighbours a_scene_steps a_scene_worths a_scene_comers a_scene_seen a_scene_seenLengths v_scene_seats v_scene_bear v_scene_comerCount v_scene_seenRows v_trial_apart v_scene_steps v_trial_clash v_trial_neighbours x1 u1 hu1) hP hS rfl rfl rfl rfl rfl rfl rfl hl.1 (Nat.le_of_ble_eq_true rfl) dX10_comeInWithArms_5 rfl rfl ⟨Nat.le_of_ble_eq_true rfl, Nat.le_of_ble_eq_true rfl⟩ ⟨Nat.zero_le _, Nat.zero_le _⟩ rfl (fun H locs hP hS => ?_)
  refine lv_aload_n hx hb dX10_comeInWithArms_8 rfl (lv_at hl 0 rfl) ?_
  refine gf_X10_48 Cx hP 0 rfl rfl dX10_comeInWithArms_9 ?_
  obtain ⟨u2, hu2, hf⟩ := ob_b hf
  refine iv_X10_228 (As := []) (rest := []) (is := [7, 1, 2, 8]) (q0 := 7) (X' := [(a_t, .inr (10, [.ref a_pad, .ref a_scene, .ref a_images, .ref a_bench, .ref a_trial, .ref a_sitters, .ref a_trialSitters, .ref a_sets, .ref a_census, .ref a_match, .ref a_couples, .ref a_passing, .ref a_longRows])), (a_trial, .inr (0, [.ref a_scene, .ref a_trial_apart, .ref a_trial_clash, .ref a_trial_neighbours])), (a_scene, .inr (7, [.ref a_scene_steps, .ref a_scene_worths, .ref a_scene_comers, .ref a_scene_seen, .ref a_scene_seenLengths, .int v_scene_seats, .int v_scene_bear, .int v_scene_comerCount, .int v_scene_seenRows])), (a_trial_apart, eI cI 144 u1.1), (a_scene_steps, eI cI 12 v_scene_steps), (a_trial_clash, eI cI 12 u1.2.1), (a_trial_neighbours, eI cI 12 u1.2.2), (a_trialSitters, .inr (9, [.ref a_trial, .ref a_trialSitters_nearest, .int u2.1, .int u2.2.1])), (a_trialSitters_nearest, eI cI 12 u2.2.2), (a_scene_worths, eI cI 12 v_scene_worths)]) Cx (c_X9_leave l D cI cJ cZ cO a_trialSitters a_trial a_trialSitters_nearest a_scene a_trial_apart a_trial_clash a_trial_neighbours a_scene_steps a_scene_worths a_scene_comers a_scene_seen a_scene_seenLengths v_trialSitters_set v_trialSitters_bear v_scene_seats v_scene_bear v_scene_comerCount v_scene_seenRows v_trialSitters_nearest u2 hu2) hP hS rfl rfl rfl rfl rfl rfl rfl hl.1 (Nat.le_of_ble_eq_true rfl) dX10_comeInWithArms_12 rfl rfl ⟨Nat.le_of_ble_eq_true rfl, Nat.le_of_ble_eq_true rfl⟩ ⟨Nat.zero_le _, Nat.zero_le _⟩ rfl (fun H locs hP hS => ?_)
  refine lv_aload_n hx hb dX10_comeInWithArms_15 rfl (lv_at hl 0 rfl) ?_
  refine gf_X10_48 Cx hP 0 rfl rfl dX10_comeInWithArms_16 ?_
  refine lv_iload_n hx hb dX10_comeInWithArms_19 rfl (lv_at hl 2 rfl) ?_
  obtain ⟨u3, hu3, hf⟩ := ob_b hf
  refine iv_X10_164 (As := [.int x2]) (rest := []) (is := [7, 1, 2, 8, 9, 6, 3]) (q0 := 7) (X' := [(a_t, .inr (10, [.ref a_pad, .ref a_scene, .ref a_images, .ref a_bench, .ref a_trial, .ref a_sitters, .ref a_trialSitters, .ref a_sets, .ref a_census, .ref a_match, .ref a_couples, .ref a_passing, .ref a_longRows])), (a_trial, .inr (0, [.ref a_scene, .ref a_trial_apart, .ref a_trial_clash, .ref a_trial_neighbours])), (a_scene, .inr (7, [.ref a_scene_steps, .ref a_scene_worths, .ref a_scene_comers, .ref a_scene_seen, .ref a_scene_seenLengths, .int v_scene_seats, .int v_scene_bear, .int v_scene_comerCount, .int v_scene_seenRows])), (a_trial_apart, eI cI 144 u1.1), (a_scene_steps, eI cI 12 v_scene_steps), (a_trial_clash, eI cI 12 u1.2.1), (a_trial_neighbours, eI cI 12 u1.2.2), (a_trialSitters, .inr (9, [.ref a_trial, .ref a_trialSitters_nearest, .int u3.1, .int u2.2.1])), (a_trialSitters_nearest, eI cI 12 u3.2), (a_scene_worths, eI cI 12 v_scene_worths)]) Cx (c_X9_fillUp l D cI cJ cZ cO a_trialSitters a_trial a_trialSitters_nearest a_scene a_trial_apart a_trial_clash a_trial_neighbours a_scene_steps a_scene_worths a_scene_comers a_scene_seen a_scene_seenLengths u2.1 u2.2.1 v_scene_seats v_scene_bear v_scene_comerCount v_scene_seenRows u2.2.2 v_scene_worths u1.2.2 u1.1 x2 u3 hu3) hP hS rfl rfl rfl rfl rfl rfl rfl hl.1 (Nat.le_of_ble_eq_true rfl) dX10_comeInWithArms_20 rfl rfl ⟨Nat.le_of_ble_eq_true rfl, Nat.le_of_ble_eq_true rfl⟩ ⟨Nat.zero_le _, Nat.zero_le _⟩ rfl (fun H locs hP hS => ?_)
  refine lv_aload_n hx hb dX10_comeInWithArms_23 rfl (lv_at hl 0 rfl) ?_
  refine gf_X10_48 Cx hP 0 rfl rfl dX10_comeInWithArms_24 ?_
  obtain ⟨u4, hu4, hf⟩ := ob_b hf
  refine iv_X10_232 (As := []) (rest := []) (is := [7]) (q0 := 7) (X' := [(a_t, .inr (10, [.ref a_pad, .ref a_scene, .ref a_images, .ref a_bench, .ref a_trial, .ref a_sitters, .ref a_trialSitters, .ref a_sets, .ref a_census, .ref a_match, .ref a_couples, .ref a_passing, .ref a_longRows])), (a_trial, .inr (0, [.ref a_scene, .ref a_trial_apart, .ref a_trial_clash, .ref a_trial_neighbours])), (a_scene, .inr (7, [.ref a_scene_steps, .ref a_scene_worths, .ref a_scene_comers, .ref a_scene_seen, .ref a_scene_seenLengths, .int v_scene_seats, .int v_scene_bear, .int v_scene_comerCount, .int v_scene_seenRows])), (a_trial_apart, eI cI 144 u1.1), (a_scene_steps, eI cI 12 v_scene_steps), (a_trial_clash, eI cI 12 u1.2.1), (a_trial_neighbours, eI cI 12 u1.2.2), (a_trialSitters, .inr (9, [.ref a_trial, .ref a_trialSitters_nearest, .int u3.1, .int u2.2.1])), (a_trialSitters_nearest, eI cI 12 u3.2), (a_scene_worths, eI cI 12 v_scene_worths)]) Cx (c_X9_number l D cI cJ cZ cO a_trialSitters a_trial a_trialSitters_nearest u3.1 u2.2.1 u4 hu4) hP hS rfl rfl rfl rfl rfl rfl rfl hl.1 (Nat.le_of_ble_eq_true rfl) dX10_comeInWithArms_27 rfl rfl ⟨Nat.le_of_ble_eq_true rfl, Nat.le_of_ble_eq_true rfl⟩ ⟨Nat.zero_le _, Nat.zero_le _⟩ rfl (fun H locs hP hS => ?_)
  obtain rfl := Option.some.inj hf
  exact ret _ _ _ _ dX10_comeInWithArms_30 hP hS

