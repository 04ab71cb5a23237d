/-! steps: fault, first -/
section ST5
theorem i32_le_lt (a b : Int32) : (a ≤ b) ↔ ¬ b < a := by
  rw [Int32.le_iff_toInt_le, Int32.lt_iff_toInt_lt]
  omega
theorem x_stand (u y : Int32) : f_X5_canStand u y = (if u = 111 then if y < 12 then some 1 else if u = 45 then some 1 else if u = 124 then some 1 else if u = 64 then if y ≤ 0 then some 0 else some 1 else some 0 else if u = 45 then some 1 else if u = 124 then some 1 else if u = 64 then if y ≤ 0 then some 0 else some 1 else some 0) := by
  unfold f_X5_canStand
  by_cases h1 : u = 64
  · subst h1
    rw [if_pos (show (64 : Int32) = 64 from rfl), if_neg (show ¬ (64 : Int32) = 111 by decide), if_neg (show ¬ (64 : Int32) = 45 by decide), if_neg (show ¬ (64 : Int32) = 124 by decide), if_pos (show (64 : Int32) = 64 from rfl)]
    by_cases h2 : y ≤ 0
    · rw [if_pos h2]; rfl
    · rw [if_neg h2]; rfl
  · rw [if_neg h1]
    by_cases h2 : u = 111
    · subst h2
      rw [if_pos rfl, if_pos rfl]
      by_cases h3 : y < 12
      · rw [if_pos h3, if_neg (fun h => (i32_le_lt _ _).mp h h3)]; rfl
      · rw [if_neg h3, if_pos ((i32_le_lt _ _).mpr h3), if_neg (by decide), if_neg (by decide), if_neg (by decide)]; rfl
    · rw [if_neg h2, if_neg h2]
      by_cases h4 : u = 45
      · rw [if_pos h4, if_pos h4]; rfl
      · rw [if_neg h4, if_neg h4]
        by_cases h5 : u = 124
        · rw [if_pos h5, if_pos h5]; rfl
        · rw [if_neg h5, if_neg h5, if_neg h1]; rfl
theorem faults {cnt : Nat} (hc : cnt ≤ 30) (f : Nat → Int32) : ∀ (m i c : Nat) (y : Int32), c ≤ i → i ≤ cnt → cnt < i + m → ∃ o, f_X5_firstFault_6 (nI cnt) f m (nI c) y (nI i) = some o ∧ f_X11_fault_6 (nI cnt) f m (nI c) y (nI i) = some o ∧ ((∃ c', c' ≤ 30 ∧ o = Sum.inl (nI c')) ∨ ∃ p, p ≤ 30 ∧ o = Sum.inr (nI p)) := by
  intro m
  induction m with
  | zero => intro i c y h1 h2 h3; omega
  | succ m ih =>
    intro i c y h1 h2 h3
    rw [f_X5_firstFault_6_s, f_X11_fault_6_s]
    by_cases he : cnt ≤ i
    · rw [if_pos (ps_le (by omega) (by omega) he), if_pos (ps_le (by omega) (by omega) he)]
      exact ⟨_, rfl, rfl, Or.inl ⟨c, by omega, rfl⟩⟩
    · rw [if_neg (ng_le (by omega) (by omega) (by omega)), if_neg (ng_le (by omega) (by omega) (by omega)), nu_get _ (show i < 30 by omega) (by omega), Option.bind_some, Option.bind_some]
      by_cases hy : y = 0
      · rw [if_pos hy, if_pos hy, ← x_stand]
        have hst : f_X5_canStand (f i) (nI c) = some 0 ∨ f_X5_canStand (f i) (nI c) = some 1 := by
          rw [x_stand]
          repeat' split
          all_goals first | exact Or.inl rfl | exact Or.inr rfl
        rcases hst with hst | hst
        · rw [hst, Option.bind_some, Option.bind_some, if_pos (show (0 : Int32) = 0 from rfl), if_pos (show (0 : Int32) = 0 from rfl)]
          exact ⟨_, rfl, rfl, Or.inr ⟨i, by omega, rfl⟩⟩
        · rw [hst, Option.bind_some, Option.bind_some, if_neg (show ¬ (1 : Int32) = 0 by decide), if_neg (show ¬ (1 : Int32) = 0 by decide)]
          by_cases ho : f i = 111
          · rw [if_pos ho, if_pos ho, Option.bind_some, Option.bind_some, nI_1, nI_1]
            by_cases ha : f i = 64
            · rw [if_pos ha, Option.bind_some]; exact ih (i + 1) (c + 1) 1 (by omega) (by omega) (by omega)
            · rw [if_neg ha, Option.bind_some]; exact ih (i + 1) (c + 1) 0 (by omega) (by omega) (by omega)
          · rw [if_neg ho, if_neg ho, Option.bind_some, Option.bind_some, nI_1, show nI c + 0 = nI c from by rw [show (0 : Int32) = nI 0 from rfl, nI_add, Nat.add_zero]]
            by_cases ha : f i = 64
            · rw [if_pos ha, Option.bind_some]; exact ih (i + 1) c 1 (by omega) (by omega) (by omega)
            · rw [if_neg ha, Option.bind_some]; exact ih (i + 1) c 0 (by omega) (by omega) (by omega)
      · rw [if_neg hy, if_neg hy, Option.bind_some, if_pos (show (0 : Int32) = 0 from rfl)]
        exact ⟨_, rfl, rfl, Or.inr ⟨i, by omega, rfl⟩⟩
/-- THE FAULT, by both -/
theorem fault2 {cnt : Nat} (hc : cnt ≤ 30) (f : Nat → Int32) : ∃ z, f_X5_firstFault (nI cnt) f = some z ∧ f_X11_fault (nI cnt) f = some z ∧ (z = -6 ∨ ∃ p, p ≤ 30 ∧ z = nI p) := by
  obtain ⟨o, e1, e2, ho⟩ := faults hc f FU 0 0 0 (by omega) (by omega) (by rw [FU_eq]; omega)
  unfold f_X5_firstFault f_X11_fault
  rw [show f_X5_firstFault_6 (nI cnt) f FU 0 0 0 = some o from e1, show f_X11_fault_6 (nI cnt) f FU 0 0 0 = some o from e2, Option.bind_some, Option.bind_some]
  rcases ho with ⟨c', hc', rfl⟩ | ⟨p, hp, rfl⟩
  · by_cases h0 : c' = 0
    · subst h0
      exact ⟨nI cnt, rfl, rfl, Or.inr ⟨cnt, hc, rfl⟩⟩
    · refine ⟨-6, ?_, ?_, Or.inl rfl⟩
      · show (if nI c' = 0 then some (nI cnt) else some (-6)).bind _ = _
        rw [if_neg (nI_ne0 (by omega) (by omega)), Option.bind_some]
      · show (if nI c' ≤ 0 then some (nI cnt) else some (-6)).bind _ = _
        rw [if_neg (nI_nle (by omega) (by omega)), Option.bind_some]
  · exact ⟨nI p, rfl, rfl, Or.inr ⟨p, hp, rfl⟩⟩
/-- how many come in behind a first one on s -/
def cia (n : Nat) (Dm : Nat → Nat → Nat) (B : Nat) (w : Nat → Nat) (h s : Nat) : Nat := pc 12 (flf n Dm B w h (2 ^ s))
theorem x_cia {n : Nat} {Dm : Nat → Nat → Nat} {B h s : Nat} {w : Nat → Nat} {f g fw fb : Nat → Int32} (hD : Dok n Dm) (hB1 : 1 ≤ B) (hB : B ≤ 99) (hF : Far n Dm g) (hw : Wor n w fw) (hb : Nbs n Dm fb) (hh : h < 6) (hs : s < n) : ∃ a f', f_X10_comeInAfter (nI n) (nI B) f g fw fb (nI s) (nI h) = some (nI (cia n Dm B w h s), a, nI B, f') := by
  have hn := hD.1
  have hlt : flf n Dm B w h (0 ||| 2 ^ s) < 2 ^ n := flk_lt (by rw [Nat.zero_or]; exact Nat.pow_lt_pow_right (by omega) hs) 12
  have hp12 : 2 ^ n ≤ 2 ^ 12 := Nat.pow_le_pow_right (by omega) hn
  refine ⟨nI (flf n Dm B w h (0 ||| 2 ^ s)), NF n Dm (fun j => if j < 12 then 99 else f j) (flf n Dm B w h (0 ||| 2 ^ s)), ?_⟩
  unfold f_X10_comeInAfter
  rw [x_leaveN hD, Option.bind_some]
  show (f_X9_sit (nI 0) (nI n) (NF n Dm (fun j => if j < 12 then 99 else f j) 0) g (nI s)).bind _ = _
  rw [x_sitN hD hF hs, Option.bind_some, x_fillUp hD hB1 hB hF hw hb hh, Option.bind_some, x_number (by omega), Option.bind_some]
  unfold cia
  rw [Nat.zero_or]
theorem m_cia {n : Nat} {Dm : Nat → Nat → Nat} {B h s : Nat} {w : Nat → Nat} {g fw : Nat → Int32} (hD : Dok n Dm) (hB1 : 1 ≤ B) (hB : B ≤ 99) (hF : FarM n Dm g) (hw : Wor n w fw) (hh : h < 6) (hs : s < n) : f_X11_filledBy (nI n) (nI B) g fw ((1 : Int32) <<< (nI s &&& 31)) (nI h) = some (nI (flf n Dm B w h (2 ^ s))) ∧ f_X11_ones (nI (flf n Dm B w h (2 ^ s))) = some (nI (cia n Dm B w h s)) := by
  have hn := hD.1
  have h2 : 2 ^ s < 2 ^ n := Nat.pow_lt_pow_right (by omega) hs
  have hp12 : 2 ^ n ≤ 2 ^ 12 := Nat.pow_le_pow_right (by omega) hn
  have hlt : flf n Dm B w h (2 ^ s) < 2 ^ n := flk_lt h2 12
  rw [nu_shl (by omega), m_filledBy hD hF hB1 hB hw hh h2]
  exact ⟨rfl, m_ones (by omega)⟩
theorem cia_le (n : Nat) (Dm : Nat → Nat → Nat) (B : Nat) (w : Nat → Nat) (h s : Nat) : cia n Dm B w h s ≤ 12 := pc_le _ 12
/-- the value that stands beside the best -/
def bv (v : Nat → Nat) (o : Option Nat) : Int32 := match o with
  | none => 0
  | some b => nI (v b)
theorem bst_all (R : Nat → Int) : ∀ i, 1 ≤ i → ∃ b, b < i ∧ bst (fun _ => true) R i = some b := by
  intro i hi
  cases h : bst (fun _ => true) R i with
  | none => exact absurd (bst_none h 0 (by omega)) (by decide)
  | some b => exact ⟨b, (bst_some h).1, rfl⟩
theorem bst_nx {R : Nat → Int} {i b : Nat} (h : bst (fun _ => true) R i = some b) : bst (fun _ => true) R (i + 1) = if R b < R i then some i else some b := by
  show (if true = true then bnx R i (bst (fun _ => true) R i) else bst (fun _ => true) R i) = _
  rw [if_pos rfl, h]
  rfl
theorem m_first {n : Nat} {Dm : Nat → Nat → Nat} {B h : Nat} {w : Nat → Nat} {g fw : Nat → Int32} (hD : Dok n Dm) (hB1 : 1 ≤ B) (hB : B ≤ 99) (hF : FarM n Dm g) (hw : Wor n w fw) (hh : h < 6) : f_X11_first_38 (nI n) (nI B) g fw (nI h) FU (-6) (-6) 0 0 0 = some (eO32 (bst (fun _ => true) (fun s => (cia n Dm B w h s : Int)) n), eO32 (bst (fun _ => true) (fun s => -(cia n Dm B w h s : Int)) n), bv (cia n Dm B w h) (bst (fun _ => true) (fun s => (cia n Dm B w h s : Int)) n), bv (cia n Dm B w h) (bst (fun _ => true) (fun s => -(cia n Dm B w h s : Int)) n)) := by
  have hn := hD.1
  refine lp_at2 (fun m i (z : Int32 × Int32) (z' : Int32 × Int32) => f_X11_first_38 (nI n) (nI B) g fw (nI h) m z.1 z.2 z'.1 z'.2 (nI i)) n (fun i => (eO32 (bst (fun _ => true) (fun s => (cia n Dm B w h s : Int)) i), eO32 (bst (fun _ => true) (fun s => -(cia n Dm B w h s : Int)) i))) (fun i => (bv (cia n Dm B w h) (bst (fun _ => true) (fun s => (cia n Dm B w h s : Int)) i), bv (cia n Dm B w h) (bst (fun _ => true) (fun s => -(cia n Dm B w h s : Int)) i))) (s0 := ((-6 : Int32), (-6 : Int32))) (s0' := ((0 : Int32), (0 : Int32))) rfl rfl (by omega) ?_ ?_
  · intro m
    rw [f_X11_first_38_s, if_pos (ps_le (by omega) (by omega) (Nat.le_refl n))]
  · intro m i hi
    obtain ⟨c1, c2⟩ := m_cia (B := B) (h := h) hD hB1 hB hF hw hh hi
    rw [f_X11_first_38_s, if_neg (ng_le (by omega) (by omega) hi), c1, Option.bind_some, c2, Option.bind_some]
    have ci := cia_le n Dm B w h i
    by_cases h0 : i = 0
    · subst h0
      rw [if_pos (show eO32 (bst (fun _ => true) (fun s => (cia n Dm B w h s : Int)) 0) < 0 from (by decide : eO32 none < 0)), Option.bind_some, if_pos (show eO32 (bst (fun _ => true) (fun s => -(cia n Dm B w h s : Int)) 0) < 0 from (by decide : eO32 none < 0)), Option.bind_some]
      rfl
    · obtain ⟨b1, hb1, e1⟩ := bst_all (fun s => (cia n Dm B w h s : Int)) i (by omega)
      obtain ⟨b2, hb2, e2⟩ := bst_all (fun s => -(cia n Dm B w h s : Int)) i (by omega)
      have d1 := cia_le n Dm B w h b1
      have d2 := cia_le n Dm B w h b2
      rw [bst_nx e1, bst_nx e2, e1, e2]
      rw [if_neg (show ¬ eO32 (some b1) < 0 from nI_pos (show b1 < 2 ^ 31 by omega)), if_neg (show ¬ eO32 (some b2) < 0 from nI_pos (show b2 < 2 ^ 31 by omega)), nI_1]
      have q1 : (if nI (cia n Dm B w h i) ≤ bv (cia n Dm B w h) (some b1) then some (eO32 (some b1), bv (cia n Dm B w h) (some b1)) else some (nI i, nI (cia n Dm B w h i))) = some (eO32 (if (cia n Dm B w h b1 : Int) < cia n Dm B w h i then some i else some b1), bv (cia n Dm B w h) (if (cia n Dm B w h b1 : Int) < cia n Dm B w h i then some i else some b1)) := by
        by_cases hc : cia n Dm B w h i ≤ cia n Dm B w h b1
        · rw [if_pos (show nI (cia n Dm B w h i) ≤ bv (cia n Dm B w h) (some b1) from ps_le (by omega) (by omega) hc), if_neg (by omega)]
        · rw [if_neg (show ¬ nI (cia n Dm B w h i) ≤ bv (cia n Dm B w h) (some b1) from ng_le (by omega) (by omega) (by omega)), if_pos (by omega)]
          rfl
      have q2 : (if bv (cia n Dm B w h) (some b2) ≤ nI (cia n Dm B w h i) then some (eO32 (some b2), bv (cia n Dm B w h) (some b2)) else some (nI i, nI (cia n Dm B w h i))) = some (eO32 (if -(cia n Dm B w h b2 : Int) < -(cia n Dm B w h i : Int) then some i else some b2), bv (cia n Dm B w h) (if -(cia n Dm B w h b2 : Int) < -(cia n Dm B w h i : Int) then some i else some b2)) := by
        by_cases hc : cia n Dm B w h b2 ≤ cia n Dm B w h i
        · rw [if_pos (show bv (cia n Dm B w h) (some b2) ≤ nI (cia n Dm B w h i) from ps_le (by omega) (by omega) hc), if_neg (by omega)]
        · rw [if_neg (show ¬ bv (cia n Dm B w h) (some b2) ≤ nI (cia n Dm B w h i) from ng_le (by omega) (by omega) (by omega)), if_pos (by omega)]
          rfl
      rw [q1, Option.bind_some, q2, Option.bind_some]
end ST5
set_option maxHeartbeats 1000000 in
theorem s_fault : St_fault Inv := by
  intro v_pad_count v_pad_signs v_scene_seats v_scene_bear v_scene_comerCount v_scene_seenRows v_scene_steps v_scene_worths v_scene_comers v_scene_seen v_scene_seenLengths v_bench_apart v_bench_clash v_bench_neighbours v_trial_apart v_trial_clash v_trial_neighbours v_sitters_set v_sitters_bear v_sitters_nearest v_trialSitters_set v_trialSitters_bear v_trialSitters_nearest v_sets_size v_sets_places v_sets_filled v_sets_open v_sets_chance v_census_least v_census_most v_census_known v_census_wholeSets v_census_orders v_match_known v_match_kind v_match_wicked v_couples_count v_couples_lesser v_couples_greater v_couples_tooNear v_couples_clash v_passing_turnedAway v_passing_parts v_passing_habit v_passing_odds v_longRows_between v_signMany v_seats v_bearIs v_rowsAll v_awayUpper v_lower v_comerMany v_seenRows v_place v_isWriting v_signs v_links v_worths v_far v_mays v_rowsTo v_endIn v_ends v_pairSets v_awayIn v_now v_then v_comers v_seen v_seenMany v_kept v_isKept d0 d1 hI 
  obtain ⟨n, B, k, r, st, w, hb, sn, ln, cnt, hp, hs, he, hbn, hce, hma, hlr, hi0, hi1⟩ := hI
  obtain ⟨rfl, hcnt, rfl, rfl⟩ := hp
  obtain ⟨rfl, rfl, rfl, rfl, rfl, rfl, rfl, rfl, rfl⟩ := he
  obtain ⟨z, e1, e2, _⟩ := fault2 hcnt v_signs
  refine ⟨z, z, ?_, e2, rfl, n, B, k, r, st, w, hb, sn, ln, cnt, ⟨rfl, hcnt, rfl, rfl⟩, hs, ⟨rfl, rfl, rfl, rfl, rfl, rfl, rfl, rfl, rfl⟩, hbn, hce, hma, hlr, hi0, hi1⟩
  unfold f_X10_fault
  rw [e1, Option.bind_some]
set_option maxHeartbeats 1000000 in
theorem s_first : St_first Inv := by
  intro v_pad_count v_pad_signs v_scene_seats v_scene_bear v_scene_comerCount v_scene_seenRows v_scene_steps v_scene_worths v_scene_comers v_scene_seen v_scene_seenLengths v_bench_apart v_bench_clash v_bench_neighbours v_trial_apart v_trial_clash v_trial_neighbours v_sitters_set v_sitters_bear v_sitters_nearest v_trialSitters_set v_trialSitters_bear v_trialSitters_nearest v_sets_size v_sets_places v_sets_filled v_sets_open v_sets_chance v_census_least v_census_most v_census_known v_census_wholeSets v_census_orders v_match_known v_match_kind v_match_wicked v_couples_count v_couples_lesser v_couples_greater v_couples_tooNear v_couples_clash v_passing_turnedAway v_passing_parts v_passing_habit v_passing_odds v_longRows_between v_signMany v_seats v_bearIs v_rowsAll v_awayUpper v_lower v_comerMany v_seenRows v_place v_isWriting v_signs v_links v_worths v_far v_mays v_rowsTo v_endIn v_ends v_pairSets v_awayIn v_now v_then v_comers v_seen v_seenMany v_kept v_isKept d0 d1 hI x1 x2
  obtain ⟨n, B, k, r, st, w, hb, sn, ln, cnt, hp, hs, he, hbn, hce, hma, hlr, hi0, hi1⟩ := hI
  obtain ⟨rfl, hcnt, rfl, rfl⟩ := hp
  obtain ⟨rfl, rfl, rfl, rfl, rfl, rfl, rfl, rfl, rfl⟩ := he
  obtain ⟨rfl, hn1, hn, rfl, hB1, hB4, rfl, hk, rfl, hr8, hst, hw, hcm, hsn⟩ := hs
  obtain ⟨hF, hFM, hcl, hnb⟩ := hbn
  have hD := Dd_ok (Ef n st 0) hn1 hn
  have hp12 : 2 ^ n ≤ 2 ^ 12 := Nat.pow_le_pow_right (by omega) hn
  by_cases h1 : inR x1 0 5 = true
  · obtain ⟨h, hh, rfl⟩ := (inR_nat (b := 5) (by omega)).mp h1
    by_cases h2 : inR x2 0 3 = true
    · obtain ⟨q, hq, rfl⟩ := (inR_nat (b := 3) (by omega)).mp h2
      have mf := m_first (h := h) hD hB1 (show B ≤ 99 by omega) hFM hw (by omega)
      have key : ∀ (w5 : Int32) (R : Nat → Int), (w5 = 1 ∧ R = (fun s => (cia n (Dd n (Ef n st 0)) B w h s : Int)) ∨ w5 = 0 ∧ R = (fun s => -(cia n (Dd n (Ef n st 0)) B w h s : Int))) → ∃ u a b' f', f_X10_comeInAfter (nI n) (nI B) v_sitters_nearest v_bench_apart v_worths v_bench_neighbours 0 (nI h) = some u ∧ f_X10_first_48 (nI n) (nI B) v_bench_apart v_worths v_bench_neighbours (nI h) w5 FU 0 u.1 1 u.2.1 u.2.2.1 u.2.2.2 = some (eO32 (bst (fun _ => true) R n), bv (cia n (Dd n (Ef n st 0)) B w h) (bst (fun _ => true) R n), a, b', f') := by
        intro w5 R hR
        obtain ⟨a0, f0, e0⟩ := x_cia (f := v_sitters_nearest) (s := 0) (h := h) hD hB1 (show B ≤ 99 by omega) hF hw hnb (by omega) (by omega)
        have hs : ∀ m i (z : Int32 × Int32 × Int32 × Int32 × (Nat → Int32)), i < n - 1 → (z.1 = eO32 (bst (fun _ => true) R (i + 1)) ∧ z.2.1 = bv (cia n (Dd n (Ef n st 0)) B w h) (bst (fun _ => true) R (i + 1))) → ∃ z' : Int32 × Int32 × Int32 × Int32 × (Nat → Int32), (z'.1 = eO32 (bst (fun _ => true) R (i + 1 + 1)) ∧ z'.2.1 = bv (cia n (Dd n (Ef n st 0)) B w h) (bst (fun _ => true) R (i + 1 + 1))) ∧ f_X10_first_48 (nI n) (nI B) v_bench_apart v_worths v_bench_neighbours (nI h) w5 (m + 1) z.1 z.2.1 (nI (i + 1)) z.2.2.1 z.2.2.2.1 z.2.2.2.2 = f_X10_first_48 (nI n) (nI B) v_bench_apart v_worths v_bench_neighbours (nI h) w5 m z'.1 z'.2.1 (nI (i + 1 + 1)) z'.2.2.1 z'.2.2.2.1 z'.2.2.2.2 := by
          intro m i z hi ⟨g1, g2⟩
          obtain ⟨a1, f1, e1⟩ := x_cia (f := z.2.2.2.2) (s := i + 1) (h := h) hD hB1 (show B ≤ 99 by omega) hF hw hnb (by omega) (by omega)
          obtain ⟨b1, hb1, eb⟩ := bst_all R (i + 1) (by omega)
          have d1 := cia_le n (Dd n (Ef n st 0)) B w h b1
          have d2 := cia_le n (Dd n (Ef n st 0)) B w h (i + 1)
          rw [eb] at g1 g2
          refine ⟨(eO32 (bst (fun _ => true) R (i + 1 + 1)), bv (cia n (Dd n (Ef n st 0)) B w h) (bst (fun _ => true) R (i + 1 + 1)), a1, nI B, f1), ⟨rfl, rfl⟩, ?_⟩
          rw [f_X10_first_48_s, if_neg (ng_le (by omega) (by omega) (by omega)), e1, Option.bind_some, bst_nx eb, g1, g2, nI_1]
          rcases hR with ⟨rfl, rfl⟩ | ⟨rfl, rfl⟩
          · rw [if_neg (show ¬ (1 : Int32) = 0 by decide)]
            by_cases hc : cia n (Dd n (Ef n st 0)) B w h (i + 1) ≤ cia n (Dd n (Ef n st 0)) B w h b1
            · rw [if_pos (show nI (cia n (Dd n (Ef n st 0)) B w h (i + 1)) ≤ bv (cia n (Dd n (Ef n st 0)) B w h) (some b1) from ps_le (by omega) (by omega) hc), Option.bind_some, if_neg (by dsimp only; omega)]
            · rw [if_neg (show ¬ nI (cia n (Dd n (Ef n st 0)) B w h (i + 1)) ≤ bv (cia n (Dd n (Ef n st 0)) B w h) (some b1) from ng_le (by omega) (by omega) (by omega)), Option.bind_some, if_pos (by dsimp only; omega)]
              rfl
          · rw [if_pos (show (0 : Int32) = 0 from rfl)]
            by_cases hc : cia n (Dd n (Ef n st 0)) B w h b1 ≤ cia n (Dd n (Ef n st 0)) B w h (i + 1)
            · rw [if_pos (show bv (cia n (Dd n (Ef n st 0)) B w h) (some b1) ≤ nI (cia n (Dd n (Ef n st 0)) B w h (i + 1)) from ps_le (by omega) (by omega) hc), Option.bind_some, if_neg (by dsimp only; omega)]
            · rw [if_neg (show ¬ bv (cia n (Dd n (Ef n st 0)) B w h) (some b1) ≤ nI (cia n (Dd n (Ef n st 0)) B w h (i + 1)) from ng_le (by omega) (by omega) (by omega)), Option.bind_some, if_pos (by dsimp only; omega)]
              rfl
        obtain ⟨z', m, ⟨t1, t2⟩, t3⟩ := lp_inv (fun m i (z : Int32 × Int32 × Int32 × Int32 × (Nat → Int32)) => f_X10_first_48 (nI n) (nI B) v_bench_apart v_worths v_bench_neighbours (nI h) w5 m z.1 z.2.1 (nI (i + 1)) z.2.2.1 z.2.2.2.1 z.2.2.2.2) (n - 1) (fun i z => z.1 = eO32 (bst (fun _ => true) R (i + 1)) ∧ z.2.1 = bv (cia n (Dd n (Ef n st 0)) B w h) (bst (fun _ => true) R (i + 1))) hs FU 0 (0, nI (cia n (Dd n (Ef n st 0)) B w h 0), a0, nI B, f0) (by omega) (by rw [FU_eq]; omega) ⟨rfl, rfl⟩
        rw [show n - 1 + 1 = n by omega] at t1 t2 t3
        refine ⟨_, z'.2.2.1, z'.2.2.2.1, z'.2.2.2.2, e0, ?_⟩
        show f_X10_first_48 (nI n) (nI B) v_bench_apart v_worths v_bench_neighbours (nI h) w5 FU 0 (nI (cia n (Dd n (Ef n st 0)) B w h 0)) (nI (0 + 1)) a0 (nI B) f0 = _
        have t3' : f_X10_first_48 (nI n) (nI B) v_bench_apart v_worths v_bench_neighbours (nI h) w5 FU 0 (nI (cia n (Dd n (Ef n st 0)) B w h 0)) (nI (0 + 1)) a0 (nI B) f0 = _ := t3
        rw [t3', f_X10_first_48_s, if_pos (ps_le (by omega) (by omega) (Nat.le_refl n)), t1, t2]
      rcases (show q = 0 ∨ q = 1 ∨ q = 2 ∨ q = 3 by omega) with rfl | rfl | rfl | rfl
      · obtain ⟨u, a, b', f', e1, e2⟩ := key 1 _ (Or.inl ⟨rfl, rfl⟩)
        refine ⟨(eO32 (bst (fun _ => true) (fun s => (cia n (Dd n (Ef n st 0)) B w h s : Int)) n), a, b', f'), eO32 (bst (fun _ => true) (fun s => (cia n (Dd n (Ef n st 0)) B w h s : Int)) n), ?_, ?_, rfl, n, B, k, r, st, w, hb, sn, ln, cnt, ⟨rfl, hcnt, rfl, rfl⟩, ⟨rfl, hn1, hn, rfl, hB1, hB4, rfl, hk, rfl, hr8, hst, hw, hcm, hsn⟩, ⟨rfl, rfl, rfl, rfl, rfl, rfl, rfl, rfl, rfl⟩, ⟨hF, hFM, hcl, hnb⟩, hce, hma, hlr, hi0, hi1⟩
        · unfold f_X10_first
          rw [x_habit, h1, Option.bind_some, if_neg (by decide), x_within, h2, Option.bind_some, if_neg (by decide), if_pos (show nI 0 = 0 from rfl), Option.bind_some, e1, Option.bind_some, e2, Option.bind_some, if_neg (show ¬ (2 : Int32) ≤ nI 0 by decide), Option.bind_some]
        · unfold f_X11_first
          rw [m_habit, h1, Option.bind_some, if_neg (by decide), show ((0 : Int64)) = (0 : Int32).toInt64 from rfl, show ((3 : Int64)) = (3 : Int32).toInt64 from rfl, m_in, h2, Option.bind_some, if_neg (by decide), mf, Option.bind_some, if_pos (show nI 0 = 0 from rfl), Option.bind_some]
      · obtain ⟨u, a, b', f', e1, e2⟩ := key 0 _ (Or.inr ⟨rfl, rfl⟩)
        refine ⟨(eO32 (bst (fun _ => true) (fun s => -(cia n (Dd n (Ef n st 0)) B w h s : Int)) n), a, b', f'), eO32 (bst (fun _ => true) (fun s => -(cia n (Dd n (Ef n st 0)) B w h s : Int)) n), ?_, ?_, rfl, n, B, k, r, st, w, hb, sn, ln, cnt, ⟨rfl, hcnt, rfl, rfl⟩, ⟨rfl, hn1, hn, rfl, hB1, hB4, rfl, hk, rfl, hr8, hst, hw, hcm, hsn⟩, ⟨rfl, rfl, rfl, rfl, rfl, rfl, rfl, rfl, rfl⟩, ⟨hF, hFM, hcl, hnb⟩, hce, hma, hlr, hi0, hi1⟩
        · unfold f_X10_first
          rw [x_habit, h1, Option.bind_some, if_neg (by decide), x_within, h2, Option.bind_some, if_neg (by decide), if_neg (show ¬ nI 1 = 0 by decide), if_neg (show ¬ nI 1 = 2 by decide), Option.bind_some, e1, Option.bind_some, e2, Option.bind_some, if_neg (show ¬ (2 : Int32) ≤ nI 1 by decide), Option.bind_some]
        · unfold f_X11_first
          rw [m_habit, h1, Option.bind_some, if_neg (by decide), show ((0 : Int64)) = (0 : Int32).toInt64 from rfl, show ((3 : Int64)) = (3 : Int32).toInt64 from rfl, m_in, h2, Option.bind_some, if_neg (by decide), mf, Option.bind_some, if_neg (show ¬ nI 1 = 0 by decide), if_pos (show nI 1 = 1 from rfl), Option.bind_some]
      · obtain ⟨u, a, b', f', e1, e2⟩ := key 1 _ (Or.inl ⟨rfl, rfl⟩)
        refine ⟨(bv (cia n (Dd n (Ef n st 0)) B w h) (bst (fun _ => true) (fun s => (cia n (Dd n (Ef n st 0)) B w h s : Int)) n), a, b', f'), bv (cia n (Dd n (Ef n st 0)) B w h) (bst (fun _ => true) (fun s => (cia n (Dd n (Ef n st 0)) B w h s : Int)) n), ?_, ?_, rfl, n, B, k, r, st, w, hb, sn, ln, cnt, ⟨rfl, hcnt, rfl, rfl⟩, ⟨rfl, hn1, hn, rfl, hB1, hB4, rfl, hk, rfl, hr8, hst, hw, hcm, hsn⟩, ⟨rfl, rfl, rfl, rfl, rfl, rfl, rfl, rfl, rfl⟩, ⟨hF, hFM, hcl, hnb⟩, hce, hma, hlr, hi0, hi1⟩
        · unfold f_X10_first
          rw [x_habit, h1, Option.bind_some, if_neg (by decide), x_within, h2, Option.bind_some, if_neg (by decide), if_neg (show ¬ nI 2 = 0 by decide), if_pos (show nI 2 = 2 from rfl), Option.bind_some, e1, Option.bind_some, e2, Option.bind_some, if_pos (show (2 : Int32) ≤ nI 2 by decide), Option.bind_some]
        · unfold f_X11_first
          rw [m_habit, h1, Option.bind_some, if_neg (by decide), show ((0 : Int64)) = (0 : Int32).toInt64 from rfl, show ((3 : Int64)) = (3 : Int32).toInt64 from rfl, m_in, h2, Option.bind_some, if_neg (by decide), mf, Option.bind_some, if_neg (show ¬ nI 2 = 0 by decide), if_neg (show ¬ nI 2 = 1 by decide), if_pos (show nI 2 = 2 from rfl), Option.bind_some]
      · obtain ⟨u, a, b', f', e1, e2⟩ := key 0 _ (Or.inr ⟨rfl, rfl⟩)
        refine ⟨(bv (cia n (Dd n (Ef n st 0)) B w h) (bst (fun _ => true) (fun s => -(cia n (Dd n (Ef n st 0)) B w h s : Int)) n), a, b', f'), bv (cia n (Dd n (Ef n st 0)) B w h) (bst (fun _ => true) (fun s => -(cia n (Dd n (Ef n st 0)) B w h s : Int)) n), ?_, ?_, rfl, n, B, k, r, st, w, hb, sn, ln, cnt, ⟨rfl, hcnt, rfl, rfl⟩, ⟨rfl, hn1, hn, rfl, hB1, hB4, rfl, hk, rfl, hr8, hst, hw, hcm, hsn⟩, ⟨rfl, rfl, rfl, rfl, rfl, rfl, rfl, rfl, rfl⟩, ⟨hF, hFM, hcl, hnb⟩, hce, hma, hlr, hi0, hi1⟩
        · unfold f_X10_first
          rw [x_habit, h1, Option.bind_some, if_neg (by decide), x_within, h2, Option.bind_some, if_neg (by decide), if_neg (show ¬ nI 3 = 0 by decide), if_neg (show ¬ nI 3 = 2 by decide), Option.bind_some, e1, Option.bind_some, e2, Option.bind_some, if_pos (show (2 : Int32) ≤ nI 3 by decide), Option.bind_some]
        · unfold f_X11_first
          rw [m_habit, h1, Option.bind_some, if_neg (by decide), show ((0 : Int64)) = (0 : Int32).toInt64 from rfl, show ((3 : Int64)) = (3 : Int32).toInt64 from rfl, m_in, h2, Option.bind_some, if_neg (by decide), mf, Option.bind_some, if_neg (show ¬ nI 3 = 0 by decide), if_neg (show ¬ nI 3 = 1 by decide), if_neg (show ¬ nI 3 = 2 by decide), Option.bind_some]
    · have h2 : inR x2 0 3 = false := by simpa using h2
      refine ⟨(-2, v_sitters_set, v_sitters_bear, v_sitters_nearest), -2, ?_, ?_, rfl, n, B, k, r, st, w, hb, sn, ln, cnt, ⟨rfl, hcnt, rfl, rfl⟩, ⟨rfl, hn1, hn, rfl, hB1, hB4, rfl, hk, rfl, hr8, hst, hw, hcm, hsn⟩, ⟨rfl, rfl, rfl, rfl, rfl, rfl, rfl, rfl, rfl⟩, ⟨hF, hFM, hcl, hnb⟩, hce, hma, hlr, hi0, hi1⟩
      · unfold f_X10_first
        rw [x_habit, h1, Option.bind_some, if_neg (by decide), x_within, h2, Option.bind_some, if_pos (by decide)]
      · unfold f_X11_first
        rw [m_habit, h1, Option.bind_some, if_neg (by decide), show ((0 : Int64)) = (0 : Int32).toInt64 from rfl, show ((3 : Int64)) = (3 : Int32).toInt64 from rfl, m_in, h2, Option.bind_some, if_pos (by decide)]
  · have h1 : inR x1 0 5 = false := by simpa using h1
    refine ⟨(-2, v_sitters_set, v_sitters_bear, v_sitters_nearest), -2, ?_, ?_, rfl, n, B, k, r, st, w, hb, sn, ln, cnt, ⟨rfl, hcnt, rfl, rfl⟩, ⟨rfl, hn1, hn, rfl, hB1, hB4, rfl, hk, rfl, hr8, hst, hw, hcm, hsn⟩, ⟨rfl, rfl, rfl, rfl, rfl, rfl, rfl, rfl, rfl⟩, ⟨hF, hFM, hcl, hnb⟩, hce, hma, hlr, hi0, hi1⟩
    · unfold f_X10_first
      rw [x_habit, h1, Option.bind_some, if_pos (by decide)]
    · unfold f_X11_first
      rw [m_habit, h1, Option.bind_some, if_pos (by decide)]
