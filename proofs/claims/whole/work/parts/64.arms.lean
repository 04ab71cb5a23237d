/-! arms on places -/
section AR1
theorem bst_skip {op op' : Nat → Bool} {R : Nat → Int} {N : Nat} (hle : ∀ S, op' S = true → op S = true) (hsk : ∀ S, S < N → op S = true → op' S = false → ∃ S', S' < S ∧ op S' = true ∧ R S ≤ R S') : ∀ i, i ≤ N → bst op R i = bst op' R i := by
  intro i
  induction i with
  | zero => intro _; rfl
  | succ i ih =>
    intro hi
    have e := ih (by omega)
    cases h' : op' i with
    | true => rw [bst_yes h', bst_yes (hle i h'), e]
    | false =>
      rw [bst_no h']
      cases h : op i with
      | false => rw [bst_no h, e]
      | true =>
        obtain ⟨S', h1, h2, h3⟩ := hsk i (by omega) h h'
        obtain ⟨b, hb⟩ := bst_ex (R := R) h1 h2
        have := (bst_mx hb).1 S' h1 h2
        rw [bst_yes h, ← e, hb]
        show (if R b < R i then some i else some b) = _
        rw [if_neg (by omega)]
def RV (V : Nat → Nat) (S : Nat) : Int := 16 * (V S : Int) - (pc 12 S : Int)
theorem RV_lt {V : Nat → Nat} {a b : Nat} : RV V a < RV V b ↔ V a < V b ∨ (V a = V b ∧ pc 12 b < pc 12 a) := by
  unfold RV
  have h1 := pc_le a 12
  have h2 := pc_le b 12
  omega
def opk (k S : Nat) : Bool := decide (pc 12 S ≤ k)
def opc (k c S : Nat) : Bool := decide (pc 12 S ≤ k) && decide (S &&& c = 0)
/-- places that have an arm -/
def ctm (st : Nat → Nat) : Nat → Nat
  | 0 => 0
  | i + 1 => if st i = 0 then ctm st i ||| 2 ^ i else ctm st i
theorem ctm_bit (st : Nat → Nat) (t : Nat) : ∀ i, (ctm st i).testBit t = true ↔ t < i ∧ st t = 0 := by
  intro i
  induction i with
  | zero =>
    show (0 : Nat).testBit t = true ↔ _
    rw [Nat.zero_testBit]
    exact ⟨fun h => (Bool.false_ne_true h).elim, fun h => by omega⟩
  | succ i ih =>
    unfold ctm
    by_cases h : st i = 0
    · rw [if_pos h, Nat.testBit_or, Bool.or_eq_true, ih, Nat.testBit_two_pow, decide_eq_true_eq]
      constructor
      · rintro (⟨a, b⟩ | e)
        · exact ⟨by omega, b⟩
        · subst e; exact ⟨by omega, h⟩
      · intro ⟨a, b⟩
        by_cases e : i = t
        · right; exact e
        · left; exact ⟨by omega, b⟩
    · rw [if_neg h, ih]
      constructor
      · intro ⟨a, b⟩; exact ⟨by omega, b⟩
      · intro ⟨a, b⟩
        by_cases e : t = i
        · subst e; exact absurd b h
        · exact ⟨by omega, b⟩
theorem ctm_lt (st : Nat → Nat) : ∀ i, ctm st i < 2 ^ i := by
  intro i
  induction i with
  | zero => exact Nat.one_pos
  | succ i ih =>
    unfold ctm
    have : 2 ^ i < 2 ^ (i + 1) := Nat.pow_lt_pow_right (by omega) (by omega)
    split
    · exact Nat.or_lt_two_pow (by omega) this
    · omega
theorem nI_p {a : Nat} (h : 1 ≤ a) : nI a - 1 = nI (a - 1) := pk_sub (a := a) (b := 1) h
theorem x_cut {n : Nat} {st : Nat → Nat} {fs : Nat → Int32} (hn1 : 1 ≤ n) (hn : n ≤ 12) (hst : ∀ i, i < n → fs i = nI (st i) ∧ st i ≤ 98) : f_X7_cutPlaces (nI n) fs = some (nI (ctm st (n - 1))) := by
  have hl : f_X7_cutPlaces_4 (nI n) fs FU 0 0 = some (nI (ctm st (n - 1))) := by
    refine lp_at (fun m i y => f_X7_cutPlaces_4 (nI n) fs m y (nI i)) (n - 1) (fun i => nI (ctm st i)) rfl (by omega) ?_ ?_
    · intro m
      rw [f_X7_cutPlaces_4_s, nI_p hn1, if_pos (ps_le (by omega) (by omega) (Nat.le_refl _))]
    · intro m i hi
      obtain ⟨h1, h2⟩ := hst i (by omega)
      rw [f_X7_cutPlaces_4_s, nI_p hn1, if_neg (ng_le (by omega) (by omega) hi), nu_get _ (show i < 12 by omega) (by omega), Option.bind_some, h1, nI_1]
      show _ = f_X7_cutPlaces_4 (nI n) fs m (nI (if st i = 0 then ctm st i ||| 2 ^ i else ctm st i)) (nI (i + 1))
      by_cases h : st i = 0
      · rw [h, if_pos (show nI 0 = 0 from rfl), Option.bind_some, nu_or (by omega), if_pos rfl]
      · rw [if_neg (nI_ne0 (by omega) (by omega)), Option.bind_some, if_neg h]
  unfold f_X7_cutPlaces
  rw [hl, Option.bind_some]
theorem Ef_cut {n : Nat} {st : Nat → Nat} (S : Nat) : Ef n st (andn S (ctm st (n - 1))) = Ef n st S := by
  funext i
  unfold Ef
  by_cases h : st i = 0
  · rw [if_pos h, if_pos h]
  · rw [if_neg h, if_neg h]
    have e : (andn S (ctm st (n - 1))).testBit i = S.testBit i := by
      rw [andn_bit]
      cases hc : (ctm st (n - 1)).testBit i with
      | false => simp
      | true => exact absurd ((ctm_bit st i _).mp hc).2 h
    rw [e]
theorem opc_bst {n k : Nat} {st : Nat → Nat} {V : Nat → Nat} (hn : n ≤ 12) (hV : ∀ S, V (andn S (ctm st (n - 1))) = V S) : bst (opk k) (RV V) (2 ^ (n - 1)) = bst (opc k (ctm st (n - 1))) (RV V) (2 ^ (n - 1)) := by
  refine bst_skip (N := 2 ^ (n - 1)) (fun S h => ?_) (fun S hS h1 h2 => ?_) _ (Nat.le_refl _)
  · unfold opc at h
    rw [Bool.and_eq_true] at h
    exact h.1
  · have hk := of_decide_eq_true h1
    have hne : S &&& ctm st (n - 1) ≠ 0 := by
      intro e
      unfold opc at h2
      rw [decide_eq_true hk, decide_eq_true e] at h2
      cases h2
    obtain ⟨u, hu⟩ := Nat.exists_testBit_of_ne_zero hne
    rw [Nat.testBit_and, Bool.and_eq_true] at hu
    have hsub : ∀ t, (andn S (ctm st (n - 1))).testBit t = true → S.testBit t = true := by
      intro t ht
      rw [andn_bit, Bool.and_eq_true] at ht
      exact ht.1
    have hno : (andn S (ctm st (n - 1))).testBit u = false := by rw [andn_bit, hu.2]; simp
    have hpc := pc_sub hsub hno hu.1 12
    have hle : andn S (ctm st (n - 1)) ≤ S := Nat.and_le_left
    have hneq : andn S (ctm st (n - 1)) ≠ S := by
      intro e
      rw [e, hu.1] at hno
      cases hno
    refine ⟨andn S (ctm st (n - 1)), by omega, decide_eq_true (by omega), ?_⟩
    unfold RV
    rw [hV S]
    omega
theorem opc_0 {k c : Nat} : opc k c 0 = true := by
  unfold opc
  rw [pc_0, Nat.zero_and, decide_eq_true (Nat.zero_le k), decide_eq_true rfl]
  rfl
/-- the class' best places, by any worth -/
theorem x_places {n B k c : Nat} {V : Nat → Nat} {fs w : Nat → Int32} {x1 : Int32} (hn1 : 1 ≤ n) (hn : n ≤ 12) (hk : k ≤ 3) (hc : c < 2 ^ (n - 1)) (hcut : f_X7_cutPlaces (nI n) fs = some (nI c)) (hV : ∀ m, m < 2 ^ (n - 1) → V m < 2 ^ 62) (hW : ∀ m, m < 2 ^ (n - 1) → ∀ ta tc tn sz pl fl fo ch ss sb sn, ∃ ta' tc' tn' sz' pl' fl' fo' ch' ss' sb' sn', f_X10_worthOfArms (nI n) (nI B) ta fs tc tn sz pl fl fo ch ss sb sn w (nI m) x1 = some (lN (V m), ta', tc', tn', sz', pl', fl', fo', ch', ss', sb', sn')) (ta tc tn : Nat → Int32) (sz pl : Int32) (fl fo ch : Nat → Int32) (ss sb : Int32) (sn : Nat → Int32) : ∃ b ta' tc' tn' sz' pl' fl' fo' ch' ss' sb' sn', bst (opc k c) (RV V) (2 ^ (n - 1)) = some b ∧ f_X10_bestPlaces (nI n) (nI B) ta fs tc tn sz pl fl fo ch ss sb sn w x1 (nI k) = some (nI b, ta', tc', tn', sz', pl', fl', fo', ch', ss', sb', sn') := by
  have hp12 : 2 ^ (n - 1) ≤ 2 ^ 11 := Nat.pow_le_pow_right (by omega) (by omega)
  have hpos : 0 < 2 ^ (n - 1) := Nat.pos_of_ne_zero (by simp [Nat.pow_eq_zero])
  obtain ⟨ta0, tc0, tn0, sz0, pl0, fl0, fo0, ch0, ss0, sb0, sn0, w0⟩ := hW 0 hpos ta tc tn sz pl fl fo ch ss sb sn
  obtain ⟨s', m, k1, k2⟩ := lp_inv (fun m i (z : Int32 × Int64 × (Nat → Int32) × (Nat → Int32) × (Nat → Int32) × Int32 × Int32 × (Nat → Int32) × (Nat → Int32) × (Nat → Int32) × Int32 × Int32 × (Nat → Int32)) => f_X10_bestPlaces_35 (nI n) (nI B) fs w x1 (nI k) (nI c) m z.1 z.2.1 (nI i) z.2.2.1 z.2.2.2.1 z.2.2.2.2.1 z.2.2.2.2.2.1 z.2.2.2.2.2.2.1 z.2.2.2.2.2.2.2.1 z.2.2.2.2.2.2.2.2.1 z.2.2.2.2.2.2.2.2.2.1 z.2.2.2.2.2.2.2.2.2.2.1 z.2.2.2.2.2.2.2.2.2.2.2.1 z.2.2.2.2.2.2.2.2.2.2.2.2) (2 ^ (n - 1)) (fun i z => ∃ b, bst (opc k c) (RV V) i = some b ∧ z.1 = nI b ∧ z.2.1 = lN (V b)) (fun m i z hi hI => by
    obtain ⟨b, b1, b2, b3⟩ := hI
    have hb := (bst_some b1).1
    have hpi := pc_le i 12
    have hpb := pc_le b 12
    have hand : i &&& c < 2 ^ (n - 1) := Nat.lt_of_le_of_lt Nat.and_le_left hi
    have hVi := hV i hi
    have hVb := hV b (by omega)
    by_cases h1 : pc 12 i ≤ k
    · by_cases h2 : i &&& c = 0
      · have ho : opc k c i = true := by
          unfold opc
          rw [decide_eq_true h1, decide_eq_true h2]; rfl
        obtain ⟨ta', tc', tn', sz', pl', fl', fo', ch', ss', sb', sn', w'⟩ := hW i hi z.2.2.1 z.2.2.2.1 z.2.2.2.2.1 z.2.2.2.2.2.1 z.2.2.2.2.2.2.1 z.2.2.2.2.2.2.2.1 z.2.2.2.2.2.2.2.2.1 z.2.2.2.2.2.2.2.2.2.1 z.2.2.2.2.2.2.2.2.2.2.1 z.2.2.2.2.2.2.2.2.2.2.2.1 z.2.2.2.2.2.2.2.2.2.2.2.2
        by_cases hr : RV V b < RV V i
        · refine ⟨(nI i, lN (V i), ta', tc', tn', sz', pl', fl', fo', ch', ss', sb', sn'), ⟨i, ?_, rfl, rfl⟩, ?_⟩
          · rw [bst_yes ho, b1]
            show (if RV V b < RV V i then some i else some b) = _
            rw [if_pos hr]
          · try dsimp only
            rw [f_X10_bestPlaces_35_s, nI_p hn1, nu_shl (by omega), if_neg (ng_le (by omega) (by omega) hi), x_bc i (by omega), Option.bind_some, if_neg (fun e => by have := (nI_ltI (by omega) (by omega)).mp e; omega), fa_and, h2, if_pos (show nI 0 = 0 from rfl), w', Option.bind_some, b2, b3, nI_1]
            dsimp only
            rcases RV_lt.mp hr with hv | ⟨hv, hp⟩
            · rw [if_pos ((lc_gt _ _).mpr ((pk_lLT (by omega) (by omega)).mpr hv)), Option.bind_some]
            · rw [if_neg (fun e => by have := (pk_lLT (by omega) (by omega)).mp ((lc_gt _ _).mp e); omega), if_pos ((lc_eq _ _).mpr (by rw [hv])), x_bc b (by omega), Option.bind_some, if_neg (ng_le (by omega) (by omega) hp), Option.bind_some]
        · refine ⟨(nI b, lN (V b), ta', tc', tn', sz', pl', fl', fo', ch', ss', sb', sn'), ⟨b, ?_, rfl, rfl⟩, ?_⟩
          · rw [bst_yes ho, b1]
            show (if RV V b < RV V i then some i else some b) = _
            rw [if_neg hr]
          · try dsimp only
            rw [f_X10_bestPlaces_35_s, nI_p hn1, nu_shl (by omega), if_neg (ng_le (by omega) (by omega) hi), x_bc i (by omega), Option.bind_some, if_neg (fun e => by have := (nI_ltI (by omega) (by omega)).mp e; omega), fa_and, h2, if_pos (show nI 0 = 0 from rfl), w', Option.bind_some, b2, b3, nI_1]
            dsimp only
            have hr' := fun e => hr (RV_lt.mpr e)
            rw [if_neg (fun e => hr' (Or.inl ((pk_lLT (by omega) (by omega)).mp ((lc_gt _ _).mp e))))]
            by_cases hv : V i = V b
            · rw [if_pos ((lc_eq _ _).mpr (by rw [hv])), x_bc b (by omega), Option.bind_some, if_pos (ps_le (by omega) (by omega) (by
                rcases Nat.lt_or_ge (pc 12 i) (pc 12 b) with h | h
                · exact absurd (Or.inr ⟨hv.symm, h⟩) hr'
                · exact h)), Option.bind_some]
            · rw [if_neg (fun e => hv ((pk_lEQ (by omega) (by omega)).mp ((lc_eq _ _).mp e))), Option.bind_some]
      · have ho : opc k c i = false := by
          unfold opc
          rw [decide_eq_true h1, decide_eq_false h2]; rfl
        refine ⟨z, ⟨b, by rw [bst_no ho]; exact b1, b2, b3⟩, ?_⟩
        try dsimp only
        rw [f_X10_bestPlaces_35_s, nI_p hn1, nu_shl (by omega), if_neg (ng_le (by omega) (by omega) hi), x_bc i (by omega), Option.bind_some, if_neg (fun e => by have := (nI_ltI (by omega) (by omega)).mp e; omega), fa_and, if_neg (nI_ne0 (Nat.pos_of_ne_zero h2) (by omega)), Option.bind_some, nI_1]
    · have ho : opc k c i = false := by
        unfold opc
        rw [decide_eq_false h1]; rfl
      refine ⟨z, ⟨b, by rw [bst_no ho]; exact b1, b2, b3⟩, ?_⟩
      try dsimp only
      rw [f_X10_bestPlaces_35_s, nI_p hn1, nu_shl (by omega), if_neg (ng_le (by omega) (by omega) hi), x_bc i (by omega), Option.bind_some, if_pos ((nI_ltI (by omega) (by omega)).mpr (by omega)), Option.bind_some, nI_1]) FU 1 (0, lN (V 0), ta0, tc0, tn0, sz0, pl0, fl0, fo0, ch0, ss0, sb0, sn0) (by omega) (by rw [FU_eq]; omega) ⟨0, by rw [show (1 : Nat) = 0 + 1 from rfl, bst_yes opc_0]; rfl, rfl, rfl⟩
  obtain ⟨b, b1, b2, b3⟩ := k1
  refine ⟨b, s'.2.2.1, s'.2.2.2.1, s'.2.2.2.2.1, s'.2.2.2.2.2.1, s'.2.2.2.2.2.2.1, s'.2.2.2.2.2.2.2.1, s'.2.2.2.2.2.2.2.2.1, s'.2.2.2.2.2.2.2.2.2.1, s'.2.2.2.2.2.2.2.2.2.2.1, s'.2.2.2.2.2.2.2.2.2.2.2.1, s'.2.2.2.2.2.2.2.2.2.2.2.2, b1, ?_⟩
  have k2' : f_X10_bestPlaces_35 (nI n) (nI B) fs w x1 (nI k) (nI c) FU 0 (lN (V 0)) 1 ta0 tc0 tn0 sz0 pl0 fl0 fo0 ch0 ss0 sb0 sn0 = _ := k2
  unfold f_X10_bestPlaces
  rw [show f_X10_worthOfArms (nI n) (nI B) ta fs tc tn sz pl fl fo ch ss sb sn w 0 x1 = _ from w0, Option.bind_some, hcut, Option.bind_some]
  dsimp only
  rw [k2', f_X10_bestPlaces_35_s, nI_p hn1, nu_shl (by omega), if_pos (ps_le (by omega) (by omega) (Nat.le_refl _)), Option.bind_some, b2]
/-- how many come in by a habit, with arms -/
def armV (n B : Nat) (st w : Nat → Nat) (h m : Nat) : Nat := pc 12 (flf n (Dd n (Ef n st m)) B w h 0)
theorem x_arm {n B h m : Nat} {st w : Nat → Nat} {ta tc tn tsn fs fw : Nat → Int32} (hn1 : 1 ≤ n) (hn : n ≤ 12) (hB1 : 1 ≤ B) (hB : B ≤ 99) (hst : ∀ i, i < n → fs i = nI (st i) ∧ st i ≤ 98) (hw : Wor n w fw) (hh : h < 6) (hm : m < 2 ^ (n - 1)) : ∃ ta' tc' tn' ss' sb' sn', f_X10_comeInWithArms (nI n) (nI B) ta fs tc tn tsn fw (nI m) (nI h) = some (nI (armV n B st w h m), ta', tc', tn', ss', sb', sn') := by
  have hp12 : 2 ^ n ≤ 2 ^ 12 := Nat.pow_le_pow_right (by omega) hn
  have hpos : 0 < 2 ^ n := Nat.pos_of_ne_zero (by simp [Nat.pow_eq_zero])
  have hD := Dd_ok (Ef n st m) hn1 hn
  obtain ⟨g', g1, g2⟩ := x_measure (B := B) (g := ta) (fc := tc) (fb := tn) (m := m) hn1 hn hB hst hm
  have hlt : flf n (Dd n (Ef n st m)) B w h 0 < 2 ^ n := flk_lt hpos 12
  refine ⟨g', (fun j => if j < n then nI (clm (Dd n (Ef n st m)) B j n) else tc j), (fun j => if j < n then nI (nbr (Dd n (Ef n st m)) j n) else tn j), nI (flf n (Dd n (Ef n st m)) B w h 0), nI B, NF n (Dd n (Ef n st m)) (fun j => if j < 12 then 99 else tsn j) (flf n (Dd n (Ef n st m)) B w h 0), ?_⟩
  unfold f_X10_comeInWithArms
  rw [g1, Option.bind_some, x_leaveN hD, Option.bind_some]
  dsimp only
  rw [show f_X9_fillUp 0 (nI B) (nI n) (NF n (Dd n (Ef n st m)) (fun j => if j < 12 then 99 else tsn j) 0) fw (fun j => if j < n then nI (nbr (Dd n (Ef n st m)) j n) else tn j) g' (nI h) = _ from x_fillUp (S := 0) hD hB1 hB g2 hw (fun j hj => by simp [hj]) hh, Option.bind_some]
  dsimp only
  rw [x_number (by omega), Option.bind_some]
  rfl
/-- the reference's best places by a habit -/
theorem m_arms {n B h k : Nat} {st w : Nat → Nat} {fs fw f : Nat → Int32} (hn1 : 1 ≤ n) (hn : n ≤ 12) (hB1 : 1 ≤ B) (hB : B ≤ 99) (hst : ∀ i, i < n → fs i = nI (st i) ∧ st i ≤ 98) (hw : Wor n w fw) (hh : h < 6) (hk : k ≤ 3) : ∃ z, f_X11_arms_42 (nI n) (nI B) fs fw (nI h) (nI k) FU (-6) 0 0 f = some (eO32 (bst (opk k) (RV (armV n B st w h)) (2 ^ (n - 1))), nI (ov (armV n B st w h) 0 (bst (opk k) (RV (armV n B st w h)) (2 ^ (n - 1)))), z) := by
  have hp11 : 2 ^ (n - 1) ≤ 2 ^ 11 := Nat.pow_le_pow_right (by omega) (by omega)
  have hp12 : 2 ^ n ≤ 2 ^ 12 := Nat.pow_le_pow_right (by omega) hn
  have hpos : 0 < 2 ^ n := Nat.pos_of_ne_zero (by simp [Nat.pow_eq_zero])
  obtain ⟨s', m, k1, k2⟩ := lp_inv (fun m i (z : Int32 × Int32 × (Nat → Int32)) => f_X11_arms_42 (nI n) (nI B) fs fw (nI h) (nI k) m z.1 z.2.1 (nI i) z.2.2) (2 ^ (n - 1)) (fun i z => z.1 = eO32 (bst (opk k) (RV (armV n B st w h)) i) ∧ z.2.1 = nI (ov (armV n B st w h) 0 (bst (opk k) (RV (armV n B st w h)) i))) (fun m i z hi hI => by
    obtain ⟨i1, i2⟩ := hI
    have hpi := pc_le i 12
    by_cases h1 : pc 12 i ≤ k
    · have ho : opk k i = true := decide_eq_true h1
      have hD := Dd_ok (Ef n st i) hn1 hn
      obtain ⟨zf, f1, f2⟩ := m_findFar (f := z.2.2) (m := i) hn1 hn hst (by omega)
      have hlt : flf n (Dd n (Ef n st i)) B w h 0 < 2 ^ n := flk_lt hpos 12
      have hVi : armV n B st w h i ≤ 12 := pc_le _ 12
      refine ⟨(eO32 (bst (opk k) (RV (armV n B st w h)) (i + 1)), nI (ov (armV n B st w h) 0 (bst (opk k) (RV (armV n B st w h)) (i + 1))), zf), ⟨rfl, rfl⟩, ?_⟩
      try dsimp only
      rw [f_X11_arms_42_s, nI_p hn1, nu_shl (by omega), if_neg (ng_le (by omega) (by omega) hi), m_ones (by omega), Option.bind_some, if_neg (fun e => by have := (nI_ltI (by omega) (by omega)).mp e; omega), f1, Option.bind_some, show f_X11_filledBy (nI n) (nI B) zf fw 0 (nI h) = _ from m_filledBy (S := 0) hD f2 hB1 hB hw hh hpos, Option.bind_some, m_ones (by omega), Option.bind_some, nI_1, show pc 12 (flf n (Dd n (Ef n st i)) B w h 0) = armV n B st w h i from rfl, i1, i2, bst_yes ho]
      cases hb : bst (opk k) (RV (armV n B st w h)) i with
      | none =>
        rw [if_pos (show eO32 none < 0 by decide), Option.bind_some]
        rfl
      | some b =>
        have hbi := (bst_some hb).1
        have hpb := pc_le b 12
        have hVb : armV n B st w h b ≤ 12 := pc_le _ 12
        rw [if_neg (show ¬ eO32 (some b) < 0 from nI_pos (by omega)), show ov (armV n B st w h) 0 (some b) = armV n B st w h b from rfl]
        show _ = f_X11_arms_42 (nI n) (nI B) fs fw (nI h) (nI k) m (eO32 (if RV (armV n B st w h) b < RV (armV n B st w h) i then some i else some b)) (nI (ov (armV n B st w h) 0 (if RV (armV n B st w h) b < RV (armV n B st w h) i then some i else some b))) (nI (i + 1)) zf
        by_cases hr : RV (armV n B st w h) b < RV (armV n B st w h) i
        · rw [if_pos hr]
          rcases RV_lt.mp hr with hv | ⟨hv, hp⟩
          · rw [if_pos ((nI_ltI (by omega) (by omega)).mpr hv), Option.bind_some]; rfl
          · rw [if_neg (fun e => by have := (nI_ltI (by omega) (by omega)).mp e; omega), if_pos (by rw [hv]), show f_X11_ones (eO32 (some b)) = _ from m_ones (S := b) (by omega), Option.bind_some, Option.bind_some, if_neg (ng_le (by omega) (by omega) hp), Option.bind_some]; rfl
        · rw [if_neg hr]
          have hr' := fun e => hr (RV_lt.mpr e)
          rw [if_neg (fun e => hr' (Or.inl ((nI_ltI (by omega) (by omega)).mp e)))]
          by_cases hv : armV n B st w h i = armV n B st w h b
          · rw [if_pos (by rw [hv]), show f_X11_ones (eO32 (some b)) = _ from m_ones (S := b) (by omega), Option.bind_some, Option.bind_some, if_pos (ps_le (by omega) (by omega) (by
              rcases Nat.lt_or_ge (pc 12 i) (pc 12 b) with h | h
              · exact absurd (Or.inr ⟨hv.symm, h⟩) hr'
              · exact h)), Option.bind_some]
            rfl
          · rw [if_neg (fun e => hv ((nI_eq (by omega) (by omega)).mp e)), Option.bind_some]
            rfl
    · have ho : opk k i = false := decide_eq_false h1
      refine ⟨z, ⟨by rw [bst_no ho]; exact i1, by rw [bst_no ho]; exact i2⟩, ?_⟩
      try dsimp only
      rw [f_X11_arms_42_s, nI_p hn1, nu_shl (by omega), if_neg (ng_le (by omega) (by omega) hi), m_ones (by omega), Option.bind_some, if_pos ((nI_ltI (by omega) (by omega)).mpr (by omega)), Option.bind_some, nI_1]) FU 0 (-6, 0, f) (Nat.zero_le _) (by rw [FU_eq]; omega) ⟨rfl, rfl⟩
  refine ⟨s'.2.2, ?_⟩
  have k2' : f_X11_arms_42 (nI n) (nI B) fs fw (nI h) (nI k) FU (-6) 0 0 f = _ := k2
  rw [k2', f_X11_arms_42_s, nI_p hn1, nu_shl (by omega), if_pos (ps_le (by omega) (by omega) (Nat.le_refl _)), k1.1, k1.2]
end AR1
