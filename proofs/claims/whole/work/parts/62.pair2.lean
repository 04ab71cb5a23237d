/-! most pairs at once -/
section PR2
theorem bop_bit (s : PS) (i u : Nat) : (bop s i).testBit u = true ↔ u = s.2.1 i ∨ u = s.2.2 i := by
  unfold bop
  rw [Nat.testBit_or, Bool.or_eq_true, Nat.testBit_two_pow, Nat.testBit_two_pow, decide_eq_true_eq, decide_eq_true_eq]
  constructor
  · rintro (h | h)
    · left; exact h.symm
    · right; exact h.symm
  · rintro (h | h)
    · left; exact h.symm
    · right; exact h.symm
/-- two pairs bear each other -/
def fr2 (n : Nat) (Dm : Nat → Nat → Nat) (B : Nat) (s : PS) (i j : Nat) : Prop := ∀ x y, (x = s.2.1 i ∨ x = s.2.2 i) → (y = s.2.1 j ∨ y = s.2.2 j) → B ≤ Dm x y
theorem fr2_sym {n : Nat} {Dm : Nat → Nat → Nat} {B : Nat} {s : PS} {i j : Nat} (hD : Dok n Dm) (hP : PLk n Dm s) (hi : i < s.1) (hj : j < s.1) (h : fr2 n Dm B s i j) : fr2 n Dm B s j i := by
  intro x y hx hy
  obtain ⟨p1, p2, p3⟩ := hP i hi
  obtain ⟨q1, q2, q3⟩ := hP j hj
  have hxn : x < n := by rcases hx with h | h <;> omega
  have hyn : y < n := by rcases hy with h | h <;> omega
  rw [hD.2.2.2.1 x y hxn hyn]
  exact h y x hy hx
theorem tnp_bit {n : Nat} {Dm : Nat → Nat → Nat} {B a b u : Nat} : (tnp n Dm B a b).testBit u = true ↔ u < n ∧ (Dm a u < B ∨ Dm b u < B) := by
  unfold tnp
  rw [Nat.testBit_or, Bool.or_eq_true, clm_bit, clm_bit, decide_eq_true_eq, decide_eq_true_eq]
  constructor
  · rintro (h | h)
    · exact ⟨h.1, Or.inl h.2⟩
    · exact ⟨h.1, Or.inr h.2⟩
  · rintro ⟨h1, h | h⟩
    · exact Or.inl ⟨h1, h⟩
    · exact Or.inr ⟨h1, h⟩
theorem and0 {n : Nat} {Dm : Nat → Nat → Nat} {B : Nat} {s : PS} {i j : Nat} (hP : PLk n Dm s) (hj : j < s.1) : (tnp n Dm B (s.2.1 i) (s.2.2 i) &&& bop s j = 0) ↔ fr2 n Dm B s i j := by
  obtain ⟨q1, q2, q3⟩ := hP j hj
  constructor
  · intro h x y hx hy
    rcases Nat.lt_or_ge (Dm x y) B with hl | hl
    · exfalso
      have hyn : y < n := by rcases hy with h | h <;> omega
      have h1 : (tnp n Dm B (s.2.1 i) (s.2.2 i) &&& bop s j).testBit y = true := by
        rw [Nat.testBit_and, Bool.and_eq_true]
        refine ⟨tnp_bit.mpr ⟨hyn, ?_⟩, (bop_bit s j y).mpr hy⟩
        rcases hx with h | h
        · left; rw [← h]; exact hl
        · right; rw [← h]; exact hl
      rw [h, Nat.zero_testBit] at h1
      cases h1
    · exact hl
  · intro h
    by_cases h0 : tnp n Dm B (s.2.1 i) (s.2.2 i) &&& bop s j = 0
    · exact h0
    · exfalso
      obtain ⟨u, hu⟩ := Nat.exists_testBit_of_ne_zero h0
      rw [Nat.testBit_and, Bool.and_eq_true] at hu
      obtain ⟨h1, h2⟩ := tnp_bit.mp hu.1
      have h3 := (bop_bit s j u).mp hu.2
      rcases h2 with h2 | h2
      · have := h _ u (Or.inl rfl) h3; omega
      · have := h _ u (Or.inr rfl) h3; omega
theorem tnp_lt (n : Nat) (Dm : Nat → Nat → Nat) (B a b : Nat) : tnp n Dm B a b < 2 ^ n := Nat.or_lt_two_pow (clm_lt Dm B a n) (clm_lt Dm B b n)
/-- the clashes of a pair -/
def pcl (n : Nat) (Dm : Nat → Nat → Nat) (B : Nat) (s : PS) (i : Nat) : Nat → Nat
  | 0 => 0
  | k + 1 => if tnp n Dm B (s.2.1 i) (s.2.2 i) &&& bop s k = 0 then pcl n Dm B s i k else pcl n Dm B s i k ||| 2 ^ k
theorem pcl_bit {n : Nat} {Dm : Nat → Nat → Nat} {B : Nat} {s : PS} {i t : Nat} : ∀ k, (pcl n Dm B s i k).testBit t = true ↔ t < k ∧ tnp n Dm B (s.2.1 i) (s.2.2 i) &&& bop s t ≠ 0 := by
  intro k
  induction k with
  | zero => simp [pcl]
  | succ k ih =>
    unfold pcl
    by_cases h : tnp n Dm B (s.2.1 i) (s.2.2 i) &&& bop s k = 0
    · rw [if_pos h, ih]
      constructor
      · intro ⟨a, b⟩; exact ⟨by omega, b⟩
      · intro ⟨a, b⟩
        by_cases e : t = k
        · subst e; exact absurd h b
        · exact ⟨by omega, b⟩
    · rw [if_neg h, Nat.testBit_or, Bool.or_eq_true, ih, Nat.testBit_two_pow, decide_eq_true_eq]
      constructor
      · rintro (⟨a, b⟩ | e)
        · exact ⟨by omega, b⟩
        · subst e; exact ⟨by omega, h⟩
      · intro ⟨a, b⟩
        by_cases e : k = t
        · right; exact e
        · left; exact ⟨by omega, b⟩
def pC (n : Nat) (Dm : Nat → Nat → Nat) (B : Nat) (s : PS) (i : Nat) : Nat := pcl n Dm B s i s.1
theorem Csy_pair {n : Nat} {Dm : Nat → Nat → Nat} {B : Nat} {s : PS} (hD : Dok n Dm) (hB1 : 1 ≤ B) (hP : PLk n Dm s) (hc : s.1 ≤ 12) : Csy s.1 (pC n Dm B s) (2 ^ s.1 - 1) := by
  have hpos : 0 < 2 ^ s.1 := Nat.pos_of_ne_zero (by simp [Nat.pow_eq_zero])
  refine ⟨hc, by omega, fun i j hi hj => ?_, fun i hi => ?_⟩
  · apply Bool.eq_iff_iff.mpr
    unfold pC
    rw [pcl_bit, pcl_bit]
    constructor
    · intro ⟨a, b⟩
      refine ⟨hi, fun e => b ((and0 hP hj).mpr (fr2_sym hD hP hj hi ((and0 hP hi).mp e)))⟩
    · intro ⟨a, b⟩
      refine ⟨hj, fun e => b ((and0 hP hi).mpr (fr2_sym hD hP hi hj ((and0 hP hj).mp e)))⟩
  · unfold pC
    rw [pcl_bit]
    refine ⟨hi, fun e => ?_⟩
    have h := (and0 hP hi).mp e _ _ (Or.inl rfl) (Or.inl rfl)
    obtain ⟨p1, p2, p3⟩ := hP i hi
    rw [hD.2.2.2.2 _ (by omega)] at h
    omega
theorem x_pclash {n : Nat} {Dm : Nat → Nat → Nat} {B : Nat} {s : PS} {l g t vc : Nat → Int32} (hn : n ≤ 12) (hP : PLk n Dm s) (hc : s.1 ≤ 12) (hL : Lpr n Dm B s l g t) : ∃ z, f_X2_mostAtOnce_2 (nI s.1) l g t FU 0 vc = some z ∧ ∀ i, i < s.1 → z i = nI (pC n Dm B s i) := by
  have hp12 : 2 ^ n ≤ 2 ^ 12 := Nat.pow_le_pow_right (by omega) hn
  have inner : ∀ (i : Nat) (z : Nat → Int32), i < s.1 → ∃ z', f_X2_mostAtOnce_19 (nI s.1) l g t (nI i) FU 0 (upd z i 0) = some z' ∧ z' i = nI (pC n Dm B s i) ∧ ∀ j, j ≠ i → z' j = z j := by
    intro i z hi
    obtain ⟨z', m, k1, k2⟩ := lp_inv (fun m k z => f_X2_mostAtOnce_19 (nI s.1) l g t (nI i) m (nI k) z) s.1 (fun k y => y i = nI (pcl n Dm B s i k) ∧ ∀ j, j ≠ i → y j = z j) (fun m k y hk hI => by
      obtain ⟨i1, i2⟩ := hI
      obtain ⟨l1, l2, l3⟩ := hL k hk
      obtain ⟨t1, t2, t3⟩ := hL i hi
      obtain ⟨p1, p2, p3⟩ := hP k hk
      have ht := tnp_lt n Dm B (s.2.1 i) (s.2.2 i)
      have hlt : tnp n Dm B (s.2.1 i) (s.2.2 i) &&& bop s k < 2 ^ n := Nat.lt_of_le_of_lt Nat.and_le_left ht
      by_cases h0 : tnp n Dm B (s.2.1 i) (s.2.2 i) &&& bop s k = 0
      · refine ⟨y, ⟨?_, i2⟩, ?_⟩
        · show _ = nI (if tnp n Dm B (s.2.1 i) (s.2.2 i) &&& bop s k = 0 then pcl n Dm B s i k else pcl n Dm B s i k ||| 2 ^ k)
          rw [if_pos h0]; exact i1
        · rw [f_X2_mostAtOnce_19_s, if_neg (ng_le (by omega) (by omega) hk), nu_get _ (show k < 12 by omega) (by omega), Option.bind_some, nu_get _ (show k < 12 by omega) (by omega), Option.bind_some, nu_get _ (show i < 12 by omega) (by omega), Option.bind_some, l1, l2, t3, nu_shl (by omega), nu_shl (by omega), fa_or, fa_and, show tnp n Dm B (s.2.1 i) (s.2.2 i) &&& (2 ^ s.2.1 k ||| 2 ^ s.2.2 k) = 0 from h0, if_pos (show nI 0 = 0 from rfl), Option.bind_some, nI_1]
      · refine ⟨upd y i (nI (pcl n Dm B s i k ||| 2 ^ k)), ⟨?_, ?_⟩, ?_⟩
        · show _ = nI (if tnp n Dm B (s.2.1 i) (s.2.2 i) &&& bop s k = 0 then pcl n Dm B s i k else pcl n Dm B s i k ||| 2 ^ k)
          rw [if_neg h0]; exact pk_us
        · intro j hj
          rw [pk_un hj]; exact i2 j hj
        · rw [f_X2_mostAtOnce_19_s, if_neg (ng_le (by omega) (by omega) hk), nu_get _ (show k < 12 by omega) (by omega), Option.bind_some, nu_get _ (show k < 12 by omega) (by omega), Option.bind_some, nu_get _ (show i < 12 by omega) (by omega), Option.bind_some, l1, l2, t3, nu_shl (by omega), nu_shl (by omega), fa_or, fa_and, if_neg (nI_ne0 (show 0 < tnp n Dm B (s.2.1 i) (s.2.2 i) &&& (2 ^ s.2.1 k ||| 2 ^ s.2.2 k) from Nat.pos_of_ne_zero h0) (Nat.lt_of_lt_of_le hlt (by omega))), nu_get _ (show i < 12 by omega) (by omega), Option.bind_some, i1, nu_or (by omega), nu_set _ _ (show i < 12 by omega) (by omega), Option.bind_some, Option.bind_some, nI_1]) FU 0 (upd z i 0) (Nat.zero_le _) (by rw [FU_eq]; omega) ⟨pk_us, fun j hj => pk_un hj⟩
    refine ⟨z', ?_, k1⟩
    have k2' : f_X2_mostAtOnce_19 (nI s.1) l g t (nI i) FU 0 (upd z i 0) = _ := k2
    rw [k2', f_X2_mostAtOnce_19_s, if_pos (ps_le (by omega) (by omega) (Nat.le_refl _))]
  obtain ⟨z', m, k1, k2⟩ := lp_inv (fun m i z => f_X2_mostAtOnce_2 (nI s.1) l g t m (nI i) z) s.1 (fun i z => ∀ j, j < i → z j = nI (pC n Dm B s j)) (fun m i z hi hI => by
    obtain ⟨z', q1, q2, q3⟩ := inner i z hi
    refine ⟨z', ?_, ?_⟩
    · intro j hj
      by_cases e : j = i
      · subst e; exact q2
      · rw [q3 j e]; exact hI j (by omega)
    · rw [f_X2_mostAtOnce_2_s, if_neg (ng_le (by omega) (by omega) hi), nu_set _ _ (show i < 12 by omega) (by omega), Option.bind_some, q1, Option.bind_some, nI_1]) FU 0 vc (Nat.zero_le _) (by rw [FU_eq]; omega) (fun j hj => by omega)
  refine ⟨z', ?_, k1⟩
  have k2' : f_X2_mostAtOnce_2 (nI s.1) l g t FU 0 vc = _ := k2
  rw [k2', f_X2_mostAtOnce_2_s, if_pos (ps_le (by omega) (by omega) (Nat.le_refl _))]
/-- the most of the good sets -/
def mxg (gd : Nat → Bool) : Nat → Nat
  | 0 => 0
  | S + 1 => if gd S then max (mxg gd S) (pc 12 S) else mxg gd S
theorem mxg_le (gd : Nat → Bool) : ∀ S, mxg gd S ≤ 12 := by
  intro S
  induction S with
  | zero => exact Nat.zero_le _
  | succ S ih =>
    unfold mxg
    have := pc_le S 12
    split <;> omega
theorem x_mostIn {p : Nat} {gd : Nat → Bool} {op : Nat → Nat} {fl fo : Nat → Int32} (hp : p ≤ 12) (hL : Lst gd op (2 ^ p) fl fo) : f_X8_mostIn (nI (fa_cnt gd (2 ^ p))) fl = some (nI (mxg gd (2 ^ p))) := by
  have hp12 : 2 ^ p ≤ 2 ^ 12 := Nat.pow_le_pow_right (by omega) hp
  have hcE := fa_cnt_le gd (2 ^ p)
  obtain ⟨s', m, e1, e2, e3⟩ := lp_cnt gd (fun m i z => f_X8_mostIn_4 (nI (fa_cnt gd (2 ^ p))) fl m z (nI i)) (2 ^ p) (fun S z => z = nI (mxg gd S))
    (fun m S z hS hg hI => by
      have hless := fa_less (p := gd) hg hS
      have h1 := mxg_le gd S
      have h2 := pc_le S 12
      refine ⟨nI (mxg gd (S + 1)), rfl, ?_⟩
      rw [f_X8_mostIn_4_s, if_neg (ng_le (by omega) (by omega) hless), nu_get _ (show fa_cnt gd S < 4096 by omega) (by omega), Option.bind_some, (hL S hS hg).1, x_bc S (by omega), Option.bind_some, hI, imax_n (by omega) (by omega), nI_1]
      show _ = f_X8_mostIn_4 (nI (fa_cnt gd (2 ^ p))) fl m (nI (if gd S then max (mxg gd S) (pc 12 S) else mxg gd S)) (nI (fa_cnt gd S + 1))
      rw [if_pos hg])
    (fun S z hS hg hI => by
      show z = nI (if gd S then max (mxg gd S) (pc 12 S) else mxg gd S)
      rw [if_neg (by rw [hg]; decide)]
      exact hI) (2 ^ p) (Nat.le_refl _) FU 0 (by rw [FU_eq]; omega) rfl
  obtain ⟨m', rfl⟩ : ∃ m', m = m' + 1 := ⟨m - 1, by rw [FU_eq] at e1; omega⟩
  have e3' : f_X8_mostIn_4 (nI (fa_cnt gd (2 ^ p))) fl FU 0 0 = _ := e3
  unfold f_X8_mostIn
  rw [e3', f_X8_mostIn_4_s, if_pos (ps_le (by omega) (by omega) (Nat.le_refl _)), Option.bind_some, e2]
theorem x_once {n : Nat} {Dm : Nat → Nat → Nat} {B : Nat} {s : PS} {l g t vc vfl vfo : Nat → Int32} (hn : n ≤ 12) (hP : PLk n Dm s) (hc : s.1 ≤ 12) (hL : Lpr n Dm B s l g t) : ∃ c' sz pl fl fo, f_X2_mostAtOnce (nI s.1) vc l g t vfl vfo = some (nI (mxg (gG (pC n Dm B s) (2 ^ s.1 - 1)) (2 ^ s.1)), c', sz, pl, fl, fo) := by
  have hp12 : 2 ^ s.1 ≤ 2 ^ 12 := Nat.pow_le_pow_right (by omega) hc
  have hpos : 0 < 2 ^ s.1 := Nat.pos_of_ne_zero (by simp [Nat.pow_eq_zero])
  obtain ⟨z, z1, z2⟩ := x_pclash (vc := vc) hn hP hc hL
  obtain ⟨fl, fo, h1, hLs⟩ := x_list (cl := pC n Dm B s) (O := 2 ^ s.1 - 1) (v_filled := vfl) (v_open := vfo) (fp := z) hc (by omega) z2
  refine ⟨z, nI (fa_cnt (gG (pC n Dm B s) (2 ^ s.1 - 1)) (2 ^ s.1)), nI s.1, fl, fo, ?_⟩
  unfold f_X2_mostAtOnce
  rw [z1, Option.bind_some, nu_shl (by omega), show nI (2 ^ s.1) - 1 = nI (2 ^ s.1 - 1) from pk_sub (a := 2 ^ s.1) (b := 1) (by omega), h1, Option.bind_some]
  dsimp only
  rw [x_mostIn hc hLs, Option.bind_some]
/-- the reference: are they apart -/
def oth (s : PS) (W k : Nat) : Nat → Nat
  | 0 => 0
  | j + 1 => if j ≠ k ∧ W.testBit j = true then oth s W k j ||| bop s j else oth s W k j
theorem oth_bit {s : PS} {W k u : Nat} : ∀ j, (oth s W k j).testBit u = true ↔ ∃ i, i < j ∧ i ≠ k ∧ W.testBit i = true ∧ (bop s i).testBit u = true := by
  intro j
  induction j with
  | zero =>
    show (0 : Nat).testBit u = true ↔ _
    rw [Nat.zero_testBit]
    exact ⟨fun h => (Bool.false_ne_true h).elim, fun ⟨i, h, _⟩ => by omega⟩
  | succ j ih =>
    unfold oth
    by_cases h : j ≠ k ∧ W.testBit j = true
    · rw [if_pos h, Nat.testBit_or, Bool.or_eq_true, ih]
      constructor
      · rintro (⟨i, a, b, c, d⟩ | d)
        · exact ⟨i, by omega, b, c, d⟩
        · exact ⟨j, by omega, h.1, h.2, d⟩
      · intro ⟨i, a, b, c, d⟩
        by_cases e : i = j
        · subst e; right; exact d
        · left; exact ⟨i, by omega, b, c, d⟩
    · rw [if_neg h, ih]
      constructor
      · intro ⟨i, a, b, c, d⟩; exact ⟨i, by omega, b, c, d⟩
      · intro ⟨i, a, b, c, d⟩
        by_cases e : i = j
        · subst e; exact absurd ⟨b, c⟩ h
        · exact ⟨i, by omega, b, c, d⟩
theorem bop_lt {n : Nat} {Dm : Nat → Nat → Nat} {s : PS} {i : Nat} (hP : PLk n Dm s) (hi : i < s.1) : bop s i < 2 ^ n := by
  obtain ⟨p1, p2, p3⟩ := hP i hi
  exact Nat.or_lt_two_pow (Nat.pow_lt_pow_right (by omega) (by omega)) (Nat.pow_lt_pow_right (by omega) p2)
theorem oth_lt {n : Nat} {Dm : Nat → Nat → Nat} {s : PS} {W k : Nat} (hP : PLk n Dm s) : ∀ j, j ≤ s.1 → oth s W k j < 2 ^ n := by
  intro j
  induction j with
  | zero => intro _; exact Nat.pos_of_ne_zero (by simp [Nat.pow_eq_zero])
  | succ j ih =>
    intro h
    unfold oth
    split
    · exact Nat.or_lt_two_pow (ih (by omega)) (bop_lt hP (by omega))
    · exact ih (by omega)
def ap65 (n : Nat) (Dm : Nat → Nat → Nat) (B : Nat) (s : PS) (W k : Nat) : Nat → Bool
  | 0 => true
  | i + 1 => ap65 n Dm B s W k i && (!(bop s k).testBit i || decide (B ≤ aw Dm (oth s W k s.1) i n))
theorem ap65_iff {n : Nat} {Dm : Nat → Nat → Nat} {B : Nat} {s : PS} {W k : Nat} : ∀ i, ap65 n Dm B s W k i = true ↔ ∀ u, u < i → (bop s k).testBit u = true → B ≤ aw Dm (oth s W k s.1) u n := by
  intro i
  induction i with
  | zero => exact ⟨fun _ u hu => by omega, fun _ => rfl⟩
  | succ i ih =>
    unfold ap65
    rw [Bool.and_eq_true, ih, Bool.or_eq_true, decide_eq_true_eq]
    constructor
    · intro ⟨h1, h2⟩ u hu hb
      by_cases e : u = i
      · subst e
        rcases h2 with h2 | h2
        · rw [hb] at h2; cases h2
        · exact h2
      · exact h1 u (by omega) hb
    · intro h
      refine ⟨fun u hu => h u (by omega), ?_⟩
      cases hb : (bop s k).testBit i with
      | false => left; rfl
      | true => right; exact h i (by omega) hb
def apa (n : Nat) (Dm : Nat → Nat → Nat) (B : Nat) (s : PS) (W : Nat) : Nat → Bool
  | 0 => true
  | k + 1 => apa n Dm B s W k && (!W.testBit k || ap65 n Dm B s W k n)
theorem apa_iff {n : Nat} {Dm : Nat → Nat → Nat} {B : Nat} {s : PS} {W : Nat} : ∀ k, apa n Dm B s W k = true ↔ ∀ i, i < k → W.testBit i = true → ap65 n Dm B s W i n = true := by
  intro k
  induction k with
  | zero => exact ⟨fun _ u hu => by omega, fun _ => rfl⟩
  | succ k ih =>
    unfold apa
    rw [Bool.and_eq_true, ih, Bool.or_eq_true]
    constructor
    · intro ⟨h1, h2⟩ u hu hb
      by_cases e : u = k
      · subst e
        rcases h2 with h2 | h2
        · rw [hb] at h2; cases h2
        · exact h2
      · exact h1 u (by omega) hb
    · intro h
      refine ⟨fun u hu => h u (by omega), ?_⟩
      cases hb : W.testBit k with
      | false => left; rfl
      | true => right; exact h k (by omega) hb
theorem apa_gG {n : Nat} {Dm : Nat → Nat → Nat} {B : Nat} {s : PS} {W : Nat} (hD : Dok n Dm) (hB1 : 1 ≤ B) (hB : B ≤ 99) (hP : PLk n Dm s) (hc : s.1 ≤ 12) (hW : W < 2 ^ s.1) : apa n Dm B s W s.1 = gG (pC n Dm B s) (2 ^ s.1 - 1) W := by
  have hlt : ∀ t, W.testBit t = true → t < s.1 := fun t ht => Nat.lt_of_not_le (fun e => by rw [tb_hi hW e] at ht; cases ht)
  apply Bool.eq_iff_iff.mpr
  rw [gG_iff (Csy_pair hD hB1 hP hc) hW, apa_iff]
  have key : ∀ i, i < s.1 → (ap65 n Dm B s W i n = true ↔ ∀ j, j < s.1 → j ≠ i → W.testBit j = true → fr2 n Dm B s i j) := by
    intro i hi
    rw [ap65_iff]
    obtain ⟨p1, p2, p3⟩ := hP i hi
    constructor
    · intro h j hj hji hb x y hx hy
      have hxn : x < n := by rcases hx with h | h <;> omega
      obtain ⟨q1, q2, q3⟩ := hP j hj
      have hyn : y < n := by rcases hy with h | h <;> omega
      have := h x hxn ((bop_bit s i x).mpr hx)
      rw [aw_ge hB] at this
      exact this y hyn ((oth_bit s.1).mpr ⟨j, hj, hji, hb, (bop_bit s j y).mpr hy⟩)
    · intro h u hu hb
      rw [aw_ge hB]
      intro y hy hyb
      obtain ⟨j, hj, hji, hjb, hjy⟩ := (oth_bit s.1).mp hyb
      exact h j hj hji hjb u y ((bop_bit s i u).mp hb) ((bop_bit s j y).mp hjy)
  constructor
  · intro h
    refine ⟨fun t ht => ?_, fun i j hij hi hj => ?_⟩
    · rw [Nat.testBit_two_pow_sub_one, decide_eq_true_eq]; exact hlt t ht
    · have hi' := hlt i hi
      have hj' := hlt j hj
      have hf := (key i hi').mp (h i hi' hi) j hj' (by omega) hj
      cases hx : (pC n Dm B s i).testBit j with
      | false => rfl
      | true => exact absurd ((and0 hP hj').mpr hf) ((pcl_bit s.1).mp hx).2
  · intro ⟨_, h⟩ i hi hb
    rw [key i hi]
    intro j hj hji hjb
    have gen : ∀ a b, a < b → b < s.1 → W.testBit a = true → W.testBit b = true → fr2 n Dm B s a b := by
      intro a b hab hb' ha1 hb1
      have h1 := h a b hab ha1 hb1
      apply (and0 hP hb').mp
      by_cases e : tnp n Dm B (s.2.1 a) (s.2.2 a) &&& bop s b = 0
      · exact e
      · exfalso
        have : (pC n Dm B s a).testBit b = true := (pcl_bit s.1).mpr ⟨hb', e⟩
        rw [h1] at this
        cases this
    rcases Nat.lt_or_ge i j with h' | h'
    · exact gen i j h' hj hb hjb
    · exact fr2_sym hD hP hj hi (gen j i (by omega) hi hjb hb)
theorem m_apart17 {s : PS} {W k : Nat} {p : Nat → Int32} (hc : s.1 ≤ 12) (hk : k < s.1) (hW : W < 2 ^ 31) (hM : Mpr s p) : f_X11_areApart_17 p (nI W) (nI s.1) (nI k) FU 0 0 = some (nI (oth s W k s.1)) := by
  refine lp_at (fun m j y => f_X11_areApart_17 p (nI W) (nI s.1) (nI k) m y (nI j)) s.1 (fun j => nI (oth s W k j)) rfl (by omega) ?_ ?_
  · intro m
    rw [f_X11_areApart_17_s, if_pos (ps_le (by omega) (by omega) (Nat.le_refl _))]
  · intro m j hj
    rw [f_X11_areApart_17_s, if_neg (ng_le (by omega) (by omega) hj)]
    show _ = f_X11_areApart_17 p (nI W) (nI s.1) (nI k) m (nI (if j ≠ k ∧ W.testBit j = true then oth s W k j ||| bop s j else oth s W k j)) (nI (j + 1))
    by_cases e : j = k
    · subst e
      rw [if_pos rfl, Option.bind_some, nI_1, if_neg (fun h => h.1 rfl), show (0 : Int32) = nI 0 from rfl, fa_or, Nat.or_zero]
    · rw [if_neg (fun h => e ((nI_eq (by omega) (by omega)).mp h))]
      cases hb : W.testBit j with
      | false =>
        rw [if_neg (fun h => by rw [(nu_bit1 hW (by omega)).mp h] at hb; cases hb), Option.bind_some, nI_1, if_neg (fun h => by cases h.2), show (0 : Int32) = nI 0 from rfl, fa_or, Nat.or_zero]
      | true =>
        rw [if_pos ((nu_bit1 hW (by omega)).mpr hb), nu_get _ (show j < 66 by omega) (by omega), Option.bind_some, Option.bind_some, hM j hj, fa_or, nI_1, if_pos ⟨e, rfl⟩]
theorem m_apart65 {n : Nat} {Dm : Nat → Nat → Nat} {B : Nat} {s : PS} {W k : Nat} {p f : Nat → Int32} (hD : Dok n Dm) (hF : FarM n Dm f) (hB : B ≤ 99) (hP : PLk n Dm s) (hc : s.1 ≤ 12) (hk : k < s.1) (hW : W < 2 ^ 31) (hM : Mpr s p) (b : Bool) : f_X11_areApart_65 (nI n) (nI B) p f (nI W) (nI k) (nI (oth s W k s.1)) FU (b32 b) 0 = some (b32 (b && (!W.testBit k || ap65 n Dm B s W k n))) := by
  have hn := hD.1
  have hp12 : 2 ^ n ≤ 2 ^ 12 := Nat.pow_le_pow_right (by omega) hn
  have ho := oth_lt (W := W) (k := k) hP s.1 (Nat.le_refl _)
  have hbl := bop_lt hP hk
  cases hb : W.testBit k with
  | false =>
    show f_X11_areApart_65 (nI n) (nI B) p f (nI W) (nI k) (nI (oth s W k s.1)) (4999 + 1) (b32 b) 0 = _
    rw [f_X11_areApart_65_s, if_neg (nI_nle (by have := hD.2.1; omega) (by omega)), if_neg (fun h => by rw [(nu_bit1 hW (by omega)).mp h] at hb; cases hb), Bool.not_false, Bool.true_or, Bool.and_true]
  | true =>
    rw [Bool.not_true, Bool.false_or]
    refine lp_at (fun m i y => f_X11_areApart_65 (nI n) (nI B) p f (nI W) (nI k) (nI (oth s W k s.1)) m y (nI i)) n (fun i => b32 (b && ap65 n Dm B s W k i)) (by show b32 (b && true) = _; rw [Bool.and_true]) (by omega) ?_ ?_
    · intro m
      rw [f_X11_areApart_65_s, if_pos (ps_le (by omega) (by omega) (Nat.le_refl _))]
    · intro m i hi
      have w1 := aw_le Dm (oth s W k s.1) i n
      rw [f_X11_areApart_65_s, if_neg (ng_le (by omega) (by omega) hi), if_pos ((nu_bit1 hW (by omega)).mpr hb)]
      have ew : (if b32 (b && ap65 n Dm B s W k i) = 0 then some 0 else (aget 66 p (nI k)).bind (fun u17 => if (u17 >>> (nI i &&& 31)) &&& 1 = 0 then some 1 else (f_X11_awayOf (nI n) f (nI i) (nI (oth s W k s.1))).bind (fun u19 => if u19 < nI B then some 0 else some 1))) = some (b32 (b && ap65 n Dm B s W k (i + 1))) := by
        show _ = some (b32 (b && (ap65 n Dm B s W k i && (!(bop s k).testBit i || decide (B ≤ aw Dm (oth s W k s.1) i n)))))
        rw [← Bool.and_assoc]
        cases hq : (b && ap65 n Dm B s W k i) with
        | false => rw [if_pos (show b32 false = 0 from rfl), Bool.false_and]; rfl
        | true =>
          rw [if_neg (show ¬ b32 true = 0 by decide), nu_get _ (show k < 66 by omega) (by omega), Option.bind_some, hM k hk, Bool.true_and]
          cases hbb : (bop s k).testBit i with
          | false => rw [if_pos ((nu_bit0 (by omega) (by omega)).mpr hbb)]; rfl
          | true =>
            rw [if_neg (fun h => by rw [(nu_bit0 (by omega) (by omega)).mp h] at hbb; cases hbb), m_away hD hF hi (by omega), Option.bind_some, Bool.not_true, Bool.false_or]
            by_cases hc2 : B ≤ aw Dm (oth s W k s.1) i n
            · rw [if_neg (fun e => by have := (nI_ltI (by omega) (by omega)).mp e; omega), decide_eq_true hc2]; rfl
            · rw [if_pos ((nI_ltI (by omega) (by omega)).mpr (by omega)), decide_eq_false hc2]; rfl
      rw [ew, Option.bind_some, nI_1]
theorem m_apart {n : Nat} {Dm : Nat → Nat → Nat} {B : Nat} {s : PS} {W : Nat} {p f : Nat → Int32} (hD : Dok n Dm) (hF : FarM n Dm f) (hB : B ≤ 99) (hP : PLk n Dm s) (hc : s.1 ≤ 12) (hW : W < 2 ^ 31) (hM : Mpr s p) : f_X11_areApart (nI n) (nI B) p f (nI W) (nI s.1) = some (b32 (apa n Dm B s W s.1)) := by
  have hl : f_X11_areApart_5 (nI n) (nI B) p f (nI W) (nI s.1) FU 1 0 = some (b32 (apa n Dm B s W s.1)) := by
    refine lp_at (fun m k y => f_X11_areApart_5 (nI n) (nI B) p f (nI W) (nI s.1) m y (nI k)) s.1 (fun k => b32 (apa n Dm B s W k)) rfl (by omega) ?_ ?_
    · intro m
      rw [f_X11_areApart_5_s, if_pos (ps_le (by omega) (by omega) (Nat.le_refl _))]
    · intro m k hk
      rw [f_X11_areApart_5_s, if_neg (ng_le (by omega) (by omega) hk), m_apart17 hc hk hW hM, Option.bind_some, m_apart65 hD hF hB hP hc hk hW hM, Option.bind_some, nI_1]
      rfl
  unfold f_X11_areApart
  rw [hl, Option.bind_some, oz_b, Option.bind_some]
theorem m_mostPairs {n : Nat} {Dm : Nat → Nat → Nat} {B : Nat} {f vp : Nat → Int32} (hD : Dok n Dm) (hA : Adj n Dm) (hF : FarM n Dm f) (hB1 : 1 ≤ B) (hB : B ≤ 99) : ∃ p, f_X11_mostPairs (nI n) (nI B) f vp = some (nI (mxg (gG (pC n Dm B (outS n Dm n)) (2 ^ (outS n Dm n).1 - 1)) (2 ^ (outS n Dm n).1)), p) := by
  have hn := hD.1
  have hc := outS_le hA hD.2.1
  have hP := PL_out n Dm n
  have hp12 : 2 ^ (outS n Dm n).1 ≤ 2 ^ 12 := Nat.pow_le_pow_right (by omega) (by omega)
  obtain ⟨p, p1, p2⟩ := m_plist (vp := vp) hD hA hF
  refine ⟨p, ?_⟩
  have hl : f_X11_mostPairs_70 (nI n) (nI B) f (nI (outS n Dm n).1, p) FU 0 0 = some (nI (mxg (gG (pC n Dm B (outS n Dm n)) (2 ^ (outS n Dm n).1 - 1)) (2 ^ (outS n Dm n).1))) := by
    refine lp_at (fun m W y => f_X11_mostPairs_70 (nI n) (nI B) f (nI (outS n Dm n).1, p) m y (nI W)) (2 ^ (outS n Dm n).1) (fun W => nI (mxg (gG (pC n Dm B (outS n Dm n)) (2 ^ (outS n Dm n).1 - 1)) W)) rfl (by omega) ?_ ?_
    · intro m
      rw [f_X11_mostPairs_70_s]
      dsimp only
      rw [nu_shl (by omega), if_pos (ps_le (by omega) (by omega) (Nat.le_refl _))]
    · intro m W hW
      have h1 := mxg_le (gG (pC n Dm B (outS n Dm n)) (2 ^ (outS n Dm n).1 - 1)) W
      have h2 := pc_le W 12
      rw [f_X11_mostPairs_70_s]
      dsimp only
      rw [nu_shl (by omega), if_neg (ng_le (by omega) (by omega) hW), m_ones (by omega), Option.bind_some, nI_1]
      show _ = f_X11_mostPairs_70 (nI n) (nI B) f (nI (outS n Dm n).1, p) m (nI (if gG (pC n Dm B (outS n Dm n)) (2 ^ (outS n Dm n).1 - 1) W then max (mxg (gG (pC n Dm B (outS n Dm n)) (2 ^ (outS n Dm n).1 - 1)) W) (pc 12 W) else mxg (gG (pC n Dm B (outS n Dm n)) (2 ^ (outS n Dm n).1 - 1)) W)) (nI (W + 1))
      by_cases hle : pc 12 W ≤ mxg (gG (pC n Dm B (outS n Dm n)) (2 ^ (outS n Dm n).1 - 1)) W
      · rw [if_pos (ps_le (by omega) (by omega) hle), Option.bind_some, Nat.max_eq_left hle]
        congr 2
        split <;> rfl
      · rw [if_neg (ng_le (by omega) (by omega) (by omega)), m_apart hD hF hB hP (by omega) (by omega) p2, Option.bind_some, apa_gG hD hB1 hB hP (by omega) hW]
        cases hg : gG (pC n Dm B (outS n Dm n)) (2 ^ (outS n Dm n).1 - 1) W with
        | false => rw [if_pos (show b32 false = 0 from rfl), Option.bind_some, if_neg (by decide)]
        | true => rw [if_neg (show ¬ b32 true = 0 by decide), Option.bind_some, Option.bind_some, if_pos rfl, Nat.max_eq_right (by omega)]
  unfold f_X11_mostPairs
  rw [p1, Option.bind_some, hl, Option.bind_some]
end PR2
