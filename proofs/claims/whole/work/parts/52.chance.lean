/-! chances: the sets in ascending order, each hands on what it has -/
section CH1
def sm (f : Nat → Nat) : Nat → Nat
  | 0 => 0
  | k + 1 => sm f k + f k
theorem sm_congr {f g : Nat → Nat} : ∀ N, (∀ i, i < N → f i = g i) → sm f N = sm g N := by
  intro N
  induction N with
  | zero => intro _; rfl
  | succ N ih =>
    intro h
    show sm f N + f N = sm g N + g N
    rw [ih (fun i hi => h i (by omega)), h N (by omega)]
theorem sm_add (f g : Nat → Nat) : ∀ N, sm (fun i => f i + g i) N = sm f N + sm g N := by
  intro N
  induction N with
  | zero => rfl
  | succ N ih =>
    show sm (fun i => f i + g i) N + (f N + g N) = (sm f N + f N) + (sm g N + g N)
    rw [ih]; omega
theorem sm_0 : ∀ N, sm (fun _ => 0) N = 0 := by
  intro N
  induction N with
  | zero => rfl
  | succ N ih => show sm (fun _ => 0) N + 0 = 0; rw [ih]
theorem sm_one (x a : Nat) : ∀ N, sm (fun i => if i = x then a else 0) N = if x < N then a else 0 := by
  intro N
  induction N with
  | zero => rfl
  | succ N ih =>
    show sm (fun i => if i = x then a else 0) N + (if N = x then a else 0) = _
    rw [ih]
    by_cases h1 : x < N
    · rw [if_pos h1, if_neg (by omega), if_pos (by omega), Nat.add_zero]
    · rw [if_neg h1]
      by_cases h2 : N = x
      · rw [if_pos h2, if_pos (by omega), Nat.zero_add]
      · rw [if_neg h2, if_neg (by omega)]
theorem sm_ge {f : Nat → Nat} {x : Nat} : ∀ N, x < N → f x ≤ sm f N := by
  intro N
  induction N with
  | zero => intro h; omega
  | succ N ih =>
    intro h
    show f x ≤ sm f N + f N
    by_cases e : x = N
    · subst e; omega
    · have := ih (by omega); omega
theorem sm_swap (g : Nat → Nat → Nat) (M : Nat) : ∀ N, sm (fun i => sm (fun j => g i j) M) N = sm (fun j => sm (fun i => g i j) N) M := by
  intro N
  induction N with
  | zero => show 0 = sm (fun _ => 0) M; rw [sm_0]
  | succ N ih =>
    show sm (fun i => sm (fun j => g i j) M) N + sm (fun j => g N j) M = sm (fun j => sm (fun i => g i j) N + g N j) M
    rw [ih, sm_add]
theorem sm_le {f : Nat → Nat} {a : Nat} : ∀ N, (∀ i, i < N → f i ≤ a) → sm f N ≤ N * a := by
  intro N
  induction N with
  | zero => intro _; exact Nat.zero_le _
  | succ N ih =>
    intro h
    have h1 := ih (fun i hi => h i (by omega))
    have h2 := h N (by omega)
    show sm f N + f N ≤ (N + 1) * a
    rw [Nat.succ_mul]; omega
theorem sm_mul (c : Nat) (f : Nat → Nat) : ∀ N, sm (fun i => c * f i) N = c * sm f N := by
  intro N
  induction N with
  | zero => rfl
  | succ N ih =>
    show sm (fun i => c * f i) N + c * f N = c * (sm f N + f N)
    rw [ih, Nat.mul_add]
theorem sm_pc (O d : Nat) : ∀ N, sm (fun s => if O.testBit s then d else 0) N = pc N O * d := by
  intro N
  induction N with
  | zero => show 0 = 0 * d; rw [Nat.zero_mul]
  | succ N ih =>
    show sm (fun s => if O.testBit s then d else 0) N + (if O.testBit N then d else 0) = (pc N O + (if O.testBit N then 1 else 0)) * d
    rw [ih, Nat.add_mul]
    by_cases h : O.testBit N = true
    · rw [if_pos h, if_pos h, Nat.one_mul]
    · rw [if_neg h, if_neg h, Nat.zero_mul]
def fac : Nat → Nat
  | 0 => 1
  | k + 1 => (k + 1) * fac k
theorem fac_dvd {a : Nat} : ∀ b, a ≤ b → fac a ∣ fac b := by
  intro b
  induction b with
  | zero => intro h; rw [show a = 0 by omega]; exact Nat.dvd_refl _
  | succ b ih =>
    intro h
    by_cases e : a = b + 1
    · rw [e]; exact Nat.dvd_refl _
    · exact Nat.dvd_trans (ih (by omega)) (Nat.dvd_mul_left _ _)
theorem fac_k {k x : Nat} (hk : 1 ≤ k) (h : fac k ∣ x) : k ∣ x ∧ fac (k - 1) ∣ x / k := by
  obtain ⟨j, rfl⟩ : ∃ j, k = j + 1 := ⟨k - 1, by omega⟩
  obtain ⟨q, rfl⟩ := h
  show (j + 1) ∣ (j + 1) * fac j * q ∧ fac j ∣ ((j + 1) * fac j * q) / (j + 1)
  rw [Nat.mul_assoc]
  refine ⟨Nat.dvd_mul_right _ _, ?_⟩
  rw [Nat.mul_div_cancel_left _ (by omega)]
  exact Nat.dvd_mul_right _ _
theorem pc_sub {A O s : Nat} (h : ∀ t, A.testBit t = true → O.testBit t = true) (h1 : A.testBit s = false) (h2 : O.testBit s = true) : ∀ k, pc k A + (if s < k then 1 else 0) ≤ pc k O := by
  intro k
  induction k with
  | zero => simp [pc]
  | succ k ih =>
    show pc k A + (if A.testBit k then 1 else 0) + _ ≤ pc k O + (if O.testBit k then 1 else 0)
    by_cases e : s = k
    · subst e
      rw [if_neg (Nat.lt_irrefl s)] at ih
      rw [h1, h2, if_neg (by decide), if_pos rfl, if_pos (by omega)]
      omega
    · have e2 : (if s < k + 1 then 1 else 0) = (if s < k then 1 else 0) := by
        by_cases hs : s < k
        · rw [if_pos hs, if_pos (by omega)]
        · rw [if_neg hs, if_neg (by omega)]
      rw [e2]
      by_cases ha : A.testBit k = true
      · rw [if_pos ha, if_pos (h k ha)]; omega
      · rw [if_neg ha]
        have := Nat.zero_le (if O.testBit k then 1 else 0)
        omega
theorem pc_0 : ∀ k, pc k 0 = 0 := by
  intro k
  induction k with
  | zero => rfl
  | succ k ih => simp [pc, ih]
theorem pc_pos {O p : Nat} (h : O ≠ 0) (hO : O < 2 ^ p) (hp : p ≤ 12) : 1 ≤ pc 12 O := by
  obtain ⟨s, hs⟩ : ∃ s, O.testBit s = true := Nat.exists_testBit_of_ne_zero h
  have h12 : s < 12 := Nat.lt_of_not_le (fun e => by rw [tb_hi hO (by omega)] at hs; cases hs)
  have := pc_sub (A := 0) (O := O) (s := s) (fun t ht => by rw [Nat.zero_testBit] at ht; cases ht) (Nat.zero_testBit s) hs 12
  rw [pc_0, if_pos h12] at this
  omega
theorem or_gt {S s : Nat} (h : S.testBit s = false) : S < S ||| 2 ^ s := by
  have h1 : S ≤ S ||| 2 ^ s := Nat.left_le_or
  rcases Nat.lt_or_ge S (S ||| 2 ^ s) with h2 | h2
  · exact h2
  · have e : S = S ||| 2 ^ s := by omega
    rw [e, Nat.testBit_or, Nat.testBit_two_pow] at h
    simp at h
theorem or_inj {S s t : Nat} (hs : S.testBit s = false) (h : S ||| 2 ^ s = S ||| 2 ^ t) : s = t := by
  have := congrArg (fun x => x.testBit s) h
  simp only [Nat.testBit_or, Nat.testBit_two_pow, hs] at this
  simp at this
  exact this.symm
/-- sets, and what is open to each -/
def Sys (p : Nat) (gd : Nat → Bool) (op : Nat → Nat) : Prop := p ≤ 12 ∧ gd 0 = true ∧ (∀ S, S < 2 ^ p → op S < 2 ^ p) ∧ ∀ S s, S < 2 ^ p → gd S = true → (op S).testBit s = true → S.testBit s = false ∧ gd (S ||| 2 ^ s) = true ∧ (op (S ||| 2 ^ s)).testBit s = false ∧ ∀ t, (op (S ||| 2 ^ s)).testBit t = true → (op S).testBit t = true
theorem Sys_s {p : Nat} {gd : Nat → Bool} {op : Nat → Nat} (hy : Sys p gd op) {S s : Nat} (hS : S < 2 ^ p) (h : (op S).testBit s = true) : s < p := Nat.lt_of_not_le (fun e => by rw [tb_hi (hy.2.2.1 S hS) e] at h; cases h)
theorem Sys_lt {p : Nat} {gd : Nat → Bool} {op : Nat → Nat} (hy : Sys p gd op) {S s : Nat} (hS : S < 2 ^ p) (h : (op S).testBit s = true) : S ||| 2 ^ s < 2 ^ p := Nat.or_lt_two_pow hS (Nat.pow_lt_pow_right (by omega) (Sys_s hy hS h))
theorem Sys_pc {p : Nat} {gd : Nat → Bool} {op : Nat → Nat} (hy : Sys p gd op) {S s : Nat} (hS : S < 2 ^ p) (hg : gd S = true) (h : (op S).testBit s = true) : pc 12 (op (S ||| 2 ^ s)) + 1 ≤ pc 12 (op S) := by
  obtain ⟨a, b, c, d⟩ := hy.2.2.2 S s hS hg h
  have := pc_sub d c h 12
  rw [if_pos (by have := Sys_s hy hS h; have := hy.1; omega)] at this
  exact this
def cg (n : Nat) (gd : Nat → Bool) (op : Nat → Nat) (T : Nat) : Nat → Nat → Nat
  | 0 => fun S => if S = 0 then T else 0
  | i + 1 => fun S => cg n gd op T i S + (if gd i = true ∧ ∃ s, s < n ∧ (op i).testBit s = true ∧ S = i ||| 2 ^ s then cg n gd op T i i / pc 12 (op i) else 0)
theorem cg_s (n : Nat) (gd : Nat → Bool) (op : Nat → Nat) (T i S : Nat) : cg n gd op T (i + 1) S = cg n gd op T i S + (if gd i = true ∧ ∃ s, s < n ∧ (op i).testBit s = true ∧ S = i ||| 2 ^ s then cg n gd op T i i / pc 12 (op i) else 0) := rfl
theorem chT_cg (n : Nat) (Dm : Nat → Nat → Nat) (B T : Nat) : ∀ i S, chT n Dm B T i S = cg n (fun S => flb n Dm B S n) (fun S => opm n Dm B S n) T i S := by
  intro i
  induction i with
  | zero => intro S; rfl
  | succ i ih =>
    intro S
    rw [cg_s, ← ih, ← ih]
    rfl
theorem cg_congr {n : Nat} {gd gd' : Nat → Bool} {op op' : Nat → Nat} {T E : Nat} (h : ∀ i, i < E → gd i = gd' i ∧ op i = op' i) : ∀ i, i ≤ E → ∀ S, cg n gd op T i S = cg n gd' op' T i S := by
  intro i
  induction i with
  | zero => intro _ S; rfl
  | succ i ih =>
    intro hi S
    rw [cg_s, cg_s, ih (by omega), ih (by omega), (h i (by omega)).1, (h i (by omega)).2]
theorem cg_dvd {p : Nat} {gd : Nat → Bool} {op : Nat → Nat} {T : Nat} (hy : Sys p gd op) (hT : fac (pc 12 (op 0)) ∣ T) : ∀ i, i ≤ 2 ^ p → ∀ S, fac (pc 12 (op S)) ∣ cg p gd op T i S := by
  intro i
  induction i with
  | zero =>
    intro _ S
    show fac (pc 12 (op S)) ∣ (if S = 0 then T else 0)
    by_cases h : S = 0
    · subst h; rw [if_pos rfl]; exact hT
    · rw [if_neg h]; exact Nat.dvd_zero _
  | succ i ih =>
    intro hi S
    rw [cg_s]
    apply Nat.dvd_add (ih (by omega) S)
    by_cases h : gd i = true ∧ ∃ s, s < p ∧ (op i).testBit s = true ∧ S = i ||| 2 ^ s
    · rw [if_pos h]
      obtain ⟨hg, s, hs, hb, rfl⟩ := h
      have h1 := Sys_pc hy (show i < 2 ^ p by omega) hg hb
      exact Nat.dvd_trans (fac_dvd _ (by omega)) (fac_k (show 1 ≤ pc 12 (op i) by omega) (ih (by omega) i)).2
    · rw [if_neg h]; exact Nat.dvd_zero _
theorem cg_scale {p : Nat} {gd : Nat → Bool} {op : Nat → Nat} {T : Nat} (c : Nat) (hy : Sys p gd op) (hT : fac (pc 12 (op 0)) ∣ T) : ∀ i, i ≤ 2 ^ p → ∀ S, cg p gd op (c * T) i S = c * cg p gd op T i S := by
  intro i
  induction i with
  | zero =>
    intro _ S
    show (if S = 0 then c * T else 0) = c * (if S = 0 then T else 0)
    by_cases h : S = 0
    · rw [if_pos h, if_pos h]
    · rw [if_neg h, if_neg h]; rfl
  | succ i ih =>
    intro hi S
    rw [cg_s, cg_s, ih (by omega), ih (by omega), Nat.mul_add]
    congr 1
    by_cases h : gd i = true ∧ ∃ s, s < p ∧ (op i).testBit s = true ∧ S = i ||| 2 ^ s
    · rw [if_pos h, if_pos h]
      obtain ⟨hg, s, hs, hb, rfl⟩ := h
      have h1 := Sys_pc hy (show i < 2 ^ p by omega) hg hb
      exact Nat.mul_div_assoc c (fac_k (show 1 ≤ pc 12 (op i) by omega) (cg_dvd hy hT i (by omega) i)).1
    · rw [if_neg h, if_neg h]; rfl
theorem cg_stay {p : Nat} {gd : Nat → Bool} {op : Nat → Nat} {T : Nat} (hy : Sys p gd op) {S : Nat} : ∀ i, S ≤ i → i ≤ 2 ^ p → cg p gd op T i S = cg p gd op T S S := by
  intro i
  induction i with
  | zero => intro h _; rw [show S = 0 by omega]
  | succ i ih =>
    intro h hi
    by_cases e : S = i + 1
    · rw [e]
    · rw [cg_s, ih (by omega) (by omega), if_neg, Nat.add_zero]
      intro ⟨hg, s, hs, hb, he⟩
      have := or_gt (hy.2.2.2 i s (by omega) hg hb).1
      omega
/-- what is handed on is not lost: V is told by the last, or by what each hands on -/
theorem cg_pot {p : Nat} {gd : Nat → Bool} {op : Nat → Nat} {T : Nat} (hy : Sys p gd op) (hT : fac (pc 12 (op 0)) ∣ T) (V : Nat → Nat → Nat) (hV0 : ∀ S, V 0 S = 0) (hlin : ∀ a b S, fac (pc 12 (op S)) ∣ a → fac (pc 12 (op S)) ∣ b → V (a + b) S = V a S + V b S) (hst : ∀ c S, S < 2 ^ p → gd S = true → op S ≠ 0 → fac (pc 12 (op S)) ∣ c → V c S = sm (fun s => if (op S).testBit s then V (c / pc 12 (op S)) (S ||| 2 ^ s) else 0) p) : ∀ i, i ≤ 2 ^ p → sm (fun S => if gd S then (if S < i then (if op S = 0 then V (cg p gd op T S S) S else 0) else V (cg p gd op T i S) S) else 0) (2 ^ p) = V T 0 := by
  intro i
  induction i with
  | zero =>
    intro _
    rw [sm_congr (g := fun S => if S = 0 then V T 0 else 0), sm_one, if_pos (Nat.pos_of_ne_zero (by simp [Nat.pow_eq_zero]))]
    intro S _
    show (if gd S then (if S < 0 then (if op S = 0 then V (cg p gd op T S S) S else 0) else V (if S = 0 then T else 0) S) else 0) = _
    by_cases h : S = 0
    · subst h
      rw [if_pos hy.2.1, if_neg (Nat.lt_irrefl 0), if_pos rfl, if_pos rfl]
    · rw [if_neg (Nat.not_lt_zero S), if_neg h, if_neg h, hV0]
      by_cases hg : gd S = true
      · rw [if_pos hg]
      · rw [if_neg hg]
  | succ i ih =>
    intro hi
    have hi' : i < 2 ^ p := by omega
    rw [← ih (by omega)]
    by_cases hg : gd i = true
    · by_cases ho : op i = 0
      · apply sm_congr
        intro S _
        have e : cg p gd op T (i + 1) S = cg p gd op T i S := by
          rw [cg_s, if_neg, Nat.add_zero]
          intro ⟨_, s, _, hb, _⟩
          rw [ho, Nat.zero_testBit] at hb
          cases hb
        by_cases hS : gd S = true
        · rw [if_pos hS, if_pos hS, e]
          by_cases h1 : S < i
          · rw [if_pos h1, if_pos (by omega)]
          · by_cases h2 : S = i
            · subst h2
              rw [if_pos (show S < S + 1 by omega), if_pos ho, if_neg (Nat.lt_irrefl S)]
            · rw [if_neg (by omega), if_neg h1]
        · rw [if_neg hS, if_neg hS]
      · have hd := cg_dvd hy hT i (by omega) i
        have key : sm (fun S => (if gd S then (if S < i + 1 then (if op S = 0 then V (cg p gd op T S S) S else 0) else V (cg p gd op T (i + 1) S) S) else 0) + (if S = i then V (cg p gd op T i i) i else 0)) (2 ^ p) = sm (fun S => (if gd S then (if S < i then (if op S = 0 then V (cg p gd op T S S) S else 0) else V (cg p gd op T i S) S) else 0) + sm (fun s => if (op i).testBit s then (if S = i ||| 2 ^ s then V (cg p gd op T i i / pc 12 (op i)) (i ||| 2 ^ s) else 0) else 0) p) (2 ^ p) := by
          apply sm_congr
          intro S hS
          by_cases hx : ∃ s, s < p ∧ (op i).testBit s = true ∧ S = i ||| 2 ^ s
          · obtain ⟨s, hs, hb, rfl⟩ := hx
            obtain ⟨a1, a2, a3, a4⟩ := hy.2.2.2 i s hi' hg hb
            have hgt := or_gt a1
            rw [if_pos a2, if_neg (by omega), if_neg (by omega), if_pos a2, if_neg (by omega), Nat.add_zero, cg_s, if_pos ⟨hg, s, hs, hb, rfl⟩]
            have h1 := Sys_pc hy hi' hg hb
            rw [hlin _ _ _ (cg_dvd hy hT i (by omega) _) (Nat.dvd_trans (fac_dvd _ (by omega)) (fac_k (show 1 ≤ pc 12 (op i) by omega) hd).2)]
            congr 1
            rw [sm_congr (g := fun t => if t = s then V (cg p gd op T i i / pc 12 (op i)) (i ||| 2 ^ s) else 0), sm_one, if_pos hs]
            intro t _
            by_cases e : t = s
            · subst e
              rw [if_pos hb, if_pos rfl, if_pos rfl]
            · rw [if_neg e]
              by_cases hbt : (op i).testBit t = true
              · rw [if_pos hbt, if_neg (fun e2 => e (or_inj a1 e2).symm)]
              · rw [if_neg hbt]
          · have e : cg p gd op T (i + 1) S = cg p gd op T i S := by
              rw [cg_s, if_neg, Nat.add_zero]
              intro ⟨_, h⟩
              exact hx h
            rw [e, sm_congr (g := fun _ => 0) p (fun t ht => by
              by_cases hbt : (op i).testBit t = true
              · rw [if_pos hbt, if_neg (fun e2 => hx ⟨t, ht, hbt, e2⟩)]
              · rw [if_neg hbt]), sm_0]
            by_cases h2 : S = i
            · subst h2
              rw [if_pos hg, if_pos (by omega), if_neg ho, if_pos rfl, if_pos hg, if_neg (by omega)]
              omega
            · rw [if_neg h2]
              by_cases hgS : gd S = true
              · rw [if_pos hgS, if_pos hgS]
                by_cases h1 : S < i
                · rw [if_pos h1, if_pos (by omega)]
                · rw [if_neg (by omega), if_neg h1]
              · rw [if_neg hgS, if_neg hgS]
        rw [sm_add, sm_one, if_pos hi', sm_add, sm_swap] at key
        have e2 : sm (fun s => sm (fun S => if (op i).testBit s then (if S = i ||| 2 ^ s then V (cg p gd op T i i / pc 12 (op i)) (i ||| 2 ^ s) else 0) else 0) (2 ^ p)) p = V (cg p gd op T i i) i := by
          rw [hst _ i hi' hg ho hd]
          apply sm_congr
          intro s _
          by_cases hbt : (op i).testBit s = true
          · rw [if_pos hbt, sm_congr (g := fun S => if S = i ||| 2 ^ s then V (cg p gd op T i i / pc 12 (op i)) (i ||| 2 ^ s) else 0) _ (fun S _ => by rw [if_pos hbt]), sm_one, if_pos (Sys_lt hy hi' hbt)]
          · rw [if_neg hbt, sm_congr (g := fun _ => 0) _ (fun S _ => by rw [if_neg hbt]), sm_0]
        rw [e2] at key
        omega
    · apply sm_congr
      intro S _
      have e : cg p gd op T (i + 1) S = cg p gd op T i S := by
        rw [cg_s, if_neg, Nat.add_zero]
        intro ⟨h, _⟩
        exact hg h
      by_cases hS : gd S = true
      · rw [if_pos hS, if_pos hS, e]
        have hne : S ≠ i := fun e2 => hg (e2 ▸ hS)
        by_cases h1 : S < i
        · rw [if_pos h1, if_pos (by omega)]
        · rw [if_neg (by omega), if_neg h1]
      · rw [if_neg hS, if_neg hS]
theorem pc_bits {O p : Nat} (hO : O < 2 ^ p) : ∀ k, p ≤ k → pc k O = pc p O := by
  intro k
  induction k with
  | zero => intro h; rw [show p = 0 by omega]
  | succ k ih =>
    intro h
    by_cases e : p = k + 1
    · rw [e]
    · show pc k O + (if O.testBit k then 1 else 0) = _
      rw [ih (by omega), tb_hi hO (by omega), if_neg (by decide), Nat.add_zero]
theorem cg_le {p : Nat} {gd : Nat → Bool} {op : Nat → Nat} {T : Nat} (hy : Sys p gd op) (hT : fac (pc 12 (op 0)) ∣ T) {i : Nat} (hi : i < 2 ^ p) (hg : gd i = true) : cg p gd op T i i ≤ T := by
  have := cg_pot hy hT (fun c _ => c) (fun _ => rfl) (fun _ _ _ _ _ => rfl) (fun c S hS hgS ho hd => by
    rw [sm_pc, ← pc_bits (hy.2.2.1 S hS) 12 hy.1]
    have h1 := pc_pos ho (hy.2.2.1 S hS) hy.1
    exact (Nat.mul_div_cancel' (fac_k h1 hd).1).symm) i (by omega)
  have h := sm_ge (f := fun S => if gd S then (if S < i then (if op S = 0 then cg p gd op T S S else 0) else cg p gd op T i S) else 0) (2 ^ p) hi
  rw [if_pos hg, if_neg (Nat.lt_irrefl i)] at h
  exact Nat.le_trans h (Nat.le_of_eq this)
end CH1
