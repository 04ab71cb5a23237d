/-! the reference's findFar -/
section FF1
/-- the steps with ARMS on them: 99 where none leads on -/
def Ef (n : Nat) (st : Nat → Nat) (m i : Nat) : Nat := if st i = 0 then 99 else if i + 1 < n ∧ m.testBit i = true then 99 else st i
def up2 (R : Nat → Nat → Nat) (a b v : Nat) : Nat → Nat → Nat := fun x y => if x = a ∧ y = b then v else R x y
theorem far_up {n : Nat} {R : Nat → Nat → Nat} {z : Nat → Int32} {a b v : Nat} (hn : n ≤ 12) (h : FarM n R z) (hb : b < n) : FarM n (up2 R a b v) (upd z (12 * a + b) (nI v)) := by
  intro x y hx hy
  unfold upd up2
  by_cases e : x = a ∧ y = b
  · rw [if_pos (by omega), if_pos e]
  · rw [if_neg (by omega), if_neg e]
    exact h x y hx hy
theorem m_init {n : Nat} (hn : n ≤ 12) (f : Nat → Int32) : ∃ z, f_X11_findFar_2 FU 0 f = some z ∧ FarM n (fun a b => if a = b then 0 else 99) z := by
  have hin : ∀ (a : Nat), a < 12 → ∀ z : Nat → Int32, (∀ x y, x < a → y < 12 → z (12 * x + y) = nI (if x = y then 0 else 99)) → ∃ z', f_X11_findFar_10 (nI a) FU 0 z = some z' ∧ (∀ x y, x < a + 1 → y < 12 → z' (12 * x + y) = nI (if x = y then 0 else 99)) := by
    intro a ha z hz
    have hs : ∀ m i (z : Nat → Int32), i < 12 → ((∀ x y, x < a → y < 12 → z (12 * x + y) = nI (if x = y then 0 else 99)) ∧ ∀ y, y < i → z (12 * a + y) = nI (if a = y then 0 else 99)) → ∃ z', ((∀ x y, x < a → y < 12 → z' (12 * x + y) = nI (if x = y then 0 else 99)) ∧ ∀ y, y < i + 1 → z' (12 * a + y) = nI (if a = y then 0 else 99)) ∧ f_X11_findFar_10 (nI a) (m + 1) (nI i) z = f_X11_findFar_10 (nI a) m (nI (i + 1)) z' := by
      intro m i z hi ⟨g1, g2⟩
      refine ⟨upd z (12 * a + i) (nI (if a = i then 0 else 99)), ⟨?_, ?_⟩, ?_⟩
      · intro x y hx hy
        unfold upd
        rw [if_neg (by omega)]
        exact g1 x y hx hy
      · intro y hy
        unfold upd
        by_cases e : y = i
        · subst e; simp
        · rw [if_neg (by omega)]
          exact g2 y (by omega)
      · rw [f_X11_findFar_10_s, if_neg (show ¬ (12 : Int32) ≤ nI i from ng_le (a := 12) (by omega) (by omega) hi), m_at, Option.bind_some]
        by_cases e : a = i
        · subst e
          rw [if_pos rfl, Option.bind_some, nu_set _ _ (by omega) (by omega), Option.bind_some, nI_1]
          simp only [if_true]
          rfl
        · rw [if_neg (fun hh => e ((nI_eq (by omega) (by omega)).mp hh)), Option.bind_some, nu_set _ _ (by omega) (by omega), Option.bind_some, nI_1]
          simp only [e, if_false]
          rfl
    obtain ⟨z', m, h1, h2⟩ := lp_inv (fun m i z => f_X11_findFar_10 (nI a) m (nI i) z) 12 (fun j z => (∀ x y, x < a → y < 12 → z (12 * x + y) = nI (if x = y then 0 else 99)) ∧ ∀ y, y < j → z (12 * a + y) = nI (if a = y then 0 else 99)) hs FU 0 z (by omega) (by rw [FU_eq]; omega) ⟨hz, fun y hy => by omega⟩
    refine ⟨z', ?_, ?_⟩
    · show f_X11_findFar_10 (nI a) FU (nI 0) z = _
      rw [h2, f_X11_findFar_10_s, if_pos (by decide)]
    · intro x y hx hy
      by_cases hxa : x = a
      · subst hxa; exact h1.2 y hy
      · exact h1.1 x y (by omega) hy
  have hs : ∀ m i (z : Nat → Int32), i < 12 → (∀ x y, x < i → y < 12 → z (12 * x + y) = nI (if x = y then 0 else 99)) → ∃ z', (∀ x y, x < i + 1 → y < 12 → z' (12 * x + y) = nI (if x = y then 0 else 99)) ∧ f_X11_findFar_2 (m + 1) (nI i) z = f_X11_findFar_2 m (nI (i + 1)) z' := by
    intro m i z hi g
    obtain ⟨z', e1, e2⟩ := hin i hi z g
    refine ⟨z', e2, ?_⟩
    rw [f_X11_findFar_2_s, if_neg (show ¬ (12 : Int32) ≤ nI i from ng_le (a := 12) (by omega) (by omega) hi), e1, Option.bind_some, nI_1]
  obtain ⟨z', m, h1, h2⟩ := lp_inv (fun m i z => f_X11_findFar_2 m (nI i) z) 12 (fun a z => ∀ x y, x < a → y < 12 → z (12 * x + y) = nI (if x = y then 0 else 99)) hs FU 0 f (by omega) (by rw [FU_eq]; omega) (fun x y hx => by omega)
  refine ⟨z', ?_, fun a b ha hb => h1 a b (by omega) (by omega)⟩
  show f_X11_findFar_2 FU (nI 0) f = _
  rw [h2, f_X11_findFar_2_s, if_pos (by decide)]
theorem m_link {n : Nat} {R : Nat → Nat → Nat} {z : Nat → Int32} {a b v : Nat} (hn : n ≤ 12) (h : FarM n R z) (ha : a < n) (hb : b < n) (hR : R a b ≤ 99) (hv : v ≤ 99) : ∃ z', f_X11_link z (nI a) (nI b) (nI v) = some z' ∧ FarM n (if v < R a b then up2 (up2 R a b v) b a v else R) z' := by
  unfold f_X11_link
  rw [m_at, Option.bind_some, nu_get _ (show 12 * a + b < 144 by omega) (by omega), Option.bind_some, h a b ha hb]
  by_cases hc : R a b ≤ v
  · rw [if_pos (ps_le (by omega) (by omega) hc), if_neg (by omega)]
    exact ⟨z, rfl, h⟩
  · rw [if_neg (ng_le (by omega) (by omega) (by omega)), if_pos (by omega), Option.bind_some, nu_set _ _ (show 12 * a + b < 144 by omega) (by omega), Option.bind_some, m_at, Option.bind_some, nu_set _ _ (show 12 * b + a < 144 by omega) (by omega)]
    exact ⟨_, rfl, far_up hn (far_up hn h hb) ha⟩
/-- between the phases -/
def Rok (n : Nat) (E : Nat → Nat) (R : Nat → Nat → Nat) : Prop := (∀ a b, a < n → b < n → Dd n E a b ≤ R a b ∧ R a b ≤ 99) ∧ (∀ a, a < n → R a a = 0)
theorem pos_lt {n a j : Nat} (ha : a < n) (hj : j ≤ n) : pos n a j < n := by unfold pos; split <;> omega
theorem Dd_e {n : Nat} {E : Nat → Nat} {s : Nat} (hs : s < n) : Dd n E s (pos n s 1) ≤ E s := by
  have := (Dd_step (E := E) hs hs).1
  rw [Dd_self] at this
  omega
theorem m_links {n : Nat} {st : Nat → Nat} {m : Nat} {fl : Nat → Int32} {z : Nat → Int32} (hn1 : 1 ≤ n) (hn : n ≤ 12) (hst : ∀ i, i < n → fl i = nI (st i) ∧ st i ≤ 98) (hm : m < 2 ^ 31) (hz : FarM n (fun a b => if a = b then 0 else 99) z) :
    ∃ z' R, f_X11_findFar_51 (nI n) fl (nI m) FU 0 z = some z' ∧ FarM n R z' ∧ Rok n (Ef n st m) R ∧ (∀ s, s < n → R s (pos n s 1) ≤ Ef n st m s ∧ R (pos n s 1) s ≤ Ef n st m s) := by
  have hs : ∀ k i (z : Nat → Int32), i < n → (∃ R, FarM n R z ∧ Rok n (Ef n st m) R ∧ (∀ a b, a < n → b < n → R a b = R b a) ∧ (∀ s, s < i → R s (pos n s 1) ≤ Ef n st m s)) → ∃ z', (∃ R, FarM n R z' ∧ Rok n (Ef n st m) R ∧ (∀ a b, a < n → b < n → R a b = R b a) ∧ (∀ s, s < i + 1 → R s (pos n s 1) ≤ Ef n st m s)) ∧ f_X11_findFar_51 (nI n) fl (nI m) (k + 1) (nI i) z = f_X11_findFar_51 (nI n) fl (nI m) k (nI (i + 1)) z' := by
    intro k i z hi ⟨R, g1, g2, g3, g4⟩
    obtain ⟨e1, e2⟩ := hst i hi
    have hp := pos_lt hi (show 1 ≤ n by omega)
    have hEp : ∀ v, v = Ef n st m i → v ≤ 99 → ∃ z', f_X11_link z (nI i) (nI (pos n i 1)) (nI v) = some z' ∧ ∃ R, FarM n R z' ∧ Rok n (Ef n st m) R ∧ (∀ a b, a < n → b < n → R a b = R b a) ∧ (∀ s, s < i + 1 → R s (pos n s 1) ≤ Ef n st m s) := by
      intro v hv hv99
      obtain ⟨z', l1, l2⟩ := m_link hn g1 hi hp (g2.1 i _ hi hp).2 hv99
      refine ⟨z', l1, _, l2, ?_⟩
      by_cases hc : v < R i (pos n i 1)
      · rw [if_pos hc]
        have hne : i ≠ pos n i 1 := fun e => by rw [← e, g2.2 i hi] at hc; omega
        refine ⟨⟨?_, ?_⟩, ?_, ?_⟩
        · intro a b ha hb
          have d := Dd_e (E := Ef n st m) hi
          unfold up2
          by_cases c1 : a = pos n i 1 ∧ b = i
          · rw [if_pos c1, c1.1, c1.2, Dd_sym]; omega
          · rw [if_neg c1]
            by_cases c2 : a = i ∧ b = pos n i 1
            · rw [if_pos c2, c2.1, c2.2]; omega
            · rw [if_neg c2]; exact g2.1 a b ha hb
        · intro a ha
          unfold up2
          rw [if_neg (fun c => hne (c.2.symm.trans c.1)), if_neg (fun c => hne (c.1.symm.trans c.2))]
          exact g2.2 a ha
        · intro a b ha hb
          have := g3 a b ha hb
          unfold up2
          by_cases c1 : a = pos n i 1 ∧ b = i
          · rw [if_pos c1]
            by_cases c2 : b = pos n i 1 ∧ a = i
            · rw [if_pos c2]
            · rw [if_neg c2, if_pos ⟨c1.2, c1.1⟩]
          · rw [if_neg c1]
            by_cases c2 : a = i ∧ b = pos n i 1
            · rw [if_pos c2, if_pos ⟨c2.2, c2.1⟩]
            · rw [if_neg c2, if_neg (fun c => c2 ⟨c.2, c.1⟩), if_neg (fun c => c1 ⟨c.2, c.1⟩)]
              exact this
        · intro s hs
          by_cases e : s = i
          · subst e
            unfold up2
            by_cases c1 : s = pos n s 1 ∧ pos n s 1 = s
            · rw [if_pos c1]; omega
            · rw [if_neg c1, if_pos ⟨rfl, rfl⟩]; omega
          · have h4 := g4 s (by omega)
            unfold up2
            by_cases c1 : s = pos n i 1 ∧ pos n s 1 = i
            · rw [if_pos c1]
              have hR : R i (pos n i 1) = R s (pos n s 1) := by rw [← c1.1, c1.2]; exact g3 i s hi (by omega)
              omega
            · rw [if_neg c1, if_neg (fun c => e c.1)]
              exact h4
      · rw [if_neg hc]
        refine ⟨g2, g3, fun s hs => ?_⟩
        by_cases e : s = i
        · subst e; omega
        · exact g4 s (by omega)
    have hskip : Ef n st m i = 99 → ∃ R, FarM n R z ∧ Rok n (Ef n st m) R ∧ (∀ a b, a < n → b < n → R a b = R b a) ∧ (∀ s, s < i + 1 → R s (pos n s 1) ≤ Ef n st m s) := by
      intro hE
      refine ⟨R, g1, g2, g3, fun s hs => ?_⟩
      by_cases e : s = i
      · subst e; rw [hE]; exact (g2.1 s _ hi hp).2
      · exact g4 s (by omega)
    rw [f_X11_findFar_51_s, if_neg (ng_le (by omega) (by omega) hi)]
    have hlast : ∀ (v : Nat) (w : Int32), v = Ef n st m i → v ≤ 99 → w = nI (pos n i 1) → ∃ z', (∃ R, FarM n R z' ∧ Rok n (Ef n st m) R ∧ (∀ a b, a < n → b < n → R a b = R b a) ∧ (∀ s, s < i + 1 → R s (pos n s 1) ≤ Ef n st m s)) ∧ (some (nI v)).bind (fun u => (f_X11_link z (nI i) w u).bind (fun u2 => some u2)) = some z' := by
      intro v w hv hv99 hw
      obtain ⟨z', l1, l2⟩ := hEp v hv hv99
      refine ⟨z', l2, ?_⟩
      rw [Option.bind_some, hw, l1, Option.bind_some]
    by_cases hs0 : st i = 0
    · refine ⟨z, hskip (by simp [Ef, hs0]), ?_⟩
      have : ∀ w14 : Int32, (aget 12 fl (nI i)).bind (fun u16 => (if u16 ≤ 0 then some z else if w14 = 0 then if ((nI m >>> (nI i &&& 31)) &&& 1) = 0 then (if w14 = 0 then some (nI i + 1) else some (0 : Int32)).bind (fun w27 => (aget 12 fl (nI i)).bind (fun u29 => (f_X11_link z (nI i) w27 u29).bind (fun u30 => some u30))) else some z else (if w14 = 0 then some (nI i + 1) else some (0 : Int32)).bind (fun w21 => (aget 12 fl (nI i)).bind (fun u23 => (f_X11_link z (nI i) w21 u23).bind (fun u24 => some u24)))).bind (fun w17 => f_X11_findFar_51 (nI n) fl (nI m) k (nI i + 1) w17)) = f_X11_findFar_51 (nI n) fl (nI m) k (nI (i + 1)) z := by
        intro w14
        rw [nu_get _ (show i < 12 by omega) (by omega), Option.bind_some, e1, hs0, if_pos (by decide), Option.bind_some, nI_1]
      by_cases hc : nI i = nI n - 1
      · rw [if_pos hc, Option.bind_some]; exact this 1
      · rw [if_neg hc, Option.bind_some]; exact this 0
    · have hpos : ¬ nI (st i) ≤ 0 := nI_nle (by omega) (by omega)
      have hn1' : nI n - 1 = nI (n - 1) := by
        have := nI_pred (n - 1)
        rw [show n - 1 + 1 = n by omega] at this
        exact this
      by_cases hl : i + 1 = n
      · have hE : st i = Ef n st m i := by unfold Ef; rw [if_neg hs0, if_neg (by omega)]
        obtain ⟨z', q1, q2⟩ := hlast (st i) 0 hE (by omega) (by unfold pos; rw [if_neg (by omega), show i + 1 - n = 0 by omega]; rfl)
        refine ⟨z', q1, ?_⟩
        rw [if_pos (show nI i = nI n - 1 by rw [hn1']; congr 1; omega), Option.bind_some, nu_get _ (show i < 12 by omega) (by omega), Option.bind_some, e1, if_neg hpos, if_neg (by decide), if_neg (by decide), Option.bind_some, q2, Option.bind_some, nI_1]
      · rw [if_neg (show ¬ nI i = nI n - 1 by rw [hn1', nu_eq (by omega) (by omega)]; omega), Option.bind_some, nu_get _ (show i < 12 by omega) (by omega), Option.bind_some, e1, if_neg hpos, if_pos rfl]
        by_cases hb : m.testBit i
        · refine ⟨z, hskip (by unfold Ef; rw [if_neg hs0, if_pos ⟨by omega, hb⟩]), ?_⟩
          rw [if_neg (fun hh => by rw [nu_bit0 hm (by omega)] at hh; rw [hb] at hh; cases hh), Option.bind_some, nI_1]
        · have hE : st i = Ef n st m i := by unfold Ef; rw [if_neg hs0, if_neg (fun c => hb c.2)]
          obtain ⟨z', q1, q2⟩ := hlast (st i) (nI i + 1) hE (by omega) (by unfold pos; rw [if_pos (by omega), nI_1])
          refine ⟨z', q1, ?_⟩
          rw [if_pos (by rw [nu_bit0 hm (by omega)]; simpa using hb), if_pos rfl, Option.bind_some, q2, Option.bind_some, nI_1]
  obtain ⟨z', k, ⟨R, h1, h2, h3, h4⟩, h5⟩ := lp_inv (fun k i z => f_X11_findFar_51 (nI n) fl (nI m) k (nI i) z) n (fun i z => ∃ R, FarM n R z ∧ Rok n (Ef n st m) R ∧ (∀ a b, a < n → b < n → R a b = R b a) ∧ (∀ s, s < i → R s (pos n s 1) ≤ Ef n st m s)) hs FU 0 z (by omega) (by rw [FU_eq]; omega) ⟨fun a b => if a = b then 0 else 99, hz, ⟨fun a b ha hb => by
      by_cases e : a = b
      · subst e; simp [Dd_self]
      · simp only [e, if_false]; exact ⟨Dd_le _ _ _ _, Nat.le_refl _⟩, fun a _ => by simp⟩, fun a b _ _ => by
      by_cases e : a = b
      · simp [e]
      · have : ¬ b = a := fun h => e h.symm
        simp [e, this], fun s hs => by omega⟩
  refine ⟨z', R, ?_, h1, h2, fun s hs => ⟨h4 s hs, ?_⟩⟩
  · show f_X11_findFar_51 (nI n) fl (nI m) FU (nI 0) z = _
    rw [h5, f_X11_findFar_51_s, if_pos (ps_le (by omega) (by omega) (Nat.le_refl n))]
  · rw [h3 _ _ (pos_lt hs (by omega)) hs]; exact h4 s hs
theorem m_floyd {n : Nat} {E : Nat → Nat} {z : Nat → Int32} {R0 : Nat → Nat → Nat} (hn1 : 1 ≤ n) (hn : n ≤ 12) (hz : FarM n R0 z) (hR0 : Rok n E R0) (hE : ∀ s, s < n → R0 s (pos n s 1) ≤ E s ∧ R0 (pos n s 1) s ≤ E s) : ∃ z', f_X11_findFar_126 (nI n) FU 0 z = some z' ∧ FarM n (Dd n E) z' := by
  -- one row of one phase
  have row : ∀ (k a : Nat) (Rs : Nat → Nat → Nat), k < n → a < n → Rok n E Rs → ∀ z, (∃ R, FarM n R z ∧ (∀ x y, x < n → y < n → Dd n E x y ≤ R x y ∧ R x y ≤ Rs x y) ∧ (∀ x y, x < a → y < n → R x y ≤ Rs x k + Rs k y)) → ∃ z', (∃ R, FarM n R z' ∧ (∀ x y, x < n → y < n → Dd n E x y ≤ R x y ∧ R x y ≤ Rs x y) ∧ (∀ x y, x < a + 1 → y < n → R x y ≤ Rs x k + Rs k y)) ∧ f_X11_findFar_147 (nI n) (nI k) (nI a) FU 0 z = some z' := by
    intro k a Rs hk ha hRs z hz0
    have hs : ∀ m j (z : Nat → Int32), j < n → (∃ R, FarM n R z ∧ (∀ x y, x < n → y < n → Dd n E x y ≤ R x y ∧ R x y ≤ Rs x y) ∧ (∀ x y, x < a → y < n → R x y ≤ Rs x k + Rs k y) ∧ (∀ y, y < j → R a y ≤ Rs a k + Rs k y)) → ∃ z', (∃ R, FarM n R z' ∧ (∀ x y, x < n → y < n → Dd n E x y ≤ R x y ∧ R x y ≤ Rs x y) ∧ (∀ x y, x < a → y < n → R x y ≤ Rs x k + Rs k y) ∧ (∀ y, y < j + 1 → R a y ≤ Rs a k + Rs k y)) ∧ f_X11_findFar_147 (nI n) (nI k) (nI a) (m + 1) (nI j) z = f_X11_findFar_147 (nI n) (nI k) (nI a) m (nI (j + 1)) z' := by
      intro m j z hj ⟨R, g1, g2, g3, g4⟩
      have b1 := g2 a k ha hk
      have b2 := g2 k j hk hj
      have b3 := g2 a j ha hj
      have c1 := (hRs.1 a k ha hk).2
      have c2 := (hRs.1 k j hk hj).2
      have c3 := (hRs.1 a j ha hj).2
      have tri := Dd_tri (E := E) ha hk hj
      refine ⟨upd z (12 * a + j) (nI (min (R a j) (R a k + R k j))), ⟨_, far_up hn g1 hj, ?_, ?_, ?_⟩, ?_⟩
      · intro x y hx hy
        unfold up2
        by_cases c : x = a ∧ y = j
        · rw [if_pos c, c.1, c.2]; omega
        · rw [if_neg c]; exact g2 x y hx hy
      · intro x y hx hy
        unfold up2
        rw [if_neg (by omega)]
        exact g3 x y hx hy
      · intro y hy
        unfold up2
        by_cases c : y = j
        · rw [if_pos ⟨rfl, c⟩, c]; omega
        · rw [if_neg (fun h => c h.2)]; exact g4 y (by omega)
      · rw [f_X11_findFar_147_s, if_neg (ng_le (by omega) (by omega) hj)]
        simp only [m_at, Option.bind_some]
        rw [nu_get _ (show 12 * a + k < 144 by omega) (by omega), Option.bind_some, nu_get _ (show 12 * k + j < 144 by omega) (by omega), Option.bind_some, nu_get _ (show 12 * a + j < 144 by omega) (by omega), Option.bind_some, g1 a k ha hk, g1 k j hk hj, g1 a j ha hj, nI_add]
        by_cases hc : R a j ≤ R a k + R k j
        · rw [if_pos (ps_le (by omega) (by omega) hc), Option.bind_some, Option.bind_some, nu_set _ _ (show 12 * a + j < 144 by omega) (by omega), Option.bind_some, nI_1, Nat.min_eq_left hc]
        · rw [if_neg (ng_le (by omega) (by omega) (by omega)), Option.bind_some, nu_set _ _ (show 12 * a + j < 144 by omega) (by omega), Option.bind_some, nI_1, Nat.min_eq_right (by omega)]
    obtain ⟨R, g1, g2, g3⟩ := hz0
    obtain ⟨z', m, ⟨R', q1, q2, q3, q4⟩, q5⟩ := lp_inv (fun m j z => f_X11_findFar_147 (nI n) (nI k) (nI a) m (nI j) z) n (fun j z => ∃ R, FarM n R z ∧ (∀ x y, x < n → y < n → Dd n E x y ≤ R x y ∧ R x y ≤ Rs x y) ∧ (∀ x y, x < a → y < n → R x y ≤ Rs x k + Rs k y) ∧ (∀ y, y < j → R a y ≤ Rs a k + Rs k y)) hs FU 0 z (by omega) (by rw [FU_eq]; omega) ⟨R, g1, g2, g3, fun y hy => by omega⟩
    refine ⟨z', ⟨R', q1, q2, fun x y hx hy => ?_⟩, ?_⟩
    · by_cases c : x = a
      · subst c; exact q4 y hy
      · exact q3 x y (by omega) hy
    · show f_X11_findFar_147 (nI n) (nI k) (nI a) FU (nI 0) z = _
      rw [q5, f_X11_findFar_147_s, if_pos (ps_le (by omega) (by omega) (Nat.le_refl n))]
  -- one phase
  have phase : ∀ (k : Nat) (Rs : Nat → Nat → Nat), k < n → Rok n E Rs → ∀ z, FarM n Rs z → ∃ z', (∃ R, FarM n R z' ∧ (∀ x y, x < n → y < n → Dd n E x y ≤ R x y ∧ R x y ≤ Rs x y) ∧ (∀ x y, x < n → y < n → R x y ≤ Rs x k + Rs k y)) ∧ f_X11_findFar_136 (nI n) (nI k) FU 0 z = some z' := by
    intro k Rs hk hRs z hz0
    have hs : ∀ m a (z : Nat → Int32), a < n → (∃ R, FarM n R z ∧ (∀ x y, x < n → y < n → Dd n E x y ≤ R x y ∧ R x y ≤ Rs x y) ∧ (∀ x y, x < a → y < n → R x y ≤ Rs x k + Rs k y)) → ∃ z', (∃ R, FarM n R z' ∧ (∀ x y, x < n → y < n → Dd n E x y ≤ R x y ∧ R x y ≤ Rs x y) ∧ (∀ x y, x < a + 1 → y < n → R x y ≤ Rs x k + Rs k y)) ∧ f_X11_findFar_136 (nI n) (nI k) (m + 1) (nI a) z = f_X11_findFar_136 (nI n) (nI k) m (nI (a + 1)) z' := by
      intro m a z ha g
      obtain ⟨z', q1, q2⟩ := row k a Rs hk ha hRs z g
      exact ⟨z', q1, by rw [f_X11_findFar_136_s, if_neg (ng_le (by omega) (by omega) ha), q2, Option.bind_some, nI_1]⟩
    obtain ⟨z', m, q1, q5⟩ := lp_inv (fun m a z => f_X11_findFar_136 (nI n) (nI k) m (nI a) z) n (fun a z => ∃ R, FarM n R z ∧ (∀ x y, x < n → y < n → Dd n E x y ≤ R x y ∧ R x y ≤ Rs x y) ∧ (∀ x y, x < a → y < n → R x y ≤ Rs x k + Rs k y)) hs FU 0 z (by omega) (by rw [FU_eq]; omega) ⟨Rs, hz0, fun x y hx hy => ⟨(hRs.1 x y hx hy).1, Nat.le_refl _⟩, fun x y hx => by omega⟩
    refine ⟨z', q1, ?_⟩
    show f_X11_findFar_136 (nI n) (nI k) FU (nI 0) z = _
    rw [q5, f_X11_findFar_136_s, if_pos (ps_le (by omega) (by omega) (Nat.le_refl n))]
  -- all phases
  have hs : ∀ m k (z : Nat → Int32), k < n → (∃ R, FarM n R z ∧ Rok n E R ∧ (∀ a L, a < n → 1 ≤ L → L < n → (∀ p, 1 ≤ p → p < L → pos n a p < k) → R a (pos n a L) ≤ wlk n E a L ∧ R (pos n a L) a ≤ wlk n E a L)) → ∃ z', (∃ R, FarM n R z' ∧ Rok n E R ∧ (∀ a L, a < n → 1 ≤ L → L < n → (∀ p, 1 ≤ p → p < L → pos n a p < k + 1) → R a (pos n a L) ≤ wlk n E a L ∧ R (pos n a L) a ≤ wlk n E a L)) ∧ f_X11_findFar_126 (nI n) (m + 1) (nI k) z = f_X11_findFar_126 (nI n) m (nI (k + 1)) z' := by
    intro m k z hk ⟨Rs, g1, g2, g3⟩
    obtain ⟨z', ⟨R, q1, q2, q3⟩, q4⟩ := phase k Rs hk g2 z g1
    refine ⟨z', ⟨R, q1, ⟨fun a b ha hb => ⟨(q2 a b ha hb).1, Nat.le_trans (q2 a b ha hb).2 (g2.1 a b ha hb).2⟩, fun a ha => by have := (q2 a a ha ha).2; rw [g2.2 a ha] at this; omega⟩, ?_⟩, by rw [f_X11_findFar_126_s, if_neg (ng_le (by omega) (by omega) hk), q4, Option.bind_some, nI_1]⟩
    intro a L ha hL1 hL hint
    have hpL := pos_lt ha (show L ≤ n by omega)
    by_cases hex : ∃ p, 1 ≤ p ∧ p < L ∧ pos n a p = k
    · obtain ⟨p, hp1, hpL2, hpk⟩ := hex
      have i1 := g3 a p ha hp1 (by omega) (fun q hq1 hq2 => by
        have h1 := hint q hq1 (by omega)
        have : pos n a q ≠ k := by
          rw [← hpk]; unfold pos; split <;> split <;> omega
        omega)
      have i2 := g3 k (L - p) hk (by omega) (by omega) (fun q hq1 hq2 => by
        have h1 := hint (p + q) (by omega) (by omega)
        have e : pos n k q = pos n a (p + q) := by rw [← hpk]; unfold pos; split <;> split <;> split <;> omega
        have : pos n a (p + q) ≠ k := by
          rw [← hpk]; unfold pos; split <;> split <;> omega
        rw [e]; omega)
      have e2 : pos n k (L - p) = pos n a L := by rw [← hpk]; unfold pos; split <;> split <;> split <;> omega
      rw [hpk] at i1
      rw [e2] at i2
      have ws := wlk_split (E := E) (a := a) (p := p) ha (L - p) (by omega)
      rw [show p + (L - p) = L by omega, hpk] at ws
      have r1 := q3 a (pos n a L) ha hpL
      have r2 := q3 (pos n a L) a hpL ha
      have r3 := (q2 a (pos n a L) ha hpL).2
      have r4 := (q2 (pos n a L) a hpL ha).2
      have r5 := (g2.1 a (pos n a L) ha hpL).2
      have r6 := (g2.1 (pos n a L) a hpL ha).2
      omega
    · have i1 := g3 a L ha hL1 hL (fun p hp1 hp2 => by
        have h1 := hint p hp1 hp2
        have : pos n a p ≠ k := fun e => hex ⟨p, hp1, hp2, e⟩
        omega)
      have r3 := (q2 a (pos n a L) ha hpL).2
      have r4 := (q2 (pos n a L) a hpL ha).2
      omega
  have base : ∀ a L, a < n → 1 ≤ L → L < n → (∀ p, 1 ≤ p → p < L → pos n a p < 0) → R0 a (pos n a L) ≤ wlk n E a L ∧ R0 (pos n a L) a ≤ wlk n E a L := by
    intro a L ha hL1 hL hint
    by_cases h1 : L = 1
    · subst h1
      have e0 : pos n a 0 = a := by unfold pos; split <;> omega
      have hpL := pos_lt ha (show 1 ≤ n by omega)
      have w1 : wlk n E a 1 = min 99 (E a) := by simp [wlk, e0]
      have := hE a ha
      have r5 := (hR0.1 a (pos n a 1) ha hpL).2
      have r6 := (hR0.1 (pos n a 1) a hpL ha).2
      omega
    · exact absurd (hint 1 (by omega) (by omega)) (by omega)
  obtain ⟨z', m, ⟨R, q1, q2, q3⟩, q5⟩ := lp_inv (fun m k z => f_X11_findFar_126 (nI n) m (nI k) z) n (fun k z => ∃ R, FarM n R z ∧ Rok n E R ∧ (∀ a L, a < n → 1 ≤ L → L < n → (∀ p, 1 ≤ p → p < L → pos n a p < k) → R a (pos n a L) ≤ wlk n E a L ∧ R (pos n a L) a ≤ wlk n E a L)) hs FU 0 z (by omega) (by rw [FU_eq]; omega) ⟨R0, hz, hR0, base⟩
  refine ⟨z', ?_, ?_⟩
  · show f_X11_findFar_126 (nI n) FU (nI 0) z = _
    rw [q5, f_X11_findFar_126_s, if_pos (ps_le (by omega) (by omega) (Nat.le_refl n))]
  · intro a b ha hb
    rw [q1 a b ha hb]
    congr 1
    have lo := (q2.1 a b ha hb).1
    by_cases e : a = b
    · subst e; rw [q2.2 a ha, Dd_self]
    · have k1 : 1 ≤ kst n a b ∧ kst n a b < n := by unfold kst; split <;> omega
      have k2 : 1 ≤ kst n b a ∧ kst n b a < n := by unfold kst; split <;> omega
      have e1 : pos n a (kst n a b) = b := by unfold kst pos; split <;> split <;> omega
      have e2 : pos n b (kst n b a) = a := by unfold kst pos; split <;> split <;> omega
      have i1 := q3 a _ ha k1.1 k1.2 (fun p hp1 hp2 => pos_lt ha (by omega))
      have i2 := q3 b _ hb k2.1 k2.2 (fun p hp1 hp2 => pos_lt hb (by omega))
      rw [e1] at i1
      rw [e2] at i2
      unfold Dd at lo ⊢
      rw [if_neg e] at lo ⊢
      omega
/-- FARNESS by the reference, with ARMS m on it -/
theorem m_findFar {n : Nat} {st : Nat → Nat} {m : Nat} {fl f : Nat → Int32} (hn1 : 1 ≤ n) (hn : n ≤ 12) (hst : ∀ i, i < n → fl i = nI (st i) ∧ st i ≤ 98) (hm : m < 2 ^ 31) : ∃ z, f_X11_findFar (nI n) f fl (nI m) = some z ∧ FarM n (Dd n (Ef n st m)) z := by
  obtain ⟨z1, a1, a2⟩ := m_init (n := n) hn f
  obtain ⟨z2, R, b1, b2, b3, b4⟩ := m_links hn1 hn hst hm a2
  obtain ⟨z3, c1, c2⟩ := m_floyd hn1 hn b2 b3 b4
  refine ⟨z3, ?_, c2⟩
  unfold f_X11_findFar
  rw [a1, Option.bind_some, b1, Option.bind_some, c1, Option.bind_some]
end FF1
