/-! the class' measure -/
section ME1
theorem wlk_mono {n : Nat} {E : Nat → Nat} {a k : Nat} : ∀ j, wlk n E a k ≤ wlk n E a (k + j) := by
  intro j
  induction j with
  | zero => exact Nat.le_refl _
  | succ j ih =>
    have h := wlk_le n E a (k + j)
    show _ ≤ min 99 (wlk n E a (k + j) + E (pos n a (k + j)))
    omega
theorem farC_up {n : Nat} {R : Nat → Nat → Nat} {z : Nat → Int32} {a b v : Nat} (hn : n ≤ 12) (h : Far n R z) (hb : b < n) : Far n (up2 R a b v) (upd z (a * 12 + b) (nI v)) := by
  intro x y hx hy
  unfold upd up2
  by_cases e : x = a ∧ y = b
  · rw [if_pos (by omega), if_pos e]
  · rw [if_neg (by omega), if_neg e]
    exact h x y hx hy
theorem x_init {n : Nat} (hn : n ≤ 12) (f : Nat → Int32) : ∃ z, f_X0_measure_2 (nI n) FU 0 f = some z ∧ Far n (fun a b => if a = b then 0 else 99) z := by
  have hin : ∀ (a : Nat), a < n → ∀ z : Nat → Int32, (∀ x y, x < a → y < n → z (x * 12 + y) = nI (if x = y then 0 else 99)) → ∃ z', f_X0_measure_15 (nI n) (nI a) FU 0 z = some z' ∧ (∀ x y, x < a + 1 → y < n → z' (x * 12 + y) = nI (if x = y then 0 else 99)) := by
    intro a ha z hz
    have hs : ∀ m i (z : Nat → Int32), i < n → ((∀ x y, x < a → y < n → z (x * 12 + y) = nI (if x = y then 0 else 99)) ∧ ∀ y, y < i → z (a * 12 + y) = nI (if a = y then 0 else 99)) → ∃ z', ((∀ x y, x < a → y < n → z' (x * 12 + y) = nI (if x = y then 0 else 99)) ∧ ∀ y, y < i + 1 → z' (a * 12 + y) = nI (if a = y then 0 else 99)) ∧ f_X0_measure_15 (nI n) (nI a) (m + 1) (nI i) z = f_X0_measure_15 (nI n) (nI a) m (nI (i + 1)) z' := by
      intro m i z hi ⟨g1, g2⟩
      refine ⟨upd z (a * 12 + i) (nI (if a = i then 0 else 99)), ⟨?_, ?_⟩, ?_⟩
      · intro x y hx hy
        unfold upd
        rw [if_neg (by omega)]
        exact g1 x y hx hy
      · intro y hy
        unfold upd
        by_cases e : y = i
        · subst e; simp
        · rw [if_neg (by omega)]
          exact g2 y (by omega)
      · rw [f_X0_measure_15_s, if_neg (ng_le (by omega) (by omega) hi), nu_ix]
        by_cases e : a = i
        · subst e
          rw [if_pos rfl, Option.bind_some, nu_set _ _ (by omega) (by omega), Option.bind_some, nI_1]
          simp only [if_true]
          rfl
        · rw [if_neg (fun hh => e ((nI_eq (by omega) (by omega)).mp hh)), Option.bind_some, nu_set _ _ (by omega) (by omega), Option.bind_some, nI_1]
          simp only [e, if_false]
          rfl
    obtain ⟨z', m, h1, h2⟩ := lp_inv (fun m i z => f_X0_measure_15 (nI n) (nI a) m (nI i) z) n (fun j z => (∀ x y, x < a → y < n → z (x * 12 + y) = nI (if x = y then 0 else 99)) ∧ ∀ y, y < j → z (a * 12 + y) = nI (if a = y then 0 else 99)) hs FU 0 z (by omega) (by rw [FU_eq]; omega) ⟨hz, fun y hy => by omega⟩
    refine ⟨z', ?_, ?_⟩
    · show f_X0_measure_15 (nI n) (nI a) FU (nI 0) z = _
      rw [h2, f_X0_measure_15_s, if_pos (ps_le (by omega) (by omega) (Nat.le_refl n))]
    · intro x y hx hy
      by_cases hxa : x = a
      · subst hxa; exact h1.2 y hy
      · exact h1.1 x y (by omega) hy
  have hs : ∀ m i (z : Nat → Int32), i < n → (∀ x y, x < i → y < n → z (x * 12 + y) = nI (if x = y then 0 else 99)) → ∃ z', (∀ x y, x < i + 1 → y < n → z' (x * 12 + y) = nI (if x = y then 0 else 99)) ∧ f_X0_measure_2 (nI n) (m + 1) (nI i) z = f_X0_measure_2 (nI n) m (nI (i + 1)) z' := by
    intro m i z hi g
    obtain ⟨z', e1, e2⟩ := hin i hi z g
    refine ⟨z', e2, ?_⟩
    rw [f_X0_measure_2_s, if_neg (ng_le (by omega) (by omega) hi), e1, Option.bind_some, nI_1]
  obtain ⟨z', m, h1, h2⟩ := lp_inv (fun m i z => f_X0_measure_2 (nI n) m (nI i) z) n (fun a z => ∀ x y, x < a → y < n → z (x * 12 + y) = nI (if x = y then 0 else 99)) hs FU 0 f (by omega) (by rw [FU_eq]; omega) (fun x y hx => by omega)
  refine ⟨z', ?_, fun a b ha hb => h1 a b ha hb⟩
  show f_X0_measure_2 (nI n) FU (nI 0) f = _
  rw [h2, f_X0_measure_2_s, if_pos (ps_le (by omega) (by omega) (Nat.le_refl n))]
/-- between the walks -/
def Rsy (n : Nat) (E : Nat → Nat) (R : Nat → Nat → Nat) : Prop := Rok n E R ∧ ∀ a b, a < n → b < n → R a b = R b a
/-- the walk from s has been walked -/
def Wkd (n : Nat) (E : Nat → Nat) (R : Nat → Nat → Nat) (s i : Nat) : Prop := ∀ L, 1 ≤ L → L < i → R s (pos n s L) ≤ wlk n E s L
theorem x_put {n : Nat} {E : Nat → Nat} {R : Nat → Nat → Nat} {a b v : Nat} (hR : Rsy n E R) (ha : a < n) (hb : b < n) (hv : Dd n E a b ≤ v) (hlt : v < R a b) : Rsy n E (up2 (up2 R a b v) b a v) ∧ (∀ x y, x < n → y < n → up2 (up2 R a b v) b a v x y ≤ R x y) ∧ up2 (up2 R a b v) b a v a b = v := by
  have hne : a ≠ b := fun e => by subst e; rw [hR.1.2 a ha] at hlt; omega
  have hab := (hR.1.1 a b ha hb).2
  have hba := hR.2 a b ha hb
  refine ⟨⟨⟨?_, ?_⟩, ?_⟩, ?_, ?_⟩
  · intro x y hx hy
    have := hR.1.1 x y hx hy
    unfold up2
    by_cases c1 : x = b ∧ y = a
    · rw [if_pos c1, c1.1, c1.2, Dd_sym]; omega
    · rw [if_neg c1]
      by_cases c2 : x = a ∧ y = b
      · rw [if_pos c2, c2.1, c2.2]; omega
      · rw [if_neg c2]; exact this
  · intro x hx
    unfold up2
    rw [if_neg (fun c => hne (c.2.symm.trans c.1)), if_neg (fun c => hne (c.1.symm.trans c.2))]
    exact hR.1.2 x hx
  · intro x y hx hy
    have := hR.2 x y hx hy
    unfold up2
    by_cases c1 : x = b ∧ y = a
    · rw [if_pos c1]
      by_cases c2 : y = b ∧ x = a
      · rw [if_pos c2]
      · rw [if_neg c2, if_pos ⟨c1.2, c1.1⟩]
    · rw [if_neg c1]
      by_cases c2 : x = a ∧ y = b
      · rw [if_pos c2, if_pos ⟨c2.2, c2.1⟩]
      · rw [if_neg c2, if_neg (fun c => c2 ⟨c.2, c.1⟩), if_neg (fun c => c1 ⟨c.2, c.1⟩)]
        exact this
  · intro x y hx hy
    unfold up2
    by_cases c1 : x = b ∧ y = a
    · rw [if_pos c1, c1.1, c1.2]; omega
    · rw [if_neg c1]
      by_cases c2 : x = a ∧ y = b
      · rw [if_pos c2, c2.1, c2.2]; omega
      · rw [if_neg c2]; exact Nat.le_refl _
  · unfold up2
    rw [if_neg (fun c => hne c.1), if_pos ⟨rfl, rfl⟩]
theorem x_walk {n : Nat} {st : Nat → Nat} {m s : Nat} {fs z : Nat → Int32} {R : Nat → Nat → Nat} (hn1 : 1 ≤ n) (hn : n ≤ 12) (hst : ∀ i, i < n → fs i = nI (st i) ∧ st i ≤ 98) (hm : m < 2 ^ (n - 1)) (hs : s < n) (hz : Far n R z) (hR : Rsy n (Ef n st m) R) :
    ∃ z' R', f_X0_walkOn (nI n) fs z (nI s) (nI m) = some z' ∧ Far n R' z' ∧ Rsy n (Ef n st m) R' ∧ (∀ x y, x < n → y < n → R' x y ≤ R x y) ∧ Wkd n (Ef n st m) R' s n := by
  have hm2 : m < 2 ^ 31 := Nat.lt_of_lt_of_le hm (Nat.pow_le_pow_right (by omega) (by omega))
  -- the loop, by how many steps are left
  have key : ∀ (left i : Nat) (ws : Nat) (z : Nat → Int32) (R : Nat → Nat → Nat), 1 ≤ i → i + left = n → ws ≤ 98 * i → min 99 ws = wlk n (Ef n st m) s (i - 1) → Far n R z → Rsy n (Ef n st m) R → Wkd n (Ef n st m) R s i → ∀ k, left < k →
      ∃ o z' R', f_X0_walkOn_17 (nI n) fs (nI s) (nI m) k (nI (pos n s (i - 1))) (nI ws) (nI i) z = some o ∧ (o = Sum.inl z' ∨ o = Sum.inr z') ∧ Far n R' z' ∧ Rsy n (Ef n st m) R' ∧ (∀ x y, x < n → y < n → R' x y ≤ R x y) ∧ Wkd n (Ef n st m) R' s n := by
    intro left
    induction left with
    | zero =>
      intro i ws z R hi1 hil hws hw hz hR hW k hk
      obtain ⟨k, rfl⟩ : ∃ k', k = k' + 1 := ⟨k - 1, by omega⟩
      refine ⟨Sum.inl z, z, R, ?_, Or.inl rfl, hz, hR, fun _ _ _ _ => Nat.le_refl _, fun L h1 h2 => hW L h1 (by omega)⟩
      rw [f_X0_walkOn_17_s, if_pos (ps_le (by omega) (by omega) (by omega))]
    | succ left ih =>
      intro i ws z R hi1 hil hws hw hz hR hW k hk
      obtain ⟨k, rfl⟩ : ∃ k', k = k' + 1 := ⟨k - 1, by omega⟩
      have hp : pos n s (i - 1) < n := pos_lt hs (by omega)
      generalize hpe : pos n s (i - 1) = p at hp
      have hwi : wlk n (Ef n st m) s i = min 99 (wlk n (Ef n st m) s (i - 1) + Ef n st m p) := by
        rw [← hpe]
        have : i = (i - 1) + 1 := by omega
        rw [this]
        rfl
      -- it ends here
      have stop : Ef n st m p = 99 → ∃ R', Far n R' z ∧ Rsy n (Ef n st m) R' ∧ (∀ x y, x < n → y < n → R' x y ≤ R x y) ∧ Wkd n (Ef n st m) R' s n := by
        intro h99
        refine ⟨R, hz, hR, fun _ _ _ _ => Nat.le_refl _, fun L h1 h2 => ?_⟩
        by_cases hLi : L < i
        · exact hW L h1 hLi
        · have w1 := wlk_mono (n := n) (E := Ef n st m) (a := s) (k := i) (L - i)
          rw [show i + (L - i) = L by omega, hwi, h99] at w1
          have := (hR.1.1 s (pos n s L) hs (pos_lt hs (by omega))).2
          omega
      rw [f_X0_walkOn_17_s, if_neg (ng_le (by omega) (by omega) (by omega))]
      by_cases hb : m.testBit p
      · have hlt : p + 1 < n := by
          apply Classical.byContradiction
          intro hc
          have : m.testBit p = false := Nat.testBit_lt_two_pow (Nat.lt_of_lt_of_le hm (Nat.pow_le_pow_right (by omega) (by omega)))
          rw [this] at hb
          cases hb
        obtain ⟨R', q⟩ := stop (by
          unfold Ef
          by_cases h0 : st p = 0
          · rw [if_pos h0]
          · rw [if_neg h0, if_pos ⟨hlt, hb⟩])
        refine ⟨Sum.inr z, z, R', ?_, Or.inr rfl, q⟩
        rw [if_neg (fun hh => by rw [nu_bit0 hm2 (by omega)] at hh; rw [hb] at hh; cases hh), Option.bind_some, if_neg (by decide)]
      · rw [if_pos (by rw [nu_bit0 hm2 (by omega)]; simpa using hb), Option.bind_some, if_pos rfl, nu_get _ (show p < 12 by omega) (by omega), Option.bind_some, (hst p hp).1]
        by_cases h0 : st p = 0
        · obtain ⟨R', q⟩ := stop (by unfold Ef; rw [if_pos h0])
          refine ⟨Sum.inr z, z, R', ?_, Or.inr rfl, q⟩
          rw [if_pos (by rw [h0]; rfl)]
        · have h98 := (hst p hp).2
          have hE : Ef n st m p = st p := by unfold Ef; rw [if_neg h0, if_neg (fun c => hb c.2)]
          have hq : pos n s i < n := pos_lt hs (by omega)
          have hnx : (if nI n ≤ nI p + 1 then some (0 : Int32) else some (nI p + 1)) = some (nI (pos n s i)) := by
            have e : pos n s i = if n ≤ p + 1 then 0 else p + 1 := by
              rw [← hpe]
              unfold pos
              repeat' split
              all_goals omega
            rw [nI_1, e]
            by_cases hc : n ≤ p + 1
            · rw [if_pos (ps_le (by omega) (by omega) hc), if_pos hc]; rfl
            · rw [if_neg (ng_le (by omega) (by omega) (by omega)), if_neg hc]
          have hRb := (hR.1.1 s (pos n s i) hs hq).2
          have hDv : Dd n (Ef n st m) s (pos n s i) ≤ ws + st p := by
            have := Dd_fw (E := Ef n st m) hs (show i < n by omega)
            omega
          rw [if_neg (show ¬ nI (st p) = 0 from fun hh => h0 ((nI_eq (by omega) (by omega)).mp (show nI (st p) = nI 0 from hh))), Option.bind_some, hnx, Option.bind_some, nu_ix, nu_get _ (show s * 12 + pos n s i < 144 by omega) (by omega), Option.bind_some, hz s _ hs hq, nI_add]
          by_cases hc : R s (pos n s i) ≤ ws + st p
          · rw [if_pos (ps_le (by omega) (by omega) hc), Option.bind_some, nI_1]
            have := ih (i + 1) (ws + st p) z R (by omega) (by omega) (by omega) (by rw [show i + 1 - 1 = i by omega, hwi, hE]; omega) hz hR (fun L h1 h2 => by
              by_cases hL : L = i
              · subst hL; rw [hwi, hE]; omega
              · exact hW L h1 (by omega)) k (by omega)
            rw [show i + 1 - 1 = i by omega] at this
            exact this
          · obtain ⟨r1, r2, r3⟩ := x_put hR hs hq hDv (by omega)
            rw [if_neg (ng_le (by omega) (by omega) (by omega)), nu_set _ _ (show s * 12 + pos n s i < 144 by omega) (by omega), Option.bind_some, nu_ix, nu_set _ _ (show pos n s i * 12 + s < 144 by omega) (by omega), Option.bind_some, Option.bind_some, nI_1]
            obtain ⟨o, z', R', t1, t2, t3, t4, t5, t6⟩ := ih (i + 1) (ws + st p) _ _ (by omega) (by omega) (by omega) (by rw [show i + 1 - 1 = i by omega, hwi, hE]; omega) (farC_up hn (farC_up hn hz hq) hs) r1 (fun L h1 h2 => by
              by_cases hL : L = i
              · subst hL; rw [r3, hwi, hE]; omega
              · exact Nat.le_trans (r2 s _ hs (pos_lt hs (by omega))) (hW L h1 (by omega))) k (by omega)
            rw [show i + 1 - 1 = i by omega] at t1
            exact ⟨o, z', R', t1, t2, t3, t4, fun x y hx hy => Nat.le_trans (t5 x y hx hy) (r2 x y hx hy), t6⟩
  have e0 : pos n s 0 = s := by unfold pos; split <;> omega
  obtain ⟨o, z', R', t1, t2, t3, t4, t5, t6⟩ := key (n - 1) 1 0 z R (by omega) (by omega) (by omega) rfl hz hR (fun L h1 h2 => by omega) FU (by rw [FU_eq]; omega)
  rw [show 1 - 1 = 0 from rfl, e0] at t1
  refine ⟨z', R', ?_, t3, t4, t5, t6⟩
  unfold f_X0_walkOn
  rw [show f_X0_walkOn_17 (nI n) fs (nI s) (nI m) FU (nI s) 0 1 z = some o from t1, Option.bind_some]
  rcases t2 with rfl | rfl <;> rfl
/-- too near, as bits -/
def clm (Dm : Nat → Nat → Nat) (B a : Nat) : Nat → Nat
  | 0 => 0
  | i + 1 => if B ≤ Dm a i then clm Dm B a i else clm Dm B a i ||| 2 ^ i
theorem x_look {n : Nat} {Dm : Nat → Nat → Nat} {B a : Nat} {g fc fb : Nat → Int32} (hD : Dok n Dm) (hB : B ≤ 99) (hF : Far n Dm g) (ha : a < n) : f_X0_lookRound (nI n) (nI B) g fc fb (nI a) = some (upd fc a (nI (clm Dm B a n)), upd fb a (nI (nbr Dm a n))) := by
  obtain ⟨hn, hn1, h99, hsym, h0⟩ := hD
  have h : f_X0_lookRound_7 (nI n) (nI B) g (nI a) FU 0 0 0 = some (nI (clm Dm B a n), nI (nbr Dm a n)) := by
    refine lp_at2 (fun m i z z' => f_X0_lookRound_7 (nI n) (nI B) g (nI a) m z z' (nI i)) n (fun i => nI (clm Dm B a i)) (fun i => nI (nbr Dm a i)) rfl rfl (by omega) ?_ ?_
    · intro m
      rw [f_X0_lookRound_7_s, if_pos (ps_le (by omega) (by omega) (Nat.le_refl n))]
    · intro m i hi
      have a2 := h99 a i
      rw [f_X0_lookRound_7_s, if_neg (ng_le (by omega) (by omega) hi), nu_ix, nu_get _ (show a * 12 + i < 144 by omega) (by omega), Option.bind_some, hF a i ha hi]
      have e1 : (if nI B ≤ nI (Dm a i) then some (nI (clm Dm B a i)) else some (nI (clm Dm B a i) ||| (1 : Int32) <<< (nI i &&& 31))) = some (nI (clm Dm B a (i + 1))) := by
        by_cases hle : B ≤ Dm a i
        · rw [if_pos (ps_le (by omega) (by omega) hle)]
          simp only [clm, hle, if_true]
        · rw [if_neg (ng_le (by omega) (by omega) (by omega)), nu_or (by omega)]
          simp only [clm, hle, if_false]
      have e2 : (if nI (Dm a i) = 1 then some (nI (nbr Dm a i) + 1) else some (nI (nbr Dm a i))) = some (nI (nbr Dm a (i + 1))) := by
        by_cases h1 : Dm a i = 1
        · rw [if_pos (show nI (Dm a i) = 1 by rw [h1]; rfl), nI_1]
          simp [nbr, h1]
        · rw [if_neg (show ¬ nI (Dm a i) = 1 from fun hh => h1 ((nI_eq (by omega) (by omega)).mp (show nI (Dm a i) = nI 1 from hh)))]
          simp [nbr, h1]
      rw [e1, Option.bind_some, e2, Option.bind_some, nI_1]
  unfold f_X0_lookRound
  rw [h, Option.bind_some, nu_set _ _ (show a < 12 by omega) (by omega), Option.bind_some, nu_set _ _ (show a < 12 by omega) (by omega), Option.bind_some]
/-- the class' measure, with ARMS m on it -/
theorem x_measure {n B : Nat} {st : Nat → Nat} {m : Nat} {fs g fc fb : Nat → Int32} (hn1 : 1 ≤ n) (hn : n ≤ 12) (hB : B ≤ 99) (hst : ∀ i, i < n → fs i = nI (st i) ∧ st i ≤ 98) (hm : m < 2 ^ (n - 1)) :
    ∃ g', f_X0_measure (nI n) (nI B) g fs fc fb (nI m) = some (g', (fun j => if j < n then nI (clm (Dd n (Ef n st m)) B j n) else fc j), (fun j => if j < n then nI (nbr (Dd n (Ef n st m)) j n) else fb j)) ∧ Far n (Dd n (Ef n st m)) g' := by
  obtain ⟨z1, a1, a2⟩ := x_init (n := n) hn g
  have hR0 : Rsy n (Ef n st m) (fun a b => if a = b then 0 else 99) := by
    refine ⟨⟨fun a b ha hb => ?_, fun a _ => by simp⟩, fun a b _ _ => ?_⟩
    · by_cases e : a = b
      · subst e; simp [Dd_self]
      · simp only [e, if_false]; exact ⟨Dd_le _ _ _ _, Nat.le_refl _⟩
    · by_cases e : a = b
      · simp [e]
      · have : ¬ b = a := fun h => e h.symm
        simp [e, this]
  have hs : ∀ k s (z : Nat → Int32), s < n → (∃ R, Far n R z ∧ Rsy n (Ef n st m) R ∧ ∀ x, x < s → Wkd n (Ef n st m) R x n) → ∃ z', (∃ R, Far n R z' ∧ Rsy n (Ef n st m) R ∧ ∀ x, x < s + 1 → Wkd n (Ef n st m) R x n) ∧ f_X0_measure_62 (nI n) fs (nI m) (k + 1) (nI s) z = f_X0_measure_62 (nI n) fs (nI m) k (nI (s + 1)) z' := by
    intro k s z hs ⟨R, g1, g2, g3⟩
    obtain ⟨z', R', q1, q2, q3, q4, q5⟩ := x_walk hn1 hn hst hm hs g1 g2
    refine ⟨z', ⟨R', q2, q3, fun x hx => ?_⟩, by rw [f_X0_measure_62_s, if_neg (ng_le (by omega) (by omega) hs), q1, Option.bind_some, nI_1]⟩
    by_cases e : x = s
    · subst e; exact q5
    · intro L h1 h2
      exact Nat.le_trans (q4 x _ (by omega) (pos_lt (by omega) (by omega))) (g3 x (by omega) L h1 h2)
  obtain ⟨z2, k, ⟨R, b1, b2, b3⟩, b4⟩ := lp_inv (fun k s z => f_X0_measure_62 (nI n) fs (nI m) k (nI s) z) n (fun s z => ∃ R, Far n R z ∧ Rsy n (Ef n st m) R ∧ ∀ x, x < s → Wkd n (Ef n st m) R x n) hs FU 0 z1 (by omega) (by rw [FU_eq]; omega) ⟨_, a2, hR0, fun x hx => by omega⟩
  have hF : Far n (Dd n (Ef n st m)) z2 := by
    intro a b ha hb
    rw [b1 a b ha hb]
    congr 1
    have lo := (b2.1.1 a b ha hb).1
    by_cases e : a = b
    · subst e; rw [b2.1.2 a ha, Dd_self]
    · have k1 : 1 ≤ kst n a b ∧ kst n a b < n := by unfold kst; split <;> omega
      have k2 : 1 ≤ kst n b a ∧ kst n b a < n := by unfold kst; split <;> omega
      have e1 : pos n a (kst n a b) = b := by unfold kst pos; split <;> split <;> omega
      have e2 : pos n b (kst n b a) = a := by unfold kst pos; split <;> split <;> omega
      have i1 := b3 a ha _ k1.1 k1.2
      have i2 := b3 b hb _ k2.1 k2.2
      have sy := b2.2 a b ha hb
      rw [e1] at i1
      rw [e2] at i2
      unfold Dd at lo ⊢
      rw [if_neg e] at lo ⊢
      omega
  have hD := Dd_ok (Ef n st m) hn1 hn
  have hl : f_X0_measure_87 (nI n) (nI B) z2 FU 0 fc fb = some ((fun j => if j < n then nI (clm (Dd n (Ef n st m)) B j n) else fc j), (fun j => if j < n then nI (nbr (Dd n (Ef n st m)) j n) else fb j)) := by
    refine lp_at2 (fun k i z z' => f_X0_measure_87 (nI n) (nI B) z2 k (nI i) z z') n (fun i j => if j < i then nI (clm (Dd n (Ef n st m)) B j n) else fc j) (fun i j => if j < i then nI (nbr (Dd n (Ef n st m)) j n) else fb j) (by funext j; simp) (by funext j; simp) (by omega) ?_ ?_
    · intro k
      rw [f_X0_measure_87_s, if_pos (ps_le (by omega) (by omega) (Nat.le_refl n))]
    · intro k i hi
      rw [f_X0_measure_87_s, if_neg (ng_le (by omega) (by omega) hi), x_look hD hB hF hi, Option.bind_some, nI_1]
      show f_X0_measure_87 (nI n) (nI B) z2 k (nI (i + 1)) (upd _ i _) (upd _ i _) = _
      rw [upd_lt (f := fun j => nI (clm (Dd n (Ef n st m)) B j n)) rfl, upd_lt (f := fun j => nI (nbr (Dd n (Ef n st m)) j n)) rfl]
  refine ⟨z2, ?_, hF⟩
  unfold f_X0_measure
  rw [a1, Option.bind_some, show f_X0_measure_62 (nI n) fs (nI m) FU 0 z1 = some z2 from by
    show f_X0_measure_62 (nI n) fs (nI m) FU (nI 0) z1 = _
    rw [b4, f_X0_measure_62_s, if_pos (ps_le (by omega) (by omega) (Nat.le_refl n))], Option.bind_some, hl, Option.bind_some]
end ME1
