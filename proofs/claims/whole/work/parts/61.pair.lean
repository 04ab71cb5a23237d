/-! pairs -/
section PR1
/-- seats 1 apart: few -/
theorem wlk_lo {n : Nat} {E : Nat → Nat} (hE : ∀ i, 1 ≤ E i) (a : Nat) : ∀ k, min 99 k ≤ wlk n E a k := by
  intro k
  induction k with
  | zero => exact Nat.zero_le _
  | succ k ih =>
    show min 99 (k + 1) ≤ min 99 (wlk n E a k + E (pos n a k))
    have := hE (pos n a k)
    omega
theorem Dd_adj {n : Nat} {E : Nat → Nat} (hE : ∀ i, 1 ≤ E i) {a b : Nat} (hab : a < b) (hb : b < n) (h : Dd n E a b = 1) : b = a + 1 ∨ (a = 0 ∧ b = n - 1) := by
  unfold Dd at h
  rw [if_neg (by omega)] at h
  have h1 := wlk_lo (n := n) hE a (kst n a b)
  have h2 := wlk_lo (n := n) hE b (kst n b a)
  have e1 : kst n a b = b - a := by unfold kst; rw [if_pos (by omega)]
  have e2 : kst n b a = a + n - b := by unfold kst; rw [if_neg (by omega)]
  rw [e1] at h h1
  rw [e2] at h h2
  omega
theorem Ef_1 (n : Nat) (st : Nat → Nat) (m i : Nat) : 1 ≤ Ef n st m i := by
  unfold Ef
  split
  · omega
  · split <;> omega
def PS : Type := Nat × (Nat → Nat) × (Nat → Nat)
def psh (s : PS) (a b : Nat) : PS := (s.1 + 1, (fun i => if i = s.1 then a else s.2.1 i), (fun i => if i = s.1 then b else s.2.2 i))
def inS (Dm : Nat → Nat → Nat) (a : Nat) (s : PS) : Nat → PS
  | 0 => s
  | b + 1 => if a < b ∧ Dm a b = 1 then psh (inS Dm a s b) a b else inS Dm a s b
def outS (n : Nat) (Dm : Nat → Nat → Nat) : Nat → PS
  | 0 => (0, (fun _ => 0), (fun _ => 0))
  | a + 1 => inS Dm a (outS n Dm a) n
theorem inS_y {Dm : Nat → Nat → Nat} {a b : Nat} {s : PS} (h1 : a < b) (h2 : Dm a b = 1) : inS Dm a s (b + 1) = psh (inS Dm a s b) a b := by
  show (if a < b ∧ Dm a b = 1 then psh (inS Dm a s b) a b else inS Dm a s b) = _
  rw [if_pos ⟨h1, h2⟩]
theorem inS_n {Dm : Nat → Nat → Nat} {a b : Nat} {s : PS} (h : ¬ (a < b ∧ Dm a b = 1)) : inS Dm a s (b + 1) = inS Dm a s b := by
  show (if a < b ∧ Dm a b = 1 then psh (inS Dm a s b) a b else inS Dm a s b) = _
  rw [if_neg h]
theorem inS_lo {Dm : Nat → Nat → Nat} {a : Nat} {s : PS} : ∀ b, b ≤ a + 1 → inS Dm a s b = s := by
  intro b
  induction b with
  | zero => intro _; rfl
  | succ b ih => intro h; rw [inS_n (by omega)]; exact ih (by omega)
/-- a list goes on -/
def Gon (s t : PS) : Prop := s.1 ≤ t.1 ∧ ∀ i, i < s.1 → t.2.1 i = s.2.1 i ∧ t.2.2 i = s.2.2 i
theorem Gon_r (s : PS) : Gon s s := ⟨Nat.le_refl _, fun _ _ => ⟨rfl, rfl⟩⟩
theorem Gon_t {s t u : PS} (h1 : Gon s t) (h2 : Gon t u) : Gon s u := ⟨Nat.le_trans h1.1 h2.1, fun i hi => by
  have a := h1.2 i hi
  have b := h2.2 i (by have := h1.1; omega)
  exact ⟨b.1.trans a.1, b.2.trans a.2⟩⟩
theorem Gon_p (s : PS) (a b : Nat) : Gon s (psh s a b) := ⟨Nat.le_succ _, fun i hi => by
  constructor
  · show (if i = s.1 then a else s.2.1 i) = _
    rw [if_neg (by omega)]
  · show (if i = s.1 then b else s.2.2 i) = _
    rw [if_neg (by omega)]⟩
theorem Gon_i {Dm : Nat → Nat → Nat} {a : Nat} {s : PS} {b : Nat} : ∀ d, Gon (inS Dm a s b) (inS Dm a s (b + d)) := by
  intro d
  induction d with
  | zero => exact Gon_r _
  | succ d ih =>
    show Gon _ (inS Dm a s (b + d + 1))
    by_cases h : a < b + d ∧ Dm a (b + d) = 1
    · rw [inS_y h.1 h.2]; exact Gon_t ih (Gon_p _ _ _)
    · rw [inS_n h]; exact ih
theorem Gon_o {n : Nat} {Dm : Nat → Nat → Nat} {a : Nat} : ∀ d, Gon (outS n Dm a) (outS n Dm (a + d)) := by
  intro d
  induction d with
  | zero => exact Gon_r _
  | succ d ih =>
    refine Gon_t ih ?_
    show Gon (inS Dm (a + d) (outS n Dm (a + d)) 0) (inS Dm (a + d) (outS n Dm (a + d)) n)
    have := Gon_i (Dm := Dm) (a := a + d) (s := outS n Dm (a + d)) (b := 0) n
    rw [Nat.zero_add] at this
    exact this
theorem Gon_f {n : Nat} {Dm : Nat → Nat → Nat} {a b : Nat} (ha : a < n) (hb : b ≤ n) : Gon (inS Dm a (outS n Dm a) b) (outS n Dm n) := by
  have h1 := Gon_i (Dm := Dm) (a := a) (s := outS n Dm a) (b := b) (n - b)
  rw [show b + (n - b) = n by omega] at h1
  have h2 := Gon_o (n := n) (Dm := Dm) (a := a + 1) (n - (a + 1))
  rw [show a + 1 + (n - (a + 1)) = n by omega] at h2
  exact Gon_t h1 h2
/-- what stands at a pair's place -/
theorem pl_at {n : Nat} {Dm : Nat → Nat → Nat} {a b : Nat} (ha : a < n) (hab : a < b) (hb : b < n) (h : Dm a b = 1) : (inS Dm a (outS n Dm a) b).1 < (outS n Dm n).1 ∧ (outS n Dm n).2.1 (inS Dm a (outS n Dm a) b).1 = a ∧ (outS n Dm n).2.2 (inS Dm a (outS n Dm a) b).1 = b := by
  have g := Gon_f (n := n) (Dm := Dm) (a := a) (b := b + 1) ha (by omega)
  rw [inS_y hab h] at g
  have g2 := g.2 (inS Dm a (outS n Dm a) b).1 (Nat.lt_succ_self _)
  have e1 : (psh (inS Dm a (outS n Dm a) b) a b).2.1 (inS Dm a (outS n Dm a) b).1 = a := if_pos rfl
  have e2 : (psh (inS Dm a (outS n Dm a) b) a b).2.2 (inS Dm a (outS n Dm a) b).1 = b := if_pos rfl
  exact ⟨Nat.lt_of_lt_of_le (Nat.lt_succ_self _) g.1, g2.1.trans e1, g2.2.trans e2⟩
def PLk (n : Nat) (Dm : Nat → Nat → Nat) (s : PS) : Prop := ∀ i, i < s.1 → s.2.1 i < s.2.2 i ∧ s.2.2 i < n ∧ Dm (s.2.1 i) (s.2.2 i) = 1
theorem PL_in {n : Nat} {Dm : Nat → Nat → Nat} {a : Nat} {s : PS} (hs : PLk n Dm s) : ∀ b, b ≤ n → PLk n Dm (inS Dm a s b) := by
  intro b
  induction b with
  | zero => intro _; exact hs
  | succ b ih =>
    intro h
    have i1 := ih (by omega)
    by_cases hc : a < b ∧ Dm a b = 1
    · rw [inS_y hc.1 hc.2]
      intro i hi
      by_cases e : i = (inS Dm a s b).1
      · have e1 : (psh (inS Dm a s b) a b).2.1 i = a := if_pos e
        have e2 : (psh (inS Dm a s b) a b).2.2 i = b := if_pos e
        rw [e1, e2]
        exact ⟨hc.1, by omega, hc.2⟩
      · have e1 : (psh (inS Dm a s b) a b).2.1 i = (inS Dm a s b).2.1 i := if_neg e
        have e2 : (psh (inS Dm a s b) a b).2.2 i = (inS Dm a s b).2.2 i := if_neg e
        rw [e1, e2]
        have hi' : i < (inS Dm a s b).1 + 1 := hi
        exact i1 i (by omega)
    · rw [inS_n hc]; exact i1
theorem PL_out (n : Nat) (Dm : Nat → Nat → Nat) : ∀ a, PLk n Dm (outS n Dm a) := by
  intro a
  induction a with
  | zero => intro i hi; exact absurd hi (Nat.not_lt_zero _)
  | succ a ih => exact PL_in ih n (Nat.le_refl _)
def Adj (n : Nat) (Dm : Nat → Nat → Nat) : Prop := ∀ a b, a < b → b < n → Dm a b = 1 → b = a + 1 ∨ (a = 0 ∧ b = n - 1)
theorem inS_le {n : Nat} {Dm : Nat → Nat → Nat} (h : Adj n Dm) {a : Nat} {s : PS} : ∀ b, b ≤ n → (inS Dm a s b).1 ≤ s.1 + (if a + 1 < b then 1 else 0) + (if a = 0 ∧ n - 1 < b then 1 else 0) := by
  intro b
  induction b with
  | zero => intro _; show s.1 ≤ _; omega
  | succ b ih =>
    intro hb
    have i1 := ih (by omega)
    by_cases hc : a < b ∧ Dm a b = 1
    · rw [inS_y hc.1 hc.2]
      show (inS Dm a s b).1 + 1 ≤ _
      rcases h a b hc.1 (by omega) hc.2 with e | ⟨e1, e2⟩
      · rw [if_neg (by omega)] at i1
        rw [if_pos (by omega)]
        by_cases hd : a = 0 ∧ n - 1 < b
        · omega
        · rw [if_neg hd] at i1
          omega
      · rw [if_neg (show ¬ (a = 0 ∧ n - 1 < b) by omega)] at i1
        rw [if_pos (show a = 0 ∧ n - 1 < b + 1 by omega)]
        by_cases hd : a + 1 < b
        · rw [if_pos hd] at i1
          rw [if_pos (by omega)]
          omega
        · rw [if_neg hd] at i1
          omega
    · rw [inS_n hc]
      have m1 : (if a + 1 < b then 1 else 0) ≤ (if a + 1 < b + 1 then 1 else 0) := by
        by_cases hd : a + 1 < b
        · rw [if_pos hd, if_pos (by omega)]; exact Nat.le_refl 1
        · rw [if_neg hd]; exact Nat.zero_le _
      have m2 : (if a = 0 ∧ n - 1 < b then 1 else 0) ≤ (if a = 0 ∧ n - 1 < b + 1 then 1 else 0) := by
        by_cases hd : a = 0 ∧ n - 1 < b
        · rw [if_pos hd, if_pos (by omega)]; exact Nat.le_refl 1
        · rw [if_neg hd]; exact Nat.zero_le _
      omega
theorem outS_le {n : Nat} {Dm : Nat → Nat → Nat} (h : Adj n Dm) (hn : 1 ≤ n) : (outS n Dm n).1 ≤ n := by
  have h1 : ∀ a, a ≤ n - 1 → (outS n Dm a).1 ≤ a + 1 := by
    intro a
    induction a with
    | zero => intro _; show 0 ≤ 1; omega
    | succ a ih =>
      intro ha
      have i1 := ih (by omega)
      have i2 := inS_le h (a := a) (s := outS n Dm a) n (Nat.le_refl n)
      show (inS Dm a (outS n Dm a) n).1 ≤ _
      rw [if_pos (by omega)] at i2
      by_cases e : a = 0
      · subst e
        have e0 : (outS n Dm 0).1 = 0 := rfl
        rw [if_pos (by omega)] at i2
        omega
      · rw [if_neg (by omega)] at i2
        omega
  obtain ⟨k, rfl⟩ : ∃ k, n = k + 1 := ⟨n - 1, by omega⟩
  have i1 := h1 k (by omega)
  have i2 := inS_le h (a := k) (s := outS (k + 1) Dm k) (k + 1) (Nat.le_refl _)
  show (inS Dm k (outS (k + 1) Dm k) (k + 1)).1 ≤ _
  rw [if_neg (by omega)] at i2
  by_cases e : k = 0
  · subst e
    have e0 : (outS (0 + 1) Dm 0).1 = 0 := rfl
    rw [if_pos (by omega)] at i2
    omega
  · rw [if_neg (by omega)] at i2
    omega
/-- the class' list of pairs -/
def tnp (n : Nat) (Dm : Nat → Nat → Nat) (B a b : Nat) : Nat := clm Dm B a n ||| clm Dm B b n
def Lpr (n : Nat) (Dm : Nat → Nat → Nat) (B : Nat) (s : PS) (l g t : Nat → Int32) : Prop := ∀ i, i < s.1 → l i = nI (s.2.1 i) ∧ g i = nI (s.2.2 i) ∧ t i = nI (tnp n Dm B (s.2.1 i) (s.2.2 i))
theorem Lpr_p {n : Nat} {Dm : Nat → Nat → Nat} {B : Nat} {s : PS} {l g t : Nat → Int32} (h : Lpr n Dm B s l g t) (a b : Nat) : Lpr n Dm B (psh s a b) (upd l s.1 (nI a)) (upd g s.1 (nI b)) (upd t s.1 (nI (tnp n Dm B a b))) := by
  intro i hi
  by_cases e : i = s.1
  · have e1 : (psh s a b).2.1 i = a := if_pos e
    have e2 : (psh s a b).2.2 i = b := if_pos e
    rw [e1, e2, e]
    exact ⟨pk_us, pk_us, pk_us⟩
  · have e1 : (psh s a b).2.1 i = s.2.1 i := if_neg e
    have e2 : (psh s a b).2.2 i = s.2.2 i := if_neg e
    rw [e1, e2, pk_un e, pk_un e, pk_un e]
    have hi' : i < s.1 + 1 := hi
    exact h i (by omega)
theorem x_plist {n : Nat} {Dm : Nat → Nat → Nat} {B : Nat} {ap cl vl vg vt : Nat → Int32} (hD : Dok n Dm) (hA : Adj n Dm) (hF : Far n Dm ap) (hcl : ∀ j, j < n → cl j = nI (clm Dm B j n)) : ∃ l g t, f_X2_list (nI n) ap vl vg cl vt = some (nI (outS n Dm n).1, l, g, t) ∧ Lpr n Dm B (outS n Dm n) l g t := by
  have hn := hD.1
  have hc := outS_le hA hD.2.1
  have inner : ∀ (a : Nat) (l g t : Nat → Int32), a < n → Lpr n Dm B (outS n Dm a) l g t → ∃ l' g' t', f_X2_list_22 (nI n) ap cl (nI a) FU (nI (a + 1)) (nI (outS n Dm a).1) l g t = some (nI (outS n Dm (a + 1)).1, l', g', t') ∧ Lpr n Dm B (outS n Dm (a + 1)) l' g' t' := by
    intro a l g t ha hL
    obtain ⟨s', m, k1, k2⟩ := lp_inv (fun m b (z : Int32 × (Nat → Int32) × (Nat → Int32) × (Nat → Int32)) => f_X2_list_22 (nI n) ap cl (nI a) m (nI b) z.1 z.2.1 z.2.2.1 z.2.2.2) n (fun b z => a < b ∧ z.1 = nI (inS Dm a (outS n Dm a) b).1 ∧ Lpr n Dm B (inS Dm a (outS n Dm a) b) z.2.1 z.2.2.1 z.2.2.2) (fun m b z hb hI => by
      obtain ⟨i0, i1, i2⟩ := hI
      have h99 := hD.2.2.1 a b
      by_cases hp : Dm a b = 1
      · have hlt := (pl_at (n := n) ha i0 hb hp).1
        refine ⟨(nI ((inS Dm a (outS n Dm a) b).1 + 1), upd z.2.1 (inS Dm a (outS n Dm a) b).1 (nI a), upd z.2.2.1 (inS Dm a (outS n Dm a) b).1 (nI b), upd z.2.2.2 (inS Dm a (outS n Dm a) b).1 (nI (tnp n Dm B a b))), ⟨by omega, ?_, ?_⟩, ?_⟩
        · rw [inS_y i0 hp]; rfl
        · rw [inS_y i0 hp]; exact Lpr_p i2 a b
        · try dsimp only
          rw [f_X2_list_22_s, if_neg (ng_le (by omega) (by omega) hb), x_farness hn hF ha hb, Option.bind_some, hp, if_pos (show nI 1 = 1 from rfl), i1, if_neg (show ¬ (12 : Int32) ≤ _ from ng_le (a := 12) (by omega) (by omega) (by omega)), nu_set _ _ (show (inS Dm a (outS n Dm a) b).1 < 12 by omega) (by omega), Option.bind_some, nu_set _ _ (show (inS Dm a (outS n Dm a) b).1 < 12 by omega) (by omega), Option.bind_some, nu_get _ (show a < 12 by omega) (by omega), Option.bind_some, nu_get _ (show b < 12 by omega) (by omega), Option.bind_some, hcl a ha, hcl b hb, fa_or, nu_set _ _ (show (inS Dm a (outS n Dm a) b).1 < 12 by omega) (by omega), Option.bind_some, Option.bind_some, nI_1, nI_1]
          rfl
      · refine ⟨z, ⟨by omega, ?_, ?_⟩, ?_⟩
        · rw [inS_n (fun e => hp e.2)]; exact i1
        · rw [inS_n (fun e => hp e.2)]; exact i2
        · try dsimp only
          rw [f_X2_list_22_s, if_neg (ng_le (by omega) (by omega) hb), x_farness hn hF ha hb, Option.bind_some, if_neg (show ¬ nI (Dm a b) = 1 from fun e => hp ((nI_eq (b := 1) (by omega) (by omega)).mp e)), Option.bind_some, nI_1]) FU (a + 1) (nI (outS n Dm a).1, l, g, t) (by omega) (by rw [FU_eq]; omega) ⟨by omega, by rw [inS_lo _ (Nat.le_refl _)], by rw [inS_lo _ (Nat.le_refl _)]; exact hL⟩
    refine ⟨s'.2.1, s'.2.2.1, s'.2.2.2, ?_, k1.2.2⟩
    have k2' : f_X2_list_22 (nI n) ap cl (nI a) FU (nI (a + 1)) (nI (outS n Dm a).1) l g t = _ := k2
    rw [k2', f_X2_list_22_s, if_pos (ps_le (by omega) (by omega) (Nat.le_refl _)), k1.2.1]
    rfl
  obtain ⟨s', m, k1, k2⟩ := lp_inv (fun m a (z : Int32 × (Nat → Int32) × (Nat → Int32) × (Nat → Int32)) => f_X2_list_7 (nI n) ap cl m (nI a) z.1 z.2.1 z.2.2.1 z.2.2.2) n (fun a z => z.1 = nI (outS n Dm a).1 ∧ Lpr n Dm B (outS n Dm a) z.2.1 z.2.2.1 z.2.2.2) (fun m a z ha hI => by
    obtain ⟨i1, i2⟩ := hI
    obtain ⟨l', g', t', q1, q2⟩ := inner a z.2.1 z.2.2.1 z.2.2.2 ha i2
    refine ⟨(nI (outS n Dm (a + 1)).1, l', g', t'), ⟨rfl, q2⟩, ?_⟩
    try dsimp only
    rw [f_X2_list_7_s, if_neg (ng_le (by omega) (by omega) ha), nI_1, i1, q1, Option.bind_some]) FU 0 (0, vl, vg, vt) (Nat.zero_le _) (by rw [FU_eq]; omega) ⟨rfl, fun i hi => absurd hi (Nat.not_lt_zero _)⟩
  refine ⟨s'.2.1, s'.2.2.1, s'.2.2.2, ?_, k1.2⟩
  have k2' : f_X2_list_7 (nI n) ap cl FU 0 0 vl vg vt = _ := k2
  unfold f_X2_list
  rw [k2', f_X2_list_7_s, if_pos (ps_le (by omega) (by omega) (Nat.le_refl _)), Option.bind_some, k1.1]
/-- the reference's -/
def bop (s : PS) (i : Nat) : Nat := 2 ^ s.2.1 i ||| 2 ^ s.2.2 i
def Mpr (s : PS) (p : Nat → Int32) : Prop := ∀ i, i < s.1 → p i = nI (bop s i)
theorem Mpr_p {s : PS} {p : Nat → Int32} (h : Mpr s p) (a b : Nat) : Mpr (psh s a b) (upd p s.1 (nI (2 ^ a ||| 2 ^ b))) := by
  intro i hi
  unfold bop
  by_cases e : i = s.1
  · have e1 : (psh s a b).2.1 i = a := if_pos e
    have e2 : (psh s a b).2.2 i = b := if_pos e
    rw [e1, e2, e]
    exact pk_us
  · have e1 : (psh s a b).2.1 i = s.2.1 i := if_neg e
    have e2 : (psh s a b).2.2 i = s.2.2 i := if_neg e
    rw [e1, e2, pk_un e]
    have hi' : i < s.1 + 1 := hi
    exact h i (by omega)
theorem m_plist {n : Nat} {Dm : Nat → Nat → Nat} {f vp : Nat → Int32} (hD : Dok n Dm) (hA : Adj n Dm) (hF : FarM n Dm f) : ∃ p, f_X11_mostPairs_4 (nI n) f FU 0 0 vp = some (nI (outS n Dm n).1, p) ∧ Mpr (outS n Dm n) p := by
  have hn := hD.1
  have hc := outS_le hA hD.2.1
  have inner : ∀ (a : Nat) (p : Nat → Int32), a < n → Mpr (outS n Dm a) p → ∃ p', f_X11_mostPairs_16 (nI n) f (nI a) FU (nI (outS n Dm a).1) (nI (a + 1)) p = some (nI (outS n Dm (a + 1)).1, p') ∧ Mpr (outS n Dm (a + 1)) p' := by
    intro a p ha hL
    obtain ⟨s', m, k1, k2⟩ := lp_inv (fun m b (z : Int32 × (Nat → Int32)) => f_X11_mostPairs_16 (nI n) f (nI a) m z.1 (nI b) z.2) n (fun b z => a < b ∧ z.1 = nI (inS Dm a (outS n Dm a) b).1 ∧ Mpr (inS Dm a (outS n Dm a) b) z.2) (fun m b z hb hI => by
      obtain ⟨i0, i1, i2⟩ := hI
      have h99 := hD.2.2.1 a b
      by_cases hp : Dm a b = 1
      · have hlt := (pl_at (n := n) ha i0 hb hp).1
        refine ⟨(nI ((inS Dm a (outS n Dm a) b).1 + 1), upd z.2 (inS Dm a (outS n Dm a) b).1 (nI (2 ^ a ||| 2 ^ b))), ⟨by omega, ?_, ?_⟩, ?_⟩
        · rw [inS_y i0 hp]; rfl
        · rw [inS_y i0 hp]; exact Mpr_p i2 a b
        · try dsimp only
          rw [f_X11_mostPairs_16_s, if_neg (ng_le (by omega) (by omega) hb), m_at, Option.bind_some, nu_get _ (show 12 * a + b < 144 by omega) (by omega), Option.bind_some, hF a b ha hb, hp, if_pos (show nI 1 = 1 from rfl), i1, nu_shl (by omega), nu_shl (by omega), fa_or, nu_set _ _ (show (inS Dm a (outS n Dm a) b).1 < 66 by omega) (by omega), Option.bind_some, Option.bind_some, nI_1, nI_1]
      · refine ⟨z, ⟨by omega, ?_, ?_⟩, ?_⟩
        · rw [inS_n (fun e => hp e.2)]; exact i1
        · rw [inS_n (fun e => hp e.2)]; exact i2
        · try dsimp only
          rw [f_X11_mostPairs_16_s, if_neg (ng_le (by omega) (by omega) hb), m_at, Option.bind_some, nu_get _ (show 12 * a + b < 144 by omega) (by omega), Option.bind_some, hF a b ha hb, if_neg (show ¬ nI (Dm a b) = 1 from fun e => hp ((nI_eq (b := 1) (by omega) (by omega)).mp e)), Option.bind_some, nI_1]) FU (a + 1) (nI (outS n Dm a).1, p) (by omega) (by rw [FU_eq]; omega) ⟨by omega, by rw [inS_lo _ (Nat.le_refl _)], by rw [inS_lo _ (Nat.le_refl _)]; exact hL⟩
    refine ⟨s'.2, ?_, k1.2.2⟩
    have k2' : f_X11_mostPairs_16 (nI n) f (nI a) FU (nI (outS n Dm a).1) (nI (a + 1)) p = _ := k2
    rw [k2', f_X11_mostPairs_16_s, if_pos (ps_le (by omega) (by omega) (Nat.le_refl _)), k1.2.1]
    rfl
  obtain ⟨s', m, k1, k2⟩ := lp_inv (fun m a (z : Int32 × (Nat → Int32)) => f_X11_mostPairs_4 (nI n) f m z.1 (nI a) z.2) n (fun a z => z.1 = nI (outS n Dm a).1 ∧ Mpr (outS n Dm a) z.2) (fun m a z ha hI => by
    obtain ⟨i1, i2⟩ := hI
    obtain ⟨p', q1, q2⟩ := inner a z.2 ha i2
    refine ⟨(nI (outS n Dm (a + 1)).1, p'), ⟨rfl, q2⟩, ?_⟩
    try dsimp only
    rw [f_X11_mostPairs_4_s, if_neg (ng_le (by omega) (by omega) ha), nI_1, i1, q1, Option.bind_some]) FU 0 (0, vp) (Nat.zero_le _) (by rw [FU_eq]; omega) ⟨rfl, fun i hi => absurd hi (Nat.not_lt_zero _)⟩
  refine ⟨s'.2, ?_, k1.2⟩
  have k2' : f_X11_mostPairs_4 (nI n) f FU 0 0 vp = _ := k2
  rw [k2', f_X11_mostPairs_4_s, if_pos (ps_le (by omega) (by omega) (Nat.le_refl _)), k1.1]
/-- two by two, in turn -/
def avl (n : Nat) (Dm : Nat → Nat → Nat) (B S a b : Nat) : Bool := decide (B ≤ aw Dm S a n) && decide (B ≤ aw Dm S b n)
def pT (n : Nat) (Dm : Nat → Nat → Nat) (B : Nat) (s : PS) : Nat → Nat × Nat
  | 0 => (0, 0)
  | i + 1 => if avl n Dm B (pT n Dm B s i).1 (s.2.1 i) (s.2.2 i) then ((pT n Dm B s i).1 ||| 2 ^ s.2.1 i ||| 2 ^ s.2.2 i, (pT n Dm B s i).2 + 1) else pT n Dm B s i
theorem pT_y {n : Nat} {Dm : Nat → Nat → Nat} {B : Nat} {s : PS} {i : Nat} (h : avl n Dm B (pT n Dm B s i).1 (s.2.1 i) (s.2.2 i) = true) : pT n Dm B s (i + 1) = ((pT n Dm B s i).1 ||| 2 ^ s.2.1 i ||| 2 ^ s.2.2 i, (pT n Dm B s i).2 + 1) := by
  show (if avl n Dm B (pT n Dm B s i).1 (s.2.1 i) (s.2.2 i) then _ else _) = _
  rw [if_pos h]
theorem pT_n {n : Nat} {Dm : Nat → Nat → Nat} {B : Nat} {s : PS} {i : Nat} (h : avl n Dm B (pT n Dm B s i).1 (s.2.1 i) (s.2.2 i) = false) : pT n Dm B s (i + 1) = pT n Dm B s i := by
  show (if avl n Dm B (pT n Dm B s i).1 (s.2.1 i) (s.2.2 i) then _ else _) = _
  rw [if_neg (by rw [h]; decide)]
theorem x_turn {n : Nat} {Dm : Nat → Nat → Nat} {B : Nat} {ap l g t vn : Nat → Int32} (hD : Dok n Dm) (hA : Adj n Dm) (hF : Far n Dm ap) (hB : B ≤ 99) (hL : Lpr n Dm B (outS n Dm n) l g t) : ∃ S f, f_X2_sitInTurn (nI n) (nI B) vn (nI (outS n Dm n).1) l g ap = some (nI (pT n Dm B (outS n Dm n) (outS n Dm n).1).2, S, nI B, f) := by
  have hn := hD.1
  have hc := outS_le hA hD.2.1
  have hP := PL_out n Dm n
  have hl : f_X2_sitInTurn_8 (nI n) (nI (outS n Dm n).1) l g ap (0, nI B, NF n Dm (fun j => if j < 12 then 99 else vn j) 0) FU 0 0 0 (NF n Dm (fun j => if j < 12 then 99 else vn j) 0) = some (nI (pT n Dm B (outS n Dm n) (outS n Dm n).1).2, nI (pT n Dm B (outS n Dm n) (outS n Dm n).1).1, NF n Dm (fun j => if j < 12 then 99 else vn j) (pT n Dm B (outS n Dm n) (outS n Dm n).1).1) := by
    refine lp_at3 (fun m i x y z => f_X2_sitInTurn_8 (nI n) (nI (outS n Dm n).1) l g ap (0, nI B, NF n Dm (fun j => if j < 12 then 99 else vn j) 0) m x (nI i) y z) (outS n Dm n).1 (fun i => nI (pT n Dm B (outS n Dm n) i).2) (fun i => nI (pT n Dm B (outS n Dm n) i).1) (fun i => NF n Dm (fun j => if j < 12 then 99 else vn j) (pT n Dm B (outS n Dm n) i).1) rfl rfl rfl (by omega) ?_ ?_
    · intro m
      rw [f_X2_sitInTurn_8_s, if_pos (ps_le (by omega) (by omega) (Nat.le_refl _))]
    · intro m i hi
      obtain ⟨l1, l2, l3⟩ := hL i hi
      obtain ⟨p1, p2, p3⟩ := hP i hi
      rw [f_X2_sitInTurn_8_s, if_neg (ng_le (by omega) (by omega) hi), nu_get _ (show i < 12 by omega) (by omega), Option.bind_some, l1]
      dsimp only
      rw [x_isOpen hn (by omega) (NF_nea n Dm _ _) (by omega), Option.bind_some, nI_1]
      by_cases h1 : B ≤ aw Dm (pT n Dm B (outS n Dm n) i).1 ((outS n Dm n).2.1 i) n
      · rw [if_pos h1, if_neg (show ¬ (1 : Int32) = 0 by decide), nu_get _ (show i < 12 by omega) (by omega), Option.bind_some, l2, x_isOpen hn (by omega) (NF_nea n Dm _ _) (by omega), Option.bind_some]
        by_cases h2 : B ≤ aw Dm (pT n Dm B (outS n Dm n) i).1 ((outS n Dm n).2.2 i) n
        · have ha : avl n Dm B (pT n Dm B (outS n Dm n) i).1 ((outS n Dm n).2.1 i) ((outS n Dm n).2.2 i) = true := by
            unfold avl
            rw [decide_eq_true h1, decide_eq_true h2]; rfl
          rw [if_pos h2, if_neg (show ¬ (1 : Int32) = 0 by decide), Option.bind_some, x_sitN hD hF (by omega), Option.bind_some, Option.bind_some]
          dsimp only
          rw [x_sitN hD hF (by omega), Option.bind_some, Option.bind_some, nI_1, pT_y ha]
        · have ha : avl n Dm B (pT n Dm B (outS n Dm n) i).1 ((outS n Dm n).2.1 i) ((outS n Dm n).2.2 i) = false := by
            unfold avl
            rw [decide_eq_true h1, decide_eq_false h2]; rfl
          rw [if_neg h2, if_pos (show (0 : Int32) = 0 from rfl), Option.bind_some, pT_n ha, nI_1]
      · have ha : avl n Dm B (pT n Dm B (outS n Dm n) i).1 ((outS n Dm n).2.1 i) ((outS n Dm n).2.2 i) = false := by
          unfold avl
          rw [decide_eq_false h1]; rfl
        rw [if_neg h1, if_pos (show (0 : Int32) = 0 from rfl), Option.bind_some, pT_n ha, nI_1]
  refine ⟨nI (pT n Dm B (outS n Dm n) (outS n Dm n).1).1, NF n Dm (fun j => if j < 12 then 99 else vn j) (pT n Dm B (outS n Dm n) (outS n Dm n).1).1, ?_⟩
  unfold f_X2_sitInTurn
  rw [x_leaveN hD, Option.bind_some]
  dsimp only
  rw [hl, Option.bind_some]
theorem m_isPair {n : Nat} {Dm : Nat → Nat → Nat} {B S a b : Nat} {f : Nat → Int32} (hD : Dok n Dm) (hF : FarM n Dm f) (hB : B ≤ 99) (ha : a < n) (hb : b < n) (hS : S < 2 ^ 31) : f_X11_isPair (nI n) (nI B) f (nI a) (nI b) (nI S) = some (b32 (decide (Dm a b = 1) && avl n Dm B S a b)) := by
  have hn := hD.1
  have h99 := hD.2.2.1 a b
  have w1 := aw_le Dm S a n
  have w2 := aw_le Dm S b n
  unfold f_X11_isPair avl
  rw [m_at, Option.bind_some, nu_get _ (show 12 * a + b < 144 by omega) (by omega), Option.bind_some, hF a b ha hb]
  by_cases hp : Dm a b = 1
  · rw [if_pos (show nI (Dm a b) = 1 by rw [hp]; rfl), m_away hD hF ha hS, Option.bind_some, m_away hD hF hb hS, Option.bind_some, decide_eq_true hp]
    by_cases h1 : B ≤ aw Dm S a n
    · rw [if_neg (fun e => by have := (nI_ltI (by omega) (by omega)).mp e; omega), decide_eq_true h1]
      by_cases h2 : B ≤ aw Dm S b n
      · rw [if_neg (fun e => by have := (nI_ltI (by omega) (by omega)).mp e; omega), decide_eq_true h2]; rfl
      · rw [if_pos ((nI_ltI (by omega) (by omega)).mpr (by omega)), decide_eq_false h2]; rfl
    · rw [if_pos ((nI_ltI (by omega) (by omega)).mpr (by omega)), decide_eq_false h1]; rfl
  · rw [if_neg (show ¬ nI (Dm a b) = 1 from fun e => hp ((nI_eq (b := 1) (by omega) (by omega)).mp e)), decide_eq_false hp]; rfl
/-- one look for two seats -/
theorem m_scan34 {n : Nat} {Dm : Nat → Nat → Nat} {B S k i0 a : Nat} {f : Nat → Int32} (hD : Dok n Dm) (hF : FarM n Dm f) (hB : B ≤ 99) (hS : S < 2 ^ 31) (ha : a < n) (h0 : ∀ j, j < i0 → j < (outS n Dm n).1 → avl n Dm B S ((outS n Dm n).2.1 j) ((outS n Dm n).2.2 j) = false) (h1 : i0 < (outS n Dm n).1 → avl n Dm B S ((outS n Dm n).2.1 i0) ((outS n Dm n).2.2 i0) = true) : ∀ m b, a < b → b ≤ n → n < b + m → (inS Dm a (outS n Dm a) b).1 ≤ i0 → f_X11_pairsInTurn_34 (nI n) (nI B) f (nI a) m (nI S) (nI k) 0 (nI b) = some (if i0 < (inS Dm a (outS n Dm a) n).1 then (nI (S ||| 2 ^ (outS n Dm n).2.1 i0 ||| 2 ^ (outS n Dm n).2.2 i0), nI (k + 1), 1) else (nI S, nI k, 0)) := by
  have hn := hD.1
  intro m
  induction m with
  | zero => intro b h2 h3 h4; omega
  | succ m ih =>
    intro b hab hb hm hi
    rw [f_X11_pairsInTurn_34_s]
    by_cases e : b = n
    · subst e
      rw [if_pos (ps_le (by omega) (by omega) (Nat.le_refl _)), if_neg (by omega)]
    · have hbn : b < n := by omega
      rw [if_neg (ng_le (by omega) (by omega) hbn), if_pos rfl, m_isPair hD hF hB ha hbn hS, Option.bind_some]
      by_cases hp : Dm a b = 1
      · obtain ⟨q1, q2, q3⟩ := pl_at (n := n) ha hab hbn hp
        by_cases ei : (inS Dm a (outS n Dm a) b).1 = i0
        · have hav := h1 (by omega)
          rw [ei] at q2 q3
          rw [q2, q3] at hav
          have hgo := (Gon_i (Dm := Dm) (a := a) (s := outS n Dm a) (b := b + 1) (n - (b + 1))).1
          rw [show b + 1 + (n - (b + 1)) = n by omega, inS_y hab hp] at hgo
          have hgo' : (inS Dm a (outS n Dm a) b).1 + 1 ≤ (inS Dm a (outS n Dm a) n).1 := hgo
          rw [hav, decide_eq_true hp, if_neg (show ¬ b32 (true && true) = 0 by decide), Option.bind_some, nu_shl (by omega), nu_shl (by omega), fa_or, fa_or, nI_1, nI_1, if_pos (by omega), q2, q3, Nat.or_assoc]
          obtain ⟨m', rfl⟩ : ∃ m', m = m' + 1 := ⟨m - 1, by omega⟩
          rw [f_X11_pairsInTurn_34_s]
          dsimp only
          rw [if_neg (show ¬ (1 : Int32) = 0 by decide)]
          split <;> rfl
        · have hav := h0 _ (show (inS Dm a (outS n Dm a) b).1 < i0 by omega) q1
          rw [q2, q3] at hav
          rw [hav, Bool.and_false, if_pos (show b32 false = 0 from rfl), Option.bind_some, nI_1]
          refine ih (b + 1) (by omega) (by omega) (by omega) ?_
          rw [inS_y hab hp]
          show (inS Dm a (outS n Dm a) b).1 + 1 ≤ i0
          omega
      · rw [decide_eq_false hp, Bool.false_and, if_pos (show b32 false = 0 from rfl), Option.bind_some, nI_1]
        refine ih (b + 1) (by omega) (by omega) (by omega) ?_
        rw [inS_n (fun e => hp e.2)]
        exact hi
theorem m_scan15 {n : Nat} {Dm : Nat → Nat → Nat} {B S k i0 : Nat} {f : Nat → Int32} (hD : Dok n Dm) (hF : FarM n Dm f) (hB : B ≤ 99) (hS : S < 2 ^ 31) (h0 : ∀ j, j < i0 → j < (outS n Dm n).1 → avl n Dm B S ((outS n Dm n).2.1 j) ((outS n Dm n).2.2 j) = false) (h1 : i0 < (outS n Dm n).1 → avl n Dm B S ((outS n Dm n).2.1 i0) ((outS n Dm n).2.2 i0) = true) : ∀ m a, a ≤ n → n < a + m → (outS n Dm a).1 ≤ i0 → f_X11_pairsInTurn_15 (nI n) (nI B) f m (nI S) (nI k) 0 (nI a) = some (if i0 < (outS n Dm n).1 then (nI (S ||| 2 ^ (outS n Dm n).2.1 i0 ||| 2 ^ (outS n Dm n).2.2 i0), nI (k + 1), 1) else (nI S, nI k, 0)) := by
  have hn := hD.1
  intro m
  induction m with
  | zero => intro a h2 h3; omega
  | succ m ih =>
    intro a ha hm hi
    rw [f_X11_pairsInTurn_15_s]
    by_cases e : a = n
    · subst e
      rw [if_pos (ps_le (by omega) (by omega) (Nat.le_refl _)), if_neg (by omega)]
    · rw [if_neg (ng_le (by omega) (by omega) (by omega)), if_pos rfl, nI_1, m_scan34 hD hF hB hS (by omega) h0 h1 FU (a + 1) (by omega) (by omega) (by rw [FU_eq]; omega) (by rw [inS_lo _ (Nat.le_refl _)]; exact hi), Option.bind_some]
      have hgo := (Gon_o (n := n) (Dm := Dm) (a := a + 1) (n - (a + 1))).1
      rw [show a + 1 + (n - (a + 1)) = n by omega] at hgo
      by_cases hc : i0 < (outS n Dm (a + 1)).1
      · rw [if_pos (show i0 < (inS Dm a (outS n Dm a) n).1 from hc), if_pos (show i0 < (outS n Dm n).1 by omega)]
        obtain ⟨m', rfl⟩ : ∃ m', m = m' + 1 := ⟨m - 1, by omega⟩
        rw [f_X11_pairsInTurn_15_s]
        dsimp only
        rw [if_neg (show ¬ (1 : Int32) = 0 by decide)]
        split <;> rfl
      · rw [if_neg (show ¬ i0 < (inS Dm a (outS n Dm a) n).1 from hc)]
        exact ih (a + 1) (by omega) (by omega) (by omega)
theorem avl_mono {n : Nat} {Dm : Nat → Nat → Nat} {B S x a b : Nat} (h : avl n Dm B S a b = false) : avl n Dm B (S ||| 2 ^ x) a b = false := by
  unfold avl at h ⊢
  rw [Bool.and_eq_false_iff, decide_eq_false_iff_not, decide_eq_false_iff_not] at h ⊢
  rw [aw_or, aw_or]
  rcases h with h | h
  · left; split <;> omega
  · right; split <;> omega
theorem m_turn6 {n : Nat} {Dm : Nat → Nat → Nat} {B : Nat} {f : Nat → Int32} (hD : Dok n Dm) (hA : Adj n Dm) (hF : FarM n Dm f) (hB1 : 1 ≤ B) (hB : B ≤ 99) : ∀ d i m, i + d = (outS n Dm n).1 → d + 1 < m → (pT n Dm B (outS n Dm n) i).1 < 2 ^ n → (∀ j, j < i → j < (outS n Dm n).1 → avl n Dm B (pT n Dm B (outS n Dm n) i).1 ((outS n Dm n).2.1 j) ((outS n Dm n).2.2 j) = false) → f_X11_pairsInTurn_6 (nI n) (nI B) f m (nI (pT n Dm B (outS n Dm n) i).1) (nI (pT n Dm B (outS n Dm n) i).2) 1 = some (nI (pT n Dm B (outS n Dm n) (outS n Dm n).1).2) := by
  have hn := hD.1
  have hp12 : 2 ^ n ≤ 2 ^ 12 := Nat.pow_le_pow_right (by omega) hn
  have hP := PL_out n Dm n
  intro d
  induction d with
  | zero =>
    intro i m hd hm hS h0
    obtain ⟨m', rfl⟩ : ∃ m', m = m' + 1 := ⟨m - 1, by omega⟩
    obtain ⟨m'', rfl⟩ : ∃ m'', m' = m'' + 1 := ⟨m' - 1, by omega⟩
    have hsc := m_scan15 (k := (pT n Dm B (outS n Dm n) i).2) hD hF hB (show (pT n Dm B (outS n Dm n) i).1 < 2 ^ 31 by omega) h0 (fun h => by omega) FU 0 (Nat.zero_le _) (by rw [FU_eq]; omega) (Nat.zero_le _)
    rw [if_neg (by omega)] at hsc
    rw [f_X11_pairsInTurn_6_s, if_neg (show ¬ (1 : Int32) = 0 by decide), show f_X11_pairsInTurn_15 (nI n) (nI B) f FU (nI (pT n Dm B (outS n Dm n) i).1) (nI (pT n Dm B (outS n Dm n) i).2) 0 0 = _ from hsc, Option.bind_some, f_X11_pairsInTurn_6_s, if_pos rfl, ← hd]
    rfl
  | succ d ih =>
    intro i m hd hm hS h0
    obtain ⟨p1, p2, p3⟩ := hP i (by omega)
    cases hav : avl n Dm B (pT n Dm B (outS n Dm n) i).1 ((outS n Dm n).2.1 i) ((outS n Dm n).2.2 i) with
    | false =>
      have h := ih (i + 1) m (by omega) (by omega) (by rw [pT_n hav]; exact hS) (by
        rw [pT_n hav]
        intro j h1 h2
        by_cases e : j = i
        · subst e; exact hav
        · exact h0 j (by omega) h2)
      rw [pT_n hav] at h
      exact h
    | true =>
      obtain ⟨m', rfl⟩ : ∃ m', m = m' + 1 := ⟨m - 1, by omega⟩
      have hsc := m_scan15 (k := (pT n Dm B (outS n Dm n) i).2) hD hF hB (show (pT n Dm B (outS n Dm n) i).1 < 2 ^ 31 by omega) h0 (fun _ => hav) FU 0 (Nat.zero_le _) (by rw [FU_eq]; omega) (Nat.zero_le _)
      rw [if_pos (by omega)] at hsc
      rw [f_X11_pairsInTurn_6_s, if_neg (show ¬ (1 : Int32) = 0 by decide), show f_X11_pairsInTurn_15 (nI n) (nI B) f FU (nI (pT n Dm B (outS n Dm n) i).1) (nI (pT n Dm B (outS n Dm n) i).2) 0 0 = _ from hsc, Option.bind_some]
      dsimp only
      have hlt : (pT n Dm B (outS n Dm n) i).1 ||| 2 ^ (outS n Dm n).2.1 i ||| 2 ^ (outS n Dm n).2.2 i < 2 ^ n := Nat.or_lt_two_pow (Nat.or_lt_two_pow hS (Nat.pow_lt_pow_right (by omega) (by omega))) (Nat.pow_lt_pow_right (by omega) p2)
      have h := ih (i + 1) m' (by omega) (by omega) (by rw [pT_y hav]; exact hlt) (by
        rw [pT_y hav]
        intro j h1 h2
        by_cases e : j = i
        · subst e
          unfold avl
          rw [aw_self hD (show (outS n Dm n).2.1 j < n by omega) (by rw [Nat.testBit_or, Nat.testBit_or, Nat.testBit_two_pow]; simp), decide_eq_false (by omega), Bool.false_and]
        · exact avl_mono (avl_mono (h0 j (by omega) h2)))
      rw [pT_y hav] at h
      exact h
theorem m_pturn {n : Nat} {Dm : Nat → Nat → Nat} {B : Nat} {f : Nat → Int32} (hD : Dok n Dm) (hA : Adj n Dm) (hF : FarM n Dm f) (hB1 : 1 ≤ B) (hB : B ≤ 99) : f_X11_pairsInTurn (nI n) (nI B) f = some (nI (pT n Dm B (outS n Dm n) (outS n Dm n).1).2) := by
  have hc := outS_le hA hD.2.1
  have hn := hD.1
  have hpos : 0 < 2 ^ n := Nat.pos_of_ne_zero (by simp [Nat.pow_eq_zero])
  have h := m_turn6 hD hA hF hB1 hB (outS n Dm n).1 0 FU (by omega) (by rw [FU_eq]; omega) hpos (fun j hj => by omega)
  unfold f_X11_pairsInTurn
  rw [show f_X11_pairsInTurn_6 (nI n) (nI B) f FU 0 0 1 = _ from h, Option.bind_some]
end PR1
