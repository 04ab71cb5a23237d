/-! the list of filled sets -/
section LS1
def andn (a c : Nat) : Nat := a &&& (a ^^^ c)
theorem andn_bit (a c t : Nat) : (andn a c).testBit t = (a.testBit t && !c.testBit t) := by
  unfold andn
  rw [Nat.testBit_and, Nat.testBit_xor]
  cases a.testBit t <;> cases c.testBit t <;> rfl
theorem fa_xor (a b : Nat) : nI a ^^^ nI b = nI (a ^^^ b) := by
  apply Int32.toBitVec_inj.1
  show BitVec.ofNat 32 a ^^^ BitVec.ofNat 32 b = BitVec.ofNat 32 (a ^^^ b)
  apply BitVec.eq_of_getLsbD_eq
  intro i hi
  simp [hi]
theorem nu_andn (a c : Nat) : nI a &&& (nI c ^^^ (-1)) = nI (andn a c) := by
  unfold andn
  rw [← fa_and, ← fa_xor]
  apply Int32.toBitVec_inj.1
  show (nI a).toBitVec &&& ((nI c).toBitVec ^^^ (-1 : Int32).toBitVec) = (nI a).toBitVec &&& ((nI a).toBitVec ^^^ (nI c).toBitVec)
  have : (-1 : Int32).toBitVec = BitVec.allOnes 32 := by decide
  rw [this]
  apply BitVec.eq_of_getLsbD_eq
  intro i hi
  rw [BitVec.getLsbD_and, BitVec.getLsbD_and, BitVec.getLsbD_xor, BitVec.getLsbD_xor, BitVec.getLsbD_allOnes]
  cases (nI a).toBitVec.getLsbD i <;> cases (nI c).toBitVec.getLsbD i <;> simp [hi]
theorem andn_lt {a c k : Nat} (h : a < 2 ^ k) : andn a c < 2 ^ k := Nat.lt_of_le_of_lt Nat.and_le_left h
/-- what is open to S, of O, by the clashes -/
def opn (cl : Nat → Nat) (O S : Nat) : Nat → Nat
  | 0 => O
  | k + 1 => if S.testBit k then andn (opn cl O S k) (cl k) else opn cl O S k
theorem opn_bit (cl : Nat → Nat) (O S t : Nat) : ∀ k, (opn cl O S k).testBit t = true ↔ O.testBit t = true ∧ ∀ s, s < k → S.testBit s = true → (cl s).testBit t = false := by
  intro k
  induction k with
  | zero => exact ⟨fun h => ⟨h, fun s hs => by omega⟩, fun h => h.1⟩
  | succ k ih =>
    unfold opn
    by_cases hb : S.testBit k = true
    · rw [if_pos hb, andn_bit, Bool.and_eq_true, ih]
      constructor
      · intro h
        refine ⟨h.1.1, fun s hs hsb => ?_⟩
        by_cases e : s = k
        · subst e; simpa using h.2
        · exact h.1.2 s (by omega) hsb
      · intro h
        exact ⟨⟨h.1, fun s hs => h.2 s (by omega)⟩, by simpa using h.2 k (by omega) hb⟩
    · rw [if_neg hb, ih]
      constructor
      · intro h
        refine ⟨h.1, fun s hs hsb => ?_⟩
        by_cases e : s = k
        · subst e; exact absurd hsb hb
        · exact h.2 s (by omega) hsb
      · intro h
        exact ⟨h.1, fun s hs => h.2 s (by omega)⟩
theorem opn_lt {cl : Nat → Nat} {O S m : Nat} (h : O < 2 ^ m) : ∀ k, opn cl O S k < 2 ^ m := by
  intro k
  induction k with
  | zero => exact h
  | succ k ih =>
    unfold opn
    by_cases hb : S.testBit k = true
    · rw [if_pos hb]; exact andn_lt ih
    · rw [if_neg hb]; exact ih
theorem opn_add {cl : Nat → Nat} {O S s k : Nat} (hs : s < k) : opn cl O (S ||| 2 ^ s) k = andn (opn cl O S k) (cl s) := by
  apply Nat.eq_of_testBit_eq
  intro t
  apply Bool.eq_iff_iff.mpr
  rw [andn_bit, Bool.and_eq_true, opn_bit, opn_bit]
  constructor
  · intro h
    refine ⟨⟨h.1, fun u hu hb => h.2 u hu (by rw [Nat.testBit_or, hb]; rfl)⟩, ?_⟩
    have := h.2 s hs (by rw [Nat.testBit_or, Nat.testBit_two_pow]; simp)
    simp [this]
  · intro h
    refine ⟨h.1.1, fun u hu hb => ?_⟩
    rw [Nat.testBit_or, Nat.testBit_two_pow, Bool.or_eq_true] at hb
    rcases hb with hb | hb
    · exact h.1.2 u hu hb
    · have : s = u := by simpa using hb
      subst this
      simpa using h.2
/-- S is filled, one by one from below -/
def gdn (cl : Nat → Nat) (O S : Nat) : Nat → Bool
  | 0 => true
  | t + 1 => gdn cl O S t && (!S.testBit t || (opn cl O (S % 2 ^ t) 12).testBit t)
theorem gdn_iff (cl : Nat → Nat) (O S : Nat) : ∀ k, gdn cl O S k = true ↔ ∀ t, t < k → S.testBit t = true → (opn cl O (S % 2 ^ t) 12).testBit t = true := by
  intro k
  induction k with
  | zero => exact ⟨fun _ t ht => by omega, fun _ => rfl⟩
  | succ k ih =>
    unfold gdn
    rw [Bool.and_eq_true, ih, Bool.or_eq_true]
    constructor
    · intro h t ht hb
      by_cases e : t = k
      · subst e
        rcases h.2 with h2 | h2
        · rw [hb] at h2; cases h2
        · exact h2
      · exact h.1 t (by omega) hb
    · intro h
      refine ⟨fun t ht => h t (by omega), ?_⟩
      cases hb : S.testBit k with
      | false => left; rfl
      | true => right; exact h k (by omega) hb
theorem gdn_0 (cl : Nat → Nat) (O : Nat) : gdn cl O 0 12 = true := (gdn_iff cl O 0 12).mpr (fun t _ h => by rw [Nat.zero_testBit] at h; cases h)
theorem tb_hi {S j t : Nat} (hS : S < 2 ^ j) (ht : j ≤ t) : S.testBit t = false := Nat.testBit_lt_two_pow (Nat.lt_of_lt_of_le hS (Nat.pow_le_pow_right (by omega) ht))
theorem gdn_top {cl : Nat → Nat} {O S j : Nat} (hS : S < 2 ^ j) (hj : j < 12) : gdn cl O (S ||| 2 ^ j) 12 = true ↔ gdn cl O S 12 = true ∧ (opn cl O S 12).testBit j = true := by
  have em : ∀ t, t ≤ j → (S ||| 2 ^ j) % 2 ^ t = S % 2 ^ t := by
    intro t ht
    apply Nat.eq_of_testBit_eq
    intro u
    rw [tb_mod, tb_mod, Nat.testBit_or, Nat.testBit_two_pow]
    by_cases h : u < t
    · have : ¬ j = u := by omega
      simp [this]
    · simp [h]
  rw [gdn_iff, gdn_iff]
  constructor
  · intro h
    constructor
    · intro t ht hb
      have hlt : t < j := Nat.lt_of_not_le (fun e => by rw [tb_hi hS e] at hb; cases hb)
      have := h t ht (by rw [Nat.testBit_or, hb]; rfl)
      rw [em t (by omega)] at this
      exact this
    · have := h j hj (by rw [Nat.testBit_or, Nat.testBit_two_pow]; simp)
      rw [em j (Nat.le_refl j), Nat.mod_eq_of_lt hS] at this
      exact this
  · intro ⟨h1, h2⟩ t ht hb
    rw [Nat.testBit_or, Nat.testBit_two_pow, Bool.or_eq_true] at hb
    by_cases e : t = j
    · subst e
      rw [em t (Nat.le_refl t), Nat.mod_eq_of_lt hS]
      exact h2
    · have hb' : S.testBit t = true := by
        rcases hb with hb | hb
        · exact hb
        · have : j = t := by simpa using hb
          omega
      have hlt : t < j := Nat.lt_of_not_le (fun e => by rw [tb_hi hS e] at hb'; cases hb')
      rw [em t (by omega)]
      exact h1 t ht hb'
theorem or_top {S j : Nat} (hS : S < 2 ^ j) : S ||| 2 ^ j = 2 ^ j + S := by
  rw [Nat.or_comm]
  have := Nat.two_pow_add_eq_or_of_lt hS 1
  rw [Nat.mul_one] at this
  exact this.symm
def gG (cl : Nat → Nat) (O S : Nat) : Bool := gdn cl O S 12
def oG (cl : Nat → Nat) (O S : Nat) : Nat := opn cl O S 12
theorem gG_0 (cl : Nat → Nat) (O : Nat) : gG cl O 0 = true := gdn_0 cl O
theorem oG_0 (cl : Nat → Nat) (O : Nat) : oG cl O 0 = O := by
  apply Nat.eq_of_testBit_eq
  intro t
  apply Bool.eq_iff_iff.mpr
  unfold oG
  rw [opn_bit]
  exact ⟨fun h => h.1, fun h => ⟨h, fun s _ hb => by rw [Nat.zero_testBit] at hb; cases hb⟩⟩
theorem oG_lt {cl : Nat → Nat} {O S m : Nat} (h : O < 2 ^ m) : oG cl O S < 2 ^ m := opn_lt h 12
theorem oG_add {cl : Nat → Nat} {O S s : Nat} (hs : s < 12) : oG cl O (S ||| 2 ^ s) = andn (oG cl O S) (cl s) := opn_add hs
theorem gG_top {cl : Nat → Nat} {O S j : Nat} (hS : S < 2 ^ j) (hj : j < 12) : gG cl O (S ||| 2 ^ j) = true ↔ gG cl O S = true ∧ (oG cl O S).testBit j = true := gdn_top hS hj
/-- counted -/
theorem fa_mono {p : Nat → Bool} {a : Nat} : ∀ b, a ≤ b → fa_cnt p a ≤ fa_cnt p b := by
  intro b
  induction b with
  | zero => intro h; rw [show a = 0 by omega]; exact Nat.le_refl _
  | succ b ih =>
    intro h
    by_cases e : a = b + 1
    · rw [e]; exact Nat.le_refl _
    · have := ih (by omega)
      show _ ≤ fa_cnt p b + _
      omega
theorem fa_less {p : Nat → Bool} {a b : Nat} (ha : p a = true) (h : a < b) : fa_cnt p a < fa_cnt p b := by
  have := fa_mono (p := p) (a := a + 1) b h
  rw [fa_cnt_yes ha] at this
  omega
/-- a loop over what is counted -/
theorem lp_cnt {σ τ : Type} (gd : Nat → Bool) (F : Nat → Nat → σ → Option τ) (E : Nat) (I : Nat → σ → Prop) (hs : ∀ n S s, S < E → gd S = true → I S s → ∃ s', I (S + 1) s' ∧ F (n + 1) (fa_cnt gd S) s = F n (fa_cnt gd S + 1) s') (hn : ∀ S s, S < E → gd S = false → I S s → I (S + 1) s) : ∀ S, S ≤ E → ∀ n s0, fa_cnt gd S < n → I 0 s0 → ∃ s' m, m + fa_cnt gd S = n ∧ I S s' ∧ F n 0 s0 = F m (fa_cnt gd S) s' := by
  intro S
  induction S with
  | zero => intro _ n s0 hn' h0; exact ⟨s0, n, rfl, h0, rfl⟩
  | succ S ih =>
    intro hS n s0 hlt h0
    cases hg : gd S with
    | false =>
      rw [fa_cnt_no hg] at hlt ⊢
      obtain ⟨s', m, e1, e2, e3⟩ := ih (by omega) n s0 hlt h0
      exact ⟨s', m, e1, hn S s' (by omega) hg e2, e3⟩
    | true =>
      rw [fa_cnt_yes hg] at hlt ⊢
      obtain ⟨s', m, e1, e2, e3⟩ := ih (by omega) n s0 (by omega) h0
      obtain ⟨m', rfl⟩ : ∃ m', m = m' + 1 := ⟨m - 1, by omega⟩
      obtain ⟨s'', f1, f2⟩ := hs m' S s' (by omega) hg e2
      exact ⟨s'', m', by omega, f1, by rw [e3, f2]⟩
/-- the list's rows hold the good sets below E, and what is open to each -/
def Lst (gd : Nat → Bool) (op : Nat → Nat) (E : Nat) (fl fo : Nat → Int32) : Prop := ∀ S, S < E → gd S = true → fl (fa_cnt gd S) = nI S ∧ fo (fa_cnt gd S) = nI (op S)
theorem x_list {cl : Nat → Nat} {O p : Nat} {fp v_filled v_open : Nat → Int32} (hp : p ≤ 12) (hO : O < 2 ^ 12) (hcl : ∀ i, i < p → fp i = nI (cl i)) : ∃ fl fo, f_X8_list v_filled v_open fp (nI p) (nI O) = some (nI (fa_cnt (gG cl O) (2 ^ p)), nI p, fl, fo) ∧ Lst (gG cl O) (oG cl O) (2 ^ p) fl fo := by
  have inner : ∀ (j : Nat) (fl fo : Nat → Int32), j < p → Lst (gG cl O) (oG cl O) (2 ^ j) fl fo → ∃ fl' fo', f_X8_list_42 fp (nI j) (nI (fa_cnt (gG cl O) (2 ^ j))) FU 0 (nI (fa_cnt (gG cl O) (2 ^ j))) fl fo = some (nI (fa_cnt (gG cl O) (2 ^ (j + 1))), fl', fo') ∧ Lst (gG cl O) (oG cl O) (2 ^ (j + 1)) fl' fo' := by
    intro j fl fo hj hL
    have hpj : 2 ^ (j + 1) ≤ 2 ^ 12 := Nat.pow_le_pow_right (by omega) (by omega)
    have h2 : 2 ^ (j + 1) = 2 ^ j + 2 ^ j := by rw [Nat.pow_succ]; omega
    have hc1 : ∀ x, fa_cnt (gG cl O) x ≤ x := fa_cnt_le _
    have hc12 := hc1 (2 ^ j)
    obtain ⟨s', m, e1, e2, e3⟩ := lp_cnt (gG cl O) (fun m i (z : Int32 × (Nat → Int32) × (Nat → Int32)) => f_X8_list_42 fp (nI j) (nI (fa_cnt (gG cl O) (2 ^ j))) m (nI i) z.1 z.2.1 z.2.2) (2 ^ j) (fun S z => z.1 = nI (fa_cnt (gG cl O) (2 ^ j + S)) ∧ Lst (gG cl O) (oG cl O) (2 ^ j + S) z.2.1 z.2.2)
      (fun m S z hS hg hI => by
        obtain ⟨i1, i2⟩ := hI
        obtain ⟨l1, l2⟩ := i2 S (by omega) hg
        have hless : fa_cnt (gG cl O) S < fa_cnt (gG cl O) (2 ^ j) := fa_less hg hS
        have hsz := hc1 (2 ^ j + S)
        have hop : oG cl O S < 2 ^ 12 := oG_lt hO
        have hnext : gG cl O (2 ^ j + S) = (oG cl O S).testBit j := by
          apply Bool.eq_iff_iff.mpr
          rw [← or_top hS, gG_top hS (by omega)]
          exact ⟨fun h => h.2, fun h => ⟨hg, h⟩⟩
        cases hb : (oG cl O S).testBit j with
        | false =>
          refine ⟨z, ⟨?_, ?_⟩, ?_⟩
          · rw [i1]
            show _ = nI (fa_cnt (gG cl O) (2 ^ j + S + 1))
            rw [fa_cnt_no (p := gG cl O) (n := 2 ^ j + S) (by rw [← hb]; exact hnext)]
          · intro S' hS' hg'
            by_cases e : S' = 2 ^ j + S
            · subst e
              rw [show gG cl O (2 ^ j + S) = false by rw [hnext, hb]] at hg'
              cases hg'
            · exact i2 S' (by omega) hg'
          · try dsimp only
            rw [f_X8_list_42_s, if_neg (ng_le (by omega) (by omega) hless), i1, if_neg (show ¬ (4096 : Int32) ≤ _ from ng_le (a := 4096) (by omega) (by omega) (by omega)), nu_get _ (show fa_cnt (gG cl O) S < 4096 by omega) (by omega), Option.bind_some, l2, if_pos ((nu_bit0 (by omega) (by omega)).mpr hb), Option.bind_some, nI_1]
        | true =>
          refine ⟨(nI (fa_cnt (gG cl O) (2 ^ j + S + 1)), upd z.2.1 (fa_cnt (gG cl O) (2 ^ j + S)) (nI (2 ^ j + S)), upd z.2.2 (fa_cnt (gG cl O) (2 ^ j + S)) (nI (oG cl O (2 ^ j + S)))), ⟨rfl, ?_⟩, ?_⟩
          · intro S' hS' hg'
            by_cases e : S' = 2 ^ j + S
            · subst e
              exact ⟨pk_us, pk_us⟩
            · have hlt : fa_cnt (gG cl O) S' < fa_cnt (gG cl O) (2 ^ j + S) := fa_less hg' (by omega)
              dsimp only
              rw [pk_un (by omega), pk_un (by omega)]
              exact i2 S' (by omega) hg'
          · try dsimp only
            rw [f_X8_list_42_s, if_neg (ng_le (by omega) (by omega) hless), i1, if_neg (show ¬ (4096 : Int32) ≤ _ from ng_le (a := 4096) (by omega) (by omega) (by omega)), nu_get _ (show fa_cnt (gG cl O) S < 4096 by omega) (by omega), Option.bind_some, l2, if_neg (fun e => by rw [(nu_bit0 (by omega) (by omega)).mp e] at hb; cases hb), nu_get _ (show fa_cnt (gG cl O) S < 4096 by omega) (by omega), Option.bind_some, l1, nu_or (by omega), nu_set _ _ (show fa_cnt (gG cl O) (2 ^ j + S) < 4096 by omega) (by omega), Option.bind_some, Option.bind_some, nu_get _ (show j < 12 by omega) (by omega), Option.bind_some, hcl j hj, nu_andn, nu_set _ _ (show fa_cnt (gG cl O) (2 ^ j + S) < 4096 by omega) (by omega), Option.bind_some, Option.bind_some, nI_1, nI_1, ← oG_add (show j < 12 by omega), or_top hS, fa_cnt_yes (p := gG cl O) (n := 2 ^ j + S) (by rw [← hb]; exact hnext)])
      (fun S z hS hg hI => by
        obtain ⟨i1, i2⟩ := hI
        have hnext : gG cl O (2 ^ j + S) = false := by
          cases hx : gG cl O (2 ^ j + S) with
          | false => rfl
          | true =>
            rw [← or_top hS, gG_top hS (by omega)] at hx
            rw [show gG cl O S = false from hg] at hx
            cases hx.1
        refine ⟨?_, ?_⟩
        · rw [i1]
          show _ = nI (fa_cnt (gG cl O) (2 ^ j + S + 1))
          rw [fa_cnt_no (p := gG cl O) (n := 2 ^ j + S) hnext]
        · intro S' hS' hg'
          by_cases e : S' = 2 ^ j + S
          · subst e
            rw [hnext] at hg'
            cases hg'
          · exact i2 S' (by omega) hg') (2 ^ j) (Nat.le_refl _) FU (nI (fa_cnt (gG cl O) (2 ^ j)), fl, fo) (by rw [FU_eq]; omega) ⟨rfl, hL⟩
    obtain ⟨m', rfl⟩ : ∃ m', m = m' + 1 := ⟨m - 1, by rw [FU_eq] at e1; omega⟩
    refine ⟨s'.2.1, s'.2.2, ?_, ?_⟩
    · have e3' : f_X8_list_42 fp (nI j) (nI (fa_cnt (gG cl O) (2 ^ j))) FU 0 (nI (fa_cnt (gG cl O) (2 ^ j))) fl fo = _ := e3
      rw [e3', f_X8_list_42_s, if_pos (ps_le (by omega) (by omega) (Nat.le_refl _)), e2.1, h2]
    · rw [h2]; exact e2.2
  obtain ⟨s', m, e1, e2⟩ := lp_inv (fun m i (z : Int32 × (Nat → Int32) × (Nat → Int32)) => f_X8_list_27 fp (nI p) m (nI i) z.1 z.2.1 z.2.2) p (fun j z => z.1 = nI (fa_cnt (gG cl O) (2 ^ j)) ∧ Lst (gG cl O) (oG cl O) (2 ^ j) z.2.1 z.2.2) (fun m j z hj hI => by
    obtain ⟨i1, i2⟩ := hI
    obtain ⟨fl', fo', k1, k2⟩ := inner j z.2.1 z.2.2 hj i2
    refine ⟨(nI (fa_cnt (gG cl O) (2 ^ (j + 1))), fl', fo'), ⟨rfl, k2⟩, ?_⟩
    rw [f_X8_list_27_s, if_neg (ng_le (by omega) (by omega) hj), i1, k1, Option.bind_some, nI_1]) FU 0 (nI 1, upd v_filled 0 0, upd v_open 0 (nI O)) (by omega) (by rw [FU_eq]; omega) (by
      refine ⟨?_, ?_⟩
      · show nI 1 = nI (fa_cnt (gG cl O) (0 + 1))
        rw [fa_cnt_yes (p := gG cl O) (n := 0) (gG_0 cl O)]
        rfl
      · intro S hS _
        have : S = 0 := by
          have : (2 : Nat) ^ 0 = 1 := rfl
          omega
        subst this
        show upd v_filled 0 0 0 = nI 0 ∧ upd v_open 0 (nI O) 0 = nI (oG cl O 0)
        rw [oG_0]
        exact ⟨pk_us, pk_us⟩)
  refine ⟨s'.2.1, s'.2.2, ?_, e1.2⟩
  have e2' : f_X8_list_27 fp (nI p) FU 0 1 (upd v_filled 0 0) (upd v_open 0 (nI O)) = _ := e2
  unfold f_X8_list
  rw [show asetI 4096 v_filled 0 0 = _ from nu_set v_filled 0 (show 0 < 4096 by omega) (by omega), Option.bind_some, show asetI 4096 v_open 0 (nI O) = _ from nu_set v_open (nI O) (show 0 < 4096 by omega) (by omega), Option.bind_some, e2', f_X8_list_27_s, if_pos (ps_le (by omega) (by omega) (Nat.le_refl p)), Option.bind_some, e1.1]
end LS1
