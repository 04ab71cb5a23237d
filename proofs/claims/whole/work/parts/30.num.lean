/-! NUMBERS: rows by Nat, bits, loops -/
section NU1
theorem nu_get {α : Type} {N j : Nat} (f : Nat → α) (h : j < N) (hN : N < 2 ^ 31) : aget N f (nI j) = some (f j) := by
  unfold aget
  rw [nI_clamp (by omega), if_pos ⟨nI_pos (by omega), h⟩]
theorem nu_set {N j : Nat} (f : Nat → Int32) (x : Int32) (h : j < N) (hN : N < 2 ^ 31) : asetI N f (nI j) x = some (upd f j x) := by
  unfold asetI
  rw [nI_clamp (by omega), if_pos ⟨nI_pos (by omega), h⟩]
theorem nu_setL {N j : Nat} (f : Nat → Int64) (x : Int64) (h : j < N) (hN : N < 2 ^ 31) : asetL N f (nI j) x = some (vp_updL f j x) := by
  unfold asetL
  rw [nI_clamp (by omega), if_pos ⟨nI_pos (by omega), h⟩]
/-- a loop whose state at i is P i: it ends at e with o -/
theorem lp_to {σ τ : Type} (F : Nat → Nat → σ → Option τ) (e : Nat) (P : Nat → σ) (o : τ) (hx : ∀ n, F (n + 1) e (P e) = some o) (hs : ∀ n i, i < e → F (n + 1) i (P i) = F n (i + 1) (P (i + 1))) : ∀ n i, i ≤ e → e < i + n → F n i (P i) = some o := by
  intro n
  induction n with
  | zero => intro i h1 h2; omega
  | succ n ih =>
    intro i h1 h2
    by_cases h : i = e
    · subst h; exact hx n
    · rw [hs n i (by omega)]
      exact ih (i + 1) (by omega) (by omega)
theorem FU_eq : FU = 5000 := rfl
theorem lp_at {σ τ : Type} (F : Nat → Nat → σ → Option τ) (e : Nat) (P : Nat → σ) {o : τ} {s0 : σ} (h0 : P 0 = s0) (he : e < 5000) (hx : ∀ n, F (n + 1) e (P e) = some o) (hs : ∀ n i, i < e → F (n + 1) i (P i) = F n (i + 1) (P (i + 1))) : F FU 0 s0 = some o := by
  rw [← h0]
  exact lp_to F e P o hx hs FU 0 (Nat.zero_le _) (by rw [FU_eq]; omega)
theorem lp_at2 {σ σ' τ : Type} (F : Nat → Nat → σ → σ' → Option τ) (e : Nat) (P : Nat → σ) (P' : Nat → σ') {o : τ} {s0 : σ} {s0' : σ'} (h0 : P 0 = s0) (h0' : P' 0 = s0') (he : e < 5000) (hx : ∀ n, F (n + 1) e (P e) (P' e) = some o) (hs : ∀ n i, i < e → F (n + 1) i (P i) (P' i) = F n (i + 1) (P (i + 1)) (P' (i + 1))) : F FU 0 s0 s0' = some o :=
  lp_at (fun n i (z : σ × σ') => F n i z.1 z.2) e (fun i => (P i, P' i)) (s0 := (s0, s0')) (by rw [h0, h0']) he hx hs
theorem lp_at3 {σ σ' σ'' τ : Type} (F : Nat → Nat → σ → σ' → σ'' → Option τ) (e : Nat) (P : Nat → σ) (P' : Nat → σ') (P'' : Nat → σ'') {o : τ} {s0 : σ} {s0' : σ'} {s0'' : σ''} (h0 : P 0 = s0) (h0' : P' 0 = s0') (h0'' : P'' 0 = s0'') (he : e < 5000) (hx : ∀ n, F (n + 1) e (P e) (P' e) (P'' e) = some o) (hs : ∀ n i, i < e → F (n + 1) i (P i) (P' i) (P'' i) = F n (i + 1) (P (i + 1)) (P' (i + 1)) (P'' (i + 1))) : F FU 0 s0 s0' s0'' = some o :=
  lp_at (fun n i (z : σ × σ' × σ'') => F n i z.1 z.2.1 z.2.2) e (fun i => (P i, P' i, P'' i)) (s0 := (s0, s0', s0'')) (by rw [h0, h0', h0'']) he hx hs
theorem nu_smod : ∀ k, k < 31 → ((nI k).toBitVec.smod 32).toNat = k := by decide +kernel
theorem nu_and31 {k : Nat} (h : k < 32) : nI k &&& 31 = nI k := by
  rw [pk_andN (n := k) (by omega) (m := 31) 5 (by decide), Nat.mod_eq_of_lt h]
theorem nu_shr {S k : Nat} (hS : S < 2 ^ 31) (hk : k < 31) : nI S >>> (nI k &&& 31) = nI (S / 2 ^ k) := by
  rw [nu_and31 (by omega), pk_shrN hS _ k (nu_smod k hk)]
theorem nu_shl {k : Nat} (hk : k < 31) : (1 : Int32) <<< (nI k &&& 31) = nI (2 ^ k) := by
  rw [nu_and31 (by omega)]
  have h : 2 ^ k < 2 ^ 31 := Nat.pow_lt_pow_right (by omega) hk
  have := pk_shlN (n := 1) (nI k) k (nu_smod k hk) (by omega)
  rw [Nat.one_mul] at this
  exact this
theorem nu_bit {S k : Nat} (hS : S < 2 ^ 31) (hk : k < 31) : (nI S >>> (nI k &&& 31)) &&& 1 = if S.testBit k then 1 else 0 := by
  rw [nu_shr hS hk]
  have hd : S / 2 ^ k < 2 ^ 31 := Nat.lt_of_le_of_lt (Nat.div_le_self _ _) hS
  rw [pk_andN (by omega) (m := 1) 1 (by decide), Nat.testBit_eq_decide_div_mod_eq]
  have h2 : S / 2 ^ k % 2 ^ 1 = 0 ∨ S / 2 ^ k % 2 ^ 1 = 1 := by omega
  rcases h2 with h | h
  · rw [h]
    have : ¬ (S / 2 ^ k % 2 = 1) := by omega
    simp [this]; rfl
  · rw [h]
    have : S / 2 ^ k % 2 = 1 := by omega
    simp [this]; rfl
theorem nu_bit0 {S k : Nat} (hS : S < 2 ^ 31) (hk : k < 31) : ((nI S >>> (nI k &&& 31)) &&& 1 = 0) ↔ S.testBit k = false := by
  rw [nu_bit hS hk]
  cases S.testBit k <;> simp
theorem nu_bit1 {S k : Nat} (hS : S < 2 ^ 31) (hk : k < 31) : ((nI S >>> (nI k &&& 31)) &&& 1 = 1) ↔ S.testBit k = true := by
  rw [nu_bit hS hk]
  cases S.testBit k <;> simp
theorem nu_or {S k : Nat} (hk : k < 31) : nI S ||| ((1 : Int32) <<< (nI k &&& 31)) = nI (S ||| 2 ^ k) := by
  rw [nu_shl hk, fa_or]
theorem nu_le {a b : Nat} (ha : a < 2 ^ 31) (hb : b < 2 ^ 31) : (nI a ≤ nI b) = (a ≤ b) := propext (nI_leI ha hb)
theorem nu_lt {a b : Nat} (ha : a < 2 ^ 31) (hb : b < 2 ^ 31) : (nI a < nI b) = (a < b) := propext (nI_ltI ha hb)
theorem nu_eq {a b : Nat} (ha : a < 2 ^ 31) (hb : b < 2 ^ 31) : (nI a = nI b) = (a = b) := propext (nI_eq ha hb)
theorem nu_ix (a b : Nat) : (nI a * 12) + nI b = nI (a * 12 + b) := by
  rw [show (12 : Int32) = nI 12 from rfl, pk_mul, nI_add]
theorem nu_ix' (a b : Nat) : ((12 : Int32) * nI a) + nI b = nI (12 * a + b) := by
  rw [show (12 : Int32) = nI 12 from rfl, pk_mul, nI_add]
theorem nu_ite {α : Type} {c : Prop} [Decidable c] (a b : α) : (if c then some a else some b) = some (if c then a else b) := by
  by_cases h : c <;> simp [h]
theorem oz0 : oz 0 = some 0 := by decide
theorem oz1 : oz 1 = some 1 := by decide
end NU1
