/-! HOW FAR: the ring's two ways; the triangle -/
section DI1
/-- the seat j steps on from a -/
def pos (n a j : Nat) : Nat := if a + j < n then a + j else a + j - n
/-- how many steps on from a to b -/
def kst (n a b : Nat) : Nat := if a ≤ b then b - a else b + n - a
def wlk (n : Nat) (E : Nat → Nat) (a : Nat) : Nat → Nat
  | 0 => 0
  | k + 1 => min 99 (wlk n E a k + E (pos n a k))
def Dd (n : Nat) (E : Nat → Nat) (a b : Nat) : Nat := if a = b then 0 else min (wlk n E a (kst n a b)) (wlk n E b (kst n b a))
theorem wlk_le (n : Nat) (E : Nat → Nat) (a : Nat) : ∀ k, wlk n E a k ≤ 99 := by
  intro k
  cases k with
  | zero => simp [wlk]
  | succ k => unfold wlk; omega
theorem wlk_split {n : Nat} {E : Nat → Nat} {a p : Nat} (ha : a < n) : ∀ q, p + q ≤ n → wlk n E a (p + q) = min 99 (wlk n E a p + wlk n E (pos n a p) q) := by
  intro q
  induction q with
  | zero => intro _; have := wlk_le n E a p; simp [wlk]; omega
  | succ q ih =>
    intro h
    have e : pos n (pos n a p) q = pos n a (p + q) := by unfold pos; split <;> split <;> split <;> omega
    show min 99 (wlk n E a (p + q) + E (pos n a (p + q))) = min 99 (wlk n E a p + min 99 (wlk n E (pos n a p) q + E (pos n (pos n a p) q)))
    rw [ih (by omega), e]
    omega
theorem Dd_le (n : Nat) (E : Nat → Nat) (a b : Nat) : Dd n E a b ≤ 99 := by
  have := wlk_le n E a (kst n a b)
  unfold Dd
  split <;> omega
theorem Dd_sym (n : Nat) (E : Nat → Nat) (a b : Nat) : Dd n E a b = Dd n E b a := by
  unfold Dd
  by_cases h : a = b
  · subst h; rfl
  · rw [if_neg h, if_neg (fun e => h e.symm), Nat.min_comm]
theorem Dd_self (n : Nat) (E : Nat → Nat) (a : Nat) : Dd n E a a = 0 := by simp [Dd]
theorem Dd_fw {n : Nat} {E : Nat → Nat} {a k : Nat} (ha : a < n) (hk : k < n) : Dd n E a (pos n a k) ≤ wlk n E a k := by
  unfold Dd
  by_cases h : a = pos n a k
  · rw [if_pos h]; omega
  · have e : kst n a (pos n a k) = k := by unfold kst pos; split <;> split <;> omega
    rw [if_neg h, e]
    exact Nat.min_le_left _ _
/-- a step on -/
theorem Dd_step {n : Nat} {E : Nat → Nat} {a b : Nat} (ha : a < n) (hb : b < n) : Dd n E a (pos n b 1) ≤ Dd n E a b + E b ∧ Dd n E a b ≤ Dd n E a (pos n b 1) + E b := by
  have hp : pos n b 1 < n := by unfold pos; split <;> omega
  have h99 := Dd_le n E a (pos n b 1)
  have h99' := Dd_le n E a b
  have e0 : pos n b 0 = b := by unfold pos; split <;> omega
  have w1 : wlk n E b 1 = min 99 (E b) := by simp [wlk, e0]
  by_cases hab : a = b
  · subst hab
    rw [Dd_self]
    by_cases hn : n = 1
    · have : pos n a 1 = a := by unfold pos; split <;> omega
      rw [this, Dd_self]
      omega
    · have h1 := Dd_fw (E := E) ha (show 1 < n by omega)
      rw [w1] at h1
      omega
  · have ek : kst n a b + kst n b a = n := by unfold kst; split <;> split <;> omega
    have k1 : 1 ≤ kst n a b := by unfold kst; split <;> omega
    have k2 : 1 ≤ kst n b a := by unfold kst; split <;> omega
    have eb : pos n a (kst n a b) = b := by unfold kst pos; split <;> split <;> omega
    have d1 : Dd n E a b = min (wlk n E a (kst n a b)) (wlk n E b (kst n b a)) := by unfold Dd; rw [if_neg hab]
    have ws := wlk_split (E := E) (a := b) (p := 1) hb (kst n b a - 1) (by omega)
    rw [show 1 + (kst n b a - 1) = kst n b a by omega, w1] at ws
    by_cases hc : pos n b 1 = a
    · have e1 : kst n b a = 1 := by
        have hc2 := hc
        unfold pos at hc2
        unfold kst
        split at hc2 <;> (repeat' split) <;> omega
      rw [hc, Dd_self]
      rw [e1, w1] at d1
      omega
    · have e12 : kst n a (pos n b 1) = kst n a b + 1 ∧ kst n (pos n b 1) a = kst n b a - 1 := by
        rcases Nat.lt_or_ge (b + 1) n with hlt | hge
        · have ep : pos n b 1 = b + 1 := by unfold pos; rw [if_pos hlt]
          rw [ep] at hc ⊢
          unfold kst
          constructor <;> (repeat' split) <;> omega
        · have ep : pos n b 1 = 0 := by unfold pos; rw [if_neg (by omega)]; omega
          rw [ep] at hc ⊢
          unfold kst
          constructor <;> (repeat' split) <;> omega
      have e1 := e12.1
      have e2 := e12.2
      have d2 : Dd n E a (pos n b 1) = min (wlk n E a (kst n a b + 1)) (wlk n E (pos n b 1) (kst n b a - 1)) := by
        unfold Dd
        rw [if_neg (fun e => hc e.symm), e1, e2]
      have w2 : wlk n E a (kst n a b + 1) = min 99 (wlk n E a (kst n a b) + E b) := by
        show min 99 (wlk n E a (kst n a b) + E (pos n a (kst n a b))) = _
        rw [eb]
      have l1 := wlk_le n E a (kst n a b)
      have l2 := wlk_le n E (pos n b 1) (kst n b a - 1)
      omega
theorem Dd_tri1 {n : Nat} {E : Nat → Nat} {a b : Nat} (ha : a < n) (hb : b < n) : ∀ q, q < n → Dd n E a (pos n b q) ≤ Dd n E a b + wlk n E b q ∧ Dd n E a b ≤ Dd n E a (pos n b q) + wlk n E b q := by
  intro q
  induction q with
  | zero =>
    intro _
    have : pos n b 0 = b := by unfold pos; split <;> omega
    rw [this]
    omega
  | succ q ih =>
    intro hq
    have h1 := ih (by omega)
    have hp : pos n b q < n := by unfold pos; split <;> omega
    have e : pos n (pos n b q) 1 = pos n b (q + 1) := by unfold pos; split <;> split <;> split <;> omega
    have h2 := Dd_step (E := E) ha hp
    rw [e] at h2
    have h99 := Dd_le n E a (pos n b (q + 1))
    have h99' := Dd_le n E a b
    show _ ≤ _ + min 99 (wlk n E b q + E (pos n b q)) ∧ _ ≤ _ + min 99 (wlk n E b q + E (pos n b q))
    omega
theorem Dd_tri {n : Nat} {E : Nat → Nat} {a b c : Nat} (ha : a < n) (hb : b < n) (hc : c < n) : Dd n E a c ≤ Dd n E a b + Dd n E b c := by
  by_cases hbc : b = c
  · subst hbc; omega
  · have d : Dd n E b c = min (wlk n E b (kst n b c)) (wlk n E c (kst n c b)) := by unfold Dd; rw [if_neg hbc]
    have e1 : pos n b (kst n b c) = c := by unfold kst pos; split <;> split <;> omega
    have e2 : pos n c (kst n c b) = b := by unfold kst pos; split <;> split <;> omega
    have k1 : kst n b c < n := by unfold kst; split <;> omega
    have k2 : kst n c b < n := by unfold kst; split <;> omega
    have h1 := (Dd_tri1 (E := E) ha hb _ k1).1
    have h2 := (Dd_tri1 (E := E) ha hc _ k2).2
    rw [e1] at h1
    rw [e2] at h2
    omega
theorem Dd_ok {n : Nat} (E : Nat → Nat) (h1 : 1 ≤ n) (h2 : n ≤ 12) : Dok n (Dd n E) := ⟨h2, h1, Dd_le n E, fun a b _ _ => Dd_sym n E a b, fun a _ => Dd_self n E a⟩
/-- a loop by an invariant -/
theorem lp_inv {σ τ : Type} (F : Nat → Nat → σ → Option τ) (e : Nat) (I : Nat → σ → Prop) (hs : ∀ n i s, i < e → I i s → ∃ s', I (i + 1) s' ∧ F (n + 1) i s = F n (i + 1) s') : ∀ n i s, i ≤ e → e < i + n → I i s → ∃ s' m, I e s' ∧ F n i s = F (m + 1) e s' := by
  intro n
  induction n with
  | zero => intro i s h1 h2; omega
  | succ n ih =>
    intro i s h1 h2 h3
    by_cases h : i = e
    · subst h; exact ⟨s, n, h3, rfl⟩
    · obtain ⟨s', h4, h5⟩ := hs n i s (by omega) h3
      obtain ⟨s'', m, h6, h7⟩ := ih (i + 1) s' (by omega) (by omega) h4
      exact ⟨s'', m, h6, by rw [h5, h7]⟩
end DI1
