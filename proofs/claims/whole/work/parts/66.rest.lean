/-! arms by ANY: parts that never clash are reckoned apart -/
section RS1
def eF (p : Nat) (cl : Nat → Nat) : Nat → Nat → Nat → Nat
  | 0, _, _ => 0
  | f + 1, c, O => if O = 0 then 0 else c + sm (fun s => if O.testBit s then eF p cl f (c / pc 12 O) (andn O (cl s)) else 0) p
theorem eF_s (p : Nat) (cl : Nat → Nat) (f c O : Nat) : eF p cl (f + 1) c O = if O = 0 then 0 else c + sm (fun s => if O.testBit s then eF p cl f (c / pc 12 O) (andn O (cl s)) else 0) p := rfl
theorem eF_O (p : Nat) (cl : Nat → Nat) (f c : Nat) : eF p cl f c 0 = 0 := by
  cases f with
  | zero => rfl
  | succ f => rw [eF_s, if_pos rfl]
def Slf (p : Nat) (cl : Nat → Nat) : Prop := p ≤ 12 ∧ ∀ s, s < p → (cl s).testBit s = true
theorem pc_less {p : Nat} {cl : Nat → Nat} {O s : Nat} (hc : Slf p cl) (hs : s < p) (hb : O.testBit s = true) : pc 12 (andn O (cl s)) + 1 ≤ pc 12 O := by
  have hp := hc.1
  have := pc_sub (A := andn O (cl s)) (O := O) (s := s) (fun t ht => by rw [andn_bit, Bool.and_eq_true] at ht; exact ht.1) (by rw [andn_bit, hc.2 s hs]; simp) hb 12
  rw [if_pos (by omega)] at this
  exact this
theorem eF_fuel {p : Nat} {cl : Nat → Nat} (hc : Slf p cl) : ∀ f c O, O < 2 ^ p → pc 12 O ≤ f → eF p cl (f + 1) c O = eF p cl f c O := by
  intro f
  induction f with
  | zero =>
    intro c O hO h
    by_cases h0 : O = 0
    · subst h0; rw [eF_O, eF_O]
    · have := pc_pos h0 hO hc.1; omega
  | succ f ih =>
    intro c O hO h
    rw [eF_s, eF_s p cl f]
    by_cases h0 : O = 0
    · rw [if_pos h0, if_pos h0]
    · rw [if_neg h0, if_neg h0]
      congr 1
      apply sm_congr
      intro s hs
      by_cases hb : O.testBit s = true
      · rw [if_pos hb, if_pos hb]
        exact ih _ _ (andn_lt hO) (by have := pc_less hc hs hb; omega)
      · rw [if_neg hb, if_neg hb]
theorem dv_add {k a b : Nat} (hk : 0 < k) (ha : k ∣ a) (hb : k ∣ b) : (a + b) / k = a / k + b / k := by
  obtain ⟨a', rfl⟩ := ha
  obtain ⟨b', rfl⟩ := hb
  rw [← Nat.mul_add, Nat.mul_div_cancel_left _ hk, Nat.mul_div_cancel_left _ hk, Nat.mul_div_cancel_left _ hk]
theorem dv_less {p : Nat} {cl : Nat → Nat} {O s a : Nat} (hc : Slf p cl) (hs : s < p) (hb : O.testBit s = true) (ha : fac (pc 12 O) ∣ a) : fac (pc 12 (andn O (cl s))) ∣ a / pc 12 O := by
  have h1 := pc_less hc hs hb
  exact Nat.dvd_trans (fac_dvd _ (by omega)) (fac_k (show 1 ≤ pc 12 O by omega) ha).2
theorem eF_add {p : Nat} {cl : Nat → Nat} (hc : Slf p cl) : ∀ f a b O, O < 2 ^ p → fac (pc 12 O) ∣ a → fac (pc 12 O) ∣ b → eF p cl f (a + b) O = eF p cl f a O + eF p cl f b O := by
  intro f
  induction f with
  | zero => intro a b O _ _ _; rfl
  | succ f ih =>
    intro a b O hO ha hb
    rw [eF_s, eF_s, eF_s]
    by_cases h0 : O = 0
    · rw [if_pos h0, if_pos h0, if_pos h0]
    · have hk := pc_pos h0 hO hc.1
      have e : sm (fun s => if O.testBit s then eF p cl f ((a + b) / pc 12 O) (andn O (cl s)) else 0) p = sm (fun s => if O.testBit s then eF p cl f (a / pc 12 O) (andn O (cl s)) else 0) p + sm (fun s => if O.testBit s then eF p cl f (b / pc 12 O) (andn O (cl s)) else 0) p := by
        rw [← sm_add]
        apply sm_congr
        intro s hs
        by_cases hx : O.testBit s = true
        · rw [if_pos hx, if_pos hx, if_pos hx, dv_add (by omega) (fac_k hk ha).1 (fac_k hk hb).1]
          exact ih _ _ _ (andn_lt hO) (dv_less hc hs hx ha) (dv_less hc hs hx hb)
        · rw [if_neg hx, if_neg hx, if_neg hx]
      rw [if_neg h0, if_neg h0, if_neg h0, e]
      omega
theorem eF_c0 {p : Nat} {cl : Nat → Nat} (hc : Slf p cl) {f O : Nat} (hO : O < 2 ^ p) : eF p cl f 0 O = 0 := by
  have h : eF p cl f 0 O = eF p cl f 0 O + eF p cl f 0 O := eF_add hc f 0 0 O hO (Nat.dvd_zero _) (Nat.dvd_zero _)
  omega
theorem eF_mul {p : Nat} {cl : Nat → Nat} (hc : Slf p cl) {f O d : Nat} (hO : O < 2 ^ p) (hd : fac (pc 12 O) ∣ d) : ∀ k, eF p cl f (k * d) O = k * eF p cl f d O := by
  intro k
  induction k with
  | zero => rw [Nat.zero_mul, Nat.zero_mul]; exact eF_c0 hc hO
  | succ k ih =>
    rw [Nat.succ_mul, Nat.succ_mul, eF_add hc f _ _ O hO (Nat.dvd_trans hd (Nat.dvd_mul_left _ _)) hd, ih]
theorem eF_eq {p : Nat} {cl : Nat → Nat} {O T : Nat} (hc : Slf p cl) (hO : O < 2 ^ p) (hT : fac 12 ∣ T) : pc 12 O * eF p cl 13 T O = pc 12 O * T + sm (fun s => if O.testBit s then eF p cl 13 T (andn O (cl s)) else 0) p := by
  by_cases h0 : O = 0
  · subst h0
    rw [pc_0, Nat.zero_mul, Nat.zero_mul, sm_congr (g := fun _ => 0) p (fun s _ => by rw [Nat.zero_testBit, if_neg (by decide)]), sm_0]
  · have hk := pc_pos h0 hO hc.1
    have hd : fac (pc 12 O) ∣ T := Nat.dvd_trans (fac_dvd 12 (pc_le O 12)) hT
    rw [eF_s, if_neg h0, Nat.mul_add]
    congr 1
    rw [← sm_mul]
    apply sm_congr
    intro s hs
    by_cases hx : O.testBit s = true
    · rw [if_pos hx, if_pos hx, ← eF_mul hc (andn_lt hO) (dv_less hc hs hx hd), Nat.mul_div_cancel' (fac_k hk hd).1]
      exact (eF_fuel hc 12 T _ (andn_lt hO) (pc_le _ 12)).symm
    · rw [if_neg hx, if_neg hx]; rfl
theorem pc_dis {A B : Nat} (h : ∀ t, A.testBit t = true → B.testBit t = false) : ∀ k, pc k (A ||| B) = pc k A + pc k B := by
  intro k
  induction k with
  | zero => rfl
  | succ k ih =>
    show pc k (A ||| B) + (if (A ||| B).testBit k then 1 else 0) = (pc k A + (if A.testBit k then 1 else 0)) + (pc k B + (if B.testBit k then 1 else 0))
    rw [ih, Nat.testBit_or]
    cases ha : A.testBit k with
    | false => cases hb : B.testBit k <;> simp <;> omega
    | true => rw [h k ha]; simp; omega
theorem eF_union {p : Nat} {cl : Nat → Nat} {T : Nat} (hc : Slf p cl) (hT : fac 12 ∣ T) : ∀ m A B, pc 12 A + pc 12 B ≤ m → A < 2 ^ p → B < 2 ^ p → (∀ t, A.testBit t = true → B.testBit t = false) → (∀ s t, A.testBit s = true → B.testBit t = true → (cl s).testBit t = false ∧ (cl t).testBit s = false) → eF p cl 13 T (A ||| B) = eF p cl 13 T A + eF p cl 13 T B := by
  intro m
  induction m with
  | zero =>
    intro A B hm hA hB _ _
    have e1 : A = 0 := by
      by_cases h : A = 0
      · exact h
      · have := pc_pos h hA hc.1; omega
    have e2 : B = 0 := by
      by_cases h : B = 0
      · exact h
      · have := pc_pos h hB hc.1; omega
    subst e1; subst e2
    rw [Nat.or_self, eF_O]
  | succ m ih =>
    intro A B hm hA hB hd hn
    by_cases hA0 : A = 0
    · subst hA0; rw [Nat.zero_or, eF_O, Nat.zero_add]
    · have hk := pc_pos hA0 hA hc.1
      have hAB : A ||| B < 2 ^ p := Nat.or_lt_two_pow hA hB
      have q := eF_eq hc hAB hT
      have qA := eF_eq hc hA hT
      have qB := eF_eq hc hB hT
      have e : sm (fun s => if (A ||| B).testBit s then eF p cl 13 T (andn (A ||| B) (cl s)) else 0) p = (sm (fun s => if A.testBit s then eF p cl 13 T (andn A (cl s)) else 0) p + sm (fun s => if A.testBit s then eF p cl 13 T B else 0) p) + (sm (fun s => if B.testBit s then eF p cl 13 T (andn B (cl s)) else 0) p + sm (fun s => if B.testBit s then eF p cl 13 T A else 0) p) := by
        rw [← sm_add, ← sm_add, ← sm_add]
        apply sm_congr
        intro s hs
        rw [Nat.testBit_or]
        cases ha : A.testBit s with
        | true =>
          have hb := hd s ha
          have ea : andn (A ||| B) (cl s) = andn A (cl s) ||| B := by
            apply Nat.eq_of_testBit_eq
            intro t
            rw [andn_bit, Nat.testBit_or, Nat.testBit_or, andn_bit]
            cases hbt : B.testBit t with
            | false => simp
            | true => rw [(hn s t ha hbt).1]; simp
          have h1 := pc_less hc hs ha
          rw [hb, ea, ih (andn A (cl s)) B (by omega) (andn_lt hA) hB (fun t ht => by rw [andn_bit, Bool.and_eq_true] at ht; exact hd t ht.1) (fun u t hu ht => by rw [andn_bit, Bool.and_eq_true] at hu; exact hn u t hu.1 ht)]
          simp
        | false =>
          cases hb : B.testBit s with
          | false => simp
          | true =>
            have ea : andn (A ||| B) (cl s) = A ||| andn B (cl s) := by
              apply Nat.eq_of_testBit_eq
              intro t
              rw [andn_bit, Nat.testBit_or, Nat.testBit_or, andn_bit]
              cases hbt : A.testBit t with
              | false => simp
              | true => rw [(hn t s hbt hb).2]; simp
            have h1 := pc_less hc hs hb
            rw [ea, ih A (andn B (cl s)) (by omega) hA (andn_lt hB) (fun t ht => by rw [andn_bit, hd t ht]; rfl) (fun u t hu ht => by rw [andn_bit, Bool.and_eq_true] at ht; exact hn u t hu ht.1)]
            simp
            omega
      rw [e, sm_pc, sm_pc, ← pc_bits hA 12 hc.1, ← pc_bits hB 12 hc.1, pc_dis hd 12, Nat.add_mul, Nat.add_mul] at q
      apply Nat.eq_of_mul_eq_mul_left (show 0 < pc 12 A + pc 12 B by omega)
      rw [Nat.add_mul, Nat.mul_add, Nat.add_mul, Nat.add_mul]
      omega
/-- the sum over the whole sets -/
theorem sum_eF {p : Nat} {cl : Nat → Nat} {O T : Nat} (hc : Csy p cl O) (hT : fac (pc 12 O) ∣ T) : sm (fun S => if gG cl O S then (if oG cl O S = 0 then pc 12 S * cg p (gG cl O) (oG cl O) T (2 ^ p) S else 0) else 0) (2 ^ p) = eF p cl 13 T O := by
  have hs : Slf p cl := ⟨hc.1, hc.2.2.2⟩
  have hp := hc.1
  have hy := Csy_Sys hc
  have key := cg_pot hy (T := T) (by rw [oG_0]; exact hT) (fun c S => c * pc 12 S + eF p cl 13 c (oG cl O S)) (fun S => by rw [Nat.zero_mul, Nat.zero_add]; exact eF_c0 hs (oG_lt hc.2.1)) (fun a b S ha hb => by
      rw [Nat.add_mul, eF_add hs 13 a b _ (oG_lt hc.2.1) ha hb]; omega) (fun c S hS hg ho hd => by
      have hk := pc_pos ho (oG_lt hc.2.1) hp
      have e : sm (fun s => if (oG cl O S).testBit s then c / pc 12 (oG cl O S) * pc 12 (S ||| 2 ^ s) + eF p cl 13 (c / pc 12 (oG cl O S)) (oG cl O (S ||| 2 ^ s)) else 0) p = sm (fun s => if (oG cl O S).testBit s then c / pc 12 (oG cl O S) * (pc 12 S + 1) else 0) p + sm (fun s => if (oG cl O S).testBit s then eF p cl 12 (c / pc 12 (oG cl O S)) (andn (oG cl O S) (cl s)) else 0) p := by
        rw [← sm_add]
        apply sm_congr
        intro s hsp
        by_cases hx : (oG cl O S).testBit s = true
        · rw [if_pos hx, if_pos hx, if_pos hx, pc_or (hy.2.2.2 S s hS hg hx).1, if_pos (by omega), oG_add (by omega), eF_fuel hs 12 _ _ (andn_lt (oG_lt hc.2.1)) (pc_le _ 12)]
        · rw [if_neg hx, if_neg hx, if_neg hx]
      rw [e, sm_pc, ← pc_bits (oG_lt hc.2.1) 12 hp, ← Nat.mul_assoc, Nat.mul_div_cancel' (fac_k hk hd).1, eF_s, if_neg ho, Nat.mul_add]
      omega) (2 ^ p) (Nat.le_refl _)
  rw [pc_0, Nat.mul_zero, Nat.zero_add, oG_0] at key
  rw [← key]
  apply sm_congr
  intro S hS
  by_cases hg : gG cl O S = true
  · rw [if_pos hg, if_pos hg, if_pos hS]
    by_cases ho : oG cl O S = 0
    · rw [if_pos ho, if_pos ho, ho, eF_O, Nat.add_zero, cg_stay hy (2 ^ p) (by omega) (Nat.le_refl _), Nat.mul_comm]
    · rw [if_neg ho, if_neg ho]
  · rw [if_neg hg, if_neg hg]
/-- the reference's mean, as a sum over sets -/
theorem orc_sum (n : Nat) (Dm : Nat → Nat → Nat) (B T : Nat) : ∀ S, sm (fun c => c * orc n Dm B T c S) 13 = sm (fun S => if whB n Dm B S then pc 12 S * chT n Dm B T (2 ^ n) S else 0) S := by
  intro S
  induction S with
  | zero =>
    show sm (fun c => c * 0) 13 = 0
    rw [sm_congr (g := fun _ => 0) 13 (fun c _ => Nat.mul_zero c), sm_0]
  | succ S ih =>
    show _ = sm (fun S => if whB n Dm B S then pc 12 S * chT n Dm B T (2 ^ n) S else 0) S + (if whB n Dm B S then pc 12 S * chT n Dm B T (2 ^ n) S else 0)
    rw [← ih, sm_congr (g := fun c => c * orc n Dm B T c S + (if c = pc 12 S then (if whB n Dm B S then pc 12 S * chT n Dm B T (2 ^ n) S else 0) else 0)) 13 (fun c _ => by
      rw [orc_s, Nat.mul_add]
      congr 1
      by_cases h1 : c = pc 12 S
      · rw [if_pos h1]
        by_cases h2 : whB n Dm B S = true
        · rw [if_pos ⟨h2, h1.symm⟩, if_pos h2, h1]
        · rw [if_neg (fun e => h2 e.1), if_neg h2]; rfl
      · rw [if_neg h1, if_neg (fun e => h1 e.2.symm)]; rfl), sm_add, sm_one, if_pos (by have := pc_le S 12; omega)]
theorem orc_eF {n : Nat} {Dm : Nat → Nat → Nat} {B T : Nat} (hD : Dok n Dm) (hB1 : 1 ≤ B) (hB : B ≤ 99) (hT : fac (pc 12 (2 ^ n - 1)) ∣ T) : sm (fun c => c * orc n Dm B T c (2 ^ n)) 13 = eF n (cB n Dm B) 13 T (2 ^ n - 1) := by
  have hpos : 0 < 2 ^ n := Nat.pos_of_ne_zero (by simp [Nat.pow_eq_zero])
  have hc := Csy_bench (O := 2 ^ n - 1) hD hB1 (by omega)
  rw [orc_sum, ← sum_eF hc hT]
  apply sm_congr
  intro S hS
  have eg := gG_flb hD hB hS
  have eo := oG_opm hD hB hS
  have ec : chT n Dm B T (2 ^ n) S = cg n (gG (cB n Dm B) (2 ^ n - 1)) (oG (cB n Dm B) (2 ^ n - 1)) T (2 ^ n) S := by
    rw [chT_B]
    exact (cg_congr (E := 2 ^ n) (fun i hi => ⟨gG_flb hD hB hi, oG_opm hD hB hi⟩) (2 ^ n) (Nat.le_refl _) S).symm
  unfold whB
  rw [ec, eg, eo]
  cases flb n Dm B S n with
  | false => simp
  | true =>
    by_cases h0 : opm n Dm B S n = 0
    · rw [h0]; simp
    · rw [if_pos rfl, if_neg h0]; simp [h0]
end RS1
