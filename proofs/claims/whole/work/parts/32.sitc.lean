/-! the class' Sitters -/
section SC1
theorem ng_le {a b : Nat} (ha : a < 2 ^ 31) (hb : b < 2 ^ 31) (h : b < a) : ¬ (nI a ≤ nI b) := fun hh => by have := (nI_leI ha hb).mp hh; omega
theorem ps_le {a b : Nat} (ha : a < 2 ^ 31) (hb : b < 2 ^ 31) (h : a ≤ b) : nI a ≤ nI b := (nI_leI ha hb).mpr h
theorem upd_step {α : Type} {g h : Nat → α} {i : Nat} (hh : ∀ j, j ≠ i → h j = g j) : h = fun j => if j = i then h i else g j := by
  funext j
  by_cases e : j = i
  · simp [e]
  · simp [e, hh j e]
theorem upd_lt {f g : Nat → Int32} {i : Nat} {x : Int32} (hx : x = f i) : upd (fun j => if j < i then f j else g j) i x = (fun j => if j < i + 1 then f j else g j) := by
  funext j
  unfold upd
  by_cases h1 : j = i
  · subst h1; simp [hx]
  · have : (j < i + 1) ↔ j < i := by omega
    simp [h1, this]
/-- Arrays.fill of ints -/
theorem x_fill (N : Nat) (hN : N < 5000) (f : Nat → Int32) (x : Int32) : f_J7_fill_53178 N f x = some (fun j => if j < N then x else f j) := by
  have h : f_J7_fill_53178_5 N x FU 0 f = some (fun j => if j < N then x else f j) := by
    refine lp_at (fun m i z => f_J7_fill_53178_5 N x m (nI i) z) N (fun i j => if j < i then x else f j) (by funext j; simp) hN ?_ ?_
    · intro n
      rw [f_J7_fill_53178_5_s, if_pos (show Int32.ofNat N ≤ nI N from ps_le (by omega) (by omega) (Nat.le_refl N))]
    · intro n i hi
      rw [f_J7_fill_53178_5_s, if_neg (show ¬ Int32.ofNat N ≤ nI i from ng_le (by omega) (by omega) hi), nu_set _ _ hi (by omega), Option.bind_some, nI_1, upd_lt (f := fun _ => x) rfl]
  unfold f_J7_fill_53178
  rw [h, Option.bind_some]
/-- what the class and the reference know of a room: how far seats are apart, by the class' row and by the reference's -/
def Far (n : Nat) (Dm : Nat → Nat → Nat) (f : Nat → Int32) : Prop := ∀ a b, a < n → b < n → f (a * 12 + b) = nI (Dm a b)
def Dok (n : Nat) (Dm : Nat → Nat → Nat) : Prop := n ≤ 12 ∧ 1 ≤ n ∧ (∀ a b, Dm a b ≤ 99) ∧ (∀ a b, a < n → b < n → Dm a b = Dm b a) ∧ ∀ a, a < n → Dm a a = 0
/-- the row of who is how near -/
def Nea (n : Nat) (Dm : Nat → Nat → Nat) (S : Nat) (f : Nat → Int32) : Prop := ∀ j, j < n → f j = nI (aw Dm S j n)
theorem x_leave (B : Int32) (f : Nat → Int32) : f_X9_leave B f = some (0, B, fun j => if j < 12 then 99 else f j) := by
  unfold f_X9_leave
  rw [x_fill 12 (by omega), Option.bind_some]
theorem x_nea0 {n : Nat} {Dm : Nat → Nat → Nat} (hD : Dok n Dm) (f : Nat → Int32) : Nea n Dm 0 (fun j => if j < 12 then 99 else f j) := by
  intro j hj
  have : j < 12 := by have := hD.1; omega
  simp only [this, if_true, aw_zero]
  rfl
theorem x_isOpen {n : Nat} {Dm : Nat → Nat → Nat} {S B s : Nat} {f : Nat → Int32} (hn : n ≤ 12) (hB : B < 1000) (hf : Nea n Dm S f) (hs : s < n) : f_X9_isOpen (nI B) f (nI s) = some (if B ≤ aw Dm S s n then 1 else 0) := by
  have h99 := aw_le Dm S s n
  unfold f_X9_isOpen
  rw [nu_get f (show s < 12 by omega) (by omega), Option.bind_some, hf s hs]
  by_cases h : B ≤ aw Dm S s n
  · rw [if_neg (fun hh => by have := (nI_ltI (by omega) (by omega)).mp hh; omega), if_pos h]
    rfl
  · rw [if_pos ((nI_ltI (by omega) (by omega)).mpr (by omega)), if_neg h]
    rfl
theorem x_farness {n : Nat} {Dm : Nat → Nat → Nat} {f : Nat → Int32} {a b : Nat} (hn : n ≤ 12) (hF : Far n Dm f) (ha : a < n) (hb : b < n) : f_X0_farness f (nI a) (nI b) = some (nI (Dm a b)) := by
  unfold f_X0_farness
  rw [nu_ix, nu_get f (show a * 12 + b < 144 by omega) (by omega), Option.bind_some, hF a b ha hb]
theorem x_sit {n : Nat} {Dm : Nat → Nat → Nat} {S x : Nat} {f g : Nat → Int32} (hD : Dok n Dm) (hF : Far n Dm g) (hf : Nea n Dm S f) (hx : x < n) : ∃ f', f_X9_sit (nI S) (nI n) f g (nI x) = some (nI (S ||| 2 ^ x), f') ∧ Nea n Dm (S ||| 2 ^ x) f' := by
  obtain ⟨hn, hn1, h99, hsym, h0⟩ := hD
  have h : f_X9_sit_14 (nI n) g (nI x) FU 0 f = some (fun j => if j < n then nI (min (aw Dm S j n) (Dm x j)) else f j) := by
    refine lp_at (fun m i z => f_X9_sit_14 (nI n) g (nI x) m (nI i) z) n (fun i j => if j < i then nI (min (aw Dm S j n) (Dm x j)) else f j) (by funext j; simp) (by omega) ?_ ?_
    · intro m
      rw [f_X9_sit_14_s, if_pos (ps_le (by omega) (by omega) (Nat.le_refl n))]
    · intro m i hi
      have a1 := aw_le Dm S i n
      have a2 := h99 x i
      rw [f_X9_sit_14_s, if_neg (ng_le (by omega) (by omega) hi), nu_get _ (show i < 12 by omega) (by omega), Option.bind_some, x_farness hn hF hx hi, Option.bind_some]
      simp only [Nat.lt_irrefl, if_false]
      rw [hf i hi, imin_n (by omega) (by omega), nu_set _ _ (show i < 12 by omega) (by omega), Option.bind_some, nI_1, upd_lt rfl]
  refine ⟨fun j => if j < n then nI (min (aw Dm S j n) (Dm x j)) else f j, ?_, ?_⟩
  · unfold f_X9_sit
    rw [h, Option.bind_some, nu_or (by omega)]
  · intro j hj
    simp only [hj, if_true]
    rw [aw_or, if_pos hx, hsym x j hx hj]
theorem x_open {n : Nat} {Dm : Nat → Nat → Nat} {S B : Nat} {f : Nat → Int32} (hn : n ≤ 12) (hB : B < 1000) (hf : Nea n Dm S f) : f_X9_openSeats (nI B) (nI n) f = some (nI (opm n Dm B S n)) := by
  have h : f_X9_openSeats_4 (nI B) (nI n) f FU 0 0 = some (nI (opm n Dm B S n)) := by
    refine lp_at (fun m i z => f_X9_openSeats_4 (nI B) (nI n) f m z (nI i)) n (fun i => nI (opm n Dm B S i)) rfl (by omega) ?_ ?_
    · intro m
      rw [f_X9_openSeats_4_s, if_pos (ps_le (by omega) (by omega) (Nat.le_refl n))]
    · intro m i hi
      rw [f_X9_openSeats_4_s, if_neg (ng_le (by omega) (by omega) hi), x_isOpen hn hB hf hi, Option.bind_some]
      by_cases h : B ≤ aw Dm S i n
      · rw [if_pos h, if_neg (by decide), Option.bind_some, nu_or (by omega), nI_1]
        congr 1
        simp only [opm, h, if_true]
      · rw [if_neg h, if_pos rfl, Option.bind_some, nI_1]
        congr 1
        simp only [opm, h, if_false]
  unfold f_X9_openSeats
  rw [h, Option.bind_some]
/-- WORTHS -/
def Wor (n : Nat) (w : Nat → Nat) (f : Nat → Int32) : Prop := ∀ j, j < n → f j = nI (w j) ∧ w j ≤ 9
def Nbs (n : Nat) (Dm : Nat → Nat → Nat) (f : Nat → Int32) : Prop := ∀ j, j < n → f j = nI (nbr Dm j n)
theorem Rc_b {n : Nat} {Dm : Nat → Nat → Nat} {w : Nat → Nat} {S h s : Nat} (hn : n ≤ 12) (hs : s < n) (hw : w s ≤ 9) : -2000 ≤ Rc n Dm w S h s ∧ Rc n Dm w S h s ≤ 2000 := by
  have h1 := aw_le Dm S s n
  have h2 := nbr_le Dm s n
  unfold Rc
  repeat' split
  all_goals omega
theorem x_wish {n : Nat} {Dm : Nat → Nat → Nat} {S h s : Nat} {w : Nat → Nat} {f fw fb : Nat → Int32} (hn : n ≤ 12) (hf : Nea n Dm S f) (hw : Wor n w fw) (hb : Nbs n Dm fb) (hs : s < n) (hh : h < 6) : f_X9_wishFor f fw fb (nI s) (nI h) = some (iI (Rc n Dm w S h s)) := by
  have hs12 : s < 12 := by omega
  have g1 := nu_get f hs12 (by omega)
  have g2 := nu_get fw hs12 (by omega)
  have g3 := nu_get fb hs12 (by omega)
  rw [hf s hs] at g1
  rw [(hw s hs).1] at g2
  rw [hb s hs] at g3
  rcases (show h = 0 ∨ h = 1 ∨ h = 2 ∨ h = 3 ∨ h = 4 ∨ h = 5 by omega) with rfl | rfl | rfl | rfl | rfl | rfl
  · unfold f_X9_wishFor
    rw [if_pos (by decide), g1, Option.bind_some, g2, Option.bind_some]
    simp only [Rc, if_true]
    rw [show (10 : Int32) = nI 10 from rfl, pk_mul, nI_add, ← iI_nat]
    congr 2
  · unfold f_X9_wishFor
    rw [if_neg (by decide), if_pos (by decide), g2, Option.bind_some, g1, Option.bind_some]
    rw [show (100 : Int32) = nI 100 from rfl, pk_mul, nI_add, ← iI_nat]
    congr 2
  · unfold f_X9_wishFor
    rw [if_neg (by decide), if_neg (by decide), if_pos (by decide)]
    rfl
  · unfold f_X9_wishFor
    rw [if_neg (by decide), if_neg (by decide), if_neg (by decide), if_pos (by decide)]
    rfl
  · unfold f_X9_wishFor
    rw [if_neg (by decide), if_neg (by decide), if_neg (by decide), if_neg (by decide), if_pos (by decide), g1, Option.bind_some]
    show some (-nI (aw Dm S s n)) = some (iI (-(aw Dm S s n : Int)))
    unfold iI
    rw [Int32.ofInt_neg]
    rfl
  · unfold f_X9_wishFor
    rw [if_neg (by decide), if_neg (by decide), if_neg (by decide), if_neg (by decide), if_neg (by decide), if_pos (by decide), g1, Option.bind_some, g3, Option.bind_some]
    show some (nI (aw Dm S s n) - 100 * nI (nbr Dm s n)) = some (iI ((aw Dm S s n : Int) - 100 * (nbr Dm s n : Int)))
    unfold iI
    rw [Int32.ofInt_sub, Int32.ofInt_mul]
    rfl
/-- the wish that stands beside the best -/
def bw (R : Nat → Int) (o : Option Nat) : Int32 := match o with
  | none => 0
  | some b => iI (R b)
theorem x_choice {n : Nat} {Dm : Nat → Nat → Nat} {S B h : Nat} {w : Nat → Nat} {f fw fb : Nat → Int32} (hn : n ≤ 12) (hB : B < 1000) (hf : Nea n Dm S f) (hw : Wor n w fw) (hb : Nbs n Dm fb) (hh : h < 6) : f_X9_choice (nI B) (nI n) f fw fb (nI h) = some (eO32 (tak n Dm B w S h)) := by
  have hl : f_X9_choice_8 (nI B) (nI n) f fw fb (nI h) FU (-6) 0 0 = some (eO32 (tak n Dm B w S h)) := by
    refine lp_at2 (fun m i z z' => f_X9_choice_8 (nI B) (nI n) f fw fb (nI h) m z z' (nI i)) n (fun i => eO32 (bst (fun s => decide (B ≤ aw Dm S s n)) (Rc n Dm w S h) i)) (fun i => bw (Rc n Dm w S h) (bst (fun s => decide (B ≤ aw Dm S s n)) (Rc n Dm w S h) i)) rfl rfl (by omega) ?_ ?_
    · intro m
      rw [f_X9_choice_8_s, if_pos (ps_le (by omega) (by omega) (Nat.le_refl n))]
      rfl
    · intro m i hi
      rw [f_X9_choice_8_s, if_neg (ng_le (by omega) (by omega) hi), x_isOpen hn hB hf hi, Option.bind_some]
      generalize hbi : bst (fun s => decide (B ≤ aw Dm S s n)) (Rc n Dm w S h) i = o
      have hnext : bst (fun s => decide (B ≤ aw Dm S s n)) (Rc n Dm w S h) (i + 1) = if B ≤ aw Dm S i n then bnx (Rc n Dm w S h) i o else o := by
        simp only [bst, hbi, decide_eq_true_eq]
      rw [hnext]
      by_cases ho : B ≤ aw Dm S i n
      · rw [if_pos ho, if_neg (by decide), x_wish hn hf hw hb hi hh, Option.bind_some, if_pos ho]
        cases o with
        | none =>
          rw [if_pos (show eO32 none = -6 from rfl), Option.bind_some, nI_1]
          rfl
        | some b =>
          have hbs := bst_some hbi
          have r1 := Rc_b (S := S) (h := h) (Dm := Dm) (w := w) hn (show b < n by omega) (hw b (by omega)).2
          have r2 := Rc_b (S := S) (h := h) (Dm := Dm) (w := w) hn hi (hw i hi).2
          have hle : (iI (Rc n Dm w S h i) ≤ bw (Rc n Dm w S h) (some b)) ↔ Rc n Dm w S h i ≤ Rc n Dm w S h b := by
            show (iI (Rc n Dm w S h i) ≤ iI (Rc n Dm w S h b)) ↔ _
            rw [iI_le (by omega) (by omega) (by omega) (by omega)]
          rw [if_neg (show ¬ eO32 (some b) = -6 from eO32_neg (show b < 2 ^ 31 by omega))]
          by_cases hc : Rc n Dm w S h b < Rc n Dm w S h i
          · rw [if_neg (fun hx => by have := hle.mp hx; omega), Option.bind_some, nI_1]
            simp only [bnx, hc, if_true]
            rfl
          · rw [if_pos (hle.mpr (by omega)), Option.bind_some, nI_1]
            simp only [bnx, hc, if_false]
      · rw [if_neg ho, if_pos rfl, Option.bind_some, if_neg ho, nI_1]
  unfold f_X9_choice
  rw [hl, Option.bind_some]
end SC1
