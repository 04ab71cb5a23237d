/-! minutes: the reference -/
section MN3
def dot (n : Nat) (f F : Nat → Nat) : Nat := sm (fun k => f k * F k) (2 ^ n)
def adA (g : Nat → Nat) (x v S : Nat) : Nat := g S + (if S = x then v else 0)
theorem dot_ad {n x : Nat} (hx : x < 2 ^ n) (g F : Nat → Nat) (v : Nat) : dot n (adA g x v) F = dot n g F + v * F x := by
  unfold dot
  rw [sm_congr (g := fun k => g k * F k + (if k = x then v * F x else 0)) _ (fun k _ => by
    unfold adA
    rw [Nat.add_mul]
    congr 1
    by_cases e : k = x
    · rw [if_pos e, if_pos e, e]
    · rw [if_neg e, if_neg e, Nat.zero_mul]), sm_add, sm_one, if_pos hx]
theorem tb_ad {n x : Nat} {y : Nat → Int64} {g : Nat → Nat} (hx : x < 2 ^ n) (hy : ∀ S, S < 2 ^ n → y S = lN (g S)) (v : Nat) : ∀ S, S < 2 ^ n → vp_updL y x (y x + lN v) S = lN (adA g x v S) := by
  intro S hS
  unfold adA
  by_cases e : S = x
  · subst e; rw [pk_uLs, hy S hx, lN_add, if_pos rfl]
  · rw [pk_uLn e, hy S hS, if_neg e, Nat.add_zero]
theorem sm_pad {f : Nat → Nat} {n : Nat} : ∀ N, n ≤ N → (∀ i, n ≤ i → i < N → f i = 0) → sm f N = sm f n := by
  intro N
  induction N with
  | zero => intro h _; rw [show n = 0 by omega]
  | succ N ih =>
    intro h hz
    by_cases e : n = N + 1
    · rw [e]
    · show sm f N + f N = _
      rw [ih (by omega) (fun i h1 h2 => hz i h1 (by omega)), hz N (by omega) (by omega), Nat.add_zero]
theorem m_pass1 {n : Nat} {Dm : Nat → Nat → Nat} {B h k : Nat} {w : Nat → Nat} {fm fw : Nat → Int32} {vn y : Nat → Int64} {f g : Nat → Nat} {a : Nat} (hD : Dok n Dm) (hF : FarM n Dm fm) (hB : B ≤ 99) (hw : Wor n w fw) (hh : h < 6) (hk : k < 2 ^ n) (hv : ∀ S, S < 2 ^ n → vn S = lN (f S)) (hy : ∀ S, S < 2 ^ n → y S = lN (g S)) : ∃ y' g', f_X11_passOne (nI n) (nI B) (lN a) fm fw vn y (nI k) (nI h) = some (lN (a + (if tak n Dm B w k h = none then f k * 27720 else 0)), y') ∧ (∀ S, S < 2 ^ n → y' S = lN (g' S)) ∧ ∀ F, dot n g' F = dot n g F + f k * Tm n Dm B w h F k := by
  have hn := hD.1
  have hp12 : 2 ^ n ≤ 2 ^ 12 := Nat.pow_le_pow_right (by omega) hn
  have hpk := pc_le k 12
  have hst : st1 n Dm B w h k < 2 ^ n := st1_lt hk
  have h27 : (27720 : Int64) = lN 27720 := rfl
  -- the loop over those who go
  have lpg : ∀ (y : Nat → Int64) (g : Nat → Nat), (∀ S, S < 2 ^ n → y S = lN (g S)) → ∃ y' g', f_X11_passOne_94 (nI n) vn (nI k) (nI (pc 12 k)) FU 0 y = some y' ∧ (∀ S, S < 2 ^ n → y' S = lN (g' S)) ∧ ∀ F, dot n g' F = dot n g F + f k * sm (fun s => if k.testBit s then 27720 / pc 12 k * F (andn k (2 ^ s)) else 0) n := by
    intro y g hy
    obtain ⟨y', m, k1, k2⟩ := lp_inv (fun m i y => f_X11_passOne_94 (nI n) vn (nI k) (nI (pc 12 k)) m (nI i) y) n (fun i y => ∃ g', (∀ S, S < 2 ^ n → y S = lN (g' S)) ∧ ∀ F, dot n g' F = dot n g F + f k * sm (fun s => if k.testBit s then 27720 / pc 12 k * F (andn k (2 ^ s)) else 0) i) (fun m i y hi hI => by
      obtain ⟨g', i1, i2⟩ := hI
      cases hb : k.testBit i with
      | false =>
        refine ⟨y, ⟨g', i1, fun F => ?_⟩, ?_⟩
        · rw [i2 F]
          show _ = dot n g F + f k * (sm (fun s => if k.testBit s then 27720 / pc 12 k * F (andn k (2 ^ s)) else 0) i + (if k.testBit i then _ else 0))
          rw [hb, if_neg (by decide), Nat.add_zero]
        · rw [f_X11_passOne_94_s, if_neg (ng_le (by omega) (by omega) hi), if_neg (fun e => by rw [(nu_bit1 (by omega) (by omega)).mp e] at hb; cases hb), Option.bind_some, nI_1]
      | true =>
        have hp1 := pc_1 (show i < 12 by omega) hb
        have hal : andn k (2 ^ i) < 2 ^ n := andn_lt hk
        refine ⟨vp_updL y (andn k (2 ^ i)) (y (andn k (2 ^ i)) + lN (f k * (27720 / pc 12 k))), ⟨adA g' (andn k (2 ^ i)) (f k * (27720 / pc 12 k)), tb_ad hal i1 _, fun F => ?_⟩, ?_⟩
        · rw [dot_ad hal, i2 F]
          show _ = dot n g F + f k * (sm (fun s => if k.testBit s then 27720 / pc 12 k * F (andn k (2 ^ s)) else 0) i + (if k.testBit i then 27720 / pc 12 k * F (andn k (2 ^ i)) else 0))
          rw [hb, if_pos rfl, Nat.mul_add, Nat.mul_assoc (f k), Nat.add_assoc]
        · rw [f_X11_passOne_94_s, if_neg (ng_le (by omega) (by omega) hi), if_pos ((nu_bit1 (by omega) (by omega)).mpr hb), nu_shl (by omega), nu_andn, nu_get _ (show andn k (2 ^ i) < 4096 by omega) (by omega), Option.bind_some, nu_get _ (show k < 4096 by omega) (by omega), Option.bind_some, h27, nI_l (by omega), div_n (by omega) (by omega) (by omega), Option.bind_some, hv k hk, lN_mul, nu_setL _ _ (show andn k (2 ^ i) < 4096 by omega) (by omega), Option.bind_some, Option.bind_some, nI_1]) FU 0 y (Nat.zero_le _) (by rw [FU_eq]; omega) ⟨g, hy, fun F => by
          show _ = dot n g F + f k * 0
          rw [Nat.mul_zero, Nat.add_zero]⟩
    obtain ⟨g', i1, i2⟩ := k1
    refine ⟨y', g', ?_, i1, i2⟩
    have k2' : f_X11_passOne_94 (nI n) vn (nI k) (nI (pc 12 k)) FU 0 y = _ := k2
    rw [k2', f_X11_passOne_94_s, if_pos (ps_le (by omega) (by omega) (Nat.le_refl _))]
  have hgo : ∀ F : Nat → Nat, sm (fun s => if k.testBit s then 27720 / pc 12 k * F (andn k (2 ^ s)) else 0) n = if pc 12 k = 0 then 0 else gs F k := by
    intro F
    rw [← sm_pad (n := n) 12 hn (fun i h1 _ => by rw [tb_hi hk h1, if_neg (by decide)])]
    by_cases h0 : pc 12 k = 0
    · rw [if_pos h0, pc_z hn hk h0, sm_congr (g := fun _ => 0) _ (fun s _ => by rw [Nat.zero_testBit, if_neg (by decide)]), sm_0]
    · rw [if_neg h0]
      unfold gs
      rw [if_neg h0]
  -- who comes
  have hA : (if (0 : Int32) ≤ eO32 (tak n Dm B w k h) then some (lN a) else (aget 4096 vn (nI k)).bind (fun u28 => some (lN a + (u28 * 27720)))) = some (lN (a + (if tak n Dm B w k h = none then f k * 27720 else 0))) := by
    cases ht : tak n Dm B w k h with
    | none => rw [if_neg (show ¬ (0 : Int32) ≤ eO32 none by decide), nu_get _ (show k < 4096 by omega) (by omega), Option.bind_some, hv k hk, h27, lN_mul, lN_add, if_pos rfl]
    | some u =>
      have hu := (tak_lt ht).1
      rw [if_pos (show (0 : Int32) ≤ eO32 (some u) from ps_le (a := 0) (b := u) (by omega) (by omega) (by omega)), if_neg (by simp), Nat.add_zero]
  have hC : (if (0 : Int32) ≤ eO32 (tak n Dm B w k h) then some (nI k ||| (1 <<< (eO32 (tak n Dm B w k h) &&& 31))) else some (nI k)) = some (nI (st1 n Dm B w h k)) := by
    cases ht : tak n Dm B w k h with
    | none => rw [if_neg (show ¬ (0 : Int32) ≤ eO32 none by decide), st1_none ht]
    | some u =>
      have hu := (tak_lt ht).1
      rw [if_pos (show (0 : Int32) ≤ eO32 (some u) from ps_le (a := 0) (b := u) (by omega) (by omega) (by omega)), st1_some ht, show eO32 (some u) = nI u from rfl, nu_or (by omega)]
  have hy1 := tb_ad hst hy (f k * 27720)
  have hd1 : ∀ F, dot n (adA g (st1 n Dm B w h k) (f k * 27720)) F = dot n g F + f k * (27720 * F (st1 n Dm B w h k)) := fun F => by rw [dot_ad hst, Nat.mul_assoc]
  unfold f_X11_passOne
  rw [m_taken hD hF hB hw hh (by omega), Option.bind_some, hA, Option.bind_some, hC, Option.bind_some, nu_get _ (show st1 n Dm B w h k < 4096 by omega) (by omega), Option.bind_some, nu_get _ (show k < 4096 by omega) (by omega), Option.bind_some, hv k hk, h27, lN_mul, nu_setL _ _ (show st1 n Dm B w h k < 4096 by omega) (by omega), Option.bind_some, m_ones (by omega), Option.bind_some]
  by_cases h0 : pc 12 k = 0
  · have hk0 := pc_z hn hk h0
    have h0n : 0 < 2 ^ n := by omega
    obtain ⟨y', g', e1, e2, e3⟩ := lpg _ _ (tb_ad h0n hy1 (f k * 27720))
    refine ⟨y', g', ?_, e2, fun F => ?_⟩
    · rw [h0, if_pos (show nI 0 = 0 from rfl), show aget 4096 (vp_updL y (st1 n Dm B w h k) (y (st1 n Dm B w h k) + lN (f k * 27720))) 0 = _ from nu_get _ (show 0 < 4096 by omega) (by omega), Option.bind_some, Option.bind_some, show asetL 4096 (vp_updL y (st1 n Dm B w h k) (y (st1 n Dm B w h k) + lN (f k * 27720))) 0 _ = _ from nu_setL _ _ (show 0 < 4096 by omega) (by omega), Option.bind_some, Option.bind_some]
      rw [h0] at e1
      rw [lN_mul, e1, Option.bind_some]
    · rw [e3 F, dot_ad h0n, hd1 F, hgo F, if_pos h0, Nat.mul_zero, Nat.add_zero]
      unfold Tm gs
      rw [if_pos h0, Nat.mul_add, hk0]
      rw [Nat.mul_assoc (f 0)]
      omega
  · obtain ⟨y', g', e1, e2, e3⟩ := lpg _ _ hy1
    refine ⟨y', g', ?_, e2, fun F => ?_⟩
    · rw [if_neg (nI_ne0 (by omega) (by omega)), Option.bind_some, e1, Option.bind_some]
    · rw [e3 F, hd1 F, hgo F, if_neg h0]
      unfold Tm
      rw [Nat.mul_add, Nat.add_assoc]
/-- one minute of the reference -/
theorem m_min1 {n : Nat} {Dm : Nat → Nat → Nat} {B h : Nat} {w : Nat → Nat} {fm fw : Nat → Int32} {vn vt : Nat → Int64} {f : Nat → Nat} {a : Nat} (hD : Dok n Dm) (hF : FarM n Dm fm) (hB : B ≤ 99) (hw : Wor n w fw) (hh : h < 6) (hv : ∀ S, S < 2 ^ n → vn S = lN (f S)) (hfb : ∀ S, S < 2 ^ n → f S < 2 ^ 62) : ∃ y' g', f_X11_passMinutes_100 (nI n) (nI B) fm fw (nI h) vn FU 0 (lN a) (fun j => if j < 2 ^ n then 0 else vt j) = some (lN (a + sm (fun k => if tak n Dm B w k h = none then f k * 27720 else 0) (2 ^ n)), y') ∧ (∀ S, S < 2 ^ n → y' S = lN (g' S)) ∧ ∀ F, dot n g' F = dot n f (Tm n Dm B w h F) := by
  have hn := hD.1
  have hp12 : 2 ^ n ≤ 2 ^ 12 := Nat.pow_le_pow_right (by omega) hn
  obtain ⟨s', m, k1, k2⟩ := lp_inv (fun m i (z : Int64 × (Nat → Int64)) => f_X11_passMinutes_100 (nI n) (nI B) fm fw (nI h) vn m (nI i) z.1 z.2) (2 ^ n) (fun i z => z.1 = lN (a + sm (fun k => if tak n Dm B w k h = none then f k * 27720 else 0) i) ∧ ∃ g', (∀ S, S < 2 ^ n → z.2 S = lN (g' S)) ∧ ∀ F, dot n g' F = sm (fun k => f k * Tm n Dm B w h F k) i) (fun m i z hi hI => by
    obtain ⟨i1, g, i2, i3⟩ := hI
    have hfi := hfb i hi
    by_cases h0 : f i = 0
    · refine ⟨z, ⟨?_, g, i2, fun F => ?_⟩, ?_⟩
      · rw [i1]
        show _ = lN (a + (sm (fun k => if tak n Dm B w k h = none then f k * 27720 else 0) i + (if tak n Dm B w i h = none then f i * 27720 else 0)))
        rw [h0, Nat.zero_mul]
        congr 2
        split <;> rfl
      · rw [i3 F]
        show _ = sm (fun k => f k * Tm n Dm B w h F k) i + f i * Tm n Dm B w h F i
        rw [h0, Nat.zero_mul, Nat.add_zero]
      · try dsimp only
        rw [f_X11_passMinutes_100_s, nu_shl (by omega), if_neg (ng_le (by omega) (by omega) hi), nu_get _ (show i < 4096 by omega) (by omega), Option.bind_some, hv i hi, h0, if_pos (show lg_cmp (lN 0) 0 ≤ 0 by decide), Option.bind_some, nI_1]
    · obtain ⟨y', g', e1, e2, e3⟩ := m_pass1 (a := a + sm (fun k => if tak n Dm B w k h = none then f k * 27720 else 0) i) hD hF hB hw hh hi hv i2
      refine ⟨(lN (a + sm (fun k => if tak n Dm B w k h = none then f k * 27720 else 0) i + (if tak n Dm B w i h = none then f i * 27720 else 0)), y'), ⟨?_, g', e2, fun F => ?_⟩, ?_⟩
      · show _ = lN (a + (sm (fun k => if tak n Dm B w k h = none then f k * 27720 else 0) i + (if tak n Dm B w i h = none then f i * 27720 else 0)))
        rw [Nat.add_assoc]
      · rw [e3 F, i3 F]
        rfl
      · try dsimp only
        rw [f_X11_passMinutes_100_s, nu_shl (by omega), if_neg (ng_le (by omega) (by omega) hi), nu_get _ (show i < 4096 by omega) (by omega), Option.bind_some, hv i hi, if_neg (show ¬ lg_cmp (lN (f i)) 0 ≤ 0 from fun e => by
          have h1 : (0 : Int32) < lg_cmp (lN (f i)) 0 := (lc_gt _ _).mpr ((pk_lLT (a := 0) (by omega) (by omega)).mpr (by omega))
          exact Int32.lt_irrefl (Int32.lt_of_lt_of_le h1 e)), i1, e1, Option.bind_some, Option.bind_some, nI_1]) FU 0 (lN a, fun j => if j < 2 ^ n then 0 else vt j) (Nat.zero_le _) (by rw [FU_eq]; omega) (by
    refine ⟨?_, fun _ => 0, fun S hS => ?_, fun F => ?_⟩
    · show lN a = lN (a + 0)
      rw [Nat.add_zero]
    · show (if S < 2 ^ n then (0 : Int64) else vt S) = _
      rw [if_pos hS]; rfl
    · show sm (fun k => 0 * F k) (2 ^ n) = 0
      rw [sm_congr (g := fun _ => 0) _ (fun k _ => Nat.zero_mul _), sm_0])
  obtain ⟨i1, g', i2, i3⟩ := k1
  refine ⟨s'.2, g', ?_, i2, i3⟩
  have k2' : f_X11_passMinutes_100 (nI n) (nI B) fm fw (nI h) vn FU 0 (lN a) (fun j => if j < 2 ^ n then 0 else vt j) = _ := k2
  rw [k2', f_X11_passMinutes_100_s, nu_shl (by omega), if_pos (ps_le (by omega) (by omega) (Nat.le_refl _)), i1]
theorem m_pm64 {n : Nat} (hn : n ≤ 12) (vt : Nat → Int64) : f_X11_passMinutes_64 (nI n) FU 0 vt = some (fun j => if j < 2 ^ n then 0 else vt j) := by
  have hp12 : 2 ^ n ≤ 2 ^ 12 := Nat.pow_le_pow_right (by omega) hn
  refine lp_at (fun m i y => f_X11_passMinutes_64 (nI n) m (nI i) y) (2 ^ n) (fun i j => if j < i then 0 else vt j) (by funext j; simp) (by omega) ?_ ?_
  · intro m
    rw [f_X11_passMinutes_64_s, nu_shl (by omega), if_pos (ps_le (by omega) (by omega) (Nat.le_refl _))]
  · intro m i hi
    rw [f_X11_passMinutes_64_s, nu_shl (by omega), if_neg (ng_le (by omega) (by omega) hi), nu_setL _ _ (show i < 4096 by omega) (by omega), Option.bind_some, nI_1, updL_lt (f := fun _ => 0) rfl]
theorem m_pm135 {n : Nat} (hn : n ≤ 12) (u : Int64 × (Nat → Int64)) (vn : Nat → Int64) : f_X11_passMinutes_135 (nI n) u FU 0 vn = some (fun j => if j < 2 ^ n then u.2 j else vn j) := by
  have hp12 : 2 ^ n ≤ 2 ^ 12 := Nat.pow_le_pow_right (by omega) hn
  refine lp_at (fun m i y => f_X11_passMinutes_135 (nI n) u m (nI i) y) (2 ^ n) (fun i j => if j < i then u.2 j else vn j) (by funext j; simp) (by omega) ?_ ?_
  · intro m
    rw [f_X11_passMinutes_135_s, nu_shl (by omega), if_pos (ps_le (by omega) (by omega) (Nat.le_refl _))]
  · intro m i hi
    rw [f_X11_passMinutes_135_s, nu_shl (by omega), if_neg (ng_le (by omega) (by omega) hi), nu_get _ (show i < 4096 by omega) (by omega), Option.bind_some, nu_setL _ _ (show i < 4096 by omega) (by omega), Option.bind_some, nI_1, updL_lt (f := fun j => u.2 j) rfl]
theorem m_pm11 {n S : Nat} (hn : n ≤ 12) (hS : S < 2 ^ n) (vn : Nat → Int64) : f_X11_passMinutes_11 (nI n) (nI S) FU 0 vn = some (fun j => if j < 2 ^ n then (if j = S then 1 else 0) else vn j) := by
  have hp12 : 2 ^ n ≤ 2 ^ 12 := Nat.pow_le_pow_right (by omega) hn
  refine lp_at (fun m i y => f_X11_passMinutes_11 (nI n) (nI S) m (nI i) y) (2 ^ n) (fun i j => if j < i then (if j = S then 1 else 0) else vn j) (by funext j; simp) (by omega) ?_ ?_
  · intro m
    rw [f_X11_passMinutes_11_s, nu_shl (by omega), if_pos (ps_le (by omega) (by omega) (Nat.le_refl _))]
  · intro m i hi
    have e : (if nI i = nI S then some (1 : Int64) else some 0) = some (if i = S then 1 else 0) := by
      by_cases h : i = S
      · rw [if_pos (by rw [h]), if_pos h]
      · rw [if_neg (fun e => h ((nI_eq (by omega) (by omega)).mp e)), if_neg h]
    rw [f_X11_passMinutes_11_s, nu_shl (by omega), if_neg (ng_le (by omega) (by omega) hi), e, Option.bind_some, nu_setL _ _ (show i < 4096 by omega) (by omega), Option.bind_some, nI_1, updL_lt (f := fun j => if j = S then 1 else 0) rfl]
theorem m_minutes {n : Nat} {Dm : Nat → Nat → Nat} {B h S M : Nat} {w : Nat → Nat} {fm fw : Nat → Int32} {vn vt : Nat → Int64} (hD : Dok n Dm) (hF : FarM n Dm fm) (hB : B ≤ 99) (hw : Wor n w fw) (hh : h < 6) (hS : S < 2 ^ n) (hM : M ≤ 3) : ∃ y1 y2 f, f_X11_passMinutes (nI n) (nI B) vn vt fm fw (nI S) (nI h) (nI M) = some (lN (aF n Dm B w h M S), lN (55440 ^ M), y1, y2) ∧ (∀ k, k < 2 ^ n → y1 k = lN (f k)) ∧ ∀ F, dot n f F = pF n Dm B w h F M S := by
  have hn := hD.1
  have hp12 : 2 ^ n ≤ 2 ^ 12 := Nat.pow_le_pow_right (by omega) hn
  have h55 : (55440 : Int64) = lN 55440 := rfl
  obtain ⟨s', m, k1, k2⟩ := lp_inv (fun m i (z : Int64 × Int64 × (Nat → Int64) × (Nat → Int64)) => f_X11_passMinutes_55 (nI n) (nI B) fm fw (nI h) (nI M) m (nI i) z.1 z.2.1 z.2.2.1 z.2.2.2) M (fun i z => ∃ a f, z.1 = lN a ∧ z.2.1 = lN (55440 ^ i) ∧ (∀ k, k < 2 ^ n → z.2.2.1 k = lN (f k)) ∧ dot n f (fun _ => 1) ≤ 55440 ^ i ∧ (∀ F, dot n f (pF n Dm B w h F (M - i)) = pF n Dm B w h F M S) ∧ a * 55440 ^ (M - i) + dot n f (aF n Dm B w h (M - i)) = aF n Dm B w h M S) (fun m i z hi hI => by
    obtain ⟨a, f, i1, i2, i3, i4, i5, i6⟩ := hI
    have hpw : 55440 ^ i ≤ 55440 ^ 3 := Nat.pow_le_pow_right (by omega) (by omega)
    obtain ⟨j, hj⟩ : ∃ j, M - i = j + 1 := ⟨M - i - 1, by omega⟩
    have hj' : M - (i + 1) = j := by omega
    have hfb : ∀ S, S < 2 ^ n → f S < 2 ^ 62 := fun S hS => by
      have h1 := sm_ge (f := fun k => f k * (fun _ => 1) k) (2 ^ n) hS
      have h2 : f S * 1 ≤ dot n f (fun _ => 1) := h1
      omega
    obtain ⟨y', g', e1, e2, e3⟩ := m_min1 (vt := z.2.2.2) (a := a * 55440) hD hF hB hw hh i3 hfb
    refine ⟨(lN (a * 55440 + sm (fun k => if tak n Dm B w k h = none then f k * 27720 else 0) (2 ^ n)), lN (55440 ^ (i + 1)), (fun j => if j < 2 ^ n then y' j else z.2.2.1 j), y'), ⟨a * 55440 + sm (fun k => if tak n Dm B w k h = none then f k * 27720 else 0) (2 ^ n), g', rfl, rfl, fun k hk => ?_, ?_, fun F => ?_, ?_⟩, ?_⟩
    · show (if k < 2 ^ n then y' k else _) = _
      rw [if_pos hk, e2 k hk]
    · rw [e3]
      have h1 : dot n f (Tm n Dm B w h (fun _ => 1)) ≤ sm (fun k => 55440 * (f k * 1)) (2 ^ n) := by
        apply sm_mono
        intro k _
        have := Tm_le (n := n) (Dm := Dm) (B := B) (w := w) (h := h) (F := fun _ => 1) (c := 1) (fun _ => Nat.le_refl _) k
        rw [Nat.mul_one] at this
        rw [Nat.mul_one, Nat.mul_comm 55440]
        exact Nat.mul_le_mul_left _ this
      rw [sm_mul] at h1
      have h2 : sm (fun k => f k * 1) (2 ^ n) ≤ 55440 ^ i := i4
      rw [Nat.pow_succ]
      omega
    · rw [e3, hj', ← i5 F, hj]
      rfl
    · rw [e3, hj', ← i6, hj, Nat.add_mul, Nat.mul_assoc, ← Nat.pow_succ', Nat.add_assoc]
      congr 1
      have h1 : dot n f (aF n Dm B w h (j + 1)) = sm (fun k => 55440 ^ j * (if tak n Dm B w k h = none then f k * 27720 else 0) + f k * Tm n Dm B w h (aF n Dm B w h j) k) (2 ^ n) := by
        apply sm_congr
        intro k _
        show f k * ((if tak n Dm B w k h = none then 55440 ^ j * 27720 else 0) + Tm n Dm B w h (aF n Dm B w h j) k) = _
        rw [Nat.mul_add]
        congr 1
        by_cases e : tak n Dm B w k h = none
        · rw [if_pos e, if_pos e, Nat.mul_left_comm]
        · rw [if_neg e, if_neg e]; rfl
      rw [h1, sm_add, sm_mul, Nat.mul_comm]
      rfl
    · try dsimp only
      rw [f_X11_passMinutes_55_s, if_neg (ng_le (by omega) (by omega) hi), m_pm64 hn, Option.bind_some, i1, h55, lN_mul, e1, Option.bind_some, m_pm135 hn, Option.bind_some, i2, lN_mul, nI_1, Nat.pow_succ]) FU 0 (0, 1, (fun j => if j < 2 ^ n then (if j = S then 1 else 0) else vn j), vt) (Nat.zero_le _) (by rw [FU_eq]; omega) ⟨0, fun k => if k = S then 1 else 0, rfl, rfl, fun k hk => by
      show (if k < 2 ^ n then (if k = S then (1 : Int64) else 0) else vn k) = _
      rw [if_pos hk]
      show _ = lN (if k = S then 1 else 0)
      by_cases e : k = S
      · rw [if_pos e, if_pos e]; rfl
      · rw [if_neg e, if_neg e]; rfl, by
      show sm (fun k => (if k = S then 1 else 0) * 1) (2 ^ n) ≤ 1
      rw [sm_congr (g := fun k => if k = S then 1 else 0) _ (fun k _ => Nat.mul_one _), sm_one, if_pos hS]
      exact Nat.le_refl _, fun F => by
      show sm (fun k => (if k = S then 1 else 0) * pF n Dm B w h F (M - 0) k) (2 ^ n) = _
      rw [sm_congr (g := fun k => if k = S then pF n Dm B w h F M S else 0) _ (fun k _ => by
        by_cases e : k = S
        · rw [if_pos e, if_pos e, Nat.one_mul, e]; rfl
        · rw [if_neg e, if_neg e, Nat.zero_mul]), sm_one, if_pos hS], by
      show 0 * 55440 ^ (M - 0) + sm (fun k => (if k = S then 1 else 0) * aF n Dm B w h (M - 0) k) (2 ^ n) = _
      rw [Nat.zero_mul, Nat.zero_add, sm_congr (g := fun k => if k = S then aF n Dm B w h M S else 0) _ (fun k _ => by
        by_cases e : k = S
        · rw [if_pos e, if_pos e, Nat.one_mul, e]; rfl
        · rw [if_neg e, if_neg e, Nat.zero_mul]), sm_one, if_pos hS]⟩
  obtain ⟨a, f, i1, i2, i3, i4, i5, i6⟩ := k1
  rw [Nat.sub_self] at i5 i6
  refine ⟨s'.2.2.1, s'.2.2.2, f, ?_, i3, i5⟩
  have hz : dot n f (aF n Dm B w h 0) = 0 := by
    show sm (fun k => f k * 0) (2 ^ n) = 0
    rw [sm_congr (g := fun _ => 0) _ (fun k _ => Nat.mul_zero _), sm_0]
  rw [hz, Nat.pow_zero, Nat.mul_one, Nat.add_zero] at i6
  have k2' : f_X11_passMinutes_55 (nI n) (nI B) fm fw (nI h) (nI M) FU 0 0 1 (fun j => if j < 2 ^ n then (if j = S then 1 else 0) else vn j) vt = _ := k2
  unfold f_X11_passMinutes
  rw [m_pm11 hn hS, Option.bind_some, k2', f_X11_passMinutes_55_s, if_pos (ps_le (by omega) (by omega) (Nat.le_refl _)), Option.bind_some, i1, i2, i6]
theorem m_min39 {n : Nat} {c : Nat} {f : Nat → Nat} {u1 u2 : Int64} {y1 y2 : Nat → Int64} (hn : n ≤ 12) (hc : c ≤ 12) (hy : ∀ k, k < 2 ^ n → y1 k = lN (f k)) : f_X11_minutes_39 (nI n) (nI c) (u1, u2, y1, y2) FU 0 0 = some (lN (dot n f (ind c))) := by
  have hp12 : 2 ^ n ≤ 2 ^ 12 := Nat.pow_le_pow_right (by omega) hn
  refine lp_at (fun m i y => f_X11_minutes_39 (nI n) (nI c) (u1, u2, y1, y2) m y (nI i)) (2 ^ n) (fun i => lN (sm (fun k => f k * ind c k) i)) rfl (by omega) ?_ ?_
  · intro m
    rw [f_X11_minutes_39_s, nu_shl (by omega), if_pos (ps_le (by omega) (by omega) (Nat.le_refl _))]
    rfl
  · intro m i hi
    have hpi := pc_le i 12
    rw [f_X11_minutes_39_s, nu_shl (by omega), if_neg (ng_le (by omega) (by omega) hi), m_ones (by omega), Option.bind_some]
    show _ = f_X11_minutes_39 (nI n) (nI c) (u1, u2, y1, y2) m (lN (sm (fun k => f k * ind c k) i + f i * ind c i)) (nI (i + 1))
    unfold ind
    by_cases e : pc 12 i = c
    · rw [if_pos (show nI (pc 12 i) = nI c by rw [e]), nu_get _ (show i < 4096 by omega) (by omega), Option.bind_some, Option.bind_some]
      dsimp only
      rw [hy i hi, lN_add, if_pos e, Nat.mul_one, nI_1]
    · rw [if_neg (fun h => e ((nI_eq (by omega) (by omega)).mp h)), Option.bind_some, if_neg e, Nat.mul_zero, show (0 : Int64) = lN 0 from rfl, lN_add, nI_1]
end MN3
