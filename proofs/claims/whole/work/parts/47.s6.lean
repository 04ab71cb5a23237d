/-! steps: see, judge, fits -/
section ST6
theorem rset_congr {row row' : Nat → Nat} : ∀ m, (∀ j, j < m → row j = row' j) → rset row m = rset row' m := by
  intro m
  induction m with
  | zero => intro _; rfl
  | succ m ih =>
    intro h
    show rset row m ||| 2 ^ row m = rset row' m ||| 2 ^ row' m
    rw [ih (fun j hj => h j (by omega)), h m (by omega)]
theorem rset_lt {row : Nat → Nat} {n : Nat} : ∀ m, (∀ j, j < m → row j < n) → rset row m < 2 ^ n := by
  intro m
  induction m with
  | zero => intro _; exact Nat.pos_of_ne_zero (by simp [rset, Nat.pow_eq_zero])
  | succ m ih => intro h; exact Nat.or_lt_two_pow (ih (fun j hj => h j (by omega))) (Nat.pow_lt_pow_right (by omega) (h m (by omega)))
theorem aw_out {n : Nat} {Dm : Nat → Nat → Nat} {S s B : Nat} (hD : Dok n Dm) (hB : 1 ≤ B) (hs : s < n) (h : B ≤ aw Dm S s n) : S.testBit s = false := by
  cases hb : S.testBit s with
  | false => rfl
  | true => rw [aw_self hD hs hb] at h; omega
theorem rset_pc {n : Nat} {Dm : Nat → Nat → Nat} {B len : Nat} {row : Nat → Nat} (hD : Dok n Dm) (hB : 1 ≤ B) (h : SeenOK n Dm B row len) : ∀ m, m ≤ len → pc n (rset row m) = m := by
  intro m
  induction m with
  | zero =>
    intro _
    have : ∀ k, pc k 0 = 0 := by
      intro k
      induction k with
      | zero => rfl
      | succ k ih => simp [pc, ih]
    exact this n
  | succ m ih =>
    intro hm
    obtain ⟨h1, h2⟩ := h.2 m (by omega)
    show pc n (rset row m ||| 2 ^ row m) = m + 1
    rw [pc_or (aw_out hD hB h1 h2), ih (by omega), if_pos h1]
theorem x_seenrow {n : Nat} {Dm : Nat → Nat → Nat} {q len : Nat} {row : Nat → Nat} {b sl seen g : Nat → Int32} (hD : Dok n Dm) (hF : Far n Dm g) (hq : q < 8) (hl : len ≤ 12) (hsl : sl q = nI len) (hrow : ∀ j, j < len → row j < n ∧ seen (12 * q + j) = nI (row j)) : f_X10_seatSeenRow_9 (nI n) sl seen g (nI q) FU 0 0 (NF n Dm b 0) = some (nI (rset row len), NF n Dm b (rset row len)) := by
  refine lp_at2 (fun m i z z' => f_X10_seatSeenRow_9 (nI n) sl seen g (nI q) m (nI i) z z') len (fun i => nI (rset row i)) (fun i => NF n Dm b (rset row i)) rfl rfl (by omega) ?_ ?_
  · intro m
    rw [f_X10_seatSeenRow_9_s, nu_get _ hq (by omega), Option.bind_some, hsl, if_pos (ps_le (by omega) (by omega) (Nat.le_refl _))]
  · intro m i hi
    obtain ⟨h1, h2⟩ := hrow i hi
    rw [f_X10_seatSeenRow_9_s, nu_get _ hq (by omega), Option.bind_some, hsl, if_neg (ng_le (by omega) (by omega) hi)]
    unfold f_X7_seenSeat
    rw [nu_ix, nu_get _ (show q * 12 + i < 96 by omega) (by omega), Option.bind_some, Option.bind_some, show q * 12 + i = 12 * q + i by omega, h2, x_sitN hD hF h1, Option.bind_some, nI_1]
    rfl
theorem m_seenset {n q len : Nat} {row : Nat → Nat} {seen : Nat → Int32} (hq : q < 8) (hl : len ≤ 12) (hn : n ≤ 12) (hrow : ∀ j, j < len → row j < n ∧ seen (12 * q + j) = nI (row j)) : f_X11_seenSet seen (nI q) (nI len) = some (nI (rset row len)) := by
  have h : f_X11_seenSet_5 seen (nI q) (nI len) FU 0 0 = some (nI (rset row len)) := by
    refine lp_at (fun m i z => f_X11_seenSet_5 seen (nI q) (nI len) m z (nI i)) len (fun i => nI (rset row i)) rfl (by omega) ?_ ?_
    · intro m
      rw [f_X11_seenSet_5_s, if_pos (ps_le (by omega) (by omega) (Nat.le_refl _))]
    · intro m i hi
      obtain ⟨h1, h2⟩ := hrow i hi
      rw [f_X11_seenSet_5_s, if_neg (ng_le (by omega) (by omega) hi), nu_ix', nu_get _ (show 12 * q + i < 96 by omega) (by omega), Option.bind_some, h2, nu_or (by omega), nI_1]
      rfl
  unfold f_X11_seenSet
  rw [h, Option.bind_some]
/-- the first that is not so -/
def fmi (ok : Nat → Bool) : Nat → Option Nat
  | 0 => none
  | m + 1 => match fmi ok m with
    | some k => some k
    | none => if ok m then none else some m
theorem fmi_none {ok : Nat → Bool} : ∀ {m : Nat}, fmi ok m = none → ∀ k, k < m → ok k = true := by
  intro m
  induction m with
  | zero => intro _ k hk; omega
  | succ m ih =>
    intro h k hk
    unfold fmi at h
    cases hm : fmi ok m with
    | some j => rw [hm] at h; cases h
    | none =>
      rw [hm] at h
      by_cases e : k = m
      · subst e
        cases ho : ok k with
        | true => rfl
        | false => simp [ho] at h
      · exact ih hm k (by omega)
theorem fmi_some {ok : Nat → Bool} : ∀ {m k : Nat}, fmi ok m = some k → k < m ∧ ok k = false ∧ ∀ j, j < k → ok j = true := by
  intro m
  induction m with
  | zero => intro k h; cases h
  | succ m ih =>
    intro k h
    unfold fmi at h
    cases hm : fmi ok m with
    | some j =>
      rw [hm] at h
      cases h
      have := ih hm
      exact ⟨by omega, this.2⟩
    | none =>
      rw [hm] at h
      cases ho : ok m with
      | true => simp [ho] at h
      | false =>
        simp [ho] at h
        subst h
        exact ⟨by omega, ho, fmi_none hm⟩
/-- the seat of the row is the habit's -/
def okR (n : Nat) (Dm : Nat → Nat → Nat) (B : Nat) (w : Nat → Nat) (h : Nat) (row : Nat → Nat) (k : Nat) : Bool := decide (tak n Dm B w (rset row k) h = some (row k))
theorem okR_t {n : Nat} {Dm : Nat → Nat → Nat} {B : Nat} {w : Nat → Nat} {h : Nat} {row : Nat → Nat} {k : Nat} (hn : n ≤ 12) (hr : row k < n) : (eO32 (tak n Dm B w (rset row k) h) = nI (row k)) ↔ okR n Dm B w h row k = true := by
  unfold okR
  rw [decide_eq_true_eq]
  cases ht : tak n Dm B w (rset row k) h with
  | none =>
    constructor
    · intro e
      exact absurd e.symm (eO32_neg (by omega))
    · intro e; cases e
  | some s =>
    have hs := (tak_lt ht).1
    show (nI s = nI (row k)) ↔ _
    rw [nI_eq (by omega) (by omega)]
    constructor
    · intro e; rw [e]
    · intro e; exact Option.some.inj e
def misQ (n : Nat) (Dm : Nat → Nat → Nat) (B : Nat) (w : Nat → Nat) (h : Nat) (sn ln : Nat → Nat) (q : Nat) : Option Nat := fmi (okR n Dm B w h (fun j => sn (12 * q + j))) (ln q)
def misV (n : Nat) (Dm : Nat → Nat → Nat) (B : Nat) (w : Nat → Nat) (h : Nat) (sn ln : Nat → Nat) (r : Nat) : Int32 := match fmi (fun q => (misQ n Dm B w h sn ln q).isNone) r with
  | none => -6
  | some q => match misQ n Dm B w h sn ln q with
    | none => -6
    | some k => nI (100 * q + k)
theorem x_row {n : Nat} {Dm : Nat → Nat → Nat} {B q len h : Nat} {w row : Nat → Nat} {b sl seen g fw fb un : Nat → Int32} {u : Int32} (hD : Dok n Dm) (hB : B ≤ 99) (hF : Far n Dm g) (hw : Wor n w fw) (hnb : Nbs n Dm fb) (hh : h < 6) (hq : q < 8) (hl : len ≤ 12) (hsl : sl q = nI len) (hrow : ∀ j, j < len → row j < n ∧ seen (12 * q + j) = nI (row j)) :
    (fmi (okR n Dm B w h row) len = none → ∃ z, f_X10_firstMisfit_22 (nI n) sl seen fw fb g (nI h) (nI q) (u, nI B, un) FU 0 0 (NF n Dm b 0) = some (Sum.inl z)) ∧
    (∀ k, fmi (okR n Dm B w h row) len = some k → ∃ z, f_X10_firstMisfit_22 (nI n) sl seen fw fb g (nI h) (nI q) (u, nI B, un) FU 0 0 (NF n Dm b 0) = some (Sum.inr (nI (100 * q + k), z))) := by
  have hn := hD.1
  have hgo : ∀ (k : Nat) (o : (Int32 × (Nat → Int32)) ⊕ (Int32 × Int32 × Int32 × (Nat → Int32))), k ≤ len → (∀ j, j < k → okR n Dm B w h row j = true) → (∀ m, f_X10_firstMisfit_22 (nI n) sl seen fw fb g (nI h) (nI q) (u, nI B, un) (m + 1) (nI k) (nI (rset row k)) (NF n Dm b (rset row k)) = some o) → f_X10_firstMisfit_22 (nI n) sl seen fw fb g (nI h) (nI q) (u, nI B, un) FU 0 0 (NF n Dm b 0) = some o := by
    intro k o hk hok hx
    refine lp_at2 (fun m i z z' => f_X10_firstMisfit_22 (nI n) sl seen fw fb g (nI h) (nI q) (u, nI B, un) m (nI i) z z') k (fun i => nI (rset row i)) (fun i => NF n Dm b (rset row i)) rfl rfl (by omega) hx ?_
    intro m i hi
    obtain ⟨h1, h2⟩ := hrow i (by omega)
    rw [f_X10_firstMisfit_22_s, nu_get _ hq (by omega), Option.bind_some, hsl, if_neg (ng_le (by omega) (by omega) (by omega))]
    unfold f_X7_seenSeat
    rw [nu_ix, nu_get _ (show q * 12 + i < 96 by omega) (by omega), Option.bind_some, Option.bind_some, show q * 12 + i = 12 * q + i by omega, h2, x_choice hn (by omega) (NF_nea _ _ _ _) hw hnb hh, Option.bind_some, if_pos ((okR_t hn h1).mpr (hok i hi)), x_sitN hD hF h1, Option.bind_some, nI_1]
    rfl
  constructor
  · intro hno
    exact ⟨_, hgo len _ (Nat.le_refl _) (fmi_none hno) (fun m => by rw [f_X10_firstMisfit_22_s, nu_get _ hq (by omega), Option.bind_some, hsl, if_pos (ps_le (by omega) (by omega) (Nat.le_refl _))])⟩
  · intro k hk
    obtain ⟨k1, k2, k3⟩ := fmi_some hk
    obtain ⟨h1, h2⟩ := hrow k k1
    refine ⟨_, hgo k _ (by omega) k3 (fun m => by
      rw [f_X10_firstMisfit_22_s, nu_get _ hq (by omega), Option.bind_some, hsl, if_neg (ng_le (by omega) (by omega) k1)]
      unfold f_X7_seenSeat
      rw [nu_ix, nu_get _ (show q * 12 + k < 96 by omega) (by omega), Option.bind_some, Option.bind_some, show q * 12 + k = 12 * q + k by omega, h2, x_choice hn (by omega) (NF_nea _ _ _ _) hw hnb hh, Option.bind_some, if_neg (fun e => by rw [(okR_t hn h1).mp e] at k2; cases k2), show (100 : Int32) = nI 100 from rfl, pk_mul, nI_add])⟩
theorem m_row {n : Nat} {Dm : Nat → Nat → Nat} {B q len h : Nat} {w row : Nat → Nat} {sl seen g fw : Nat → Int32} (hD : Dok n Dm) (hB : B ≤ 99) (hF : FarM n Dm g) (hw : Wor n w fw) (hh : h < 6) (hq : q < 8) (hl : len ≤ 12) (hsl : sl q = nI len) (hrow : ∀ j, j < len → row j < n ∧ seen (12 * q + j) = nI (row j)) :
    (fmi (okR n Dm B w h row) len = none → f_X11_judged_12 (nI n) (nI B) sl seen g fw (nI h) (nI q) FU 0 = some (Sum.inl ())) ∧
    (∀ k, fmi (okR n Dm B w h row) len = some k → f_X11_judged_12 (nI n) (nI B) sl seen g fw (nI h) (nI q) FU 0 = some (Sum.inr (nI (100 * q + k)))) := by
  have hn := hD.1
  have hp12 : 2 ^ n ≤ 2 ^ 12 := Nat.pow_le_pow_right (by omega) hn
  have hone : ∀ m i, i < len → f_X11_judged_12 (nI n) (nI B) sl seen g fw (nI h) (nI q) (m + 1) (nI i) = if okR n Dm B w h row i = true then f_X11_judged_12 (nI n) (nI B) sl seen g fw (nI h) (nI q) m (nI (i + 1)) else some (Sum.inr (nI (100 * q + i))) := by
    intro m i hi
    obtain ⟨h1, h2⟩ := hrow i hi
    have hlt := rset_lt (row := row) (n := n) i (fun j hj => (hrow j (by omega)).1)
    rw [f_X11_judged_12_s, nu_get _ hq (by omega), Option.bind_some, hsl, if_neg (ng_le (by omega) (by omega) hi), m_seenset hq (show i ≤ 12 by omega) hn (fun j hj => hrow j (by omega)), Option.bind_some, m_taken hD hF hB hw hh (by omega), Option.bind_some, nu_ix', nu_get _ (show 12 * q + i < 96 by omega) (by omega), Option.bind_some, h2]
    cases ho : okR n Dm B w h row i with
    | true => rw [if_pos ((okR_t hn h1).mpr ho), nI_1, if_pos rfl]
    | false => rw [if_neg (fun e => by rw [(okR_t hn h1).mp e] at ho; cases ho), if_neg (by decide), show (100 : Int32) = nI 100 from rfl, pk_mul, nI_add]
  have hgo : ∀ (k : Nat) (o : Unit ⊕ Int32), k ≤ len → (∀ j, j < k → okR n Dm B w h row j = true) → (∀ m, f_X11_judged_12 (nI n) (nI B) sl seen g fw (nI h) (nI q) (m + 1) (nI k) = some o) → f_X11_judged_12 (nI n) (nI B) sl seen g fw (nI h) (nI q) FU 0 = some o := by
    intro k o hk hok hx
    refine lp_at (fun m i (_ : Unit) => f_X11_judged_12 (nI n) (nI B) sl seen g fw (nI h) (nI q) m (nI i)) k (fun _ => ()) (s0 := ()) rfl (by omega) hx ?_
    intro m i hi
    rw [hone m i (by omega), if_pos (hok i hi)]
  constructor
  · intro hno
    exact hgo len _ (Nat.le_refl _) (fmi_none hno) (fun m => by rw [f_X11_judged_12_s, nu_get _ hq (by omega), Option.bind_some, hsl, if_pos (ps_le (by omega) (by omega) (Nat.le_refl _))])
  · intro k hk
    obtain ⟨k1, k2, k3⟩ := fmi_some hk
    exact hgo k _ (by omega) k3 (fun m => by rw [hone m k k1, k2, if_neg (by decide)])
end ST6
