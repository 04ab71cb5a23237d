/-! rows of any length: the farthest rule, by gaps -/
section RW1
def bt (x : Nat) : Nat := btF 201 x
theorem btF_s (f x : Nat) : btF (f + 1) x = if x < 3 then 0 else 1 + btF f ((x - 1) / 2) + btF f (x - 1 - (x - 1) / 2) := rfl
theorem btF_fu : ∀ f f' x, x < f → x < f' → btF f x = btF f' x := by
  intro f
  induction f with
  | zero => intro f' x h; omega
  | succ f ih =>
    intro f' x h1 h2
    obtain ⟨g, rfl⟩ : ∃ g, f' = g + 1 := ⟨f' - 1, by omega⟩
    rw [btF_s, btF_s]
    by_cases h : x < 3
    · rw [if_pos h, if_pos h]
    · rw [if_neg h, if_neg h, ih g ((x - 1) / 2) (by omega) (by omega), ih g (x - 1 - (x - 1) / 2) (by omega) (by omega)]
theorem bt_eq {x : Nat} (hx : x ≤ 200) : bt x = if x < 3 then 0 else 1 + bt ((x - 1) / 2) + bt (x - 1 - (x - 1) / 2) := by
  have e : bt x = btF 202 x := btF_fu 201 202 x (by omega) (by omega)
  rw [e, btF_s]
  rfl
theorem btF_le : ∀ f x, btF f x ≤ x := by
  intro f
  induction f with
  | zero => intro x; exact Nat.zero_le _
  | succ f ih =>
    intro x
    rw [btF_s]
    by_cases h : x < 3
    · rw [if_pos h]; omega
    · rw [if_neg h]
      have h1 := ih ((x - 1) / 2)
      have h2 := ih (x - 1 - (x - 1) / 2)
      omega
theorem bt_le (x : Nat) : bt x ≤ x := btF_le 201 x
def endp (x : Nat) : Nat := if x < 2 then 0 else 1 + bt (x - 1)
theorem endp_le (x : Nat) : endp x ≤ x := by
  unfold endp
  have := bt_le (x - 1)
  split <;> omega
/-- who sits next below -/
def prv (T : Nat → Bool) : Nat → Option Nat
  | 0 => none
  | r + 1 => if T r then some r else prv T r
def cs (o : Option Nat) (r : Nat) : Nat := match o with
  | none => endp r
  | some l => bt (r - l - 1)
def psm (T : Nat → Bool) : Nat → Nat
  | 0 => 0
  | r + 1 => psm T r + (if T r then cs (prv T r) r else 0)
def fin (n : Nat) (o : Option Nat) : Nat := match o with
  | none => 0
  | some l => endp (n - 1 - l)
def pot (n : Nat) (T : Nat → Bool) : Nat := psm T n + fin n (prv T n)
def ad (T : Nat → Bool) (x : Nat) : Nat → Bool := fun k => T k || decide (k = x)
theorem ad_x (T : Nat → Bool) (x : Nat) : ad T x x = true := by simp [ad]
theorem ad_n {T : Nat → Bool} {x k : Nat} (h : k ≠ x) : ad T x k = T k := by simp [ad, h]
theorem prv_y {T : Nat → Bool} {r : Nat} (h : T r = true) : prv T (r + 1) = some r := by unfold prv; rw [if_pos h]
theorem prv_f {T : Nat → Bool} {r : Nat} (h : T r = false) : prv T (r + 1) = prv T r := by
  show (if T r then some r else prv T r) = _
  rw [if_neg (by rw [h]; decide)]
theorem psm_y {T : Nat → Bool} {r : Nat} (h : T r = true) : psm T (r + 1) = psm T r + cs (prv T r) r := by
  show psm T r + (if T r then cs (prv T r) r else 0) = _
  rw [if_pos h]
theorem psm_f {T : Nat → Bool} {r : Nat} (h : T r = false) : psm T (r + 1) = psm T r := by
  show psm T r + (if T r then cs (prv T r) r else 0) = _
  rw [if_neg (by rw [h]; decide), Nat.add_zero]
theorem prv_some {T : Nat → Bool} : ∀ {m l : Nat}, prv T m = some l → l < m ∧ T l = true ∧ ∀ k, l < k → k < m → T k = false := by
  intro m
  induction m with
  | zero => intro l h; cases h
  | succ m ih =>
    intro l h
    cases ht : T m with
    | true =>
      rw [prv_y ht] at h
      cases h
      exact ⟨by omega, ht, fun k h1 h2 => by omega⟩
    | false =>
      rw [prv_f ht] at h
      obtain ⟨a, b, c⟩ := ih h
      refine ⟨by omega, b, fun k h1 h2 => ?_⟩
      by_cases e : k = m
      · rw [e]; exact ht
      · exact c k h1 (by omega)
theorem prv_none {T : Nat → Bool} : ∀ {m : Nat}, prv T m = none → ∀ k, k < m → T k = false := by
  intro m
  induction m with
  | zero => intro _ k hk; omega
  | succ m ih =>
    intro h k hk
    cases ht : T m with
    | true => rw [prv_y ht] at h; cases h
    | false =>
      rw [prv_f ht] at h
      by_cases e : k = m
      · rw [e]; exact ht
      · exact ih h k (by omega)
theorem ad_lo {T : Nat → Bool} {x : Nat} : ∀ m, m ≤ x → prv (ad T x) m = prv T m ∧ psm (ad T x) m = psm T m := by
  intro m
  induction m with
  | zero => intro _; exact ⟨rfl, rfl⟩
  | succ m ih =>
    intro h
    obtain ⟨i1, i2⟩ := ih (by omega)
    have e := ad_n (T := T) (x := x) (k := m) (by omega)
    cases ht : T m with
    | true =>
      rw [ht] at e
      rw [prv_y e, prv_y ht, psm_y e, psm_y ht, i1, i2]
      exact ⟨rfl, rfl⟩
    | false =>
      rw [ht] at e
      rw [prv_f e, prv_f ht, psm_f e, psm_f ht, i1, i2]
      exact ⟨rfl, rfl⟩
theorem ad_hi {T : Nat → Bool} {x : Nat} (hx : T x = false) : ∀ m, x < m → ((∀ k, x < k → k < m → T k = false) ∧ prv (ad T x) m = some x ∧ prv T m = prv T x ∧ psm (ad T x) m = psm T m + cs (prv T x) x) ∨ ∃ r, x < r ∧ r < m ∧ T r = true ∧ (∀ k, x < k → k < r → T k = false) ∧ prv (ad T x) m = prv T m ∧ psm (ad T x) m + cs (prv T x) r = psm T m + cs (prv T x) x + cs (some x) r := by
  intro m
  induction m with
  | zero => intro h; omega
  | succ m ih =>
    intro h
    by_cases e : x = m
    · subst e
      left
      obtain ⟨i1, i2⟩ := ad_lo (T := T) (x := x) x (Nat.le_refl _)
      refine ⟨fun k h1 h2 => by omega, prv_y (ad_x T x), prv_f hx, ?_⟩
      rw [psm_y (ad_x T x), psm_f hx, i1, i2]
    · have e2 := ad_n (T := T) (x := x) (k := m) (by omega)
      cases ht : T m with
      | false =>
        rw [ht] at e2
        rw [prv_f e2, prv_f ht, psm_f e2, psm_f ht]
        rcases ih (by omega) with ⟨a, b, c, d⟩ | ⟨r, a, b, c, d, p, q⟩
        · left
          refine ⟨fun k h1 h2 => ?_, b, c, d⟩
          by_cases e3 : k = m
          · rw [e3]; exact ht
          · exact a k h1 (by omega)
        · right
          exact ⟨r, a, by omega, c, d, p, q⟩
      | true =>
        rw [ht] at e2
        rw [prv_y e2, prv_y ht, psm_y e2, psm_y ht]
        right
        rcases ih (by omega) with ⟨a, b, c, d⟩ | ⟨r, a, b, c, d, p, q⟩
        · refine ⟨m, by omega, by omega, ht, fun k h1 h2 => a k h1 h2, rfl, ?_⟩
          rw [b, c, d]
          omega
        · refine ⟨r, a, by omega, c, d, rfl, ?_⟩
          rw [p]
          omega
/-- how far each place is from the nearest who sits -/
def Awr (n : Nat) (T : Nat → Bool) (A : Nat → Nat) : Prop := ∀ s, s < n → (∀ t, t < n → T t = true → A s ≤ s - t + (t - s)) ∧ ∃ t, t < n ∧ T t = true ∧ A s = s - t + (t - s)
theorem Awr_ge {n : Nat} {T : Nat → Bool} {A : Nat → Nat} {s a : Nat} (h : Awr n T A) (hs : s < n) (ha : ∀ t, t < n → T t = true → a ≤ s - t + (t - s)) : a ≤ A s := by
  obtain ⟨t, h1, h2, h3⟩ := (h s hs).2
  have := ha t h1 h2
  omega
theorem tF {T : Nat → Bool} {k : Nat} (h : T k = false) (h2 : T k = true) : False := by rw [h] at h2; cases h2
theorem pot_step {n : Nat} {T : Nat → Bool} {A : Nat → Nat} {x : Nat} (hn : n ≤ 200) (h : Awr n T A) (hx : x < n) (h1 : 1 < A x) (hm : ∀ k, k < n → A k ≤ A x) (hf : ∀ k, k < x → A k < A x) : pot n T = pot n (ad T x) + 1 := by
  have hTx : T x = false := by
    cases ht : T x with
    | false => rfl
    | true => have := (h x hx).1 x hx ht; omega
  unfold pot
  rcases ad_hi hTx n hx with ⟨a, b, c, d⟩ | ⟨r, a, b, c, d, p, q⟩
  · rw [b, c, d]
    cases ho : prv T x with
    | none =>
      exfalso
      obtain ⟨t, t1, t2, t3⟩ := (h x hx).2
      have hno := prv_none ho
      rcases Nat.lt_or_ge t x with h' | h'
      · exact tF (hno t h') t2
      · by_cases e : t = x
        · rw [e] at t2; exact tF hTx t2
        · exact tF (a t (by omega) t1) t2
    | some l =>
      obtain ⟨l1, l2, l3⟩ := prv_some ho
      have hall : ∀ t, t < n → T t = true → t ≤ l := by
        intro t t1 t2
        rcases Nat.lt_or_ge l t with h' | h'
        · exfalso
          rcases Nat.lt_or_ge t x with h'' | h''
          · exact tF (l3 t h' h'') t2
          · by_cases e : t = x
            · rw [e] at t2; exact tF hTx t2
            · exact tF (a t (by omega) t1) t2
        · exact h'
      have e1 := (h x hx).1 l (by omega) l2
      have e2 : n - 1 - l ≤ A (n - 1) := Awr_ge h (by omega) (fun t t1 t2 => by have := hall t t1 t2; omega)
      have e3 := hm (n - 1) (by omega)
      have ex : x = n - 1 := by omega
      show psm T n + endp (n - 1 - l) = psm T n + bt (x - l - 1) + endp (n - 1 - x) + 1
      have ez : endp (n - 1 - x) = 0 := by
        rw [show n - 1 - x = 0 by omega]; rfl
      rw [ez]
      unfold endp
      rw [if_neg (by omega), show n - 1 - l - 1 = x - l - 1 by omega]
      omega
  · rw [p]
    cases ho : prv T x with
    | none =>
      rw [ho] at q
      have hno := prv_none ho
      have hall : ∀ t, t < n → T t = true → r ≤ t := by
        intro t t1 t2
        rcases Nat.lt_or_ge t r with h' | h'
        · exfalso
          rcases Nat.lt_or_ge t x with h'' | h''
          · exact tF (hno t h'') t2
          · by_cases e : t = x
            · rw [e] at t2; exact tF hTx t2
            · exact tF (d t (by omega) h') t2
        · exact h'
      have e1 := (h x hx).1 r b c
      have e2 : r ≤ A 0 := Awr_ge h (by omega) (fun t t1 t2 => by have := hall t t1 t2; omega)
      have e3 := hm 0 (by omega)
      have ex : x = 0 := by omega
      subst ex
      have q' : psm (ad T 0) n + endp r = psm T n + endp 0 + bt (r - 0 - 1) := q
      have ez : endp 0 = 0 := rfl
      have er : endp r = 1 + bt (r - 1) := by
        unfold endp
        rw [if_neg (by omega)]
      rw [ez, er, Nat.sub_zero] at q'
      omega
    | some l =>
      rw [ho] at q
      obtain ⟨l1, l2, l3⟩ := prv_some ho
      have hall : ∀ t, t < n → T t = true → t ≤ l ∨ r ≤ t := by
        intro t t1 t2
        rcases Nat.lt_or_ge l t with h' | h'
        · right
          rcases Nat.lt_or_ge t r with h'' | h''
          · exfalso
            rcases Nat.lt_or_ge t x with h3 | h3
            · exact tF (l3 t h' h3) t2
            · by_cases e : t = x
              · rw [e] at t2; exact tF hTx t2
              · exact tF (d t (by omega) h'') t2
          · exact h''
        · left; exact h'
      have e1 := (h x hx).1 r b c
      have e1' := (h x hx).1 l (by omega) l2
      have e2 : (r - l) / 2 ≤ A (l + (r - l) / 2) := Awr_ge h (by omega) (fun t t1 t2 => by have := hall t t1 t2; omega)
      have e3 := hm (l + (r - l) / 2) (by omega)
      have ex : x = l + (r - l) / 2 := by
        rcases Nat.lt_or_ge (l + (r - l) / 2) x with h' | h'
        · have := hf _ h'
          omega
        · omega
      have q' : psm (ad T x) n + bt (r - l - 1) = psm T n + bt (x - l - 1) + bt (r - x - 1) := q
      have er : bt (r - l - 1) = 1 + bt (x - l - 1) + bt (r - x - 1) := by
        rw [bt_eq (x := r - l - 1) (by omega), if_neg (by omega), show (r - l - 1 - 1) / 2 = x - l - 1 by omega, show r - l - 1 - 1 - (x - l - 1) = r - x - 1 by omega]
      omega
theorem pot_end {n : Nat} {T : Nat → Bool} {A : Nat → Nat} (hn : n ≤ 200) (h : Awr n T A) (h1 : ∀ k, k < n → A k ≤ 1) : pot n T = 0 := by
  have hp : ∀ m, m ≤ n → psm T m = 0 := by
    intro m
    induction m with
    | zero => intro _; rfl
    | succ m ih =>
      intro hm
      cases ht : T m with
      | false => rw [psm_f ht]; exact ih (by omega)
      | true =>
        rw [psm_y ht, ih (by omega), Nat.zero_add]
        cases ho : prv T m with
        | none =>
          have hno := prv_none ho
          show endp m = 0
          have e2 : m ≤ A 0 := Awr_ge h (by omega) (fun t t1 t2 => by
            rcases Nat.lt_or_ge t m with h' | h'
            · exact (tF (hno t h') t2).elim
            · omega)
          have := h1 0 (by omega)
          unfold endp
          rw [if_pos (by omega)]
        | some l =>
          obtain ⟨l1, l2, l3⟩ := prv_some ho
          show bt (m - l - 1) = 0
          have e2 : (m - l) / 2 ≤ A (l + (m - l) / 2) := Awr_ge h (by omega) (fun t t1 t2 => by
            rcases Nat.lt_or_ge t m with h' | h'
            · rcases Nat.lt_or_ge l t with h'' | h''
              · exact (tF (l3 t h'' h') t2).elim
              · omega
            · omega)
          have := h1 (l + (m - l) / 2) (by omega)
          rw [bt_eq (by omega), if_pos (by omega)]
  unfold pot
  rw [hp n (Nat.le_refl _), Nat.zero_add]
  cases ho : prv T n with
  | none => rfl
  | some l =>
    obtain ⟨l1, l2, l3⟩ := prv_some ho
    show endp (n - 1 - l) = 0
    have e2 : n - 1 - l ≤ A (n - 1) := Awr_ge h (by omega) (fun t t1 t2 => by
      rcases Nat.lt_or_ge l t with h'' | h''
      · exact (tF (l3 t h'' t1) t2).elim
      · omega)
    have := h1 (n - 1) (by omega)
    unfold endp
    rw [if_pos (by omega)]
theorem Awr_ad {n : Nat} {T : Nat → Bool} {A : Nat → Nat} {x : Nat} (h : Awr n T A) (hx : x < n) : Awr n (ad T x) (fun s => min (A s) (s - x + (x - s))) := by
  intro s hs
  obtain ⟨a, t, b, c, d⟩ := h s hs
  constructor
  · intro t' h1 h2
    show min (A s) (s - x + (x - s)) ≤ _
    by_cases e : t' = x
    · subst e; omega
    · rw [ad_n e] at h2
      have := a t' h1 h2
      omega
  · show ∃ t, t < n ∧ ad T x t = true ∧ min (A s) (s - x + (x - s)) = _
    by_cases hc : A s ≤ s - x + (x - s)
    · refine ⟨t, b, by simp [ad, c], by omega⟩
    · exact ⟨x, hx, ad_x T x, by omega⟩
theorem bst_mx {op : Nat → Bool} {R : Nat → Int} : ∀ {i b : Nat}, bst op R i = some b → (∀ k, k < i → op k = true → R k ≤ R b) ∧ ∀ k, k < b → op k = true → R k < R b := by
  intro i
  induction i with
  | zero => intro b h; cases h
  | succ i ih =>
    intro b h
    cases ho : op i with
    | false =>
      rw [bst_no ho] at h
      obtain ⟨a, c⟩ := ih h
      refine ⟨fun k hk hop => ?_, c⟩
      by_cases e : k = i
      · subst e; rw [ho] at hop; cases hop
      · exact a k (by omega) hop
    | true =>
      rw [bst_yes ho] at h
      cases hb : bst op R i with
      | none =>
        rw [hb] at h
        cases h
        have hno := bst_none hb
        refine ⟨fun k hk hop => ?_, fun k hk hop => ?_⟩
        · by_cases e : k = i
          · subst e; exact Int.le_refl _
          · rw [hno k (by omega)] at hop; cases hop
        · rw [hno k (by omega)] at hop; cases hop
      | some c =>
        rw [hb] at h
        obtain ⟨a, d⟩ := ih hb
        have hc := (bst_some hb).1
        have h' : (if R c < R i then some i else some c) = some b := h
        by_cases hr : R c < R i
        · rw [if_pos hr] at h'
          cases h'
          refine ⟨fun k hk hop => ?_, fun k hk hop => ?_⟩
          · by_cases e : k = i
            · subst e; exact Int.le_refl _
            · have := a k (by omega) hop; omega
          · have := a k (by omega) hop; omega
        · rw [if_neg hr] at h'
          cases h'
          refine ⟨fun k hk hop => ?_, d⟩
          by_cases e : k = i
          · subst e; omega
          · exact a k (by omega) hop
theorem m_sitIn {n x : Nat} {A : Nat → Nat} {z : Nat → Int32} (hn : n ≤ 200) (hx : x < n) (hz : ∀ s, s < n → z s = nI (A s)) (hA : ∀ s, s < n → A s ≤ 1000) : ∃ z', f_X11_sitIn z (nI n) (nI x) = some z' ∧ ∀ s, s < n → z' s = nI (min (A s) (s - x + (x - s))) := by
  obtain ⟨z', m, k1, k2⟩ := lp_inv (fun m i z => f_X11_sitIn_2 (nI n) (nI x) m (nI i) z) n (fun i z => ∀ s, s < n → z s = nI (if s < i then min (A s) (s - x + (x - s)) else A s)) (fun m i z hi hI => by
    have hAi := hA i hi
    refine ⟨upd z i (nI (min (A i) (i - x + (x - i)))), ?_, ?_⟩
    · intro s hs
      by_cases e : s = i
      · subst e; rw [pk_us, if_pos (by omega)]
      · rw [pk_un e, hI s hs]
        congr 1
        exact ifc (by omega)
    · have ed : (if nI x ≤ nI i then some (nI i - nI x) else some (nI x - nI i)) = some (nI (i - x + (x - i))) := by
        by_cases hc : x ≤ i
        · rw [if_pos (ps_le (by omega) (by omega) hc), pk_sub hc, show i - x + (x - i) = i - x by omega]
        · rw [if_neg (ng_le (by omega) (by omega) (by omega)), pk_sub (by omega), show i - x + (x - i) = x - i by omega]
      have hzi : z i = nI (A i) := by rw [hI i hi, if_neg (by omega)]
      have em : (if nI (A i) ≤ nI (i - x + (x - i)) then (some (nI (A i))).bind (fun u10 => some u10) else some (nI (i - x + (x - i)))) = some (nI (min (A i) (i - x + (x - i)))) := by
        by_cases hc : A i ≤ i - x + (x - i)
        · rw [if_pos (ps_le (by omega) (by omega) hc), Option.bind_some, Nat.min_eq_left hc]
        · rw [if_neg (ng_le (by omega) (by omega) (by omega)), Nat.min_eq_right (by omega)]
      rw [f_X11_sitIn_2_s, if_neg (ng_le (by omega) (by omega) hi), ed, Option.bind_some, nu_get _ (show i < 200 by omega) (by omega), Option.bind_some, hzi, em, Option.bind_some, nu_set _ _ (show i < 200 by omega) (by omega), Option.bind_some, nI_1]) FU 0 z (Nat.zero_le _) (by rw [FU_eq]; omega) (fun s hs => by rw [hz s hs, if_neg (by omega)])
  refine ⟨z', ?_, fun s hs => by rw [k1 s hs, if_pos hs]⟩
  have k2' : f_X11_sitIn_2 (nI n) (nI x) FU 0 z = _ := k2
  unfold f_X11_sitIn
  rw [k2', f_X11_sitIn_2_s, if_pos (ps_le (by omega) (by omega) (Nat.le_refl _)), Option.bind_some]
/-- the farthest place, the first of like ones -/
def fst2 (A : Nat → Nat) (i : Nat) : Option Nat := bst (fun s => decide (1 < A s)) (fun s => (A s : Int)) i
theorem m_rows52 {n : Nat} {A : Nat → Nat} {z : Nat → Int32} (hn : n ≤ 200) (hz : ∀ s, s < n → z s = nI (A s)) (hA : ∀ s, s < n → A s ≤ 1000) : f_X11_rowsOf_52 (nI n) z FU (-6) 1 0 = some (eO32 (fst2 A n)) := by
  refine lp_at2 (fun m i x y => f_X11_rowsOf_52 (nI n) z m x y (nI i)) n (fun i => eO32 (fst2 A i)) (fun i => nI (ov A 1 (fst2 A i))) rfl rfl (by omega) ?_ ?_
  · intro m
    rw [f_X11_rowsOf_52_s, if_pos (ps_le (by omega) (by omega) (Nat.le_refl _))]
  · intro m i hi
    have hAi := hA i hi
    rw [f_X11_rowsOf_52_s, if_neg (ng_le (by omega) (by omega) hi), nu_get _ (show i < 200 by omega) (by omega), Option.bind_some, hz i hi, nI_1]
    have hov : ov A 1 (fst2 A i) ≤ 1000 ∧ 1 ≤ ov A 1 (fst2 A i) ∧ (fst2 A i ≠ none → 1 < ov A 1 (fst2 A i)) := by
      cases hb : fst2 A i with
      | none => exact ⟨by show 1 ≤ 1000; omega, Nat.le_refl _, fun h => absurd rfl h⟩
      | some b =>
        obtain ⟨c1, c2⟩ := bst_some hb
        have := of_decide_eq_true c2
        have h2 := hA b (by omega)
        exact ⟨h2, by show 1 ≤ A b; omega, fun _ => this⟩
    by_cases hc : A i ≤ ov A 1 (fst2 A i)
    · have e : fst2 A (i + 1) = fst2 A i := by
        unfold fst2 at hc ⊢
        by_cases ho : 1 < A i
        · rw [bst_yes (by simpa using ho)]
          cases hb : bst (fun s => decide (1 < A s)) (fun s => (A s : Int)) i with
          | none =>
            rw [hb] at hc
            have : A i ≤ 1 := hc
            omega
          | some b =>
            rw [hb] at hc
            have hc' : A i ≤ A b := hc
            show (if (A b : Int) < (A i : Int) then some i else some b) = _
            rw [if_neg (by omega)]
        · rw [bst_no (by simpa using ho)]
      rw [if_pos (ps_le (by omega) (by omega) hc), Option.bind_some, e]
    · have e : fst2 A (i + 1) = some i := by
        unfold fst2 at hc ⊢
        rw [bst_yes (show decide (1 < A i) = true by rw [decide_eq_true_eq]; unfold fst2 at hov; omega)]
        cases hb : bst (fun s => decide (1 < A s)) (fun s => (A s : Int)) i with
        | none => rfl
        | some b =>
          rw [hb] at hc
          have hc' : ¬ A i ≤ A b := hc
          show (if (A b : Int) < (A i : Int) then some i else some b) = _
          rw [if_pos (by omega)]
      rw [if_neg (ng_le (by omega) (by omega) (by omega)), Option.bind_some, Option.bind_some, e]
      rfl
theorem m_rows27 {n : Nat} (hn : n ≤ 200) : ∀ (m many : Nat) (T : Nat → Bool) (A : Nat → Nat) (z : Nat → Int32), Awr n T A → (∀ s, s < n → A s ≤ 1000) → (∀ s, s < n → z s = nI (A s)) → pot n T < m → ∃ z', f_X11_rowsOf_27 (nI n) m (nI many) (eO32 (fst2 A n)) z = some (nI (many + pot n T), z') := by
  intro m
  induction m with
  | zero => intro many T A z _ _ _ h; omega
  | succ m ih =>
    intro many T A z hT hA hz hm
    rw [f_X11_rowsOf_27_s]
    cases hb : fst2 A n with
    | none =>
      have hno := bst_none hb
      have h0 := pot_end hn hT (fun k hk => by
        have := of_decide_eq_false (hno k hk)
        omega)
      refine ⟨z, ?_⟩
      rw [if_pos (show eO32 none < 0 by decide), h0, Nat.add_zero]
    | some x =>
      obtain ⟨hx, hox⟩ := bst_some hb
      have hox' := of_decide_eq_true hox
      obtain ⟨q1, q2⟩ := bst_mx hb
      have hst := pot_step hn hT hx hox' (fun k hk => by
        by_cases ho : 1 < A k
        · have := q1 k hk (decide_eq_true ho)
          omega
        · omega) (fun k hk => by
        by_cases ho : 1 < A k
        · have := q2 k hk (decide_eq_true ho)
          omega
        · omega)
      obtain ⟨z1, k1, k2⟩ := m_sitIn hn hx hz hA
      have hT' := Awr_ad hT hx
      have hA' : ∀ s, s < n → (fun s => min (A s) (s - x + (x - s))) s ≤ 1000 := fun s hs => by have := hA s hs; show min (A s) (s - x + (x - s)) ≤ 1000; omega
      obtain ⟨z', k3⟩ := ih (many + 1) (ad T x) (fun s => min (A s) (s - x + (x - s))) z1 hT' hA' k2 (by omega)
      refine ⟨z', ?_⟩
      rw [if_neg (show ¬ eO32 (some x) < 0 from nI_pos (by omega)), show f_X11_sitIn z (nI n) (eO32 (some x)) = _ from k1, Option.bind_some, m_rows52 hn k2 hA', Option.bind_some, nI_1, k3, hst]
      congr 3
      omega
theorem m_rowsOf {n seat : Nat} (hn : n ≤ 200) (hs : seat < n) (z : Nat → Int32) : ∃ z', f_X11_rowsOf z (nI n) (nI seat) = some (nI (1 + endp seat + endp (n - 1 - seat)), z') := by
  have hi : ∃ z0, f_X11_rowsOf_2 (nI n) FU 0 z = some z0 ∧ ∀ s, s < n → z0 s = nI 1000 := by
    obtain ⟨z', m, k1, k2⟩ := lp_inv (fun m i z => f_X11_rowsOf_2 (nI n) m (nI i) z) n (fun i z => ∀ s, s < i → z s = nI 1000) (fun m i z hi hI => by
      refine ⟨upd z i (nI 1000), ?_, ?_⟩
      · intro s hs
        by_cases e : s = i
        · subst e; exact pk_us
        · rw [pk_un e]; exact hI s (by omega)
      · rw [f_X11_rowsOf_2_s, if_neg (ng_le (by omega) (by omega) hi), show (1000 : Int32) = nI 1000 from rfl, nu_set _ _ (show i < 200 by omega) (by omega), Option.bind_some, nI_1]) FU 0 z (Nat.zero_le _) (by rw [FU_eq]; omega) (fun s hs => by omega)
    refine ⟨z', ?_, k1⟩
    have k2' : f_X11_rowsOf_2 (nI n) FU 0 z = _ := k2
    rw [k2', f_X11_rowsOf_2_s, if_pos (ps_le (by omega) (by omega) (Nat.le_refl _))]
  obtain ⟨z0, hz0, hz1⟩ := hi
  obtain ⟨z1, k1, k2⟩ := m_sitIn (A := fun _ => 1000) hn hs hz1 (fun _ _ => Nat.le_refl _)
  have hT : Awr n (ad (fun _ => false) seat) (fun s => min 1000 (s - seat + (seat - s))) := by
    intro s h
    constructor
    · intro t ht h2
      show min 1000 (s - seat + (seat - s)) ≤ _
      by_cases e : t = seat
      · subst e; omega
      · rw [ad_n e] at h2; cases h2
    · exact ⟨seat, hs, ad_x _ _, by show min 1000 (s - seat + (seat - s)) = _; omega⟩
  have hA' : ∀ s, s < n → (fun s => min 1000 (s - seat + (seat - s))) s ≤ 1000 := fun s _ => by show min 1000 (s - seat + (seat - s)) ≤ 1000; omega
  have hnn : ∀ m, prv (fun _ => false) m = none ∧ psm (fun _ => false) m = 0 := by
    intro m
    induction m with
    | zero => exact ⟨rfl, rfl⟩
    | succ m ih => rw [prv_f rfl, psm_f rfl]; exact ih
  have hpot : pot n (ad (fun _ => false) seat) = endp seat + endp (n - 1 - seat) := by
    unfold pot
    rcases ad_hi (T := fun _ => false) (x := seat) rfl n hs with ⟨a, b, c, d⟩ | ⟨r, a, b, c, d, p, q⟩
    · rw [b, d, (hnn n).2, (hnn seat).1, Nat.zero_add]
      rfl
    · cases c
  have b1 := endp_le seat
  have b2 := endp_le (n - 1 - seat)
  obtain ⟨z', k3⟩ := m_rows27 hn 4999 1 (ad (fun _ => false) seat) (fun s => min 1000 (s - seat + (seat - s))) z1 hT hA' k2 (by omega)
  refine ⟨z', ?_⟩
  unfold f_X11_rowsOf
  rw [hz0, Option.bind_some]
  have e : f_X11_rowsOf_27 (nI n) FU 0 (nI seat) z0 = f_X11_rowsOf_27 (nI n) (4999 + 1) 0 (nI seat) z0 := rfl
  rw [e, f_X11_rowsOf_27_s, if_neg (nI_pos (by omega)), k1, Option.bind_some, m_rows52 hn k2 hA', Option.bind_some, show (0 : Int32) + 1 = nI 1 from rfl, k3, Option.bind_some, hpot, ← Nat.add_assoc]
theorem x_beyond {f : Nat → Int32} {x : Nat} (hf : LR f) (hx : x ≤ 200) : f_X3_beyond f (nI x) = some (nI (endp x)) := by
  unfold f_X3_beyond endp
  by_cases h : x < 2
  · rw [if_neg (show ¬ (2 : Int32) ≤ nI x from ng_le (a := 2) (by omega) (by omega) h), if_pos h, Option.bind_some]; rfl
  · have em : nI x - 1 = nI (x - 1) := pk_sub (a := x) (b := 1) (by omega)
    rw [if_pos (show (2 : Int32) ≤ nI x from ps_le (a := 2) (by omega) (by omega) (by omega)), if_neg h, em, nu_get _ (show x - 1 < 201 by omega) (by omega), Option.bind_some, Option.bind_some, hf (x - 1) (by omega), show (1 : Int32) = nI 1 from rfl, nI_add]
    rfl
theorem x_comeIn {f : Nat → Int32} {n seat : Nat} (hf : LR f) (hn : n ≤ 200) (hs : seat < n) : f_X3_comeIn f (nI n) (nI seat) = some (nI (1 + endp seat + endp (n - 1 - seat))) := by
  have em : nI n - 1 = nI (n - 1) := pk_sub (a := n) (b := 1) (by omega)
  unfold f_X3_comeIn
  rw [x_beyond hf (by omega), Option.bind_some, em, pk_sub (a := n - 1) (b := seat) (by omega), x_beyond hf (by omega), Option.bind_some, show (1 : Int32) = nI 1 from rfl, nI_add, nI_add]
theorem inR_n1 {x : Int32} {b : Nat} (hb : b < 2 ^ 31) : inR x 1 (nI b) = true ↔ ∃ s, 1 ≤ s ∧ s ≤ b ∧ x = nI s := by
  constructor
  · intro h
    have h' := of_decide_eq_true h
    have h0 : inR x 0 (nI b) = true := by
      apply decide_eq_true
      refine ⟨?_, h'.2⟩
      have := Int32.le_iff_toInt_le.mp h'.1
      apply Int32.le_iff_toInt_le.mpr
      have e1 : (1 : Int32).toInt = 1 := by decide
      have e0 : (0 : Int32).toInt = 0 := by decide
      omega
    obtain ⟨s, hs, rfl⟩ := (inR_nat hb).mp h0
    exact ⟨s, (nI_leI (a := 1) (by omega) (by omega)).mp h'.1, hs, rfl⟩
  · intro ⟨s, h1, h2, e⟩
    subst e
    exact decide_eq_true ⟨ps_le (a := 1) (by omega) (by omega) h1, ps_le (by omega) hb h2⟩
theorem long2 {f : Nat → Int32} (hf : LR f) (x : Int32) : ∀ (m i : Nat) (z : Nat → Int32), 1 ≤ i → i ≤ 201 → 201 < i + m → ∃ (a : Option Int32) (z' : Nat → Int32), f_X10_longer_15 f x m (nI i) = some (match a with | none => Sum.inl () | some v => Sum.inr v) ∧ f_X11_longer_17 x m (nI i) z = some (match a with | none => Sum.inl z' | some v => Sum.inr (v, z')) := by
  intro m
  induction m with
  | zero => intro i z h1 h2 h3; omega
  | succ m ih =>
    intro i z h1 h2 h3
    rw [f_X10_longer_15_s, f_X11_longer_17_s]
    by_cases he : i = 201
    · subst he
      refine ⟨none, z, ?_, ?_⟩
      · rw [if_pos (by decide)]
      · rw [if_pos (by decide)]
    · have hc : ¬ (200 : Int32) < nI i := fun e => by have := (nI_ltI (a := 200) (by omega) (by omega)).mp e; omega
      obtain ⟨z1, k1⟩ := m_rowsOf (n := i) (seat := 0) (by omega) (by omega) z
      rw [if_neg hc, if_neg hc, show f_X3_comeIn f (nI i) 0 = _ from x_comeIn (seat := 0) hf (by omega) (by omega), Option.bind_some, show f_X11_rowsOf z (nI i) 0 = _ from k1, Option.bind_some]
      dsimp only
      by_cases hk : nI (1 + endp 0 + endp (i - 1 - 0)) < x
      · rw [if_pos hk, if_pos hk, nI_1]
        exact ih (i + 1) z1 (by omega) (by omega) (by omega)
      · rw [if_neg hk, if_neg hk]
        exact ⟨some (nI i), z1, rfl, rfl⟩
end RW1
