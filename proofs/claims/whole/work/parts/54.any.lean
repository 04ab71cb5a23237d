/-! the reference's tables: what may come, whole sets, ANY -/
section RT1
/-- the bench's sets, as the reference sees them -/
def gB (n : Nat) (Dm : Nat → Nat → Nat) (B S : Nat) : Bool := flb n Dm B S n
def oB (n : Nat) (Dm : Nat → Nat → Nat) (B S : Nat) : Nat := opm n Dm B S n
theorem Sys_bench {n : Nat} {Dm : Nat → Nat → Nat} {B : Nat} (hD : Dok n Dm) (hB1 : 1 ≤ B) (hB : B ≤ 99) : Sys n (gB n Dm B) (oB n Dm B) := by
  have hn := hD.1
  have hpos : 0 < 2 ^ n := Nat.pos_of_ne_zero (by simp [Nat.pow_eq_zero])
  have hy := Csy_Sys (Csy_bench (O := 2 ^ n - 1) hD hB1 (by omega))
  have eg : ∀ S, S < 2 ^ n → gG (cB n Dm B) (2 ^ n - 1) S = gB n Dm B S := fun S hS => gG_flb hD hB hS
  have eo : ∀ S, S < 2 ^ n → oG (cB n Dm B) (2 ^ n - 1) S = oB n Dm B S := fun S hS => oG_opm hD hB hS
  refine ⟨hn, by rw [← eg 0 hpos]; exact hy.2.1, fun S _ => opm_lt n Dm B S n, ?_⟩
  intro S s hS hg hb
  rw [← eg S hS] at hg
  rw [← eo S hS] at hb
  have hlt := Sys_lt hy hS hb
  have := hy.2.2.2 S s hS hg hb
  rw [eg _ hlt, eo _ hlt, eo _ hS] at this
  exact this
theorem chT_B (n : Nat) (Dm : Nat → Nat → Nat) (B T i S : Nat) : chT n Dm B T i S = cg n (gB n Dm B) (oB n Dm B) T i S := chT_cg n Dm B T i S
theorem oB_pc0 (n : Nat) (Dm : Nat → Nat → Nat) (B : Nat) : pc 12 (oB n Dm B 0) ≤ n := by
  by_cases h : n ≤ 12
  · unfold oB; rw [pc_bits (opm_lt n Dm B 0 n) 12 h]; exact pc_le _ n
  · have := pc_le (oB n Dm B 0) 12; omega
theorem m_mays {n : Nat} {Dm : Nat → Nat → Nat} {B : Nat} {f vm : Nat → Int32} (hD : Dok n Dm) (hF : FarM n Dm f) (hB : B ≤ 99) : ∃ z, f_X11_findMays (nI n) (nI B) f vm = some (nI (2 ^ n), z) ∧ ∀ S, S < 2 ^ n → z S = if gB n Dm B S then nI (oB n Dm B S) else -6 := by
  have hn := hD.1
  have hp12 : 2 ^ n ≤ 2 ^ 12 := Nat.pow_le_pow_right (by omega) hn
  obtain ⟨z, m, k1, k2⟩ := lp_inv (fun m i z => f_X11_findMays_9 (nI n) (nI B) f m (nI i) z) (2 ^ n) (fun i z => ∀ S, S < i → z S = if gB n Dm B S then nI (oB n Dm B S) else -6) (fun m i z hi hI => by
    refine ⟨upd z i (if gB n Dm B i then nI (oB n Dm B i) else -6), ?_, ?_⟩
    · intro S hS
      by_cases e : S = i
      · rw [e]; exact pk_us
      · rw [pk_un e]; exact hI S (by omega)
    · rw [f_X11_findMays_9_s, nu_shl (by omega), if_neg (ng_le (by omega) (by omega) hi), m_filledB hD hF hB (by omega), Option.bind_some, m_may hD hF hB (by omega)]
      cases hg : flb n Dm B i n with
      | false =>
        rw [show gB n Dm B i = false from hg, if_pos (show b32 false = 0 from rfl), Option.bind_some, if_neg (show ¬ false = true by decide), nu_set _ _ (show i < 4096 by omega) (by omega), Option.bind_some, nI_1]
      | true =>
        rw [show gB n Dm B i = true from hg, if_neg (show ¬ b32 true = 0 by decide), Option.bind_some, Option.bind_some, if_pos rfl, nu_set _ _ (show i < 4096 by omega) (by omega), Option.bind_some, nI_1]
        rfl) FU 0 vm (Nat.zero_le _) (by rw [FU_eq]; omega) (fun S hS => by omega)
  refine ⟨z, ?_, k1⟩
  have k2' : f_X11_findMays_9 (nI n) (nI B) f FU 0 vm = _ := k2
  unfold f_X11_findMays
  rw [k2', f_X11_findMays_9_s, nu_shl (by omega), if_pos (ps_le (by omega) (by omega) (Nat.le_refl _)), Option.bind_some]
/-- the table tells the whole sets -/
theorem mays0 {n : Nat} {Dm : Nat → Nat → Nat} {B S : Nat} {x : Int32} (hn : n ≤ 12) (h : x = if gB n Dm B S then nI (oB n Dm B S) else -6) : (x = 0) ↔ whB n Dm B S = true := by
  have hlt : oB n Dm B S < 2 ^ 12 := Nat.lt_of_lt_of_le (opm_lt n Dm B S n) (Nat.pow_le_pow_right (by omega) hn)
  unfold whB
  rw [h, Bool.and_eq_true]
  show _ ↔ gB n Dm B S = true ∧ decide (oB n Dm B S = 0) = true
  cases gB n Dm B S with
  | false =>
    rw [if_neg (by decide)]
    constructor
    · intro e; exact absurd e (by decide)
    · intro e; cases e.1
  | true =>
    rw [if_pos rfl, decide_eq_true_eq]
    constructor
    · intro e; exact ⟨rfl, (nI_eq (b := 0) (by omega) (by omega)).mp e⟩
    · intro e; rw [e.2]; rfl
/-- one more whole set: the least and the most -/
theorem bst_no {op : Nat → Bool} {R : Nat → Int} {i : Nat} (h : op i = false) : bst op R (i + 1) = bst op R i := by
  show (if op i then bnx R i (bst op R i) else bst op R i) = _
  rw [h, if_neg (by decide)]
theorem bst_yes {op : Nat → Bool} {R : Nat → Int} {i : Nat} (h : op i = true) : bst op R (i + 1) = bnx R i (bst op R i) := by
  show (if op i then bnx R i (bst op R i) else bst op R i) = _
  rw [h, if_pos rfl]
theorem m_whole30 {n : Nat} {Dm : Nat → Nat → Nat} {B : Nat} {z : Nat → Int32} (hn : n ≤ 12) (hz : ∀ S, S < 2 ^ n → z S = if gB n Dm B S then nI (oB n Dm B S) else -6) : f_X11_whole_30 (nI (2 ^ n), z) FU (-6) (-6) 0 = some (eO32 (bst (whB n Dm B) (fun S => -(pc 12 S : Int)) (2 ^ n)), eO32 (bst (whB n Dm B) (fun S => (pc 12 S : Int)) (2 ^ n))) := by
  have hp12 : 2 ^ n ≤ 2 ^ 12 := Nat.pow_le_pow_right (by omega) hn
  refine lp_at2 (fun m i y y' => f_X11_whole_30 (nI (2 ^ n), z) m y y' (nI i)) (2 ^ n) (fun i => eO32 (bst (whB n Dm B) (fun S => -(pc 12 S : Int)) i)) (fun i => eO32 (bst (whB n Dm B) (fun S => (pc 12 S : Int)) i)) rfl rfl (by omega) ?_ ?_
  · intro m
    rw [f_X11_whole_30_s, if_pos (ps_le (by omega) (by omega) (Nat.le_refl _))]
  · intro m i hi
    rw [f_X11_whole_30_s, if_neg (ng_le (by omega) (by omega) hi), nu_get _ (show i < 4096 by omega) (by omega), Option.bind_some]
    cases hw : whB n Dm B i with
    | false =>
      rw [if_neg (fun e => by rw [(mays0 hn (hz i hi)).mp e] at hw; cases hw), Option.bind_some, bst_no hw, bst_no hw, nI_1]
    | true =>
      rw [if_pos ((mays0 hn (hz i hi)).mpr hw), bst_yes hw, bst_yes hw]
      have a1 : (if eO32 (bst (whB n Dm B) (fun S => -(pc 12 S : Int)) i) < 0 then some (nI i) else (f_X11_ones (nI i)).bind (fun u19 => (f_X11_ones (eO32 (bst (whB n Dm B) (fun S => -(pc 12 S : Int)) i))).bind (fun u20 => if u20 ≤ u19 then some (eO32 (bst (whB n Dm B) (fun S => -(pc 12 S : Int)) i)) else some (nI i)))) = some (eO32 (bnx (fun S => -(pc 12 S : Int)) i (bst (whB n Dm B) (fun S => -(pc 12 S : Int)) i))) := by
        cases hb : bst (whB n Dm B) (fun S => -(pc 12 S : Int)) i with
        | none => rw [if_pos (show eO32 none < 0 by decide)]; rfl
        | some b =>
          have hbi := (bst_some hb).1
          have p1 := pc_le b 12
          have p2 := pc_le i 12
          rw [if_neg (show ¬ eO32 (some b) < 0 from nI_pos (by omega)), m_ones (by omega), Option.bind_some, show f_X11_ones (eO32 (some b)) = _ from m_ones (S := b) (by omega), Option.bind_some]
          show _ = some (eO32 (if -(pc 12 b : Int) < -(pc 12 i : Int) then some i else some b))
          by_cases hc : pc 12 b ≤ pc 12 i
          · rw [if_pos (ps_le (by omega) (by omega) hc), if_neg (by omega)]
          · rw [if_neg (ng_le (by omega) (by omega) (by omega)), if_pos (by omega)]; rfl
      have a2 : (if eO32 (bst (whB n Dm B) (fun S => (pc 12 S : Int)) i) < 0 then some (nI i) else (f_X11_ones (nI i)).bind (fun u15 => (f_X11_ones (eO32 (bst (whB n Dm B) (fun S => (pc 12 S : Int)) i))).bind (fun u16 => if u15 ≤ u16 then some (eO32 (bst (whB n Dm B) (fun S => (pc 12 S : Int)) i)) else some (nI i)))) = some (eO32 (bnx (fun S => (pc 12 S : Int)) i (bst (whB n Dm B) (fun S => (pc 12 S : Int)) i))) := by
        cases hb : bst (whB n Dm B) (fun S => (pc 12 S : Int)) i with
        | none => rw [if_pos (show eO32 none < 0 by decide)]; rfl
        | some b =>
          have hbi := (bst_some hb).1
          have p1 := pc_le b 12
          have p2 := pc_le i 12
          rw [if_neg (show ¬ eO32 (some b) < 0 from nI_pos (by omega)), m_ones (by omega), Option.bind_some, show f_X11_ones (eO32 (some b)) = _ from m_ones (S := b) (by omega), Option.bind_some]
          show _ = some (eO32 (if (pc 12 b : Int) < (pc 12 i : Int) then some i else some b))
          by_cases hc : pc 12 i ≤ pc 12 b
          · rw [if_pos (ps_le (by omega) (by omega) hc), if_neg (by omega)]
          · rw [if_neg (ng_le (by omega) (by omega) (by omega)), if_pos (by omega)]; rfl
      rw [a1, Option.bind_some, a2, Option.bind_some, Option.bind_some, nI_1]
theorem m_ways25 {n : Nat} {Dm : Nat → Nat → Nat} {B c : Nat} {z : Nat → Int32} (hn : n ≤ 12) (hc : c ≤ 12) (hz : ∀ S, S < 2 ^ n → z S = if gB n Dm B S then nI (oB n Dm B S) else -6) : f_X11_ways_25 (nI c) (nI (2 ^ n), z) FU 0 0 = some (nI (wyc n Dm B c (2 ^ n))) := by
  have hp12 : 2 ^ n ≤ 2 ^ 12 := Nat.pow_le_pow_right (by omega) hn
  refine lp_at (fun m i y => f_X11_ways_25 (nI c) (nI (2 ^ n), z) m y (nI i)) (2 ^ n) (fun i => nI (wyc n Dm B c i)) rfl (by omega) ?_ ?_
  · intro m
    rw [f_X11_ways_25_s, if_pos (ps_le (by omega) (by omega) (Nat.le_refl _))]
  · intro m i hi
    have p2 := pc_le i 12
    rw [f_X11_ways_25_s, if_neg (ng_le (by omega) (by omega) hi), nu_get _ (show i < 4096 by omega) (by omega), Option.bind_some]
    show _ = f_X11_ways_25 (nI c) (nI (2 ^ n), z) m (nI (wyc n Dm B c i + (if whB n Dm B i = true ∧ pc 12 i = c then 1 else 0))) (nI (i + 1))
    cases hw : whB n Dm B i with
    | false =>
      rw [if_neg (fun e => by rw [(mays0 hn (hz i hi)).mp e] at hw; cases hw), Option.bind_some, nI_1, show (0 : Int32) = nI 0 from rfl, nI_add, if_neg (fun e => by cases e.1)]
    | true =>
      rw [if_pos ((mays0 hn (hz i hi)).mpr hw), m_ones (by omega), Option.bind_some]
      by_cases h : pc 12 i = c
      · rw [if_pos (show nI (pc 12 i) = nI c by rw [h]), Option.bind_some, nI_1, nI_1, if_pos ⟨rfl, h⟩]
      · rw [if_neg (fun e => h ((nI_eq (by omega) (by omega)).mp e)), Option.bind_some, nI_1, show (0 : Int32) = nI 0 from rfl, nI_add, if_neg (fun e => h e.2)]
theorem fac_le {n : Nat} (h : n ≤ 12) : 1 ≤ fac n ∧ fac n ≤ 479001600 := by
  have h1 : ∀ k, 1 ≤ fac k := by
    intro k
    induction k with
    | zero => exact Nat.le_refl _
    | succ k ih => exact Nat.mul_pos (by omega) ih
  exact ⟨h1 n, Nat.le_of_dvd (by omega) (fac12 ▸ fac_dvd 12 h)⟩
theorem m_any12 {n : Nat} (h1 : 1 ≤ n) (hn : n ≤ 12) : f_X11_findAny_12 (nI n) FU 2 1 = some (lN (fac n)) := by
  refine lp_at (fun m i y => f_X11_findAny_12 (nI n) m (nI (i + 2)) y) (n - 1) (fun i => lN (fac (i + 1))) rfl (by omega) ?_ ?_
  · intro m
    rw [f_X11_findAny_12_s, if_pos ((nI_ltI (by omega) (by omega)).mpr (by omega)), show n - 1 + 1 = n by omega]
  · intro m i hi
    rw [f_X11_findAny_12_s, if_neg (fun e => by have := (nI_ltI (by omega) (by omega)).mp e; omega), nI_l (by omega), lN_mul, nI_1, Nat.mul_comm]
    rfl
theorem updL_lt {f g : Nat → Int64} {i : Nat} {x : Int64} (hx : x = f i) : vp_updL (fun j => if j < i then f j else g j) i x = (fun j => if j < i + 1 then f j else g j) := by
  funext j
  by_cases e : j = i
  · subst e; rw [pk_uLs, if_pos (by omega), hx]
  · rw [pk_uLn e]
    exact ifc (by omega)
theorem m_any39 (f : Nat → Int64) : f_X11_findAny_39 FU 0 f = some (fun j => if j < 13 then 0 else f j) := by
  refine lp_at (fun m i z => f_X11_findAny_39 m (nI i) z) 13 (fun i j => if j < i then 0 else f j) (by funext j; simp) (by omega) ?_ ?_
  · intro m
    rw [f_X11_findAny_39_s, if_pos (by decide)]
  · intro m i hi
    rw [f_X11_findAny_39_s, if_neg (show ¬ (12 : Int32) < nI i from fun e => by have := (nI_ltI (a := 12) (by omega) (by omega)).mp e; omega), nu_setL _ _ hi (by omega), Option.bind_some, nI_1, updL_lt (f := fun _ => 0) rfl]
theorem m_any60 {n : Nat} {z : Nat → Int32} (hn : n ≤ 12) (T : Int64) (f : Nat → Int64) : f_X11_findAny_60 (nI (2 ^ n), z) T FU 0 f = some (fun j => if j < 2 ^ n then (if j = 0 then T else 0) else f j) := by
  have hp12 : 2 ^ n ≤ 2 ^ 12 := Nat.pow_le_pow_right (by omega) hn
  refine lp_at (fun m i y => f_X11_findAny_60 (nI (2 ^ n), z) T m (nI i) y) (2 ^ n) (fun i j => if j < i then (if j = 0 then T else 0) else f j) (by funext j; simp) (by omega) ?_ ?_
  · intro m
    rw [f_X11_findAny_60_s, if_pos (ps_le (by omega) (by omega) (Nat.le_refl _))]
  · intro m i hi
    have e : (if nI i = 0 then some T else some 0) = some (if i = 0 then T else 0) := by
      by_cases h : i = 0
      · subst h; rfl
      · rw [if_neg (nI_ne0 (by omega) (by omega)), if_neg h]
    rw [f_X11_findAny_60_s, if_neg (ng_le (by omega) (by omega) hi), e, Option.bind_some, nu_setL _ _ (show i < 4096 by omega) (by omega), Option.bind_some, nI_1, updL_lt (f := fun j => if j = 0 then T else 0) rfl]
theorem m_any156 {n : Nat} {Dm : Nat → Nat → Nat} {B i d : Nat} {z : Nat → Int32} {y : Nat → Int64} {f : Nat → Nat} (hD : Dok n Dm) (hB1 : 1 ≤ B) (hB : B ≤ 99) (hi : i < 2 ^ n) (hg : gB n Dm B i = true) (hz : z i = nI (oB n Dm B i)) (hy : ∀ S, S < 2 ^ n → y S = lN (f S)) : ∃ y', f_X11_findAny_156 (nI n) (nI (2 ^ n), z) (lN d) (nI i) FU 0 y = some y' ∧ ∀ S, S < 2 ^ n → y' S = lN (f S + (if ∃ s, s < n ∧ (oB n Dm B i).testBit s = true ∧ S = i ||| 2 ^ s then d else 0)) := by
  have hn := hD.1
  have hp12 : 2 ^ n ≤ 2 ^ 12 := Nat.pow_le_pow_right (by omega) hn
  have hys := Sys_bench hD hB1 hB
  have hop : oB n Dm B i < 2 ^ n := hys.2.2.1 i hi
  obtain ⟨y', m, k1, k2⟩ := lp_inv (fun m u y => f_X11_findAny_156 (nI n) (nI (2 ^ n), z) (lN d) (nI i) m (nI u) y) n (fun u y => ∀ S, S < 2 ^ n → y S = lN (f S + (if ∃ s, s < u ∧ (oB n Dm B i).testBit s = true ∧ S = i ||| 2 ^ s then d else 0))) (fun m u y hu hI => by
    have hlt : i ||| 2 ^ u < 2 ^ n := Nat.or_lt_two_pow hi (Nat.pow_lt_pow_right (by omega) hu)
    refine ⟨vp_updL y (i ||| 2 ^ u) (y (i ||| 2 ^ u) + (if (oB n Dm B i).testBit u then lN d else 0)), ?_, ?_⟩
    · intro S hS
      cases hb : (oB n Dm B i).testBit u with
      | false =>
        have e0 : vp_updL y (i ||| 2 ^ u) (y (i ||| 2 ^ u) + (if false then lN d else 0)) S = y S := by
          by_cases e : S = i ||| 2 ^ u
          · subst e
            rw [pk_uLs, if_neg (by decide), hI _ hS, show (0 : Int64) = lN 0 from rfl, lN_add, Nat.add_zero]
          · rw [pk_uLn e]
        rw [e0, hI S hS]
        congr 2
        refine ifc ?_
        constructor
        · intro ⟨s, a, b, c⟩; exact ⟨s, by omega, b, c⟩
        · intro ⟨s, a, b, c⟩
          by_cases e : s = u
          · subst e; rw [hb] at b; cases b
          · exact ⟨s, by omega, b, c⟩
      | true =>
        obtain ⟨a1, a2, a3, a4⟩ := hys.2.2.2 i u hi hg hb
        by_cases e : S = i ||| 2 ^ u
        · subst e
          rw [pk_uLs, if_pos rfl, hI _ hlt, lN_add, if_neg (fun ⟨s, b1, b2, b3⟩ => by have := or_inj a1 b3; omega), Nat.add_zero, if_pos ⟨u, by omega, hb, rfl⟩]
        · rw [pk_uLn e, hI S hS]
          congr 2
          refine ifc ?_
          constructor
          · intro ⟨s, a, b, c⟩; exact ⟨s, by omega, b, c⟩
          · intro ⟨s, a, b, c⟩
            by_cases e2 : s = u
            · subst e2; exact absurd c e
            · exact ⟨s, by omega, b, c⟩
    · have e1 : (if (nI (oB n Dm B i) >>> (nI u &&& 31)) &&& 1 = 1 then some (lN d) else some 0) = some (if (oB n Dm B i).testBit u then lN d else 0) := by
        cases hb : (oB n Dm B i).testBit u with
        | false => rw [if_neg (fun e => by rw [(nu_bit1 (by omega) (by omega)).mp e] at hb; cases hb), if_neg (by decide)]
        | true => rw [if_pos ((nu_bit1 (by omega) (by omega)).mpr hb), if_pos rfl]
      rw [f_X11_findAny_156_s, if_neg (ng_le (by omega) (by omega) hu), nu_or (by omega), nu_get _ (show i ||| 2 ^ u < 4096 by omega) (by omega), Option.bind_some, nu_get _ (show i < 4096 by omega) (by omega), Option.bind_some, show (nI (2 ^ n), z).2 i = _ from hz, e1, Option.bind_some, nu_setL _ _ (show i ||| 2 ^ u < 4096 by omega) (by omega), Option.bind_some, nI_1]) FU 0 y (by omega) (by rw [FU_eq]; omega) (by
    intro S hS
    rw [hy S hS, if_neg (fun ⟨s, b1, _⟩ => by omega), Nat.add_zero])
  refine ⟨y', ?_, k1⟩
  have k2' : f_X11_findAny_156 (nI n) (nI (2 ^ n), z) (lN d) (nI i) FU 0 y = _ := k2
  rw [k2', f_X11_findAny_156_s, if_pos (ps_le (by omega) (by omega) (Nat.le_refl n))]
theorem whB_no {n : Nat} {Dm : Nat → Nat → Nat} {B S : Nat} (h : gB n Dm B S = false) : whB n Dm B S = false := by
  unfold whB
  rw [show flb n Dm B S n = false from h]
  rfl
theorem orc_s (n : Nat) (Dm : Nat → Nat → Nat) (B T c S : Nat) : orc n Dm B T c (S + 1) = orc n Dm B T c S + (if whB n Dm B S = true ∧ pc 12 S = c then chT n Dm B T (2 ^ n) S else 0) := rfl
theorem m_any {n : Nat} {Dm : Nat → Nat → Nat} {B : Nat} {f vm : Nat → Int32} {ve vr : Nat → Int64} (hD : Dok n Dm) (hF : FarM n Dm f) (hB1 : 1 ≤ B) (hB : B ≤ 99) : ∃ z e y, f_X11_findAny (nI n) (nI B) f vm ve vr = some (lN (fac n), z, e, y) ∧ ∀ c, c ≤ 12 → e c = lN (orc n Dm B (fac n) c (2 ^ n)) := by
  have hn := hD.1
  have hp12 : 2 ^ n ≤ 2 ^ 12 := Nat.pow_le_pow_right (by omega) hn
  have hys := Sys_bench hD hB1 hB
  have hfn := fac_le hn
  have hdv : fac (pc 12 (oB n Dm B 0)) ∣ fac n := fac_dvd n (oB_pc0 n Dm B)
  obtain ⟨z, hz1, hz2⟩ := m_mays (vm := vm) hD hF hB
  obtain ⟨s', m, k1, k2⟩ := lp_inv (fun m i (s : (Nat → Int64) × (Nat → Int64)) => f_X11_findAny_91 (nI n) (nI (2 ^ n), z) m (nI i) s.1 s.2) (2 ^ n) (fun i s => (∀ c, c ≤ 12 → s.1 c = lN (orc n Dm B (fac n) c i)) ∧ ∀ S, S < 2 ^ n → s.2 S = lN (cg n (gB n Dm B) (oB n Dm B) (fac n) i S)) (fun m i s hi hI => by
    obtain ⟨i1, i2⟩ := hI
    have hop : oB n Dm B i < 2 ^ n := hys.2.2.1 i hi
    have p2 := pc_le i 12
    cases hg : gB n Dm B i with
    | false =>
      have hzi : z i = -6 := by rw [hz2 i hi, hg, if_neg (by decide)]
      refine ⟨s, ⟨?_, ?_⟩, ?_⟩
      · intro c hc
        rw [i1 c hc, orc_s, if_neg (fun e => by rw [whB_no hg] at e; cases e.1), Nat.add_zero]
      · intro S hS
        rw [i2 S hS, cg_s, if_neg (fun e => by rw [hg] at e; cases e.1), Nat.add_zero]
      · rw [f_X11_findAny_91_s, if_neg (ng_le (by omega) (by omega) hi), nu_get _ (show i < 4096 by omega) (by omega), Option.bind_some, show (nI (2 ^ n), z).2 i = _ from hzi, if_neg (show ¬ (-6 : Int32) = 0 by decide), Option.bind_some, if_pos (show (-6 : Int32) ≤ 0 by decide), Option.bind_some, nI_1]
    | true =>
      have hzi : z i = nI (oB n Dm B i) := by rw [hz2 i hi, hg, if_pos rfl]
      have hle := cg_le (T := fac n) hys hdv hi hg
      by_cases h0 : oB n Dm B i = 0
      · have hw : whB n Dm B i = true := by
          unfold whB
          rw [show flb n Dm B i n = true from hg, show opm n Dm B i n = 0 from h0]
          rfl
        refine ⟨(vp_updL s.1 (pc 12 i) (s.1 (pc 12 i) + s.2 i), s.2), ⟨?_, ?_⟩, ?_⟩
        · intro c hc
          rw [orc_s]
          by_cases e : c = pc 12 i
          · subst e
            rw [if_pos ⟨hw, rfl⟩]
            show vp_updL s.1 (pc 12 i) (s.1 (pc 12 i) + s.2 i) (pc 12 i) = _
            rw [pk_uLs, i1 _ hc, i2 i hi, lN_add, chT_B, cg_stay hys (2 ^ n) (by omega) (Nat.le_refl _)]
          · rw [if_neg (fun h => e h.2.symm), Nat.add_zero]
            show vp_updL s.1 (pc 12 i) (s.1 (pc 12 i) + s.2 i) c = _
            rw [pk_uLn e, i1 c hc]
        · intro S hS
          show s.2 S = _
          rw [i2 S hS, cg_s, if_neg, Nat.add_zero]
          intro ⟨_, s, _, hb, _⟩
          rw [h0, Nat.zero_testBit] at hb
          cases hb
        · rw [f_X11_findAny_91_s, if_neg (ng_le (by omega) (by omega) hi), nu_get _ (show i < 4096 by omega) (by omega), Option.bind_some, show (nI (2 ^ n), z).2 i = _ from hzi, h0, if_pos (show nI 0 = 0 from rfl), m_ones (by omega), Option.bind_some, nu_get _ (show pc 12 i < 13 by omega) (by omega), Option.bind_some, nu_get _ (show i < 4096 by omega) (by omega), Option.bind_some, nu_setL _ _ (show pc 12 i < 13 by omega) (by omega), Option.bind_some, Option.bind_some, nI_1]
      · have hk := pc_pos h0 hop hn
        have hk2 := pc_le (oB n Dm B i) 12
        have hw : whB n Dm B i = false := by
          cases hx : whB n Dm B i with
          | false => rfl
          | true =>
            unfold whB at hx
            rw [Bool.and_eq_true, decide_eq_true_eq] at hx
            exact absurd hx.2 h0
        obtain ⟨y', q1, q2⟩ := m_any156 (d := cg n (gB n Dm B) (oB n Dm B) (fac n) i i / pc 12 (oB n Dm B i)) hD hB1 hB hi hg hzi i2
        refine ⟨(s.1, y'), ⟨?_, ?_⟩, ?_⟩
        · intro c hc
          show s.1 c = _
          rw [i1 c hc, orc_s, if_neg (fun e => by rw [hw] at e; cases e.1), Nat.add_zero]
        · intro S hS
          show y' S = _
          rw [q2 S hS, cg_s]
          congr 2
          refine ifc ?_
          exact ⟨fun h => ⟨hg, h⟩, fun h => h.2⟩
        · have ed : odivL (lN (cg n (gB n Dm B) (oB n Dm B) (fac n) i i)) (lN (pc 12 (oB n Dm B i))) = some (lN (cg n (gB n Dm B) (oB n Dm B) (fac n) i i / pc 12 (oB n Dm B i))) := by
            unfold odivL
            rw [if_neg (fun e => by have := (pk_lEQ (b := 0) (by omega) (by omega)).mp e; omega), pk_lDiv (by omega) (by omega) (by omega)]
          rw [f_X11_findAny_91_s, if_neg (ng_le (by omega) (by omega) hi), nu_get _ (show i < 4096 by omega) (by omega), Option.bind_some, show (nI (2 ^ n), z).2 i = _ from hzi, if_neg (nI_ne0 (by omega) (by omega)), Option.bind_some, if_neg (nI_nle (by omega) (by omega)), nu_get _ (show i < 4096 by omega) (by omega), Option.bind_some, Option.bind_some, m_ones (by omega), Option.bind_some, nI_l (by omega), i2 i hi, ed, Option.bind_some, q1, Option.bind_some, Option.bind_some, nI_1]) FU 0 ((fun j => if j < 13 then 0 else ve j), (fun j => if j < 2 ^ n then (if j = 0 then lN (fac n) else 0) else vr j)) (Nat.zero_le _) (by rw [FU_eq]; omega) (by
    refine ⟨?_, ?_⟩
    · intro c hc
      show (if c < 13 then (0 : Int64) else ve c) = _
      rw [if_pos (by omega)]; rfl
    · intro S hS
      show (if S < 2 ^ n then (if S = 0 then lN (fac n) else 0) else vr S) = lN (if S = 0 then fac n else 0)
      rw [if_pos hS]
      by_cases e : S = 0
      · rw [if_pos e, if_pos e]
      · rw [if_neg e, if_neg e]; rfl)
  refine ⟨z, s'.1, s'.2, ?_, k1.1⟩
  have k2' : f_X11_findAny_91 (nI n) (nI (2 ^ n), z) FU 0 (fun j => if j < 13 then 0 else ve j) (fun j => if j < 2 ^ n then (if j = 0 then lN (fac n) else 0) else vr j) = _ := k2
  unfold f_X11_findAny
  rw [hz1, Option.bind_some, m_any12 hD.2.1 hn, Option.bind_some, m_any39, Option.bind_some, m_any60 hn, Option.bind_some, k2', f_X11_findAny_91_s, if_pos (ps_le (by omega) (by omega) (Nat.le_refl _)), Option.bind_some]
end RT1
