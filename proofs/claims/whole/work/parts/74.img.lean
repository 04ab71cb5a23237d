/-! images: copied, written, read -/
section IM1
theorem upd_self (f : Nat → Int32) (i : Nat) : upd f i (f i) = f := by
  funext j
  by_cases e : j = i
  · subst e; exact pk_us
  · exact pk_un e
def cpF (N : Nat) (f g : Nat → Int32) (j : Nat) : Int32 := if j < N then f j else g j
theorem cpF_lt {N : Nat} {f g : Nat → Int32} {j : Nat} (h : j < N) : cpF N f g j = f j := if_pos h
theorem x_cpy12 (f g : Nat → Int32) : acpyI 12 12 f g 0 0 12 = some (cpF 12 f g) := by
  unfold acpyI
  rw [if_pos (by decide)]
  congr 1
  funext j
  show (if 0 ≤ j ∧ j < 0 + 12 then f (0 + (j - 0)) else g j) = _
  unfold cpF
  by_cases h : j < 12
  · rw [if_pos ⟨Nat.zero_le _, by omega⟩, if_pos h, Nat.zero_add, Nat.sub_zero]
  · rw [if_neg (by omega), if_neg h]
theorem x_cpy96 (f g : Nat → Int32) : acpyI 96 96 f g 0 0 96 = some (cpF 96 f g) := by
  unfold acpyI
  rw [if_pos (by decide)]
  congr 1
  funext j
  show (if 0 ≤ j ∧ j < 0 + 96 then f (0 + (j - 0)) else g j) = _
  unfold cpF
  by_cases h : j < 96
  · rw [if_pos ⟨Nat.zero_le _, by omega⟩, if_pos h, Nat.zero_add, Nat.sub_zero]
  · rw [if_neg (by omega), if_neg h]
theorem x_cpy8 (f g : Nat → Int32) : acpyI 8 8 f g 0 0 8 = some (cpF 8 f g) := by
  unfold acpyI
  rw [if_pos (by decide)]
  congr 1
  funext j
  show (if 0 ≤ j ∧ j < 0 + 8 then f (0 + (j - 0)) else g j) = _
  unfold cpF
  by_cases h : j < 8
  · rw [if_pos ⟨Nat.zero_le _, by omega⟩, if_pos h, Nat.zero_add, Nat.sub_zero]
  · rw [if_neg (by omega), if_neg h]
theorem x_copy (s b c r : Int32) (li li' wo wo' co co' se se' sl sl' : Nat → Int32) : f_X7_copyFrom s b c r li li' wo wo' co co' se se' sl sl' = some (s, b, c, r, cpF 12 li li', cpF 12 wo wo', cpF 12 co co', cpF 96 se se', cpF 8 sl sl') := by
  unfold f_X7_copyFrom
  rw [x_cpy12, Option.bind_some, x_cpy12, Option.bind_some, x_cpy12, Option.bind_some, x_cpy96, Option.bind_some, x_cpy8, Option.bind_some]
theorem SC_cp {n B k r : Nat} {st w hb sn ln : Nat → Nat} {s b c q : Int32} {li wo co se sl li' wo' co' se' sl' : Nat → Int32} (h : SC n B k r st w hb sn ln s b c q li wo co se sl) (h1 : ∀ i, i < 12 → li' i = li i) (h2 : ∀ i, i < 12 → wo' i = wo i) (h3 : ∀ i, i < 12 → co' i = co i) (h4 : ∀ i, i < 96 → se' i = se i) (h5 : ∀ i, i < 8 → sl' i = sl i) : SC n B k r st w hb sn ln s b c q li' wo' co' se' sl' := by
  obtain ⟨a1, a2, a3, a4, a5, a6, a7, a8, a9, a10, a11, a12, a13, a14⟩ := h
  refine ⟨a1, a2, a3, a4, a5, a6, a7, a8, a9, a10, fun i hi => ?_, fun i hi => ?_, fun i hi => ?_, fun q hq => ?_⟩
  · rw [h1 i (by omega)]; exact a11 i hi
  · rw [h2 i (by omega)]; exact a12 i hi
  · rw [h3 i (by omega)]; exact a13 i hi
  · obtain ⟨b1, b2, b3⟩ := a14 q hq
    refine ⟨by rw [h5 q (by omega)]; exact b1, b2, fun j hj => ?_⟩
    have := b2.1
    rw [h4 _ (by omega)]; exact b3 j hj
/-- the row of what is kept, as far as it is written -/
def kpt (a p : Nat) (t f : Nat → Int32) (x : Nat) : Int32 := if a ≤ x ∧ x < p then t x else f x
theorem kpt_s {a p : Nat} {t f : Nat → Int32} {v : Int32} (h : a ≤ p) (hv : v = t p) : upd (kpt a p t f) p v = kpt a (p + 1) t f := by
  funext x
  by_cases e : x = p
  · subst e
    rw [pk_us, hv]
    unfold kpt
    rw [if_pos ⟨h, by omega⟩]
  · rw [pk_un e]
    unfold kpt
    exact ifc (by omega)
theorem kpt_0 (a : Nat) (t f : Nat → Int32) : kpt a a t f = f := by
  funext x
  unfold kpt
  rw [if_neg (by omega)]
theorem m_pW {p : Nat} (hp : p < 400) (kept : Nat → Int32) (v : Int32) : f_X11_pass (nI p) 1 kept v = some (v, nI (p + 1), upd kept p v) := by
  unfold f_X11_pass
  rw [if_neg (by decide), Option.bind_some, nu_set _ _ hp (by omega), Option.bind_some, nI_1]
theorem m_pR {p : Nat} (hp : p < 400) (kept : Nat → Int32) (v : Int32) : f_X11_pass (nI p) 0 kept v = some (kept p, nI (p + 1), kept) := by
  unfold f_X11_pass
  rw [if_pos rfl, nu_get _ hp (by omega), Option.bind_some, Option.bind_some, nu_set _ _ hp (by omega), Option.bind_some, nI_1, upd_self]
def tgt (a : Nat) (s b c r : Int32) (li wo co sl se : Nat → Int32) (x : Nat) : Int32 :=
  if x = a then s else if x = a + 1 then b else if x = a + 2 then c else if x = a + 3 then r else if x < a + 40 then (if (x - a - 4) % 3 = 0 then li ((x - a - 4) / 3) else if (x - a - 4) % 3 = 1 then wo ((x - a - 4) / 3) else co ((x - a - 4) / 3)) else if x < a + 48 then sl (x - a - 40) else se (x - a - 48)
section TG
variable (a : Nat) (s b c r : Int32) (li wo co sl se : Nat → Int32)
theorem tgt_a : tgt a s b c r li wo co sl se a = s := if_pos rfl
theorem tgt_b : tgt a s b c r li wo co sl se (a + 1) = b := by
  unfold tgt
  rw [if_neg (by omega), if_pos rfl]
theorem tgt_c : tgt a s b c r li wo co sl se (a + 2) = c := by
  unfold tgt
  rw [if_neg (by omega), if_neg (by omega), if_pos rfl]
theorem tgt_r : tgt a s b c r li wo co sl se (a + 3) = r := by
  unfold tgt
  rw [if_neg (by omega), if_neg (by omega), if_neg (by omega), if_pos rfl]
theorem tgt_li {i : Nat} (hi : i < 12) : tgt a s b c r li wo co sl se (a + 4 + 3 * i) = li i := by
  unfold tgt
  rw [if_neg (by omega), if_neg (by omega), if_neg (by omega), if_neg (by omega), if_pos (by omega), if_pos (by omega), show (a + 4 + 3 * i - a - 4) / 3 = i by omega]
theorem tgt_wo {i : Nat} (hi : i < 12) : tgt a s b c r li wo co sl se (a + 5 + 3 * i) = wo i := by
  unfold tgt
  rw [if_neg (by omega), if_neg (by omega), if_neg (by omega), if_neg (by omega), if_pos (by omega), if_neg (by omega), if_pos (by omega), show (a + 5 + 3 * i - a - 4) / 3 = i by omega]
theorem tgt_co {i : Nat} (hi : i < 12) : tgt a s b c r li wo co sl se (a + 6 + 3 * i) = co i := by
  unfold tgt
  rw [if_neg (by omega), if_neg (by omega), if_neg (by omega), if_neg (by omega), if_pos (by omega), if_neg (by omega), if_neg (by omega), show (a + 6 + 3 * i - a - 4) / 3 = i by omega]
theorem tgt_sl {i : Nat} (hi : i < 8) : tgt a s b c r li wo co sl se (a + 40 + i) = sl i := by
  unfold tgt
  rw [if_neg (by omega), if_neg (by omega), if_neg (by omega), if_neg (by omega), if_neg (by omega), if_pos (by omega), show a + 40 + i - a - 40 = i by omega]
theorem tgt_se (i : Nat) : tgt a s b c r li wo co sl se (a + 48 + i) = se i := by
  unfold tgt
  rw [if_neg (by omega), if_neg (by omega), if_neg (by omega), if_neg (by omega), if_neg (by omega), if_neg (by omega), show a + 48 + i - a - 48 = i by omega]
end TG
theorem lp_at5 {σ1 σ2 σ3 σ4 σ5 τ : Type} (F : Nat → Nat → σ1 → σ2 → σ3 → σ4 → σ5 → Option τ) (e : Nat) (P1 : Nat → σ1) (P2 : Nat → σ2) (P3 : Nat → σ3) (P4 : Nat → σ4) (P5 : Nat → σ5) {o : τ} {s1 : σ1} {s2 : σ2} {s3 : σ3} {s4 : σ4} {s5 : σ5} (h1 : P1 0 = s1) (h2 : P2 0 = s2) (h3 : P3 0 = s3) (h4 : P4 0 = s4) (h5 : P5 0 = s5) (he : e < 5000) (hx : ∀ n, F (n + 1) e (P1 e) (P2 e) (P3 e) (P4 e) (P5 e) = some o) (hs : ∀ n i, i < e → F (n + 1) i (P1 i) (P2 i) (P3 i) (P4 i) (P5 i) = F n (i + 1) (P1 (i + 1)) (P2 (i + 1)) (P3 (i + 1)) (P4 (i + 1)) (P5 (i + 1))) : F FU 0 s1 s2 s3 s4 s5 = some o :=
  lp_at (fun n i (z : σ1 × σ2 × σ3 × σ4 × σ5) => F n i z.1 z.2.1 z.2.2.1 z.2.2.2.1 z.2.2.2.2) e (fun i => (P1 i, P2 i, P3 i, P4 i, P5 i)) (s0 := (s1, s2, s3, s4, s5)) (by rw [h1, h2, h3, h4, h5]) he hx hs
theorem cpF_0 (f g : Nat → Int32) : cpF 0 f g = g := by
  funext j
  unfold cpF
  rw [if_neg (by omega)]
theorem m_allW {a : Nat} (ha : a + 144 ≤ 400) (s b c r : Int32) (kept li wo co sl se : Nat → Int32) : f_X11_passAll s b c r (nI a) 1 kept li wo co sl se = some (s, b, c, r, nI (a + 144), kpt a (a + 144) (tgt a s b c r li wo co sl se) kept, li, wo, co, sl, se) := by
  have l50 : f_X11_passAll_50 1 FU 0 (nI (a + 4)) (kpt a (a + 4) (tgt a s b c r li wo co sl se) kept) li wo co = some (nI (a + 40), kpt a (a + 40) (tgt a s b c r li wo co sl se) kept, li, wo, co) := by
    refine lp_at5 (fun m i z1 z2 z3 z4 z5 => f_X11_passAll_50 1 m (nI i) z1 z2 z3 z4 z5) 12 (fun i => nI (a + 4 + 3 * i)) (fun i => kpt a (a + 4 + 3 * i) (tgt a s b c r li wo co sl se) kept) (fun _ => li) (fun _ => wo) (fun _ => co) rfl rfl rfl rfl rfl (by omega) ?_ ?_
    · intro m
      try dsimp only
      rw [f_X11_passAll_50_s, if_pos (by decide), show a + 4 + 3 * 12 = a + 40 by omega]
    · intro m i hi
      try dsimp only
      rw [f_X11_passAll_50_s, if_neg (show ¬ (12 : Int32) ≤ nI i from ng_le (a := 12) (by omega) (by omega) hi), nu_get _ hi (by omega), Option.bind_some, m_pW (by omega), Option.bind_some, nu_set _ _ hi (by omega), Option.bind_some, upd_self, nu_get _ hi (by omega), Option.bind_some, m_pW (by omega), Option.bind_some, nu_set _ _ hi (by omega), Option.bind_some, upd_self, nu_get _ hi (by omega), Option.bind_some, m_pW (by omega), Option.bind_some, nu_set _ _ hi (by omega), Option.bind_some, upd_self, nI_1, kpt_s (by omega) (tgt_li a s b c r li wo co sl se hi).symm, kpt_s (by omega) (by rw [show a + 4 + 3 * i + 1 = a + 5 + 3 * i by omega]; exact (tgt_wo a s b c r li wo co sl se hi).symm), kpt_s (by omega) (by rw [show a + 4 + 3 * i + 1 + 1 = a + 6 + 3 * i by omega]; exact (tgt_co a s b c r li wo co sl se hi).symm), show a + 4 + 3 * i + 1 + 1 + 1 = a + 4 + 3 * (i + 1) by omega]
  have l112 : f_X11_passAll_112 1 FU 0 (nI (a + 40)) (kpt a (a + 40) (tgt a s b c r li wo co sl se) kept) sl = some (nI (a + 48), kpt a (a + 48) (tgt a s b c r li wo co sl se) kept, sl) := by
    refine lp_at3 (fun m i z1 z2 z3 => f_X11_passAll_112 1 m (nI i) z1 z2 z3) 8 (fun i => nI (a + 40 + i)) (fun i => kpt a (a + 40 + i) (tgt a s b c r li wo co sl se) kept) (fun _ => sl) rfl rfl rfl (by omega) ?_ ?_
    · intro m
      try dsimp only
      rw [f_X11_passAll_112_s, if_pos (by decide), show a + 40 + 8 = a + 48 by omega]
    · intro m i hi
      try dsimp only
      rw [f_X11_passAll_112_s, if_neg (show ¬ (8 : Int32) ≤ nI i from ng_le (a := 8) (by omega) (by omega) hi), nu_get _ hi (by omega), Option.bind_some, m_pW (by omega), Option.bind_some, nu_set _ _ hi (by omega), Option.bind_some, upd_self, nI_1, kpt_s (by omega) (tgt_sl a s b c r li wo co sl se hi).symm, show a + 40 + i + 1 = a + 40 + (i + 1) from rfl]
  have l142 : f_X11_passAll_142 1 FU 0 (nI (a + 48)) (kpt a (a + 48) (tgt a s b c r li wo co sl se) kept) se = some (nI (a + 144), kpt a (a + 144) (tgt a s b c r li wo co sl se) kept, se) := by
    refine lp_at3 (fun m i z1 z2 z3 => f_X11_passAll_142 1 m (nI i) z1 z2 z3) 96 (fun i => nI (a + 48 + i)) (fun i => kpt a (a + 48 + i) (tgt a s b c r li wo co sl se) kept) (fun _ => se) rfl rfl rfl (by omega) ?_ ?_
    · intro m
      try dsimp only
      rw [f_X11_passAll_142_s, if_pos (by decide), show a + 48 + 96 = a + 144 by omega]
    · intro m i hi
      try dsimp only
      rw [f_X11_passAll_142_s, if_neg (show ¬ (96 : Int32) ≤ nI i from ng_le (a := 96) (by omega) (by omega) hi), nu_get _ hi (by omega), Option.bind_some, m_pW (by omega), Option.bind_some, nu_set _ _ hi (by omega), Option.bind_some, upd_self, nI_1, kpt_s (by omega) (tgt_se a s b c r li wo co sl se i).symm, show a + 48 + i + 1 = a + 48 + (i + 1) from rfl]
  unfold f_X11_passAll
  rw [m_pW (by omega), Option.bind_some, m_pW (by omega), Option.bind_some, m_pW (by omega), Option.bind_some, m_pW (by omega), Option.bind_some]
  dsimp only
  rw [show upd (upd (upd (upd kept a s) (a + 1) b) (a + 1 + 1) c) (a + 1 + 1 + 1) r = kpt a (a + 4) (tgt a s b c r li wo co sl se) kept by
    have e := kpt_0 a (tgt a s b c r li wo co sl se) kept
    rw [← e, kpt_s (by omega) (tgt_a a s b c r li wo co sl se).symm, kpt_s (by omega) (tgt_b a s b c r li wo co sl se).symm, kpt_s (by omega) (tgt_c a s b c r li wo co sl se).symm, kpt_s (by omega) (tgt_r a s b c r li wo co sl se).symm, e], show a + 1 + 1 + 1 + 1 = a + 4 by omega, l50, Option.bind_some]
  dsimp only
  rw [l112, Option.bind_some]
  dsimp only
  rw [l142, Option.bind_some]
theorem m_allR {a : Nat} (ha : a + 144 ≤ 400) (s b c r : Int32) (kept li wo co sl se : Nat → Int32) : f_X11_passAll s b c r (nI a) 0 kept li wo co sl se = some (kept a, kept (a + 1), kept (a + 2), kept (a + 3), nI (a + 144), kept, cpF 12 (fun j => kept (a + 4 + 3 * j)) li, cpF 12 (fun j => kept (a + 5 + 3 * j)) wo, cpF 12 (fun j => kept (a + 6 + 3 * j)) co, cpF 8 (fun j => kept (a + 40 + j)) sl, cpF 96 (fun j => kept (a + 48 + j)) se) := by
  have l50 : f_X11_passAll_50 0 FU 0 (nI (a + 4)) kept li wo co = some (nI (a + 40), kept, cpF 12 (fun j => kept (a + 4 + 3 * j)) li, cpF 12 (fun j => kept (a + 5 + 3 * j)) wo, cpF 12 (fun j => kept (a + 6 + 3 * j)) co) := by
    refine lp_at5 (fun m i z1 z2 z3 z4 z5 => f_X11_passAll_50 0 m (nI i) z1 z2 z3 z4 z5) 12 (fun i => nI (a + 4 + 3 * i)) (fun _ => kept) (fun i => cpF i (fun j => kept (a + 4 + 3 * j)) li) (fun i => cpF i (fun j => kept (a + 5 + 3 * j)) wo) (fun i => cpF i (fun j => kept (a + 6 + 3 * j)) co) rfl rfl (cpF_0 _ _) (cpF_0 _ _) (cpF_0 _ _) (by omega) ?_ ?_
    · intro m
      try dsimp only
      rw [f_X11_passAll_50_s, if_pos (by decide), show a + 4 + 3 * 12 = a + 40 by omega]
    · intro m i hi
      have e : ∀ (f g : Nat → Int32) (x : Int32), x = f i → upd (cpF i f g) i x = cpF (i + 1) f g := fun f g x hx => upd_lt hx
      try dsimp only
      rw [f_X11_passAll_50_s, if_neg (show ¬ (12 : Int32) ≤ nI i from ng_le (a := 12) (by omega) (by omega) hi), nu_get _ hi (by omega), Option.bind_some, m_pR (by omega), Option.bind_some, nu_set _ _ hi (by omega), Option.bind_some, nu_get _ hi (by omega), Option.bind_some, m_pR (by omega), Option.bind_some, nu_set _ _ hi (by omega), Option.bind_some, nu_get _ hi (by omega), Option.bind_some, m_pR (by omega), Option.bind_some, nu_set _ _ hi (by omega), Option.bind_some, nI_1]
      try dsimp only
      rw [e _ _ _ rfl, e (fun j => kept (a + 5 + 3 * j)) wo _ (by rw [show a + 4 + 3 * i + 1 = a + 5 + 3 * i by omega]), e (fun j => kept (a + 6 + 3 * j)) co _ (by rw [show a + 4 + 3 * i + 1 + 1 = a + 6 + 3 * i by omega]), show a + 4 + 3 * i + 1 + 1 + 1 = a + 4 + 3 * (i + 1) by omega]
  have l112 : f_X11_passAll_112 0 FU 0 (nI (a + 40)) kept sl = some (nI (a + 48), kept, cpF 8 (fun j => kept (a + 40 + j)) sl) := by
    refine lp_at3 (fun m i z1 z2 z3 => f_X11_passAll_112 0 m (nI i) z1 z2 z3) 8 (fun i => nI (a + 40 + i)) (fun _ => kept) (fun i => cpF i (fun j => kept (a + 40 + j)) sl) rfl rfl (cpF_0 _ _) (by omega) ?_ ?_
    · intro m
      try dsimp only
      rw [f_X11_passAll_112_s, if_pos (by decide), show a + 40 + 8 = a + 48 by omega]
    · intro m i hi
      have e : ∀ (f g : Nat → Int32) (x : Int32), x = f i → upd (cpF i f g) i x = cpF (i + 1) f g := fun f g x hx => upd_lt hx
      try dsimp only
      rw [f_X11_passAll_112_s, if_neg (show ¬ (8 : Int32) ≤ nI i from ng_le (a := 8) (by omega) (by omega) hi), nu_get _ hi (by omega), Option.bind_some, m_pR (by omega), Option.bind_some, nu_set _ _ hi (by omega), Option.bind_some, nI_1]
      try dsimp only
      rw [e _ _ _ rfl, show a + 40 + i + 1 = a + 40 + (i + 1) from rfl]
  have l142 : f_X11_passAll_142 0 FU 0 (nI (a + 48)) kept se = some (nI (a + 144), kept, cpF 96 (fun j => kept (a + 48 + j)) se) := by
    refine lp_at3 (fun m i z1 z2 z3 => f_X11_passAll_142 0 m (nI i) z1 z2 z3) 96 (fun i => nI (a + 48 + i)) (fun _ => kept) (fun i => cpF i (fun j => kept (a + 48 + j)) se) rfl rfl (cpF_0 _ _) (by omega) ?_ ?_
    · intro m
      try dsimp only
      rw [f_X11_passAll_142_s, if_pos (by decide), show a + 48 + 96 = a + 144 by omega]
    · intro m i hi
      have e : ∀ (f g : Nat → Int32) (x : Int32), x = f i → upd (cpF i f g) i x = cpF (i + 1) f g := fun f g x hx => upd_lt hx
      try dsimp only
      rw [f_X11_passAll_142_s, if_neg (show ¬ (96 : Int32) ≤ nI i from ng_le (a := 96) (by omega) (by omega) hi), nu_get _ hi (by omega), Option.bind_some, m_pR (by omega), Option.bind_some, nu_set _ _ hi (by omega), Option.bind_some, nI_1]
      try dsimp only
      rw [e _ _ _ rfl, show a + 48 + i + 1 = a + 48 + (i + 1) from rfl]
  unfold f_X11_passAll
  rw [m_pR (by omega), Option.bind_some, m_pR (by omega), Option.bind_some, m_pR (by omega), Option.bind_some, m_pR (by omega), Option.bind_some]
  dsimp only
  rw [show a + 1 + 1 + 1 + 1 = a + 4 by omega, l50, Option.bind_some]
  dsimp only
  rw [l112, Option.bind_some]
  dsimp only
  rw [l142, Option.bind_some]
theorem img_new {q n B k r : Nat} {st w hb sn ln : Nat → Nat} {s b c rr : Int32} {kept isKept li wo co se sl : Nat → Int32} (li' wo' co' se' sl' : Nat → Int32) (h : SC n B k r st w hb sn ln s b c rr li wo co se sl) : ImgOK q (some (s, b, c, rr, cpF 12 li li', cpF 12 wo wo', cpF 12 co co', cpF 96 se se', cpF 8 sl sl')) (kpt (200 * q) (200 * q + 144) (tgt (200 * q) s b c rr li wo co sl se) kept) (upd isKept q 1) := by
  have hk : ∀ x, 200 * q ≤ x → x < 200 * q + 144 → kpt (200 * q) (200 * q + 144) (tgt (200 * q) s b c rr li wo co sl se) kept x = tgt (200 * q) s b c rr li wo co sl se x := fun x h1 h2 => if_pos ⟨h1, h2⟩
  refine ⟨pk_us, ⟨n, B, k, r, st, w, hb, sn, ln, SC_cp h (fun i hi => cpF_lt hi) (fun i hi => cpF_lt hi) (fun i hi => cpF_lt hi) (fun i hi => cpF_lt hi) (fun i hi => cpF_lt hi)⟩, ?_, ?_, ?_, ?_, fun i hi => ⟨?_, ?_, ?_⟩, fun i hi => ?_, fun i hi => ?_⟩
  · rw [hk _ (by omega) (by omega), tgt_a]
  · rw [hk _ (by omega) (by omega), tgt_b]
  · rw [hk _ (by omega) (by omega), tgt_c]
  · rw [hk _ (by omega) (by omega), tgt_r]
  · rw [hk _ (by omega) (by omega), tgt_li _ _ _ _ _ _ _ _ _ _ hi]; exact (cpF_lt hi).symm
  · rw [hk _ (by omega) (by omega), tgt_wo _ _ _ _ _ _ _ _ _ _ hi]; exact (cpF_lt hi).symm
  · rw [hk _ (by omega) (by omega), tgt_co _ _ _ _ _ _ _ _ _ _ hi]; exact (cpF_lt hi).symm
  · rw [hk _ (by omega) (by omega), tgt_sl _ _ _ _ _ _ _ _ _ _ hi]; exact (cpF_lt hi).symm
  · rw [hk _ (by omega) (by omega), tgt_se]; exact (cpF_lt hi).symm
theorem img_out {q : Nat} {d : Option DT} {f g f' g' : Nat → Int32} (h : ImgOK q d f g) (h1 : ∀ x, 200 * q ≤ x → x < 200 * q + 144 → f' x = f x) (h2 : g' q = g q) : ImgOK q d f' g' := by
  cases d with
  | none => exact h2.trans h
  | some d =>
    obtain ⟨a1, a2, a3, a4, a5, a6, a7, a8, a9⟩ := h
    refine ⟨h2.trans a1, a2, ?_, ?_, ?_, ?_, fun i hi => ⟨?_, ?_, ?_⟩, fun i hi => ?_, fun i hi => ?_⟩
    · rw [h1 _ (by omega) (by omega)]; exact a3
    · rw [h1 _ (by omega) (by omega)]; exact a4
    · rw [h1 _ (by omega) (by omega)]; exact a5
    · rw [h1 _ (by omega) (by omega)]; exact a6
    · rw [h1 _ (by omega) (by omega)]; exact (a7 i hi).1
    · rw [h1 _ (by omega) (by omega)]; exact (a7 i hi).2.1
    · rw [h1 _ (by omega) (by omega)]; exact (a7 i hi).2.2
    · rw [h1 _ (by omega) (by omega)]; exact a8 i hi
    · rw [h1 _ (by omega) (by omega)]; exact a9 i hi
end IM1
