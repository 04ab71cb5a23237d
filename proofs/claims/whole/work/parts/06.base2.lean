section BB1
variable {α β γ : Type}
theorem ob_bk {x : Option α} {g : α → Option β} {k : β → Option γ} {o : γ} (h : (x.bind g).bind k = some o) : ∃ v, x = some v ∧ (g v).bind k = some o := by
  cases x with
  | none => cases h
  | some v => exact ⟨v, rfl, h⟩
theorem ob_tk {c : Prop} [Decidable c] {a b : Option α} {k : α → Option β} {o : β} (hc : c) (h : (if c then a else b).bind k = some o) : a.bind k = some o := by rw [if_pos hc] at h; exact h
theorem ob_fk {c : Prop} [Decidable c] {a b : Option α} {k : α → Option β} {o : β} (hc : ¬ c) (h : (if c then a else b).bind k = some o) : b.bind k = some o := by rw [if_neg hc] at h; exact h
theorem ob_as {x : Option α} {g : α → Option β} {k : β → Option γ} {o : γ} (h : (x.bind g).bind k = some o) : x.bind (fun v => (g v).bind k) = some o := by
  cases x with
  | none => cases h
  | some v => exact h
theorem ob_J {x : Option α} {k : α → Option β} {o : β} {G : Prop} {P : α → Prop} (hf : x.bind k = some o) (hJ : ∀ w, k w = some o → P w) (hB : (∀ w, k w = some o → P w) → x.bind k = some o → G) : G := hB hJ hf
theorem ob_l {f : α → Option γ} {g : β → Option γ} {w : α} {o : γ} (h : Sum.elim f g (Sum.inl w) = some o) : f w = some o := h
theorem ob_r {f : α → Option γ} {g : β → Option γ} {w : β} {o : γ} (h : Sum.elim f g (Sum.inr w) = some o) : g w = some o := h
theorem ob_n {o : α} (h : (none : Option α) = some o) : False := by cases h
def oz (x : Int32) : Option Int32 := if x = 0 ∨ x = 1 then some x else none
theorem oz_ok {x v : Int32} (h : oz x = some v) : x = v ∧ narrow .boolean (.int x) = .int x := by
  unfold oz at h
  by_cases hc : x = 0 ∨ x = 1
  · rw [if_pos hc] at h
    refine ⟨Option.some.inj h, ?_⟩
    rcases hc with rfl | rfl <;> decide
  · rw [if_neg hc] at h; cases h
def oremL (x y : Int64) : Option Int64 := if y = 0 then none else some (x - x / y * y)
theorem oremL_ok {x y v : Int64} (h : oremL x y = some v) : ¬ y = 0 ∧ x - x / y * y = v := by
  unfold oremL at h
  by_cases hc : y = 0
  · rw [if_pos hc] at h; cases h
  · rw [if_neg hc] at h; exact ⟨hc, Option.some.inj h⟩
def iushr (x y : Int32) : Int32 := (x.toUInt32 >>> (y.toUInt32 &&& Int32.toUInt32 31)).toInt32
def imax (x y : Int32) : Int32 := if x < y then y else x
def imin (x y : Int32) : Int32 := if y < x then y else x
theorem ba_tabN {x : Int32} (n : Nat) (hn : n < 2 ^ 31) (h : ∀ k : Nat, k ≤ n → ¬ x = nI k) : x.toInt < 0 ∨ (n : Int) < x.toInt := by
  rcases Int.lt_or_le x.toInt 0 with h1 | h1
  · exact Or.inl h1
  · rcases Int.lt_or_le (n : Int) x.toInt with h2 | h2
    · exact Or.inr h2
    · exfalso
      have hlt : x.toInt < 2 ^ 31 := by have := x.toInt_lt; simpa using this
      refine h x.toInt.toNat (by omega) ?_
      apply Int32.toInt_inj.mp
      rw [nI_toInt (by omega)]
      omega
theorem ba_tab4 {x : Int32} (h0 : ¬ x = 0) (h1 : ¬ x = 1) (h2 : ¬ x = 2) (h3 : ¬ x = 3) (h4 : ¬ x = 4) : x.toInt < 0 ∨ (4 : Int) < x.toInt :=
  ba_tabN 4 (by decide) (fun k hk => by
    rcases (show k = 0 ∨ k = 1 ∨ k = 2 ∨ k = 3 ∨ k = 4 by omega) with rfl | rfl | rfl | rfl | rfl
    · exact h0
    · exact h1
    · exact h2
    · exact h3
    · exact h4)
theorem ba_tab5 {x : Int32} (h0 : ¬ x = 0) (h1 : ¬ x = 1) (h2 : ¬ x = 2) (h3 : ¬ x = 3) (h4 : ¬ x = 4) (h5 : ¬ x = 5) : x.toInt < 0 ∨ (5 : Int) < x.toInt :=
  ba_tabN 5 (by decide) (fun k hk => by
    rcases (show k = 0 ∨ k = 1 ∨ k = 2 ∨ k = 3 ∨ k = 4 ∨ k = 5 by omega) with rfl | rfl | rfl | rfl | rfl | rfl
    · exact h0
    · exact h1
    · exact h2
    · exact h3
    · exact h4
    · exact h5)
theorem ba_look2 {x : Int32} {a b : Int32} {A B o1 o2 d : Int} (h0 : ¬ x = a) (h1 : ¬ x = b) (hA : a.toInt = A := by decide) (hB : b.toInt = B := by decide) : Op.lookupswitch.offset [(A, o1), (B, o2)] d x.toInt = d := by
  have e0 : ¬ A = x.toInt := fun h => h0 (Int32.toInt_inj.mp (by omega))
  have e1 : ¬ B = x.toInt := fun h => h1 (Int32.toInt_inj.mp (by omega))
  rw [Op.lookupswitch.offset_cons, if_neg e0, Op.lookupswitch.offset_cons, if_neg e1, Op.lookupswitch.offset_nil]
end BB1
section BB2
variable {p : Program} {l : Launch} {e : Env} {R : Room} {s : State} {m : MethodId} {args : Array Value} {below : List Frame} {meth : Method} {c : Code} {H : Heap} {locs : List Loc} {cells slots : Nat} {Q : State → Prop} {D : va_G} {cI cJ cZ cO : ClassId} {A : Nat → Prop} {cc : ByteArray} {pc maxL n a : Nat} {ls : Array Slot} {rest : List Value} {X0 X X' : va_W} {own : String} {i : Int32}
theorem ba_topi {x y : Int32} (h : x = y) (k : W p l e R s m args below meth c H locs cells slots Q (F0 m pc ls (.int y :: rest))) : W p l e R s m args below meth c H locs cells slots Q (F0 m pc ls (.int x :: rest)) := by rw [h]; exact k
theorem ba_iald {f : Nat → Int32} {v : Int32} (Cx : ba_Cx p s m args c cc maxL own D (tyL cI cJ cZ cO) X0 A) (hP : va_P D vwCl X H) (q0 : Nat) (ha : X[q0]? = some (a, eI cI n f)) (hg : aget n f i = some v) (hdg : decode cc pc = .ok (.iaload, 1))
    (kk : W p l e R s m args below meth c H locs cells slots Q (F0 m (pc + 1) ls (.int v :: rest))) : W p l e R s m args below meth c H locs cells slots Q (F0 m pc ls (.int i :: .ref a :: rest)) := by
  obtain ⟨h1, h2⟩ := aget_ok hg
  subst h2
  exact va_iald Cx.1.1 Cx.1.2.1 Cx.2.1 hP q0 0 ha rfl h1 hdg kk
theorem ba_lald {f : Nat → Int64} {v : Int64} (Cx : ba_Cx p s m args c cc maxL own D (tyL cI cJ cZ cO) X0 A) (hP : va_P D vwCl X H) (q0 : Nat) (ha : X[q0]? = some (a, eJ cJ n f)) (hg : aget n f i = some v) (hdg : decode cc pc = .ok (.laload, 1))
    (kk : W p l e R s m args below meth c H locs cells slots Q (F0 m (pc + 1) ls (.long v :: rest))) : W p l e R s m args below meth c H locs cells slots Q (F0 m pc ls (.int i :: .ref a :: rest)) := by
  obtain ⟨h1, h2⟩ := aget_ok hg
  subst h2
  exact va_lald Cx.1.1 Cx.1.2.1 Cx.2.1 hP q0 1 ha rfl h1 hdg kk
theorem ba_zald {f : Nat → Int32} {v : Int32} (Cx : ba_Cx p s m args c cc maxL own D (tyL cI cJ cZ cO) X0 A) (hP : va_P D vwCl X H) (q0 : Nat) (ha : X[q0]? = some (a, eI cZ n f)) (hg : aget n f i = some v) (hdg : decode cc pc = .ok (.baload, 1))
    (kk : W p l e R s m args below meth c H locs cells slots Q (F0 m (pc + 1) ls (.int v :: rest))) : W p l e R s m args below meth c H locs cells slots Q (F0 m pc ls (.int i :: .ref a :: rest)) := by
  obtain ⟨h1, h2⟩ := aget_ok hg
  subst h2
  exact va_zald Cx.1.1 Cx.1.2.1 Cx.2.1 hP q0 2 ha rfl h1 hdg kk
theorem ba_iast {f g : Nat → Int32} {x : Int32} (Cx : ba_Cx p s m args c cc maxL own D (tyL cI cJ cZ cO) X0 A) (hP : va_P D vwCl X H) (hS : va_S A s.heap H locs) (hadr : ba_adr X = ba_adr X0) (q0 : Nat) (ha : X[q0]? = some (a, eI cI n f)) (hX : X.set q0 (a, eI cI n g) = X') (hg : asetI n f i x = some g) (hdg : decode cc pc = .ok (.iastore, 1))
    (kk : ∀ (H1 : Heap) (locs1 : List Loc), va_P D vwCl X' H1 → va_S A s.heap H1 locs1 → W p l e R s m args below meth c H1 locs1 cells slots Q (F0 m (pc + 1) ls rest)) : W p l e R s m args below meth c H locs cells slots Q (F0 m pc ls (.int x :: .int i :: .ref a :: rest)) := by
  obtain ⟨h1, h2⟩ := asetI_ok hg
  subst h2
  exact va_iast Cx.1.1 Cx.1.2.1 Cx.2.1 hP (ba_D Cx.2.2.1 hadr) hS q0 0 ha rfl h1 hdg (fun H1 locs1 g1 _ g3 => kk H1 locs1 (hX ▸ g1) g3)
theorem ba_last {f g : Nat → Int64} {x : Int64} (Cx : ba_Cx p s m args c cc maxL own D (tyL cI cJ cZ cO) X0 A) (hP : va_P D vwCl X H) (hS : va_S A s.heap H locs) (hadr : ba_adr X = ba_adr X0) (q0 : Nat) (ha : X[q0]? = some (a, eJ cJ n f)) (hX : X.set q0 (a, eJ cJ n g) = X') (hg : asetL n f i x = some g) (hdg : decode cc pc = .ok (.lastore, 1))
    (kk : ∀ (H1 : Heap) (locs1 : List Loc), va_P D vwCl X' H1 → va_S A s.heap H1 locs1 → W p l e R s m args below meth c H1 locs1 cells slots Q (F0 m (pc + 1) ls rest)) : W p l e R s m args below meth c H locs cells slots Q (F0 m pc ls (.long x :: .int i :: .ref a :: rest)) := by
  obtain ⟨h1, h2⟩ := asetL_ok hg
  subst h2
  exact va_last Cx.1.1 Cx.1.2.1 Cx.2.1 hP (ba_D Cx.2.2.1 hadr) hS q0 1 ha rfl h1 hdg (fun H1 locs1 g1 _ g3 => kk H1 locs1 (hX ▸ g1) g3)
theorem ba_zast {f g : Nat → Int32} {x : Int32} (Cx : ba_Cx p s m args c cc maxL own D (tyL cI cJ cZ cO) X0 A) (hP : va_P D vwCl X H) (hS : va_S A s.heap H locs) (hadr : ba_adr X = ba_adr X0) (q0 : Nat) (ha : X[q0]? = some (a, eI cZ n f)) (hnar : vp_nar .boolean x = x) (hX : X.set q0 (a, eI cZ n g) = X') (hg : asetI n f i x = some g) (hdg : decode cc pc = .ok (.bastore, 1))
    (kk : ∀ (H1 : Heap) (locs1 : List Loc), va_P D vwCl X' H1 → va_S A s.heap H1 locs1 → W p l e R s m args below meth c H1 locs1 cells slots Q (F0 m (pc + 1) ls rest)) : W p l e R s m args below meth c H locs cells slots Q (F0 m pc ls (.int x :: .int i :: .ref a :: rest)) := by
  obtain ⟨h1, h2⟩ := asetI_ok hg
  subst h2
  refine va_zast Cx.1.1 Cx.1.2.1 Cx.2.1 hP (ba_D Cx.2.2.1 hadr) hS q0 2 ha rfl h1 hdg (fun H1 locs1 g1 _ g3 => kk H1 locs1 ?_ g3)
  rw [hnar] at g1
  exact hX ▸ g1
theorem ba_idiv {x y v : Int32} (hx : p.tables.exec = Jvm.exec) (hb : c.code = cc) (hg : odivI x y = some v) (hdg : decode cc pc = .ok (.idiv, 1)) (kk : W p l e R s m args below meth c H locs cells slots Q (F0 m (pc + 1) ls (.int v :: rest))) : W p l e R s m args below meth c H locs cells slots Q (F0 m pc ls (.int y :: .int x :: rest)) := by
  obtain ⟨h1, h2⟩ := odivI_ok hg
  subst h2
  exact lv_idiv hx hb hdg h1 kk
theorem ba_ldiv {x y v : Int64} (hx : p.tables.exec = Jvm.exec) (hb : c.code = cc) (hg : odivL x y = some v) (hdg : decode cc pc = .ok (.ldiv, 1)) (kk : W p l e R s m args below meth c H locs cells slots Q (F0 m (pc + 1) ls (.long v :: rest))) : W p l e R s m args below meth c H locs cells slots Q (F0 m pc ls (.long y :: .long x :: rest)) := by
  obtain ⟨h1, h2⟩ := odivL_ok hg
  subst h2
  exact lv_ldiv hx hb hdg h1 kk
theorem ba_lrem {x y v : Int64} (hx : p.tables.exec = Jvm.exec) (hb : c.code = cc) (hg : oremL x y = some v) (hdg : decode cc pc = .ok (.lrem, 1)) (kk : W p l e R s m args below meth c H locs cells slots Q (F0 m (pc + 1) ls (.long v :: rest))) : W p l e R s m args below meth c H locs cells slots Q (F0 m pc ls (.long y :: .long x :: rest)) := by
  obtain ⟨h1, h2⟩ := oremL_ok hg
  subst h2
  exact lv_lrem hx hb hdg h1 kk
theorem ba_mmax {tys : List (ClassId × FieldType)} {idx : Nat} {x y : Int32} (Cx : ba_Cx p s m args c cc maxL own D tys X0 A) (hlink : (Cond.methodLink own idx Lib.Math.max.name).before args s = true) (hsz : ls.size = maxL) (hfr : 1 ≤ R.frames) (hlo : (rest.map fun v => v.category).sum + 13 ≤ R.locals) (hc : cells ≤ R.cells) (hs : slots ≤ R.slots) (hdg : decode cc pc = .ok (.invokestatic idx, 3))
    (kk : W p l e R s m args below meth c H locs cells slots Q (F0 m (pc + 3) ls (.int (imax x y) :: rest))) : W p l e R s m args below meth c H locs cells slots Q (F0 m pc ls (.int y :: .int x :: rest)) :=
  va_mmax Cx.1.1 Cx.1.2.1 (Cx.1.2.2.1.trans hsz.symm) Cx.1.2.2.2.1 hlink (Cx.1.2.2.2.2 _ kw_538) (Cx.1.2.2.2.2 _ kw_14) (Cx.1.2.2.2.2 _ kw_539) hfr hlo hc hs hdg kk
theorem ba_mmin {tys : List (ClassId × FieldType)} {idx : Nat} {x y : Int32} (Cx : ba_Cx p s m args c cc maxL own D tys X0 A) (hlink : (Cond.methodLink own idx Lib.Math.min.name).before args s = true) (hsz : ls.size = maxL) (hfr : 1 ≤ R.frames) (hlo : (rest.map fun v => v.category).sum + 13 ≤ R.locals) (hc : cells ≤ R.cells) (hs : slots ≤ R.slots) (hdg : decode cc pc = .ok (.invokestatic idx, 3))
    (kk : W p l e R s m args below meth c H locs cells slots Q (F0 m (pc + 3) ls (.int (imin x y) :: rest))) : W p l e R s m args below meth c H locs cells slots Q (F0 m pc ls (.int y :: .int x :: rest)) :=
  va_mmin Cx.1.1 Cx.1.2.1 (Cx.1.2.2.1.trans hsz.symm) Cx.1.2.2.2.1 hlink (Cx.1.2.2.2.2 _ kw_419) (Cx.1.2.2.2.2 _ kw_14) (Cx.1.2.2.2.2 _ kw_420) hfr hlo hc hs hdg kk
end BB2
section BB3
def acpyI (n0 n1 : Nat) (f g : Nat → Int32) (sp dp n : Int32) : Option (Nat → Int32) := if ¬ sp < 0 ∧ ¬ dp < 0 ∧ ¬ n < 0 ∧ sp.toNatClampNeg + n.toNatClampNeg ≤ n0 ∧ dp.toNatClampNeg + n.toNatClampNeg ≤ n1 then some (va_cpy f g sp.toNatClampNeg dp.toNatClampNeg n.toNatClampNeg) else none
theorem acpyI_ok {n0 n1 : Nat} {f g h : Nat → Int32} {sp dp n : Int32} (hh : acpyI n0 n1 f g sp dp n = some h) : (¬ sp < 0 ∧ ¬ dp < 0 ∧ ¬ n < 0 ∧ sp.toNatClampNeg + n.toNatClampNeg ≤ n0 ∧ dp.toNatClampNeg + n.toNatClampNeg ≤ n1) ∧ va_cpy f g sp.toNatClampNeg dp.toNatClampNeg n.toNatClampNeg = h := by
  unfold acpyI at hh
  split at hh
  · rename_i hc
    exact ⟨hc, Option.some.inj hh⟩
  · cases hh
variable {p : Program} {l : Launch} {e : Env} {R : Room} {s : State} {m : MethodId} {args : Array Value} {below : List Frame} {meth : Method} {c : Code} {H : Heap} {locs : List Loc} {cells slots : Nat} {Q : State → Prop} {D : va_G} {cI cJ cZ cO : ClassId} {A : Nat → Prop} {cc : ByteArray} {pc maxL n0 n1 a a0 : Nat} {ls : Array Slot} {rest : List Value} {X0 X X' : va_W} {own : String}
theorem ba_acpy {f g h : Nat → Int32} {idx : Nat} {sp dp n : Int32} (Cx : ba_Cx p s m args c cc maxL own D (tyL cI cJ cZ cO) X0 A) (hP : va_P D vwCl X H) (hS : va_S A s.heap H locs) (hadr : ba_adr X = ba_adr X0) (hlink : (Cond.methodLink own idx arraycopyName).before args s = true) (hsz : ls.size = maxL) (hfr : 1 ≤ R.frames) (hlo : (rest.map fun v => v.category).sum + 18 ≤ R.locals) (q0 q1 : Nat) (ha0 : X[q0]? = some (a0, eI cI n0 f)) (ha1 : X[q1]? = some (a, eI cI n1 g)) (hX : X.set q1 (a, eI cI n1 h) = X') (hg : acpyI n0 n1 f g sp dp n = some h) (hdg : decode cc pc = .ok (.invokestatic idx, 3))
    (kk : ∀ (H1 : Heap) (locs1 : List Loc), va_P D vwCl X' H1 → va_S A s.heap H1 locs1 → W p l e R s m args below meth c H1 locs1 cells slots Q (F0 m (pc + 3) ls rest)) : W p l e R s m args below meth c H locs cells slots Q (F0 m pc ls (.int n :: .int dp :: .ref a :: .int sp :: .ref a0 :: rest)) := by
  obtain ⟨⟨h1, h2, h3, h4, h5⟩, h6⟩ := acpyI_ok hg
  subst h6
  refine va_copyi Cx.1.1 Cx.1.2.1 (Cx.1.2.2.1.trans hsz.symm) Cx.1.2.2.2.1 hlink (Cx.1.2.2.2.2 _ kw_724) (Cx.1.2.2.2.2 _ kw_723) (Cx.1.2.2.2.2 _ kw_16) Cx.2.1 hP (ba_D Cx.2.2.1 hadr) hS q0 q1 0 0 ha0 ha1 rfl rfl rfl h1 h2 h3 h4 h5 (fun _ _ => rfl) hfr ?_ hdg (fun H1 locs1 g1 _ g3 => kk H1 locs1 (hX ▸ g1) g3)
  have : nativeFrameWords "java/lang/System" "arraycopy" 5 = 7 := by decide +kernel
  rw [this]
  exact hlo
end BB3
