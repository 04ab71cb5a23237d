/-! BASE: contracts by pure functions: a method's world goes from ws to ws', its answer is rv -/
section BA1
abbrev tyL (cI cJ cZ cO : ClassId) : List (ClassId × FieldType) := [(cI, .int), (cJ, .long), (cZ, .boolean), (cO, .object "NextBench$Scene")]
abbrev eI (cI : ClassId) (n : Nat) (f : Nat → Int32) : va_E := .inl (cI, n, .inl f)
abbrev eJ (cJ : ClassId) (n : Nat) (f : Nat → Int64) : va_E := .inl (cJ, n, .inr (.inl f))
abbrev eO (cO : ClassId) (n : Nat) (f : Nat → Option Nat) : va_E := .inl (cO, n, .inr (.inr (.inr (.inr f))))
def ba_upds : va_W → List Nat → va_W → va_W
  | X, i :: is, x :: xs => ba_upds (X.set i x) is xs
  | X, _, _ => X
def ba_adr (X : va_W) : List Nat := X.map Prod.fst
theorem ba_adr_get {X X' : va_W} (h : ba_adr X' = ba_adr X) {i : Nat} {q : Nat × va_E} (hq : X'[i]? = some q) : ∃ x, X[i]? = some (q.1, x) := by
  have h1 : (ba_adr X')[i]? = some q.1 := by unfold ba_adr; rw [List.getElem?_map, hq]; rfl
  rw [h] at h1
  unfold ba_adr at h1
  rw [List.getElem?_map] at h1
  cases hw : X[i]? with
  | none => rw [hw] at h1; cases h1
  | some z =>
    rw [hw] at h1
    obtain ⟨z1, z2⟩ := z
    have : z1 = q.1 := Option.some.inj h1
    exact ⟨z2, by rw [this]⟩
theorem ba_D {A : Nat → Prop} {X X' : va_W} (h : va_D A X) (hh : ba_adr X' = ba_adr X) : va_D A X' := by
  refine ⟨fun i j a b ha hb hab => ?_, fun k q hk => ?_⟩
  · obtain ⟨x, hx⟩ := ba_adr_get hh ha
    obtain ⟨z, hz⟩ := ba_adr_get hh hb
    exact h.1 i j _ _ hx hz hab
  · obtain ⟨x, hx⟩ := ba_adr_get hh hk
    exact h.2 k (q.1, x) hx
theorem ba_upds_get : ∀ (is : List Nat) (es X : va_W) (k : Nat) (q : Nat × va_E), is.length = es.length → (ba_upds X is es)[k]? = some q → (∃ j : Nat, es[j]? = some q) ∨ (X[k]? = some q ∧ k ∉ is) := by
  intro is
  induction is with
  | nil =>
    intro es X k q hl hq
    cases es with
    | nil => exact Or.inr ⟨hq, List.not_mem_nil⟩
    | cons x xs => cases hl
  | cons i is ih =>
    intro es X k q hl hq
    cases es with
    | nil => cases hl
    | cons x xs =>
      rcases ih xs (X.set i x) k q (by simpa using hl) hq with ⟨j, hj⟩ | ⟨h1, h2⟩
      · exact Or.inl ⟨j + 1, hj⟩
      · by_cases hk : i = k
        · subst hk
          left
          refine ⟨0, ?_⟩
          rw [List.getElem?_set] at h1
          by_cases hlt : i < X.length
          · simp [hlt] at h1; simp [h1]
          · simp [hlt] at h1
        · right
          rw [List.getElem?_set_ne hk] at h1
          exact ⟨h1, by simp; exact ⟨fun h => hk h.symm, h2⟩⟩
theorem ba_at {is : List Nat} {X ws : va_W} (hC : is.map (fun i => X[i]?) = ws.map some) {k : Nat} {q : Nat × va_E} (hq : ws[k]? = some q) : ∃ i, i ∈ is ∧ X[i]? = some q := by
  have h1 : (is.map (fun i => X[i]?))[k]? = some (some q) := by rw [hC, List.getElem?_map, hq]; rfl
  rw [List.getElem?_map] at h1
  cases hi : is[k]? with
  | none => rw [hi] at h1; cases h1
  | some i => rw [hi] at h1; exact ⟨i, List.mem_of_getElem? hi, Option.some.inj h1⟩
theorem ba_join {A : Nat → Prop} {D : va_G} {cl : List vw_C} {X ws ws' : va_W} {H H1 : Heap} {is : List Nat} (hP : va_P D cl X H) (hD : va_D A X) (hC : is.map (fun i => X[i]?) = ws.map some) (hk : ∀ q : Nat, q < H.size → ¬ va_A ws H.size q → H1[q]? = H[q]?) (hP1 : va_P D cl ws' H1) (hl : is.length = ws'.length) : va_P D cl (ba_upds X is ws') H1 := by
  intro k q hq
  rcases ba_upds_get is ws' X k q hl hq with ⟨j, hj⟩ | ⟨h1, h2⟩
  · exact hP1 j q hj
  · have h3 := hP k q h1
    refine h3.kept (hk q.1 h3.lt (fun h => ?_))
    rcases h with ⟨k2, x, h⟩ | h
    · obtain ⟨i, h4, h5⟩ := ba_at hC h
      have := hD.1 k i q (q.1, x) h1 h5 rfl
      subst this
      exact h2 h4
    · exact absurd h3.lt (by omega)
theorem ba_sub {D : va_G} {cl : List vw_C} {X ws : va_W} {H : Heap} {is : List Nat} (hP : va_P D cl X H) (hC : is.map (fun i => X[i]?) = ws.map some) : va_P D cl ws H := by
  intro k q hq
  obtain ⟨i, -, h⟩ := ba_at hC hq
  exact hP i q h
def ba_pre (D : va_G) (tys : List (ClassId × FieldType)) (ws : va_W) (sz : Nat) : State → Prop := fun U => U.heap.size = sz ∧ va_P D vwCl ws U.heap ∧ va_K D vwCl tys U ∧ va_D (fun _ => True) ws
def ba_Q (D : va_G) (rv : Option Value) (ws' : va_W) (A : Nat → Prop) : Array Value → State → Outcome → State → Prop := fun _ st oc t => oc = .returned rv ∧ va_P D vwCl ws' t.heap ∧ va_F A st t
def MetR (l : Launch) (y : MethodName) (w : List Cond) (rm : Room) (D : va_G) (tys : List (ClassId × FieldType)) (av : List Value) (ws : va_W) (rv : Option Value) (ws' : va_W) : Prop := ∀ sz : Nat, Met l y w rm (va_Pc av (ba_pre D tys ws sz)) (ba_Q D rv ws' (va_A ws sz)) 0 0 (va_A ws sz)
end BA1
section BA2
variable {p : Program} {l : Launch} {e : Env} {R : Room} {s : State} {m : MethodId} {args : Array Value} {below : List Frame} {meth : Method} {c : Code} {H H0 : Heap} {locs : List Loc} {cells slots : Nat} {Q : State → Prop} {D : va_G} {tys : List (ClassId × FieldType)} {A : Nat → Prop} {cc : ByteArray} {pc : Nat} {ls : Array Slot} {st0 rest As : List Value}
theorem ba_after {mc ms : Nat} {X0 X ws ws' X' : va_W} {rv : Option Value} {is : List Nat} {av : Array Value} (hr : va_Run p l e R s m args below meth c H locs cells slots mc ms (F0 m pc ls st0) rest (ba_Q D rv ws' (va_A ws H.size) av) (va_A ws H.size)) (hP : va_P D vwCl X H) (hD : va_D A X0) (ha : ba_adr X = ba_adr X0) (hA : ∀ q, H0.size ≤ q → A q) (hS : va_S A H0 H locs) (hC : is.map (fun i => X[i]?) = ws.map some) (hl : is.length = ws'.length) (hW : ba_upds X is ws' = X')
    (kk : ∀ (H1 : Heap) (locs1 : List Loc), va_P D vwCl X' H1 → va_S A H0 H1 locs1 → W p l e R s m args below meth c H1 locs1 (cells + mc) (slots + ms) Q (F0 m (pc + 3) ls (rv.toList ++ rest))) : W p l e R s m args below meth c H locs cells slots Q (F0 m pc ls st0) := by
  have hD := ba_D hD ha
  have hF : ∀ q, va_A ws H.size q → A q := by
    intro q hq
    rcases hq with ⟨k, x, h⟩ | h
    · obtain ⟨i, -, h2⟩ := ba_at hC h
      exact hD.2 i _ h2
    · exact hA q (Nat.le_trans hS.1 h)
  intro T hT XX
  obtain ⟨v, st₀, t, T', L, h0, X', hL, e1, e2, ⟨hv, hp, hz, hk⟩, st⟩ := hr T hT XX
  cases hv
  rw [h0] at hz hk
  subst hW
  have hP1 : va_P D vwCl (ba_upds X is ws') T'.heap := ba_join hP hD hC (fun q h1 h2 => by rw [e1]; exact hk q h1 h2) (by rw [e1]; exact hp) hl
  obtain ⟨t2, a1, b1⟩ := kk T'.heap (locs ++ L) hP1
    ⟨Nat.le_trans hS.1 (by rw [e1]; exact hz), fun q h1 h2 => by rw [e1, hk q (Nat.lt_of_lt_of_le h1 hS.1) (fun z => h2 (hF q z))]; exact hS.2.1 q h1 h2, fun q hq => by
      rcases List.mem_append.mp hq with h | h
      · exact hS.2.2 q h
      · exact hF _ (hL q h)⟩ T' rfl X'
  exact ⟨t2, st t2 a1, b1⟩
theorem ba_blind {D : va_G} {tys : List (ClassId × FieldType)} {av : List Value} {ws : va_W} {sz : Nat} : FrameBlind (va_Pc av (ba_pre D tys ws sz)) := fun a U g mk q => by
  obtain ⟨q0, q1, qP, qK, qD⟩ := q
  exact ⟨q0, q1, qP, va_K.moved (u := U) (U := U.calling g mk a) (Vm.Alike.refl U.vm) qK, qD⟩
/-- a call on an object -/
theorem ba_V {own C : String} {idx : Nat} {y : MethodName} {bytes : ByteArray} {maxL nL n : Nat} {ret : Option FieldType} {w Ts : List Cond} {rm : Room} {b : Nat} {X0 X ws ws' X' : va_W} {rv : Option Value} {is : List Nat} {T : u_T} {N ci q0 : Nat} {fs : List Value}
    (S : CallFix p m c cc nL s args Ts own) (hM : MetR l y w rm D tys (.ref b :: As) ws rv ws') (cw : CallW R s args own C idx y bytes maxL ret w rm 0 0 n) (hK : va_K D vwCl tys s) (hP : va_P D vwCl X H) (hD : va_D A X0) (hA : ∀ q, H0.size ≤ q → A q) (hS : va_S A H0 H locs) (ha : ba_adr X = ba_adr X0)
    (hc : vwCl[ci]? = some (C, T, N)) (he : X[q0]? = some (b, .inr (ci, fs)))
    (hC : is.map (fun i => X[i]?) = ws.map some) (hn2 : va_nd is = true) (hl : is.length = ws'.length) (hn : As.length = n) (hst : st0 = As.reverse ++ .ref b :: rest) (hsz : ls.size = nL) (hW8 : (rest.map fun v => v.category).sum ≤ 8) (hdg : decode cc pc = .ok (.invokevirtual idx, 3)) (hcs : cells ≤ R.cells ∧ slots ≤ R.slots) (hW : ba_upds X is ws' = X')
    (kk : ∀ (H1 : Heap) (locs1 : List Loc), va_P D vwCl X' H1 → va_S A H0 H1 locs1 → W p l e R s m args below meth c H1 locs1 cells slots Q (F0 m (pc + 3) ls (rv.toList ++ rest))) : W p l e R s m args below meth c H locs cells slots Q (F0 m pc ls st0) := by
  have hPc := ba_sub hP hC
  have hDc := (ba_D hD ha).sub is hn2 hC
  exact ba_after (va_runV (As := As) (rest := rest) S (hM H.size) cw ⟨ba_blind, va_recv hK hP hc he, fun U hU hW => ⟨rfl, by rw [hU], by rw [hU]; exact hPc, va_K.moved hW.alike hK, hDc.weaken (fun _ _ _ _ => trivial)⟩⟩ rfl hn hsz hst (lv_room hW8) hdg hcs) hP hD ha hA hS hC hl hW kk
/-- a static call -/
theorem ba_S {own : String} {idx : Nat} {y : MethodName} {bytes : ByteArray} {maxL nL n : Nat} {ret : Option FieldType} {w Ts : List Cond} {rm : Room} {X0 X ws ws' X' : va_W} {rv : Option Value} {is : List Nat}
    (S : CallFix p m c cc nL s args Ts own) (hM : MetR l y w rm D tys As ws rv ws') (cw : CallB R s args own idx y bytes maxL ret w rm 0 0 n ∧ (Cond.static y).before args s = true) (hK : va_K D vwCl tys s) (hP : va_P D vwCl X H) (hD : va_D A X0) (hA : ∀ q, H0.size ≤ q → A q) (hS : va_S A H0 H locs) (ha : ba_adr X = ba_adr X0)
    (hC : is.map (fun i => X[i]?) = ws.map some) (hn2 : va_nd is = true) (hl : is.length = ws'.length) (hn : As.length = n) (hst : st0 = As.reverse ++ rest) (hsz : ls.size = nL) (hW8 : (rest.map fun v => v.category).sum ≤ 8) (hdg : decode cc pc = .ok (.invokestatic idx, 3)) (hcs : cells ≤ R.cells ∧ slots ≤ R.slots) (hW : ba_upds X is ws' = X')
    (kk : ∀ (H1 : Heap) (locs1 : List Loc), va_P D vwCl X' H1 → va_S A H0 H1 locs1 → W p l e R s m args below meth c H1 locs1 cells slots Q (F0 m (pc + 3) ls (rv.toList ++ rest))) : W p l e R s m args below meth c H locs cells slots Q (F0 m pc ls st0) := by
  have hPc := ba_sub hP hC
  have hDc := (ba_D hD ha).sub is hn2 hC
  exact ba_after (va_runS (As := As) (rest := rest) S (hM H.size) cw ⟨ba_blind, fun U hU hW => ⟨rfl, by rw [hU], by rw [hU]; exact hPc, va_K.moved hW.alike hK, hDc.weaken (fun _ _ _ _ => trivial)⟩⟩ rfl hn hsz hst (lv_room hW8) hdg hcs) hP hD ha hA hS hC hl hW kk
end BA2
section BA3
variable {R : Room} {s : State} {args : Array Value}
theorem tb_good (cd : Cond) (h : cd ∈ tbG) : GoodIn tbG (cd :: tbG) := by
  intro w hw
  have hw2 : w ∈ tbG := by
    rcases List.mem_cons.mp hw with h1 | h1
    · rw [h1]; exact h
    · exact h1
  exact ⟨hw2, good_of_word (List.mem_filter.mp hw2).2⟩
theorem tb_good1 {cd : Cond} {ws : List Cond} (h : cd ∈ tbG) (hg : GoodIn tbG ws) : GoodIn tbG (cd :: ws) := by
  intro w hw
  rcases List.mem_cons.mp hw with h1 | h1
  · rw [h1]; exact ⟨h, good_of_word (List.mem_filter.mp h).2⟩
  · exact hg w h1
theorem ba_cwV {own C : String} {idx maxL n : Nat} {y : MethodName} {bytes : ByteArray} {ret : Option FieldType} {rm : Room} (ht : ∀ w ∈ tbG, w.before args s = true) (m1 : Cond.methodLink own idx y ∈ tbG) (m2 : Cond.instanceMethod y ∈ tbG) (m3 : Cond.selects C y y ∈ tbG) (m4 : Cond.initialized C ∈ tbG) (m5 : Cond.code y bytes maxL ret ∈ tbG) (hd : y.cls = C ∧ y.cls ≠ "java/lang/invoke/MethodHandle" ∧ y.cls ≠ "java/lang/invoke/VarHandle" ∧ (parseMethodDescriptor y.desc).map (fun d => d.parameters.length) = some n) (hrc : rm.cells = 0) (hrs : rm.slots = 0) (hR : rm.frames + 1 ≤ R.frames ∧ 8 + (maxL + 11) + rm.locals ≤ R.locals) : CallW R s args own C idx y bytes maxL ret (Cond.code y bytes maxL ret :: tbG) rm 0 0 n :=
  cwV n ht (tb_good1 m1 (tb_good1 m2 (tb_good1 m3 (tb_good1 m4 (tb_good _ m5))))) rfl hrc hrs hd hR
theorem ba_cwS {own C : String} {idx maxL n : Nat} {y : MethodName} {bytes : ByteArray} {ret : Option FieldType} {rm : Room} (ht : ∀ w ∈ tbG, w.before args s = true) (m1 : Cond.methodLink own idx y ∈ tbG) (m2 : Cond.static y ∈ tbG) (m4 : Cond.initialized C ∈ tbG) (m5 : Cond.code y bytes maxL ret ∈ tbG) (hd : y.cls = C ∧ y.cls ≠ "java/lang/invoke/MethodHandle" ∧ y.cls ≠ "java/lang/invoke/VarHandle" ∧ (parseMethodDescriptor y.desc).map (fun d => d.parameters.length) = some n) (hrc : rm.cells = 0) (hrs : rm.slots = 0) (hR : rm.frames + 1 ≤ R.frames ∧ 8 + (maxL + 11) + rm.locals ≤ R.locals) : CallB R s args own idx y bytes maxL ret (Cond.code y bytes maxL ret :: tbG) rm 0 0 n ∧ (Cond.static y).before args s = true := by
  obtain ⟨hC, hd⟩ := hd
  subst hC
  exact va_cwS n ht (tb_good1 m1 (tb_good1 m2 (tb_good1 m4 (tb_good _ m5)))) rfl hrc hrs hd hR
end BA3
section BA4
variable {l : Launch} {y : MethodName} {rm : Room} {D : va_G} {tys : List (ClassId × FieldType)} {av : List Value} {ws ws' : va_W} {cc : ByteArray} {maxL : Nat}
/-- what a walk has at hand: the machine, the code, the tables' words, the world's addresses -/
abbrev ba_Cx (p : Program) (s : State) (m : MethodId) (args : Array Value) (c : Code) (cc : ByteArray) (maxL : Nat) (own : String) (D : va_G) (tys : List (ClassId × FieldType)) (ws : va_W) (A : Nat → Prop) : Prop :=
  CallFix p m c cc maxL s args tbG own ∧ va_K D vwCl tys s ∧ va_D A ws ∧ ∀ q, s.heap.size ≤ q → A q
theorem ba_ofI {r : Int32} (own : String) (lv : List (Nat × Value)) (hy : plainName y.cls = true) (hown : y.cls = own) (hle : (lg_sl av).length ≤ maxL) (hlv : lv_args 0 av = lv)
    (body : ∀ (p : Program) (e : Env) (s : State) (m : MethodId) (args : Array Value) (below : List Frame) (meth : Method) (c : Code) (Q : State → Prop) (A : Nat → Prop), ba_Cx p s m args c cc maxL own D tys ws A → va_P D vwCl ws s.heap →
      (∀ (pc : Nat) (H : Heap) (locs : List Loc) (ls : Array Slot), decode cc pc = .ok (.ireturn, 1) → va_P D vwCl ws' H → va_S A s.heap H locs → W p l e rm s m args below meth c H locs 0 0 Q (F0 m pc ls [.int r])) →
      ∀ ls : Array Slot, lv_has ls maxL lv → W p l e rm s m args below meth c s.heap [] 0 0 Q (F0 m 0 ls [])) : MetR l y (Cond.code y cc maxL (some .int) :: tbG) rm D tys av ws (some (.int r)) ws' := by
  intro sz
  refine Met.ofW (cc := cc) (maxL := maxL) (ret := some .int) hy rfl ?_
  intro p e s m args below meth c s₁ B hml hv
  obtain ⟨rfl, hsz, hP, hK, hD0⟩ := hv
  subst hsz
  have hts := atoms_spec (ws := Cond.code y cc maxL (some .int) :: tbG) B.pre
  have hlocks := B.notSynchronized
  rw [lg_entry_eq]
  subst hown
  refine body p e s m av.toArray below meth c _ (va_A ws s.heap.size) ⟨⟨B.exec, B.bytes, hml, findClass_of_methodNamed B.named, fun w hw => hts w (List.mem_cons_of_mem _ hw)⟩, hK, hD0.self (sz := s.heap.size), fun q h => Or.inr h⟩ hP ?_ _ (hlv ▸ lv_entry av hle)
  intro pc H locs ls hd hP1 hS
  exact W.iret B.exec B.bytes B.returns (fun t ht hW => ⟨rfl, by rw [ht]; exact hP1, hS.F ht⟩) hS.2.2 hd
theorem ba_ofZ {r : Int32} (own : String) (lv : List (Nat × Value)) (hy : plainName y.cls = true) (hown : y.cls = own) (hle : (lg_sl av).length ≤ maxL) (hlv : lv_args 0 av = lv)
    (body : ∀ (p : Program) (e : Env) (s : State) (m : MethodId) (args : Array Value) (below : List Frame) (meth : Method) (c : Code) (Q : State → Prop) (A : Nat → Prop), ba_Cx p s m args c cc maxL own D tys ws A → va_P D vwCl ws s.heap →
      (∀ (pc : Nat) (H : Heap) (locs : List Loc) (ls : Array Slot) (r' : Int32), r' = r → narrow .boolean (.int r') = .int r' → decode cc pc = .ok (.ireturn, 1) → va_P D vwCl ws' H → va_S A s.heap H locs → W p l e rm s m args below meth c H locs 0 0 Q (F0 m pc ls [.int r'])) →
      ∀ ls : Array Slot, lv_has ls maxL lv → W p l e rm s m args below meth c s.heap [] 0 0 Q (F0 m 0 ls [])) : MetR l y (Cond.code y cc maxL (some .boolean) :: tbG) rm D tys av ws (some (.int r)) ws' := by
  intro sz
  refine Met.ofW (cc := cc) (maxL := maxL) (ret := some .boolean) hy rfl ?_
  intro p e s m args below meth c s₁ B hml hv
  obtain ⟨rfl, hsz, hP, hK, hD0⟩ := hv
  subst hsz
  have hts := atoms_spec (ws := Cond.code y cc maxL (some .boolean) :: tbG) B.pre
  have hlocks := B.notSynchronized
  rw [lg_entry_eq]
  subst hown
  refine body p e s m av.toArray below meth c _ (va_A ws s.heap.size) ⟨⟨B.exec, B.bytes, hml, findClass_of_methodNamed B.named, fun w hw => hts w (List.mem_cons_of_mem _ hw)⟩, hK, hD0.self (sz := s.heap.size), fun q h => Or.inr h⟩ hP ?_ _ (hlv ▸ lv_entry av hle)
  intro pc H locs ls r' hr' hn hd hP1 hS
  subst hr'
  exact W.zret B.exec B.bytes B.returns hn (fun t ht hW => ⟨rfl, by rw [ht]; exact hP1, hS.F ht⟩) hS.2.2 hd
theorem ba_ofL {r : Int64} (own : String) (lv : List (Nat × Value)) (hy : plainName y.cls = true) (hown : y.cls = own) (hle : (lg_sl av).length ≤ maxL) (hlv : lv_args 0 av = lv)
    (body : ∀ (p : Program) (e : Env) (s : State) (m : MethodId) (args : Array Value) (below : List Frame) (meth : Method) (c : Code) (Q : State → Prop) (A : Nat → Prop), ba_Cx p s m args c cc maxL own D tys ws A → va_P D vwCl ws s.heap →
      (∀ (pc : Nat) (H : Heap) (locs : List Loc) (ls : Array Slot), decode cc pc = .ok (.lreturn, 1) → va_P D vwCl ws' H → va_S A s.heap H locs → W p l e rm s m args below meth c H locs 0 0 Q (F0 m pc ls [.long r])) →
      ∀ ls : Array Slot, lv_has ls maxL lv → W p l e rm s m args below meth c s.heap [] 0 0 Q (F0 m 0 ls [])) : MetR l y (Cond.code y cc maxL (some .long) :: tbG) rm D tys av ws (some (.long r)) ws' := by
  intro sz
  refine Met.ofW (cc := cc) (maxL := maxL) (ret := some .long) hy rfl ?_
  intro p e s m args below meth c s₁ B hml hv
  obtain ⟨rfl, hsz, hP, hK, hD0⟩ := hv
  subst hsz
  have hts := atoms_spec (ws := Cond.code y cc maxL (some .long) :: tbG) B.pre
  have hlocks := B.notSynchronized
  rw [lg_entry_eq]
  subst hown
  refine body p e s m av.toArray below meth c _ (va_A ws s.heap.size) ⟨⟨B.exec, B.bytes, hml, findClass_of_methodNamed B.named, fun w hw => hts w (List.mem_cons_of_mem _ hw)⟩, hK, hD0.self (sz := s.heap.size), fun q h => Or.inr h⟩ hP ?_ _ (hlv ▸ lv_entry av hle)
  intro pc H locs ls hd hP1 hS
  exact W.lret B.exec B.bytes B.returns (fun t ht hW => ⟨rfl, by rw [ht]; exact hP1, hS.F ht⟩) hS.2.2 hd
theorem ba_ofV (own : String) (lv : List (Nat × Value)) (hy : plainName y.cls = true) (hown : y.cls = own) (hle : (lg_sl av).length ≤ maxL) (hlv : lv_args 0 av = lv)
    (body : ∀ (p : Program) (e : Env) (s : State) (m : MethodId) (args : Array Value) (below : List Frame) (meth : Method) (c : Code) (Q : State → Prop) (A : Nat → Prop), ba_Cx p s m args c cc maxL own D tys ws A → va_P D vwCl ws s.heap →
      (∀ (pc : Nat) (H : Heap) (locs : List Loc) (ls : Array Slot), decode cc pc = .ok (.return_, 1) → va_P D vwCl ws' H → va_S A s.heap H locs → W p l e rm s m args below meth c H locs 0 0 Q (F0 m pc ls [])) →
      ∀ ls : Array Slot, lv_has ls maxL lv → W p l e rm s m args below meth c s.heap [] 0 0 Q (F0 m 0 ls [])) : MetR l y (Cond.code y cc maxL none :: tbG) rm D tys av ws none ws' := by
  intro sz
  refine Met.ofW (cc := cc) (maxL := maxL) (ret := none) hy rfl ?_
  intro p e s m args below meth c s₁ B hml hv
  obtain ⟨rfl, hsz, hP, hK, hD0⟩ := hv
  subst hsz
  have hts := atoms_spec (ws := Cond.code y cc maxL none :: tbG) B.pre
  have hlocks := B.notSynchronized
  rw [lg_entry_eq]
  subst hown
  refine body p e s m av.toArray below meth c _ (va_A ws s.heap.size) ⟨⟨B.exec, B.bytes, hml, findClass_of_methodNamed B.named, fun w hw => hts w (List.mem_cons_of_mem _ hw)⟩, hK, hD0.self (sz := s.heap.size), fun q h => Or.inr h⟩ hP ?_ _ (hlv ▸ lv_entry av hle)
  intro pc H locs ls hd hP1 hS
  exact W.vret B.exec B.bytes B.returns (fun t ht hW => ⟨rfl, by rw [ht]; exact hP1, hS.F ht⟩) hS.2.2 hd
end BA4
section BA5
variable {α β : Type}
/-- reading and writing a row, by an int -/
def aget (n : Nat) (f : Nat → α) (i : Int32) : Option α := if ¬ i < 0 ∧ i.toNatClampNeg < n then some (f i.toNatClampNeg) else none
def asetI (n : Nat) (f : Nat → Int32) (i x : Int32) : Option (Nat → Int32) := if ¬ i < 0 ∧ i.toNatClampNeg < n then some (upd f i.toNatClampNeg x) else none
def asetL (n : Nat) (f : Nat → Int64) (i : Int32) (x : Int64) : Option (Nat → Int64) := if ¬ i < 0 ∧ i.toNatClampNeg < n then some (vp_updL f i.toNatClampNeg x) else none
theorem aget_ok {n : Nat} {f : Nat → α} {i : Int32} {v : α} (h : aget n f i = some v) : vp_in i n ∧ f i.toNatClampNeg = v := by
  unfold aget at h
  by_cases hc : ¬ i < 0 ∧ i.toNatClampNeg < n
  · rw [if_pos hc] at h
    exact ⟨fun hh => hh.elim hc.1 (fun h2 => absurd hc.2 (by omega)), Option.some.inj h⟩
  · rw [if_neg hc] at h; cases h
theorem asetI_ok {n : Nat} {f : Nat → Int32} {i x : Int32} {g : Nat → Int32} (h : asetI n f i x = some g) : vp_in i n ∧ upd f i.toNatClampNeg x = g := by
  unfold asetI at h
  by_cases hc : ¬ i < 0 ∧ i.toNatClampNeg < n
  · rw [if_pos hc] at h
    exact ⟨fun hh => hh.elim hc.1 (fun h2 => absurd hc.2 (by omega)), Option.some.inj h⟩
  · rw [if_neg hc] at h; cases h
theorem asetL_ok {n : Nat} {f : Nat → Int64} {i : Int32} {x : Int64} {g : Nat → Int64} (h : asetL n f i x = some g) : vp_in i n ∧ vp_updL f i.toNatClampNeg x = g := by
  unfold asetL at h
  by_cases hc : ¬ i < 0 ∧ i.toNatClampNeg < n
  · rw [if_pos hc] at h
    exact ⟨fun hh => hh.elim hc.1 (fun h2 => absurd hc.2 (by omega)), Option.some.inj h⟩
  · rw [if_neg hc] at h; cases h
theorem ob_b {x : Option α} {f : α → Option β} {o : β} (h : x.bind f = some o) : ∃ v, x = some v ∧ f v = some o := by
  cases x with
  | none => cases h
  | some v => exact ⟨v, rfl, h⟩
theorem ob_t {c : Prop} [Decidable c] {a b : Option α} {o : α} (hc : c) (h : (if c then a else b) = some o) : a = some o := by rw [if_pos hc] at h; exact h
theorem ob_f {c : Prop} [Decidable c] {a b : Option α} {o : α} (hc : ¬ c) (h : (if c then a else b) = some o) : b = some o := by rw [if_neg hc] at h; exact h
/-- division: none by 0 -/
def odivI (x y : Int32) : Option Int32 := if y = 0 then none else some (x / y)
def odivL (x y : Int64) : Option Int64 := if y = 0 then none else some (x / y)
theorem odivI_ok {x y v : Int32} (h : odivI x y = some v) : ¬ y = 0 ∧ x / y = v := by
  unfold odivI at h
  by_cases hc : y = 0
  · rw [if_pos hc] at h; cases h
  · rw [if_neg hc] at h; exact ⟨hc, Option.some.inj h⟩
theorem odivL_ok {x y v : Int64} (h : odivL x y = some v) : ¬ y = 0 ∧ x / y = v := by
  unfold odivL at h
  by_cases hc : y = 0
  · rw [if_pos hc] at h; cases h
  · rw [if_neg hc] at h; exact ⟨hc, Option.some.inj h⟩
def FU : Nat := 5000
end BA5
