/-! BASE 3: methods that make cells -/
section BC1
def ba_preN (D : va_G) (tys : List (ClassId × FieldType)) (ws : va_W) (sz : Nat) : State → Prop := fun U => ba_pre D tys ws sz U ∧ va_AO "NextBench$Scene" U
def ba_QN (D : va_G) (w1 nw : (Nat → Nat) → va_W) (A : Nat → Prop) (rv : Option Value) : Array Value → State → Outcome → State → Prop := fun _ st oc t => oc = .returned rv ∧ (∃ q : Nat → Nat, va_P D vwCl (w1 q ++ nw q) t.heap ∧ va_D A (w1 q ++ nw q)) ∧ va_F A st t
def MetN (l : Launch) (y : MethodName) (w : List Cond) (rm : Room) (D : va_G) (tys : List (ClassId × FieldType)) (av : List Value) (ws : va_W) (rv : Option Value) (mc ms : Nat) (w1 nw : (Nat → Nat) → va_W) : Prop := ∀ sz : Nat, Met l y w rm (va_Pc av (ba_preN D tys ws sz)) (ba_QN D w1 nw (va_A ws sz) rv) mc ms (va_A ws sz)
theorem ba_blindN {D : va_G} {tys : List (ClassId × FieldType)} {av : List Value} {ws : va_W} {sz : Nat} : FrameBlind (va_Pc av (ba_preN D tys ws sz)) := fun a U g mk q => by
  obtain ⟨q0, ⟨q1, qP, qK, qD⟩, qA⟩ := q
  exact ⟨q0, ⟨q1, qP, va_K.moved (u := U) (U := U.calling g mk a) (Vm.Alike.refl U.vm) qK, qD⟩, va_AO.moved (u := U) (U := U.calling g mk a) (Vm.Alike.refl U.vm) qA⟩
theorem ba_Dl {A : Nat → Prop} {X Y : va_W} (h : va_D A (X ++ Y)) : va_D A X :=
  ⟨fun i j a b ha hb hab => h.1 i j a b (by rw [List.getElem?_append_left (List.getElem?_eq_some_iff.mp ha).1]; exact ha) (by rw [List.getElem?_append_left (List.getElem?_eq_some_iff.mp hb).1]; exact hb) hab, fun k q hk => h.2 k q (by rw [List.getElem?_append_left (List.getElem?_eq_some_iff.mp hk).1]; exact hk)⟩
theorem ba_appr {X Y : va_W} {k : Nat} {q : Nat × va_E} (h : Y[k]? = some q) : (X ++ Y)[X.length + k]? = some q := by
  rw [List.getElem?_append_right (by omega)]
  rw [show X.length + k - X.length = k by omega]
  exact h
theorem ba_Dr {A : Nat → Prop} {X Y : va_W} (h : va_D A (X ++ Y)) : va_D A Y :=
  ⟨fun i j a b ha hb hab => by have := h.1 _ _ a b (ba_appr ha) (ba_appr hb) hab; omega, fun k q hk => h.2 _ q (ba_appr hk)⟩
theorem ba_joinN {A : Nat → Prop} {D : va_G} {cl : List vw_C} {X ws w1 nw : va_W} {H H1 : Heap} {is : List Nat} (hP : va_P D cl X H) (hD : va_D A X) (hC : is.map (fun i => X[i]?) = ws.map some) (hk : ∀ q : Nat, q < H.size → ¬ va_A ws H.size q → H1[q]? = H[q]?) (hF : ∀ q, va_A ws H.size q → A q) (hP1 : va_P D cl (w1 ++ nw) H1) (hD1 : va_D (va_A ws H.size) (w1 ++ nw)) (hl : is.length = w1.length) (hadr : ba_adr w1 = ba_adr ws) (hX : ba_adr (ba_upds X is w1) = ba_adr X) : va_P D cl (ba_upds X is w1 ++ nw) H1 ∧ va_D A (ba_upds X is w1 ++ nw) := by
  have p1 : va_P D cl w1 H1 := fun k q hq => hP1 k q (by rw [List.getElem?_append_left (List.getElem?_eq_some_iff.mp hq).1]; exact hq)
  have p2 : va_P D cl nw H1 := fun k q hq => hP1 _ q (ba_appr hq)
  refine ⟨(ba_join hP hD hC hk p1 hl).app p2, (ba_D hD hX).app ((ba_Dr hD1).weaken (fun k q _ h => hF q.1 h)) (fun i j x y hx hy hxy => ?_)⟩
  have h1 := (ba_Dr hD1).2 j y hy
  rcases h1 with ⟨k, z, hz⟩ | h1
  · obtain ⟨z2, hz2⟩ := ba_adr_get hadr.symm hz
    have hlt := (List.getElem?_eq_some_iff.mp hz2).1
    have := hD1.1 k (w1.length + j) (y.1, z2) y (by rw [List.getElem?_append_left hlt]; exact hz2) (ba_appr hy) rfl
    omega
  · obtain ⟨x2, hx2⟩ := ba_adr_get hX hx
    have := (hP i _ hx2).lt
    have h3 : x.1 < H.size := this
    omega
end BC1
section BC2
variable {p : Program} {l : Launch} {e : Env} {R : Room} {s : State} {m : MethodId} {args : Array Value} {below : List Frame} {meth : Method} {c : Code} {H : Heap} {locs : List Loc} {cells slots : Nat} {Q : State → Prop} {D : va_G} {tys : List (ClassId × FieldType)} {cI cJ cZ cO : ClassId} {A : Nat → Prop} {cc : ByteArray} {pc maxL : Nat} {ls : Array Slot} {st0 rest As : List Value} {X0 X : va_W} {own : String}
theorem ba_afterN {mc ms : Nat} {ws : va_W} {w1 nw X' : (Nat → Nat) → va_W} {rv : Option Value} {is : List Nat} {av : Array Value} (hr : va_Run p l e R s m args below meth c H locs cells slots mc ms (F0 m pc ls st0) rest (ba_QN D w1 nw (va_A ws H.size) rv av) (va_A ws H.size)) (hP : va_P D vwCl X H) (hD : va_D A X) (hA : ∀ q, s.heap.size ≤ q → A q) (hS : va_S A s.heap H locs) (hC : is.map (fun i => X[i]?) = ws.map some) (hl : ∀ q, is.length = (w1 q).length) (hadr : ∀ q, ba_adr (w1 q) = ba_adr ws) (hX : ∀ q, ba_adr (ba_upds X is (w1 q)) = ba_adr X) (hX' : ∀ q, ba_upds X is (w1 q) ++ nw q = X' q)
    (kk : ∀ (q : Nat → Nat) (H1 : Heap) (locs1 : List Loc), va_P D vwCl (X' q) H1 → va_D A (X' q) → va_S A s.heap H1 locs1 → W p l e R s m args below meth c H1 locs1 (cells + mc) (slots + ms) Q (F0 m (pc + 3) ls (rv.toList ++ rest))) : W p l e R s m args below meth c H locs cells slots Q (F0 m pc ls st0) := by
  have hF : ∀ q, va_A ws H.size q → A q := by
    intro q hq
    rcases hq with ⟨k, x, h⟩ | h
    · obtain ⟨i, -, h2⟩ := ba_at hC h
      exact hD.2 i _ h2
    · exact hA q (Nat.le_trans hS.1 h)
  intro T hT XX
  obtain ⟨v, st₀, t, T', L, h0, X1, hL, e1, e2, ⟨hv, ⟨q, hp, hd⟩, hz, hk⟩, st⟩ := hr T hT XX
  cases hv
  rw [h0] at hz hk
  have hj := ba_joinN (H1 := T'.heap) hP hD hC (fun q h1 h2 => by rw [e1]; exact hk q h1 h2) hF (by rw [e1]; exact hp) hd (hl q) (hadr q) (hX q)
  rw [hX' q] at hj
  obtain ⟨t2, a1, b1⟩ := kk q T'.heap (locs ++ L) hj.1 hj.2
    ⟨Nat.le_trans hS.1 (by rw [e1]; exact hz), fun q h1 h2 => by rw [e1, hk q (Nat.lt_of_lt_of_le h1 hS.1) (fun z => h2 (hF q z))]; exact hS.2.1 q h1 h2, fun q hq => by
      rcases List.mem_append.mp hq with h | h
      · exact hS.2.2 q h
      · exact hF _ (hL q h)⟩ T' rfl X1
  exact ⟨t2, st t2 a1, b1⟩
theorem ba_cwI {C : String} {idx mL n mc ms : Nat} {y : MethodName} {bytes : ByteArray} {rm : Room} (ht : ∀ w ∈ tbG, w.before args s = true) (m1 : Cond.methodLink own idx y ∈ tbG) (m2 : Cond.instanceMethod y ∈ tbG) (m4 : Cond.initialized C ∈ tbG) (m5 : Cond.code y bytes mL none ∈ tbG) (hd : y.cls = C ∧ y.cls ≠ "java/lang/invoke/MethodHandle" ∧ y.cls ≠ "java/lang/invoke/VarHandle" ∧ (parseMethodDescriptor y.desc).map (fun d => d.parameters.length) = some n) (hy : y.name = "<init>") (hrc : rm.cells = mc) (hrs : rm.slots = ms) (hR : rm.frames + 1 ≤ R.frames ∧ 8 + (mL + 11) + rm.locals ≤ R.locals) : CallB R s args own idx y bytes mL none (Cond.code y bytes mL none :: tbG) rm mc ms n ∧ y.name = "<init>" ∧ (Cond.instanceMethod y).before args s = true := by
  obtain ⟨hC, hd⟩ := hd
  subst hC
  exact cwI n ht (tb_good _ m5) rfl hrc hrs (ht _ m4) (ht _ m1) (ht _ m2) hy hd hR
theorem ba_I {idx : Nat} {y : MethodName} {bytes : ByteArray} {mL n mc ms : Nat} {w : List Cond} {rm : Room} {b : Nat} {ws : va_W} {w1 nw X' : (Nat → Nat) → va_W} {is : List Nat}
    (Cx : ba_Cx p s m args c cc maxL own D tys X0 A) (hAO : va_AO "NextBench$Scene" s) (hM : MetN l y w rm D tys (.ref b :: As) ws none mc ms w1 nw) (cw : CallB R s args own idx y bytes mL none w rm mc ms n ∧ y.name = "<init>" ∧ (Cond.instanceMethod y).before args s = true) (hP : va_P D vwCl X H) (hS : va_S A s.heap H locs) (ha : ba_adr X = ba_adr X0)
    (hC : is.map (fun i => X[i]?) = ws.map some) (hn2 : va_nd is = true) (hl : ∀ q, is.length = (w1 q).length) (hadr : ∀ q, ba_adr (w1 q) = ba_adr ws) (hX : ∀ q, ba_adr (ba_upds X is (w1 q)) = ba_adr X) (hn : As.length = n) (hst : st0 = As.reverse ++ .ref b :: rest) (hsz : ls.size = maxL) (hW8 : (rest.map fun v => v.category).sum ≤ 8) (hdg : decode cc pc = .ok (.invokespecial idx, 3)) (hcs : cells + mc ≤ R.cells ∧ slots + ms ≤ R.slots) (hX' : ∀ q, ba_upds X is (w1 q) ++ nw q = X' q)
    (kk : ∀ (q : Nat → Nat) (H1 : Heap) (locs1 : List Loc), va_P D vwCl (X' q) H1 → ba_Cx p s m args c cc maxL own D tys (X' q) A → va_S A s.heap H1 locs1 → W p l e R s m args below meth c H1 locs1 (cells + mc) (slots + ms) Q (F0 m (pc + 3) ls rest)) : W p l e R s m args below meth c H locs cells slots Q (F0 m pc ls st0) := by
  have hPc := ba_sub hP hC
  have hDX := ba_D Cx.2.2.1 ha
  have hDc := hDX.sub is hn2 hC
  exact ba_afterN (va_runI (As := As) (rest := rest) Cx.1 (hM H.size) cw ⟨ba_blindN, fun U hU hW => ⟨rfl, ⟨by rw [hU], by rw [hU]; exact hPc, va_K.moved hW.alike Cx.2.1, hDc.weaken (fun _ _ _ _ => trivial)⟩, va_AO.moved hW.alike hAO⟩⟩ rfl hn hsz hst (lv_room hW8) hdg hcs) hP hDX Cx.2.2.2 hS hC hl hadr hX hX' (fun q H1 locs1 h1 h2 h3 => kk q H1 locs1 h1 ⟨Cx.1, Cx.2.1, h2, Cx.2.2.2⟩ h3)
theorem ba_RAinj {U : State} {c1 c2 : ClassId} {ty : FieldType} (h1 : va_RA U c1 ty) (h2 : va_RA U c2 ty) : c1 = c2 := by
  cases ty with
  | object C =>
    obtain ⟨_, _, _, _, _, h⟩ := h1
    obtain ⟨_, _, _, _, _, h'⟩ := h2
    exact Option.some.inj (h.symm.trans h')
  | _ => exact Option.some.inj (Eq.trans (Eq.symm h1) h2)
theorem ba_newI {X' : Nat → va_W} {N : Nat} {n : Int32} (Cx : ba_Cx p s m args c cc maxL own D (tyL cI cJ cZ cO) X0 A) (hP : va_P D vwCl X H) (hS : va_S A s.heap H locs) (ha : ba_adr X = ba_adr X0) (hn : ¬ n < 0) (hN : n.toNatClampNeg = N) (hby : N * 4 ≤ 536870912) (hc : cells + 1 ≤ R.cells) (hs : slots + N ≤ R.slots) (hdg : decode cc pc = .ok (.newarray .int, 2)) (hX' : ∀ q, X ++ [(q, eI cI N (fun _ => 0))] = X' q)
    (kk : ∀ (q : Nat) (H1 : Heap), va_P D vwCl (X' q) H1 → ba_Cx p s m args c cc maxL own D (tyL cI cJ cZ cO) (X' q) A → va_S A s.heap H1 locs → W p l e R s m args below meth c H1 locs (cells + 1) (slots + N) Q (F0 m (pc + 2) ls (.ref q :: rest))) : W p l e R s m args below meth c H locs cells slots Q (F0 m pc ls (.int n :: rest)) := by
  refine va_newa (atype := .int) (ty := .int) (a0 := (N, .inl (fun _ => 0))) Cx.1.1 Cx.1.2.1 (Cx.1.2.2.2.2 _ kw_39) rfl Cx.2.1 hP (ba_D Cx.2.2.1 ha) hS Cx.2.2.2 (fun _ => rfl) hn hN hby hc hs hdg ?_
  intro q cA H1 hK2 hP2 hD2 hS2
  have e1 : cA = cI := ba_RAinj (hK2.2 4 (cA, .int) rfl).2 (hK2.2 0 (cI, .int) rfl).2
  subst e1
  have hP2 : va_P D vwCl (X ++ [(q, eI cA N (fun _ => 0))]) H1 := hP2
  have hD2 : va_D A (X ++ [(q, eI cA N (fun _ => 0))]) := hD2
  rw [hX' q] at hP2 hD2
  exact kk q H1 hP2 ⟨Cx.1, Cx.2.1, hD2, Cx.2.2.2⟩ hS2
theorem ba_newJ {X' : Nat → va_W} {N : Nat} {n : Int32} (Cx : ba_Cx p s m args c cc maxL own D (tyL cI cJ cZ cO) X0 A) (hP : va_P D vwCl X H) (hS : va_S A s.heap H locs) (ha : ba_adr X = ba_adr X0) (hn : ¬ n < 0) (hN : n.toNatClampNeg = N) (hby : N * 8 ≤ 536870912) (hc : cells + 1 ≤ R.cells) (hs : slots + N ≤ R.slots) (hdg : decode cc pc = .ok (.newarray .long, 2)) (hX' : ∀ q, X ++ [(q, eJ cJ N (fun _ => 0))] = X' q)
    (kk : ∀ (q : Nat) (H1 : Heap), va_P D vwCl (X' q) H1 → ba_Cx p s m args c cc maxL own D (tyL cI cJ cZ cO) (X' q) A → va_S A s.heap H1 locs → W p l e R s m args below meth c H1 locs (cells + 1) (slots + N) Q (F0 m (pc + 2) ls (.ref q :: rest))) : W p l e R s m args below meth c H locs cells slots Q (F0 m pc ls (.int n :: rest)) := by
  refine va_newa (atype := .long) (ty := .long) (a0 := (N, .inr (.inl (fun _ => 0)))) Cx.1.1 Cx.1.2.1 (Cx.1.2.2.2.2 _ kw_200) rfl Cx.2.1 hP (ba_D Cx.2.2.1 ha) hS Cx.2.2.2 (fun _ => rfl) hn hN hby hc hs hdg ?_
  intro q cA H1 hK2 hP2 hD2 hS2
  have e1 : cA = cJ := ba_RAinj (hK2.2 4 (cA, .long) rfl).2 (hK2.2 1 (cJ, .long) rfl).2
  subst e1
  have hP2 : va_P D vwCl (X ++ [(q, eJ cA N (fun _ => 0))]) H1 := hP2
  have hD2 : va_D A (X ++ [(q, eJ cA N (fun _ => 0))]) := hD2
  rw [hX' q] at hP2 hD2
  exact kk q H1 hP2 ⟨Cx.1, Cx.2.1, hD2, Cx.2.2.2⟩ hS2
theorem ba_newZ {X' : Nat → va_W} {N : Nat} {n : Int32} (Cx : ba_Cx p s m args c cc maxL own D (tyL cI cJ cZ cO) X0 A) (hP : va_P D vwCl X H) (hS : va_S A s.heap H locs) (ha : ba_adr X = ba_adr X0) (hn : ¬ n < 0) (hN : n.toNatClampNeg = N) (hby : N * 1 ≤ 536870912) (hc : cells + 1 ≤ R.cells) (hs : slots + N ≤ R.slots) (hdg : decode cc pc = .ok (.newarray .boolean, 2)) (hX' : ∀ q, X ++ [(q, eI cZ N (fun _ => 0))] = X' q)
    (kk : ∀ (q : Nat) (H1 : Heap), va_P D vwCl (X' q) H1 → ba_Cx p s m args c cc maxL own D (tyL cI cJ cZ cO) (X' q) A → va_S A s.heap H1 locs → W p l e R s m args below meth c H1 locs (cells + 1) (slots + N) Q (F0 m (pc + 2) ls (.ref q :: rest))) : W p l e R s m args below meth c H locs cells slots Q (F0 m pc ls (.int n :: rest)) := by
  refine va_newa (atype := .boolean) (ty := .boolean) (a0 := (N, .inl (fun _ => 0))) Cx.1.1 Cx.1.2.1 (Cx.1.2.2.2.2 _ kw_836) rfl Cx.2.1 hP (ba_D Cx.2.2.1 ha) hS Cx.2.2.2 (fun _ => rfl) hn hN hby hc hs hdg ?_
  intro q cA H1 hK2 hP2 hD2 hS2
  have e1 : cA = cZ := ba_RAinj (hK2.2 4 (cA, .boolean) rfl).2 (hK2.2 2 (cZ, .boolean) rfl).2
  subst e1
  have hP2 : va_P D vwCl (X ++ [(q, eI cA N (fun _ => 0))]) H1 := hP2
  have hD2 : va_D A (X ++ [(q, eI cA N (fun _ => 0))]) := hD2
  rw [hX' q] at hP2 hD2
  exact kk q H1 hP2 ⟨Cx.1, Cx.2.1, hD2, Cx.2.2.2⟩ hS2
theorem ba_newO {X' : Nat → va_W} {N idx : Nat} {n : Int32} (Cx : ba_Cx p s m args c cc maxL own D (tyL cI cJ cZ cO) X0 A) (hAO : va_AO "NextBench$Scene" s) (hcl : (Cond.classLink own idx "NextBench$Scene").before args s = true) (hP : va_P D vwCl X H) (hS : va_S A s.heap H locs) (ha : ba_adr X = ba_adr X0) (hn : ¬ n < 0) (hN : n.toNatClampNeg = N) (hby : N * 4 ≤ 536870912) (hc : cells + 1 ≤ R.cells) (hs : slots + N ≤ R.slots) (hdg : decode cc pc = .ok (.anewarray idx, 3)) (hX' : ∀ q, X ++ [(q, eO cO N (fun _ => none))] = X' q)
    (kk : ∀ (q : Nat) (H1 : Heap), va_P D vwCl (X' q) H1 → ba_Cx p s m args c cc maxL own D (tyL cI cJ cZ cO) (X' q) A → va_S A s.heap H1 locs → W p l e R s m args below meth c H1 locs (cells + 1) (slots + N) Q (F0 m (pc + 3) ls (.ref q :: rest))) : W p l e R s m args below meth c H locs cells slots Q (F0 m pc ls (.int n :: rest)) := by
  refine va_newq Cx.1.1 Cx.1.2.1 Cx.1.2.2.2.1 hcl hAO Cx.2.1 hP (ba_D Cx.2.2.1 ha) hS Cx.2.2.2 hn hN hby hc hs hdg ?_
  intro q cA H1 hK2 hP2 hD2 hS2
  have e1 : cA = cO := ba_RAinj (hK2.2 4 (cA, .object "NextBench$Scene") rfl).2 (hK2.2 3 (cO, .object "NextBench$Scene") rfl).2
  subst e1
  have hP2 : va_P D vwCl (X ++ [(q, eO cA N (fun _ => none))]) H1 := hP2
  have hD2 : va_D A (X ++ [(q, eO cA N (fun _ => none))]) := hD2
  rw [hX' q] at hP2 hD2
  exact kk q H1 hP2 ⟨Cx.1, Cx.2.1, hD2, Cx.2.2.2⟩ hS2
theorem ba_new {X' : Nat → va_W} {C : String} {T : u_T} {ty : Nat → FieldType} {N idx ci : Nat} {fs : List Value} (Cx : ba_Cx p s m args c cc maxL own D tys X0 A) (hin : ∀ w ∈ u_ws C T N, w ∈ tbG) (hty : ∀ k, k < N → parseFieldDescriptor (T k).2.2.1 = some (ty k)) (hcl : (Cond.classLink own idx C).before args s = true) (hinst : (Cond.instantiable C N).before args s = true) (hini : (Cond.initialized C).before args s = true) (hP : va_P D vwCl X H) (hS : va_S A s.heap H locs) (ha : ba_adr X = ba_adr X0) (hcc : vwCl[ci]? = some (C, T, N)) (hfs : ∀ j, j < N → defaultValue (ty j) = vp_V fs j) (hc : cells + 1 ≤ R.cells) (hs : slots + N ≤ R.slots) (hdg : decode cc pc = .ok (.new idx, 3)) (hX' : ∀ q, X ++ [(q, .inr (ci, fs))] = X' q)
    (kk : ∀ (q : Nat) (H1 : Heap), va_P D vwCl (X' q) H1 → ba_Cx p s m args c cc maxL own D tys (X' q) A → va_S A s.heap H1 locs → W p l e R s m args below meth c H1 locs (cells + 1) (slots + N) Q (F0 m (pc + 3) ls (.ref q :: rest))) : W p l e R s m args below meth c H locs cells slots Q (F0 m pc ls rest) := by
  refine va_new (ci := ci) (fs := fs) Cx.1.1 Cx.1.2.1 Cx.1.2.2.2.2 hin ty hty Cx.1.2.2.2.1 hcl hinst hini Cx.2.1 hP (ba_D Cx.2.2.1 ha) hS Cx.2.2.2 hcc hfs hc hs hdg ?_
  intro q H1 hP2 hD2 hS2
  rw [hX' q] at hP2 hD2
  exact kk q H1 hP2 ⟨Cx.1, Cx.2.1, hD2, Cx.2.2.2⟩ hS2
theorem ba_ofN {y : MethodName} {rm : Room} {av : List Value} {ws : va_W} {w1 nw : (Nat → Nat) → va_W} {mc ms : Nat} (own : String) (lv : List (Nat × Value)) (hy : plainName y.cls = true) (hown : y.cls = own) (hyn : y.name = "<init>") (hle : (lg_sl av).length ≤ maxL) (hlv : lv_args 0 av = lv)
    (body : ∀ (p : Program) (e : Env) (s : State) (m : MethodId) (args : Array Value) (below : List Frame) (meth : Method) (c : Code) (Q : State → Prop) (A : Nat → Prop), ba_Cx p s m args c cc maxL own D tys ws A → va_AO "NextBench$Scene" s → meth.name = "<init>" → va_P D vwCl ws s.heap →
      (∀ (q : Nat → Nat) (pc : Nat) (H : Heap) (locs : List Loc) (ls : Array Slot), decode cc pc = .ok (.return_, 1) → va_P D vwCl (w1 q ++ nw q) H → va_D A (w1 q ++ nw q) → va_S A s.heap H locs → W p l e rm s m args below meth c H locs mc ms Q (F0 m pc ls [])) →
      ∀ ls : Array Slot, lv_has ls maxL lv → W p l e rm s m args below meth c s.heap [] 0 0 Q (F0 m 0 ls [])) : MetN l y (Cond.code y cc maxL none :: tbG) rm D tys av ws none mc ms w1 nw := by
  intro sz
  refine Met.ofW (cc := cc) (maxL := maxL) (ret := none) hy rfl ?_
  intro p e s m args below meth c s₁ B hml hv
  obtain ⟨rfl, ⟨hsz, hP, hK, hD0⟩, hAO⟩ := hv
  subst hsz
  have hts := atoms_spec (ws := Cond.code y cc maxL none :: tbG) B.pre
  have hlocks := B.notSynchronized
  rw [lg_entry_eq]
  subst hown
  refine body p e s m av.toArray below meth c _ (va_A ws s.heap.size) ⟨⟨B.exec, B.bytes, hml, findClass_of_methodNamed B.named, fun w hw => hts w (List.mem_cons_of_mem _ hw)⟩, hK, hD0.self (sz := s.heap.size), fun q h => Or.inr h⟩ hAO ((name_of_methodNamed B.named B.method).1.trans hyn) hP ?_ _ (hlv ▸ lv_entry av hle)
  intro q pc H locs ls hd hP1 hD1 hS
  exact W.vret B.exec B.bytes B.returns (fun t ht hW => ⟨rfl, ⟨q, by rw [ht]; exact hP1, hD1⟩, hS.F ht⟩) hS.2.2 hd
theorem ba_obj {idx : Nat} (Cx : ba_Cx p s m args c cc maxL own D tys X0 A) (hlink : (Cond.methodLink own idx Lib.objectInit).before args s = true) (hsz : ls.size = maxL) {a : Nat} (hfr : 1 ≤ R.frames) (hlo : (rest.map fun v => v.category).sum + 12 ≤ R.locals) (hd : decode cc pc = .ok (.invokespecial idx, 3)) (kk : W p l e R s m args below meth c H locs cells slots Q (F0 m (pc + 3) ls rest)) : W p l e R s m args below meth c H locs cells slots Q (F0 m pc ls (.ref a :: rest)) := by
  refine W.objInit Cx.1.1 Cx.1.2.1 Cx.1.2.2.2.1 hlink (Cx.1.2.2.2.2 _ kw_23) (Cx.1.2.2.2.2 _ kw_24) rfl (by rw [Cx.1.2.2.1]; exact hsz) rfl hd hfr ?_ kk
  have : 2 * (F0 m pc ls (.ref a :: rest)).monitorRoom = 0 := rfl
  rw [this]
  omega
end BC2
