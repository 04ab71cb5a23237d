section BD
variable {p : Program} {l : Launch} {e : Env} {R : Room} {s : State} {m : MethodId} {args : Array Value} {below : List Frame} {meth : Method} {c : Code} {H : Heap} {locs : List Loc} {cells slots : Nat} {Q : State → Prop} {D : va_G} {tys : List (ClassId × FieldType)} {cI cJ cZ cO : ClassId} {A : Nat → Prop} {cc : ByteArray} {pc maxL n a : Nat} {ls : Array Slot} {rest : List Value} {X0 X X' : va_W} {own : String} {i : Int32} {f : Nat → Option Nat}
theorem aget_up {v : Nat} {o : Option Nat} (h : aget n f i = some o) : aget n (va_up f i.toNatClampNeg (some v)) i = some (some v) := by
  unfold aget at h ⊢
  split at h
  · rename_i hc
    rw [if_pos hc]
    simp [va_up]
  · cases h
theorem ba_aaldS {v : Nat} (Cx : ba_Cx p s m args c cc maxL own D (tyL cI cJ cZ cO) X0 A) (hP : va_P D vwCl X H) (q0 : Nat) (ha : X[q0]? = some (a, eO cO n f)) (hg : aget n f i = some (some v)) (hdg : decode cc pc = .ok (.aaload, 1))
    (kk : W p l e R s m args below meth c H locs cells slots Q (F0 m (pc + 1) ls (.ref v :: rest))) : W p l e R s m args below meth c H locs cells slots Q (F0 m pc ls (.int i :: .ref a :: rest)) := by
  obtain ⟨h1, h2⟩ := aget_ok hg
  refine va_aldq Cx.1.1 Cx.1.2.1 Cx.2.1 hP q0 3 ha rfl h1 hdg ?_
  rw [h2]
  exact kk
theorem ba_aaldN (Cx : ba_Cx p s m args c cc maxL own D (tyL cI cJ cZ cO) X0 A) (hP : va_P D vwCl X H) (q0 : Nat) (ha : X[q0]? = some (a, eO cO n f)) (hg : aget n f i = some none) (hdg : decode cc pc = .ok (.aaload, 1))
    (kk : W p l e R s m args below meth c H locs cells slots Q (F0 m (pc + 1) ls (.null :: rest))) : W p l e R s m args below meth c H locs cells slots Q (F0 m pc ls (.int i :: .ref a :: rest)) := by
  obtain ⟨h1, h2⟩ := aget_ok hg
  refine va_aldq Cx.1.1 Cx.1.2.1 Cx.2.1 hP q0 3 ha rfl h1 hdg ?_
  rw [h2]
  exact kk
theorem ba_aast {v : Nat} {r : vw_C} {vs : List Value} (Cx : ba_Cx p s m args c cc maxL own D (tyL cI cJ cZ cO) X0 A) (hP : va_P D vwCl X H) (hS : va_S A s.heap H locs) (hadr : ba_adr X = ba_adr X0) (q0 qk ci : Nat) (ha : X[q0]? = some (a, eO cO n f)) (hv : X[qk]? = some (v, .inr (ci, vs))) (hc : vwCl[ci]? = some r) (hin : vp_in i n) (hX : X.set q0 (a, eO cO n (va_up f i.toNatClampNeg (some v))) = X') (hdg : decode cc pc = .ok (.aastore, 1))
    (kk : ∀ (H1 : Heap) (locs1 : List Loc), va_P D vwCl X' H1 → va_S A s.heap H1 locs1 → W p l e R s m args below meth c H1 locs1 cells slots Q (F0 m (pc + 1) ls rest)) (hr : r.1 = "NextBench$Scene" := by rfl) : W p l e R s m args below meth c H locs cells slots Q (F0 m pc ls (.ref v :: .int i :: .ref a :: rest)) :=
  va_astq (r := r) Cx.1.1 Cx.1.2.1 Cx.2.1 hP (ba_D Cx.2.2.1 hadr) hS q0 3 qk ci ha (by rw [hr]; rfl) hv hc hin hdg (fun H1 locs1 g1 _ g3 => kk H1 locs1 (hX ▸ g1) g3)
theorem ba_ofNI {y : MethodName} {rm : Room} {av : List Value} {ws : va_W} {w1 nw : (Nat → Nat) → va_W} {mc ms : Nat} {r : Int32} (own : String) (lv : List (Nat × Value)) (hy : plainName y.cls = true) (hown : y.cls = own) (hle : (lg_sl av).length ≤ maxL) (hlv : lv_args 0 av = lv)
    (body : ∀ (p : Program) (e : Env) (s : State) (m : MethodId) (args : Array Value) (below : List Frame) (meth : Method) (c : Code) (Q : State → Prop) (A : Nat → Prop), ba_Cx p s m args c cc maxL own D tys ws A → va_AO "NextBench$Scene" s → va_P D vwCl ws s.heap →
      (∀ (q : Nat → Nat) (pc : Nat) (H : Heap) (locs : List Loc) (ls : Array Slot), decode cc pc = .ok (.ireturn, 1) → va_P D vwCl (w1 q ++ nw q) H → va_D A (w1 q ++ nw q) → va_S A s.heap H locs → W p l e rm s m args below meth c H locs mc ms Q (F0 m pc ls [.int r])) →
      ∀ ls : Array Slot, lv_has ls maxL lv → W p l e rm s m args below meth c s.heap [] 0 0 Q (F0 m 0 ls [])) : MetN l y (Cond.code y cc maxL (some .int) :: tbG) rm D tys av ws (some (.int r)) mc ms w1 nw := by
  intro sz
  refine Met.ofW (cc := cc) (maxL := maxL) (ret := some .int) hy rfl ?_
  intro p e s m args below meth c s₁ B hml hv
  obtain ⟨rfl, ⟨hsz, hP, hK, hD0⟩, hAO⟩ := hv
  subst hsz
  have hts := atoms_spec (ws := Cond.code y cc maxL (some .int) :: tbG) B.pre
  have hlocks := B.notSynchronized
  rw [lg_entry_eq]
  subst hown
  refine body p e s m av.toArray below meth c _ (va_A ws s.heap.size) ⟨⟨B.exec, B.bytes, hml, findClass_of_methodNamed B.named, fun w hw => hts w (List.mem_cons_of_mem _ hw)⟩, hK, hD0.self (sz := s.heap.size), fun q h => Or.inr h⟩ hAO hP ?_ _ (hlv ▸ lv_entry av hle)
  intro q pc H locs ls hd hP1 hD1 hS
  exact W.iret B.exec B.bytes B.returns (fun t ht hW => ⟨rfl, ⟨q, by rw [ht]; exact hP1, hD1⟩, hS.F ht⟩) hS.2.2 hd
end BD
