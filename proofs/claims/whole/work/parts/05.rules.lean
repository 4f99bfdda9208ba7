abbrev Mt : Type := MethodName × ByteArray × Nat × Option FieldType × Nat × Nat
def WH (g : Gx) (sh : List Sh) (σ : St) (s : State) (H : Heap) : Prop := va_P (gD g) vwCl (wsx g sh σ) H ∧ va_K (gD g) vwCl (tysx g) s
def WO (g : Gx) (sh : List Sh) (σ : St) (U : State) : Prop := va_P (gD g) vwCl (wsx g sh σ) U.heap ∧ va_K (gD g) vwCl (tysx g) U ∧ U.heap.size = gB g + sh.length ∧ STx g U U.heap
abbrev Qt : Type := Option Value → List Sh → St → Prop
def Qx (g : Gx) (N : Nat) (Q : Qt) : Array Value → State → Outcome → State → Prop := fun _ st oc t => (∃ (r : Option Value) (sh : List Sh) (σ : St), oc = .returned r ∧ Q r sh σ ∧ WO g sh σ t ∧ sh.length = N) ∧ va_F (Ao g) st t
def rmx (M : Mt) (mc ms : Nat) : Room := { frames := M.2.2.2.2.1, cells := mc, slots := ms, locals := M.2.2.2.2.2 }
/-- the contract: from the world (sh, σ), with these arguments, the method returns, and Q -/
def Cx (g : Gx) (M : Mt) (vs : List Value) (sh : List Sh) (σ : St) (mc ms : Nat) (Q : Qt) : Prop := Met (gL g) M.1 (Cond.code M.1 M.2.1 M.2.2.1 M.2.2.2.1 :: TB) (rmx M mc ms) (va_Pc vs (WO g sh σ)) (Qx g (sh.length + mc) Q) mc ms (Ao g)
def Cz (g : Gx) (M : Mt) (p : Program) (s : State) (m : MethodId) (args : Array Value) (meth : Method) (c : Code) : Prop := p.tables.exec = Jvm.exec ∧ c.code = M.2.1 ∧ c.maxLocals = M.2.2.1 ∧ meth.sig.returnType = M.2.2.2.1 ∧ meth.locks = false ∧ s.vm.findClass M.1.cls = some m.cls ∧ (∀ w ∈ TB, w.before args s = true) ∧ STx g s s.heap ∧ meth.name = M.1.name
abbrev Zt : Type := List Frame → Array Value → State → State → Prop
def Zx (g : Gx) (N mc ms : Nat) (Q : Qt) : Zt := fun below args s => MQ below (Qx g N Q) args s mc ms (Ao g)
/-- the method M at pc, with these locals and this stack, in the world (sh, σ), comes to Z -/
def Ax (g : Gx) (M : Mt) (mc ms : Nat) (Z : Zt) (sh : List Sh) (σ : St) (k n pc : Nat) (lv : List (Nat × Value)) (st : List Value) : Prop :=
  ∀ (p : Program) (e : Env) (s : State) (m : MethodId) (args : Array Value) (below : List Frame) (meth : Method) (c : Code) (H : Heap) (locs : List Loc) (ls : Array Slot), Cz g M p s m args meth c → WH g sh σ s H → s.heap.size + k = gB g + sh.length → va_S (Ao g) s.heap H locs → lv_has ls M.2.2.1 lv → W p (gL g) e (rmx M mc ms) s m args below meth c H locs k n (Z below args s) (F0 m pc ls st)
theorem WO.blind {g : Gx} {vs : List Value} {sh : List Sh} {σ : St} : FrameBlind (va_Pc vs (WO g sh σ)) := by
  intro a U f mk h
  obtain ⟨h0, h1, h2, h3, h4⟩ := h
  exact ⟨h0, h1, va_K.moved (u := U) (U := U.calling f mk a) (Vm.Alike.refl U.vm) h2, h3, STx.same (u := U) (U := U.calling f mk a) h4 rfl rfl⟩
theorem WO.of {g : Gx} {sh : List Sh} {σ : St} {s U : State} {H : Heap} {locs : List Loc} (hT : STx g s s.heap) (hw : WH g sh σ s H) (hS : va_S (Ao g) s.heap H locs) (hz : H.size = gB g + sh.length) (hH : U.heap = H) (hW : s.WarmedH U.vm) : WO g sh σ U := by
  refine ⟨by rw [hH]; exact hw.1, va_K.moved hW.alike hw.2, by rw [hH]; exact hz, hT.go hS hW hH⟩
/-- the heap's size, out of the machine's own count -/
theorem WH.size {g : Gx} {sh : List Sh} {σ : St} {s : State} {H : Heap} (hw : WH g sh σ s H) {k : Nat} (hk : s.heap.size + k = gB g + sh.length) (hb : gB g ≤ s.heap.size) (hl : s.heap.size ≤ H.size) (hu : H.size ≤ s.heap.size + k) : H.size = gB g + sh.length := by
  by_cases h0 : sh.length = 0
  · omega
  · have hi : sh.length - 1 < sh.length := by omega
    have hx : sh[sh.length - 1]? = some sh[sh.length - 1] := List.getElem?_eq_getElem hi
    have := (hw.1 _ _ (wsx_get (g := g) (σ := σ) hx)).lt
    simp only at this
    omega
theorem Ax.sized {g : Gx} {M : Mt} {mc ms : Nat} {Z : Zt} {sh : List Sh} {σ : St} {k n pc : Nat} {lv : List (Nat × Value)} {st : List Value}
    (h : ∀ (p : Program) (e : Env) (s : State) (m : MethodId) (args : Array Value) (below : List Frame) (meth : Method) (c : Code) (H : Heap) (locs : List Loc) (ls : Array Slot), Cz g M p s m args meth c → WH g sh σ s H → s.heap.size + k = gB g + sh.length → va_S (Ao g) s.heap H locs → lv_has ls M.2.2.1 lv → H.size = gB g + sh.length → W p (gL g) e (rmx M mc ms) s m args below meth c H locs k n (Z below args s) (F0 m pc ls st)) : Ax g M mc ms Z sh σ k n pc lv st := by
  intro p e s m args below meth c H locs ls C hw hk hS hl T hT X
  have hu := X.heapSize
  rw [hT] at hu
  exact h p e s m args below meth c H locs ls C hw hk hS hl (hw.size hk C.2.2.2.2.2.2.2.1.2.2.2.2.2.2.2.2 hS.1 hu) T hT X
theorem Cx.of {g : Gx} {M : Mt} {vs : List Value} {sh : List Sh} {σ : St} {mc ms : Nat} {Q : Qt} (hy : plainName M.1.cls = true) (hv : (lg_sl vs).length ≤ M.2.2.1) (h : Ax g M mc ms (Zx g (sh.length + mc) mc ms Q) sh σ 0 0 0 (lv_args 0 vs) []) : Cx g M vs sh σ mc ms Q := by
  refine Met.ofW (cc := M.2.1) (maxL := M.2.2.1) (ret := M.2.2.2.1) hy rfl ?_
  intro p e s m args below meth c s₁ B hml hp
  obtain ⟨rfl, hP, hK, hz, hT⟩ := hp
  have hts := atoms_spec (ws := Cond.code M.1 M.2.1 M.2.2.1 M.2.2.2.1 :: TB) B.pre
  have hl := lv_entry vs (n := M.2.2.1) hv
  rw [lg_entry_eq]
  exact h p e s m _ below meth c s.heap [] _ ⟨B.exec, B.bytes, hml, B.returns, B.notSynchronized, findClass_of_methodNamed B.named, fun w hw => hts w (List.mem_cons_of_mem _ hw), hT, (name_of_methodNamed B.named B.method).1⟩ ⟨hP, hK⟩ (by rw [hz]; rfl) va_S.rf hl

theorem a_iconst {g : Gx} {M : Mt} {mc ms : Nat} {Z : Zt} {sh : List Sh} {σ : St} {k n pc : Nat} {lv : List (Nat × Value)} {st : List Value} {z : Int} (v : Int32) (hv : Int32.ofInt z = v) (hd : decode M.2.1 pc = .ok (.iconst z, 1)) (h : Ax g M mc ms Z sh σ k n (pc + 1) lv (.int v :: st)) : Ax g M mc ms Z sh σ k n pc lv (st) := by
  intro p e s m args below meth c H locs ls C hw hk hS hl
  exact lv_iconst C.1 C.2.1 hd hv (h p e s m args below meth c H locs ls C hw hk hS hl)
theorem a_bipush {g : Gx} {M : Mt} {mc ms : Nat} {Z : Zt} {sh : List Sh} {σ : St} {k n pc : Nat} {lv : List (Nat × Value)} {st : List Value} {z : Int} (v : Int32) (hv : (Int8.ofInt z).toInt32 = v) (hd : decode M.2.1 pc = .ok (.bipush z, 2)) (h : Ax g M mc ms Z sh σ k n (pc + 2) lv (.int v :: st)) : Ax g M mc ms Z sh σ k n pc lv (st) := by
  intro p e s m args below meth c H locs ls C hw hk hS hl
  exact lv_bipush C.1 C.2.1 hd hv (h p e s m args below meth c H locs ls C hw hk hS hl)
theorem a_sipush {g : Gx} {M : Mt} {mc ms : Nat} {Z : Zt} {sh : List Sh} {σ : St} {k n pc : Nat} {lv : List (Nat × Value)} {st : List Value} {z : Int} (v : Int32) (hv : (Int16.ofInt z).toInt32 = v) (hd : decode M.2.1 pc = .ok (.sipush z, 3)) (h : Ax g M mc ms Z sh σ k n (pc + 3) lv (.int v :: st)) : Ax g M mc ms Z sh σ k n pc lv (st) := by
  intro p e s m args below meth c H locs ls C hw hk hS hl
  exact lv_sipush C.1 C.2.1 hd hv (h p e s m args below meth c H locs ls C hw hk hS hl)
theorem a_lconst {g : Gx} {M : Mt} {mc ms : Nat} {Z : Zt} {sh : List Sh} {σ : St} {k n pc : Nat} {lv : List (Nat × Value)} {st : List Value} {z : Fin 2} (v : Int64) (hv : Int64.ofNat (z : Nat) = v) (hd : decode M.2.1 pc = .ok (.lconst z, 1)) (h : Ax g M mc ms Z sh σ k n (pc + 1) lv (.long v :: st)) : Ax g M mc ms Z sh σ k n pc lv (st) := by
  intro p e s m args below meth c H locs ls C hw hk hS hl
  exact lv_lconst C.1 C.2.1 hd hv (h p e s m args below meth c H locs ls C hw hk hS hl)
theorem a_ldc {g : Gx} {M : Mt} {mc ms : Nat} {Z : Zt} {sh : List Sh} {σ : St} {k n pc : Nat} {lv : List (Nat × Value)} {st : List Value} {i : Nat} {v : Int32} (hc : Cond.constant M.1.cls i v ∈ TB) (hd : decode M.2.1 pc = .ok (.ldc i, 2)) (h : Ax g M mc ms Z sh σ k n (pc + 2) lv (.int v :: st)) : Ax g M mc ms Z sh σ k n pc lv (st) := by
  intro p e s m args below meth c H locs ls C hw hk hS hl
  exact lv_ldc C.1 C.2.1 C.2.2.2.2.2.1 (C.2.2.2.2.2.2.1 _ hc) hd (h p e s m args below meth c H locs ls C hw hk hS hl)
theorem a_ldcw {g : Gx} {M : Mt} {mc ms : Nat} {Z : Zt} {sh : List Sh} {σ : St} {k n pc : Nat} {lv : List (Nat × Value)} {st : List Value} {i : Nat} {v : Int32} (hc : Cond.constant M.1.cls i v ∈ TB) (hd : decode M.2.1 pc = .ok (.ldc_w i, 3)) (h : Ax g M mc ms Z sh σ k n (pc + 3) lv (.int v :: st)) : Ax g M mc ms Z sh σ k n pc lv (st) := by
  intro p e s m args below meth c H locs ls C hw hk hS hl
  exact lv_ldcw C.1 C.2.1 C.2.2.2.2.2.1 (C.2.2.2.2.2.2.1 _ hc) hd (h p e s m args below meth c H locs ls C hw hk hS hl)
theorem a_ldc2 {g : Gx} {M : Mt} {mc ms : Nat} {Z : Zt} {sh : List Sh} {σ : St} {k n pc : Nat} {lv : List (Nat × Value)} {st : List Value} {i : Nat} {v : Int64} (hc : Cond.constantLong M.1.cls i v ∈ TB) (hd : decode M.2.1 pc = .ok (.ldc2_w i, 3)) (h : Ax g M mc ms Z sh σ k n (pc + 3) lv (.long v :: st)) : Ax g M mc ms Z sh σ k n pc lv (st) := by
  intro p e s m args below meth c H locs ls C hw hk hS hl
  exact lv_ldc2 C.1 C.2.1 C.2.2.2.2.2.1 (C.2.2.2.2.2.2.1 _ hc) hd (h p e s m args below meth c H locs ls C hw hk hS hl)
theorem a_iload_n {g : Gx} {M : Mt} {mc ms : Nat} {Z : Zt} {sh : List Sh} {σ : St} {k n pc : Nat} {lv : List (Nat × Value)} {st : List Value} {q : Fin 4} {i : Nat} {x : Int32} (j : Nat) (hi : (q : Nat) = i) (hj : lv[j]? = some (i, .int x)) (hd : decode M.2.1 pc = .ok (.iload_n q, 1)) (h : Ax g M mc ms Z sh σ k n (pc + 1) lv (.int x :: st)) : Ax g M mc ms Z sh σ k n pc lv (st) := by
  intro p e s m args below meth c H locs ls C hw hk hS hl
  exact lv_iload_n C.1 C.2.1 hd hi (lv_at hl j hj) (h p e s m args below meth c H locs ls C hw hk hS hl)
theorem a_iload {g : Gx} {M : Mt} {mc ms : Nat} {Z : Zt} {sh : List Sh} {σ : St} {k n pc : Nat} {lv : List (Nat × Value)} {st : List Value} {i : Nat} {x : Int32} (j : Nat) (hj : lv[j]? = some (i, .int x)) (hd : decode M.2.1 pc = .ok (.iload i, 2)) (h : Ax g M mc ms Z sh σ k n (pc + 2) lv (.int x :: st)) : Ax g M mc ms Z sh σ k n pc lv (st) := by
  intro p e s m args below meth c H locs ls C hw hk hS hl
  exact lv_iload C.1 C.2.1 hd (lv_at hl j hj) (h p e s m args below meth c H locs ls C hw hk hS hl)
theorem a_lload_n {g : Gx} {M : Mt} {mc ms : Nat} {Z : Zt} {sh : List Sh} {σ : St} {k n pc : Nat} {lv : List (Nat × Value)} {st : List Value} {q : Fin 4} {i : Nat} {x : Int64} (j : Nat) (hi : (q : Nat) = i) (hj : lv[j]? = some (i, .long x)) (hd : decode M.2.1 pc = .ok (.lload_n q, 1)) (h : Ax g M mc ms Z sh σ k n (pc + 1) lv (.long x :: st)) : Ax g M mc ms Z sh σ k n pc lv (st) := by
  intro p e s m args below meth c H locs ls C hw hk hS hl
  exact lv_lload_n C.1 C.2.1 hd hi (lv_at hl j hj) (h p e s m args below meth c H locs ls C hw hk hS hl)
theorem a_lload {g : Gx} {M : Mt} {mc ms : Nat} {Z : Zt} {sh : List Sh} {σ : St} {k n pc : Nat} {lv : List (Nat × Value)} {st : List Value} {i : Nat} {x : Int64} (j : Nat) (hj : lv[j]? = some (i, .long x)) (hd : decode M.2.1 pc = .ok (.lload i, 2)) (h : Ax g M mc ms Z sh σ k n (pc + 2) lv (.long x :: st)) : Ax g M mc ms Z sh σ k n pc lv (st) := by
  intro p e s m args below meth c H locs ls C hw hk hS hl
  exact lv_lload C.1 C.2.1 hd (lv_at hl j hj) (h p e s m args below meth c H locs ls C hw hk hS hl)
theorem a_aload_n {g : Gx} {M : Mt} {mc ms : Nat} {Z : Zt} {sh : List Sh} {σ : St} {k n pc : Nat} {lv : List (Nat × Value)} {st : List Value} {q : Fin 4} {i : Nat} {x : Nat} (j : Nat) (hi : (q : Nat) = i) (hj : lv[j]? = some (i, .ref x)) (hd : decode M.2.1 pc = .ok (.aload_n q, 1)) (h : Ax g M mc ms Z sh σ k n (pc + 1) lv (.ref x :: st)) : Ax g M mc ms Z sh σ k n pc lv (st) := by
  intro p e s m args below meth c H locs ls C hw hk hS hl
  exact lv_aload_n C.1 C.2.1 hd hi (lv_at hl j hj) (h p e s m args below meth c H locs ls C hw hk hS hl)
theorem a_aload {g : Gx} {M : Mt} {mc ms : Nat} {Z : Zt} {sh : List Sh} {σ : St} {k n pc : Nat} {lv : List (Nat × Value)} {st : List Value} {i : Nat} {x : Nat} (j : Nat) (hj : lv[j]? = some (i, .ref x)) (hd : decode M.2.1 pc = .ok (.aload i, 2)) (h : Ax g M mc ms Z sh σ k n (pc + 2) lv (.ref x :: st)) : Ax g M mc ms Z sh σ k n pc lv (st) := by
  intro p e s m args below meth c H locs ls C hw hk hS hl
  exact lv_aload C.1 C.2.1 hd (lv_at hl j hj) (h p e s m args below meth c H locs ls C hw hk hS hl)
theorem a_istore_n {g : Gx} {M : Mt} {mc ms : Nat} {Z : Zt} {sh : List Sh} {σ : St} {k n pc : Nat} {lv : List (Nat × Value)} {st : List Value} {w : Fin 4} {i : Nat} {x : Int32} {lv' : List (Nat × Value)} (hi : (w : Nat) = i) (hn : i < M.2.2.1) (hv : (i, Value.int x) :: lv.filter (fun q => !(q.1 == i) && !(q.1 + 1 == i && q.2.category == 2)) = lv') (hd : decode M.2.1 pc = .ok (.istore_n w, 1)) (h : Ax g M mc ms Z sh σ k n (pc + 1) lv' st) : Ax g M mc ms Z sh σ k n pc lv (.int x :: st) := by
  intro p e s m args below meth c H locs ls C hw hk hS hl
  exact lv_istore_n C.1 C.2.1 hd hi hl hn hv (fun ls' hl' => h p e s m args below meth c H locs ls' C hw hk hS hl')
theorem a_istore {g : Gx} {M : Mt} {mc ms : Nat} {Z : Zt} {sh : List Sh} {σ : St} {k n pc : Nat} {lv : List (Nat × Value)} {st : List Value} {i : Nat} {x : Int32} {lv' : List (Nat × Value)} (hn : i < M.2.2.1) (hv : (i, Value.int x) :: lv.filter (fun q => !(q.1 == i) && !(q.1 + 1 == i && q.2.category == 2)) = lv') (hd : decode M.2.1 pc = .ok (.istore i, 2)) (h : Ax g M mc ms Z sh σ k n (pc + 2) lv' st) : Ax g M mc ms Z sh σ k n pc lv (.int x :: st) := by
  intro p e s m args below meth c H locs ls C hw hk hS hl
  exact lv_istore C.1 C.2.1 hd hl hn hv (fun ls' hl' => h p e s m args below meth c H locs ls' C hw hk hS hl')
theorem a_lstore_n {g : Gx} {M : Mt} {mc ms : Nat} {Z : Zt} {sh : List Sh} {σ : St} {k n pc : Nat} {lv : List (Nat × Value)} {st : List Value} {w : Fin 4} {i : Nat} {x : Int64} {lv' : List (Nat × Value)} (hi : (w : Nat) = i) (hn : i + 1 < M.2.2.1) (hv : (i, Value.long x) :: lv.filter (fun q => !(q.1 == i) && (!(q.1 == i + 1) && !(q.1 + 1 == i && q.2.category == 2))) = lv') (hd : decode M.2.1 pc = .ok (.lstore_n w, 1)) (h : Ax g M mc ms Z sh σ k n (pc + 1) lv' st) : Ax g M mc ms Z sh σ k n pc lv (.long x :: st) := by
  intro p e s m args below meth c H locs ls C hw hk hS hl
  exact lv_lstore_n C.1 C.2.1 hd hi hl hn hv (fun ls' hl' => h p e s m args below meth c H locs ls' C hw hk hS hl')
theorem a_lstore {g : Gx} {M : Mt} {mc ms : Nat} {Z : Zt} {sh : List Sh} {σ : St} {k n pc : Nat} {lv : List (Nat × Value)} {st : List Value} {i : Nat} {x : Int64} {lv' : List (Nat × Value)} (hn : i + 1 < M.2.2.1) (hv : (i, Value.long x) :: lv.filter (fun q => !(q.1 == i) && (!(q.1 == i + 1) && !(q.1 + 1 == i && q.2.category == 2))) = lv') (hd : decode M.2.1 pc = .ok (.lstore i, 2)) (h : Ax g M mc ms Z sh σ k n (pc + 2) lv' st) : Ax g M mc ms Z sh σ k n pc lv (.long x :: st) := by
  intro p e s m args below meth c H locs ls C hw hk hS hl
  exact lv_lstore C.1 C.2.1 hd hl hn hv (fun ls' hl' => h p e s m args below meth c H locs ls' C hw hk hS hl')
theorem a_astore_n {g : Gx} {M : Mt} {mc ms : Nat} {Z : Zt} {sh : List Sh} {σ : St} {k n pc : Nat} {lv : List (Nat × Value)} {st : List Value} {w : Fin 4} {i : Nat} {x : Nat} {lv' : List (Nat × Value)} (hi : (w : Nat) = i) (hn : i < M.2.2.1) (hv : (i, Value.ref x) :: lv.filter (fun q => !(q.1 == i) && !(q.1 + 1 == i && q.2.category == 2)) = lv') (hd : decode M.2.1 pc = .ok (.astore_n w, 1)) (h : Ax g M mc ms Z sh σ k n (pc + 1) lv' st) : Ax g M mc ms Z sh σ k n pc lv (.ref x :: st) := by
  intro p e s m args below meth c H locs ls C hw hk hS hl
  exact lv_astore_n C.1 C.2.1 hd hi hl hn hv (fun ls' hl' => h p e s m args below meth c H locs ls' C hw hk hS hl')
theorem a_astore {g : Gx} {M : Mt} {mc ms : Nat} {Z : Zt} {sh : List Sh} {σ : St} {k n pc : Nat} {lv : List (Nat × Value)} {st : List Value} {i : Nat} {x : Nat} {lv' : List (Nat × Value)} (hn : i < M.2.2.1) (hv : (i, Value.ref x) :: lv.filter (fun q => !(q.1 == i) && !(q.1 + 1 == i && q.2.category == 2)) = lv') (hd : decode M.2.1 pc = .ok (.astore i, 2)) (h : Ax g M mc ms Z sh σ k n (pc + 2) lv' st) : Ax g M mc ms Z sh σ k n pc lv (.ref x :: st) := by
  intro p e s m args below meth c H locs ls C hw hk hS hl
  exact lv_astore C.1 C.2.1 hd hl hn hv (fun ls' hl' => h p e s m args below meth c H locs ls' C hw hk hS hl')
theorem a_iinc {g : Gx} {M : Mt} {mc ms : Nat} {Z : Zt} {sh : List Sh} {σ : St} {k n pc : Nat} {lv : List (Nat × Value)} {st : List Value} {i : Nat} {z : Int} {x v : Int32} {lv' : List (Nat × Value)} (j : Nat) (hj : lv[j]? = some (i, .int x)) (hx : x + Int32.ofInt z = v) (hn : i < M.2.2.1) (hv : (i, Value.int v) :: lv.filter (fun q => !(q.1 == i) && !(q.1 + 1 == i && q.2.category == 2)) = lv') (hd : decode M.2.1 pc = .ok (.iinc i z, 3)) (h : Ax g M mc ms Z sh σ k n (pc + 3) lv' st) : Ax g M mc ms Z sh σ k n pc lv st := by
  intro p e s m args below meth c H locs ls C hw hk hS hl
  exact lv_iinc C.1 C.2.1 hd hl (k := j) hj hx hn hv (fun ls' hl' => h p e s m args below meth c H locs ls' C hw hk hS hl')
theorem a_sub {g : Gx} {M : Mt} {mc ms : Nat} {Z : Zt} {sh : List Sh} {σ : St} {k n pc : Nat} {lv : List (Nat × Value)} {st : List Value} (ks : List Nat) {lv' : List (Nat × Value)} (hv : lv_pick lv ks = lv') (h : Ax g M mc ms Z sh σ k n pc lv' st) : Ax g M mc ms Z sh σ k n pc lv st := by
  intro p e s m args below meth c H locs ls C hw hk hS hl
  exact h p e s m args below meth c H locs ls C hw hk hS (lv_sub hl ks hv)
theorem a_iadd {g : Gx} {M : Mt} {mc ms : Nat} {Z : Zt} {sh : List Sh} {σ : St} {k n pc : Nat} {lv : List (Nat × Value)} {st : List Value} {x y : Int32} (hd : decode M.2.1 pc = .ok (.iadd, 1)) (h : Ax g M mc ms Z sh σ k n (pc + 1) lv (.int (x + y) :: st)) : Ax g M mc ms Z sh σ k n pc lv (.int y :: .int x :: st) := by
  intro p e s m args below meth c H locs ls C hw hk hS hl
  exact lv_iadd C.1 C.2.1 hd (h p e s m args below meth c H locs ls C hw hk hS hl)
theorem a_isub {g : Gx} {M : Mt} {mc ms : Nat} {Z : Zt} {sh : List Sh} {σ : St} {k n pc : Nat} {lv : List (Nat × Value)} {st : List Value} {x y : Int32} (hd : decode M.2.1 pc = .ok (.isub, 1)) (h : Ax g M mc ms Z sh σ k n (pc + 1) lv (.int (x - y) :: st)) : Ax g M mc ms Z sh σ k n pc lv (.int y :: .int x :: st) := by
  intro p e s m args below meth c H locs ls C hw hk hS hl
  exact lv_isub C.1 C.2.1 hd (h p e s m args below meth c H locs ls C hw hk hS hl)
theorem a_imul {g : Gx} {M : Mt} {mc ms : Nat} {Z : Zt} {sh : List Sh} {σ : St} {k n pc : Nat} {lv : List (Nat × Value)} {st : List Value} {x y : Int32} (hd : decode M.2.1 pc = .ok (.imul, 1)) (h : Ax g M mc ms Z sh σ k n (pc + 1) lv (.int (x * y) :: st)) : Ax g M mc ms Z sh σ k n pc lv (.int y :: .int x :: st) := by
  intro p e s m args below meth c H locs ls C hw hk hS hl
  exact lv_imul C.1 C.2.1 hd (h p e s m args below meth c H locs ls C hw hk hS hl)
theorem a_iand {g : Gx} {M : Mt} {mc ms : Nat} {Z : Zt} {sh : List Sh} {σ : St} {k n pc : Nat} {lv : List (Nat × Value)} {st : List Value} {x y : Int32} (hd : decode M.2.1 pc = .ok (.iand, 1)) (h : Ax g M mc ms Z sh σ k n (pc + 1) lv (.int (x &&& y) :: st)) : Ax g M mc ms Z sh σ k n pc lv (.int y :: .int x :: st) := by
  intro p e s m args below meth c H locs ls C hw hk hS hl
  exact lv_iand C.1 C.2.1 hd (h p e s m args below meth c H locs ls C hw hk hS hl)
theorem a_ior {g : Gx} {M : Mt} {mc ms : Nat} {Z : Zt} {sh : List Sh} {σ : St} {k n pc : Nat} {lv : List (Nat × Value)} {st : List Value} {x y : Int32} (hd : decode M.2.1 pc = .ok (.ior, 1)) (h : Ax g M mc ms Z sh σ k n (pc + 1) lv (.int (x ||| y) :: st)) : Ax g M mc ms Z sh σ k n pc lv (.int y :: .int x :: st) := by
  intro p e s m args below meth c H locs ls C hw hk hS hl
  exact lv_ior C.1 C.2.1 hd (h p e s m args below meth c H locs ls C hw hk hS hl)
theorem a_ixor {g : Gx} {M : Mt} {mc ms : Nat} {Z : Zt} {sh : List Sh} {σ : St} {k n pc : Nat} {lv : List (Nat × Value)} {st : List Value} {x y : Int32} (hd : decode M.2.1 pc = .ok (.ixor, 1)) (h : Ax g M mc ms Z sh σ k n (pc + 1) lv (.int (x ^^^ y) :: st)) : Ax g M mc ms Z sh σ k n pc lv (.int y :: .int x :: st) := by
  intro p e s m args below meth c H locs ls C hw hk hS hl
  exact lv_ixor C.1 C.2.1 hd (h p e s m args below meth c H locs ls C hw hk hS hl)
theorem a_ishl {g : Gx} {M : Mt} {mc ms : Nat} {Z : Zt} {sh : List Sh} {σ : St} {k n pc : Nat} {lv : List (Nat × Value)} {st : List Value} {x y : Int32} (hd : decode M.2.1 pc = .ok (.ishl, 1)) (h : Ax g M mc ms Z sh σ k n (pc + 1) lv (.int (x <<< (y &&& 31)) :: st)) : Ax g M mc ms Z sh σ k n pc lv (.int y :: .int x :: st) := by
  intro p e s m args below meth c H locs ls C hw hk hS hl
  exact lv_ishl C.1 C.2.1 hd (h p e s m args below meth c H locs ls C hw hk hS hl)
theorem a_ishr {g : Gx} {M : Mt} {mc ms : Nat} {Z : Zt} {sh : List Sh} {σ : St} {k n pc : Nat} {lv : List (Nat × Value)} {st : List Value} {x y : Int32} (hd : decode M.2.1 pc = .ok (.ishr, 1)) (h : Ax g M mc ms Z sh σ k n (pc + 1) lv (.int (x >>> (y &&& 31)) :: st)) : Ax g M mc ms Z sh σ k n pc lv (.int y :: .int x :: st) := by
  intro p e s m args below meth c H locs ls C hw hk hS hl
  exact lv_ishr C.1 C.2.1 hd (h p e s m args below meth c H locs ls C hw hk hS hl)
theorem a_idiv {g : Gx} {M : Mt} {mc ms : Nat} {Z : Zt} {sh : List Sh} {σ : St} {k n pc : Nat} {lv : List (Nat × Value)} {st : List Value} {x y : Int32} (hne : ¬ y = 0) (hd : decode M.2.1 pc = .ok (.idiv, 1)) (h : Ax g M mc ms Z sh σ k n (pc + 1) lv (.int (x / y) :: st)) : Ax g M mc ms Z sh σ k n pc lv (.int y :: .int x :: st) := by
  intro p e s m args below meth c H locs ls C hw hk hS hl
  exact lv_idiv C.1 C.2.1 hd hne (h p e s m args below meth c H locs ls C hw hk hS hl)
theorem a_irem {g : Gx} {M : Mt} {mc ms : Nat} {Z : Zt} {sh : List Sh} {σ : St} {k n pc : Nat} {lv : List (Nat × Value)} {st : List Value} {x y : Int32} (hne : ¬ y = 0) (hd : decode M.2.1 pc = .ok (.irem, 1)) (h : Ax g M mc ms Z sh σ k n (pc + 1) lv (.int (x - x / y * y) :: st)) : Ax g M mc ms Z sh σ k n pc lv (.int y :: .int x :: st) := by
  intro p e s m args below meth c H locs ls C hw hk hS hl
  exact lv_irem C.1 C.2.1 hd hne (h p e s m args below meth c H locs ls C hw hk hS hl)
theorem a_ineg {g : Gx} {M : Mt} {mc ms : Nat} {Z : Zt} {sh : List Sh} {σ : St} {k n pc : Nat} {lv : List (Nat × Value)} {st : List Value} {x : Int32} (hd : decode M.2.1 pc = .ok (.ineg, 1)) (h : Ax g M mc ms Z sh σ k n (pc + 1) lv (.int (-x) :: st)) : Ax g M mc ms Z sh σ k n pc lv (.int x :: st) := by
  intro p e s m args below meth c H locs ls C hw hk hS hl
  exact lv_ineg C.1 C.2.1 hd (h p e s m args below meth c H locs ls C hw hk hS hl)
theorem a_iushr {g : Gx} {M : Mt} {mc ms : Nat} {Z : Zt} {sh : List Sh} {σ : St} {k n pc : Nat} {lv : List (Nat × Value)} {st : List Value} {x y : Int32} (hd : decode M.2.1 pc = .ok (.iushr, 1)) (h : Ax g M mc ms Z sh σ k n (pc + 1) lv (.int ((x.toUInt32 >>> (y.toUInt32 &&& Int32.toUInt32 31)).toInt32) :: st)) : Ax g M mc ms Z sh σ k n pc lv (.int y :: .int x :: st) := by
  intro p e s m args below meth c H locs ls C hw hk hS hl
  exact lv_iushr C.1 C.2.1 hd rfl (h p e s m args below meth c H locs ls C hw hk hS hl)
theorem a_ladd {g : Gx} {M : Mt} {mc ms : Nat} {Z : Zt} {sh : List Sh} {σ : St} {k n pc : Nat} {lv : List (Nat × Value)} {st : List Value} {x y : Int64} (hd : decode M.2.1 pc = .ok (.ladd, 1)) (h : Ax g M mc ms Z sh σ k n (pc + 1) lv (.long (x + y) :: st)) : Ax g M mc ms Z sh σ k n pc lv (.long y :: .long x :: st) := by
  intro p e s m args below meth c H locs ls C hw hk hS hl
  exact lv_ladd C.1 C.2.1 hd (h p e s m args below meth c H locs ls C hw hk hS hl)
theorem a_lsub {g : Gx} {M : Mt} {mc ms : Nat} {Z : Zt} {sh : List Sh} {σ : St} {k n pc : Nat} {lv : List (Nat × Value)} {st : List Value} {x y : Int64} (hd : decode M.2.1 pc = .ok (.lsub, 1)) (h : Ax g M mc ms Z sh σ k n (pc + 1) lv (.long (x - y) :: st)) : Ax g M mc ms Z sh σ k n pc lv (.long y :: .long x :: st) := by
  intro p e s m args below meth c H locs ls C hw hk hS hl
  exact lv_lsub C.1 C.2.1 hd (h p e s m args below meth c H locs ls C hw hk hS hl)
theorem a_lmul {g : Gx} {M : Mt} {mc ms : Nat} {Z : Zt} {sh : List Sh} {σ : St} {k n pc : Nat} {lv : List (Nat × Value)} {st : List Value} {x y : Int64} (hd : decode M.2.1 pc = .ok (.lmul, 1)) (h : Ax g M mc ms Z sh σ k n (pc + 1) lv (.long (x * y) :: st)) : Ax g M mc ms Z sh σ k n pc lv (.long y :: .long x :: st) := by
  intro p e s m args below meth c H locs ls C hw hk hS hl
  exact lv_lmul C.1 C.2.1 hd (h p e s m args below meth c H locs ls C hw hk hS hl)
theorem a_land {g : Gx} {M : Mt} {mc ms : Nat} {Z : Zt} {sh : List Sh} {σ : St} {k n pc : Nat} {lv : List (Nat × Value)} {st : List Value} {x y : Int64} (hd : decode M.2.1 pc = .ok (.land, 1)) (h : Ax g M mc ms Z sh σ k n (pc + 1) lv (.long (x &&& y) :: st)) : Ax g M mc ms Z sh σ k n pc lv (.long y :: .long x :: st) := by
  intro p e s m args below meth c H locs ls C hw hk hS hl
  exact lv_land C.1 C.2.1 hd (h p e s m args below meth c H locs ls C hw hk hS hl)
theorem a_lor {g : Gx} {M : Mt} {mc ms : Nat} {Z : Zt} {sh : List Sh} {σ : St} {k n pc : Nat} {lv : List (Nat × Value)} {st : List Value} {x y : Int64} (hd : decode M.2.1 pc = .ok (.lor, 1)) (h : Ax g M mc ms Z sh σ k n (pc + 1) lv (.long (x ||| y) :: st)) : Ax g M mc ms Z sh σ k n pc lv (.long y :: .long x :: st) := by
  intro p e s m args below meth c H locs ls C hw hk hS hl
  exact lv_lor C.1 C.2.1 hd (h p e s m args below meth c H locs ls C hw hk hS hl)
theorem a_ldiv {g : Gx} {M : Mt} {mc ms : Nat} {Z : Zt} {sh : List Sh} {σ : St} {k n pc : Nat} {lv : List (Nat × Value)} {st : List Value} {x y : Int64} (hne : ¬ y = 0) (hd : decode M.2.1 pc = .ok (.ldiv, 1)) (h : Ax g M mc ms Z sh σ k n (pc + 1) lv (.long (x / y) :: st)) : Ax g M mc ms Z sh σ k n pc lv (.long y :: .long x :: st) := by
  intro p e s m args below meth c H locs ls C hw hk hS hl
  exact lv_ldiv C.1 C.2.1 hd hne (h p e s m args below meth c H locs ls C hw hk hS hl)
theorem a_lrem {g : Gx} {M : Mt} {mc ms : Nat} {Z : Zt} {sh : List Sh} {σ : St} {k n pc : Nat} {lv : List (Nat × Value)} {st : List Value} {x y : Int64} (hne : ¬ y = 0) (hd : decode M.2.1 pc = .ok (.lrem, 1)) (h : Ax g M mc ms Z sh σ k n (pc + 1) lv (.long (x - x / y * y) :: st)) : Ax g M mc ms Z sh σ k n pc lv (.long y :: .long x :: st) := by
  intro p e s m args below meth c H locs ls C hw hk hS hl
  exact lv_lrem C.1 C.2.1 hd hne (h p e s m args below meth c H locs ls C hw hk hS hl)
theorem a_lshl {g : Gx} {M : Mt} {mc ms : Nat} {Z : Zt} {sh : List Sh} {σ : St} {k n pc : Nat} {lv : List (Nat × Value)} {st : List Value} {x : Int64} {y : Int32} (hd : decode M.2.1 pc = .ok (.lshl, 1)) (h : Ax g M mc ms Z sh σ k n (pc + 1) lv (.long (x <<< (y.toInt64 &&& 63)) :: st)) : Ax g M mc ms Z sh σ k n pc lv (.int y :: .long x :: st) := by
  intro p e s m args below meth c H locs ls C hw hk hS hl
  exact lv_lshl C.1 C.2.1 hd rfl (h p e s m args below meth c H locs ls C hw hk hS hl)
theorem a_lushr {g : Gx} {M : Mt} {mc ms : Nat} {Z : Zt} {sh : List Sh} {σ : St} {k n pc : Nat} {lv : List (Nat × Value)} {st : List Value} {x : Int64} {y : Int32} (hd : decode M.2.1 pc = .ok (.lushr, 1)) (h : Ax g M mc ms Z sh σ k n (pc + 1) lv (.long ((x.toUInt64 >>> (y.toInt64.toUInt64 &&& Int64.toUInt64 63)).toInt64) :: st)) : Ax g M mc ms Z sh σ k n pc lv (.int y :: .long x :: st) := by
  intro p e s m args below meth c H locs ls C hw hk hS hl
  exact lv_lushr C.1 C.2.1 hd rfl (h p e s m args below meth c H locs ls C hw hk hS hl)
theorem a_i2l {g : Gx} {M : Mt} {mc ms : Nat} {Z : Zt} {sh : List Sh} {σ : St} {k n pc : Nat} {lv : List (Nat × Value)} {st : List Value} {x : Int32} (hd : decode M.2.1 pc = .ok (.i2l, 1)) (h : Ax g M mc ms Z sh σ k n (pc + 1) lv (.long x.toInt64 :: st)) : Ax g M mc ms Z sh σ k n pc lv (.int x :: st) := by
  intro p e s m args below meth c H locs ls C hw hk hS hl
  exact lv_i2l C.1 C.2.1 hd rfl (h p e s m args below meth c H locs ls C hw hk hS hl)
theorem a_l2i {g : Gx} {M : Mt} {mc ms : Nat} {Z : Zt} {sh : List Sh} {σ : St} {k n pc : Nat} {lv : List (Nat × Value)} {st : List Value} {x : Int64} (hd : decode M.2.1 pc = .ok (.l2i, 1)) (h : Ax g M mc ms Z sh σ k n (pc + 1) lv (.int x.toInt32 :: st)) : Ax g M mc ms Z sh σ k n pc lv (.long x :: st) := by
  intro p e s m args below meth c H locs ls C hw hk hS hl
  exact lv_l2i C.1 C.2.1 hd rfl (h p e s m args below meth c H locs ls C hw hk hS hl)
theorem a_i2b {g : Gx} {M : Mt} {mc ms : Nat} {Z : Zt} {sh : List Sh} {σ : St} {k n pc : Nat} {lv : List (Nat × Value)} {st : List Value} {x : Int32} (hd : decode M.2.1 pc = .ok (.i2b, 1)) (h : Ax g M mc ms Z sh σ k n (pc + 1) lv (.int x.toInt8.toInt32 :: st)) : Ax g M mc ms Z sh σ k n pc lv (.int x :: st) := by
  intro p e s m args below meth c H locs ls C hw hk hS hl
  exact lv_i2b C.1 C.2.1 hd rfl (h p e s m args below meth c H locs ls C hw hk hS hl)
theorem a_i2c {g : Gx} {M : Mt} {mc ms : Nat} {Z : Zt} {sh : List Sh} {σ : St} {k n pc : Nat} {lv : List (Nat × Value)} {st : List Value} {x : Int32} (hd : decode M.2.1 pc = .ok (.i2c, 1)) (h : Ax g M mc ms Z sh σ k n (pc + 1) lv (.int (x.toUInt32 % 65536).toInt32 :: st)) : Ax g M mc ms Z sh σ k n pc lv (.int x :: st) := by
  intro p e s m args below meth c H locs ls C hw hk hS hl
  exact lv_i2c C.1 C.2.1 hd rfl (h p e s m args below meth c H locs ls C hw hk hS hl)
theorem a_lcmp {g : Gx} {M : Mt} {mc ms : Nat} {Z : Zt} {sh : List Sh} {σ : St} {k n pc : Nat} {lv : List (Nat × Value)} {st : List Value} {x y : Int64} (hd : decode M.2.1 pc = .ok (.lcmp, 1)) (h : Ax g M mc ms Z sh σ k n (pc + 1) lv (.int (lg_cmp x y) :: st)) : Ax g M mc ms Z sh σ k n pc lv (.long y :: .long x :: st) := by
  intro p e s m args below meth c H locs ls C hw hk hS hl
  exact W.lcmp C.1 C.2.1 hd (h p e s m args below meth c H locs ls C hw hk hS hl)
theorem a_dup {g : Gx} {M : Mt} {mc ms : Nat} {Z : Zt} {sh : List Sh} {σ : St} {k n pc : Nat} {lv : List (Nat × Value)} {st : List Value} {va : Value} (hc : va.category = 1) (hd : decode M.2.1 pc = .ok (.dup, 1)) (h : Ax g M mc ms Z sh σ k n (pc + 1) lv (va :: va :: st)) : Ax g M mc ms Z sh σ k n pc lv (va :: st) := by
  intro p e s m args below meth c H locs ls C hw hk hS hl
  exact lv_dup C.1 C.2.1 hd hc (h p e s m args below meth c H locs ls C hw hk hS hl)
theorem a_pop {g : Gx} {M : Mt} {mc ms : Nat} {Z : Zt} {sh : List Sh} {σ : St} {k n pc : Nat} {lv : List (Nat × Value)} {st : List Value} {va : Value} (hc : va.category = 1) (hd : decode M.2.1 pc = .ok (.pop, 1)) (h : Ax g M mc ms Z sh σ k n (pc + 1) lv (st)) : Ax g M mc ms Z sh σ k n pc lv (va :: st) := by
  intro p e s m args below meth c H locs ls C hw hk hS hl
  exact lv_pop C.1 C.2.1 hd hc (h p e s m args below meth c H locs ls C hw hk hS hl)
theorem a_dup2_11 {g : Gx} {M : Mt} {mc ms : Nat} {Z : Zt} {sh : List Sh} {σ : St} {k n pc : Nat} {lv : List (Nat × Value)} {st : List Value} {va vb : Value} (hc : va.category = 1) (hc2 : vb.category = 1) (hd : decode M.2.1 pc = .ok (.dup2, 1)) (h : Ax g M mc ms Z sh σ k n (pc + 1) lv (va :: vb :: va :: vb :: st)) : Ax g M mc ms Z sh σ k n pc lv (va :: vb :: st) := by
  intro p e s m args below meth c H locs ls C hw hk hS hl
  exact lv_dup2_11 C.1 C.2.1 hd hc hc2 (h p e s m args below meth c H locs ls C hw hk hS hl)
theorem a_dup2_2 {g : Gx} {M : Mt} {mc ms : Nat} {Z : Zt} {sh : List Sh} {σ : St} {k n pc : Nat} {lv : List (Nat × Value)} {st : List Value} {va : Value} (hc : va.category = 2) (hd : decode M.2.1 pc = .ok (.dup2, 1)) (h : Ax g M mc ms Z sh σ k n (pc + 1) lv (va :: va :: st)) : Ax g M mc ms Z sh σ k n pc lv (va :: st) := by
  intro p e s m args below meth c H locs ls C hw hk hS hl
  exact lv_dup2_2 C.1 C.2.1 hd hc (h p e s m args below meth c H locs ls C hw hk hS hl)
theorem a_if_eq {g : Gx} {M : Mt} {mc ms : Nat} {Z : Zt} {sh : List Sh} {σ : St} {k n pc : Nat} {lv : List (Nat × Value)} {st : List Value} {x : Int32} {off : Int} (tgt : Nat) (ht : (pc : Int) + off = (tgt : Int)) (hd : decode M.2.1 pc = .ok (.ifCond .eq off, 3)) (h : (x = 0 → Ax g M mc ms Z sh σ k n tgt lv st) ∧ (¬ x = 0 → Ax g M mc ms Z sh σ k n (pc + 3) lv st)) : Ax g M mc ms Z sh σ k n pc lv (.int x :: st) := by
  intro p e s m args below meth c H locs ls C hw hk hS hl
  exact lv_if_eq C.1 C.2.1 hd ht (fun c0 => h.1 c0 p e s m args below meth c H locs ls C hw hk hS hl) (fun c0 => h.2 c0 p e s m args below meth c H locs ls C hw hk hS hl)
theorem a_icmp_eq {g : Gx} {M : Mt} {mc ms : Nat} {Z : Zt} {sh : List Sh} {σ : St} {k n pc : Nat} {lv : List (Nat × Value)} {st : List Value} {x y : Int32} {off : Int} (tgt : Nat) (ht : (pc : Int) + off = (tgt : Int)) (hd : decode M.2.1 pc = .ok (.if_icmp .eq off, 3)) (h : (x = y → Ax g M mc ms Z sh σ k n tgt lv st) ∧ (¬ x = y → Ax g M mc ms Z sh σ k n (pc + 3) lv st)) : Ax g M mc ms Z sh σ k n pc lv (.int y :: .int x :: st) := by
  intro p e s m args below meth c H locs ls C hw hk hS hl
  exact lv_icmp_eq C.1 C.2.1 hd ht (fun c0 => h.1 c0 p e s m args below meth c H locs ls C hw hk hS hl) (fun c0 => h.2 c0 p e s m args below meth c H locs ls C hw hk hS hl)
theorem a_if_ne {g : Gx} {M : Mt} {mc ms : Nat} {Z : Zt} {sh : List Sh} {σ : St} {k n pc : Nat} {lv : List (Nat × Value)} {st : List Value} {x : Int32} {off : Int} (tgt : Nat) (ht : (pc : Int) + off = (tgt : Int)) (hd : decode M.2.1 pc = .ok (.ifCond .ne off, 3)) (h : (¬ x = 0 → Ax g M mc ms Z sh σ k n tgt lv st) ∧ (x = 0 → Ax g M mc ms Z sh σ k n (pc + 3) lv st)) : Ax g M mc ms Z sh σ k n pc lv (.int x :: st) := by
  intro p e s m args below meth c H locs ls C hw hk hS hl
  exact lv_if_ne C.1 C.2.1 hd ht (fun c0 => h.1 c0 p e s m args below meth c H locs ls C hw hk hS hl) (fun c0 => h.2 c0 p e s m args below meth c H locs ls C hw hk hS hl)
theorem a_icmp_ne {g : Gx} {M : Mt} {mc ms : Nat} {Z : Zt} {sh : List Sh} {σ : St} {k n pc : Nat} {lv : List (Nat × Value)} {st : List Value} {x y : Int32} {off : Int} (tgt : Nat) (ht : (pc : Int) + off = (tgt : Int)) (hd : decode M.2.1 pc = .ok (.if_icmp .ne off, 3)) (h : (¬ x = y → Ax g M mc ms Z sh σ k n tgt lv st) ∧ (x = y → Ax g M mc ms Z sh σ k n (pc + 3) lv st)) : Ax g M mc ms Z sh σ k n pc lv (.int y :: .int x :: st) := by
  intro p e s m args below meth c H locs ls C hw hk hS hl
  exact lv_icmp_ne C.1 C.2.1 hd ht (fun c0 => h.1 c0 p e s m args below meth c H locs ls C hw hk hS hl) (fun c0 => h.2 c0 p e s m args below meth c H locs ls C hw hk hS hl)
theorem a_if_lt {g : Gx} {M : Mt} {mc ms : Nat} {Z : Zt} {sh : List Sh} {σ : St} {k n pc : Nat} {lv : List (Nat × Value)} {st : List Value} {x : Int32} {off : Int} (tgt : Nat) (ht : (pc : Int) + off = (tgt : Int)) (hd : decode M.2.1 pc = .ok (.ifCond .lt off, 3)) (h : (x < 0 → Ax g M mc ms Z sh σ k n tgt lv st) ∧ (¬ x < 0 → Ax g M mc ms Z sh σ k n (pc + 3) lv st)) : Ax g M mc ms Z sh σ k n pc lv (.int x :: st) := by
  intro p e s m args below meth c H locs ls C hw hk hS hl
  exact lv_if_lt C.1 C.2.1 hd ht (fun c0 => h.1 c0 p e s m args below meth c H locs ls C hw hk hS hl) (fun c0 => h.2 c0 p e s m args below meth c H locs ls C hw hk hS hl)
theorem a_icmp_lt {g : Gx} {M : Mt} {mc ms : Nat} {Z : Zt} {sh : List Sh} {σ : St} {k n pc : Nat} {lv : List (Nat × Value)} {st : List Value} {x y : Int32} {off : Int} (tgt : Nat) (ht : (pc : Int) + off = (tgt : Int)) (hd : decode M.2.1 pc = .ok (.if_icmp .lt off, 3)) (h : (x < y → Ax g M mc ms Z sh σ k n tgt lv st) ∧ (¬ x < y → Ax g M mc ms Z sh σ k n (pc + 3) lv st)) : Ax g M mc ms Z sh σ k n pc lv (.int y :: .int x :: st) := by
  intro p e s m args below meth c H locs ls C hw hk hS hl
  exact lv_icmp_lt C.1 C.2.1 hd ht (fun c0 => h.1 c0 p e s m args below meth c H locs ls C hw hk hS hl) (fun c0 => h.2 c0 p e s m args below meth c H locs ls C hw hk hS hl)
theorem a_if_ge {g : Gx} {M : Mt} {mc ms : Nat} {Z : Zt} {sh : List Sh} {σ : St} {k n pc : Nat} {lv : List (Nat × Value)} {st : List Value} {x : Int32} {off : Int} (tgt : Nat) (ht : (pc : Int) + off = (tgt : Int)) (hd : decode M.2.1 pc = .ok (.ifCond .ge off, 3)) (h : (0 ≤ x → Ax g M mc ms Z sh σ k n tgt lv st) ∧ (¬ 0 ≤ x → Ax g M mc ms Z sh σ k n (pc + 3) lv st)) : Ax g M mc ms Z sh σ k n pc lv (.int x :: st) := by
  intro p e s m args below meth c H locs ls C hw hk hS hl
  exact lv_if_ge C.1 C.2.1 hd ht (fun c0 => h.1 c0 p e s m args below meth c H locs ls C hw hk hS hl) (fun c0 => h.2 c0 p e s m args below meth c H locs ls C hw hk hS hl)
theorem a_icmp_ge {g : Gx} {M : Mt} {mc ms : Nat} {Z : Zt} {sh : List Sh} {σ : St} {k n pc : Nat} {lv : List (Nat × Value)} {st : List Value} {x y : Int32} {off : Int} (tgt : Nat) (ht : (pc : Int) + off = (tgt : Int)) (hd : decode M.2.1 pc = .ok (.if_icmp .ge off, 3)) (h : (y ≤ x → Ax g M mc ms Z sh σ k n tgt lv st) ∧ (¬ y ≤ x → Ax g M mc ms Z sh σ k n (pc + 3) lv st)) : Ax g M mc ms Z sh σ k n pc lv (.int y :: .int x :: st) := by
  intro p e s m args below meth c H locs ls C hw hk hS hl
  exact lv_icmp_ge C.1 C.2.1 hd ht (fun c0 => h.1 c0 p e s m args below meth c H locs ls C hw hk hS hl) (fun c0 => h.2 c0 p e s m args below meth c H locs ls C hw hk hS hl)
theorem a_if_gt {g : Gx} {M : Mt} {mc ms : Nat} {Z : Zt} {sh : List Sh} {σ : St} {k n pc : Nat} {lv : List (Nat × Value)} {st : List Value} {x : Int32} {off : Int} (tgt : Nat) (ht : (pc : Int) + off = (tgt : Int)) (hd : decode M.2.1 pc = .ok (.ifCond .gt off, 3)) (h : (0 < x → Ax g M mc ms Z sh σ k n tgt lv st) ∧ (¬ 0 < x → Ax g M mc ms Z sh σ k n (pc + 3) lv st)) : Ax g M mc ms Z sh σ k n pc lv (.int x :: st) := by
  intro p e s m args below meth c H locs ls C hw hk hS hl
  exact lv_if_gt C.1 C.2.1 hd ht (fun c0 => h.1 c0 p e s m args below meth c H locs ls C hw hk hS hl) (fun c0 => h.2 c0 p e s m args below meth c H locs ls C hw hk hS hl)
theorem a_icmp_gt {g : Gx} {M : Mt} {mc ms : Nat} {Z : Zt} {sh : List Sh} {σ : St} {k n pc : Nat} {lv : List (Nat × Value)} {st : List Value} {x y : Int32} {off : Int} (tgt : Nat) (ht : (pc : Int) + off = (tgt : Int)) (hd : decode M.2.1 pc = .ok (.if_icmp .gt off, 3)) (h : (y < x → Ax g M mc ms Z sh σ k n tgt lv st) ∧ (¬ y < x → Ax g M mc ms Z sh σ k n (pc + 3) lv st)) : Ax g M mc ms Z sh σ k n pc lv (.int y :: .int x :: st) := by
  intro p e s m args below meth c H locs ls C hw hk hS hl
  exact lv_icmp_gt C.1 C.2.1 hd ht (fun c0 => h.1 c0 p e s m args below meth c H locs ls C hw hk hS hl) (fun c0 => h.2 c0 p e s m args below meth c H locs ls C hw hk hS hl)
theorem a_if_le {g : Gx} {M : Mt} {mc ms : Nat} {Z : Zt} {sh : List Sh} {σ : St} {k n pc : Nat} {lv : List (Nat × Value)} {st : List Value} {x : Int32} {off : Int} (tgt : Nat) (ht : (pc : Int) + off = (tgt : Int)) (hd : decode M.2.1 pc = .ok (.ifCond .le off, 3)) (h : (x ≤ 0 → Ax g M mc ms Z sh σ k n tgt lv st) ∧ (¬ x ≤ 0 → Ax g M mc ms Z sh σ k n (pc + 3) lv st)) : Ax g M mc ms Z sh σ k n pc lv (.int x :: st) := by
  intro p e s m args below meth c H locs ls C hw hk hS hl
  exact lv_if_le C.1 C.2.1 hd ht (fun c0 => h.1 c0 p e s m args below meth c H locs ls C hw hk hS hl) (fun c0 => h.2 c0 p e s m args below meth c H locs ls C hw hk hS hl)
theorem a_icmp_le {g : Gx} {M : Mt} {mc ms : Nat} {Z : Zt} {sh : List Sh} {σ : St} {k n pc : Nat} {lv : List (Nat × Value)} {st : List Value} {x y : Int32} {off : Int} (tgt : Nat) (ht : (pc : Int) + off = (tgt : Int)) (hd : decode M.2.1 pc = .ok (.if_icmp .le off, 3)) (h : (x ≤ y → Ax g M mc ms Z sh σ k n tgt lv st) ∧ (¬ x ≤ y → Ax g M mc ms Z sh σ k n (pc + 3) lv st)) : Ax g M mc ms Z sh σ k n pc lv (.int y :: .int x :: st) := by
  intro p e s m args below meth c H locs ls C hw hk hS hl
  exact lv_icmp_le C.1 C.2.1 hd ht (fun c0 => h.1 c0 p e s m args below meth c H locs ls C hw hk hS hl) (fun c0 => h.2 c0 p e s m args below meth c H locs ls C hw hk hS hl)
theorem a_goto {g : Gx} {M : Mt} {mc ms : Nat} {Z : Zt} {sh : List Sh} {σ : St} {k n pc : Nat} {lv : List (Nat × Value)} {st : List Value} {off : Int} (tgt : Nat) (ht : (pc : Int) + off = (tgt : Int)) (hd : decode M.2.1 pc = .ok (.goto off, 3)) (h : Ax g M mc ms Z sh σ k n tgt lv st) : Ax g M mc ms Z sh σ k n pc lv st := by
  intro p e s m args below meth c H locs ls C hw hk hS hl
  exact lv_goto C.1 C.2.1 hd ht (h p e s m args below meth c H locs ls C hw hk hS hl)
theorem a_tableOut {g : Gx} {M : Mt} {mc ms : Nat} {Z : Zt} {sh : List Sh} {σ : St} {k n pc : Nat} {lv : List (Nat × Value)} {st : List Value} {dflt lo hi : Int} {offs : Array Int} {len : Nat} {x : Int32} (tgt : Nat) (hx : x.toInt < lo ∨ hi < x.toInt) (ht : (pc : Int) + dflt = (tgt : Int)) (hd : decode M.2.1 pc = .ok (.tableswitch dflt lo hi offs, len)) (h : Ax g M mc ms Z sh σ k n tgt lv st) : Ax g M mc ms Z sh σ k n pc lv (.int x :: st) := by
  intro p e s m args below meth c H locs ls C hw hk hS hl
  exact lv_tableOut C.1 C.2.1 hd hx ht (h p e s m args below meth c H locs ls C hw hk hS hl)
theorem a_tableIn {g : Gx} {M : Mt} {mc ms : Nat} {Z : Zt} {sh : List Sh} {σ : St} {k n pc : Nat} {lv : List (Nat × Value)} {st : List Value} {dflt lo hi : Int} {offs : Array Int} {len : Nat} {x : Int32} {off : Int} (tgt : Nat) (h1 : ¬ x.toInt < lo) (h2 : ¬ hi < x.toInt) (ho : offs[(x.toInt - lo).toNat]? = some off) (ht : (pc : Int) + off = (tgt : Int)) (hd : decode M.2.1 pc = .ok (.tableswitch dflt lo hi offs, len)) (h : Ax g M mc ms Z sh σ k n tgt lv st) : Ax g M mc ms Z sh σ k n pc lv (.int x :: st) := by
  intro p e s m args below meth c H locs ls C hw hk hS hl
  exact lv_tableIn C.1 C.2.1 hd h1 h2 ho ht (h p e s m args below meth c H locs ls C hw hk hS hl)
