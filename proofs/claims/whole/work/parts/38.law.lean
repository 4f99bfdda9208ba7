def R_law : String := "BallBoxLaw"
def lw_P (b : Addr) (xs : List Int32) (args : Array Value) (s : State) : Prop := args = #[.ref b] ∧ s.IntsAt b xs ∧ xs.length ≤ 3072 ∧ (Jvm.Cond.and given_1 narrow_1).before args s = true
def lw_Q (_ : Array Value) (s : State) (o : Outcome) (t : State) : Prop := o = .returned (some (.int 1)) ∧ Framed s o t [] 600000 7302250
def lw_Z (below : List Frame) (a : Array Value) (s : State) : State → Prop := fun t => ∃ o, t.status = .running ∧ Ended t below o ∧ lw_Q a s o t
/-- the law's own end, with 1 on the stack, nothing written that was there before, its room as the claim has it -/
theorem lw_ret {p : Program} {l : Launch} {e : Env} {s : State} {m : MethodId} {below : List Frame} {meth : Method} {c : Code} {b : Nat} (hx : p.tables.exec = Jvm.exec) (hb : c.code = code) (hr : meth.sig.returnType = ret) (hlocks : meth.locks = false) {pc : Nat} {H : Heap} {ls : Array Slot} (hdg : decode code pc = .ok (.ireturn, 1)) : W p l e room_1 s m #[Value.ref b] below meth c H [] 600000 7302250 (lw_Z below #[Value.ref b] s) (F0 m pc ls [.int 1]) := by
  intro T hT X
  obtain ⟨fs, hret, hrun, hended, hW, hframe⟩ := X.leave (v := some (.int 1)) (hlocks := hlocks) (fun h => by rw [hr] at h; cases h)
  have hmeth' : T.vm.method? m = some meth := X.method'
  refine ⟨T.setFrames fs, ?_, .returned (some (.int 1)), hrun, hended, rfl, ⟨_, rfl⟩, hW, hframe⟩
  jvm_step X.here [X.here.top, hx, hb, hdg, hmeth', hr, ret, narrow_b1]
  (try refine ⟨rfl, ?_⟩); (try refine ⟨rfl, ?_⟩)
  first | (intro acts; rw [hret _ acts rfl rfl rfl]) | rw [hret _ _ rfl rfl rfl]
  exact Steps.refl _
/-- what holds at the law's entry: the machine, the code, the tables' words (any of lw_tbl by 'hts w (by decide +kernel)'), the script of L ints xs at the cell b, what the Statement gives of the start (any of its parts by flat_of_before) -/
def lw_At (p : Program) (s : State) (m : MethodId) (meth : Method) (c : Code) (b L : Nat) (xs : Nat → Int32) : Prop :=
  p.tables.exec = Jvm.exec ∧ c.code = code ∧ meth.sig.returnType = ret ∧ c.maxLocals = 4 ∧ s.vm.findClass R_law = some m.cls ∧ (∀ w ∈ lw_tbl, w.before #[Value.ref b] s = true) ∧ va_X b L xs s s.heap ∧ b < s.heap.size ∧ meth.locks = false ∧ (Jvm.Cond.and given_1 narrow_1).before #[Value.ref b] s = true
theorem lw_ret2 {p : Program} {l : Launch} {e : Env} {s : State} {m : MethodId} {below : List Frame} {meth : Method} {c : Code} {args : Array Value} (hx : p.tables.exec = Jvm.exec) (hb : c.code = code) (hr : meth.sig.returnType = ret) (hlocks : meth.locks = false) {pc : Nat} {H : Heap} {ls : Array Slot} (hdg : decode code pc = .ok (.ireturn, 1)) : W p l e room_1 s m args below meth c H [] 600000 7302250 (lw_Z below args s) (F0 m pc ls [.int 1]) := by
  intro T hT X
  obtain ⟨fs, hret, hrun, hended, hW, hframe⟩ := X.leave (v := some (.int 1)) (hlocks := hlocks) (fun h => by rw [hr] at h; cases h)
  have hmeth' : T.vm.method? m = some meth := X.method'
  refine ⟨T.setFrames fs, ?_, .returned (some (.int 1)), hrun, hended, rfl, ⟨_, rfl⟩, hW, hframe⟩
  jvm_step X.here [X.here.top, hx, hb, hdg, hmeth', hr, ret, narrow_b1]
  (try refine ⟨rfl, ?_⟩); (try refine ⟨rfl, ?_⟩)
  first | (intro acts; rw [hret _ acts rfl rfl rfl]) | rw [hret _ _ rfl rfl rfl]
  exact Steps.refl _

theorem a_scld {g : Gx} {M : Mt} {mc ms : Nat} {Z : Zt} {sh : List Sh} {σ : St} {k n pc : Nat} {lv : List (Nat × Value)} {st : List Value} {x : Int32} (hx : vp_in x (gXL g)) (hd : decode M.2.1 pc = .ok (.iaload, 1)) (h : Ax g M mc ms Z sh σ k n (pc + 1) lv (.int (gXs g x.toNatClampNeg) :: st)) : Ax g M mc ms Z sh σ k n pc lv (.int x :: .ref (gXb g) :: st) := by
  intro p e s m args below meth c H locs ls C hw hk hS hl
  have hT := C.2.2.2.2.2.2.2.1.2.2.2.2.2.2
  exact va_sld C.1 C.2.1 hT.1 (Nat.lt_of_lt_of_le hT.2.1.1 hT.2.2) (Nat.not_le.mpr hT.2.1.1) hS hx hd (h p e s m args below meth c H locs ls C hw hk hS hl)
theorem a_sclen {g : Gx} {M : Mt} {mc ms : Nat} {Z : Zt} {sh : List Sh} {σ : St} {k n pc : Nat} {lv : List (Nat × Value)} {st : List Value} (hd : decode M.2.1 pc = .ok (.arraylength, 1)) (h : Ax g M mc ms Z sh σ k n (pc + 1) lv (.int (Int32.ofNat (gXL g)) :: st)) : Ax g M mc ms Z sh σ k n pc lv (.ref (gXb g) :: st) := by
  intro p e s m args below meth c H locs ls C hw hk hS hl
  have hT := C.2.2.2.2.2.2.2.1.2.2.2.2.2.2
  exact va_slen C.1 C.2.1 hT.1 (Nat.lt_of_lt_of_le hT.2.1.1 hT.2.2) (Nat.not_le.mpr hT.2.1.1) hS hd (h p e s m args below meth c H locs ls C hw hk hS hl)
theorem a_lawret {g : Gx} {σ : St} {n pc : Nat} {lv : List (Nat × Value)} (hn : n ≤ 7302250) (hd : decode code pc = .ok (.ireturn, 1)) : Ax g m_LW_law 600000 7302250 lw_Z SH σ 199 n pc lv [.int 1] := by
  intro p e s m args below meth c H locs ls C hw hk hS hl
  have hsz : s.heap.size = gB g := by rw [sh_len] at hk; omega
  refine va_forget (fun q hq => by rw [hsz]; exact hS.2.2 q hq) ?_
  refine W.widen (k := 600000) (n := 7302250) (by decide) hn ?_
  exact lw_ret2 C.1 C.2.1 C.2.2.2.1 C.2.2.2.2.1 hd
