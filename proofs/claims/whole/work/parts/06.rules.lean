def FGk (own : String) (idx ci f : Nat) : Prop := ∃ (C : String) (T : u_T) (N : Nat), vwCl[ci]? = some (C, T, N) ∧ f < N ∧ (∀ w ∈ u_ws C T N, w ∈ TB) ∧ Cond.fieldLink own idx (T f).1 (T f).2.1 (T f).2.2.1 ∈ TB
def FPk (own : String) (idx ci f : Nat) (ty : FieldType) (fin : Bool) : Prop := ∃ (C : String) (T : u_T) (N : Nat) (ty0 : Nat → FieldType), vwCl[ci]? = some (C, T, N) ∧ f < N ∧ (∀ w ∈ u_ws C T N, w ∈ TB) ∧ (∀ a, a < N → parseFieldDescriptor (T a).2.2.1 = some (ty0 a)) ∧ (∀ a, a < N → ∀ b, b < N → a ≠ b → (T a).2.1 ≠ (T b).2.1) ∧ Cond.fieldLink own idx (T f).1 (T f).2.1 (T f).2.2.1 ∈ TB ∧ (T f).2.2.2 = fin ∧ parseFieldDescriptor (T f).2.2.1 = some ty ∧ (T f).1 = C
theorem a_getI {g : Gx} {M : Mt} {mc ms : Nat} {Z : Zt} {sh : List Sh} {σ : St} {k n pc : Nat} {lv : List (Nat × Value)} {st : List Value} {i ci r f idx : Nat} {fs : List (Nat × Nat)} (hF : FGk M.1.cls idx ci f) (hi : sh[i]? = some (.inl (ci, fs))) (hf : fs[f]? = some (0, r)) (hd : decode M.2.1 pc = .ok (.getfield idx, 3)) (h : Ax g M mc ms Z sh σ k n (pc + 3) lv (.int (fi σ i f) :: st)) : Ax g M mc ms Z sh σ k n pc lv (.ref (gB g + i) :: st) := by
  intro p e s m args below meth c H locs ls C hw hk hS hl
  obtain ⟨C0, T, N, h1, h2, h3, h4⟩ := hF
  exact va_get C.1 C.2.1 C.2.2.2.2.2.2.1 h3 C.2.2.2.2.2.1 hw.2 hw.1 i (wsx_get hi) h1 f h2 (C.2.2.2.2.2.2.1 _ h4) (fun _ q => q) (v := .int (fi σ i f)) (by simp [List.getElem?_mapIdx, hf, fvl]) hd (h p e s m args below meth c H locs ls C hw hk hS hl)
theorem a_getJ {g : Gx} {M : Mt} {mc ms : Nat} {Z : Zt} {sh : List Sh} {σ : St} {k n pc : Nat} {lv : List (Nat × Value)} {st : List Value} {i ci r f idx : Nat} {fs : List (Nat × Nat)} (hF : FGk M.1.cls idx ci f) (hi : sh[i]? = some (.inl (ci, fs))) (hf : fs[f]? = some (1, r)) (hd : decode M.2.1 pc = .ok (.getfield idx, 3)) (h : Ax g M mc ms Z sh σ k n (pc + 3) lv (.long (fj σ i f) :: st)) : Ax g M mc ms Z sh σ k n pc lv (.ref (gB g + i) :: st) := by
  intro p e s m args below meth c H locs ls C hw hk hS hl
  obtain ⟨C0, T, N, h1, h2, h3, h4⟩ := hF
  exact va_get C.1 C.2.1 C.2.2.2.2.2.2.1 h3 C.2.2.2.2.2.1 hw.2 hw.1 i (wsx_get hi) h1 f h2 (C.2.2.2.2.2.2.1 _ h4) (fun _ q => q) (v := .long (fj σ i f)) (by simp [List.getElem?_mapIdx, hf, fvl]) hd (h p e s m args below meth c H locs ls C hw hk hS hl)
theorem a_getR {g : Gx} {M : Mt} {mc ms : Nat} {Z : Zt} {sh : List Sh} {σ : St} {k n pc : Nat} {lv : List (Nat × Value)} {st : List Value} {i ci r f idx : Nat} {fs : List (Nat × Nat)} (hF : FGk M.1.cls idx ci f) (hi : sh[i]? = some (.inl (ci, fs))) (hf : fs[f]? = some (2, r)) (hd : decode M.2.1 pc = .ok (.getfield idx, 3)) (h : Ax g M mc ms Z sh σ k n (pc + 3) lv (.ref (gB g + r) :: st)) : Ax g M mc ms Z sh σ k n pc lv (.ref (gB g + i) :: st) := by
  intro p e s m args below meth c H locs ls C hw hk hS hl
  obtain ⟨C0, T, N, h1, h2, h3, h4⟩ := hF
  exact va_get C.1 C.2.1 C.2.2.2.2.2.2.1 h3 C.2.2.2.2.2.1 hw.2 hw.1 i (wsx_get hi) h1 f h2 (C.2.2.2.2.2.2.1 _ h4) (fun _ q => q) (v := .ref (gB g + r)) (by simp [List.getElem?_mapIdx, hf, fvl]) hd (h p e s m args below meth c H locs ls C hw hk hS hl)
theorem a_putI {g : Gx} {M : Mt} {mc ms : Nat} {Z : Zt} {sh : List Sh} {σ : St} {k n pc : Nat} {lv : List (Nat × Value)} {st : List Value} {i ci r f idx : Nat} {fs : List (Nat × Nat)} {v : Int32} (hF : FPk M.1.cls idx ci f .int false) (hi : sh[i]? = some (.inl (ci, fs))) (hf : fs[f]? = some (0, r)) (hd : decode M.2.1 pc = .ok (.putfield idx, 3)) (h : Ax g M mc ms Z sh (sfi σ i f v) k n (pc + 3) lv st) : Ax g M mc ms Z sh σ k n pc lv (.int v :: .ref (gB g + i) :: st) := by
  intro p e s m args below meth c H locs ls C hw hk hS hl
  obtain ⟨C0, T, N, ty0, h1, h2, h3, h5, h6, h4, h7, h8, -⟩ := hF
  refine va_put C.1 C.2.1 C.2.2.2.2.2.2.1 h3 ty0 h5 h6 C.2.2.2.2.2.1 hw.2 hw.1 wsx_D hS i (wsx_get hi) h1 f h2 (C.2.2.2.2.2.2.1 _ h4) (fun _ q => q) h7 (ty := .int) h8 rfl rfl (by simpa using (List.getElem?_eq_some_iff.mp hf).1) hd (fun H1 locs1 hP1 _ hS1 => ?_)
  rw [wsx_sfi hi hf] at hP1
  exact h p e s m args below meth c H1 locs1 ls C ⟨hP1, hw.2⟩ hk hS1 hl
theorem a_putZ {g : Gx} {M : Mt} {mc ms : Nat} {Z : Zt} {sh : List Sh} {σ : St} {k n pc : Nat} {lv : List (Nat × Value)} {st : List Value} {i ci r f idx : Nat} {fs : List (Nat × Nat)} {v : Int32} (hF : FPk M.1.cls idx ci f .boolean false) (hi : sh[i]? = some (.inl (ci, fs))) (hf : fs[f]? = some (0, r)) (hv : v = 0 ∨ v = 1) (hd : decode M.2.1 pc = .ok (.putfield idx, 3)) (h : Ax g M mc ms Z sh (sfi σ i f v) k n (pc + 3) lv st) : Ax g M mc ms Z sh σ k n pc lv (.int v :: .ref (gB g + i) :: st) := by
  intro p e s m args below meth c H locs ls C hw hk hS hl
  obtain ⟨C0, T, N, ty0, h1, h2, h3, h5, h6, h4, h7, h8, -⟩ := hF
  refine va_put C.1 C.2.1 C.2.2.2.2.2.2.1 h3 ty0 h5 h6 C.2.2.2.2.2.1 hw.2 hw.1 wsx_D hS i (wsx_get hi) h1 f h2 (C.2.2.2.2.2.2.1 _ h4) (fun _ q => q) h7 (ty := .boolean) h8 (by rcases hv with rfl | rfl <;> rfl) (by rcases hv with rfl | rfl <;> rfl) (by simpa using (List.getElem?_eq_some_iff.mp hf).1) hd (fun H1 locs1 hP1 _ hS1 => ?_)
  rw [wsx_sfi hi hf] at hP1
  exact h p e s m args below meth c H1 locs1 ls C ⟨hP1, hw.2⟩ hk hS1 hl
theorem a_putJ {g : Gx} {M : Mt} {mc ms : Nat} {Z : Zt} {sh : List Sh} {σ : St} {k n pc : Nat} {lv : List (Nat × Value)} {st : List Value} {i ci r f idx : Nat} {fs : List (Nat × Nat)} {v : Int64} (hF : FPk M.1.cls idx ci f .long false) (hi : sh[i]? = some (.inl (ci, fs))) (hf : fs[f]? = some (1, r)) (hd : decode M.2.1 pc = .ok (.putfield idx, 3)) (h : Ax g M mc ms Z sh (sfj σ i f v) k n (pc + 3) lv st) : Ax g M mc ms Z sh σ k n pc lv (.long v :: .ref (gB g + i) :: st) := by
  intro p e s m args below meth c H locs ls C hw hk hS hl
  obtain ⟨C0, T, N, ty0, h1, h2, h3, h5, h6, h4, h7, h8, -⟩ := hF
  refine va_put C.1 C.2.1 C.2.2.2.2.2.2.1 h3 ty0 h5 h6 C.2.2.2.2.2.1 hw.2 hw.1 wsx_D hS i (wsx_get hi) h1 f h2 (C.2.2.2.2.2.2.1 _ h4) (fun _ q => q) h7 (ty := .long) h8 rfl rfl (by simpa using (List.getElem?_eq_some_iff.mp hf).1) hd (fun H1 locs1 hP1 _ hS1 => ?_)
  rw [wsx_sfj hi hf] at hP1
  exact h p e s m args below meth c H1 locs1 ls C ⟨hP1, hw.2⟩ hk hS1 hl
theorem a_iald {g : Gx} {M : Mt} {mc ms : Nat} {Z : Zt} {sh : List Sh} {σ : St} {k n pc : Nat} {lv : List (Nat × Value)} {st : List Value} {i N : Nat} {rs : List Nat} {x : Int32} (hi : sh[i]? = some (.inr (0, N, rs))) (hx : vp_in x N) (hd : decode M.2.1 pc = .ok (.iaload, 1)) (h : Ax g M mc ms Z sh σ k n (pc + 1) lv (.int (ai σ i x.toNatClampNeg) :: st)) : Ax g M mc ms Z sh σ k n pc lv (.int x :: .ref (gB g + i) :: st) := by
  intro p e s m args below meth c H locs ls C hw hk hS hl
  exact va_iald C.1 C.2.1 hw.2 hw.1 i 0 (wsx_get hi) rfl hx hd (h p e s m args below meth c H locs ls C hw hk hS hl)
theorem a_bald {g : Gx} {M : Mt} {mc ms : Nat} {Z : Zt} {sh : List Sh} {σ : St} {k n pc : Nat} {lv : List (Nat × Value)} {st : List Value} {i N : Nat} {rs : List Nat} {x : Int32} (hi : sh[i]? = some (.inr (2, N, rs))) (hx : vp_in x N) (hd : decode M.2.1 pc = .ok (.baload, 1)) (h : Ax g M mc ms Z sh σ k n (pc + 1) lv (.int (ai σ i x.toNatClampNeg) :: st)) : Ax g M mc ms Z sh σ k n pc lv (.int x :: .ref (gB g + i) :: st) := by
  intro p e s m args below meth c H locs ls C hw hk hS hl
  exact va_bald C.1 C.2.1 hw.2 hw.1 i 2 (wsx_get hi) rfl hx hd (h p e s m args below meth c H locs ls C hw hk hS hl)
theorem a_zald {g : Gx} {M : Mt} {mc ms : Nat} {Z : Zt} {sh : List Sh} {σ : St} {k n pc : Nat} {lv : List (Nat × Value)} {st : List Value} {i N : Nat} {rs : List Nat} {x : Int32} (hi : sh[i]? = some (.inr (3, N, rs))) (hx : vp_in x N) (hd : decode M.2.1 pc = .ok (.baload, 1)) (h : Ax g M mc ms Z sh σ k n (pc + 1) lv (.int (ai σ i x.toNatClampNeg) :: st)) : Ax g M mc ms Z sh σ k n pc lv (.int x :: .ref (gB g + i) :: st) := by
  intro p e s m args below meth c H locs ls C hw hk hS hl
  exact va_zald C.1 C.2.1 hw.2 hw.1 i 3 (wsx_get hi) rfl hx hd (h p e s m args below meth c H locs ls C hw hk hS hl)
theorem a_lald {g : Gx} {M : Mt} {mc ms : Nat} {Z : Zt} {sh : List Sh} {σ : St} {k n pc : Nat} {lv : List (Nat × Value)} {st : List Value} {i N : Nat} {rs : List Nat} {x : Int32} (hi : sh[i]? = some (.inr (1, N, rs))) (hx : vp_in x N) (hd : decode M.2.1 pc = .ok (.laload, 1)) (h : Ax g M mc ms Z sh σ k n (pc + 1) lv (.long (aj σ i x.toNatClampNeg) :: st)) : Ax g M mc ms Z sh σ k n pc lv (.int x :: .ref (gB g + i) :: st) := by
  intro p e s m args below meth c H locs ls C hw hk hS hl
  exact va_lald C.1 C.2.1 hw.2 hw.1 i 1 (wsx_get hi) rfl hx hd (h p e s m args below meth c H locs ls C hw hk hS hl)
theorem a_iast {g : Gx} {M : Mt} {mc ms : Nat} {Z : Zt} {sh : List Sh} {σ : St} {k n pc : Nat} {lv : List (Nat × Value)} {st : List Value} {i N : Nat} {rs : List Nat} {x : Int32} {v : Int32} (hi : sh[i]? = some (.inr (0, N, rs))) (hx : vp_in x N) (hd : decode M.2.1 pc = .ok (.iastore, 1)) (h : Ax g M mc ms Z sh (sai σ i x.toNatClampNeg v) k n (pc + 1) lv st) : Ax g M mc ms Z sh σ k n pc lv (.int v :: .int x :: .ref (gB g + i) :: st) := by
  intro p e s m args below meth c H locs ls C hw hk hS hl
  refine va_iast C.1 C.2.1 hw.2 hw.1 wsx_D hS i 0 (wsx_get hi) rfl hx hd (fun H1 locs1 hP1 _ hS1 => ?_)
  have hP2 : va_P (gD g) vwCl (wsx g sh (sai σ i x.toNatClampNeg v)) H1 := (wsx_sai hi (by decide) (by decide)) ▸ hP1
  exact h p e s m args below meth c H1 locs1 ls C ⟨hP2, hw.2⟩ hk hS1 hl
theorem a_bast {g : Gx} {M : Mt} {mc ms : Nat} {Z : Zt} {sh : List Sh} {σ : St} {k n pc : Nat} {lv : List (Nat × Value)} {st : List Value} {i N : Nat} {rs : List Nat} {x : Int32} {v : Int32} (hi : sh[i]? = some (.inr (2, N, rs))) (hx : vp_in x N) (hd : decode M.2.1 pc = .ok (.bastore, 1)) (h : Ax g M mc ms Z sh (sai σ i x.toNatClampNeg (vp_nar .byte v)) k n (pc + 1) lv st) : Ax g M mc ms Z sh σ k n pc lv (.int v :: .int x :: .ref (gB g + i) :: st) := by
  intro p e s m args below meth c H locs ls C hw hk hS hl
  refine va_bast C.1 C.2.1 hw.2 hw.1 wsx_D hS i 2 (wsx_get hi) rfl hx hd (fun H1 locs1 hP1 _ hS1 => ?_)
  have hP2 : va_P (gD g) vwCl (wsx g sh (sai σ i x.toNatClampNeg (vp_nar .byte v))) H1 := (wsx_sai hi (by decide) (by decide)) ▸ hP1
  exact h p e s m args below meth c H1 locs1 ls C ⟨hP2, hw.2⟩ hk hS1 hl
theorem a_zast {g : Gx} {M : Mt} {mc ms : Nat} {Z : Zt} {sh : List Sh} {σ : St} {k n pc : Nat} {lv : List (Nat × Value)} {st : List Value} {i N : Nat} {rs : List Nat} {x : Int32} {v : Int32} (hi : sh[i]? = some (.inr (3, N, rs))) (hx : vp_in x N) (hd : decode M.2.1 pc = .ok (.bastore, 1)) (h : Ax g M mc ms Z sh (sai σ i x.toNatClampNeg (vp_nar .boolean v)) k n (pc + 1) lv st) : Ax g M mc ms Z sh σ k n pc lv (.int v :: .int x :: .ref (gB g + i) :: st) := by
  intro p e s m args below meth c H locs ls C hw hk hS hl
  refine va_zast C.1 C.2.1 hw.2 hw.1 wsx_D hS i 3 (wsx_get hi) rfl hx hd (fun H1 locs1 hP1 _ hS1 => ?_)
  have hP2 : va_P (gD g) vwCl (wsx g sh (sai σ i x.toNatClampNeg (vp_nar .boolean v))) H1 := (wsx_sai hi (by decide) (by decide)) ▸ hP1
  exact h p e s m args below meth c H1 locs1 ls C ⟨hP2, hw.2⟩ hk hS1 hl
theorem a_last {g : Gx} {M : Mt} {mc ms : Nat} {Z : Zt} {sh : List Sh} {σ : St} {k n pc : Nat} {lv : List (Nat × Value)} {st : List Value} {i N : Nat} {rs : List Nat} {x : Int32} {v : Int64} (hi : sh[i]? = some (.inr (1, N, rs))) (hx : vp_in x N) (hd : decode M.2.1 pc = .ok (.lastore, 1)) (h : Ax g M mc ms Z sh (saj σ i x.toNatClampNeg v) k n (pc + 1) lv st) : Ax g M mc ms Z sh σ k n pc lv (.long v :: .int x :: .ref (gB g + i) :: st) := by
  intro p e s m args below meth c H locs ls C hw hk hS hl
  refine va_last C.1 C.2.1 hw.2 hw.1 wsx_D hS i 1 (wsx_get hi) rfl hx hd (fun H1 locs1 hP1 _ hS1 => ?_)
  have hP2 : va_P (gD g) vwCl (wsx g sh (saj σ i x.toNatClampNeg v)) H1 := (wsx_saj hi) ▸ hP1
  exact h p e s m args below meth c H1 locs1 ls C ⟨hP2, hw.2⟩ hk hS1 hl
theorem a_alen {g : Gx} {M : Mt} {mc ms : Nat} {Z : Zt} {sh : List Sh} {σ : St} {k n pc : Nat} {lv : List (Nat × Value)} {st : List Value} {i kd N : Nat} {rs : List Nat} {ty : FieldType} (ht : (tysx g)[kd]? = some (gC g kd, ty)) (hi : sh[i]? = some (.inr (kd, N, rs))) (hd : decode M.2.1 pc = .ok (.arraylength, 1)) (h : Ax g M mc ms Z sh σ k n (pc + 1) lv (.int (Int32.ofNat N) :: st)) : Ax g M mc ms Z sh σ k n pc lv (.ref (gB g + i) :: st) := by
  intro p e s m args below meth c H locs ls C hw hk hS hl
  exact va_alen C.1 C.2.1 hw.2 hw.1 i kd (wsx_get hi) ht rfl hd (h p e s m args below meth c H locs ls C hw hk hS hl)
theorem a_ald4 {g : Gx} {M : Mt} {mc ms : Nat} {Z : Zt} {sh : List Sh} {σ : St} {k n pc : Nat} {lv : List (Nat × Value)} {st : List Value} {i N r : Nat} {rs : List Nat} {x : Int32} (hi : sh[i]? = some (.inr (4, N, rs))) (hx : vp_in x N) (hr : rs[x.toNatClampNeg]? = some (r + 1)) (hd : decode M.2.1 pc = .ok (.aaload, 1)) (h : Ax g M mc ms Z sh σ k n (pc + 1) lv (.ref (gB g + r) :: st)) : Ax g M mc ms Z sh σ k n pc lv (.int x :: .ref (gB g + i) :: st) := by
  intro p e s m args below meth c H locs ls C hw hk hS hl
  refine va_aldq C.1 C.2.1 hw.2 hw.1 i 4 (wsx_get hi) rfl hx hd ?_
  have ee : rfx g rs x.toNatClampNeg = some (gB g + r) := by simp [rfx, hr]
  show W _ _ _ _ _ _ _ _ _ _ _ _ _ _ _ (F0 m (pc + 1) ls (va_rf (rfx g rs x.toNatClampNeg) :: st))
  rw [ee]
  exact (h p e s m args below meth c H locs ls C hw hk hS hl)
theorem a_ald5 {g : Gx} {M : Mt} {mc ms : Nat} {Z : Zt} {sh : List Sh} {σ : St} {k n pc : Nat} {lv : List (Nat × Value)} {st : List Value} {i N r : Nat} {rs : List Nat} {x : Int32} (hi : sh[i]? = some (.inr (5, N, rs))) (hx : vp_in x N) (hr : rs[x.toNatClampNeg]? = some (r + 1)) (hd : decode M.2.1 pc = .ok (.aaload, 1)) (h : Ax g M mc ms Z sh σ k n (pc + 1) lv (.ref (gB g + r) :: st)) : Ax g M mc ms Z sh σ k n pc lv (.int x :: .ref (gB g + i) :: st) := by
  intro p e s m args below meth c H locs ls C hw hk hS hl
  refine va_aldq C.1 C.2.1 hw.2 hw.1 i 5 (wsx_get hi) rfl hx hd ?_
  have ee : rfx g rs x.toNatClampNeg = some (gB g + r) := by simp [rfx, hr]
  show W _ _ _ _ _ _ _ _ _ _ _ _ _ _ _ (F0 m (pc + 1) ls (va_rf (rfx g rs x.toNatClampNeg) :: st))
  rw [ee]
  exact (h p e s m args below meth c H locs ls C hw hk hS hl)
theorem a_iret {g : Gx} {M : Mt} {mc ms : Nat} {sh : List Sh} {σ : St} {k n pc : Nat} {lv : List (Nat × Value)} {v : Int32} {Q : Qt} {N : Nat} (hr : M.2.2.2.1 = some .int) (hN : sh.length = N) (hkm : k = mc) (hnm : n ≤ ms) (hd : decode M.2.1 pc = .ok (.ireturn, 1)) (h : Q (some (.int v)) sh σ) : Ax g M mc ms (Zx g N mc ms Q) sh σ k n pc lv [.int v] := by
  refine Ax.sized ?_
  intro p e s m args below meth c H locs ls C hw hk hS hl hz
  subst hkm
  refine W.widen (k := k) (n := ms) (Nat.le_refl _) hnm ?_
  exact W.iret C.1 C.2.1 (C.2.2.2.1.trans hr) (fun t ht hW => ⟨⟨_, sh, σ, rfl, h, WO.of C.2.2.2.2.2.2.2.1 hw hS hz ht hW, hN⟩, hS.F ht⟩) (fun q hq => hS.2.2 q hq) hd C.2.2.2.2.1
theorem a_zret {g : Gx} {M : Mt} {mc ms : Nat} {sh : List Sh} {σ : St} {k n pc : Nat} {lv : List (Nat × Value)} {v : Int32} {Q : Qt} {N : Nat} {ty : FieldType} (hr : M.2.2.2.1 = some ty) (hv : narrow ty (.int v) = .int v) (hN : sh.length = N) (hkm : k = mc) (hnm : n ≤ ms) (hd : decode M.2.1 pc = .ok (.ireturn, 1)) (h : Q (some (.int v)) sh σ) : Ax g M mc ms (Zx g N mc ms Q) sh σ k n pc lv [.int v] := by
  refine Ax.sized ?_
  intro p e s m args below meth c H locs ls C hw hk hS hl hz
  subst hkm
  refine W.widen (k := k) (n := ms) (Nat.le_refl _) hnm ?_
  exact W.zret C.1 C.2.1 (C.2.2.2.1.trans hr) hv (fun t ht hW => ⟨⟨_, sh, σ, rfl, h, WO.of C.2.2.2.2.2.2.2.1 hw hS hz ht hW, hN⟩, hS.F ht⟩) (fun q hq => hS.2.2 q hq) hd C.2.2.2.2.1
theorem a_lret {g : Gx} {M : Mt} {mc ms : Nat} {sh : List Sh} {σ : St} {k n pc : Nat} {lv : List (Nat × Value)} {v : Int64} {Q : Qt} {N : Nat} (hr : M.2.2.2.1 = some .long) (hN : sh.length = N) (hkm : k = mc) (hnm : n ≤ ms) (hd : decode M.2.1 pc = .ok (.lreturn, 1)) (h : Q (some (.long v)) sh σ) : Ax g M mc ms (Zx g N mc ms Q) sh σ k n pc lv [.long v] := by
  refine Ax.sized ?_
  intro p e s m args below meth c H locs ls C hw hk hS hl hz
  subst hkm
  refine W.widen (k := k) (n := ms) (Nat.le_refl _) hnm ?_
  exact W.lret C.1 C.2.1 (C.2.2.2.1.trans hr) (fun t ht hW => ⟨⟨_, sh, σ, rfl, h, WO.of C.2.2.2.2.2.2.2.1 hw hS hz ht hW, hN⟩, hS.F ht⟩) (fun q hq => hS.2.2 q hq) hd C.2.2.2.2.1
theorem a_aret {g : Gx} {M : Mt} {mc ms : Nat} {sh : List Sh} {σ : St} {k n pc : Nat} {lv : List (Nat × Value)} {v : Nat} {Q : Qt} {N : Nat} {ty : FieldType} (hr : M.2.2.2.1 = some ty) (hrt : (∃ n, ty = .object n) ∨ ∃ t, ty = .array t) (hN : sh.length = N) (hkm : k = mc) (hnm : n ≤ ms) (hd : decode M.2.1 pc = .ok (.areturn, 1)) (h : Q (some (.ref v)) sh σ) : Ax g M mc ms (Zx g N mc ms Q) sh σ k n pc lv [.ref v] := by
  refine Ax.sized ?_
  intro p e s m args below meth c H locs ls C hw hk hS hl hz
  subst hkm
  refine W.widen (k := k) (n := ms) (Nat.le_refl _) hnm ?_
  exact W.aret C.1 C.2.1 (C.2.2.2.1.trans hr) hrt (Or.inr ⟨v, rfl⟩) (fun t ht hW => ⟨⟨_, sh, σ, rfl, h, WO.of C.2.2.2.2.2.2.2.1 hw hS hz ht hW, hN⟩, hS.F ht⟩) (fun q hq => hS.2.2 q hq) hd C.2.2.2.2.1
theorem a_vret {g : Gx} {M : Mt} {mc ms : Nat} {sh : List Sh} {σ : St} {k n pc : Nat} {lv : List (Nat × Value)} {Q : Qt} {N : Nat} (hr : M.2.2.2.1 = none) (hN : sh.length = N) (hkm : k = mc) (hnm : n ≤ ms) (hd : decode M.2.1 pc = .ok (.return_, 1)) (h : Q (none) sh σ) : Ax g M mc ms (Zx g N mc ms Q) sh σ k n pc lv [] := by
  refine Ax.sized ?_
  intro p e s m args below meth c H locs ls C hw hk hS hl hz
  subst hkm
  refine W.widen (k := k) (n := ms) (Nat.le_refl _) hnm ?_
  exact W.vret C.1 C.2.1 (C.2.2.2.1.trans hr) (fun t ht hW => ⟨⟨_, sh, σ, rfl, h, WO.of C.2.2.2.2.2.2.2.1 hw hS hz ht hW, hN⟩, hS.F ht⟩) (fun q hq => hS.2.2 q hq) hd C.2.2.2.2.1
def LkV (own : String) (idx : Nat) (M' : Mt) (a : Nat) : Prop := Cond.methodLink own idx M'.1 ∈ TB ∧ Cond.instanceMethod M'.1 ∈ TB ∧ Cond.selects M'.1.cls M'.1 M'.1 ∈ TB ∧ Cond.initialized M'.1.cls ∈ TB ∧ Cond.code M'.1 M'.2.1 M'.2.2.1 M'.2.2.2.1 ∈ TB ∧ M'.1.cls ≠ "java/lang/invoke/MethodHandle" ∧ M'.1.cls ≠ "java/lang/invoke/VarHandle" ∧ (parseMethodDescriptor M'.1.desc).map (fun d => d.parameters.length) = some a
def LkS (own : String) (idx : Nat) (M' : Mt) (a : Nat) : Prop := Cond.methodLink own idx M'.1 ∈ TB ∧ Cond.static M'.1 ∈ TB ∧ Cond.initialized M'.1.cls ∈ TB ∧ Cond.code M'.1 M'.2.1 M'.2.2.1 M'.2.2.2.1 ∈ TB ∧ M'.1.cls ≠ "java/lang/invoke/MethodHandle" ∧ M'.1.cls ≠ "java/lang/invoke/VarHandle" ∧ (parseMethodDescriptor M'.1.desc).map (fun d => d.parameters.length) = some a
theorem tb_in2 {M' : Mt} {Ts : List Cond} (hc : Cond.code M'.1 M'.2.1 M'.2.2.1 M'.2.2.2.1 ∈ TB) : GoodIn TB (Cond.code M'.1 M'.2.1 M'.2.2.1 M'.2.2.2.1 :: TB) := by
  intro w hw
  rcases List.mem_cons.mp hw with rfl | h
  · exact ⟨hc, tb_good _ hc⟩
  · exact ⟨h, tb_good _ h⟩
/-- behind a call -/
theorem a_run {g : Gx} {M : Mt} {mc ms : Nat} {Z : Zt} {sh : List Sh} {σ : St} {k n pc : Nat} {lv : List (Nat × Value)} {st st0 : List Value} {mc' ms' N : Nat} {Q' : Qt} {as : Array Value}
    (hN : N = sh.length + mc')
    (hr : ∀ (p : Program) (e : Env) (s : State) (m : MethodId) (args : Array Value) (below : List Frame) (meth : Method) (c : Code) (H : Heap) (locs : List Loc) (ls : Array Slot), Cz g M p s m args meth c → WH g sh σ s H → s.heap.size + k = gB g + sh.length → va_S (Ao g) s.heap H locs → lv_has ls M.2.2.1 lv → H.size = gB g + sh.length → va_Run p (gL g) e (rmx M mc ms) s m args below meth c H locs k n mc' ms' (F0 m pc ls st0) st (Qx g N Q' as) (Ao g))
    (h : ∀ (r : Option Value) (sh' : List Sh) (σ' : St), Q' r sh' σ' → sh'.length = N → Ax g M mc ms Z sh' σ' (k + mc') (n + ms') (pc + 3) lv (r.toList ++ st)) : Ax g M mc ms Z sh σ k n pc lv st0 := by
  refine Ax.sized ?_
  intro p e s m args below meth c H locs ls C hw hk hS hl hz T hT X
  obtain ⟨v, st₀, t, T', L, h0, X', hL, e1, e2, ⟨⟨r, sh', σ', hv, hq, hWO, hN'⟩, hzz, hkp⟩, stp⟩ := hr p e s m args below meth c H locs ls C hw hk hS hl hz T hT X
  cases hv
  rw [h0] at hzz hkp
  have hvm : s.vm.Alike t.vm := by rw [← e2]; exact X'.warmed.alike
  have hS' : va_S (Ao g) s.heap T'.heap (locs ++ L) := ⟨Nat.le_trans hS.1 (by rw [e1]; exact hzz), fun q h1 h2 => by rw [e1, hkp q (Nat.lt_of_lt_of_le h1 hS.1) h2]; exact hS.2.1 q h1 h2, fun q hq => by
      rcases List.mem_append.mp hq with h | h
      · exact hS.2.2 q h
      · exact hL q h⟩
  obtain ⟨t2, a1, b1⟩ := h v sh' σ' hq hN' p e s m args below meth c T'.heap (locs ++ L) ls C ⟨by rw [e1]; exact hWO.1, va_K.moved hvm.symm hWO.2.1⟩ (by omega) hS' hl T' rfl X'
  exact ⟨t2, stp t2 a1, b1⟩
theorem a_callV {g : Gx} {M M' : Mt} {mc ms mc' ms' : Nat} {Z : Zt} {sh : List Sh} {σ : St} {k n pc idx i ci : Nat} {lv : List (Nat × Value)} {st st0 As : List Value} {fs : List (Nat × Nat)} {Q' : Qt} {a : Nat}
    (L : LkV M.1.cls idx M' a) (ha : As.length = a) (hi : sh[i]? = some (.inl (ci, fs))) (hc : (vwCl[ci]?).map (fun q => q.1) = some M'.1.cls) (hfr : M'.2.2.2.2.1 + 1 ≤ M.2.2.2.2.1) (hlo : 8 + (M'.2.2.1 + 11) + M'.2.2.2.2.2 ≤ M.2.2.2.2.2) (hst0 : st0 = As.reverse ++ .ref (gB g + i) :: st) (hst : (st.map fun v => v.category).sum ≤ 8) (hmc : k + mc' ≤ mc) (hms : n + ms' ≤ ms)
    (hd : decode M.2.1 pc = .ok (.invokevirtual idx, 3)) (hC : Cx g M' (.ref (gB g + i) :: As) sh σ mc' ms' Q')
    (h : ∀ (r : Option Value) (sh' : List Sh) (σ' : St), Q' r sh' σ' → sh'.length = sh.length + mc' → Ax g M mc ms Z sh' σ' (k + mc') (n + ms') (pc + 3) lv (r.toList ++ st)) : Ax g M mc ms Z sh σ k n pc lv st0 := by
  obtain ⟨l1, l2, l3, l4, l5, l6⟩ := L
  refine a_run (as := (Value.ref (gB g + i) :: As).toArray) rfl (fun p e s m args below meth c H locs ls C hw hk hS hl hz => ?_) h
  have hts := C.2.2.2.2.2.2.1
  have hcl : ∃ q, vwCl[ci]? = some q ∧ q.1 = M'.1.cls := by
    cases hq : vwCl[ci]? with
    | none => rw [hq] at hc; cases hc
    | some q => rw [hq] at hc; exact ⟨q, rfl, Option.some.inj hc⟩
  obtain ⟨q, hq1, hq2⟩ := hcl
  have hrv := va_recv hw.2 hw.1 hq1 (wsx_get (g := g) (σ := σ) hi)
  rw [hq2] at hrv
  refine va_runV (Ts := TB) (own := M.1.cls) (C := M'.1.cls) (nL := M.2.2.1) (cc := M.2.1) (As := As) (b := gB g + i) (n := a) (bytes := M'.2.1) (maxL := M'.2.2.1) (ret := M'.2.2.2.1) ⟨C.1, C.2.1, C.2.2.1, C.2.2.2.2.2.1, hts⟩ hC ⟨callB_of a hts (tb_in2 (Ts := TB) l5) rfl rfl rfl (hts _ l4) (hts _ l1) l6 ⟨hfr, hlo⟩, hts _ l2, hts _ l3⟩ ⟨WO.blind, hrv, fun U hU hW => ⟨rfl, WO.of C.2.2.2.2.2.2.2.1 hw hS hz hU hW⟩⟩ rfl ha hl.1 hst0 (lv_room hst) hd ⟨hmc, hms⟩
theorem a_callS {g : Gx} {M M' : Mt} {mc ms mc' ms' : Nat} {Z : Zt} {sh : List Sh} {σ : St} {k n pc idx : Nat} {lv : List (Nat × Value)} {st st0 As : List Value} {Q' : Qt} {a : Nat}
    (L : LkS M.1.cls idx M' a) (ha : As.length = a) (hfr : M'.2.2.2.2.1 + 1 ≤ M.2.2.2.2.1) (hlo : 8 + (M'.2.2.1 + 11) + M'.2.2.2.2.2 ≤ M.2.2.2.2.2) (hst0 : st0 = As.reverse ++ st) (hst : (st.map fun v => v.category).sum ≤ 8) (hmc : k + mc' ≤ mc) (hms : n + ms' ≤ ms)
    (hd : decode M.2.1 pc = .ok (.invokestatic idx, 3)) (hC : Cx g M' As sh σ mc' ms' Q')
    (h : ∀ (r : Option Value) (sh' : List Sh) (σ' : St), Q' r sh' σ' → sh'.length = sh.length + mc' → Ax g M mc ms Z sh' σ' (k + mc') (n + ms') (pc + 3) lv (r.toList ++ st)) : Ax g M mc ms Z sh σ k n pc lv st0 := by
  obtain ⟨l1, l2, l4, l5, l6⟩ := L
  refine a_run (as := As.toArray) rfl (fun p e s m args below meth c H locs ls C hw hk hS hl hz => ?_) h
  have hts := C.2.2.2.2.2.2.1
  refine va_runS (Ts := TB) (own := M.1.cls) (nL := M.2.2.1) (cc := M.2.1) (As := As) (n := a) (bytes := M'.2.1) (maxL := M'.2.2.1) (ret := M'.2.2.2.1) ⟨C.1, C.2.1, C.2.2.1, C.2.2.2.2.2.1, hts⟩ hC ⟨callB_of a hts (tb_in2 (Ts := TB) l5) rfl rfl rfl (hts _ l4) (hts _ l1) l6 ⟨hfr, hlo⟩, hts _ l2⟩ ⟨WO.blind, fun U hU hW => ⟨rfl, WO.of C.2.2.2.2.2.2.2.1 hw hS hz hU hW⟩⟩ rfl ha hl.1 hst0 (lv_room hst) hd ⟨hmc, hms⟩
theorem Cx.mono {g : Gx} {M : Mt} {vs : List Value} {sh : List Sh} {σ : St} {mc ms : Nat} {Q Q' : Qt} (h : Cx g M vs sh σ mc ms Q) (hq : ∀ r sh' σ', Q r sh' σ' → Q' r sh' σ') : Cx g M vs sh σ mc ms Q' := by
  intro p e ha hc hk s m args below hf happ hP hK
  obtain ⟨kk, oc, h1, h2, h3, ⟨⟨⟨r, sh', σ', e1, e2, e3⟩, e4⟩, e5⟩⟩ := h p e ha hc hk s m args below hf happ hP hK
  exact ⟨kk, oc, h1, h2, h3, ⟨⟨⟨r, sh', σ', e1, hq _ _ _ e2, e3⟩, e4⟩, e5⟩⟩
