theorem a_nms {g : Gx} {M : Mt} {mc ms : Nat} {Z : Zt} {sh : List Sh} {σ : St} {k n pc : Nat} {lv : List (Nat × Value)} {st : List Value} (h : ∀ y, y = σ → Ax g M mc ms Z sh y k n pc lv st) : Ax g M mc ms Z sh σ k n pc lv st := h σ rfl
theorem a_nmi {g : Gx} {M : Mt} {mc ms : Nat} {Z : Zt} {sh : List Sh} {σ : St} {k n pc : Nat} {lv : List (Nat × Value)} {st : List Value} {x : Int32} (h : ∀ y, y = x → Ax g M mc ms Z sh σ k n pc lv (.int y :: st)) : Ax g M mc ms Z sh σ k n pc lv (.int x :: st) := h x rfl
theorem a_nmj {g : Gx} {M : Mt} {mc ms : Nat} {Z : Zt} {sh : List Sh} {σ : St} {k n pc : Nat} {lv : List (Nat × Value)} {st : List Value} {x : Int64} (h : ∀ y, y = x → Ax g M mc ms Z sh σ k n pc lv (.long y :: st)) : Ax g M mc ms Z sh σ k n pc lv (.long x :: st) := h x rfl
theorem a_gstep {g : Gx} {M : Mt} {mc ms : Nat} {Z : Zt} {sh : List Sh} {σ : St} {k n pc : Nat} {lv : List (Nat × Value)} {st : List Value} {idx : Nat} (hL : Cond.fieldLink M.1.cls idx "BallBox$Roller" "STEPS" "[I" ∈ TB) (hd : decode M.2.1 pc = .ok (.getstatic idx, 3)) (h : Ax g M mc ms Z sh σ k n (pc + 3) lv (.ref (gS g) :: st)) : Ax g M mc ms Z sh σ k n pc lv st := by
  intro p e s m args below meth c H locs ls C hw hk hS hl
  exact va_gets C.1 C.2.1 C.2.2.2.2.2.2.2.1.2.2.2.2.1 hS C.2.2.2.2.2.1 (C.2.2.2.2.2.2.1 _ hL) (fun _ q => q) hd (h p e s m args below meth c H locs ls C hw hk hS hl)
def stepsL : List Int32 := [-8, 1, 8, -1]
theorem a_stld {g : Gx} {M : Mt} {mc ms : Nat} {Z : Zt} {sh : List Sh} {σ : St} {k n pc : Nat} {lv : List (Nat × Value)} {st : List Value} {x : Int32} (hx : vp_in x 4) (hd : decode M.2.1 pc = .ok (.iaload, 1)) (h : Ax g M mc ms Z sh σ k n (pc + 1) lv (.int (stepsL.getD x.toNatClampNeg 0) :: st)) : Ax g M mc ms Z sh σ k n pc lv (.int x :: .ref (gS g) :: st) := by
  intro p e s m args below meth c H locs ls C hw hk hS hl
  obtain ⟨cell, h1, h2, h3, h4, h5, h6, h7⟩ := C.2.2.2.2.2.2.2.1.2.2.2.2.2.1.kept hS.2.1
  have hlt : x.toNatClampNeg < 4 := Nat.not_le.mp fun q => hx (Or.inr q)
  exact W.iald (v := .int (stepsL.getD x.toNatClampNeg 0)) C.1 C.2.1 h1 h2 h3 (fun q => q.elim (fun q => hx (Or.inl q)) (fun q => absurd (Nat.lt_of_lt_of_le hlt h4) (Nat.not_lt.mpr q))) (h6 _ hlt) rfl rfl hd (h p e s m args below meth c H locs ls C hw hk hS hl)
theorem a_stlen {g : Gx} {M : Mt} {mc ms : Nat} {Z : Zt} {sh : List Sh} {σ : St} {k n pc : Nat} {lv : List (Nat × Value)} {st : List Value} (hd : decode M.2.1 pc = .ok (.arraylength, 1)) (h : Ax g M mc ms Z sh σ k n (pc + 1) lv (.int 4 :: st)) : Ax g M mc ms Z sh σ k n pc lv (.ref (gS g) :: st) := by
  intro p e s m args below meth c H locs ls C hw hk hS hl
  obtain ⟨cell, h1, h2, h3, h4, h5, h6, h7⟩ := C.2.2.2.2.2.2.2.1.2.2.2.2.2.1.kept hS.2.1
  exact W.alen (n := 4) C.1 C.2.1 h1 h2 h5 rfl rfl hd (h p e s m args below meth c H locs ls C hw hk hS hl)
theorem a_mmax {g : Gx} {M : Mt} {mc ms : Nat} {Z : Zt} {sh : List Sh} {σ : St} {k n pc : Nat} {lv : List (Nat × Value)} {st : List Value} {idx : Nat} {x y : Int32} (hL : Cond.methodLink M.1.cls idx Lib.Math.max.name ∈ TB) (hfr : 1 ≤ M.2.2.2.2.1) (hlo : (st.map fun v => v.category).sum + 13 ≤ M.2.2.2.2.2) (hmc : k ≤ mc) (hms : n ≤ ms) (hd : decode M.2.1 pc = .ok (.invokestatic idx, 3)) (h : Ax g M mc ms Z sh σ k n (pc + 3) lv (.int (if x < y then y else x) :: st)) : Ax g M mc ms Z sh σ k n pc lv (.int y :: .int x :: st) := by
  intro p e s m args below meth c H locs ls C hw hk hS hl
  exact va_mmax C.1 C.2.1 (C.2.2.1.trans hl.1.symm) C.2.2.2.2.2.1 (C.2.2.2.2.2.2.1 _ hL) (C.2.2.2.2.2.2.1 _ tw711) (C.2.2.2.2.2.2.1 _ tw20) (C.2.2.2.2.2.2.1 _ tw712) hfr hlo hmc hms hd (h p e s m args below meth c H locs ls C hw hk hS hl)
theorem a_mabs {g : Gx} {M : Mt} {mc ms : Nat} {Z : Zt} {sh : List Sh} {σ : St} {k n pc : Nat} {lv : List (Nat × Value)} {st : List Value} {idx : Nat} {x : Int32} (hL : Cond.methodLink M.1.cls idx Lib.Math.abs.name ∈ TB) (hfr : 1 ≤ M.2.2.2.2.1) (hlo : (st.map fun v => v.category).sum + 13 ≤ M.2.2.2.2.2) (hmc : k ≤ mc) (hms : n ≤ ms) (hd : decode M.2.1 pc = .ok (.invokestatic idx, 3)) (h : Ax g M mc ms Z sh σ k n (pc + 3) lv (.int (if 0 ≤ x then x else 0 - x) :: st)) : Ax g M mc ms Z sh σ k n pc lv (.int x :: st) := by
  intro p e s m args below meth c H locs ls C hw hk hS hl
  exact va_mabs C.1 C.2.1 (C.2.2.1.trans hl.1.symm) C.2.2.2.2.2.1 (C.2.2.2.2.2.2.1 _ hL) (C.2.2.2.2.2.2.1 _ tw850) (C.2.2.2.2.2.2.1 _ tw20) (C.2.2.2.2.2.2.1 _ tw851) hfr hlo hmc hms hd (h p e s m args below meth c H locs ls C hw hk hS hl)
theorem a_copyi {g : Gx} {M : Mt} {mc ms : Nat} {Z : Zt} {sh : List Sh} {σ : St} {k n pc : Nat} {lv : List (Nat × Value)} {st : List Value} {idx i j N K : Nat} {rs rs2 : List Nat} {sp dp z : Int32} (hL : Cond.methodLink M.1.cls idx arraycopyName ∈ TB) (hi : sh[i]? = some (.inr (0, N, rs))) (hj : sh[j]? = some (.inr (0, K, rs2))) (h1 : ¬ sp < 0) (h2 : ¬ dp < 0) (h3 : ¬ z < 0) (h4 : sp.toNatClampNeg + z.toNatClampNeg ≤ N) (h5 : dp.toNatClampNeg + z.toNatClampNeg ≤ K) (hfr : 1 ≤ M.2.2.2.2.1) (hlo : (st.map fun v => v.category).sum + (nativeFrameWords "java/lang/System" "arraycopy" 5 + 11) ≤ M.2.2.2.2.2) (hd : decode M.2.1 pc = .ok (.invokestatic idx, 3))
    (h : Ax g M mc ms Z sh (rai σ j (va_cpy (ai σ i) (ai σ j) sp.toNatClampNeg dp.toNatClampNeg z.toNatClampNeg)) k n (pc + 3) lv st) : Ax g M mc ms Z sh σ k n pc lv (.int z :: .int dp :: .ref (gB g + j) :: .int sp :: .ref (gB g + i) :: st) := by
  intro p e s m args below meth c H locs ls C hw hk hS hl
  refine va_copyi C.1 C.2.1 (C.2.2.1.trans hl.1.symm) C.2.2.2.2.2.1 (C.2.2.2.2.2.2.1 _ hL) (C.2.2.2.2.2.2.1 _ tw661) (C.2.2.2.2.2.2.1 _ tw660) (C.2.2.2.2.2.2.1 _ tw19) hw.2 hw.1 wsx_D hS i j 0 0 (ty := .int) (wsx_get hi) (wsx_get hj) rfl rfl rfl h1 h2 h3 h4 h5 (fun _ _ => rfl) hfr hlo hd (fun H1 locs1 hP1 _ hS1 => ?_)
  have hP2 : va_P (gD g) vwCl (wsx g sh (rai σ j (va_cpy (ai σ i) (ai σ j) sp.toNatClampNeg dp.toNatClampNeg z.toNatClampNeg))) H1 := (wsx_rai hj (by decide) (by decide)) ▸ hP1
  exact h p e s m args below meth c H1 locs1 ls C ⟨hP2, hw.2⟩ hk hS1 hl
abbrev qI (Q : Int32 → St → Prop) : Qt := fun r sh σ => ∃ v : Int32, r = some (.int v) ∧ sh = SH ∧ Q v σ
abbrev qJ (Q : Int64 → St → Prop) : Qt := fun r sh σ => ∃ v : Int64, r = some (.long v) ∧ sh = SH ∧ Q v σ
abbrev qA (Q : Nat → St → Prop) : Qt := fun r sh σ => ∃ v : Nat, r = some (.ref v) ∧ sh = SH ∧ Q v σ
abbrev qV (Q : St → Prop) : Qt := fun r sh σ => r = none ∧ sh = SH ∧ Q σ
def ZI (g : Gx) (Q : Int32 → St → Prop) : Zt := Zx g 199 0 0 (qI Q)
def ZJ (g : Gx) (Q : Int64 → St → Prop) : Zt := Zx g 199 0 0 (qJ Q)
def ZA (g : Gx) (Q : Nat → St → Prop) : Zt := Zx g 199 0 0 (qA Q)
def ZV (g : Gx) (Q : St → Prop) : Zt := Zx g 199 0 0 (qV Q)
def KI (g : Gx) (M : Mt) (vs : List Value) (σ : St) (Q : Int32 → St → Prop) : Prop := Cx g M vs SH σ 0 0 (qI Q)
def KJ (g : Gx) (M : Mt) (vs : List Value) (σ : St) (Q : Int64 → St → Prop) : Prop := Cx g M vs SH σ 0 0 (qJ Q)
def KA (g : Gx) (M : Mt) (vs : List Value) (σ : St) (Q : Nat → St → Prop) : Prop := Cx g M vs SH σ 0 0 (qA Q)
def KV (g : Gx) (M : Mt) (vs : List Value) (σ : St) (Q : St → Prop) : Prop := Cx g M vs SH σ 0 0 (qV Q)
theorem KI.mono {g : Gx} {M : Mt} {vs : List Value} {σ : St} {Q Q' : Int32 → St → Prop} (h : KI g M vs σ Q) (hq : ∀ v σ', Q v σ' → Q' v σ') : KI g M vs σ Q' := Cx.mono h (fun _ _ _ ⟨v, h1, h2, h3⟩ => ⟨v, h1, h2, hq _ _ h3⟩)
theorem KJ.mono {g : Gx} {M : Mt} {vs : List Value} {σ : St} {Q Q' : Int64 → St → Prop} (h : KJ g M vs σ Q) (hq : ∀ v σ', Q v σ' → Q' v σ') : KJ g M vs σ Q' := Cx.mono h (fun _ _ _ ⟨v, h1, h2, h3⟩ => ⟨v, h1, h2, hq _ _ h3⟩)
theorem KA.mono {g : Gx} {M : Mt} {vs : List Value} {σ : St} {Q Q' : Nat → St → Prop} (h : KA g M vs σ Q) (hq : ∀ v σ', Q v σ' → Q' v σ') : KA g M vs σ Q' := Cx.mono h (fun _ _ _ ⟨v, h1, h2, h3⟩ => ⟨v, h1, h2, hq _ _ h3⟩)
theorem KV.mono {g : Gx} {M : Mt} {vs : List Value} {σ : St} {Q Q' : St → Prop} (h : KV g M vs σ Q) (hq : ∀ σ', Q σ' → Q' σ') : KV g M vs σ Q' := Cx.mono h (fun _ _ _ ⟨h1, h2, h3⟩ => ⟨h1, h2, hq _ h3⟩)
theorem KI.of {g : Gx} {M : Mt} {vs : List Value} {σ : St} {Q : Int32 → St → Prop} (hy : plainName M.1.cls = true) (hv : (lg_sl vs).length ≤ M.2.2.1) (h : Ax g M 0 0 (ZI g Q) SH σ 0 0 0 (lv_args 0 vs) []) : KI g M vs σ Q := Cx.of hy hv (by rw [show SH.length + 0 = 199 from sh_len]; exact h)
theorem KJ.of {g : Gx} {M : Mt} {vs : List Value} {σ : St} {Q : Int64 → St → Prop} (hy : plainName M.1.cls = true) (hv : (lg_sl vs).length ≤ M.2.2.1) (h : Ax g M 0 0 (ZJ g Q) SH σ 0 0 0 (lv_args 0 vs) []) : KJ g M vs σ Q := Cx.of hy hv (by rw [show SH.length + 0 = 199 from sh_len]; exact h)
theorem KA.of {g : Gx} {M : Mt} {vs : List Value} {σ : St} {Q : Nat → St → Prop} (hy : plainName M.1.cls = true) (hv : (lg_sl vs).length ≤ M.2.2.1) (h : Ax g M 0 0 (ZA g Q) SH σ 0 0 0 (lv_args 0 vs) []) : KA g M vs σ Q := Cx.of hy hv (by rw [show SH.length + 0 = 199 from sh_len]; exact h)
theorem KV.of {g : Gx} {M : Mt} {vs : List Value} {σ : St} {Q : St → Prop} (hy : plainName M.1.cls = true) (hv : (lg_sl vs).length ≤ M.2.2.1) (h : Ax g M 0 0 (ZV g Q) SH σ 0 0 0 (lv_args 0 vs) []) : KV g M vs σ Q := Cx.of hy hv (by rw [show SH.length + 0 = 199 from sh_len]; exact h)
theorem b_iret {g : Gx} {M : Mt} {σ : St} {pc : Nat} {lv : List (Nat × Value)} {v : Int32} {Q : Int32 → St → Prop} (hr : M.2.2.2.1 = some .int) (hd : decode M.2.1 pc = .ok (.ireturn, 1)) (h : Q v σ) : Ax g M 0 0 (ZI g Q) SH σ 0 0 pc lv [.int v] := a_iret hr sh_len rfl (Nat.le_refl 0) hd ⟨v, rfl, rfl, h⟩
theorem b_zret {g : Gx} {M : Mt} {σ : St} {pc : Nat} {lv : List (Nat × Value)} {v : Int32} {Q : Int32 → St → Prop} (hr : M.2.2.2.1 = some .boolean) (hv : v = 0 ∨ v = 1) (hd : decode M.2.1 pc = .ok (.ireturn, 1)) (h : Q v σ) : Ax g M 0 0 (ZI g Q) SH σ 0 0 pc lv [.int v] := a_zret hr (by rcases hv with rfl | rfl <;> rfl) sh_len rfl (Nat.le_refl 0) hd ⟨v, rfl, rfl, h⟩
theorem b_lret {g : Gx} {M : Mt} {σ : St} {pc : Nat} {lv : List (Nat × Value)} {v : Int64} {Q : Int64 → St → Prop} (hr : M.2.2.2.1 = some .long) (hd : decode M.2.1 pc = .ok (.lreturn, 1)) (h : Q v σ) : Ax g M 0 0 (ZJ g Q) SH σ 0 0 pc lv [.long v] := a_lret hr sh_len rfl (Nat.le_refl 0) hd ⟨v, rfl, rfl, h⟩
theorem b_aret {g : Gx} {M : Mt} {σ : St} {pc : Nat} {lv : List (Nat × Value)} {v : Nat} {Q : Nat → St → Prop} (hr : M.2.2.2.1 = some (.object "java/lang/String")) (hd : decode M.2.1 pc = .ok (.areturn, 1)) (h : Q v σ) : Ax g M 0 0 (ZA g Q) SH σ 0 0 pc lv [.ref v] := a_aret hr (Or.inl ⟨_, rfl⟩) sh_len rfl (Nat.le_refl 0) hd ⟨v, rfl, rfl, h⟩
theorem b_vret {g : Gx} {M : Mt} {σ : St} {pc : Nat} {lv : List (Nat × Value)} {Q : St → Prop} (hr : M.2.2.2.1 = none) (hd : decode M.2.1 pc = .ok (.return_, 1)) (h : Q σ) : Ax g M 0 0 (ZV g Q) SH σ 0 0 pc lv [] := a_vret hr sh_len rfl (Nat.le_refl 0) hd ⟨rfl, rfl, h⟩
/-- a constant String -/
theorem a_ldcS {g : Gx} {M : Mt} {mc ms : Nat} {Z : Zt} {sh : List Sh} {σ : St} {k n pc : Nat} {lv : List (Nat × Value)} {st : List Value} {own tx : String} {idx w : Nat} (hq : (own, idx, tx, w) ∈ strs) (ho : own = M.1.cls) (hd : decode M.2.1 pc = .ok (.ldc idx, 2)) (h : Ax g M mc ms Z sh σ k n (pc + 2) lv (.ref (gK g w) :: st)) : Ax g M mc ms Z sh σ k n pc lv st := by
  intro p e s m args below meth c H locs ls C hw hk hS hl
  subst ho
  exact va_ldcS C.1 C.2.1 C.2.2.2.2.2.1 (C.2.2.2.2.2.2.2.1.1 _ hq) hd (h p e s m args below meth c H locs ls C hw hk hS hl)
theorem sx_0 : SH[0]? = some (.inl (11, [(2, 1), (2, 3), (2, 9), (2, 17), (2, 52), (2, 56), (2, 69), (2, 78), (2, 82), (2, 83), (2, 88), (2, 89), (2, 90), (0, 0), (0, 0)])) := rfl
theorem sx_1 : SH[1]? = some (.inl (9, [(2, 2), (0, 0), (0, 0), (0, 0)])) := rfl
theorem sx_2 : SH[2]? = some (.inr (0, 400, [])) := rfl
theorem sx_3 : SH[3]? = some (.inl (0, [(2, 4)])) := rfl
theorem sx_4 : SH[4]? = some (.inl (8, [(0, 0), (0, 0), (0, 0), (0, 0), (0, 0), (0, 0), (0, 0), (0, 0), (0, 0), (0, 0), (0, 0), (2, 5), (2, 6), (2, 7), (2, 8)])) := rfl
theorem sx_5 : SH[5]? = some (.inr (0, 64, [])) := rfl
theorem sx_6 : SH[6]? = some (.inr (0, 3, [])) := rfl
theorem sx_7 : SH[7]? = some (.inr (0, 8, [])) := rfl
theorem sx_8 : SH[8]? = some (.inr (0, 8, [])) := rfl
theorem sx_9 : SH[9]? = some (.inl (6, [(2, 10), (2, 11), (0, 0), (0, 0), (0, 0), (0, 0), (2, 12)])) := rfl
theorem sx_10 : SH[10]? = some (.inr (0, 401, [])) := rfl
theorem sx_11 : SH[11]? = some (.inr (0, 401, [])) := rfl
theorem sx_12 : SH[12]? = some (.inl (5, [(2, 13), (2, 14), (2, 15), (2, 16), (0, 0), (0, 0), (0, 0)])) := rfl
theorem sx_13 : SH[13]? = some (.inr (0, 400, [])) := rfl
theorem sx_14 : SH[14]? = some (.inr (0, 12, [])) := rfl
theorem sx_15 : SH[15]? = some (.inr (0, 12, [])) := rfl
theorem sx_16 : SH[16]? = some (.inr (1, 64, [])) := rfl
theorem sx_17 : SH[17]? = some (.inl (4, [(2, 18), (2, 19), (2, 20), (2, 21), (0, 0), (0, 0), (0, 0), (0, 0)])) := rfl
theorem sx_18 : SH[18]? = some (.inr (4, 6, [23, 28, 33, 38, 43, 48])) := rfl
theorem sx_19 : SH[19]? = some (.inr (1, 8, [])) := rfl
theorem sx_20 : SH[20]? = some (.inr (1, 3, [])) := rfl
theorem sx_21 : SH[21]? = some (.inr (0, 3, [])) := rfl
theorem sx_22 : SH[22]? = some (.inl (5, [(2, 23), (2, 24), (2, 25), (2, 26), (0, 0), (0, 0), (0, 0)])) := rfl
theorem sx_23 : SH[23]? = some (.inr (0, 400, [])) := rfl
theorem sx_24 : SH[24]? = some (.inr (0, 12, [])) := rfl
theorem sx_25 : SH[25]? = some (.inr (0, 12, [])) := rfl
theorem sx_26 : SH[26]? = some (.inr (1, 64, [])) := rfl
theorem sx_27 : SH[27]? = some (.inl (5, [(2, 28), (2, 29), (2, 30), (2, 31), (0, 0), (0, 0), (0, 0)])) := rfl
theorem sx_28 : SH[28]? = some (.inr (0, 400, [])) := rfl
theorem sx_29 : SH[29]? = some (.inr (0, 12, [])) := rfl
theorem sx_30 : SH[30]? = some (.inr (0, 12, [])) := rfl
theorem sx_31 : SH[31]? = some (.inr (1, 64, [])) := rfl
theorem sx_32 : SH[32]? = some (.inl (5, [(2, 33), (2, 34), (2, 35), (2, 36), (0, 0), (0, 0), (0, 0)])) := rfl
theorem sx_33 : SH[33]? = some (.inr (0, 400, [])) := rfl
theorem sx_34 : SH[34]? = some (.inr (0, 12, [])) := rfl
theorem sx_35 : SH[35]? = some (.inr (0, 12, [])) := rfl
theorem sx_36 : SH[36]? = some (.inr (1, 64, [])) := rfl
theorem sx_37 : SH[37]? = some (.inl (5, [(2, 38), (2, 39), (2, 40), (2, 41), (0, 0), (0, 0), (0, 0)])) := rfl
theorem sx_38 : SH[38]? = some (.inr (0, 400, [])) := rfl
theorem sx_39 : SH[39]? = some (.inr (0, 12, [])) := rfl
theorem sx_40 : SH[40]? = some (.inr (0, 12, [])) := rfl
theorem sx_41 : SH[41]? = some (.inr (1, 64, [])) := rfl
theorem sx_42 : SH[42]? = some (.inl (5, [(2, 43), (2, 44), (2, 45), (2, 46), (0, 0), (0, 0), (0, 0)])) := rfl
theorem sx_43 : SH[43]? = some (.inr (0, 400, [])) := rfl
theorem sx_44 : SH[44]? = some (.inr (0, 12, [])) := rfl
theorem sx_45 : SH[45]? = some (.inr (0, 12, [])) := rfl
theorem sx_46 : SH[46]? = some (.inr (1, 64, [])) := rfl
theorem sx_47 : SH[47]? = some (.inl (5, [(2, 48), (2, 49), (2, 50), (2, 51), (0, 0), (0, 0), (0, 0)])) := rfl
theorem sx_48 : SH[48]? = some (.inr (0, 400, [])) := rfl
theorem sx_49 : SH[49]? = some (.inr (0, 12, [])) := rfl
theorem sx_50 : SH[50]? = some (.inr (0, 12, [])) := rfl
theorem sx_51 : SH[51]? = some (.inr (1, 64, [])) := rfl
theorem sx_52 : SH[52]? = some (.inl (7, [(2, 17), (2, 53), (2, 54), (2, 55), (0, 0), (0, 0), (0, 0), (0, 0)])) := rfl
theorem sx_53 : SH[53]? = some (.inr (0, 4000, [])) := rfl
theorem sx_54 : SH[54]? = some (.inr (0, 4000, [])) := rfl
theorem sx_55 : SH[55]? = some (.inr (1, 4096, [])) := rfl
theorem sx_56 : SH[56]? = some (.inl (1, [(2, 65), (2, 57), (2, 62), (2, 63), (2, 64)])) := rfl
theorem sx_57 : SH[57]? = some (.inl (8, [(0, 0), (0, 0), (0, 0), (0, 0), (0, 0), (0, 0), (0, 0), (0, 0), (0, 0), (0, 0), (0, 0), (2, 58), (2, 59), (2, 60), (2, 61)])) := rfl
theorem sx_58 : SH[58]? = some (.inr (0, 64, [])) := rfl
theorem sx_59 : SH[59]? = some (.inr (0, 3, [])) := rfl
theorem sx_60 : SH[60]? = some (.inr (0, 8, [])) := rfl
theorem sx_61 : SH[61]? = some (.inr (0, 8, [])) := rfl
theorem sx_62 : SH[62]? = some (.inr (0, 2, [])) := rfl
theorem sx_63 : SH[63]? = some (.inr (0, 2, [])) := rfl
theorem sx_64 : SH[64]? = some (.inr (0, 2, [])) := rfl
theorem sx_65 : SH[65]? = some (.inl (7, [(2, 17), (2, 66), (2, 67), (2, 68), (0, 0), (0, 0), (0, 0), (0, 0)])) := rfl
theorem sx_66 : SH[66]? = some (.inr (0, 4000, [])) := rfl
theorem sx_67 : SH[67]? = some (.inr (0, 4000, [])) := rfl
theorem sx_68 : SH[68]? = some (.inr (1, 4096, [])) := rfl
theorem sx_69 : SH[69]? = some (.inl (3, [(2, 17), (2, 70), (2, 71), (2, 72), (2, 73), (2, 74), (2, 75), (2, 76), (2, 77), (0, 0), (0, 0), (0, 0), (0, 0), (0, 0), (0, 0), (0, 0)])) := rfl
theorem sx_70 : SH[70]? = some (.inr (0, 36, [])) := rfl
theorem sx_71 : SH[71]? = some (.inr (0, 16384, [])) := rfl
theorem sx_72 : SH[72]? = some (.inr (0, 4096, [])) := rfl
theorem sx_73 : SH[73]? = some (.inr (0, 1369, [])) := rfl
theorem sx_74 : SH[74]? = some (.inr (0, 4096, [])) := rfl
theorem sx_75 : SH[75]? = some (.inr (0, 8820, [])) := rfl
theorem sx_76 : SH[76]? = some (.inr (0, 7, [])) := rfl
theorem sx_77 : SH[77]? = some (.inr (0, 7, [])) := rfl
theorem sx_78 : SH[78]? = some (.inl (2, [(2, 17), (2, 79), (2, 80), (2, 81), (0, 0), (0, 0), (0, 0), (0, 0), (0, 0), (0, 0)])) := rfl
theorem sx_79 : SH[79]? = some (.inr (0, 36, [])) := rfl
theorem sx_80 : SH[80]? = some (.inr (1, 3, [])) := rfl
theorem sx_81 : SH[81]? = some (.inr (0, 64, [])) := rfl
theorem sx_82 : SH[82]? = some (.inl (10, [(2, 17), (0, 0), (0, 0), (0, 0), (1, 0), (1, 0), (0, 0), (0, 0)])) := rfl
theorem sx_83 : SH[83]? = some (.inl (8, [(0, 0), (0, 0), (0, 0), (0, 0), (0, 0), (0, 0), (0, 0), (0, 0), (0, 0), (0, 0), (0, 0), (2, 84), (2, 85), (2, 86), (2, 87)])) := rfl
theorem sx_84 : SH[84]? = some (.inr (0, 64, [])) := rfl
theorem sx_85 : SH[85]? = some (.inr (0, 3, [])) := rfl
theorem sx_86 : SH[86]? = some (.inr (0, 8, [])) := rfl
theorem sx_87 : SH[87]? = some (.inr (0, 8, [])) := rfl
theorem sx_88 : SH[88]? = some (.inr (5, 4, [92, 97, 102, 107])) := rfl
theorem sx_89 : SH[89]? = some (.inr (5, 8, [112, 117, 122, 127, 132, 137, 142, 147])) := rfl
theorem sx_90 : SH[90]? = some (.inr (0, 8, [])) := rfl
theorem sx_91 : SH[91]? = some (.inl (8, [(0, 0), (0, 0), (0, 0), (0, 0), (0, 0), (0, 0), (0, 0), (0, 0), (0, 0), (0, 0), (0, 0), (2, 92), (2, 93), (2, 94), (2, 95)])) := rfl
theorem sx_92 : SH[92]? = some (.inr (0, 64, [])) := rfl
theorem sx_93 : SH[93]? = some (.inr (0, 3, [])) := rfl
theorem sx_94 : SH[94]? = some (.inr (0, 8, [])) := rfl
theorem sx_95 : SH[95]? = some (.inr (0, 8, [])) := rfl
theorem sx_96 : SH[96]? = some (.inl (8, [(0, 0), (0, 0), (0, 0), (0, 0), (0, 0), (0, 0), (0, 0), (0, 0), (0, 0), (0, 0), (0, 0), (2, 97), (2, 98), (2, 99), (2, 100)])) := rfl
theorem sx_97 : SH[97]? = some (.inr (0, 64, [])) := rfl
theorem sx_98 : SH[98]? = some (.inr (0, 3, [])) := rfl
theorem sx_99 : SH[99]? = some (.inr (0, 8, [])) := rfl
theorem sx_100 : SH[100]? = some (.inr (0, 8, [])) := rfl
theorem sx_101 : SH[101]? = some (.inl (8, [(0, 0), (0, 0), (0, 0), (0, 0), (0, 0), (0, 0), (0, 0), (0, 0), (0, 0), (0, 0), (0, 0), (2, 102), (2, 103), (2, 104), (2, 105)])) := rfl
theorem sx_102 : SH[102]? = some (.inr (0, 64, [])) := rfl
theorem sx_103 : SH[103]? = some (.inr (0, 3, [])) := rfl
theorem sx_104 : SH[104]? = some (.inr (0, 8, [])) := rfl
theorem sx_105 : SH[105]? = some (.inr (0, 8, [])) := rfl
theorem sx_106 : SH[106]? = some (.inl (8, [(0, 0), (0, 0), (0, 0), (0, 0), (0, 0), (0, 0), (0, 0), (0, 0), (0, 0), (0, 0), (0, 0), (2, 107), (2, 108), (2, 109), (2, 110)])) := rfl
theorem sx_107 : SH[107]? = some (.inr (0, 64, [])) := rfl
theorem sx_108 : SH[108]? = some (.inr (0, 3, [])) := rfl
theorem sx_109 : SH[109]? = some (.inr (0, 8, [])) := rfl
theorem sx_110 : SH[110]? = some (.inr (0, 8, [])) := rfl
theorem sx_111 : SH[111]? = some (.inl (8, [(0, 0), (0, 0), (0, 0), (0, 0), (0, 0), (0, 0), (0, 0), (0, 0), (0, 0), (0, 0), (0, 0), (2, 112), (2, 113), (2, 114), (2, 115)])) := rfl
theorem sx_112 : SH[112]? = some (.inr (0, 64, [])) := rfl
theorem sx_113 : SH[113]? = some (.inr (0, 3, [])) := rfl
theorem sx_114 : SH[114]? = some (.inr (0, 8, [])) := rfl
theorem sx_115 : SH[115]? = some (.inr (0, 8, [])) := rfl
theorem sx_116 : SH[116]? = some (.inl (8, [(0, 0), (0, 0), (0, 0), (0, 0), (0, 0), (0, 0), (0, 0), (0, 0), (0, 0), (0, 0), (0, 0), (2, 117), (2, 118), (2, 119), (2, 120)])) := rfl
theorem sx_117 : SH[117]? = some (.inr (0, 64, [])) := rfl
theorem sx_118 : SH[118]? = some (.inr (0, 3, [])) := rfl
theorem sx_119 : SH[119]? = some (.inr (0, 8, [])) := rfl
theorem sx_120 : SH[120]? = some (.inr (0, 8, [])) := rfl
theorem sx_121 : SH[121]? = some (.inl (8, [(0, 0), (0, 0), (0, 0), (0, 0), (0, 0), (0, 0), (0, 0), (0, 0), (0, 0), (0, 0), (0, 0), (2, 122), (2, 123), (2, 124), (2, 125)])) := rfl
theorem sx_122 : SH[122]? = some (.inr (0, 64, [])) := rfl
theorem sx_123 : SH[123]? = some (.inr (0, 3, [])) := rfl
theorem sx_124 : SH[124]? = some (.inr (0, 8, [])) := rfl
theorem sx_125 : SH[125]? = some (.inr (0, 8, [])) := rfl
theorem sx_126 : SH[126]? = some (.inl (8, [(0, 0), (0, 0), (0, 0), (0, 0), (0, 0), (0, 0), (0, 0), (0, 0), (0, 0), (0, 0), (0, 0), (2, 127), (2, 128), (2, 129), (2, 130)])) := rfl
theorem sx_127 : SH[127]? = some (.inr (0, 64, [])) := rfl
theorem sx_128 : SH[128]? = some (.inr (0, 3, [])) := rfl
theorem sx_129 : SH[129]? = some (.inr (0, 8, [])) := rfl
theorem sx_130 : SH[130]? = some (.inr (0, 8, [])) := rfl
theorem sx_131 : SH[131]? = some (.inl (8, [(0, 0), (0, 0), (0, 0), (0, 0), (0, 0), (0, 0), (0, 0), (0, 0), (0, 0), (0, 0), (0, 0), (2, 132), (2, 133), (2, 134), (2, 135)])) := rfl
theorem sx_132 : SH[132]? = some (.inr (0, 64, [])) := rfl
theorem sx_133 : SH[133]? = some (.inr (0, 3, [])) := rfl
theorem sx_134 : SH[134]? = some (.inr (0, 8, [])) := rfl
theorem sx_135 : SH[135]? = some (.inr (0, 8, [])) := rfl
theorem sx_136 : SH[136]? = some (.inl (8, [(0, 0), (0, 0), (0, 0), (0, 0), (0, 0), (0, 0), (0, 0), (0, 0), (0, 0), (0, 0), (0, 0), (2, 137), (2, 138), (2, 139), (2, 140)])) := rfl
theorem sx_137 : SH[137]? = some (.inr (0, 64, [])) := rfl
theorem sx_138 : SH[138]? = some (.inr (0, 3, [])) := rfl
theorem sx_139 : SH[139]? = some (.inr (0, 8, [])) := rfl
theorem sx_140 : SH[140]? = some (.inr (0, 8, [])) := rfl
theorem sx_141 : SH[141]? = some (.inl (8, [(0, 0), (0, 0), (0, 0), (0, 0), (0, 0), (0, 0), (0, 0), (0, 0), (0, 0), (0, 0), (0, 0), (2, 142), (2, 143), (2, 144), (2, 145)])) := rfl
theorem sx_142 : SH[142]? = some (.inr (0, 64, [])) := rfl
theorem sx_143 : SH[143]? = some (.inr (0, 3, [])) := rfl
theorem sx_144 : SH[144]? = some (.inr (0, 8, [])) := rfl
theorem sx_145 : SH[145]? = some (.inr (0, 8, [])) := rfl
theorem sx_146 : SH[146]? = some (.inl (8, [(0, 0), (0, 0), (0, 0), (0, 0), (0, 0), (0, 0), (0, 0), (0, 0), (0, 0), (0, 0), (0, 0), (2, 147), (2, 148), (2, 149), (2, 150)])) := rfl
theorem sx_147 : SH[147]? = some (.inr (0, 64, [])) := rfl
theorem sx_148 : SH[148]? = some (.inr (0, 3, [])) := rfl
theorem sx_149 : SH[149]? = some (.inr (0, 8, [])) := rfl
theorem sx_150 : SH[150]? = some (.inr (0, 8, [])) := rfl
theorem sx_151 : SH[151]? = some (.inl (12, [(0, 0), (2, 152), (2, 153), (2, 154), (2, 155), (2, 156), (2, 157), (2, 158), (2, 159), (2, 160), (2, 161), (0, 0), (0, 0), (0, 0), (0, 0), (0, 0), (0, 0), (0, 0), (0, 0), (0, 0), (0, 0), (0, 0), (2, 162), (2, 163), (2, 164), (2, 165), (2, 166), (2, 167), (2, 168), (2, 169), (2, 170), (2, 171), (0, 0), (2, 172), (2, 173), (0, 0), (0, 0), (2, 174), (0, 0), (0, 0), (2, 175), (2, 176), (2, 177), (2, 178), (0, 0), (0, 0), (0, 0), (2, 179), (2, 180), (2, 181), (2, 182), (2, 183), (0, 0), (0, 0), (0, 0), (0, 0), (2, 184), (2, 185), (2, 186), (2, 187), (0, 0), (2, 188), (2, 189), (2, 190), (2, 191), (0, 0), (0, 0), (2, 192), (2, 193), (2, 194), (2, 195), (2, 196), (2, 197), (2, 198), (0, 0), (0, 0)])) := rfl
theorem sx_152 : SH[152]? = some (.inr (0, 8, [])) := rfl
theorem sx_153 : SH[153]? = some (.inr (0, 36, [])) := rfl
theorem sx_154 : SH[154]? = some (.inr (0, 3, [])) := rfl
theorem sx_155 : SH[155]? = some (.inr (0, 8, [])) := rfl
theorem sx_156 : SH[156]? = some (.inr (0, 8, [])) := rfl
theorem sx_157 : SH[157]? = some (.inr (0, 8, [])) := rfl
theorem sx_158 : SH[158]? = some (.inr (0, 8, [])) := rfl
theorem sx_159 : SH[159]? = some (.inr (0, 3, [])) := rfl
theorem sx_160 : SH[160]? = some (.inr (0, 36, [])) := rfl
theorem sx_161 : SH[161]? = some (.inr (0, 3, [])) := rfl
theorem sx_162 : SH[162]? = some (.inr (2, 400, [])) := rfl
theorem sx_163 : SH[163]? = some (.inr (0, 1800, [])) := rfl
theorem sx_164 : SH[164]? = some (.inr (0, 1800, [])) := rfl
theorem sx_165 : SH[165]? = some (.inr (0, 6, [])) := rfl
theorem sx_166 : SH[166]? = some (.inr (0, 72, [])) := rfl
theorem sx_167 : SH[167]? = some (.inr (0, 72, [])) := rfl
theorem sx_168 : SH[168]? = some (.inr (0, 72, [])) := rfl
theorem sx_169 : SH[169]? = some (.inr (0, 402, [])) := rfl
theorem sx_170 : SH[170]? = some (.inr (1, 8, [])) := rfl
theorem sx_171 : SH[171]? = some (.inr (1, 300, [])) := rfl
theorem sx_172 : SH[172]? = some (.inr (0, 3, [])) := rfl
theorem sx_173 : SH[173]? = some (.inr (1, 3, [])) := rfl
theorem sx_174 : SH[174]? = some (.inr (0, 3, [])) := rfl
theorem sx_175 : SH[175]? = some (.inr (0, 54872, [])) := rfl
theorem sx_176 : SH[176]? = some (.inr (0, 4001, [])) := rfl
theorem sx_177 : SH[177]? = some (.inr (0, 4001, [])) := rfl
theorem sx_178 : SH[178]? = some (.inr (0, 4001, [])) := rfl
theorem sx_179 : SH[179]? = some (.inr (0, 3, [])) := rfl
theorem sx_180 : SH[180]? = some (.inr (0, 5776, [])) := rfl
theorem sx_181 : SH[181]? = some (.inr (0, 1444, [])) := rfl
theorem sx_182 : SH[182]? = some (.inr (0, 10108, [])) := rfl
theorem sx_183 : SH[183]? = some (.inr (0, 6, [])) := rfl
theorem sx_184 : SH[184]? = some (.inr (0, 1444, [])) := rfl
theorem sx_185 : SH[185]? = some (.inr (0, 3, [])) := rfl
theorem sx_186 : SH[186]? = some (.inr (0, 64, [])) := rfl
theorem sx_187 : SH[187]? = some (.inr (1, 3, [])) := rfl
theorem sx_188 : SH[188]? = some (.inr (0, 3, [])) := rfl
theorem sx_189 : SH[189]? = some (.inr (0, 27, [])) := rfl
theorem sx_190 : SH[190]? = some (.inr (0, 9, [])) := rfl
theorem sx_191 : SH[191]? = some (.inr (3, 9, [])) := rfl
theorem sx_192 : SH[192]? = some (.inr (0, 8, [])) := rfl
theorem sx_193 : SH[193]? = some (.inr (0, 8, [])) := rfl
theorem sx_194 : SH[194]? = some (.inr (0, 288, [])) := rfl
theorem sx_195 : SH[195]? = some (.inr (0, 24, [])) := rfl
theorem sx_196 : SH[196]? = some (.inr (0, 8, [])) := rfl
theorem sx_197 : SH[197]? = some (.inr (0, 360, [])) := rfl
theorem sx_198 : SH[198]? = some (.inr (3, 4, [])) := rfl
theorem rul_ld {x : Int32} (h : vp_in x 6) : ([23, 28, 33, 38, 43, 48] : List Nat)[x.toNatClampNeg]? = some ((22 + 5 * x.toNatClampNeg) + 1) ∧ isRU (22 + 5 * x.toNatClampNeg) := by
  have hlt : x.toNatClampNeg < 6 := Nat.not_le.mp fun q => h (Or.inr q)
  generalize x.toNatClampNeg = j at hlt ⊢
  match j, hlt with
  | 0, _ => exact ⟨rfl, by simp [isRU]⟩
  | 1, _ => exact ⟨rfl, by simp [isRU]⟩
  | 2, _ => exact ⟨rfl, by simp [isRU]⟩
  | 3, _ => exact ⟨rfl, by simp [isRU]⟩
  | 4, _ => exact ⟨rfl, by simp [isRU]⟩
  | 5, _ => exact ⟨rfl, by simp [isRU]⟩
  | j + 6, q => exact absurd q (by omega)
theorem ima_ld {x : Int32} (h : vp_in x 4) : ([92, 97, 102, 107] : List Nat)[x.toNatClampNeg]? = some ((91 + 5 * x.toNatClampNeg) + 1) ∧ isSA (91 + 5 * x.toNatClampNeg) := by
  have hlt : x.toNatClampNeg < 4 := Nat.not_le.mp fun q => h (Or.inr q)
  generalize x.toNatClampNeg = j at hlt ⊢
  match j, hlt with
  | 0, _ => exact ⟨rfl, by simp [isSA]⟩
  | 1, _ => exact ⟨rfl, by simp [isSA]⟩
  | 2, _ => exact ⟨rfl, by simp [isSA]⟩
  | 3, _ => exact ⟨rfl, by simp [isSA]⟩
  | j + 4, q => exact absurd q (by omega)
theorem pag_ld {x : Int32} (h : vp_in x 8) : ([112, 117, 122, 127, 132, 137, 142, 147] : List Nat)[x.toNatClampNeg]? = some ((111 + 5 * x.toNatClampNeg) + 1) ∧ isSA (111 + 5 * x.toNatClampNeg) := by
  have hlt : x.toNatClampNeg < 8 := Nat.not_le.mp fun q => h (Or.inr q)
  generalize x.toNatClampNeg = j at hlt ⊢
  match j, hlt with
  | 0, _ => exact ⟨rfl, by simp [isSA]⟩
  | 1, _ => exact ⟨rfl, by simp [isSA]⟩
  | 2, _ => exact ⟨rfl, by simp [isSA]⟩
  | 3, _ => exact ⟨rfl, by simp [isSA]⟩
  | 4, _ => exact ⟨rfl, by simp [isSA]⟩
  | 5, _ => exact ⟨rfl, by simp [isSA]⟩
  | 6, _ => exact ⟨rfl, by simp [isSA]⟩
  | 7, _ => exact ⟨rfl, by simp [isSA]⟩
  | j + 8, q => exact absurd q (by omega)
