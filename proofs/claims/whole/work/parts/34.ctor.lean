-- rows for constructors: the shape grows
def zro (σ : St) (i : Nat) : Prop := (∀ k, fi σ i k = 0) ∧ (∀ k, fj σ i k = 0) ∧ (∀ k, ai σ i k = 0) ∧ ∀ k, aj σ i k = 0
theorem zro_sfi {σ : St} {i j k : Nat} {v : Int32} (hn : j ≠ i) (h : zro σ j) : zro (sfi σ i k v) j := ⟨fun q => by simpa [fi, sfi, up2, hn] using h.1 q, h.2.1, h.2.2.1, h.2.2.2⟩
theorem zro_sai {σ : St} {i j k : Nat} {v : Int32} (hn : j ≠ i) (h : zro σ j) : zro (sai σ i k v) j := ⟨h.1, h.2.1, fun q => by simpa [ai, sai, up2, hn] using h.2.2.1 q, h.2.2.2⟩
theorem zro_rai {σ : St} {i j : Nat} {f : Nat → Int32} (hn : j ≠ i) (h : zro σ j) : zro (rai σ i f) j := ⟨h.1, h.2.1, fun q => by simpa [ai, rai, up1, hn] using h.2.2.1 q, h.2.2.2⟩
theorem wsx_push {g : Gx} {sh : List Sh} {σ : St} {x : Sh} : wsx g (sh ++ [x]) σ = wsx g sh σ ++ [(gB g + sh.length, cel g σ sh.length x)] := by
  simp [wsx, List.mapIdx_append]
theorem wsx_shape {g : Gx} {sh : List Sh} {σ : St} {i : Nat} {x : Sh} (hi : i < sh.length) : (wsx g sh σ).set i (gB g + i, cel g σ i x) = wsx g (sh.set i x) σ := by
  apply List.ext_getElem?
  intro j
  have hl : i < (wsx g sh σ).length := by rw [wsx_len]; exact hi
  by_cases hj : j = i
  · subst hj
    rw [List.getElem?_set_self hl, wsx_get (List.getElem?_set_self hi)]
  · rw [List.getElem?_set_ne (Ne.symm hj)]
    simp only [wsx, List.getElem?_mapIdx]
    rw [List.getElem?_set_ne (Ne.symm hj)]
theorem app_get {α : Type} (P R : List α) (j : Nat) : (P ++ R)[P.length + j]? = R[j]? := by
  rw [List.getElem?_append_right (by omega)]
  congr 1
  omega
theorem app_set {α : Type} (P R : List α) (j : Nat) (x : α) : (P ++ R).set (P.length + j) x = P ++ R.set j x := by
  rw [List.set_append_right _ _ (by omega)]
  congr 2
  omega
theorem app_get0 {α : Type} (P R : List α) : (P ++ R)[P.length]? = R[0]? := app_get P R 0
theorem app_set0 {α : Type} (P R : List α) (x : α) : (P ++ R).set P.length x = P ++ R.set 0 x := app_set P R 0 x
def tyTag (t : FieldType) : Nat := match t with
  | .int => 0
  | .boolean => 0
  | .long => 1
  | .object _ => 3
  | .array _ => 3
  | _ => 9
def nulF (ty : Nat → FieldType) (N : Nat) : List (Nat × Nat) := (List.range N).map (fun j => (tyTag (ty j), 0))
theorem nul_ok {g : Gx} {σ : St} {L N : Nat} {ty : Nat → FieldType} (hz : zro σ L) (ht : ∀ j, j < N → tyTag (ty j) ≠ 9) : ∀ j, j < N → defaultValue (ty j) = vp_V ((nulF ty N).mapIdx (fvl g σ L)) j := by
  intro j hj
  have e : (nulF ty N)[j]? = some (tyTag (ty j), 0) := by simp [nulF, List.getElem?_map, List.getElem?_range hj]
  have e2 : vp_V ((nulF ty N).mapIdx (fvl g σ L)) j = fvl g σ L j (tyTag (ty j), 0) := by simp [vp_V, List.getD_eq_getElem?_getD, List.getElem?_mapIdx, e]
  rw [e2]
  have h9 := ht j hj
  cases hty : ty j with
  | int => simp [tyTag, fvl, hz.1, defaultValue]
  | boolean => simp [tyTag, fvl, hz.1, defaultValue]
  | long => simp [tyTag, fvl, hz.2.1, defaultValue]
  | object c => simp [tyTag, fvl, defaultValue]
  | array t => simp [tyTag, fvl, defaultValue]
  | _ => rw [hty] at h9; exact absurd rfl h9
section
variable {g : Gx} {M : Mt} {mc ms : Nat} {Z : Zt} {sh : List Sh} {σ : St} {k n pc : Nat} {lv : List (Nat × Value)} {st : List Value}
theorem a_newo {ci N idx : Nat} {C : String} {T : u_T} (ty0 : Nat → FieldType) (hc : vwCl[ci]? = some (C, T, N)) (hu : ∀ w ∈ u_ws C T N, w ∈ TB) (hty : ∀ a, a < N → parseFieldDescriptor (T a).2.2.1 = some (ty0 a)) (ht9 : ∀ j, j < N → tyTag (ty0 j) ≠ 9)
    (hcl : Cond.classLink M.1.cls idx C ∈ TB) (hins : Cond.instantiable C N ∈ TB) (hini : Cond.initialized C ∈ TB) (hz : zro σ sh.length) (hmc : k + 1 ≤ mc) (hms : n + N ≤ ms) (hd : decode M.2.1 pc = .ok (.new idx, 3))
    (h : Ax g M mc ms Z (sh ++ [.inl (ci, nulF ty0 N)]) σ (k + 1) (n + N) (pc + 3) lv (.ref (gB g + sh.length) :: st)) : Ax g M mc ms Z sh σ k n pc lv st := by
  refine Ax.sized ?_
  intro p e s m args below meth c H locs ls C0 hw hk hS hl hsz
  have hts := C0.2.2.2.2.2.2.1
  have hKn := hw.2.1 ci _ hc
  refine W.newcK C0.1 C0.2.1 C0.2.2.2.2.2.1 (hts _ hcl) (hts _ hins) (hts _ hini) rfl hd hmc hms hKn.2.1 hsz fun H1 kC hkC e1 z1 o1 => ?_
  have hkp : ∀ (j : Nat) (x : Nat × va_E), (wsx g sh σ)[j]? = some x → H1[x.1]? = H[x.1]? := fun j x hx => o1 x.1 (by rw [← hsz]; exact (hw.1 j x hx).lt)
  refine h p e s m args below meth c H1 locs ls C0 ⟨?_, hw.2⟩ (by rw [List.length_append]; simp; omega) ⟨by rw [z1, ← hsz]; exact Nat.le_trans hS.1 (Nat.le_succ _), fun q h1 h2 => ?_, hS.2.2⟩ hl
  · rw [wsx_push]
    refine (hw.1.kept hkp).app (fun j x hx => ?_)
    have hj : j < 1 := (List.getElem?_eq_some_iff.mp hx).1
    rw [show j = 0 by omega] at hx
    cases hx
    exact ⟨_, hc, (u_born ty0 hts hu hKn hkC e1 hty).to (nul_ok hz ht9)⟩
  · rw [o1 q (by rw [← hsz]; exact Nat.lt_of_lt_of_le h1 hS.1)]
    exact hS.2.1 q h1 h2
theorem a_newi {x : Int32} {N : Nat} {atype : ArrayType} {ty : FieldType} {kd : Nat} (hat : newarray.typeOf atype = ty) (hkd : (kd = 0 ∧ ty = .int) ∨ (kd = 1 ∧ ty = .long) ∨ (kd = 2 ∧ ty = .byte) ∨ (kd = 3 ∧ ty = .boolean)) (hac : Cond.arrayClass ty ∈ TB) (hz : zro σ sh.length) (hx : ¬ x < 0) (hN : x.toNatClampNeg = N) (hby : N * componentBytes ty ≤ 536870912) (hmc : k + 1 ≤ mc) (hms : n + N ≤ ms) (hd : decode M.2.1 pc = .ok (.newarray atype, 2))
    (h : Ax g M mc ms Z (sh ++ [.inr (kd, N, [])]) σ (k + 1) (n + N) (pc + 2) lv (.ref (gB g + sh.length) :: st)) : Ax g M mc ms Z sh σ k n pc lv (.int x :: st) := by
  refine Ax.sized ?_
  intro p e s m args below meth c H locs ls C0 hw hk hS hl hsz
  have hts := C0.2.2.2.2.2.2.1
  subst hat
  refine va_newaK C0.1 C0.2.1 (hts _ hac) rfl hd rfl hx hN hby hmc hms hsz fun H1 cA e1 z1 o1 hAr hNm => ?_
  have hkp : ∀ (j : Nat) (x : Nat × va_E), (wsx g sh σ)[j]? = some x → H1[x.1]? = H[x.1]? := fun j x hx => o1 x.1 (by rw [← hsz]; exact (hw.1 j x hx).lt)
  have hcA : cA = gC g kd := by
    rcases hkd with ⟨rfl, e⟩ | ⟨rfl, e⟩ | ⟨rfl, e⟩ | ⟨rfl, e⟩
    · have := (hw.2.2 0 _ rfl).2; rw [e] at hNm; exact Option.some.inj (hNm.symm.trans this)
    · have := (hw.2.2 1 _ rfl).2; rw [e] at hNm; exact Option.some.inj (hNm.symm.trans this)
    · have := (hw.2.2 2 _ rfl).2; rw [e] at hNm; exact Option.some.inj (hNm.symm.trans this)
    · have := (hw.2.2 3 _ rfl).2; rw [e] at hNm; exact Option.some.inj (hNm.symm.trans this)
  have hce : va_at (gD g) vwCl (gB g + sh.length, cel g σ sh.length (.inr (kd, N, []))) H1 := by
    show H1[gB g + sh.length]? = some (vp_cell (gC g kd) (N, acn g σ sh.length (kd, N, [])))
    rw [e1, hcA]
    rcases hkd with ⟨rfl, e⟩ | ⟨rfl, e⟩ | ⟨rfl, e⟩ | ⟨rfl, e⟩ <;> rw [e]
    · show some _ = some (arrV (gC g 0) N (fun j => .int (ai σ sh.length j)))
      congr 2; funext j; rw [hz.2.2.1]; rfl
    · show some _ = some (arrV (gC g 1) N (fun j => .long (aj σ sh.length j)))
      congr 2; funext j; rw [hz.2.2.2]; rfl
    · show some _ = some (arrV (gC g 2) N (fun j => .int (ai σ sh.length j)))
      congr 2; funext j; rw [hz.2.2.1]; rfl
    · show some _ = some (arrV (gC g 3) N (fun j => .int (ai σ sh.length j)))
      congr 2; funext j; rw [hz.2.2.1]; rfl
  refine h p e s m args below meth c H1 locs ls C0 ⟨?_, hw.2⟩ (by rw [List.length_append]; simp; omega) ⟨by rw [z1, ← hsz]; exact Nat.le_trans hS.1 (Nat.le_succ _), fun q h1 h2 => ?_, hS.2.2⟩ hl
  · rw [wsx_push]
    refine (hw.1.kept hkp).app (fun j x hx => ?_)
    have hj : j < 1 := (List.getElem?_eq_some_iff.mp hx).1
    rw [show j = 0 by omega] at hx
    cases hx
    exact hce
  · rw [o1 q (by rw [← hsz]; exact Nat.lt_of_lt_of_le h1 hS.1)]
    exact hS.2.1 q h1 h2
theorem a_newq {x : Int32} {N idx kd : Nat} {C : String} (hkd : (kd = 4 ∧ C = "BallBox$Rule") ∨ (kd = 5 ∧ C = "BallBox$State")) (hcl : Cond.classLink M.1.cls idx C ∈ TB) (hx : ¬ x < 0) (hN : x.toNatClampNeg = N) (hby : N * 4 ≤ 536870912) (hmc : k + 1 ≤ mc) (hms : n + N ≤ ms) (hd : decode M.2.1 pc = .ok (.anewarray idx, 3))
    (h : Ax g M mc ms Z (sh ++ [.inr (kd, N, List.replicate N 0)]) σ (k + 1) (n + N) (pc + 3) lv (.ref (gB g + sh.length) :: st)) : Ax g M mc ms Z sh σ k n pc lv (.int x :: st) := by
  refine Ax.sized ?_
  intro p e s m args below meth c H locs ls C0 hw hk hS hl hsz
  have hts := C0.2.2.2.2.2.2.1
  have hNS : NSx s := C0.2.2.2.2.2.2.2.1.2.2.2.2.2.2.2.1.2
  have hAO : va_AO C s := by
    rcases hkd with ⟨-, rfl⟩ | ⟨-, rfl⟩
    · exact hNS.2.1
    · exact hNS.2.2
  subst hN
  refine W.anew C0.1 C0.2.1 C0.2.2.2.2.2.1 (hts _ hcl) (va_AO.use hAO) rfl hd rfl hx hby hmc hms fun cA kA comp f1 f2 f3 f4 => ?_
  generalize hH1 : H.push ({ cls := cA, slots := Array.replicate x.toNatClampNeg .null, vm := .none } : Cell) = H1
  have z1 : H1.size = H.size + 1 := by rw [← hH1, Array.size_push]
  have e1 : H1[H.size]? = some (arrV cA x.toNatClampNeg (fun _ => .null)) := by rw [← hH1, Array.getElem?_push_size, ← arrV_new]
  have o1 : ∀ q : Nat, q < H.size → H1[q]? = H[q]? := fun q hq => by rw [← hH1, Array.getElem?_push, if_neg (Nat.ne_of_lt hq)]
  have hkp : ∀ (j : Nat) (x : Nat × va_E), (wsx g sh σ)[j]? = some x → H1[x.1]? = H[x.1]? := fun j x hx => o1 x.1 ((hw.1 j x hx).lt)
  have hcA : cA = gC g kd := by
    rcases hkd with ⟨rfl, e⟩ | ⟨rfl, e⟩
    · obtain ⟨kA', comp', -, -, -, q4⟩ := (hw.2.2 4 _ rfl).2; rw [e] at f1; exact Option.some.inj (f1.symm.trans q4)
    · obtain ⟨kA', comp', -, -, -, q4⟩ := (hw.2.2 5 _ rfl).2; rw [e] at f1; exact Option.some.inj (f1.symm.trans q4)
  have hce : va_at (gD g) vwCl (gB g + sh.length, cel g σ sh.length (.inr (kd, x.toNatClampNeg, List.replicate x.toNatClampNeg 0))) H1 := by
    show H1[gB g + sh.length]? = some (vp_cell (gC g kd) (x.toNatClampNeg, acn g σ sh.length (kd, x.toNatClampNeg, List.replicate x.toNatClampNeg 0)))
    rw [← hsz, e1, hcA]
    have hn : ∀ j, rfx g (List.replicate x.toNatClampNeg 0) j = none := by
      intro j
      simp only [rfx, List.getElem?_replicate]
      split <;> simp_all
    rcases hkd with ⟨rfl, e⟩ | ⟨rfl, e⟩
    · show some _ = some (arrV (gC g 4) _ (fun j => va_rf (rfx g _ j)))
      congr 2; funext j; rw [hn]; rfl
    · show some _ = some (arrV (gC g 5) _ (fun j => va_rf (rfx g _ j)))
      congr 2; funext j; rw [hn]; rfl
  have hgo := h p e s m args below meth c H1 locs ls C0 ⟨?_, hw.2⟩ (by rw [List.length_append]; simp; omega) ⟨by rw [z1]; exact Nat.le_trans hS.1 (Nat.le_succ _), fun q h1 h2 => ?_, hS.2.2⟩ hl
  · rw [← hsz] at hgo
    exact hgo
  · rw [wsx_push]
    refine (hw.1.kept hkp).app (fun j x hx => ?_)
    have hj : j < 1 := (List.getElem?_eq_some_iff.mp hx).1
    rw [show j = 0 by omega] at hx
    cases hx
    exact hce
  · rw [o1 q (Nat.lt_of_lt_of_le h1 hS.1)]
    exact hS.2.1 q h1 h2
theorem a_putF {i ci f r idx : Nat} {fs : List (Nat × Nat)} {q : Nat × Nat} {ty : FieldType} (hF : FPk M.1.cls idx ci f ty true) (hrt : (∃ c, ty = .object c) ∨ ∃ t, ty = .array t) (hcn : (vwCl[ci]?).map (fun q => q.1) = some M.1.cls) (hnm : M.1.name = "<init>") (hi : sh[i]? = some (.inl (ci, fs))) (hf : fs[f]? = some q) (hd : decode M.2.1 pc = .ok (.putfield idx, 3))
    (h : Ax g M mc ms Z (sh.set i (.inl (ci, fs.set f (2, r)))) σ k n (pc + 3) lv st) : Ax g M mc ms Z sh σ k n pc lv (.ref (gB g + r) :: .ref (gB g + i) :: st) := by
  intro p e s m args below meth c H locs ls C0 hw hk hS hl
  obtain ⟨C, T, N, ty0, h1, h2, h3, h5, h6, h4, h7, h8, h9⟩ := hF
  have hts := C0.2.2.2.2.2.2.1
  have hC : C = M.1.cls := by rw [h1] at hcn; exact Option.some.inj hcn
  have hin := (List.getElem?_eq_some_iff.mp hi).1
  have hfl := (List.getElem?_eq_some_iff.mp hf).1
  refine va_putF C0.1 C0.2.1 hts h3 ty0 h5 h6 C0.2.2.2.2.2.1 hw.2 hw.1 wsx_D hS i (wsx_get hi) h1 f h2 (hts _ h4) (fun _ q => q) h7 (C0.2.2.2.2.2.2.2.2.trans hnm) (h9.trans hC) (ty := ty) h8 (by rcases hrt with ⟨c, rfl⟩ | ⟨t, rfl⟩ <;> rfl) (by rcases hrt with ⟨c, rfl⟩ | ⟨t, rfl⟩ <;> rfl) (by simpa using hfl) hd (fun H1 locs1 hP1 _ hS1 => ?_)
  have ec : (.inr (ci, (fs.mapIdx (fvl g σ i)).set f (.ref (gB g + r))) : va_E) = cel g σ i (.inl (ci, fs.set f (2, r))) := by
    simp only [cel]
    congr 2
    apply List.ext_getElem?
    intro j
    by_cases hj : j = f
    · subst hj
      rw [List.getElem?_set_self (by simpa using hfl), List.getElem?_mapIdx, List.getElem?_set_self hfl]
      simp [fvl]
    · rw [List.getElem?_set_ne (Ne.symm hj), List.getElem?_mapIdx, List.getElem?_mapIdx, List.getElem?_set_ne (Ne.symm hj)]
  rw [ec, wsx_shape hin] at hP1
  exact h p e s m args below meth c H1 locs1 ls C0 ⟨hP1, hw.2⟩ (by simpa using hk) hS1 hl
theorem a_astq {i N r kd ci : Nat} {rs : List Nat} {fs : List (Nat × Nat)} {x : Int32} {q : vw_C} (hi : sh[i]? = some (.inr (kd, N, rs))) (hr : sh[r]? = some (.inl (ci, fs))) (hc : vwCl[ci]? = some q) (hkd : (kd = 4 ∧ q.1 = "BallBox$Rule") ∨ (kd = 5 ∧ q.1 = "BallBox$State")) (hx : vp_in x N) (hlr : x.toNatClampNeg < rs.length) (hd : decode M.2.1 pc = .ok (.aastore, 1))
    (h : Ax g M mc ms Z (sh.set i (.inr (kd, N, rs.set x.toNatClampNeg (r + 1)))) σ k n (pc + 1) lv st) : Ax g M mc ms Z sh σ k n pc lv (.ref (gB g + r) :: .int x :: .ref (gB g + i) :: st) := by
  intro p e s m args below meth c H locs ls C0 hw hk hS hl
  have hin := (List.getElem?_eq_some_iff.mp hi).1
  have ha : (wsx g sh σ)[i]? = some (gB g + i, .inl (gC g kd, N, .inr (.inr (.inr (.inr (rfx g rs)))))) := by
    rw [wsx_get hi]
    rcases hkd with ⟨rfl, -⟩ | ⟨rfl, -⟩ <;> rfl
  refine va_astq C0.1 C0.2.1 hw.2 hw.1 wsx_D hS i kd r ci ha (by rcases hkd with ⟨rfl, e⟩ | ⟨rfl, e⟩ <;> rw [e] <;> rfl) (wsx_get hr) hc hx hd (fun H1 locs1 hP1 _ hS1 => ?_)
  have ec : (.inl (gC g kd, N, .inr (.inr (.inr (.inr (va_up (rfx g rs) x.toNatClampNeg (some (gB g + r))))))) : va_E) = cel g σ i (.inr (kd, N, rs.set x.toNatClampNeg (r + 1))) := by
    have e2 : va_up (rfx g rs) x.toNatClampNeg (some (gB g + r)) = rfx g (rs.set x.toNatClampNeg (r + 1)) := by
      funext j
      by_cases hj : j = x.toNatClampNeg
      · subst hj
        simp [va_up, rfx, List.getElem?_set_self hlr]
      · simp [va_up, rfx, hj, List.getElem?_set_ne (Ne.symm hj)]
    rw [e2]
    rcases hkd with ⟨rfl, -⟩ | ⟨rfl, -⟩ <;> rfl
  rw [ec, wsx_shape hin] at hP1
  exact h p e s m args below meth c H1 locs1 ls C0 ⟨hP1, hw.2⟩ (by simpa using hk) hS1 hl
theorem a_objI {idx i : Nat} (hl1 : Cond.methodLink M.1.cls idx Lib.objectInit ∈ TB) (hl2 : Cond.instanceMethod Lib.objectInit ∈ TB) (hl3 : Cond.code Lib.objectInit ⟨#[0xb1]⟩ 1 none ∈ TB) (hfr : 1 ≤ M.2.2.2.2.1) (hlo : (st.map fun v => v.category).sum + 12 ≤ M.2.2.2.2.2) (hd : decode M.2.1 pc = .ok (.invokespecial idx, 3)) (h : Ax g M mc ms Z sh σ k n (pc + 3) lv st) : Ax g M mc ms Z sh σ k n pc lv (.ref i :: st) := by
  intro p e s m args below meth c H locs ls C0 hw hk hS hl
  have hts := C0.2.2.2.2.2.2.1
  refine W.objInit C0.1 C0.2.1 C0.2.2.2.2.2.1 (hts _ hl1) (hts _ hl2) (hts _ hl3) rfl (by rw [C0.2.2.1]; exact hl.1) rfl hd hfr (by show 2 * 0 + (st.map fun v => v.category).sum + 12 ≤ M.2.2.2.2.2; omega) ?_
  exact h p e s m args below meth c H locs ls C0 hw hk hS hl
theorem a_callI {M' : Mt} {mc' ms' idx i : Nat} {st0 As : List Value} {Q' : Qt} {a : Nat}
    (hlk : Cond.methodLink M.1.cls idx M'.1 ∈ TB) (hin : Cond.instanceMethod M'.1 ∈ TB) (hini : Cond.initialized M'.1.cls ∈ TB) (hcd : Cond.code M'.1 M'.2.1 M'.2.2.1 none ∈ TB) (hrt : M'.2.2.2.1 = none) (hyn : M'.1.name = "<init>") (hy : M'.1.cls ≠ "java/lang/invoke/MethodHandle" ∧ M'.1.cls ≠ "java/lang/invoke/VarHandle" ∧ (parseMethodDescriptor M'.1.desc).map (fun d => d.parameters.length) = some a) (ha : As.length = a) (hfr : M'.2.2.2.2.1 + 1 ≤ M.2.2.2.2.1) (hlo : 8 + (M'.2.2.1 + 11) + M'.2.2.2.2.2 ≤ M.2.2.2.2.2) (hst0 : st0 = As.reverse ++ .ref i :: st) (hst : (st.map fun v => v.category).sum ≤ 8) (hmc : k + mc' ≤ mc) (hms : n + ms' ≤ ms)
    (hd : decode M.2.1 pc = .ok (.invokespecial idx, 3)) (hC : Cx g M' (.ref i :: As) sh σ mc' ms' Q')
    (h : ∀ (r : Option Value) (sh' : List Sh) (σ' : St), Q' r sh' σ' → sh'.length = sh.length + mc' → Ax g M mc ms Z sh' σ' (k + mc') (n + ms') (pc + 3) lv (r.toList ++ st)) : Ax g M mc ms Z sh σ k n pc lv st0 := by
  refine a_run (as := (Value.ref i :: As).toArray) rfl (fun p e s m args below meth c H locs ls C hw hk hS hl hz => ?_) h
  have hts := C.2.2.2.2.2.2.1
  obtain ⟨y, cd, mL, rt, fr, lo⟩ := M'
  simp only at hrt
  subst hrt
  exact va_runI (Ts := TB) (own := M.1.cls) (nL := M.2.2.1) (cc := M.2.1) (As := As) (b := i) (n := a) (bytes := cd) (maxL := mL) ⟨C.1, C.2.1, C.2.2.1, C.2.2.2.2.2.1, hts⟩ hC ⟨callB_of a hts (tb_in2 (M' := (y, cd, mL, none, fr, lo)) (Ts := TB) hcd) rfl rfl rfl (hts _ hini) (hts _ hlk) hy ⟨hfr, hlo⟩, hyn, hts _ hin⟩ ⟨WO.blind, fun U hU hW => ⟨rfl, WO.of C.2.2.2.2.2.2.2.1 hw hS hz hU hW⟩⟩ rfl ha hl.1 hst0 (lv_room hst) hd ⟨hmc, hms⟩
theorem a_callIN {M' : Mt} {mc' ms' idx i : Nat} {st0 As : List Value} {Q' : Qt} {a : Nat} {host : String}
    (hlk : (M.1.cls, idx, M'.1, host) ∈ nests) (hin : Cond.instanceMethod M'.1 ∈ TB) (hini : Cond.initialized M'.1.cls ∈ TB) (hcd : Cond.code M'.1 M'.2.1 M'.2.2.1 none ∈ TB) (hrt : M'.2.2.2.1 = none) (hyn : M'.1.name = "<init>") (hy : M'.1.cls ≠ "java/lang/invoke/MethodHandle" ∧ M'.1.cls ≠ "java/lang/invoke/VarHandle" ∧ (parseMethodDescriptor M'.1.desc).map (fun d => d.parameters.length) = some a) (ha : As.length = a) (hfr : M'.2.2.2.2.1 + 1 ≤ M.2.2.2.2.1) (hlo : 8 + (M'.2.2.1 + 11) + M'.2.2.2.2.2 ≤ M.2.2.2.2.2) (hst0 : st0 = As.reverse ++ .ref i :: st) (hst : (st.map fun v => v.category).sum ≤ 8) (hmc : k + mc' ≤ mc) (hms : n + ms' ≤ ms)
    (hd : decode M.2.1 pc = .ok (.invokespecial idx, 3)) (hC : Cx g M' (.ref i :: As) sh σ mc' ms' Q')
    (h : ∀ (r : Option Value) (sh' : List Sh) (σ' : St), Q' r sh' σ' → sh'.length = sh.length + mc' → Ax g M mc ms Z sh' σ' (k + mc') (n + ms') (pc + 3) lv (r.toList ++ st)) : Ax g M mc ms Z sh σ k n pc lv st0 := by
  refine a_run (as := (Value.ref i :: As).toArray) rfl (fun p e s m args below meth c H locs ls C hw hk hS hl hz => ?_) h
  have hts := C.2.2.2.2.2.2.1
  have hNS : NSx s := C.2.2.2.2.2.2.2.1.2.2.2.2.2.2.2.1.2
  obtain ⟨y, cd, mL, rt, fr, lo⟩ := M'
  simp only at hrt
  subst hrt
  exact va_runIN (Ts := TB) (own := M.1.cls) (host := host) (nL := M.2.2.1) (cc := M.2.1) (As := As) (b := i) (n := a) (bytes := cd) (maxL := mL) ⟨C.1, C.2.1, C.2.2.1, C.2.2.2.2.2.1, hts⟩ hC ⟨va_cnB a hts (tb_in2 (M' := (y, cd, mL, none, fr, lo)) (Ts := TB) hcd) rfl rfl rfl (hNS.1 _ hlk) (hts _ hini) hy ⟨hfr, hlo⟩, hyn, hts _ hin⟩ ⟨WO.blind, fun U hU hW => ⟨rfl, WO.of C.2.2.2.2.2.2.2.1 hw hS hz hU hW⟩⟩ rfl ha hl.1 hst0 (lv_room hst) hd ⟨hmc, hms⟩
end
