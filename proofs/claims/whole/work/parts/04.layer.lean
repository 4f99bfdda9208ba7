-- the layer: a world of shapes and numbers, the judgement Ax over it
abbrev Sh : Type := (Nat × List (Nat × Nat)) ⊕ (Nat × Nat × List Nat)
abbrev St : Type := (Nat → Nat → Int32) × (Nat → Nat → Int64) × (Nat → Nat → Int32) × (Nat → Nat → Int64)
def fi (σ : St) : Nat → Nat → Int32 := σ.1
def fj (σ : St) : Nat → Nat → Int64 := σ.2.1
def ai (σ : St) : Nat → Nat → Int32 := σ.2.2.1
def aj (σ : St) : Nat → Nat → Int64 := σ.2.2.2
def up2 {α : Type} (f : Nat → Nat → α) (i k : Nat) (v : α) : Nat → Nat → α := fun a b => if a = i ∧ b = k then v else f a b
def up1 {α : Type} (f : Nat → Nat → α) (i : Nat) (v : Nat → α) : Nat → Nat → α := fun a => if a = i then v else f a
def sfi (σ : St) (i k : Nat) (v : Int32) : St := (up2 σ.1 i k v, σ.2)
def sfj (σ : St) (i k : Nat) (v : Int64) : St := (σ.1, up2 σ.2.1 i k v, σ.2.2)
def sai (σ : St) (i k : Nat) (v : Int32) : St := (σ.1, σ.2.1, up2 σ.2.2.1 i k v, σ.2.2.2)
def saj (σ : St) (i k : Nat) (v : Int64) : St := (σ.1, σ.2.1, σ.2.2.1, up2 σ.2.2.2 i k v)
/-- a whole row anew -/
def rai (σ : St) (i : Nat) (v : Nat → Int32) : St := (σ.1, σ.2.1, up1 σ.2.2.1 i v, σ.2.2.2)
def raj (σ : St) (i : Nat) (v : Nat → Int64) : St := (σ.1, σ.2.1, σ.2.2.1, up1 σ.2.2.2 i v)
abbrev Gx : Type := Launch × va_G × Nat × (Nat → ClassId) × (Nat → Nat) × (Nat → Nat) × Nat × Nat × Nat × (Nat → Int32)
def gL (g : Gx) : Launch := g.1
def gD (g : Gx) : va_G := g.2.1
def gB (g : Gx) : Nat := g.2.2.1
def gC (g : Gx) : Nat → ClassId := g.2.2.2.1
def gK (g : Gx) : Nat → Nat := g.2.2.2.2.1
def gV (g : Gx) : Nat → Nat := g.2.2.2.2.2.1
def gS (g : Gx) : Nat := g.2.2.2.2.2.2.1
def gXb (g : Gx) : Nat := g.2.2.2.2.2.2.2.1
def gXL (g : Gx) : Nat := g.2.2.2.2.2.2.2.2.1
def gXs (g : Gx) : Nat → Int32 := g.2.2.2.2.2.2.2.2.2
def fvl (g : Gx) (σ : St) (i k : Nat) (q : Nat × Nat) : Value := if q.1 = 0 then .int (fi σ i k) else if q.1 = 1 then .long (fj σ i k) else if q.1 = 2 then .ref (gB g + q.2) else .null
def rfx (g : Gx) (rs : List Nat) (j : Nat) : Option Nat := match rs[j]? with
  | some (r + 1) => some (gB g + r)
  | _ => none
def acn (g : Gx) (σ : St) (i : Nat) (a : Nat × Nat × List Nat) : (Nat → Int32) ⊕ (Nat → Int64) ⊕ (Nat → UInt32) ⊕ (Nat → UInt64) ⊕ (Nat → Option Nat) := if a.1 = 1 then .inr (.inl (aj σ i)) else if a.1 ≤ 3 then .inl (ai σ i) else .inr (.inr (.inr (.inr (rfx g a.2.2))))
def cel (g : Gx) (σ : St) (i : Nat) (x : Sh) : va_E := match x with
  | .inl o => .inr (o.1, o.2.mapIdx (fvl g σ i))
  | .inr a => .inl (gC g a.1, a.2.1, acn g σ i a)
def wsx (g : Gx) (sh : List Sh) (σ : St) : va_W := sh.mapIdx (fun i x => (gB g + i, cel g σ i x))
def tysx (g : Gx) : List (ClassId × FieldType) := [(gC g 0, .int), (gC g 1, .long), (gC g 2, .byte), (gC g 3, .boolean), (gC g 4, .object "BallBox$Rule"), (gC g 5, .object "BallBox$State")]
def Ao (g : Gx) : Nat → Prop := fun q => gB g ≤ q
def strs : List (String × Nat × String × Nat) := [("BallBox$BoxReader", 56, "row", 0), ("BallBox$BoxReader", 72, "ball", 1), ("BallBox$RuleReader", 106, "ball x    y    aheadway  tips home stepsnot  and  or   firstif   ", 2), ("BallBox$RuleReader", 121, "+-*/%<=>;[]", 3), ("BallBoxModel", 317, "row", 0), ("BallBoxModel", 195, "ball", 1), ("BallBoxModel", 337, "first", 4), ("BallBoxModel", 197, "x", 5), ("BallBoxModel", 199, "y", 6), ("BallBoxModel", 201, "ahead", 7), ("BallBoxModel", 203, "way", 8), ("BallBoxModel", 205, "tips", 9), ("BallBoxModel", 207, "home", 10), ("BallBoxModel", 209, "steps", 11), ("BallBoxModel", 339, "if", 12), ("BallBoxModel", 290, "not", 13), ("BallBoxModel", 304, "and", 14), ("BallBoxModel", 306, "or", 15)]
def stx : List String := ["row", "ball", "ball x    y    aheadway  tips home stepsnot  and  or   firstif   ", "+-*/%<=>;[]", "first", "x", "y", "ahead", "way", "tips", "home", "steps", "if", "not", "and", "or"]
def sbyt : List (List Int32) := stx.map (fun t => t.toList.map (fun ch => Int32.ofNat ch.toNat))
def slen : List Nat := stx.map (fun t => t.toList.length)
def nests : List (String × Nat × MethodName × String) := [("BallBox", 9, y_TA_init, "BallBox"), ("BallBox", 18, y_BR_init, "BallBox"), ("BallBox", 25, y_RR_init, "BallBox"), ("BallBox$RuleReader", 20, y_RU_init, "BallBox"), ("BallBox$Roller", 26, y_RU_init, "BallBox")]
def NSx (U : State) : Prop := (∀ q ∈ nests, va_Nw (.methodLinkNest q.1 q.2.1 q.2.2.1 q.2.2.2) U) ∧ va_AO "BallBox$Rule" U ∧ va_AO "BallBox$State" U
def STx (g : Gx) (U : State) (H : Heap) : Prop :=
  (∀ q ∈ strs, vk_R q.1 q.2.1 q.2.2.1 (gK g q.2.2.2) U) ∧ vk_S 16 slen sbyt (gK g) (gV g) (Ao g) U H ∧ va_Z "java/lang/String" "COMPACT_STRINGS" "Z" (.int 1) (Ao g) U H ∧
  va_Zq "jdk/internal/util/Preconditions" "SIOOBE_FORMATTER" "Ljava/util/function/BiFunction;" (Ao g) U H ∧
  va_Z "BallBox$Roller" "STEPS" "[I" (.ref (gS g)) (Ao g) U H ∧ va_T .int (gS g) 4 (fun j => .int (([-8, 1, 8, -1] : List Int32).getD j 0)) (Ao g) U H ∧
  va_X (gXb g) (gXL g) (gXs g) U H ∧ (gXb g < gB g ∧ NSx U) ∧ gB g ≤ H.size
theorem STx.go {g : Gx} {s U : State} {H : Heap} {locs : List Loc} (h : STx g s s.heap) (hS : va_S (Ao g) s.heap H locs) (hW : s.WarmedH U.vm) (hH : U.heap = H) : STx g U U.heap := by
  obtain ⟨h1, h2, h3, h4, h5, h6, h7, ⟨h8, n1, n2, n3⟩, h9⟩ := h
  subst hH
  have hv := hW.alike
  refine ⟨fun q hq => (h1 q hq).warm hW, vk_S.moved hv (h2.kept hS.2.1), va_Z.moved hv (h3.kept hS.2.1), va_Zq.moved hv (h4.kept hS.2.1), va_Z.moved hv (h5.kept hS.2.1), va_T.moved hv (h6.kept hS.2.1), va_X.moved hv (h7.kept (hS.2.1 _ (Nat.lt_of_lt_of_le h8 h9) (Nat.not_le.mpr h8))), ⟨h8, fun q hq => (n1 q hq).warmM hW, va_AO.moved hv n2, va_AO.moved hv n3⟩, Nat.le_trans h9 hS.1⟩
theorem STx.same {g : Gx} {u U : State} (h : STx g u u.heap) (hv : U.vm = u.vm) (hH : U.heap = u.heap) : STx g U U.heap := by
  obtain ⟨h1, h2, h3, h4, h5, h6, h7, ⟨h8, n1, n2, n3⟩, h9⟩ := h
  have ha : u.vm.Alike U.vm := by rw [hv]; exact Vm.Alike.refl u.vm
  rw [hH]
  exact ⟨fun q hq => (h1 q hq).same hv, vk_S.moved ha h2, va_Z.moved ha h3, va_Zq.moved ha h4, va_Z.moved ha h5, va_T.moved ha h6, va_X.moved ha h7, ⟨h8, fun q hq => (n1 q hq).same rfl hv.symm, va_AO.moved ha n2, va_AO.moved ha n3⟩, h9⟩
theorem wsx_get {g : Gx} {sh : List Sh} {σ : St} {i : Nat} {x : Sh} (h : sh[i]? = some x) : (wsx g sh σ)[i]? = some (gB g + i, cel g σ i x) := by
  simp [wsx, List.getElem?_mapIdx, h]
theorem wsx_at {g : Gx} {sh : List Sh} {σ : St} {i : Nat} {p : Nat × va_E} (h : (wsx g sh σ)[i]? = some p) : ∃ x, sh[i]? = some x ∧ p = (gB g + i, cel g σ i x) := by
  simp only [wsx, List.getElem?_mapIdx, Option.map_eq_some_iff] at h
  obtain ⟨x, h1, h2⟩ := h
  exact ⟨x, h1, h2.symm⟩
theorem wsx_D {g : Gx} {sh : List Sh} {σ : St} : va_D (Ao g) (wsx g sh σ) := by
  refine ⟨fun i j p q hi hj e => ?_, fun k q hk => ?_⟩
  · obtain ⟨x, -, rfl⟩ := wsx_at hi
    obtain ⟨y, -, rfl⟩ := wsx_at hj
    simp only at e
    omega
  · obtain ⟨x, -, rfl⟩ := wsx_at hk
    exact Nat.le_add_right _ _
theorem wsx_len {g : Gx} {sh : List Sh} {σ : St} : (wsx g sh σ).length = sh.length := by simp [wsx]
/-- one cell anew: the other cells don't see it -/
theorem wsx_set {g : Gx} {sh : List Sh} {σ σ' : St} {i : Nat} {x : Sh} {e : va_E} (hi : sh[i]? = some x) (he : cel g σ' i x = e) (ho : ∀ j y, j ≠ i → cel g σ' j y = cel g σ j y) : (wsx g sh σ).set i (gB g + i, e) = wsx g sh σ' := by
  apply List.ext_getElem?
  intro j
  have hl : i < (wsx g sh σ).length := by rw [wsx_len]; exact (List.getElem?_eq_some_iff.mp hi).1
  by_cases hj : j = i
  · subst hj
    rw [List.getElem?_set_self hl, wsx_get hi, he]
  · rw [List.getElem?_set_ne (Ne.symm hj)]
    simp only [wsx, List.getElem?_mapIdx]
    cases sh[j]? with
    | none => rfl
    | some y => simp [ho j y hj]
theorem fvl_ne {g : Gx} {σ σ' : St} {i : Nat} (h1 : ∀ k, fi σ' i k = fi σ i k) (h2 : ∀ k, fj σ' i k = fj σ i k) : fvl g σ' i = fvl g σ i := by
  funext k q
  simp [fvl, h1, h2]
theorem cel_ne {g : Gx} {σ σ' : St} {i : Nat} (h1 : ∀ k, fi σ' i k = fi σ i k) (h2 : ∀ k, fj σ' i k = fj σ i k) (h3 : ai σ' i = ai σ i) (h4 : aj σ' i = aj σ i) (x : Sh) : cel g σ' i x = cel g σ i x := by
  cases x with
  | inl o => simp only [cel, fvl_ne h1 h2]
  | inr a => simp only [cel, acn, h3, h4]
theorem wsx_sfi {g : Gx} {sh : List Sh} {σ : St} {i k r ci : Nat} {fs : List (Nat × Nat)} {v : Int32} (hi : sh[i]? = some (.inl (ci, fs))) (hk : fs[k]? = some (0, r)) : (wsx g sh σ).set i (gB g + i, .inr (ci, (fs.mapIdx (fvl g σ i)).set k (.int v))) = wsx g sh (sfi σ i k v) := by
  refine wsx_set hi ?_ (fun j y hj => cel_ne (σ := σ) (σ' := sfi σ i k v) (fun k' => by simp [fi, sfi, up2, hj]) (fun _ => rfl) rfl rfl y)
  show Sum.inr (ci, _) = Sum.inr (ci, _)
  congr 2
  apply List.ext_getElem?
  intro k'
  have hl : k < (fs.mapIdx (fvl g σ i)).length := by simpa using (List.getElem?_eq_some_iff.mp hk).1
  by_cases e : k' = k
  · subst e
    rw [List.getElem?_set_self hl]
    simp [List.getElem?_mapIdx, hk, fvl, fi, sfi, up2]
  · rw [List.getElem?_set_ne (Ne.symm e)]
    simp only [List.getElem?_mapIdx]
    cases fs[k']? with
    | none => rfl
    | some q => simp [fvl, fi, fj, sfi, up2, e]
theorem wsx_sfj {g : Gx} {sh : List Sh} {σ : St} {i k r ci : Nat} {fs : List (Nat × Nat)} {v : Int64} (hi : sh[i]? = some (.inl (ci, fs))) (hk : fs[k]? = some (1, r)) : (wsx g sh σ).set i (gB g + i, .inr (ci, (fs.mapIdx (fvl g σ i)).set k (.long v))) = wsx g sh (sfj σ i k v) := by
  refine wsx_set hi ?_ (fun j y hj => cel_ne (σ := σ) (σ' := sfj σ i k v) (fun _ => rfl) (fun k' => by simp [fj, sfj, up2, hj]) rfl rfl y)
  show Sum.inr (ci, _) = Sum.inr (ci, _)
  congr 2
  apply List.ext_getElem?
  intro k'
  have hl : k < (fs.mapIdx (fvl g σ i)).length := by simpa using (List.getElem?_eq_some_iff.mp hk).1
  by_cases e : k' = k
  · subst e
    rw [List.getElem?_set_self hl]
    simp [List.getElem?_mapIdx, hk, fvl, fj, sfj, up2]
  · rw [List.getElem?_set_ne (Ne.symm e)]
    simp only [List.getElem?_mapIdx]
    cases fs[k']? with
    | none => rfl
    | some q => simp [fvl, fi, fj, sfj, up2, e]
theorem wsx_sai {g : Gx} {sh : List Sh} {σ : St} {i kd n j : Nat} {rs : List Nat} {v : Int32} (hi : sh[i]? = some (.inr (kd, n, rs))) (hk : kd ≠ 1) (hk3 : kd ≤ 3) : (wsx g sh σ).set i (gB g + i, .inl (gC g kd, n, .inl (upd (ai σ i) j v))) = wsx g sh (sai σ i j v) := by
  refine wsx_set hi ?_ (fun j' y hj => cel_ne (σ := σ) (σ' := sai σ i j v) (fun _ => rfl) (fun _ => rfl) (by funext q; simp [ai, sai, up2, hj]) rfl y)
  simp only [cel, acn, if_neg hk, if_pos hk3]
  congr 4
  funext q
  simp [ai, sai, up2, upd]
theorem wsx_saj {g : Gx} {sh : List Sh} {σ : St} {i n j : Nat} {rs : List Nat} {v : Int64} (hi : sh[i]? = some (.inr (1, n, rs))) : (wsx g sh σ).set i (gB g + i, .inl (gC g 1, n, .inr (.inl (vp_updL (aj σ i) j v)))) = wsx g sh (saj σ i j v) := by
  refine wsx_set hi ?_ (fun j' y hj => cel_ne (σ := σ) (σ' := saj σ i j v) (fun _ => rfl) (fun _ => rfl) rfl (by funext q; simp [aj, saj, up2, hj]) y)
  simp only [cel, acn, if_true]
  congr 5
  funext q
  simp [aj, saj, up2, vp_updL]
theorem wsx_rai {g : Gx} {sh : List Sh} {σ : St} {i kd n : Nat} {rs : List Nat} {f : Nat → Int32} (hi : sh[i]? = some (.inr (kd, n, rs))) (hk : kd ≠ 1) (hk3 : kd ≤ 3) : (wsx g sh σ).set i (gB g + i, .inl (gC g kd, n, .inl f)) = wsx g sh (rai σ i f) := by
  refine wsx_set hi ?_ (fun j' y hj => cel_ne (σ := σ) (σ' := rai σ i f) (fun _ => rfl) (fun _ => rfl) (by simp [ai, rai, up1, hj]) rfl y)
  simp only [cel, acn, if_neg hk, if_pos hk3]
  congr 4
  simp [ai, rai, up1]
theorem wsx_raj {g : Gx} {sh : List Sh} {σ : St} {i n : Nat} {rs : List Nat} {f : Nat → Int64} (hi : sh[i]? = some (.inr (1, n, rs))) : (wsx g sh σ).set i (gB g + i, .inl (gC g 1, n, .inr (.inl f))) = wsx g sh (raj σ i f) := by
  refine wsx_set hi ?_ (fun j' y hj => cel_ne (σ := σ) (σ' := raj σ i f) (fun _ => rfl) (fun _ => rfl) rfl (by simp [aj, raj, up1, hj]) y)
  simp only [cel, acn, if_true]
  congr 5
  simp [aj, raj, up1]
