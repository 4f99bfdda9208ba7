-- what the world holds at the start: the strings, the steps, the classes
def tmP : List (String × Nat) := [("BallBox$BoxReader", 56), ("BallBox$BoxReader", 72), ("BallBox$RuleReader", 106), ("BallBox$RuleReader", 121), ("BallBoxModel", 337), ("BallBoxModel", 197), ("BallBoxModel", 199), ("BallBoxModel", 201), ("BallBoxModel", 203), ("BallBoxModel", 205), ("BallBoxModel", 207), ("BallBoxModel", 209), ("BallBoxModel", 339), ("BallBoxModel", 290), ("BallBoxModel", 304), ("BallBoxModel", 306)]
def tmS (i : Nat) : Term := .string (tmP.getD i ("", 0)).1 (tmP.getD i ("", 0)).2
def ofS : List Nat := [42, 49, 58, 129, 171, 186, 198, 211, 229, 246, 265, 285, 307, 327, 349, 372]
def slN : List Nat := [3, 4, 65, 11, 5, 1, 1, 5, 3, 4, 4, 5, 2, 3, 3, 2]
def FLc : List Cond := flatC (Jvm.Cond.and given_1 narrow_1)
theorem slN_eq : slen = slN := by decide +kernel
theorem fl_ex : ∀ i, i < 16 → FLc[ofS.getD i 0]? = some (Cond.exactly (tmS i) "java/lang/String") := by decide +kernel
theorem fl_co : ∀ i, i < 16 → FLc[ofS.getD i 0 + 1]? = some (Cond.eq (.field (tmS i) "java/lang/String" "coder" "B") (.int 0)) := by decide +kernel
theorem fl_ar : ∀ i, i < 16 → FLc[ofS.getD i 0 + 2]? = some (Cond.arrayOf (.field (tmS i) "java/lang/String" "value" "[B") .byte) := by decide +kernel
theorem fl_le : ∀ i, i < 16 → FLc[ofS.getD i 0 + 3]? = some (Cond.eq (.length (.field (tmS i) "java/lang/String" "value" "[B")) (.int (Int32.ofNat (slN.getD i 0)))) := by decide +kernel
theorem fl_el : ∀ i, i < 16 → ∀ j, j < slN.getD i 0 → FLc[ofS.getD i 0 + 4 + j]? = some (Cond.eq (.elem (.field (tmS i) "java/lang/String" "value" "[B") (.int (Int32.ofNat j))) (.int ((sbyt.getD i []).getD j 0))) := by decide +kernel
theorem fl_ne : ∀ j, j < 16 → ∀ i, i < j → FLc[ofS.getD j 0 + 4 + slN.getD j 0 + (if i < 4 then i else i + 2)]? = some (Cond.not (Cond.eq (tmS i) (tmS j))) := by decide +kernel
theorem fl_q0 : FLc[154]? = some (Cond.eq (tmS 0) (.string "BallBoxModel" 317)) := by decide +kernel
theorem fl_q1 : FLc[167]? = some (Cond.eq (tmS 1) (.string "BallBoxModel" 195)) := by decide +kernel
theorem fl_cs : FLc[4]? = some (Cond.eq (.static "java/lang/String" "COMPACT_STRINGS" "Z") (.int 1)) := by decide +kernel
theorem fl_fm : FLc[5]? = some (Cond.isRef (.static "jdk/internal/util/Preconditions" "SIOOBE_FORMATTER" "Ljava/util/function/BiFunction;")) := by decide +kernel
theorem fl_sa : FLc[10]? = some (Cond.arrayOf (.static "BallBox$Roller" "STEPS" "[I") .int) := by decide +kernel
theorem fl_sl : FLc[11]? = some (Cond.eq (.length (.static "BallBox$Roller" "STEPS" "[I")) (.int (Int32.ofNat 4))) := by decide +kernel
theorem fl_se : ∀ j, j < 4 → FLc[12 + j]? = some (Cond.eq (.elem (.static "BallBox$Roller" "STEPS" "[I") (.int (Int32.ofNat j))) (.int (([-8, 1, 8, -1] : List Int32).getD j 0))) := by decide +kernel
theorem lt_str : ∀ q ∈ strs, Cond.stringRef q.1 q.2.1 q.2.2.1 ∈ lw_tbl := by decide +kernel
theorem lt_nst : ∀ q ∈ nests, Cond.methodLinkNest q.1 q.2.1 q.2.2.1 q.2.2.2 ∈ lw_tbl := by decide +kernel
theorem lt_ao : Cond.arrayOver (.object "BallBox$Rule") ∈ lw_tbl ∧ Cond.arrayOver (.object "BallBox$State") ∈ lw_tbl := by decide +kernel
theorem lt_ac : Cond.arrayClass .int ∈ lw_tbl ∧ Cond.arrayClass .long ∈ lw_tbl ∧ Cond.arrayClass .byte ∈ lw_tbl ∧ Cond.arrayClass .boolean ∈ lw_tbl := by decide +kernel
theorem lt_cs : Cond.laysStatic "java/lang/String" "COMPACT_STRINGS" "Z" ∈ lw_tbl ∧ Cond.initialized "java/lang/String" ∈ lw_tbl := by decide +kernel
theorem lt_fm : Cond.laysStatic "jdk/internal/util/Preconditions" "SIOOBE_FORMATTER" "Ljava/util/function/BiFunction;" ∈ lw_tbl ∧ Cond.initialized "jdk/internal/util/Preconditions" ∈ lw_tbl := by decide +kernel
theorem lt_ss : Cond.laysStatic "BallBox$Roller" "STEPS" "[I" ∈ lw_tbl ∧ Cond.initialized "BallBox$Roller" ∈ lw_tbl := by decide +kernel
theorem lt_i0 : Cond.instantiable RX0 1 ∈ lw_tbl := by decide +kernel
theorem lt_i1 : Cond.instantiable RX1 5 ∈ lw_tbl := by decide +kernel
theorem lt_i2 : Cond.instantiable RX2 10 ∈ lw_tbl := by decide +kernel
theorem lt_i3 : Cond.instantiable RX3 16 ∈ lw_tbl := by decide +kernel
theorem lt_i4 : Cond.instantiable RX4 8 ∈ lw_tbl := by decide +kernel
theorem lt_i5 : Cond.instantiable RX5 7 ∈ lw_tbl := by decide +kernel
theorem lt_i6 : Cond.instantiable RX6 7 ∈ lw_tbl := by decide +kernel
theorem lt_i7 : Cond.instantiable RX7 8 ∈ lw_tbl := by decide +kernel
theorem lt_i8 : Cond.instantiable RX8 15 ∈ lw_tbl := by decide +kernel
theorem lt_i9 : Cond.instantiable RX9 4 ∈ lw_tbl := by decide +kernel
theorem lt_i10 : Cond.instantiable RX10 8 ∈ lw_tbl := by decide +kernel
theorem lt_i11 : Cond.instantiable RX11 15 ∈ lw_tbl := by decide +kernel
theorem lt_i12 : Cond.instantiable RX12 76 ∈ lw_tbl := by decide +kernel
theorem arr_prim {s : State} {args : Array Value} {ty : FieldType} (h : (Cond.arrayClass ty).before args s = true) : ∃ c, ArrOfT s c ty ∧ s.vm.findClass ("[" ++ ty.toString) = some c := by
  obtain ⟨c, k, comp, h1, h2, h3⟩ := Cond.arrayClass_spec (args := args) (first := s) (o := none) (s := s) (idx := []) h
  exact ⟨c, fun n z => ⟨fun _ e => (by cases e), k, h2, comp, h3⟩, h1⟩
theorem arr_obj {s : State} {args : Array Value} {C : String} (h : (Cond.arrayOver (.object C)).before args s = true) : ∃ c, ArrOfT s c (.object C) ∧ va_RA s c (.object C) := by
  obtain ⟨comp, c, k, f4, -, f2, f3, f1⟩ := Cond.arrayOver_spec (args := args) (first := s) (o := none) (s := s) (idx := []) h
  exact ⟨c, fun n z => ⟨fun _ e => (by cases e), k, f2, comp, f3⟩, k, comp, f2, f3, f4, f1⟩
/-- the strings -/
theorem start_S {args : Array Value} {s : State} {A : Nat → Prop} (hs : ∀ w ∈ FLc, w.before args s = true) (hA : ∀ a : Nat, a < s.heap.size → ¬ A a) : ∃ adK adV : Nat → Nat, vk_S 16 slen sbyt adK adV A s s.heap ∧ ∀ i : Nat, i < 16 → (tmS i).eval args s none [] s = some (.ref (adK i)) := by
  have at_ : ∀ {k : Nat} {w : Cond}, FLc[k]? = some w → w.before args s = true := fun h => hs _ (List.mem_of_getElem? h)
  rw [slN_eq]
  refine vk_Sof (by decide) (fun i hi => at_ (fl_ex i hi)) (fun i hi => at_ (fl_co i hi)) (fun i hi => at_ (fl_ar i hi)) (fun i hi => at_ (fl_le i hi)) (fun i hi j hj => at_ (fl_el i hi j hj)) (fun i j hi hj hn => ?_) hA
  by_cases c : i < j
  · exact Or.inl (at_ (fl_ne j hj i c))
  · exact Or.inr (at_ (fl_ne i hi j (by omega)))
set_option maxHeartbeats 1000000 in
theorem start_g {p : Program} {s : State} {m : MethodId} {meth : Method} {c : Code} (l : Launch) {b L : Nat} {xs : Nat → Int32} (C0 : lw_At p s m meth c b L xs) : ∃ g : Gx, gL g = l ∧ gB g = s.heap.size ∧ gXb g = b ∧ gXL g = L ∧ STx g s s.heap ∧ va_K (gD g) vwCl (tysx g) s := by
  obtain ⟨-, -, -, -, -, hts, hX, hbl, -, hgv⟩ := C0
  have hs : ∀ w ∈ FLc, w.before #[Value.ref b] s = true := flat_of_before _ hgv
  have at_ : ∀ {k : Nat} {w : Cond}, FLc[k]? = some w → w.before #[Value.ref b] s = true := fun h => hs _ (List.mem_of_getElem? h)
  have hA : ∀ a : Nat, a < s.heap.size → ¬ (fun q : Nat => s.heap.size ≤ q) a := fun a h => Nat.not_le.mpr h
  have hTB : ∀ w ∈ TB, w.before #[Value.ref b] s = true := fun w hw => hts w ((List.mem_filter.mp hw).1)
  obtain ⟨adK, adV, hvS, hev⟩ := start_S hs hA
  obtain ⟨tS, hst, hvT⟩ := va_Tof (tm := .static "BallBox$Roller" "STEPS" "[I") (ty := .int) (N := 4) (f := fun j => .int (([-8, 1, 8, -1] : List Int32).getD j 0)) (by decide) (at_ fl_sa) (va_eqt (at_ fl_sl)) (fun j hj => va_eqt (at_ (fl_se j hj))) hA
  obtain ⟨c0, i0, k0⟩ := u_known (C := RX0) (T := TX0) (N := 1) (n := 1) hTB uw0 (hts _ lt_i0)
  obtain ⟨c1, i1, k1⟩ := u_known (C := RX1) (T := TX1) (N := 5) (n := 5) hTB uw1 (hts _ lt_i1)
  obtain ⟨c2, i2, k2⟩ := u_known (C := RX2) (T := TX2) (N := 10) (n := 10) hTB uw2 (hts _ lt_i2)
  obtain ⟨c3, i3, k3⟩ := u_known (C := RX3) (T := TX3) (N := 16) (n := 16) hTB uw3 (hts _ lt_i3)
  obtain ⟨c4, i4, k4⟩ := u_known (C := RX4) (T := TX4) (N := 8) (n := 8) hTB uw4 (hts _ lt_i4)
  obtain ⟨c5, i5, k5⟩ := u_known (C := RX5) (T := TX5) (N := 7) (n := 7) hTB uw5 (hts _ lt_i5)
  obtain ⟨c6, i6, k6⟩ := u_known (C := RX6) (T := TX6) (N := 7) (n := 7) hTB uw6 (hts _ lt_i6)
  obtain ⟨c7, i7, k7⟩ := u_known (C := RX7) (T := TX7) (N := 8) (n := 8) hTB uw7 (hts _ lt_i7)
  obtain ⟨c8, i8, k8⟩ := u_known (C := RX8) (T := TX8) (N := 15) (n := 15) hTB uw8 (hts _ lt_i8)
  obtain ⟨c9, i9, k9⟩ := u_known (C := RX9) (T := TX9) (N := 4) (n := 4) hTB uw9 (hts _ lt_i9)
  obtain ⟨c10, i10, k10⟩ := u_known (C := RX10) (T := TX10) (N := 8) (n := 8) hTB uw10 (hts _ lt_i10)
  obtain ⟨c11, i11, k11⟩ := u_known (C := RX11) (T := TX11) (N := 15) (n := 15) hTB uw11 (hts _ lt_i11)
  obtain ⟨c12, i12, k12⟩ := u_known (C := RX12) (T := TX12) (N := 76) (n := 76) hTB uw12 (hts _ lt_i12)
  obtain ⟨aI, aI1, aI2⟩ := arr_prim (hts _ lt_ac.1)
  obtain ⟨aJ, aJ1, aJ2⟩ := arr_prim (hts _ lt_ac.2.1)
  obtain ⟨aB, aB1, aB2⟩ := arr_prim (hts _ lt_ac.2.2.1)
  obtain ⟨aZ, aZ1, aZ2⟩ := arr_prim (hts _ lt_ac.2.2.2)
  obtain ⟨aR, aR1, aR2⟩ := arr_obj (hts _ lt_ao.1)
  obtain ⟨aS, aS1, aS2⟩ := arr_obj (hts _ lt_ao.2)
  have hstr : ∀ q ∈ strs, vk_R q.1 q.2.1 q.2.2.1 (adK q.2.2.2) s := by
    intro q hq
    refine vk_R.of (hts _ (lt_str q hq)) ?_
    simp only [strs, List.mem_cons, List.not_mem_nil, or_false] at hq
    rcases hq with rfl | rfl | rfl | rfl | rfl | rfl | rfl | rfl | rfl | rfl | rfl | rfl | rfl | rfl | rfl | rfl | rfl | rfl
    · exact hev 0 (by decide)
    · exact hev 1 (by decide)
    · exact hev 2 (by decide)
    · exact hev 3 (by decide)
    · exact va_eqR (at_ fl_q0) (hev 0 (by decide))
    · exact va_eqR (at_ fl_q1) (hev 1 (by decide))
    · exact hev 4 (by decide)
    · exact hev 5 (by decide)
    · exact hev 6 (by decide)
    · exact hev 7 (by decide)
    · exact hev 8 (by decide)
    · exact hev 9 (by decide)
    · exact hev 10 (by decide)
    · exact hev 11 (by decide)
    · exact hev 12 (by decide)
    · exact hev 13 (by decide)
    · exact hev 14 (by decide)
    · exact hev 15 (by decide)
  refine ⟨(l, (fun k => [c0, c1, c2, c3, c4, c5, c6, c7, c8, c9, c10, c11, c12].getD k c0, fun k => [i0, i1, i2, i3, i4, i5, i6, i7, i8, i9, i10, i11, i12].getD k i0), s.heap.size, fun k => [aI, aJ, aB, aZ, aR, aS].getD k aI, adK, adV, tS, b, L, xs), rfl, rfl, rfl, rfl, ?_, ?_⟩
  · exact ⟨hstr, hvS, va_Zof (hts _ lt_cs.1) (hts _ lt_cs.2) (va_eqt (at_ fl_cs)) hA, va_Zqof (hts _ lt_fm.1) (hts _ lt_fm.2) (at_ fl_fm) hA, va_Zref (hts _ lt_ss.1) (hts _ lt_ss.2) hst hA, hvT, hX, ⟨hbl, fun q hq => va_Nw.of rfl (hts _ (lt_nst q hq)), va_AO.of (hts _ lt_ao.1), va_AO.of (hts _ lt_ao.2)⟩, Nat.le_refl _⟩
  · refine ⟨fun k q hq => ?_, fun k q hq => ?_⟩
    · match k, hq with
      | 0, hq => cases hq; exact k0
      | 1, hq => cases hq; exact k1
      | 2, hq => cases hq; exact k2
      | 3, hq => cases hq; exact k3
      | 4, hq => cases hq; exact k4
      | 5, hq => cases hq; exact k5
      | 6, hq => cases hq; exact k6
      | 7, hq => cases hq; exact k7
      | 8, hq => cases hq; exact k8
      | 9, hq => cases hq; exact k9
      | 10, hq => cases hq; exact k10
      | 11, hq => cases hq; exact k11
      | 12, hq => cases hq; exact k12
      | k + 13, hq => simp [vwCl] at hq
    · match k, hq with
      | 0, hq => cases hq; exact ⟨aI1, aI2⟩
      | 1, hq => cases hq; exact ⟨aJ1, aJ2⟩
      | 2, hq => cases hq; exact ⟨aB1, aB2⟩
      | 3, hq => cases hq; exact ⟨aZ1, aZ2⟩
      | 4, hq => cases hq; exact ⟨aR1, aR2⟩
      | 5, hq => cases hq; exact ⟨aS1, aS2⟩
      | k + 6, hq => simp [tysx] at hq
