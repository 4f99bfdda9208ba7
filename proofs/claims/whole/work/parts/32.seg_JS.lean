theorem d_JS_length_0 : decode c_JS_length 0 = .ok (.aload_n 0, 1) := by decide +kernel
theorem d_JS_length_1 : decode c_JS_length 1 = .ok (.getfield 9, 3) := by decide +kernel
theorem d_JS_length_4 : decode c_JS_length 4 = .ok (.arraylength, 1) := by decide +kernel
theorem d_JS_length_5 : decode c_JS_length 5 = .ok (.aload_n 0, 1) := by decide +kernel
theorem d_JS_length_6 : decode c_JS_length 6 = .ok (.invokevirtual 335, 3) := by decide +kernel
theorem d_JS_length_9 : decode c_JS_length 9 = .ok (.ishr, 1) := by decide +kernel
theorem d_JS_length_10 : decode c_JS_length 10 = .ok (.ireturn, 1) := by decide +kernel
def S_JS_length_0 (g : Gx) (Q : Int32 → St → Prop) (σ : St) (w0 : Nat) : Prop := Ax g m_JS_length 0 0 (ZI g Q) SH σ 0 0 0 [(0, .ref (gK g w0))] []
theorem sg_JS_length_0 {g : Gx} {Q : Int32 → St → Prop} {σ : St} {w0 : Nat} (hw0 : w0 < 16)
    (h : K_JS_coder g w0 σ (fun (r2 : Int32) (s1 : St) => Q ((Int32.ofNat (slen.getD w0 0)) >>> (r2 &&& 31)) s1)) : S_JS_length_0 g Q σ w0 := by
  show Ax g m_JS_length 0 0 (ZI g Q) SH σ 0 0 0 [(0, .ref (gK g w0))] []
  refine a_aload_n (pc := 0) 0 rfl rfl d_JS_length_0 ?_
  refine a_sgetV (pc := 1) hw0 tw1951 d_JS_length_1 ?_
  refine a_svlen (pc := 4) hw0 d_JS_length_4 ?_
  refine a_aload_n (pc := 5) 0 rfl rfl d_JS_length_5 ?_
  refine a_callStr (pc := 6) (w := w0) (M' := m_JS_coder) (As := []) (st := [.int (Int32.ofNat (slen.getD w0 0))]) lk_JS_335 rfl rfl hw0 (by decide) (by decide) rfl (Nat.le_of_ble_eq_true rfl) (Nat.le_refl 0) (Nat.le_refl 0) d_JS_length_6 h ?_
  rintro _ _ s1 ⟨r2, rfl, rfl, h⟩ -
  show Ax g m_JS_length 0 0 (ZI g Q) SH s1 0 0 9 [(0, .ref (gK g w0))] [.int r2, .int (Int32.ofNat (slen.getD w0 0))]
  refine a_ishr (pc := 9) d_JS_length_9 ?_
  exact b_iret (pc := 10) rfl d_JS_length_10 h
theorem ko_JS_length {g : Gx}  {w0 : Nat} {σ : St} {Q : Int32 → St → Prop} (h : S_JS_length_0 g Q σ w0) : K_JS_length g w0 σ Q := KI.of (show plainName "java/lang/String" = true by decide) (Nat.le_of_ble_eq_true rfl) h
theorem d_JS_charAt_0 : decode c_JS_charAt 0 = .ok (.aload_n 0, 1) := by decide +kernel
theorem d_JS_charAt_1 : decode c_JS_charAt 1 = .ok (.invokevirtual 492, 3) := by decide +kernel
theorem d_JS_charAt_4 : decode c_JS_charAt 4 = .ok (.ifCond .eq 12, 3) := by decide +kernel
theorem d_JS_charAt_7 : decode c_JS_charAt 7 = .ok (.aload_n 0, 1) := by decide +kernel
theorem d_JS_charAt_8 : decode c_JS_charAt 8 = .ok (.getfield 9, 3) := by decide +kernel
theorem d_JS_charAt_11 : decode c_JS_charAt 11 = .ok (.iload_n 1, 1) := by decide +kernel
theorem d_JS_charAt_12 : decode c_JS_charAt 12 = .ok (.invokestatic 495, 3) := by decide +kernel
theorem d_JS_charAt_15 : decode c_JS_charAt 15 = .ok (.ireturn, 1) := by decide +kernel
theorem d_JS_charAt_16 : decode c_JS_charAt 16 = .ok (.aload_n 0, 1) := by decide +kernel
theorem d_JS_charAt_17 : decode c_JS_charAt 17 = .ok (.getfield 9, 3) := by decide +kernel
theorem d_JS_charAt_20 : decode c_JS_charAt 20 = .ok (.iload_n 1, 1) := by decide +kernel
theorem d_JS_charAt_21 : decode c_JS_charAt 21 = .ok (.invokestatic 498, 3) := by decide +kernel
theorem d_JS_charAt_24 : decode c_JS_charAt 24 = .ok (.ireturn, 1) := by decide +kernel
def S_JS_charAt_0 (g : Gx) (Q : Int32 → St → Prop) (σ : St) (w0 : Nat) (x1 : Int32) : Prop := Ax g m_JS_charAt 0 0 (ZI g Q) SH σ 0 0 0 [(0, .ref (gK g w0)), (1, .int x1)] []
theorem sg_JS_charAt_0 {g : Gx} {Q : Int32 → St → Prop} {σ : St} {w0 : Nat} {x1 : Int32} (hw0 : w0 < 16)
    (h : K_JS_isLatin1 g w0 σ (fun (r2 : Int32) (s1 : St) => (r2 = 0 → False) ∧ (¬ r2 = 0 → K_JL_charAt g w0 x1 s1 (fun (r4 : Int32) (s3 : St) => narrow .char (.int r4) = .int r4 ∧ Q r4 s3)))) : S_JS_charAt_0 g Q σ w0 x1 := by
  show Ax g m_JS_charAt 0 0 (ZI g Q) SH σ 0 0 0 [(0, .ref (gK g w0)), (1, .int x1)] []
  refine a_aload_n (pc := 0) 0 rfl rfl d_JS_charAt_0 ?_
  refine a_callStr (pc := 1) (w := w0) (M' := m_JS_isLatin1) (As := []) (st := []) lk_JS_492 rfl rfl hw0 (by decide) (by decide) rfl (Nat.le_of_ble_eq_true rfl) (Nat.le_refl 0) (Nat.le_refl 0) d_JS_charAt_1 h ?_
  rintro _ _ s1 ⟨r2, rfl, rfl, h⟩ -
  show Ax g m_JS_charAt 0 0 (ZI g Q) SH s1 0 0 4 [(0, .ref (gK g w0)), (1, .int x1)] [.int r2]
  refine a_if_eq (pc := 4) 16 (by decide) d_JS_charAt_4 ⟨fun c0 => ?_, fun c0 => ?_⟩
  · replace h := h.1 c0
    refine a_aload_n (pc := 16) 0 rfl rfl d_JS_charAt_16 ?_
    refine a_sgetV (pc := 17) hw0 tw1951 d_JS_charAt_17 ?_
    refine a_iload_n (pc := 20) 1 rfl rfl d_JS_charAt_20 ?_
    exact h.elim
  · replace h := h.2 c0
    refine a_aload_n (pc := 7) 0 rfl rfl d_JS_charAt_7 ?_
    refine a_sgetV (pc := 8) hw0 tw1951 d_JS_charAt_8 ?_
    refine a_iload_n (pc := 11) 1 rfl rfl d_JS_charAt_11 ?_
    refine a_callS (pc := 12) (M' := m_JL_charAt) (As := [.ref (gV g w0), .int x1]) (st := []) (mc' := 0) (ms' := 0) lk_JS_495 rfl (by decide) (by decide) rfl (Nat.le_of_ble_eq_true rfl) (Nat.le_refl 0) (Nat.le_refl 0) d_JS_charAt_12 h ?_
    rintro _ _ s3 ⟨r4, rfl, rfl, h⟩ -
    show Ax g m_JS_charAt 0 0 (ZI g Q) SH s3 0 0 15 [(0, .ref (gK g w0)), (1, .int x1)] [.int r4]
    exact b_nret (pc := 15) rfl h.1 d_JS_charAt_15 h.2
theorem ko_JS_charAt {g : Gx}  {w0 : Nat} {x1 : Int32} {σ : St} {Q : Int32 → St → Prop} (h : S_JS_charAt_0 g Q σ w0 x1) : K_JS_charAt g w0 x1 σ Q := KI.of (show plainName "java/lang/String" = true by decide) (Nat.le_of_ble_eq_true rfl) h
theorem d_JS_indexOf_0 : decode c_JS_indexOf 0 = .ok (.aload_n 0, 1) := by decide +kernel
theorem d_JS_indexOf_1 : decode c_JS_indexOf 1 = .ok (.iload_n 1, 1) := by decide +kernel
theorem d_JS_indexOf_2 : decode c_JS_indexOf 2 = .ok (.iconst 0, 1) := by decide +kernel
theorem d_JS_indexOf_3 : decode c_JS_indexOf 3 = .ok (.invokevirtual 633, 3) := by decide +kernel
theorem d_JS_indexOf_6 : decode c_JS_indexOf 6 = .ok (.ireturn, 1) := by decide +kernel
def S_JS_indexOf_0 (g : Gx) (Q : Int32 → St → Prop) (σ : St) (w0 : Nat) (x1 : Int32) : Prop := Ax g m_JS_indexOf 0 0 (ZI g Q) SH σ 0 0 0 [(0, .ref (gK g w0)), (1, .int x1)] []
theorem sg_JS_indexOf_0 {g : Gx} {Q : Int32 → St → Prop} {σ : St} {w0 : Nat} {x1 : Int32} (hw0 : w0 < 16)
    (h : K_JS_indexOf_1 g w0 x1 (0 : Int32) σ (fun (r2 : Int32) (s1 : St) => Q r2 s1)) : S_JS_indexOf_0 g Q σ w0 x1 := by
  show Ax g m_JS_indexOf 0 0 (ZI g Q) SH σ 0 0 0 [(0, .ref (gK g w0)), (1, .int x1)] []
  refine a_aload_n (pc := 0) 0 rfl rfl d_JS_indexOf_0 ?_
  refine a_iload_n (pc := 1) 1 rfl rfl d_JS_indexOf_1 ?_
  refine a_iconst (pc := 2) (0 : Int32) (by decide) d_JS_indexOf_2 ?_
  refine a_callStr (pc := 3) (w := w0) (M' := m_JS_indexOf_1) (As := [.int x1, .int (0 : Int32)]) (st := []) lk_JS_633 rfl rfl hw0 (by decide) (by decide) rfl (Nat.le_of_ble_eq_true rfl) (Nat.le_refl 0) (Nat.le_refl 0) d_JS_indexOf_3 h ?_
  rintro _ _ s1 ⟨r2, rfl, rfl, h⟩ -
  show Ax g m_JS_indexOf 0 0 (ZI g Q) SH s1 0 0 6 [(0, .ref (gK g w0)), (1, .int x1)] [.int r2]
  exact b_iret (pc := 6) rfl d_JS_indexOf_6 h
theorem ko_JS_indexOf {g : Gx}  {w0 : Nat} {x1 : Int32} {σ : St} {Q : Int32 → St → Prop} (h : S_JS_indexOf_0 g Q σ w0 x1) : K_JS_indexOf g w0 x1 σ Q := KI.of (show plainName "java/lang/String" = true by decide) (Nat.le_of_ble_eq_true rfl) h
theorem d_JS_indexOf_1_0 : decode c_JS_indexOf_1 0 = .ok (.aload_n 0, 1) := by decide +kernel
theorem d_JS_indexOf_1_1 : decode c_JS_indexOf_1 1 = .ok (.invokevirtual 492, 3) := by decide +kernel
theorem d_JS_indexOf_1_4 : decode c_JS_indexOf_1 4 = .ok (.ifCond .eq 19, 3) := by decide +kernel
theorem d_JS_indexOf_1_7 : decode c_JS_indexOf_1 7 = .ok (.aload_n 0, 1) := by decide +kernel
theorem d_JS_indexOf_1_8 : decode c_JS_indexOf_1 8 = .ok (.getfield 9, 3) := by decide +kernel
theorem d_JS_indexOf_1_11 : decode c_JS_indexOf_1 11 = .ok (.iload_n 1, 1) := by decide +kernel
theorem d_JS_indexOf_1_12 : decode c_JS_indexOf_1 12 = .ok (.iload_n 2, 1) := by decide +kernel
theorem d_JS_indexOf_1_13 : decode c_JS_indexOf_1 13 = .ok (.aload_n 0, 1) := by decide +kernel
theorem d_JS_indexOf_1_14 : decode c_JS_indexOf_1 14 = .ok (.invokevirtual 505, 3) := by decide +kernel
theorem d_JS_indexOf_1_17 : decode c_JS_indexOf_1 17 = .ok (.invokestatic 637, 3) := by decide +kernel
theorem d_JS_indexOf_1_20 : decode c_JS_indexOf_1 20 = .ok (.goto 16, 3) := by decide +kernel
theorem d_JS_indexOf_1_23 : decode c_JS_indexOf_1 23 = .ok (.aload_n 0, 1) := by decide +kernel
theorem d_JS_indexOf_1_24 : decode c_JS_indexOf_1 24 = .ok (.getfield 9, 3) := by decide +kernel
theorem d_JS_indexOf_1_27 : decode c_JS_indexOf_1 27 = .ok (.iload_n 1, 1) := by decide +kernel
theorem d_JS_indexOf_1_28 : decode c_JS_indexOf_1 28 = .ok (.iload_n 2, 1) := by decide +kernel
theorem d_JS_indexOf_1_29 : decode c_JS_indexOf_1 29 = .ok (.aload_n 0, 1) := by decide +kernel
theorem d_JS_indexOf_1_30 : decode c_JS_indexOf_1 30 = .ok (.invokevirtual 505, 3) := by decide +kernel
theorem d_JS_indexOf_1_33 : decode c_JS_indexOf_1 33 = .ok (.invokestatic 640, 3) := by decide +kernel
theorem d_JS_indexOf_1_36 : decode c_JS_indexOf_1 36 = .ok (.ireturn, 1) := by decide +kernel
def S_JS_indexOf_1_0 (g : Gx) (Q : Int32 → St → Prop) (σ : St) (w0 : Nat) (x1 : Int32) (x2 : Int32) : Prop := Ax g m_JS_indexOf_1 0 0 (ZI g Q) SH σ 0 0 0 [(0, .ref (gK g w0)), (1, .int x1), (2, .int x2)] []
theorem sg_JS_indexOf_1_0 {g : Gx} {Q : Int32 → St → Prop} {σ : St} {w0 : Nat} {x1 : Int32} {x2 : Int32} (hw0 : w0 < 16)
    (h : K_JS_isLatin1 g w0 σ (fun (r2 : Int32) (s1 : St) => (r2 = 0 → K_JS_length g w0 s1 (fun (r4 : Int32) (s3 : St) => False)) ∧ (¬ r2 = 0 → K_JS_length g w0 s1 (fun (r6 : Int32) (s5 : St) => K_JL_indexOf g w0 x1 x2 r6 s5 (fun (r8 : Int32) (s7 : St) => Q r8 s7))))) : S_JS_indexOf_1_0 g Q σ w0 x1 x2 := by
  show Ax g m_JS_indexOf_1 0 0 (ZI g Q) SH σ 0 0 0 [(0, .ref (gK g w0)), (1, .int x1), (2, .int x2)] []
  refine a_aload_n (pc := 0) 0 rfl rfl d_JS_indexOf_1_0 ?_
  refine a_callStr (pc := 1) (w := w0) (M' := m_JS_isLatin1) (As := []) (st := []) lk_JS_492 rfl rfl hw0 (by decide) (by decide) rfl (Nat.le_of_ble_eq_true rfl) (Nat.le_refl 0) (Nat.le_refl 0) d_JS_indexOf_1_1 h ?_
  rintro _ _ s1 ⟨r2, rfl, rfl, h⟩ -
  show Ax g m_JS_indexOf_1 0 0 (ZI g Q) SH s1 0 0 4 [(0, .ref (gK g w0)), (1, .int x1), (2, .int x2)] [.int r2]
  refine a_if_eq (pc := 4) 23 (by decide) d_JS_indexOf_1_4 ⟨fun c0 => ?_, fun c0 => ?_⟩
  · replace h := h.1 c0
    refine a_aload_n (pc := 23) 0 rfl rfl d_JS_indexOf_1_23 ?_
    refine a_sgetV (pc := 24) hw0 tw1951 d_JS_indexOf_1_24 ?_
    refine a_iload_n (pc := 27) 1 rfl rfl d_JS_indexOf_1_27 ?_
    refine a_iload_n (pc := 28) 2 rfl rfl d_JS_indexOf_1_28 ?_
    refine a_aload_n (pc := 29) 0 rfl rfl d_JS_indexOf_1_29 ?_
    refine a_callStr (pc := 30) (w := w0) (M' := m_JS_length) (As := []) (st := [.int x2, .int x1, .ref (gV g w0)]) lk_JS_505 rfl rfl hw0 (by decide) (by decide) rfl (Nat.le_of_ble_eq_true rfl) (Nat.le_refl 0) (Nat.le_refl 0) d_JS_indexOf_1_30 h ?_
    rintro _ _ s3 ⟨r4, rfl, rfl, h⟩ -
    show Ax g m_JS_indexOf_1 0 0 (ZI g Q) SH s3 0 0 33 [(0, .ref (gK g w0)), (1, .int x1), (2, .int x2)] [.int r4, .int x2, .int x1, .ref (gV g w0)]
    exact h.elim
  · replace h := h.2 c0
    refine a_aload_n (pc := 7) 0 rfl rfl d_JS_indexOf_1_7 ?_
    refine a_sgetV (pc := 8) hw0 tw1951 d_JS_indexOf_1_8 ?_
    refine a_iload_n (pc := 11) 1 rfl rfl d_JS_indexOf_1_11 ?_
    refine a_iload_n (pc := 12) 2 rfl rfl d_JS_indexOf_1_12 ?_
    refine a_aload_n (pc := 13) 0 rfl rfl d_JS_indexOf_1_13 ?_
    refine a_callStr (pc := 14) (w := w0) (M' := m_JS_length) (As := []) (st := [.int x2, .int x1, .ref (gV g w0)]) lk_JS_505 rfl rfl hw0 (by decide) (by decide) rfl (Nat.le_of_ble_eq_true rfl) (Nat.le_refl 0) (Nat.le_refl 0) d_JS_indexOf_1_14 h ?_
    rintro _ _ s5 ⟨r6, rfl, rfl, h⟩ -
    show Ax g m_JS_indexOf_1 0 0 (ZI g Q) SH s5 0 0 17 [(0, .ref (gK g w0)), (1, .int x1), (2, .int x2)] [.int r6, .int x2, .int x1, .ref (gV g w0)]
    refine a_callS (pc := 17) (M' := m_JL_indexOf) (As := [.ref (gV g w0), .int x1, .int x2, .int r6]) (st := []) (mc' := 0) (ms' := 0) lk_JS_637 rfl (by decide) (by decide) rfl (Nat.le_of_ble_eq_true rfl) (Nat.le_refl 0) (Nat.le_refl 0) d_JS_indexOf_1_17 h ?_
    rintro _ _ s7 ⟨r8, rfl, rfl, h⟩ -
    show Ax g m_JS_indexOf_1 0 0 (ZI g Q) SH s7 0 0 20 [(0, .ref (gK g w0)), (1, .int x1), (2, .int x2)] [.int r8]
    refine a_goto (pc := 20) 36 (by decide) d_JS_indexOf_1_20 ?_
    exact b_iret (pc := 36) rfl d_JS_indexOf_1_36 h
theorem ko_JS_indexOf_1 {g : Gx}  {w0 : Nat} {x1 : Int32} {x2 : Int32} {σ : St} {Q : Int32 → St → Prop} (h : S_JS_indexOf_1_0 g Q σ w0 x1 x2) : K_JS_indexOf_1 g w0 x1 x2 σ Q := KI.of (show plainName "java/lang/String" = true by decide) (Nat.le_of_ble_eq_true rfl) h
theorem d_JS_coder_0 : decode c_JS_coder 0 = .ok (.getstatic 38, 3) := by decide +kernel
theorem d_JS_coder_3 : decode c_JS_coder 3 = .ok (.ifCond .eq 10, 3) := by decide +kernel
theorem d_JS_coder_6 : decode c_JS_coder 6 = .ok (.aload_n 0, 1) := by decide +kernel
theorem d_JS_coder_7 : decode c_JS_coder 7 = .ok (.getfield 15, 3) := by decide +kernel
theorem d_JS_coder_10 : decode c_JS_coder 10 = .ok (.goto 4, 3) := by decide +kernel
theorem d_JS_coder_13 : decode c_JS_coder 13 = .ok (.iconst 1, 1) := by decide +kernel
theorem d_JS_coder_14 : decode c_JS_coder 14 = .ok (.ireturn, 1) := by decide +kernel
def S_JS_coder_0 (g : Gx) (Q : Int32 → St → Prop) (σ : St) (w0 : Nat) : Prop := Ax g m_JS_coder 0 0 (ZI g Q) SH σ 0 0 0 [(0, .ref (gK g w0))] []
theorem sg_JS_coder_0 {g : Gx} {Q : Int32 → St → Prop} {σ : St} {w0 : Nat} (hw0 : w0 < 16)
    (h : narrow .byte (.int (0 : Int32)) = .int (0 : Int32) ∧ Q (0 : Int32) σ) : S_JS_coder_0 g Q σ w0 := by
  show Ax g m_JS_coder 0 0 (ZI g Q) SH σ 0 0 0 [(0, .ref (gK g w0))] []
  refine a_gcs (pc := 0) tw547 d_JS_coder_0 ?_
  refine a_if_eq (pc := 3) 13 (by decide) d_JS_coder_3 ⟨fun c0 => absurd c0 (by decide), fun _ => ?_⟩
  refine a_aload_n (pc := 6) 0 rfl rfl d_JS_coder_6 ?_
  refine a_sgetC (pc := 7) hw0 tw1952 d_JS_coder_7 ?_
  refine a_goto (pc := 10) 14 (by decide) d_JS_coder_10 ?_
  exact b_nret (pc := 14) rfl h.1 d_JS_coder_14 h.2
theorem ko_JS_coder {g : Gx}  {w0 : Nat} {σ : St} {Q : Int32 → St → Prop} (h : S_JS_coder_0 g Q σ w0) : K_JS_coder g w0 σ Q := KI.of (show plainName "java/lang/String" = true by decide) (Nat.le_of_ble_eq_true rfl) h
theorem d_JS_isLatin1_0 : decode c_JS_isLatin1 0 = .ok (.getstatic 38, 3) := by decide +kernel
theorem d_JS_isLatin1_3 : decode c_JS_isLatin1 3 = .ok (.ifCond .eq 14, 3) := by decide +kernel
theorem d_JS_isLatin1_6 : decode c_JS_isLatin1 6 = .ok (.aload_n 0, 1) := by decide +kernel
theorem d_JS_isLatin1_7 : decode c_JS_isLatin1 7 = .ok (.getfield 15, 3) := by decide +kernel
theorem d_JS_isLatin1_10 : decode c_JS_isLatin1 10 = .ok (.ifCond .ne 7, 3) := by decide +kernel
theorem d_JS_isLatin1_13 : decode c_JS_isLatin1 13 = .ok (.iconst 1, 1) := by decide +kernel
theorem d_JS_isLatin1_14 : decode c_JS_isLatin1 14 = .ok (.goto 4, 3) := by decide +kernel
theorem d_JS_isLatin1_17 : decode c_JS_isLatin1 17 = .ok (.iconst 0, 1) := by decide +kernel
theorem d_JS_isLatin1_18 : decode c_JS_isLatin1 18 = .ok (.ireturn, 1) := by decide +kernel
def S_JS_isLatin1_0 (g : Gx) (Q : Int32 → St → Prop) (σ : St) (w0 : Nat) : Prop := Ax g m_JS_isLatin1 0 0 (ZI g Q) SH σ 0 0 0 [(0, .ref (gK g w0))] []
theorem sg_JS_isLatin1_0 {g : Gx} {Q : Int32 → St → Prop} {σ : St} {w0 : Nat} (hw0 : w0 < 16)
    (h : Q (1 : Int32) σ) : S_JS_isLatin1_0 g Q σ w0 := by
  show Ax g m_JS_isLatin1 0 0 (ZI g Q) SH σ 0 0 0 [(0, .ref (gK g w0))] []
  refine a_gcs (pc := 0) tw547 d_JS_isLatin1_0 ?_
  refine a_if_eq (pc := 3) 17 (by decide) d_JS_isLatin1_3 ⟨fun c0 => absurd c0 (by decide), fun _ => ?_⟩
  refine a_aload_n (pc := 6) 0 rfl rfl d_JS_isLatin1_6 ?_
  refine a_sgetC (pc := 7) hw0 tw1952 d_JS_isLatin1_7 ?_
  refine a_if_ne (pc := 10) 17 (by decide) d_JS_isLatin1_10 ⟨fun c0 => absurd c0 (by decide), fun _ => ?_⟩
  refine a_iconst (pc := 13) (1 : Int32) (by decide) d_JS_isLatin1_13 ?_
  refine a_goto (pc := 14) 18 (by decide) d_JS_isLatin1_14 ?_
  exact b_zret (pc := 18) rfl (Or.inr rfl) d_JS_isLatin1_18 h
theorem ko_JS_isLatin1 {g : Gx}  {w0 : Nat} {σ : St} {Q : Int32 → St → Prop} (h : S_JS_isLatin1_0 g Q σ w0) : K_JS_isLatin1 g w0 σ Q := KI.of (show plainName "java/lang/String" = true by decide) (Nat.le_of_ble_eq_true rfl) h
theorem d_JS_checkIndex_0 : decode c_JS_checkIndex 0 = .ok (.iload_n 0, 1) := by decide +kernel
theorem d_JS_checkIndex_1 : decode c_JS_checkIndex 1 = .ok (.iload_n 1, 1) := by decide +kernel
theorem d_JS_checkIndex_2 : decode c_JS_checkIndex 2 = .ok (.getstatic 1053, 3) := by decide +kernel
theorem d_JS_checkIndex_5 : decode c_JS_checkIndex 5 = .ok (.invokestatic 1059, 3) := by decide +kernel
theorem d_JS_checkIndex_8 : decode c_JS_checkIndex 8 = .ok (.pop, 1) := by decide +kernel
theorem d_JS_checkIndex_9 : decode c_JS_checkIndex 9 = .ok (.return_, 1) := by decide +kernel
def S_JS_checkIndex_0 (g : Gx) (Q : St → Prop) (σ : St) (x0 : Int32) (x1 : Int32) : Prop := Ax g m_JS_checkIndex 0 0 (ZV g Q) SH σ 0 0 0 [(0, .int x0), (1, .int x1)] []
theorem sg_JS_checkIndex_0 {g : Gx} {Q : St → Prop} {σ : St} {x0 : Int32} {x1 : Int32}
    (h : (∀ f1 : Nat, K_JP_checkIndex g x0 x1 f1 σ (fun (r3 : Int32) (s2 : St) => Q s2)) ∧ K_JP_checkIndexN g x0 x1 σ (fun (r3 : Int32) (s2 : St) => Q s2)) : S_JS_checkIndex_0 g Q σ x0 x1 := by
  show Ax g m_JS_checkIndex 0 0 (ZV g Q) SH σ 0 0 0 [(0, .int x0), (1, .int x1)] []
  refine a_iload_n (pc := 0) 0 rfl rfl d_JS_checkIndex_0 ?_
  refine a_iload_n (pc := 1) 1 rfl rfl d_JS_checkIndex_1 ?_
  refine a_gfmt (pc := 2) tw563 d_JS_checkIndex_2 ⟨fun f1 => ?_, ?_⟩
  · replace h := h.1 f1
    refine a_callS (pc := 5) (M' := m_JP_checkIndex) (As := [.int x0, .int x1, .ref f1]) (st := []) (mc' := 0) (ms' := 0) lk_JS_1059 rfl (by decide) (by decide) rfl (Nat.le_of_ble_eq_true rfl) (Nat.le_refl 0) (Nat.le_refl 0) d_JS_checkIndex_5 h ?_
    rintro _ _ s2 ⟨r3, rfl, rfl, h⟩ -
    show Ax g m_JS_checkIndex 0 0 (ZV g Q) SH s2 0 0 8 [(0, .int x0), (1, .int x1)] [.int r3]
    refine a_pop (pc := 8) rfl d_JS_checkIndex_8 ?_
    exact b_vret (pc := 9) rfl d_JS_checkIndex_9 h
  · replace h := h.2
    refine a_callS (pc := 5) (M' := m_JP_checkIndex) (As := [.int x0, .int x1, .null]) (st := []) (mc' := 0) (ms' := 0) lk_JS_1059 rfl (by decide) (by decide) rfl (Nat.le_of_ble_eq_true rfl) (Nat.le_refl 0) (Nat.le_refl 0) d_JS_checkIndex_5 h ?_
    rintro _ _ s2 ⟨r3, rfl, rfl, h⟩ -
    show Ax g m_JS_checkIndex 0 0 (ZV g Q) SH s2 0 0 8 [(0, .int x0), (1, .int x1)] [.int r3]
    refine a_pop (pc := 8) rfl d_JS_checkIndex_8 ?_
    exact b_vret (pc := 9) rfl d_JS_checkIndex_9 h
theorem ko_JS_checkIndex {g : Gx}  {x0 : Int32} {x1 : Int32} {σ : St} {Q : St → Prop} (h : S_JS_checkIndex_0 g Q σ x0 x1) : K_JS_checkIndex g x0 x1 σ Q := KV.of (show plainName "java/lang/String" = true by decide) (Nat.le_of_ble_eq_true rfl) h
