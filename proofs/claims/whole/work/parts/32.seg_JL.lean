theorem d_JL_charAt_0 : decode c_JL_charAt 0 = .ok (.iload_n 1, 1) := by decide +kernel
theorem d_JL_charAt_1 : decode c_JL_charAt 1 = .ok (.aload_n 0, 1) := by decide +kernel
theorem d_JL_charAt_2 : decode c_JL_charAt 2 = .ok (.arraylength, 1) := by decide +kernel
theorem d_JL_charAt_3 : decode c_JL_charAt 3 = .ok (.invokestatic 9, 3) := by decide +kernel
theorem d_JL_charAt_6 : decode c_JL_charAt 6 = .ok (.aload_n 0, 1) := by decide +kernel
theorem d_JL_charAt_7 : decode c_JL_charAt 7 = .ok (.iload_n 1, 1) := by decide +kernel
theorem d_JL_charAt_8 : decode c_JL_charAt 8 = .ok (.baload, 1) := by decide +kernel
theorem d_JL_charAt_9 : decode c_JL_charAt 9 = .ok (.sipush 255, 3) := by decide +kernel
theorem d_JL_charAt_12 : decode c_JL_charAt 12 = .ok (.iand, 1) := by decide +kernel
theorem d_JL_charAt_13 : decode c_JL_charAt 13 = .ok (.i2c, 1) := by decide +kernel
theorem d_JL_charAt_14 : decode c_JL_charAt 14 = .ok (.ireturn, 1) := by decide +kernel
def S_JL_charAt_0 (g : Gx) (Q : Int32 → St → Prop) (σ : St) (w0 : Nat) (x1 : Int32) : Prop := Ax g m_JL_charAt 0 0 (ZI g Q) SH σ 0 0 0 [(0, .ref (gV g w0)), (1, .int x1)] []
theorem sg_JL_charAt_0 {g : Gx} {Q : Int32 → St → Prop} {σ : St} {w0 : Nat} {x1 : Int32} (hw0 : w0 < 16)
    (h : K_JS_checkIndex g x1 (Int32.ofNat (slen.getD w0 0)) σ (fun s1 : St => vp_in x1 (slen.getD w0 0) ∧ (narrow .char (.int ((((((sbyt.getD w0 []).getD (x1).toNatClampNeg 0) &&& (255 : Int32))).toUInt32 % 65536).toInt32)) = .int ((((((sbyt.getD w0 []).getD (x1).toNatClampNeg 0) &&& (255 : Int32))).toUInt32 % 65536).toInt32) ∧ Q ((((((sbyt.getD w0 []).getD (x1).toNatClampNeg 0) &&& (255 : Int32))).toUInt32 % 65536).toInt32) s1))) : S_JL_charAt_0 g Q σ w0 x1 := by
  show Ax g m_JL_charAt 0 0 (ZI g Q) SH σ 0 0 0 [(0, .ref (gV g w0)), (1, .int x1)] []
  refine a_iload_n (pc := 0) 1 rfl rfl d_JL_charAt_0 ?_
  refine a_aload_n (pc := 1) 0 rfl rfl d_JL_charAt_1 ?_
  refine a_svlen (pc := 2) hw0 d_JL_charAt_2 ?_
  refine a_callS (pc := 3) (M' := m_JS_checkIndex) (As := [.int x1, .int (Int32.ofNat (slen.getD w0 0))]) (st := []) (mc' := 0) (ms' := 0) lk_JL_9 rfl (by decide) (by decide) rfl (Nat.le_of_ble_eq_true rfl) (Nat.le_refl 0) (Nat.le_refl 0) d_JL_charAt_3 h ?_
  rintro _ _ s1 ⟨rfl, rfl, h⟩ -
  show Ax g m_JL_charAt 0 0 (ZI g Q) SH s1 0 0 6 [(0, .ref (gV g w0)), (1, .int x1)] []
  refine a_aload_n (pc := 6) 0 rfl rfl d_JL_charAt_6 ?_
  refine a_iload_n (pc := 7) 1 rfl rfl d_JL_charAt_7 ?_
  obtain ⟨hx, h⟩ := h
  refine a_svld (pc := 8) hw0 hx d_JL_charAt_8 ?_
  refine a_sipush (pc := 9) (255 : Int32) (by decide) d_JL_charAt_9 ?_
  refine a_iand (pc := 12) d_JL_charAt_12 ?_
  refine a_i2c (pc := 13) d_JL_charAt_13 ?_
  exact b_nret (pc := 14) rfl h.1 d_JL_charAt_14 h.2
theorem ko_JL_charAt {g : Gx}  {w0 : Nat} {x1 : Int32} {σ : St} {Q : Int32 → St → Prop} (h : S_JL_charAt_0 g Q σ w0 x1) : K_JL_charAt g w0 x1 σ Q := KI.of (show plainName "java/lang/StringLatin1" = true by decide) (Nat.le_of_ble_eq_true rfl) h
theorem d_JL_canEncode_0 : decode c_JL_canEncode 0 = .ok (.iload_n 0, 1) := by decide +kernel
theorem d_JL_canEncode_1 : decode c_JL_canEncode 1 = .ok (.ifCond .lt 14, 3) := by decide +kernel
theorem d_JL_canEncode_4 : decode c_JL_canEncode 4 = .ok (.iload_n 0, 1) := by decide +kernel
theorem d_JL_canEncode_5 : decode c_JL_canEncode 5 = .ok (.sipush 255, 3) := by decide +kernel
theorem d_JL_canEncode_8 : decode c_JL_canEncode 8 = .ok (.if_icmp .gt 7, 3) := by decide +kernel
theorem d_JL_canEncode_11 : decode c_JL_canEncode 11 = .ok (.iconst 1, 1) := by decide +kernel
theorem d_JL_canEncode_12 : decode c_JL_canEncode 12 = .ok (.goto 4, 3) := by decide +kernel
theorem d_JL_canEncode_15 : decode c_JL_canEncode 15 = .ok (.iconst 0, 1) := by decide +kernel
theorem d_JL_canEncode_16 : decode c_JL_canEncode 16 = .ok (.ireturn, 1) := by decide +kernel
def S_JL_canEncode_0 (g : Gx) (Q : Int32 → St → Prop) (σ : St) (x0 : Int32) : Prop := Ax g m_JL_canEncode 0 0 (ZI g Q) SH σ 0 0 0 [(0, .int x0)] []
theorem sg_JL_canEncode_0 {g : Gx} {Q : Int32 → St → Prop} {σ : St} {x0 : Int32}
    (h : (x0 < 0 → Q (0 : Int32) σ) ∧ (¬ x0 < 0 → ((255 : Int32) < x0 → Q (0 : Int32) σ) ∧ (¬ (255 : Int32) < x0 → Q (1 : Int32) σ))) : S_JL_canEncode_0 g Q σ x0 := by
  show Ax g m_JL_canEncode 0 0 (ZI g Q) SH σ 0 0 0 [(0, .int x0)] []
  refine a_iload_n (pc := 0) 0 rfl rfl d_JL_canEncode_0 ?_
  refine a_if_lt (pc := 1) 15 (by decide) d_JL_canEncode_1 ⟨fun c0 => ?_, fun c0 => ?_⟩
  · replace h := h.1 c0
    refine a_iconst (pc := 15) (0 : Int32) (by decide) d_JL_canEncode_15 ?_
    exact b_zret (pc := 16) rfl (Or.inl rfl) d_JL_canEncode_16 h
  · replace h := h.2 c0
    refine a_iload_n (pc := 4) 0 rfl rfl d_JL_canEncode_4 ?_
    refine a_sipush (pc := 5) (255 : Int32) (by decide) d_JL_canEncode_5 ?_
    refine a_icmp_gt (pc := 8) 15 (by decide) d_JL_canEncode_8 ⟨fun c0 => ?_, fun c0 => ?_⟩
    · replace h := h.1 c0
      refine a_iconst (pc := 15) (0 : Int32) (by decide) d_JL_canEncode_15 ?_
      exact b_zret (pc := 16) rfl (Or.inl rfl) d_JL_canEncode_16 h
    · replace h := h.2 c0
      refine a_iconst (pc := 11) (1 : Int32) (by decide) d_JL_canEncode_11 ?_
      refine a_goto (pc := 12) 16 (by decide) d_JL_canEncode_12 ?_
      exact b_zret (pc := 16) rfl (Or.inr rfl) d_JL_canEncode_16 h
theorem ko_JL_canEncode {g : Gx}  {x0 : Int32} {σ : St} {Q : Int32 → St → Prop} (h : S_JL_canEncode_0 g Q σ x0) : K_JL_canEncode g x0 σ Q := KI.of (show plainName "java/lang/StringLatin1" = true by decide) (Nat.le_of_ble_eq_true rfl) h
theorem d_JL_indexOf_0 : decode c_JL_indexOf 0 = .ok (.iload_n 1, 1) := by decide +kernel
theorem d_JL_indexOf_1 : decode c_JL_indexOf 1 = .ok (.invokestatic 88, 3) := by decide +kernel
theorem d_JL_indexOf_4 : decode c_JL_indexOf 4 = .ok (.ifCond .ne 5, 3) := by decide +kernel
theorem d_JL_indexOf_7 : decode c_JL_indexOf 7 = .ok (.iconst (-1), 1) := by decide +kernel
theorem d_JL_indexOf_8 : decode c_JL_indexOf 8 = .ok (.ireturn, 1) := by decide +kernel
theorem d_JL_indexOf_9 : decode c_JL_indexOf 9 = .ok (.iload_n 2, 1) := by decide +kernel
theorem d_JL_indexOf_10 : decode c_JL_indexOf 10 = .ok (.iconst 0, 1) := by decide +kernel
theorem d_JL_indexOf_11 : decode c_JL_indexOf 11 = .ok (.invokestatic 92, 3) := by decide +kernel
theorem d_JL_indexOf_14 : decode c_JL_indexOf 14 = .ok (.istore_n 2, 1) := by decide +kernel
theorem d_JL_indexOf_15 : decode c_JL_indexOf 15 = .ok (.iload_n 3, 1) := by decide +kernel
theorem d_JL_indexOf_16 : decode c_JL_indexOf 16 = .ok (.aload_n 0, 1) := by decide +kernel
theorem d_JL_indexOf_17 : decode c_JL_indexOf 17 = .ok (.arraylength, 1) := by decide +kernel
theorem d_JL_indexOf_18 : decode c_JL_indexOf 18 = .ok (.invokestatic 38, 3) := by decide +kernel
theorem d_JL_indexOf_21 : decode c_JL_indexOf 21 = .ok (.istore_n 3, 1) := by decide +kernel
theorem d_JL_indexOf_22 : decode c_JL_indexOf 22 = .ok (.iload_n 2, 1) := by decide +kernel
theorem d_JL_indexOf_23 : decode c_JL_indexOf 23 = .ok (.iload_n 3, 1) := by decide +kernel
theorem d_JL_indexOf_24 : decode c_JL_indexOf 24 = .ok (.if_icmp .lt 5, 3) := by decide +kernel
theorem d_JL_indexOf_27 : decode c_JL_indexOf 27 = .ok (.iconst (-1), 1) := by decide +kernel
theorem d_JL_indexOf_28 : decode c_JL_indexOf 28 = .ok (.ireturn, 1) := by decide +kernel
theorem d_JL_indexOf_29 : decode c_JL_indexOf 29 = .ok (.aload_n 0, 1) := by decide +kernel
theorem d_JL_indexOf_30 : decode c_JL_indexOf 30 = .ok (.iload_n 1, 1) := by decide +kernel
theorem d_JL_indexOf_31 : decode c_JL_indexOf 31 = .ok (.iload_n 2, 1) := by decide +kernel
theorem d_JL_indexOf_32 : decode c_JL_indexOf 32 = .ok (.iload_n 3, 1) := by decide +kernel
theorem d_JL_indexOf_33 : decode c_JL_indexOf 33 = .ok (.invokestatic 95, 3) := by decide +kernel
theorem d_JL_indexOf_36 : decode c_JL_indexOf 36 = .ok (.ireturn, 1) := by decide +kernel
def S_JL_indexOf_0 (g : Gx) (Q : Int32 → St → Prop) (σ : St) (w0 : Nat) (x1 : Int32) (x2 : Int32) (x3 : Int32) : Prop := Ax g m_JL_indexOf 0 0 (ZI g Q) SH σ 0 0 0 [(0, .ref (gV g w0)), (1, .int x1), (2, .int x2), (3, .int x3)] []
theorem sg_JL_indexOf_0 {g : Gx} {Q : Int32 → St → Prop} {σ : St} {w0 : Nat} {x1 : Int32} {x2 : Int32} {x3 : Int32} (hw0 : w0 < 16)
    (h : K_JL_canEncode g x1 σ (fun (r2 : Int32) (s1 : St) => (¬ r2 = 0 → ∀ u3 : Int32, u3 = (if x2 < (0 : Int32) then (0 : Int32) else x2) → ∀ u4 : Int32, u4 = (if (Int32.ofNat (slen.getD w0 0)) < x3 then (Int32.ofNat (slen.getD w0 0)) else x3) → (u3 < u4 → K_JL_indexOfChar g w0 x1 u3 u4 s1 (fun (r6 : Int32) (s5 : St) => Q r6 s5)) ∧ (¬ u3 < u4 → Q (-1 : Int32) s1)) ∧ (r2 = 0 → Q (-1 : Int32) s1))) : S_JL_indexOf_0 g Q σ w0 x1 x2 x3 := by
  show Ax g m_JL_indexOf 0 0 (ZI g Q) SH σ 0 0 0 [(0, .ref (gV g w0)), (1, .int x1), (2, .int x2), (3, .int x3)] []
  refine a_iload_n (pc := 0) 1 rfl rfl d_JL_indexOf_0 ?_
  refine a_callS (pc := 1) (M' := m_JL_canEncode) (As := [.int x1]) (st := []) (mc' := 0) (ms' := 0) lk_JL_88 rfl (by decide) (by decide) rfl (Nat.le_of_ble_eq_true rfl) (Nat.le_refl 0) (Nat.le_refl 0) d_JL_indexOf_1 h ?_
  rintro _ _ s1 ⟨r2, rfl, rfl, h⟩ -
  show Ax g m_JL_indexOf 0 0 (ZI g Q) SH s1 0 0 4 [(0, .ref (gV g w0)), (1, .int x1), (2, .int x2), (3, .int x3)] [.int r2]
  refine a_if_ne (pc := 4) 9 (by decide) d_JL_indexOf_4 ⟨fun c0 => ?_, fun c0 => ?_⟩
  · replace h := h.1 c0
    refine a_iload_n (pc := 9) 2 rfl rfl d_JL_indexOf_9 ?_
    refine a_iconst (pc := 10) (0 : Int32) (by decide) d_JL_indexOf_10 ?_
    refine a_mmax (pc := 11) tw710 (by decide) (Nat.le_of_ble_eq_true rfl) (Nat.le_refl 0) (Nat.le_refl 0) d_JL_indexOf_11 ?_
    refine a_nmi (pc := 14) (fun u3 hu3 => ?_)
    replace h := h u3 hu3
    refine a_istore_n (pc := 14) (lv' := [(2, .int u3), (0, .ref (gV g w0)), (1, .int x1), (3, .int x3)]) rfl (Nat.le_of_ble_eq_true rfl) rfl d_JL_indexOf_14 ?_
    refine a_iload_n (pc := 15) 3 rfl rfl d_JL_indexOf_15 ?_
    refine a_aload_n (pc := 16) 1 rfl rfl d_JL_indexOf_16 ?_
    refine a_svlen (pc := 17) hw0 d_JL_indexOf_17 ?_
    refine a_mmin (pc := 18) tw713 (by decide) (Nat.le_of_ble_eq_true rfl) (Nat.le_refl 0) (Nat.le_refl 0) d_JL_indexOf_18 ?_
    refine a_nmi (pc := 21) (fun u4 hu4 => ?_)
    replace h := h u4 hu4
    refine a_istore_n (pc := 21) (lv' := [(3, .int u4), (2, .int u3), (0, .ref (gV g w0)), (1, .int x1)]) rfl (Nat.le_of_ble_eq_true rfl) rfl d_JL_indexOf_21 ?_
    refine a_iload_n (pc := 22) 1 rfl rfl d_JL_indexOf_22 ?_
    refine a_iload_n (pc := 23) 0 rfl rfl d_JL_indexOf_23 ?_
    refine a_icmp_lt (pc := 24) 29 (by decide) d_JL_indexOf_24 ⟨fun c0 => ?_, fun c0 => ?_⟩
    · replace h := h.1 c0
      refine a_aload_n (pc := 29) 2 rfl rfl d_JL_indexOf_29 ?_
      refine a_iload_n (pc := 30) 3 rfl rfl d_JL_indexOf_30 ?_
      refine a_iload_n (pc := 31) 1 rfl rfl d_JL_indexOf_31 ?_
      refine a_iload_n (pc := 32) 0 rfl rfl d_JL_indexOf_32 ?_
      refine a_callS (pc := 33) (M' := m_JL_indexOfChar) (As := [.ref (gV g w0), .int x1, .int u3, .int u4]) (st := []) (mc' := 0) (ms' := 0) lk_JL_95 rfl (by decide) (by decide) rfl (Nat.le_of_ble_eq_true rfl) (Nat.le_refl 0) (Nat.le_refl 0) d_JL_indexOf_33 h ?_
      rintro _ _ s5 ⟨r6, rfl, rfl, h⟩ -
      show Ax g m_JL_indexOf 0 0 (ZI g Q) SH s5 0 0 36 [(3, .int u4), (2, .int u3), (0, .ref (gV g w0)), (1, .int x1)] [.int r6]
      exact b_iret (pc := 36) rfl d_JL_indexOf_36 h
    · replace h := h.2 c0
      refine a_iconst (pc := 27) (-1 : Int32) (by decide) d_JL_indexOf_27 ?_
      exact b_iret (pc := 28) rfl d_JL_indexOf_28 h
  · replace h := h.2 c0
    refine a_iconst (pc := 7) (-1 : Int32) (by decide) d_JL_indexOf_7 ?_
    exact b_iret (pc := 8) rfl d_JL_indexOf_8 h
theorem ko_JL_indexOf {g : Gx}  {w0 : Nat} {x1 : Int32} {x2 : Int32} {x3 : Int32} {σ : St} {Q : Int32 → St → Prop} (h : S_JL_indexOf_0 g Q σ w0 x1 x2 x3) : K_JL_indexOf g w0 x1 x2 x3 σ Q := KI.of (show plainName "java/lang/StringLatin1" = true by decide) (Nat.le_of_ble_eq_true rfl) h
theorem d_JL_indexOfChar_0 : decode c_JL_indexOfChar 0 = .ok (.iload_n 1, 1) := by decide +kernel
theorem d_JL_indexOfChar_1 : decode c_JL_indexOfChar 1 = .ok (.i2b, 1) := by decide +kernel
theorem d_JL_indexOfChar_2 : decode c_JL_indexOfChar 2 = .ok (.istore 4, 2) := by decide +kernel
theorem d_JL_indexOfChar_4 : decode c_JL_indexOfChar 4 = .ok (.iload_n 2, 1) := by decide +kernel
theorem d_JL_indexOfChar_5 : decode c_JL_indexOfChar 5 = .ok (.istore 5, 2) := by decide +kernel
theorem d_JL_indexOfChar_7 : decode c_JL_indexOfChar 7 = .ok (.iload 5, 2) := by decide +kernel
theorem d_JL_indexOfChar_9 : decode c_JL_indexOfChar 9 = .ok (.iload_n 3, 1) := by decide +kernel
theorem d_JL_indexOfChar_10 : decode c_JL_indexOfChar 10 = .ok (.if_icmp .ge 21, 3) := by decide +kernel
theorem d_JL_indexOfChar_13 : decode c_JL_indexOfChar 13 = .ok (.aload_n 0, 1) := by decide +kernel
theorem d_JL_indexOfChar_14 : decode c_JL_indexOfChar 14 = .ok (.iload 5, 2) := by decide +kernel
theorem d_JL_indexOfChar_16 : decode c_JL_indexOfChar 16 = .ok (.baload, 1) := by decide +kernel
theorem d_JL_indexOfChar_17 : decode c_JL_indexOfChar 17 = .ok (.iload 4, 2) := by decide +kernel
theorem d_JL_indexOfChar_19 : decode c_JL_indexOfChar 19 = .ok (.if_icmp .ne 6, 3) := by decide +kernel
theorem d_JL_indexOfChar_22 : decode c_JL_indexOfChar 22 = .ok (.iload 5, 2) := by decide +kernel
theorem d_JL_indexOfChar_24 : decode c_JL_indexOfChar 24 = .ok (.ireturn, 1) := by decide +kernel
theorem d_JL_indexOfChar_25 : decode c_JL_indexOfChar 25 = .ok (.iinc 5 1, 3) := by decide +kernel
theorem d_JL_indexOfChar_28 : decode c_JL_indexOfChar 28 = .ok (.goto (-21), 3) := by decide +kernel
theorem d_JL_indexOfChar_31 : decode c_JL_indexOfChar 31 = .ok (.iconst (-1), 1) := by decide +kernel
theorem d_JL_indexOfChar_32 : decode c_JL_indexOfChar 32 = .ok (.ireturn, 1) := by decide +kernel
def S_JL_indexOfChar_0 (g : Gx) (Q : Int32 → St → Prop) (σ : St) (w0 : Nat) (x1 : Int32) (x2 : Int32) (x3 : Int32) : Prop := Ax g m_JL_indexOfChar 0 0 (ZI g Q) SH σ 0 0 0 [(0, .ref (gV g w0)), (1, .int x1), (2, .int x2), (3, .int x3)] []
def S_JL_indexOfChar_7 (g : Gx) (Q : Int32 → St → Prop) (σ : St) (w0 : Nat) (x3 : Int32) (x4 : Int32) (x5 : Int32) : Prop := Ax g m_JL_indexOfChar 0 0 (ZI g Q) SH σ 0 0 7 [(0, .ref (gV g w0)), (3, .int x3), (4, .int x4), (5, .int x5)] []
theorem sg_JL_indexOfChar_0 {g : Gx} {Q : Int32 → St → Prop} {σ : St} {w0 : Nat} {x1 : Int32} {x2 : Int32} {x3 : Int32} (hw0 : w0 < 16)
    (h : ∀ u1 : Int32, u1 = (x1).toInt8.toInt32 → S_JL_indexOfChar_7 g Q σ w0 x3 u1 x2) : S_JL_indexOfChar_0 g Q σ w0 x1 x2 x3 := by
  show Ax g m_JL_indexOfChar 0 0 (ZI g Q) SH σ 0 0 0 [(0, .ref (gV g w0)), (1, .int x1), (2, .int x2), (3, .int x3)] []
  refine a_iload_n (pc := 0) 1 rfl rfl d_JL_indexOfChar_0 ?_
  refine a_i2b (pc := 1) d_JL_indexOfChar_1 ?_
  refine a_nmi (pc := 2) (fun u1 hu1 => ?_)
  replace h := h u1 hu1
  refine a_istore (pc := 2) (lv' := [(4, .int u1), (0, .ref (gV g w0)), (1, .int x1), (2, .int x2), (3, .int x3)]) (Nat.le_of_ble_eq_true rfl) rfl d_JL_indexOfChar_2 ?_
  refine a_iload_n (pc := 4) 3 rfl rfl d_JL_indexOfChar_4 ?_
  refine a_istore (pc := 5) (lv' := [(5, .int x2), (4, .int u1), (0, .ref (gV g w0)), (1, .int x1), (2, .int x2), (3, .int x3)]) (Nat.le_of_ble_eq_true rfl) rfl d_JL_indexOfChar_5 ?_
  refine a_sub (pc := 7) [2, 5, 1, 0] rfl ?_
  exact h
theorem sg_JL_indexOfChar_7 {g : Gx} {Q : Int32 → St → Prop} {σ : St} {w0 : Nat} {x3 : Int32} {x4 : Int32} {x5 : Int32} (hw0 : w0 < 16)
    (h : (x3 ≤ x5 → Q (-1 : Int32) σ) ∧ (¬ x3 ≤ x5 → vp_in x5 (slen.getD w0 0) ∧ ((¬ ((sbyt.getD w0 []).getD (x5).toNatClampNeg 0) = x4 → ∀ u1 : Int32, u1 = x5 + (1 : Int32) → S_JL_indexOfChar_7 g Q σ w0 x3 x4 u1) ∧ (((sbyt.getD w0 []).getD (x5).toNatClampNeg 0) = x4 → Q x5 σ)))) : S_JL_indexOfChar_7 g Q σ w0 x3 x4 x5 := by
  show Ax g m_JL_indexOfChar 0 0 (ZI g Q) SH σ 0 0 7 [(0, .ref (gV g w0)), (3, .int x3), (4, .int x4), (5, .int x5)] []
  refine a_iload (pc := 7) 3 rfl d_JL_indexOfChar_7 ?_
  refine a_iload_n (pc := 9) 1 rfl rfl d_JL_indexOfChar_9 ?_
  refine a_icmp_ge (pc := 10) 31 (by decide) d_JL_indexOfChar_10 ⟨fun c0 => ?_, fun c0 => ?_⟩
  · replace h := h.1 c0
    refine a_iconst (pc := 31) (-1 : Int32) (by decide) d_JL_indexOfChar_31 ?_
    exact b_iret (pc := 32) rfl d_JL_indexOfChar_32 h
  · replace h := h.2 c0
    refine a_aload_n (pc := 13) 0 rfl rfl d_JL_indexOfChar_13 ?_
    refine a_iload (pc := 14) 3 rfl d_JL_indexOfChar_14 ?_
    obtain ⟨hx, h⟩ := h
    refine a_svld (pc := 16) hw0 hx d_JL_indexOfChar_16 ?_
    refine a_iload (pc := 17) 2 rfl d_JL_indexOfChar_17 ?_
    refine a_icmp_ne (pc := 19) 25 (by decide) d_JL_indexOfChar_19 ⟨fun c0 => ?_, fun c0 => ?_⟩
    · replace h := h.1 c0
      obtain ⟨u1, hu1⟩ : ∃ y : Int32, y = x5 + (1 : Int32) := ⟨_, rfl⟩
      replace h := h u1 hu1
      refine a_iinc (pc := 25) (v := u1) (lv' := [(5, .int u1), (0, .ref (gV g w0)), (3, .int x3), (4, .int x4)]) 3 rfl (by rw [hu1]; rfl) (Nat.le_of_ble_eq_true rfl) rfl d_JL_indexOfChar_25 ?_
      refine a_goto (pc := 28) 7 (by decide) d_JL_indexOfChar_28 ?_
      refine a_sub (pc := 7) [1, 2, 3, 0] rfl ?_
      exact h
    · replace h := h.2 c0
      refine a_iload (pc := 22) 3 rfl d_JL_indexOfChar_22 ?_
      exact b_iret (pc := 24) rfl d_JL_indexOfChar_24 h
theorem ko_JL_indexOfChar {g : Gx}  {w0 : Nat} {x1 : Int32} {x2 : Int32} {x3 : Int32} {σ : St} {Q : Int32 → St → Prop} (h : S_JL_indexOfChar_0 g Q σ w0 x1 x2 x3) : K_JL_indexOfChar g w0 x1 x2 x3 σ Q := KI.of (show plainName "java/lang/StringLatin1" = true by decide) (Nat.le_of_ble_eq_true rfl) h
