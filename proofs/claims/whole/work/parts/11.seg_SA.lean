theorem d_SA_spotOf_0 : decode c_SA_spotOf 0 = .ok (.iload_n 0, 1) := by decide +kernel
theorem d_SA_spotOf_1 : decode c_SA_spotOf 1 = .ok (.ifCond .lt 17, 3) := by decide +kernel
theorem d_SA_spotOf_4 : decode c_SA_spotOf 4 = .ok (.iload_n 0, 1) := by decide +kernel
theorem d_SA_spotOf_5 : decode c_SA_spotOf 5 = .ok (.iconst 5, 1) := by decide +kernel
theorem d_SA_spotOf_6 : decode c_SA_spotOf 6 = .ok (.if_icmp .gt 12, 3) := by decide +kernel
theorem d_SA_spotOf_9 : decode c_SA_spotOf 9 = .ok (.iload_n 1, 1) := by decide +kernel
theorem d_SA_spotOf_10 : decode c_SA_spotOf 10 = .ok (.ifCond .lt 8, 3) := by decide +kernel
theorem d_SA_spotOf_13 : decode c_SA_spotOf 13 = .ok (.iload_n 1, 1) := by decide +kernel
theorem d_SA_spotOf_14 : decode c_SA_spotOf 14 = .ok (.iconst 5, 1) := by decide +kernel
theorem d_SA_spotOf_15 : decode c_SA_spotOf 15 = .ok (.if_icmp .le 7, 3) := by decide +kernel
theorem d_SA_spotOf_18 : decode c_SA_spotOf 18 = .ok (.iconst (-1), 1) := by decide +kernel
theorem d_SA_spotOf_19 : decode c_SA_spotOf 19 = .ok (.goto 12, 3) := by decide +kernel
theorem d_SA_spotOf_22 : decode c_SA_spotOf 22 = .ok (.bipush 8, 2) := by decide +kernel
theorem d_SA_spotOf_24 : decode c_SA_spotOf 24 = .ok (.iload_n 1, 1) := by decide +kernel
theorem d_SA_spotOf_25 : decode c_SA_spotOf 25 = .ok (.imul, 1) := by decide +kernel
theorem d_SA_spotOf_26 : decode c_SA_spotOf 26 = .ok (.iload_n 0, 1) := by decide +kernel
theorem d_SA_spotOf_27 : decode c_SA_spotOf 27 = .ok (.iadd, 1) := by decide +kernel
theorem d_SA_spotOf_28 : decode c_SA_spotOf 28 = .ok (.bipush 9, 2) := by decide +kernel
theorem d_SA_spotOf_30 : decode c_SA_spotOf 30 = .ok (.iadd, 1) := by decide +kernel
theorem d_SA_spotOf_31 : decode c_SA_spotOf 31 = .ok (.ireturn, 1) := by decide +kernel
def S_SA_spotOf_0 (g : Gx) (Q : Int32 → St → Prop) (σ : St) (x0 : Int32) (x1 : Int32) : Prop := Ax g m_SA_spotOf 0 0 (ZI g Q) SH σ 0 0 0 [(0, .int x0), (1, .int x1)] []
theorem sg_SA_spotOf_0 {g : Gx} {Q : Int32 → St → Prop} {σ : St} {x0 : Int32} {x1 : Int32}
    (h : (x0 < 0 → Q (-1 : Int32) σ) ∧ (¬ x0 < 0 → ((5 : Int32) < x0 → Q (-1 : Int32) σ) ∧ (¬ (5 : Int32) < x0 → (x1 < 0 → Q (-1 : Int32) σ) ∧ (¬ x1 < 0 → (x1 ≤ (5 : Int32) → Q ((((8 : Int32) * x1) + x0) + (9 : Int32)) σ) ∧ (¬ x1 ≤ (5 : Int32) → Q (-1 : Int32) σ))))) : S_SA_spotOf_0 g Q σ x0 x1 := by
  show Ax g m_SA_spotOf 0 0 (ZI g Q) SH σ 0 0 0 [(0, .int x0), (1, .int x1)] []
  refine a_iload_n (pc := 0) 0 rfl rfl d_SA_spotOf_0 ?_
  refine a_if_lt (pc := 1) 18 (by decide) d_SA_spotOf_1 ⟨fun c0 => ?_, fun c0 => ?_⟩
  · replace h := h.1 c0
    refine a_iconst (pc := 18) (-1 : Int32) (by decide) d_SA_spotOf_18 ?_
    refine a_goto (pc := 19) 31 (by decide) d_SA_spotOf_19 ?_
    exact b_iret (pc := 31) rfl d_SA_spotOf_31 h
  · replace h := h.2 c0
    refine a_iload_n (pc := 4) 0 rfl rfl d_SA_spotOf_4 ?_
    refine a_iconst (pc := 5) (5 : Int32) (by decide) d_SA_spotOf_5 ?_
    refine a_icmp_gt (pc := 6) 18 (by decide) d_SA_spotOf_6 ⟨fun c0 => ?_, fun c0 => ?_⟩
    · replace h := h.1 c0
      refine a_iconst (pc := 18) (-1 : Int32) (by decide) d_SA_spotOf_18 ?_
      refine a_goto (pc := 19) 31 (by decide) d_SA_spotOf_19 ?_
      exact b_iret (pc := 31) rfl d_SA_spotOf_31 h
    · replace h := h.2 c0
      refine a_iload_n (pc := 9) 1 rfl rfl d_SA_spotOf_9 ?_
      refine a_if_lt (pc := 10) 18 (by decide) d_SA_spotOf_10 ⟨fun c0 => ?_, fun c0 => ?_⟩
      · replace h := h.1 c0
        refine a_iconst (pc := 18) (-1 : Int32) (by decide) d_SA_spotOf_18 ?_
        refine a_goto (pc := 19) 31 (by decide) d_SA_spotOf_19 ?_
        exact b_iret (pc := 31) rfl d_SA_spotOf_31 h
      · replace h := h.2 c0
        refine a_iload_n (pc := 13) 1 rfl rfl d_SA_spotOf_13 ?_
        refine a_iconst (pc := 14) (5 : Int32) (by decide) d_SA_spotOf_14 ?_
        refine a_icmp_le (pc := 15) 22 (by decide) d_SA_spotOf_15 ⟨fun c0 => ?_, fun c0 => ?_⟩
        · replace h := h.1 c0
          refine a_bipush (pc := 22) (8 : Int32) (by decide) d_SA_spotOf_22 ?_
          refine a_iload_n (pc := 24) 1 rfl rfl d_SA_spotOf_24 ?_
          refine a_imul (pc := 25) d_SA_spotOf_25 ?_
          refine a_iload_n (pc := 26) 0 rfl rfl d_SA_spotOf_26 ?_
          refine a_iadd (pc := 27) d_SA_spotOf_27 ?_
          refine a_bipush (pc := 28) (9 : Int32) (by decide) d_SA_spotOf_28 ?_
          refine a_iadd (pc := 30) d_SA_spotOf_30 ?_
          exact b_iret (pc := 31) rfl d_SA_spotOf_31 h
        · replace h := h.2 c0
          refine a_iconst (pc := 18) (-1 : Int32) (by decide) d_SA_spotOf_18 ?_
          refine a_goto (pc := 19) 31 (by decide) d_SA_spotOf_19 ?_
          exact b_iret (pc := 31) rfl d_SA_spotOf_31 h
theorem ko_SA_spotOf {g : Gx}  {x0 : Int32} {x1 : Int32} {σ : St} {Q : Int32 → St → Prop} (h : S_SA_spotOf_0 g Q σ x0 x1) : K_SA_spotOf g x0 x1 σ Q := KI.of (show plainName "BallBox$State" = true by decide) (Nat.le_of_ble_eq_true rfl) h
theorem d_SA_columnOf_0 : decode c_SA_columnOf 0 = .ok (.iload_n 0, 1) := by decide +kernel
theorem d_SA_columnOf_1 : decode c_SA_columnOf 1 = .ok (.bipush 7, 2) := by decide +kernel
theorem d_SA_columnOf_3 : decode c_SA_columnOf 3 = .ok (.iand, 1) := by decide +kernel
theorem d_SA_columnOf_4 : decode c_SA_columnOf 4 = .ok (.iconst 1, 1) := by decide +kernel
theorem d_SA_columnOf_5 : decode c_SA_columnOf 5 = .ok (.isub, 1) := by decide +kernel
theorem d_SA_columnOf_6 : decode c_SA_columnOf 6 = .ok (.ireturn, 1) := by decide +kernel
def S_SA_columnOf_0 (g : Gx) (Q : Int32 → St → Prop) (σ : St) (x0 : Int32) : Prop := Ax g m_SA_columnOf 0 0 (ZI g Q) SH σ 0 0 0 [(0, .int x0)] []
theorem sg_SA_columnOf_0 {g : Gx} {Q : Int32 → St → Prop} {σ : St} {x0 : Int32}
    (h : Q ((x0 &&& (7 : Int32)) - (1 : Int32)) σ) : S_SA_columnOf_0 g Q σ x0 := by
  show Ax g m_SA_columnOf 0 0 (ZI g Q) SH σ 0 0 0 [(0, .int x0)] []
  refine a_iload_n (pc := 0) 0 rfl rfl d_SA_columnOf_0 ?_
  refine a_bipush (pc := 1) (7 : Int32) (by decide) d_SA_columnOf_1 ?_
  refine a_iand (pc := 3) d_SA_columnOf_3 ?_
  refine a_iconst (pc := 4) (1 : Int32) (by decide) d_SA_columnOf_4 ?_
  refine a_isub (pc := 5) d_SA_columnOf_5 ?_
  exact b_iret (pc := 6) rfl d_SA_columnOf_6 h
theorem ko_SA_columnOf {g : Gx}  {x0 : Int32} {σ : St} {Q : Int32 → St → Prop} (h : S_SA_columnOf_0 g Q σ x0) : K_SA_columnOf g x0 σ Q := KI.of (show plainName "BallBox$State" = true by decide) (Nat.le_of_ble_eq_true rfl) h
theorem d_SA_rowOf_0 : decode c_SA_rowOf 0 = .ok (.iload_n 0, 1) := by decide +kernel
theorem d_SA_rowOf_1 : decode c_SA_rowOf 1 = .ok (.iconst 3, 1) := by decide +kernel
theorem d_SA_rowOf_2 : decode c_SA_rowOf 2 = .ok (.ishr, 1) := by decide +kernel
theorem d_SA_rowOf_3 : decode c_SA_rowOf 3 = .ok (.iconst 1, 1) := by decide +kernel
theorem d_SA_rowOf_4 : decode c_SA_rowOf 4 = .ok (.isub, 1) := by decide +kernel
theorem d_SA_rowOf_5 : decode c_SA_rowOf 5 = .ok (.ireturn, 1) := by decide +kernel
def S_SA_rowOf_0 (g : Gx) (Q : Int32 → St → Prop) (σ : St) (x0 : Int32) : Prop := Ax g m_SA_rowOf 0 0 (ZI g Q) SH σ 0 0 0 [(0, .int x0)] []
theorem sg_SA_rowOf_0 {g : Gx} {Q : Int32 → St → Prop} {σ : St} {x0 : Int32}
    (h : Q ((x0 >>> ((3 : Int32) &&& 31)) - (1 : Int32)) σ) : S_SA_rowOf_0 g Q σ x0 := by
  show Ax g m_SA_rowOf 0 0 (ZI g Q) SH σ 0 0 0 [(0, .int x0)] []
  refine a_iload_n (pc := 0) 0 rfl rfl d_SA_rowOf_0 ?_
  refine a_iconst (pc := 1) (3 : Int32) (by decide) d_SA_rowOf_1 ?_
  refine a_ishr (pc := 2) d_SA_rowOf_2 ?_
  refine a_iconst (pc := 3) (1 : Int32) (by decide) d_SA_rowOf_3 ?_
  refine a_isub (pc := 4) d_SA_rowOf_4 ?_
  exact b_iret (pc := 5) rfl d_SA_rowOf_5 h
theorem ko_SA_rowOf {g : Gx}  {x0 : Int32} {σ : St} {Q : Int32 → St → Prop} (h : S_SA_rowOf_0 g Q σ x0) : K_SA_rowOf g x0 σ Q := KI.of (show plainName "BallBox$State" = true by decide) (Nat.le_of_ble_eq_true rfl) h
theorem d_SA_spotIn_0 : decode c_SA_spotIn 0 = .ok (.iload_n 0, 1) := by decide +kernel
theorem d_SA_spotIn_1 : decode c_SA_spotIn 1 = .ok (.bipush 6, 2) := by decide +kernel
theorem d_SA_spotIn_3 : decode c_SA_spotIn 3 = .ok (.iload_n 1, 1) := by decide +kernel
theorem d_SA_spotIn_4 : decode c_SA_spotIn 4 = .ok (.imul, 1) := by decide +kernel
theorem d_SA_spotIn_5 : decode c_SA_spotIn 5 = .ok (.ishr, 1) := by decide +kernel
theorem d_SA_spotIn_6 : decode c_SA_spotIn 6 = .ok (.bipush 63, 2) := by decide +kernel
theorem d_SA_spotIn_8 : decode c_SA_spotIn 8 = .ok (.iand, 1) := by decide +kernel
theorem d_SA_spotIn_9 : decode c_SA_spotIn 9 = .ok (.ireturn, 1) := by decide +kernel
def S_SA_spotIn_0 (g : Gx) (Q : Int32 → St → Prop) (σ : St) (x0 : Int32) (x1 : Int32) : Prop := Ax g m_SA_spotIn 0 0 (ZI g Q) SH σ 0 0 0 [(0, .int x0), (1, .int x1)] []
theorem sg_SA_spotIn_0 {g : Gx} {Q : Int32 → St → Prop} {σ : St} {x0 : Int32} {x1 : Int32}
    (h : Q ((x0 >>> (((6 : Int32) * x1) &&& 31)) &&& (63 : Int32)) σ) : S_SA_spotIn_0 g Q σ x0 x1 := by
  show Ax g m_SA_spotIn 0 0 (ZI g Q) SH σ 0 0 0 [(0, .int x0), (1, .int x1)] []
  refine a_iload_n (pc := 0) 0 rfl rfl d_SA_spotIn_0 ?_
  refine a_bipush (pc := 1) (6 : Int32) (by decide) d_SA_spotIn_1 ?_
  refine a_iload_n (pc := 3) 1 rfl rfl d_SA_spotIn_3 ?_
  refine a_imul (pc := 4) d_SA_spotIn_4 ?_
  refine a_ishr (pc := 5) d_SA_spotIn_5 ?_
  refine a_bipush (pc := 6) (63 : Int32) (by decide) d_SA_spotIn_6 ?_
  refine a_iand (pc := 8) d_SA_spotIn_8 ?_
  exact b_iret (pc := 9) rfl d_SA_spotIn_9 h
theorem ko_SA_spotIn {g : Gx}  {x0 : Int32} {x1 : Int32} {σ : St} {Q : Int32 → St → Prop} (h : S_SA_spotIn_0 g Q σ x0 x1) : K_SA_spotIn g x0 x1 σ Q := KI.of (show plainName "BallBox$State" = true by decide) (Nat.le_of_ble_eq_true rfl) h
theorem d_SA_numberIn_0 : decode c_SA_numberIn 0 = .ok (.iload_n 0, 1) := by decide +kernel
theorem d_SA_numberIn_1 : decode c_SA_numberIn 1 = .ok (.iload_n 1, 1) := by decide +kernel
theorem d_SA_numberIn_2 : decode c_SA_numberIn 2 = .ok (.invokestatic 34, 3) := by decide +kernel
theorem d_SA_numberIn_5 : decode c_SA_numberIn 5 = .ok (.istore_n 2, 1) := by decide +kernel
theorem d_SA_numberIn_6 : decode c_SA_numberIn 6 = .ok (.bipush 6, 2) := by decide +kernel
theorem d_SA_numberIn_8 : decode c_SA_numberIn 8 = .ok (.iload_n 2, 1) := by decide +kernel
theorem d_SA_numberIn_9 : decode c_SA_numberIn 9 = .ok (.invokestatic 38, 3) := by decide +kernel
theorem d_SA_numberIn_12 : decode c_SA_numberIn 12 = .ok (.imul, 1) := by decide +kernel
theorem d_SA_numberIn_13 : decode c_SA_numberIn 13 = .ok (.iload_n 2, 1) := by decide +kernel
theorem d_SA_numberIn_14 : decode c_SA_numberIn 14 = .ok (.invokestatic 42, 3) := by decide +kernel
theorem d_SA_numberIn_17 : decode c_SA_numberIn 17 = .ok (.iadd, 1) := by decide +kernel
theorem d_SA_numberIn_18 : decode c_SA_numberIn 18 = .ok (.ireturn, 1) := by decide +kernel
def S_SA_numberIn_0 (g : Gx) (Q : Int32 → St → Prop) (σ : St) (x0 : Int32) (x1 : Int32) : Prop := Ax g m_SA_numberIn 0 0 (ZI g Q) SH σ 0 0 0 [(0, .int x0), (1, .int x1)] []
theorem sg_SA_numberIn_0 {g : Gx} {Q : Int32 → St → Prop} {σ : St} {x0 : Int32} {x1 : Int32}
    (h : K_SA_spotIn g x0 x1 σ (fun (r2 : Int32) (s1 : St) => K_SA_rowOf g r2 s1 (fun (r4 : Int32) (s3 : St) => K_SA_columnOf g r2 s3 (fun (r6 : Int32) (s5 : St) => Q (((6 : Int32) * r4) + r6) s5)))) : S_SA_numberIn_0 g Q σ x0 x1 := by
  show Ax g m_SA_numberIn 0 0 (ZI g Q) SH σ 0 0 0 [(0, .int x0), (1, .int x1)] []
  refine a_iload_n (pc := 0) 0 rfl rfl d_SA_numberIn_0 ?_
  refine a_iload_n (pc := 1) 1 rfl rfl d_SA_numberIn_1 ?_
  refine a_callS (pc := 2) (M' := m_SA_spotIn) (As := [.int x0, .int x1]) (st := []) (mc' := 0) (ms' := 0) lk_SA_34 rfl (by decide) (by decide) rfl (Nat.le_of_ble_eq_true rfl) (Nat.le_refl 0) (Nat.le_refl 0) d_SA_numberIn_2 h ?_
  rintro _ _ s1 ⟨r2, rfl, rfl, h⟩ -
  show Ax g m_SA_numberIn 0 0 (ZI g Q) SH s1 0 0 5 [(0, .int x0), (1, .int x1)] [.int r2]
  refine a_istore_n (pc := 5) (lv' := [(2, .int r2), (0, .int x0), (1, .int x1)]) rfl (Nat.le_of_ble_eq_true rfl) rfl d_SA_numberIn_5 ?_
  refine a_bipush (pc := 6) (6 : Int32) (by decide) d_SA_numberIn_6 ?_
  refine a_iload_n (pc := 8) 0 rfl rfl d_SA_numberIn_8 ?_
  refine a_callS (pc := 9) (M' := m_SA_rowOf) (As := [.int r2]) (st := [.int (6 : Int32)]) (mc' := 0) (ms' := 0) lk_SA_38 rfl (by decide) (by decide) rfl (Nat.le_of_ble_eq_true rfl) (Nat.le_refl 0) (Nat.le_refl 0) d_SA_numberIn_9 h ?_
  rintro _ _ s3 ⟨r4, rfl, rfl, h⟩ -
  show Ax g m_SA_numberIn 0 0 (ZI g Q) SH s3 0 0 12 [(2, .int r2), (0, .int x0), (1, .int x1)] [.int r4, .int (6 : Int32)]
  refine a_imul (pc := 12) d_SA_numberIn_12 ?_
  refine a_iload_n (pc := 13) 0 rfl rfl d_SA_numberIn_13 ?_
  refine a_callS (pc := 14) (M' := m_SA_columnOf) (As := [.int r2]) (st := [.int ((6 : Int32) * r4)]) (mc' := 0) (ms' := 0) lk_SA_42 rfl (by decide) (by decide) rfl (Nat.le_of_ble_eq_true rfl) (Nat.le_refl 0) (Nat.le_refl 0) d_SA_numberIn_14 h ?_
  rintro _ _ s5 ⟨r6, rfl, rfl, h⟩ -
  show Ax g m_SA_numberIn 0 0 (ZI g Q) SH s5 0 0 17 [(2, .int r2), (0, .int x0), (1, .int x1)] [.int r6, .int ((6 : Int32) * r4)]
  refine a_iadd (pc := 17) d_SA_numberIn_17 ?_
  exact b_iret (pc := 18) rfl d_SA_numberIn_18 h
theorem ko_SA_numberIn {g : Gx}  {x0 : Int32} {x1 : Int32} {σ : St} {Q : Int32 → St → Prop} (h : S_SA_numberIn_0 g Q σ x0 x1) : K_SA_numberIn g x0 x1 σ Q := KI.of (show plainName "BallBox$State" = true by decide) (Nat.le_of_ble_eq_true rfl) h
theorem d_SA_isFallen_0 : decode c_SA_isFallen 0 = .ok (.iload_n 0, 1) := by decide +kernel
theorem d_SA_isFallen_1 : decode c_SA_isFallen 1 = .ok (.ifCond .eq 9, 3) := by decide +kernel
theorem d_SA_isFallen_4 : decode c_SA_isFallen 4 = .ok (.iload_n 0, 1) := by decide +kernel
theorem d_SA_isFallen_5 : decode c_SA_isFallen 5 = .ok (.bipush 7, 2) := by decide +kernel
theorem d_SA_isFallen_7 : decode c_SA_isFallen 7 = .ok (.if_icmp .ne 7, 3) := by decide +kernel
theorem d_SA_isFallen_10 : decode c_SA_isFallen 10 = .ok (.iconst 1, 1) := by decide +kernel
theorem d_SA_isFallen_11 : decode c_SA_isFallen 11 = .ok (.goto 4, 3) := by decide +kernel
theorem d_SA_isFallen_14 : decode c_SA_isFallen 14 = .ok (.iconst 0, 1) := by decide +kernel
theorem d_SA_isFallen_15 : decode c_SA_isFallen 15 = .ok (.ireturn, 1) := by decide +kernel
def S_SA_isFallen_0 (g : Gx) (Q : Int32 → St → Prop) (σ : St) (x0 : Int32) : Prop := Ax g m_SA_isFallen 0 0 (ZI g Q) SH σ 0 0 0 [(0, .int x0)] []
theorem sg_SA_isFallen_0 {g : Gx} {Q : Int32 → St → Prop} {σ : St} {x0 : Int32}
    (h : (x0 = 0 → Q (1 : Int32) σ) ∧ (¬ x0 = 0 → (¬ x0 = (7 : Int32) → Q (0 : Int32) σ) ∧ (x0 = (7 : Int32) → Q (1 : Int32) σ))) : S_SA_isFallen_0 g Q σ x0 := by
  show Ax g m_SA_isFallen 0 0 (ZI g Q) SH σ 0 0 0 [(0, .int x0)] []
  refine a_iload_n (pc := 0) 0 rfl rfl d_SA_isFallen_0 ?_
  refine a_if_eq (pc := 1) 10 (by decide) d_SA_isFallen_1 ⟨fun c0 => ?_, fun c0 => ?_⟩
  · replace h := h.1 c0
    refine a_iconst (pc := 10) (1 : Int32) (by decide) d_SA_isFallen_10 ?_
    refine a_goto (pc := 11) 15 (by decide) d_SA_isFallen_11 ?_
    exact b_zret (pc := 15) rfl (Or.inr rfl) d_SA_isFallen_15 h
  · replace h := h.2 c0
    refine a_iload_n (pc := 4) 0 rfl rfl d_SA_isFallen_4 ?_
    refine a_bipush (pc := 5) (7 : Int32) (by decide) d_SA_isFallen_5 ?_
    refine a_icmp_ne (pc := 7) 14 (by decide) d_SA_isFallen_7 ⟨fun c0 => ?_, fun c0 => ?_⟩
    · replace h := h.1 c0
      refine a_iconst (pc := 14) (0 : Int32) (by decide) d_SA_isFallen_14 ?_
      exact b_zret (pc := 15) rfl (Or.inl rfl) d_SA_isFallen_15 h
    · replace h := h.2 c0
      refine a_iconst (pc := 10) (1 : Int32) (by decide) d_SA_isFallen_10 ?_
      refine a_goto (pc := 11) 15 (by decide) d_SA_isFallen_11 ?_
      exact b_zret (pc := 15) rfl (Or.inr rfl) d_SA_isFallen_15 h
theorem ko_SA_isFallen {g : Gx}  {x0 : Int32} {σ : St} {Q : Int32 → St → Prop} (h : S_SA_isFallen_0 g Q σ x0) : K_SA_isFallen g x0 σ Q := KI.of (show plainName "BallBox$State" = true by decide) (Nat.le_of_ble_eq_true rfl) h
theorem d_SA_laid_0 : decode c_SA_laid 0 = .ok (.iload_n 0, 1) := by decide +kernel
theorem d_SA_laid_1 : decode c_SA_laid 1 = .ok (.bipush 63, 2) := by decide +kernel
theorem d_SA_laid_3 : decode c_SA_laid 3 = .ok (.bipush 6, 2) := by decide +kernel
theorem d_SA_laid_5 : decode c_SA_laid 5 = .ok (.iload_n 1, 1) := by decide +kernel
theorem d_SA_laid_6 : decode c_SA_laid 6 = .ok (.imul, 1) := by decide +kernel
theorem d_SA_laid_7 : decode c_SA_laid 7 = .ok (.ishl, 1) := by decide +kernel
theorem d_SA_laid_8 : decode c_SA_laid 8 = .ok (.iconst (-1), 1) := by decide +kernel
theorem d_SA_laid_9 : decode c_SA_laid 9 = .ok (.ixor, 1) := by decide +kernel
theorem d_SA_laid_10 : decode c_SA_laid 10 = .ok (.iand, 1) := by decide +kernel
theorem d_SA_laid_11 : decode c_SA_laid 11 = .ok (.iload_n 2, 1) := by decide +kernel
theorem d_SA_laid_12 : decode c_SA_laid 12 = .ok (.bipush 6, 2) := by decide +kernel
theorem d_SA_laid_14 : decode c_SA_laid 14 = .ok (.iload_n 1, 1) := by decide +kernel
theorem d_SA_laid_15 : decode c_SA_laid 15 = .ok (.imul, 1) := by decide +kernel
theorem d_SA_laid_16 : decode c_SA_laid 16 = .ok (.ishl, 1) := by decide +kernel
theorem d_SA_laid_17 : decode c_SA_laid 17 = .ok (.ior, 1) := by decide +kernel
theorem d_SA_laid_18 : decode c_SA_laid 18 = .ok (.ireturn, 1) := by decide +kernel
def S_SA_laid_0 (g : Gx) (Q : Int32 → St → Prop) (σ : St) (x0 : Int32) (x1 : Int32) (x2 : Int32) : Prop := Ax g m_SA_laid 0 0 (ZI g Q) SH σ 0 0 0 [(0, .int x0), (1, .int x1), (2, .int x2)] []
theorem sg_SA_laid_0 {g : Gx} {Q : Int32 → St → Prop} {σ : St} {x0 : Int32} {x1 : Int32} {x2 : Int32}
    (h : Q ((x0 &&& (((63 : Int32) <<< (((6 : Int32) * x1) &&& 31)) ^^^ (-1 : Int32))) ||| (x2 <<< (((6 : Int32) * x1) &&& 31))) σ) : S_SA_laid_0 g Q σ x0 x1 x2 := by
  show Ax g m_SA_laid 0 0 (ZI g Q) SH σ 0 0 0 [(0, .int x0), (1, .int x1), (2, .int x2)] []
  refine a_iload_n (pc := 0) 0 rfl rfl d_SA_laid_0 ?_
  refine a_bipush (pc := 1) (63 : Int32) (by decide) d_SA_laid_1 ?_
  refine a_bipush (pc := 3) (6 : Int32) (by decide) d_SA_laid_3 ?_
  refine a_iload_n (pc := 5) 1 rfl rfl d_SA_laid_5 ?_
  refine a_imul (pc := 6) d_SA_laid_6 ?_
  refine a_ishl (pc := 7) d_SA_laid_7 ?_
  refine a_iconst (pc := 8) (-1 : Int32) (by decide) d_SA_laid_8 ?_
  refine a_ixor (pc := 9) d_SA_laid_9 ?_
  refine a_iand (pc := 10) d_SA_laid_10 ?_
  refine a_iload_n (pc := 11) 2 rfl rfl d_SA_laid_11 ?_
  refine a_bipush (pc := 12) (6 : Int32) (by decide) d_SA_laid_12 ?_
  refine a_iload_n (pc := 14) 1 rfl rfl d_SA_laid_14 ?_
  refine a_imul (pc := 15) d_SA_laid_15 ?_
  refine a_ishl (pc := 16) d_SA_laid_16 ?_
  refine a_ior (pc := 17) d_SA_laid_17 ?_
  exact b_iret (pc := 18) rfl d_SA_laid_18 h
theorem ko_SA_laid {g : Gx}  {x0 : Int32} {x1 : Int32} {x2 : Int32} {σ : St} {Q : Int32 → St → Prop} (h : S_SA_laid_0 g Q σ x0 x1 x2) : K_SA_laid g x0 x1 x2 σ Q := KI.of (show plainName "BallBox$State" = true by decide) (Nat.le_of_ble_eq_true rfl) h
theorem d_SA_howMany_0 : decode c_SA_howMany 0 = .ok (.iconst 0, 1) := by decide +kernel
theorem d_SA_howMany_1 : decode c_SA_howMany 1 = .ok (.istore_n 2, 1) := by decide +kernel
theorem d_SA_howMany_2 : decode c_SA_howMany 2 = .ok (.iconst 0, 1) := by decide +kernel
theorem d_SA_howMany_3 : decode c_SA_howMany 3 = .ok (.istore_n 3, 1) := by decide +kernel
theorem d_SA_howMany_4 : decode c_SA_howMany 4 = .ok (.iload_n 3, 1) := by decide +kernel
theorem d_SA_howMany_5 : decode c_SA_howMany 5 = .ok (.iconst 3, 1) := by decide +kernel
theorem d_SA_howMany_6 : decode c_SA_howMany 6 = .ok (.if_icmp .ge 25, 3) := by decide +kernel
theorem d_SA_howMany_9 : decode c_SA_howMany 9 = .ok (.iload_n 0, 1) := by decide +kernel
theorem d_SA_howMany_10 : decode c_SA_howMany 10 = .ok (.bipush 6, 2) := by decide +kernel
theorem d_SA_howMany_12 : decode c_SA_howMany 12 = .ok (.iload_n 3, 1) := by decide +kernel
theorem d_SA_howMany_13 : decode c_SA_howMany 13 = .ok (.imul, 1) := by decide +kernel
theorem d_SA_howMany_14 : decode c_SA_howMany 14 = .ok (.ishr, 1) := by decide +kernel
theorem d_SA_howMany_15 : decode c_SA_howMany 15 = .ok (.bipush 63, 2) := by decide +kernel
theorem d_SA_howMany_17 : decode c_SA_howMany 17 = .ok (.iand, 1) := by decide +kernel
theorem d_SA_howMany_18 : decode c_SA_howMany 18 = .ok (.iload_n 1, 1) := by decide +kernel
theorem d_SA_howMany_19 : decode c_SA_howMany 19 = .ok (.if_icmp .ne 6, 3) := by decide +kernel
theorem d_SA_howMany_22 : decode c_SA_howMany 22 = .ok (.iinc 2 1, 3) := by decide +kernel
theorem d_SA_howMany_25 : decode c_SA_howMany 25 = .ok (.iinc 3 1, 3) := by decide +kernel
theorem d_SA_howMany_28 : decode c_SA_howMany 28 = .ok (.goto (-24), 3) := by decide +kernel
theorem d_SA_howMany_31 : decode c_SA_howMany 31 = .ok (.iload_n 2, 1) := by decide +kernel
theorem d_SA_howMany_32 : decode c_SA_howMany 32 = .ok (.ireturn, 1) := by decide +kernel
def S_SA_howMany_0 (g : Gx) (Q : Int32 → St → Prop) (σ : St) (x0 : Int32) (x1 : Int32) : Prop := Ax g m_SA_howMany 0 0 (ZI g Q) SH σ 0 0 0 [(0, .int x0), (1, .int x1)] []
def S_SA_howMany_4 (g : Gx) (Q : Int32 → St → Prop) (σ : St) (x0 : Int32) (x1 : Int32) (x2 : Int32) (x3 : Int32) : Prop := Ax g m_SA_howMany 0 0 (ZI g Q) SH σ 0 0 4 [(0, .int x0), (1, .int x1), (2, .int x2), (3, .int x3)] []
theorem sg_SA_howMany_0 {g : Gx} {Q : Int32 → St → Prop} {σ : St} {x0 : Int32} {x1 : Int32}
    (h : S_SA_howMany_4 g Q σ x0 x1 (0 : Int32) (0 : Int32)) : S_SA_howMany_0 g Q σ x0 x1 := by
  show Ax g m_SA_howMany 0 0 (ZI g Q) SH σ 0 0 0 [(0, .int x0), (1, .int x1)] []
  refine a_iconst (pc := 0) (0 : Int32) (by decide) d_SA_howMany_0 ?_
  refine a_istore_n (pc := 1) (lv' := [(2, .int (0 : Int32)), (0, .int x0), (1, .int x1)]) rfl (Nat.le_of_ble_eq_true rfl) rfl d_SA_howMany_1 ?_
  refine a_iconst (pc := 2) (0 : Int32) (by decide) d_SA_howMany_2 ?_
  refine a_istore_n (pc := 3) (lv' := [(3, .int (0 : Int32)), (2, .int (0 : Int32)), (0, .int x0), (1, .int x1)]) rfl (Nat.le_of_ble_eq_true rfl) rfl d_SA_howMany_3 ?_
  refine a_sub (pc := 4) [2, 3, 1, 0] rfl ?_
  exact h
theorem sg_SA_howMany_4 {g : Gx} {Q : Int32 → St → Prop} {σ : St} {x0 : Int32} {x1 : Int32} {x2 : Int32} {x3 : Int32}
    (h : ((3 : Int32) ≤ x3 → Q x2 σ) ∧ (¬ (3 : Int32) ≤ x3 → (¬ ((x0 >>> (((6 : Int32) * x3) &&& 31)) &&& (63 : Int32)) = x1 → ∀ u1 : Int32, u1 = x3 + (1 : Int32) → S_SA_howMany_4 g Q σ x0 x1 x2 u1) ∧ (((x0 >>> (((6 : Int32) * x3) &&& 31)) &&& (63 : Int32)) = x1 → ∀ u2 : Int32, u2 = x2 + (1 : Int32) → ∀ u3 : Int32, u3 = x3 + (1 : Int32) → S_SA_howMany_4 g Q σ x0 x1 u2 u3))) : S_SA_howMany_4 g Q σ x0 x1 x2 x3 := by
  show Ax g m_SA_howMany 0 0 (ZI g Q) SH σ 0 0 4 [(0, .int x0), (1, .int x1), (2, .int x2), (3, .int x3)] []
  refine a_iload_n (pc := 4) 3 rfl rfl d_SA_howMany_4 ?_
  refine a_iconst (pc := 5) (3 : Int32) (by decide) d_SA_howMany_5 ?_
  refine a_icmp_ge (pc := 6) 31 (by decide) d_SA_howMany_6 ⟨fun c0 => ?_, fun c0 => ?_⟩
  · replace h := h.1 c0
    refine a_iload_n (pc := 31) 2 rfl rfl d_SA_howMany_31 ?_
    exact b_iret (pc := 32) rfl d_SA_howMany_32 h
  · replace h := h.2 c0
    refine a_iload_n (pc := 9) 0 rfl rfl d_SA_howMany_9 ?_
    refine a_bipush (pc := 10) (6 : Int32) (by decide) d_SA_howMany_10 ?_
    refine a_iload_n (pc := 12) 3 rfl rfl d_SA_howMany_12 ?_
    refine a_imul (pc := 13) d_SA_howMany_13 ?_
    refine a_ishr (pc := 14) d_SA_howMany_14 ?_
    refine a_bipush (pc := 15) (63 : Int32) (by decide) d_SA_howMany_15 ?_
    refine a_iand (pc := 17) d_SA_howMany_17 ?_
    refine a_iload_n (pc := 18) 1 rfl rfl d_SA_howMany_18 ?_
    refine a_icmp_ne (pc := 19) 25 (by decide) d_SA_howMany_19 ⟨fun c0 => ?_, fun c0 => ?_⟩
    · replace h := h.1 c0
      obtain ⟨u1, hu1⟩ : ∃ y : Int32, y = x3 + (1 : Int32) := ⟨_, rfl⟩
      replace h := h u1 hu1
      refine a_iinc (pc := 25) (v := u1) (lv' := [(3, .int u1), (0, .int x0), (1, .int x1), (2, .int x2)]) 3 rfl (by rw [hu1]; rfl) (Nat.le_of_ble_eq_true rfl) rfl d_SA_howMany_25 ?_
      refine a_goto (pc := 28) 4 (by decide) d_SA_howMany_28 ?_
      refine a_sub (pc := 4) [1, 2, 3, 0] rfl ?_
      exact h
    · replace h := h.2 c0
      obtain ⟨u2, hu2⟩ : ∃ y : Int32, y = x2 + (1 : Int32) := ⟨_, rfl⟩
      replace h := h u2 hu2
      refine a_iinc (pc := 22) (v := u2) (lv' := [(2, .int u2), (0, .int x0), (1, .int x1), (3, .int x3)]) 2 rfl (by rw [hu2]; rfl) (Nat.le_of_ble_eq_true rfl) rfl d_SA_howMany_22 ?_
      obtain ⟨u3, hu3⟩ : ∃ y : Int32, y = x3 + (1 : Int32) := ⟨_, rfl⟩
      replace h := h u3 hu3
      refine a_iinc (pc := 25) (v := u3) (lv' := [(3, .int u3), (2, .int u2), (0, .int x0), (1, .int x1)]) 3 rfl (by rw [hu3]; rfl) (Nat.le_of_ble_eq_true rfl) rfl d_SA_howMany_25 ?_
      refine a_goto (pc := 28) 4 (by decide) d_SA_howMany_28 ?_
      refine a_sub (pc := 4) [2, 3, 1, 0] rfl ?_
      exact h
theorem ko_SA_howMany {g : Gx}  {x0 : Int32} {x1 : Int32} {σ : St} {Q : Int32 → St → Prop} (h : S_SA_howMany_0 g Q σ x0 x1) : K_SA_howMany g x0 x1 σ Q := KI.of (show plainName "BallBox$State" = true by decide) (Nat.le_of_ble_eq_true rfl) h
theorem d_SA_hasLost_0 : decode c_SA_hasLost 0 = .ok (.iload_n 0, 1) := by decide +kernel
theorem d_SA_hasLost_1 : decode c_SA_hasLost 1 = .ok (.bipush 63, 2) := by decide +kernel
theorem d_SA_hasLost_3 : decode c_SA_hasLost 3 = .ok (.iand, 1) := by decide +kernel
theorem d_SA_hasLost_4 : decode c_SA_hasLost 4 = .ok (.bipush 7, 2) := by decide +kernel
theorem d_SA_hasLost_6 : decode c_SA_hasLost 6 = .ok (.if_icmp .eq 24, 3) := by decide +kernel
theorem d_SA_hasLost_9 : decode c_SA_hasLost 9 = .ok (.iload_n 0, 1) := by decide +kernel
theorem d_SA_hasLost_10 : decode c_SA_hasLost 10 = .ok (.bipush 6, 2) := by decide +kernel
theorem d_SA_hasLost_12 : decode c_SA_hasLost 12 = .ok (.ishr, 1) := by decide +kernel
theorem d_SA_hasLost_13 : decode c_SA_hasLost 13 = .ok (.bipush 63, 2) := by decide +kernel
theorem d_SA_hasLost_15 : decode c_SA_hasLost 15 = .ok (.iand, 1) := by decide +kernel
theorem d_SA_hasLost_16 : decode c_SA_hasLost 16 = .ok (.bipush 7, 2) := by decide +kernel
theorem d_SA_hasLost_18 : decode c_SA_hasLost 18 = .ok (.if_icmp .eq 12, 3) := by decide +kernel
theorem d_SA_hasLost_21 : decode c_SA_hasLost 21 = .ok (.iload_n 0, 1) := by decide +kernel
theorem d_SA_hasLost_22 : decode c_SA_hasLost 22 = .ok (.bipush 12, 2) := by decide +kernel
theorem d_SA_hasLost_24 : decode c_SA_hasLost 24 = .ok (.ishr, 1) := by decide +kernel
theorem d_SA_hasLost_25 : decode c_SA_hasLost 25 = .ok (.bipush 7, 2) := by decide +kernel
theorem d_SA_hasLost_27 : decode c_SA_hasLost 27 = .ok (.if_icmp .ne 7, 3) := by decide +kernel
theorem d_SA_hasLost_30 : decode c_SA_hasLost 30 = .ok (.iconst 1, 1) := by decide +kernel
theorem d_SA_hasLost_31 : decode c_SA_hasLost 31 = .ok (.goto 4, 3) := by decide +kernel
theorem d_SA_hasLost_34 : decode c_SA_hasLost 34 = .ok (.iconst 0, 1) := by decide +kernel
theorem d_SA_hasLost_35 : decode c_SA_hasLost 35 = .ok (.ireturn, 1) := by decide +kernel
def S_SA_hasLost_0 (g : Gx) (Q : Int32 → St → Prop) (σ : St) (x0 : Int32) : Prop := Ax g m_SA_hasLost 0 0 (ZI g Q) SH σ 0 0 0 [(0, .int x0)] []
theorem sg_SA_hasLost_0 {g : Gx} {Q : Int32 → St → Prop} {σ : St} {x0 : Int32}
    (h : ((x0 &&& (63 : Int32)) = (7 : Int32) → Q (1 : Int32) σ) ∧ (¬ (x0 &&& (63 : Int32)) = (7 : Int32) → (((x0 >>> ((6 : Int32) &&& 31)) &&& (63 : Int32)) = (7 : Int32) → Q (1 : Int32) σ) ∧ (¬ ((x0 >>> ((6 : Int32) &&& 31)) &&& (63 : Int32)) = (7 : Int32) → (¬ (x0 >>> ((12 : Int32) &&& 31)) = (7 : Int32) → Q (0 : Int32) σ) ∧ ((x0 >>> ((12 : Int32) &&& 31)) = (7 : Int32) → Q (1 : Int32) σ)))) : S_SA_hasLost_0 g Q σ x0 := by
  show Ax g m_SA_hasLost 0 0 (ZI g Q) SH σ 0 0 0 [(0, .int x0)] []
  refine a_iload_n (pc := 0) 0 rfl rfl d_SA_hasLost_0 ?_
  refine a_bipush (pc := 1) (63 : Int32) (by decide) d_SA_hasLost_1 ?_
  refine a_iand (pc := 3) d_SA_hasLost_3 ?_
  refine a_bipush (pc := 4) (7 : Int32) (by decide) d_SA_hasLost_4 ?_
  refine a_icmp_eq (pc := 6) 30 (by decide) d_SA_hasLost_6 ⟨fun c0 => ?_, fun c0 => ?_⟩
  · replace h := h.1 c0
    refine a_iconst (pc := 30) (1 : Int32) (by decide) d_SA_hasLost_30 ?_
    refine a_goto (pc := 31) 35 (by decide) d_SA_hasLost_31 ?_
    exact b_zret (pc := 35) rfl (Or.inr rfl) d_SA_hasLost_35 h
  · replace h := h.2 c0
    refine a_iload_n (pc := 9) 0 rfl rfl d_SA_hasLost_9 ?_
    refine a_bipush (pc := 10) (6 : Int32) (by decide) d_SA_hasLost_10 ?_
    refine a_ishr (pc := 12) d_SA_hasLost_12 ?_
    refine a_bipush (pc := 13) (63 : Int32) (by decide) d_SA_hasLost_13 ?_
    refine a_iand (pc := 15) d_SA_hasLost_15 ?_
    refine a_bipush (pc := 16) (7 : Int32) (by decide) d_SA_hasLost_16 ?_
    refine a_icmp_eq (pc := 18) 30 (by decide) d_SA_hasLost_18 ⟨fun c0 => ?_, fun c0 => ?_⟩
    · replace h := h.1 c0
      refine a_iconst (pc := 30) (1 : Int32) (by decide) d_SA_hasLost_30 ?_
      refine a_goto (pc := 31) 35 (by decide) d_SA_hasLost_31 ?_
      exact b_zret (pc := 35) rfl (Or.inr rfl) d_SA_hasLost_35 h
    · replace h := h.2 c0
      refine a_iload_n (pc := 21) 0 rfl rfl d_SA_hasLost_21 ?_
      refine a_bipush (pc := 22) (12 : Int32) (by decide) d_SA_hasLost_22 ?_
      refine a_ishr (pc := 24) d_SA_hasLost_24 ?_
      refine a_bipush (pc := 25) (7 : Int32) (by decide) d_SA_hasLost_25 ?_
      refine a_icmp_ne (pc := 27) 34 (by decide) d_SA_hasLost_27 ⟨fun c0 => ?_, fun c0 => ?_⟩
      · replace h := h.1 c0
        refine a_iconst (pc := 34) (0 : Int32) (by decide) d_SA_hasLost_34 ?_
        exact b_zret (pc := 35) rfl (Or.inl rfl) d_SA_hasLost_35 h
      · replace h := h.2 c0
        refine a_iconst (pc := 30) (1 : Int32) (by decide) d_SA_hasLost_30 ?_
        refine a_goto (pc := 31) 35 (by decide) d_SA_hasLost_31 ?_
        exact b_zret (pc := 35) rfl (Or.inr rfl) d_SA_hasLost_35 h
theorem ko_SA_hasLost {g : Gx}  {x0 : Int32} {σ : St} {Q : Int32 → St → Prop} (h : S_SA_hasLost_0 g Q σ x0) : K_SA_hasLost g x0 σ Q := KI.of (show plainName "BallBox$State" = true by decide) (Nat.le_of_ble_eq_true rfl) h
theorem d_SA_whoLies_0 : decode c_SA_whoLies 0 = .ok (.iconst 0, 1) := by decide +kernel
theorem d_SA_whoLies_1 : decode c_SA_whoLies 1 = .ok (.istore_n 2, 1) := by decide +kernel
theorem d_SA_whoLies_2 : decode c_SA_whoLies 2 = .ok (.iload_n 2, 1) := by decide +kernel
theorem d_SA_whoLies_3 : decode c_SA_whoLies 3 = .ok (.iconst 3, 1) := by decide +kernel
theorem d_SA_whoLies_4 : decode c_SA_whoLies 4 = .ok (.if_icmp .ge 20, 3) := by decide +kernel
theorem d_SA_whoLies_7 : decode c_SA_whoLies 7 = .ok (.iload_n 0, 1) := by decide +kernel
theorem d_SA_whoLies_8 : decode c_SA_whoLies 8 = .ok (.iload_n 2, 1) := by decide +kernel
theorem d_SA_whoLies_9 : decode c_SA_whoLies 9 = .ok (.invokestatic 34, 3) := by decide +kernel
theorem d_SA_whoLies_12 : decode c_SA_whoLies 12 = .ok (.iload_n 1, 1) := by decide +kernel
theorem d_SA_whoLies_13 : decode c_SA_whoLies 13 = .ok (.if_icmp .ne 5, 3) := by decide +kernel
theorem d_SA_whoLies_16 : decode c_SA_whoLies 16 = .ok (.iload_n 2, 1) := by decide +kernel
theorem d_SA_whoLies_17 : decode c_SA_whoLies 17 = .ok (.ireturn, 1) := by decide +kernel
theorem d_SA_whoLies_18 : decode c_SA_whoLies 18 = .ok (.iinc 2 1, 3) := by decide +kernel
theorem d_SA_whoLies_21 : decode c_SA_whoLies 21 = .ok (.goto (-19), 3) := by decide +kernel
theorem d_SA_whoLies_24 : decode c_SA_whoLies 24 = .ok (.iconst (-1), 1) := by decide +kernel
theorem d_SA_whoLies_25 : decode c_SA_whoLies 25 = .ok (.ireturn, 1) := by decide +kernel
def S_SA_whoLies_0 (g : Gx) (Q : Int32 → St → Prop) (σ : St) (x0 : Int32) (x1 : Int32) : Prop := Ax g m_SA_whoLies 0 0 (ZI g Q) SH σ 0 0 0 [(0, .int x0), (1, .int x1)] []
def S_SA_whoLies_2 (g : Gx) (Q : Int32 → St → Prop) (σ : St) (x0 : Int32) (x1 : Int32) (x2 : Int32) : Prop := Ax g m_SA_whoLies 0 0 (ZI g Q) SH σ 0 0 2 [(0, .int x0), (1, .int x1), (2, .int x2)] []
theorem sg_SA_whoLies_0 {g : Gx} {Q : Int32 → St → Prop} {σ : St} {x0 : Int32} {x1 : Int32}
    (h : S_SA_whoLies_2 g Q σ x0 x1 (0 : Int32)) : S_SA_whoLies_0 g Q σ x0 x1 := by
  show Ax g m_SA_whoLies 0 0 (ZI g Q) SH σ 0 0 0 [(0, .int x0), (1, .int x1)] []
  refine a_iconst (pc := 0) (0 : Int32) (by decide) d_SA_whoLies_0 ?_
  refine a_istore_n (pc := 1) (lv' := [(2, .int (0 : Int32)), (0, .int x0), (1, .int x1)]) rfl (Nat.le_of_ble_eq_true rfl) rfl d_SA_whoLies_1 ?_
  refine a_sub (pc := 2) [1, 2, 0] rfl ?_
  exact h
theorem sg_SA_whoLies_2 {g : Gx} {Q : Int32 → St → Prop} {σ : St} {x0 : Int32} {x1 : Int32} {x2 : Int32}
    (h : ((3 : Int32) ≤ x2 → Q (-1 : Int32) σ) ∧ (¬ (3 : Int32) ≤ x2 → K_SA_spotIn g x0 x2 σ (fun (r2 : Int32) (s1 : St) => (¬ r2 = x1 → ∀ u3 : Int32, u3 = x2 + (1 : Int32) → S_SA_whoLies_2 g Q s1 x0 x1 u3) ∧ (r2 = x1 → Q x2 s1)))) : S_SA_whoLies_2 g Q σ x0 x1 x2 := by
  show Ax g m_SA_whoLies 0 0 (ZI g Q) SH σ 0 0 2 [(0, .int x0), (1, .int x1), (2, .int x2)] []
  refine a_iload_n (pc := 2) 2 rfl rfl d_SA_whoLies_2 ?_
  refine a_iconst (pc := 3) (3 : Int32) (by decide) d_SA_whoLies_3 ?_
  refine a_icmp_ge (pc := 4) 24 (by decide) d_SA_whoLies_4 ⟨fun c0 => ?_, fun c0 => ?_⟩
  · replace h := h.1 c0
    refine a_iconst (pc := 24) (-1 : Int32) (by decide) d_SA_whoLies_24 ?_
    exact b_iret (pc := 25) rfl d_SA_whoLies_25 h
  · replace h := h.2 c0
    refine a_iload_n (pc := 7) 0 rfl rfl d_SA_whoLies_7 ?_
    refine a_iload_n (pc := 8) 2 rfl rfl d_SA_whoLies_8 ?_
    refine a_callS (pc := 9) (M' := m_SA_spotIn) (As := [.int x0, .int x2]) (st := []) (mc' := 0) (ms' := 0) lk_SA_34 rfl (by decide) (by decide) rfl (Nat.le_of_ble_eq_true rfl) (Nat.le_refl 0) (Nat.le_refl 0) d_SA_whoLies_9 h ?_
    rintro _ _ s1 ⟨r2, rfl, rfl, h⟩ -
    show Ax g m_SA_whoLies 0 0 (ZI g Q) SH s1 0 0 12 [(0, .int x0), (1, .int x1), (2, .int x2)] [.int r2]
    refine a_iload_n (pc := 12) 1 rfl rfl d_SA_whoLies_12 ?_
    refine a_icmp_ne (pc := 13) 18 (by decide) d_SA_whoLies_13 ⟨fun c0 => ?_, fun c0 => ?_⟩
    · replace h := h.1 c0
      obtain ⟨u3, hu3⟩ : ∃ y : Int32, y = x2 + (1 : Int32) := ⟨_, rfl⟩
      replace h := h u3 hu3
      refine a_iinc (pc := 18) (v := u3) (lv' := [(2, .int u3), (0, .int x0), (1, .int x1)]) 2 rfl (by rw [hu3]; rfl) (Nat.le_of_ble_eq_true rfl) rfl d_SA_whoLies_18 ?_
      refine a_goto (pc := 21) 2 (by decide) d_SA_whoLies_21 ?_
      refine a_sub (pc := 2) [1, 2, 0] rfl ?_
      exact h
    · replace h := h.2 c0
      refine a_iload_n (pc := 16) 2 rfl rfl d_SA_whoLies_16 ?_
      exact b_iret (pc := 17) rfl d_SA_whoLies_17 h
theorem ko_SA_whoLies {g : Gx}  {x0 : Int32} {x1 : Int32} {σ : St} {Q : Int32 → St → Prop} (h : S_SA_whoLies_0 g Q σ x0 x1) : K_SA_whoLies g x0 x1 σ Q := KI.of (show plainName "BallBox$State" = true by decide) (Nat.le_of_ble_eq_true rfl) h
theorem d_SA_beginning_0 : decode c_SA_beginning 0 = .ok (.iload_n 3, 1) := by decide +kernel
theorem d_SA_beginning_1 : decode c_SA_beginning 1 = .ok (.ifCond .gt 17, 3) := by decide +kernel
theorem d_SA_beginning_4 : decode c_SA_beginning 4 = .ok (.iload_n 0, 1) := by decide +kernel
theorem d_SA_beginning_5 : decode c_SA_beginning 5 = .ok (.ifCond .ne 11, 3) := by decide +kernel
theorem d_SA_beginning_8 : decode c_SA_beginning 8 = .ok (.iload_n 1, 1) := by decide +kernel
theorem d_SA_beginning_9 : decode c_SA_beginning 9 = .ok (.ifCond .ne 7, 3) := by decide +kernel
theorem d_SA_beginning_12 : decode c_SA_beginning 12 = .ok (.iconst 0, 1) := by decide +kernel
theorem d_SA_beginning_13 : decode c_SA_beginning 13 = .ok (.goto 4, 3) := by decide +kernel
theorem d_SA_beginning_16 : decode c_SA_beginning 16 = .ok (.iconst (-1), 1) := by decide +kernel
theorem d_SA_beginning_17 : decode c_SA_beginning 17 = .ok (.ireturn, 1) := by decide +kernel
theorem d_SA_beginning_18 : decode c_SA_beginning 18 = .ok (.iconst 0, 1) := by decide +kernel
theorem d_SA_beginning_19 : decode c_SA_beginning 19 = .ok (.istore 4, 2) := by decide +kernel
theorem d_SA_beginning_21 : decode c_SA_beginning 21 = .ok (.iload_n 0, 1) := by decide +kernel
theorem d_SA_beginning_22 : decode c_SA_beginning 22 = .ok (.istore 5, 2) := by decide +kernel
theorem d_SA_beginning_24 : decode c_SA_beginning 24 = .ok (.lconst 0, 1) := by decide +kernel
theorem d_SA_beginning_25 : decode c_SA_beginning 25 = .ok (.lstore 6, 2) := by decide +kernel
theorem d_SA_beginning_27 : decode c_SA_beginning 27 = .ok (.iload_n 1, 1) := by decide +kernel
theorem d_SA_beginning_28 : decode c_SA_beginning 28 = .ok (.iconst 1, 1) := by decide +kernel
theorem d_SA_beginning_29 : decode c_SA_beginning 29 = .ok (.isub, 1) := by decide +kernel
theorem d_SA_beginning_30 : decode c_SA_beginning 30 = .ok (.istore 8, 2) := by decide +kernel
theorem d_SA_beginning_32 : decode c_SA_beginning 32 = .ok (.iload 8, 2) := by decide +kernel
theorem d_SA_beginning_34 : decode c_SA_beginning 34 = .ok (.ifCond .lt 59, 3) := by decide +kernel
theorem d_SA_beginning_37 : decode c_SA_beginning 37 = .ok (.aload_n 2, 1) := by decide +kernel
theorem d_SA_beginning_38 : decode c_SA_beginning 38 = .ok (.iload 5, 2) := by decide +kernel
theorem d_SA_beginning_40 : decode c_SA_beginning 40 = .ok (.iload_n 3, 1) := by decide +kernel
theorem d_SA_beginning_41 : decode c_SA_beginning 41 = .ok (.irem, 1) := by decide +kernel
theorem d_SA_beginning_42 : decode c_SA_beginning 42 = .ok (.iaload, 1) := by decide +kernel
theorem d_SA_beginning_43 : decode c_SA_beginning 43 = .ok (.istore 9, 2) := by decide +kernel
theorem d_SA_beginning_45 : decode c_SA_beginning 45 = .ok (.iload 5, 2) := by decide +kernel
theorem d_SA_beginning_47 : decode c_SA_beginning 47 = .ok (.iload_n 3, 1) := by decide +kernel
theorem d_SA_beginning_48 : decode c_SA_beginning 48 = .ok (.idiv, 1) := by decide +kernel
theorem d_SA_beginning_49 : decode c_SA_beginning 49 = .ok (.istore 5, 2) := by decide +kernel
theorem d_SA_beginning_51 : decode c_SA_beginning 51 = .ok (.lload 6, 2) := by decide +kernel
theorem d_SA_beginning_53 : decode c_SA_beginning 53 = .ok (.iload 9, 2) := by decide +kernel
theorem d_SA_beginning_55 : decode c_SA_beginning 55 = .ok (.lushr, 1) := by decide +kernel
theorem d_SA_beginning_56 : decode c_SA_beginning 56 = .ok (.lconst 1, 1) := by decide +kernel
theorem d_SA_beginning_57 : decode c_SA_beginning 57 = .ok (.land, 1) := by decide +kernel
theorem d_SA_beginning_58 : decode c_SA_beginning 58 = .ok (.lconst 0, 1) := by decide +kernel
theorem d_SA_beginning_59 : decode c_SA_beginning 59 = .ok (.lcmp, 1) := by decide +kernel
theorem d_SA_beginning_60 : decode c_SA_beginning 60 = .ok (.ifCond .eq 5, 3) := by decide +kernel
theorem d_SA_beginning_63 : decode c_SA_beginning 63 = .ok (.iconst (-1), 1) := by decide +kernel
theorem d_SA_beginning_64 : decode c_SA_beginning 64 = .ok (.ireturn, 1) := by decide +kernel
theorem d_SA_beginning_65 : decode c_SA_beginning 65 = .ok (.lload 6, 2) := by decide +kernel
theorem d_SA_beginning_67 : decode c_SA_beginning 67 = .ok (.lconst 1, 1) := by decide +kernel
theorem d_SA_beginning_68 : decode c_SA_beginning 68 = .ok (.iload 9, 2) := by decide +kernel
theorem d_SA_beginning_70 : decode c_SA_beginning 70 = .ok (.lshl, 1) := by decide +kernel
theorem d_SA_beginning_71 : decode c_SA_beginning 71 = .ok (.lor, 1) := by decide +kernel
theorem d_SA_beginning_72 : decode c_SA_beginning 72 = .ok (.lstore 6, 2) := by decide +kernel
theorem d_SA_beginning_74 : decode c_SA_beginning 74 = .ok (.iload 4, 2) := by decide +kernel
theorem d_SA_beginning_76 : decode c_SA_beginning 76 = .ok (.iload 9, 2) := by decide +kernel
theorem d_SA_beginning_78 : decode c_SA_beginning 78 = .ok (.bipush 6, 2) := by decide +kernel
theorem d_SA_beginning_80 : decode c_SA_beginning 80 = .ok (.iload 8, 2) := by decide +kernel
theorem d_SA_beginning_82 : decode c_SA_beginning 82 = .ok (.imul, 1) := by decide +kernel
theorem d_SA_beginning_83 : decode c_SA_beginning 83 = .ok (.ishl, 1) := by decide +kernel
theorem d_SA_beginning_84 : decode c_SA_beginning 84 = .ok (.ior, 1) := by decide +kernel
theorem d_SA_beginning_85 : decode c_SA_beginning 85 = .ok (.istore 4, 2) := by decide +kernel
theorem d_SA_beginning_87 : decode c_SA_beginning 87 = .ok (.iinc 8 (-1), 3) := by decide +kernel
theorem d_SA_beginning_90 : decode c_SA_beginning 90 = .ok (.goto (-58), 3) := by decide +kernel
theorem d_SA_beginning_93 : decode c_SA_beginning 93 = .ok (.iload 4, 2) := by decide +kernel
theorem d_SA_beginning_95 : decode c_SA_beginning 95 = .ok (.ireturn, 1) := by decide +kernel
def S_SA_beginning_0 (g : Gx) (Q : Int32 → St → Prop) (σ : St) (a2 : Nat) (x0 : Int32) (x1 : Int32) (x3 : Int32) : Prop := Ax g m_SA_beginning 0 0 (ZI g Q) SH σ 0 0 0 [(0, .int x0), (1, .int x1), (2, .ref (gB g + a2)), (3, .int x3)] []
def S_SA_beginning_32 (g : Gx) (Q : Int32 → St → Prop) (σ : St) (a2 : Nat) (x3 : Int32) (x4 : Int32) (x5 : Int32) (y6 : Int64) (x8 : Int32) : Prop := Ax g m_SA_beginning 0 0 (ZI g Q) SH σ 0 0 32 [(2, .ref (gB g + a2)), (3, .int x3), (4, .int x4), (5, .int x5), (6, .long y6), (8, .int x8)] []
theorem sg_SA_beginning_0 {g : Gx} {Q : Int32 → St → Prop} {σ : St} {a2 : Nat} {N2 : Nat} {x0 : Int32} {x1 : Int32} {x3 : Int32} (ha2 : SH[a2]? = some (.inr (0, N2, [])))
    (h : (0 < x3 → ∀ u1 : Int32, u1 = (x1 - (1 : Int32)) → S_SA_beginning_32 g Q σ a2 x3 (0 : Int32) x0 (0 : Int64) u1) ∧ (¬ 0 < x3 → (¬ x0 = 0 → Q (-1 : Int32) σ) ∧ (x0 = 0 → (¬ x1 = 0 → Q (-1 : Int32) σ) ∧ (x1 = 0 → Q (0 : Int32) σ)))) : S_SA_beginning_0 g Q σ a2 x0 x1 x3 := by
  show Ax g m_SA_beginning 0 0 (ZI g Q) SH σ 0 0 0 [(0, .int x0), (1, .int x1), (2, .ref (gB g + a2)), (3, .int x3)] []
  refine a_iload_n (pc := 0) 3 rfl rfl d_SA_beginning_0 ?_
  refine a_if_gt (pc := 1) 18 (by decide) d_SA_beginning_1 ⟨fun c0 => ?_, fun c0 => ?_⟩
  · replace h := h.1 c0
    refine a_iconst (pc := 18) (0 : Int32) (by decide) d_SA_beginning_18 ?_
    refine a_istore (pc := 19) (lv' := [(4, .int (0 : Int32)), (0, .int x0), (1, .int x1), (2, .ref (gB g + a2)), (3, .int x3)]) (Nat.le_of_ble_eq_true rfl) rfl d_SA_beginning_19 ?_
    refine a_iload_n (pc := 21) 1 rfl rfl d_SA_beginning_21 ?_
    refine a_istore (pc := 22) (lv' := [(5, .int x0), (4, .int (0 : Int32)), (0, .int x0), (1, .int x1), (2, .ref (gB g + a2)), (3, .int x3)]) (Nat.le_of_ble_eq_true rfl) rfl d_SA_beginning_22 ?_
    refine a_lconst (pc := 24) (0 : Int64) (by decide) d_SA_beginning_24 ?_
    refine a_lstore (pc := 25) (lv' := [(6, .long (0 : Int64)), (5, .int x0), (4, .int (0 : Int32)), (0, .int x0), (1, .int x1), (2, .ref (gB g + a2)), (3, .int x3)]) (Nat.le_of_ble_eq_true rfl) rfl d_SA_beginning_25 ?_
    refine a_iload_n (pc := 27) 4 rfl rfl d_SA_beginning_27 ?_
    refine a_iconst (pc := 28) (1 : Int32) (by decide) d_SA_beginning_28 ?_
    refine a_isub (pc := 29) d_SA_beginning_29 ?_
    refine a_nmi (pc := 30) (fun u1 hu1 => ?_)
    replace h := h u1 hu1
    refine a_istore (pc := 30) (lv' := [(8, .int u1), (6, .long (0 : Int64)), (5, .int x0), (4, .int (0 : Int32)), (0, .int x0), (1, .int x1), (2, .ref (gB g + a2)), (3, .int x3)]) (Nat.le_of_ble_eq_true rfl) rfl d_SA_beginning_30 ?_
    refine a_sub (pc := 32) [6, 7, 3, 2, 1, 0] rfl ?_
    exact h
  · replace h := h.2 c0
    refine a_iload_n (pc := 4) 0 rfl rfl d_SA_beginning_4 ?_
    refine a_if_ne (pc := 5) 16 (by decide) d_SA_beginning_5 ⟨fun c0 => ?_, fun c0 => ?_⟩
    · replace h := h.1 c0
      refine a_iconst (pc := 16) (-1 : Int32) (by decide) d_SA_beginning_16 ?_
      exact b_iret (pc := 17) rfl d_SA_beginning_17 h
    · replace h := h.2 c0
      refine a_iload_n (pc := 8) 1 rfl rfl d_SA_beginning_8 ?_
      refine a_if_ne (pc := 9) 16 (by decide) d_SA_beginning_9 ⟨fun c0 => ?_, fun c0 => ?_⟩
      · replace h := h.1 c0
        refine a_iconst (pc := 16) (-1 : Int32) (by decide) d_SA_beginning_16 ?_
        exact b_iret (pc := 17) rfl d_SA_beginning_17 h
      · replace h := h.2 c0
        refine a_iconst (pc := 12) (0 : Int32) (by decide) d_SA_beginning_12 ?_
        refine a_goto (pc := 13) 17 (by decide) d_SA_beginning_13 ?_
        exact b_iret (pc := 17) rfl d_SA_beginning_17 h
theorem sg_SA_beginning_32 {g : Gx} {Q : Int32 → St → Prop} {σ : St} {a2 : Nat} {N2 : Nat} {x3 : Int32} {x4 : Int32} {x5 : Int32} {y6 : Int64} {x8 : Int32} (ha2 : SH[a2]? = some (.inr (0, N2, [])))
    (h : (x8 < 0 → Q x4 σ) ∧ (¬ x8 < 0 → ¬ x3 = 0 ∧ (vp_in (x5 - x5 / x3 * x3) N2 ∧ (∀ u1 : Int32, u1 = (ai σ a2 ((x5 - x5 / x3 * x3)).toNatClampNeg) → ¬ x3 = 0 ∧ (∀ u2 : Int32, u2 = (x5 / x3) → ((lg_cmp (((y6).toUInt64 >>> ((u1).toInt64.toUInt64 &&& Int64.toUInt64 63)).toInt64 &&& (1 : Int64)) (0 : Int64)) = 0 → ∀ u3 : Int64, u3 = (y6 ||| ((1 : Int64) <<< ((u1).toInt64 &&& 63))) → ∀ u4 : Int32, u4 = (x4 ||| (u1 <<< (((6 : Int32) * x8) &&& 31))) → ∀ u5 : Int32, u5 = x8 + (-1 : Int32) → S_SA_beginning_32 g Q σ a2 x3 u4 u2 u3 u5) ∧ (¬ (lg_cmp (((y6).toUInt64 >>> ((u1).toInt64.toUInt64 &&& Int64.toUInt64 63)).toInt64 &&& (1 : Int64)) (0 : Int64)) = 0 → Q (-1 : Int32) σ)))))) : S_SA_beginning_32 g Q σ a2 x3 x4 x5 y6 x8 := by
  show Ax g m_SA_beginning 0 0 (ZI g Q) SH σ 0 0 32 [(2, .ref (gB g + a2)), (3, .int x3), (4, .int x4), (5, .int x5), (6, .long y6), (8, .int x8)] []
  refine a_iload (pc := 32) 5 rfl d_SA_beginning_32 ?_
  refine a_if_lt (pc := 34) 93 (by decide) d_SA_beginning_34 ⟨fun c0 => ?_, fun c0 => ?_⟩
  · replace h := h.1 c0
    refine a_iload (pc := 93) 2 rfl d_SA_beginning_93 ?_
    exact b_iret (pc := 95) rfl d_SA_beginning_95 h
  · replace h := h.2 c0
    refine a_aload_n (pc := 37) 0 rfl rfl d_SA_beginning_37 ?_
    refine a_iload (pc := 38) 3 rfl d_SA_beginning_38 ?_
    refine a_iload_n (pc := 40) 1 rfl rfl d_SA_beginning_40 ?_
    obtain ⟨hne, h⟩ := h
    refine a_irem (pc := 41) hne d_SA_beginning_41 ?_
    obtain ⟨hx, h⟩ := h
    refine a_iald (pc := 42) ha2 hx d_SA_beginning_42 ?_
    refine a_nmi (pc := 43) (fun u1 hu1 => ?_)
    replace h := h u1 hu1
    refine a_istore (pc := 43) (lv' := [(9, .int u1), (2, .ref (gB g + a2)), (3, .int x3), (4, .int x4), (5, .int x5), (6, .long y6), (8, .int x8)]) (Nat.le_of_ble_eq_true rfl) rfl d_SA_beginning_43 ?_
    refine a_iload (pc := 45) 4 rfl d_SA_beginning_45 ?_
    refine a_iload_n (pc := 47) 2 rfl rfl d_SA_beginning_47 ?_
    obtain ⟨hne, h⟩ := h
    refine a_idiv (pc := 48) hne d_SA_beginning_48 ?_
    refine a_nmi (pc := 49) (fun u2 hu2 => ?_)
    replace h := h u2 hu2
    refine a_istore (pc := 49) (lv' := [(5, .int u2), (9, .int u1), (2, .ref (gB g + a2)), (3, .int x3), (4, .int x4), (6, .long y6), (8, .int x8)]) (Nat.le_of_ble_eq_true rfl) rfl d_SA_beginning_49 ?_
    refine a_lload (pc := 51) 5 rfl d_SA_beginning_51 ?_
    refine a_iload (pc := 53) 1 rfl d_SA_beginning_53 ?_
    refine a_lushr (pc := 55) d_SA_beginning_55 ?_
    refine a_lconst (pc := 56) (1 : Int64) (by decide) d_SA_beginning_56 ?_
    refine a_land (pc := 57) d_SA_beginning_57 ?_
    refine a_lconst (pc := 58) (0 : Int64) (by decide) d_SA_beginning_58 ?_
    refine a_lcmp (pc := 59) d_SA_beginning_59 ?_
    refine a_if_eq (pc := 60) 65 (by decide) d_SA_beginning_60 ⟨fun c0 => ?_, fun c0 => ?_⟩
    · replace h := h.1 c0
      refine a_lload (pc := 65) 5 rfl d_SA_beginning_65 ?_
      refine a_lconst (pc := 67) (1 : Int64) (by decide) d_SA_beginning_67 ?_
      refine a_iload (pc := 68) 1 rfl d_SA_beginning_68 ?_
      refine a_lshl (pc := 70) d_SA_beginning_70 ?_
      refine a_lor (pc := 71) d_SA_beginning_71 ?_
      refine a_nmj (pc := 72) (fun u3 hu3 => ?_)
      replace h := h u3 hu3
      refine a_lstore (pc := 72) (lv' := [(6, .long u3), (5, .int u2), (9, .int u1), (2, .ref (gB g + a2)), (3, .int x3), (4, .int x4), (8, .int x8)]) (Nat.le_of_ble_eq_true rfl) rfl d_SA_beginning_72 ?_
      refine a_iload (pc := 74) 5 rfl d_SA_beginning_74 ?_
      refine a_iload (pc := 76) 2 rfl d_SA_beginning_76 ?_
      refine a_bipush (pc := 78) (6 : Int32) (by decide) d_SA_beginning_78 ?_
      refine a_iload (pc := 80) 6 rfl d_SA_beginning_80 ?_
      refine a_imul (pc := 82) d_SA_beginning_82 ?_
      refine a_ishl (pc := 83) d_SA_beginning_83 ?_
      refine a_ior (pc := 84) d_SA_beginning_84 ?_
      refine a_nmi (pc := 85) (fun u4 hu4 => ?_)
      replace h := h u4 hu4
      refine a_istore (pc := 85) (lv' := [(4, .int u4), (6, .long u3), (5, .int u2), (9, .int u1), (2, .ref (gB g + a2)), (3, .int x3), (8, .int x8)]) (Nat.le_of_ble_eq_true rfl) rfl d_SA_beginning_85 ?_
      obtain ⟨u5, hu5⟩ : ∃ y : Int32, y = x8 + (-1 : Int32) := ⟨_, rfl⟩
      replace h := h u5 hu5
      refine a_iinc (pc := 87) (v := u5) (lv' := [(8, .int u5), (4, .int u4), (6, .long u3), (5, .int u2), (9, .int u1), (2, .ref (gB g + a2)), (3, .int x3)]) 6 rfl (by rw [hu5]; rfl) (Nat.le_of_ble_eq_true rfl) rfl d_SA_beginning_87 ?_
      refine a_goto (pc := 90) 32 (by decide) d_SA_beginning_90 ?_
      refine a_sub (pc := 32) [5, 6, 1, 3, 2, 0] rfl ?_
      exact h
    · replace h := h.2 c0
      refine a_iconst (pc := 63) (-1 : Int32) (by decide) d_SA_beginning_63 ?_
      exact b_iret (pc := 64) rfl d_SA_beginning_64 h
theorem ko_SA_beginning {g : Gx}  {x0 : Int32} {x1 : Int32} {a2 : Nat} {x3 : Int32} {σ : St} {Q : Int32 → St → Prop} (h : S_SA_beginning_0 g Q σ a2 x0 x1 x3) : K_SA_beginning g x0 x1 a2 x3 σ Q := KI.of (show plainName "BallBox$State" = true by decide) (Nat.le_of_ble_eq_true rfl) h
theorem d_SA_beginningsEnd_0 : decode c_SA_beginningsEnd 0 = .ok (.iconst 1, 1) := by decide +kernel
theorem d_SA_beginningsEnd_1 : decode c_SA_beginningsEnd 1 = .ok (.istore_n 2, 1) := by decide +kernel
theorem d_SA_beginningsEnd_2 : decode c_SA_beginningsEnd 2 = .ok (.iconst 0, 1) := by decide +kernel
theorem d_SA_beginningsEnd_3 : decode c_SA_beginningsEnd 3 = .ok (.istore_n 3, 1) := by decide +kernel
theorem d_SA_beginningsEnd_4 : decode c_SA_beginningsEnd 4 = .ok (.iload_n 3, 1) := by decide +kernel
theorem d_SA_beginningsEnd_5 : decode c_SA_beginningsEnd 5 = .ok (.iload_n 0, 1) := by decide +kernel
theorem d_SA_beginningsEnd_6 : decode c_SA_beginningsEnd 6 = .ok (.if_icmp .ge 13, 3) := by decide +kernel
theorem d_SA_beginningsEnd_9 : decode c_SA_beginningsEnd 9 = .ok (.iload_n 2, 1) := by decide +kernel
theorem d_SA_beginningsEnd_10 : decode c_SA_beginningsEnd 10 = .ok (.iload_n 1, 1) := by decide +kernel
theorem d_SA_beginningsEnd_11 : decode c_SA_beginningsEnd 11 = .ok (.imul, 1) := by decide +kernel
theorem d_SA_beginningsEnd_12 : decode c_SA_beginningsEnd 12 = .ok (.istore_n 2, 1) := by decide +kernel
theorem d_SA_beginningsEnd_13 : decode c_SA_beginningsEnd 13 = .ok (.iinc 3 1, 3) := by decide +kernel
theorem d_SA_beginningsEnd_16 : decode c_SA_beginningsEnd 16 = .ok (.goto (-12), 3) := by decide +kernel
theorem d_SA_beginningsEnd_19 : decode c_SA_beginningsEnd 19 = .ok (.iload_n 2, 1) := by decide +kernel
theorem d_SA_beginningsEnd_20 : decode c_SA_beginningsEnd 20 = .ok (.ireturn, 1) := by decide +kernel
def S_SA_beginningsEnd_0 (g : Gx) (Q : Int32 → St → Prop) (σ : St) (x0 : Int32) (x1 : Int32) : Prop := Ax g m_SA_beginningsEnd 0 0 (ZI g Q) SH σ 0 0 0 [(0, .int x0), (1, .int x1)] []
def S_SA_beginningsEnd_4 (g : Gx) (Q : Int32 → St → Prop) (σ : St) (x0 : Int32) (x1 : Int32) (x2 : Int32) (x3 : Int32) : Prop := Ax g m_SA_beginningsEnd 0 0 (ZI g Q) SH σ 0 0 4 [(0, .int x0), (1, .int x1), (2, .int x2), (3, .int x3)] []
theorem sg_SA_beginningsEnd_0 {g : Gx} {Q : Int32 → St → Prop} {σ : St} {x0 : Int32} {x1 : Int32}
    (h : S_SA_beginningsEnd_4 g Q σ x0 x1 (1 : Int32) (0 : Int32)) : S_SA_beginningsEnd_0 g Q σ x0 x1 := by
  show Ax g m_SA_beginningsEnd 0 0 (ZI g Q) SH σ 0 0 0 [(0, .int x0), (1, .int x1)] []
  refine a_iconst (pc := 0) (1 : Int32) (by decide) d_SA_beginningsEnd_0 ?_
  refine a_istore_n (pc := 1) (lv' := [(2, .int (1 : Int32)), (0, .int x0), (1, .int x1)]) rfl (Nat.le_of_ble_eq_true rfl) rfl d_SA_beginningsEnd_1 ?_
  refine a_iconst (pc := 2) (0 : Int32) (by decide) d_SA_beginningsEnd_2 ?_
  refine a_istore_n (pc := 3) (lv' := [(3, .int (0 : Int32)), (2, .int (1 : Int32)), (0, .int x0), (1, .int x1)]) rfl (Nat.le_of_ble_eq_true rfl) rfl d_SA_beginningsEnd_3 ?_
  refine a_sub (pc := 4) [2, 3, 1, 0] rfl ?_
  exact h
theorem sg_SA_beginningsEnd_4 {g : Gx} {Q : Int32 → St → Prop} {σ : St} {x0 : Int32} {x1 : Int32} {x2 : Int32} {x3 : Int32}
    (h : (x0 ≤ x3 → Q x2 σ) ∧ (¬ x0 ≤ x3 → ∀ u1 : Int32, u1 = (x2 * x1) → ∀ u2 : Int32, u2 = x3 + (1 : Int32) → S_SA_beginningsEnd_4 g Q σ x0 x1 u1 u2)) : S_SA_beginningsEnd_4 g Q σ x0 x1 x2 x3 := by
  show Ax g m_SA_beginningsEnd 0 0 (ZI g Q) SH σ 0 0 4 [(0, .int x0), (1, .int x1), (2, .int x2), (3, .int x3)] []
  refine a_iload_n (pc := 4) 3 rfl rfl d_SA_beginningsEnd_4 ?_
  refine a_iload_n (pc := 5) 0 rfl rfl d_SA_beginningsEnd_5 ?_
  refine a_icmp_ge (pc := 6) 19 (by decide) d_SA_beginningsEnd_6 ⟨fun c0 => ?_, fun c0 => ?_⟩
  · replace h := h.1 c0
    refine a_iload_n (pc := 19) 2 rfl rfl d_SA_beginningsEnd_19 ?_
    exact b_iret (pc := 20) rfl d_SA_beginningsEnd_20 h
  · replace h := h.2 c0
    refine a_iload_n (pc := 9) 2 rfl rfl d_SA_beginningsEnd_9 ?_
    refine a_iload_n (pc := 10) 1 rfl rfl d_SA_beginningsEnd_10 ?_
    refine a_imul (pc := 11) d_SA_beginningsEnd_11 ?_
    refine a_nmi (pc := 12) (fun u1 hu1 => ?_)
    replace h := h u1 hu1
    refine a_istore_n (pc := 12) (lv' := [(2, .int u1), (0, .int x0), (1, .int x1), (3, .int x3)]) rfl (Nat.le_of_ble_eq_true rfl) rfl d_SA_beginningsEnd_12 ?_
    obtain ⟨u2, hu2⟩ : ∃ y : Int32, y = x3 + (1 : Int32) := ⟨_, rfl⟩
    replace h := h u2 hu2
    refine a_iinc (pc := 13) (v := u2) (lv' := [(3, .int u2), (2, .int u1), (0, .int x0), (1, .int x1)]) 3 rfl (by rw [hu2]; rfl) (Nat.le_of_ble_eq_true rfl) rfl d_SA_beginningsEnd_13 ?_
    refine a_goto (pc := 16) 4 (by decide) d_SA_beginningsEnd_16 ?_
    refine a_sub (pc := 4) [2, 3, 1, 0] rfl ?_
    exact h
theorem ko_SA_beginningsEnd {g : Gx}  {x0 : Int32} {x1 : Int32} {σ : St} {Q : Int32 → St → Prop} (h : S_SA_beginningsEnd_0 g Q σ x0 x1) : K_SA_beginningsEnd g x0 x1 σ Q := KI.of (show plainName "BallBox$State" = true by decide) (Nat.le_of_ble_eq_true rfl) h
theorem d_SA_kindAt_0 : decode c_SA_kindAt 0 = .ok (.iload_n 1, 1) := by decide +kernel
theorem d_SA_kindAt_1 : decode c_SA_kindAt 1 = .ok (.ifCond .lt 9, 3) := by decide +kernel
theorem d_SA_kindAt_4 : decode c_SA_kindAt 4 = .ok (.iload_n 1, 1) := by decide +kernel
theorem d_SA_kindAt_5 : decode c_SA_kindAt 5 = .ok (.bipush 64, 2) := by decide +kernel
theorem d_SA_kindAt_7 : decode c_SA_kindAt 7 = .ok (.if_icmp .lt 7, 3) := by decide +kernel
theorem d_SA_kindAt_10 : decode c_SA_kindAt 10 = .ok (.iconst (-1), 1) := by decide +kernel
theorem d_SA_kindAt_11 : decode c_SA_kindAt 11 = .ok (.goto 9, 3) := by decide +kernel
theorem d_SA_kindAt_14 : decode c_SA_kindAt 14 = .ok (.aload_n 0, 1) := by decide +kernel
theorem d_SA_kindAt_15 : decode c_SA_kindAt 15 = .ok (.getfield 15, 3) := by decide +kernel
theorem d_SA_kindAt_18 : decode c_SA_kindAt 18 = .ok (.iload_n 1, 1) := by decide +kernel
theorem d_SA_kindAt_19 : decode c_SA_kindAt 19 = .ok (.iaload, 1) := by decide +kernel
theorem d_SA_kindAt_20 : decode c_SA_kindAt 20 = .ok (.ireturn, 1) := by decide +kernel
def S_SA_kindAt_0 (g : Gx) (Q : Int32 → St → Prop) (σ : St) (t : Nat) (x1 : Int32) : Prop := Ax g m_SA_kindAt 0 0 (ZI g Q) SH σ 0 0 0 [(0, .ref (gB g + t)), (1, .int x1)] []
theorem sg_SA_kindAt_0 {g : Gx} {Q : Int32 → St → Prop} {σ : St} {t : Nat} {x1 : Int32} (ht : isSA t)
    (h : (x1 < 0 → Q (-1 : Int32) σ) ∧ (¬ x1 < 0 → (x1 < (64 : Int32) → vp_in x1 64 ∧ (Q (ai σ (t + 1) (x1).toNatClampNeg) σ)) ∧ (¬ x1 < (64 : Int32) → Q (-1 : Int32) σ))) : S_SA_kindAt_0 g Q σ t x1 := by
  show Ax g m_SA_kindAt 0 0 (ZI g Q) SH σ 0 0 0 [(0, .ref (gB g + t)), (1, .int x1)] []
  refine a_iload_n (pc := 0) 1 rfl rfl d_SA_kindAt_0 ?_
  refine a_if_lt (pc := 1) 10 (by decide) d_SA_kindAt_1 ⟨fun c0 => ?_, fun c0 => ?_⟩
  · replace h := h.1 c0
    refine a_iconst (pc := 10) (-1 : Int32) (by decide) d_SA_kindAt_10 ?_
    refine a_goto (pc := 11) 20 (by decide) d_SA_kindAt_11 ?_
    exact b_iret (pc := 20) rfl d_SA_kindAt_20 h
  · replace h := h.2 c0
    refine a_iload_n (pc := 4) 1 rfl rfl d_SA_kindAt_4 ?_
    refine a_bipush (pc := 5) (64 : Int32) (by decide) d_SA_kindAt_5 ?_
    refine a_icmp_lt (pc := 7) 14 (by decide) d_SA_kindAt_7 ⟨fun c0 => ?_, fun c0 => ?_⟩
    · replace h := h.1 c0
      refine a_aload_n (pc := 14) 0 rfl rfl d_SA_kindAt_14 ?_
      refine a_getR (pc := 15) fg_SA_15 (sa0 ht) rfl d_SA_kindAt_15 ?_
      refine a_iload_n (pc := 18) 1 rfl rfl d_SA_kindAt_18 ?_
      obtain ⟨hx, h⟩ := h
      refine a_iald (pc := 19) (sa1 ht) hx d_SA_kindAt_19 ?_
      exact b_iret (pc := 20) rfl d_SA_kindAt_20 h
    · replace h := h.2 c0
      refine a_iconst (pc := 10) (-1 : Int32) (by decide) d_SA_kindAt_10 ?_
      refine a_goto (pc := 11) 20 (by decide) d_SA_kindAt_11 ?_
      exact b_iret (pc := 20) rfl d_SA_kindAt_20 h
theorem ko_SA_kindAt {g : Gx}  {t : Nat} {x1 : Int32} {σ : St} {Q : Int32 → St → Prop} (h : S_SA_kindAt_0 g Q σ t x1) : K_SA_kindAt g t x1 σ Q := KI.of (show plainName "BallBox$State" = true by decide) (Nat.le_of_ble_eq_true rfl) h
theorem d_SA_makeKind_0 : decode c_SA_makeKind 0 = .ok (.iload_n 1, 1) := by decide +kernel
theorem d_SA_makeKind_1 : decode c_SA_makeKind 1 = .ok (.ifCond .lt 9, 3) := by decide +kernel
theorem d_SA_makeKind_4 : decode c_SA_makeKind 4 = .ok (.iload_n 1, 1) := by decide +kernel
theorem d_SA_makeKind_5 : decode c_SA_makeKind 5 = .ok (.bipush 64, 2) := by decide +kernel
theorem d_SA_makeKind_7 : decode c_SA_makeKind 7 = .ok (.if_icmp .lt 4, 3) := by decide +kernel
theorem d_SA_makeKind_10 : decode c_SA_makeKind 10 = .ok (.return_, 1) := by decide +kernel
theorem d_SA_makeKind_11 : decode c_SA_makeKind 11 = .ok (.aload_n 0, 1) := by decide +kernel
theorem d_SA_makeKind_12 : decode c_SA_makeKind 12 = .ok (.getfield 15, 3) := by decide +kernel
theorem d_SA_makeKind_15 : decode c_SA_makeKind 15 = .ok (.iload_n 1, 1) := by decide +kernel
theorem d_SA_makeKind_16 : decode c_SA_makeKind 16 = .ok (.iload_n 2, 1) := by decide +kernel
theorem d_SA_makeKind_17 : decode c_SA_makeKind 17 = .ok (.iastore, 1) := by decide +kernel
theorem d_SA_makeKind_18 : decode c_SA_makeKind 18 = .ok (.iload_n 2, 1) := by decide +kernel
theorem d_SA_makeKind_19 : decode c_SA_makeKind 19 = .ok (.iconst 2, 1) := by decide +kernel
theorem d_SA_makeKind_20 : decode c_SA_makeKind 20 = .ok (.if_icmp .lt 23, 3) := by decide +kernel
theorem d_SA_makeKind_23 : decode c_SA_makeKind 23 = .ok (.iload_n 2, 1) := by decide +kernel
theorem d_SA_makeKind_24 : decode c_SA_makeKind 24 = .ok (.iconst 2, 1) := by decide +kernel
theorem d_SA_makeKind_25 : decode c_SA_makeKind 25 = .ok (.isub, 1) := by decide +kernel
theorem d_SA_makeKind_26 : decode c_SA_makeKind 26 = .ok (.aload_n 0, 1) := by decide +kernel
theorem d_SA_makeKind_27 : decode c_SA_makeKind 27 = .ok (.getfield 19, 3) := by decide +kernel
theorem d_SA_makeKind_30 : decode c_SA_makeKind 30 = .ok (.arraylength, 1) := by decide +kernel
theorem d_SA_makeKind_31 : decode c_SA_makeKind 31 = .ok (.if_icmp .ge 12, 3) := by decide +kernel
theorem d_SA_makeKind_34 : decode c_SA_makeKind 34 = .ok (.aload_n 0, 1) := by decide +kernel
theorem d_SA_makeKind_35 : decode c_SA_makeKind 35 = .ok (.getfield 19, 3) := by decide +kernel
theorem d_SA_makeKind_38 : decode c_SA_makeKind 38 = .ok (.iload_n 2, 1) := by decide +kernel
theorem d_SA_makeKind_39 : decode c_SA_makeKind 39 = .ok (.iconst 2, 1) := by decide +kernel
theorem d_SA_makeKind_40 : decode c_SA_makeKind 40 = .ok (.isub, 1) := by decide +kernel
theorem d_SA_makeKind_41 : decode c_SA_makeKind 41 = .ok (.iload_n 1, 1) := by decide +kernel
theorem d_SA_makeKind_42 : decode c_SA_makeKind 42 = .ok (.iastore, 1) := by decide +kernel
theorem d_SA_makeKind_43 : decode c_SA_makeKind 43 = .ok (.return_, 1) := by decide +kernel
def S_SA_makeKind_0 (g : Gx) (Q : St → Prop) (σ : St) (t : Nat) (x1 : Int32) (x2 : Int32) : Prop := Ax g m_SA_makeKind 0 0 (ZV g Q) SH σ 0 0 0 [(0, .ref (gB g + t)), (1, .int x1), (2, .int x2)] []
theorem sg_SA_makeKind_0 {g : Gx} {Q : St → Prop} {σ : St} {t : Nat} {x1 : Int32} {x2 : Int32} (ht : isSA t)
    (h : (x1 < 0 → Q σ) ∧ (¬ x1 < 0 → (x1 < (64 : Int32) → vp_in x1 64 ∧ (∀ s1 : St, s1 = sai σ (t + 1) (x1).toNatClampNeg x2 → (x2 < (2 : Int32) → Q s1) ∧ (¬ x2 < (2 : Int32) → ((3 : Int32) ≤ (x2 - (2 : Int32)) → Q s1) ∧ (¬ (3 : Int32) ≤ (x2 - (2 : Int32)) → vp_in (x2 - (2 : Int32)) 3 ∧ (∀ s2 : St, s2 = sai s1 (t + 2) ((x2 - (2 : Int32))).toNatClampNeg x1 → Q s2))))) ∧ (¬ x1 < (64 : Int32) → Q σ))) : S_SA_makeKind_0 g Q σ t x1 x2 := by
  show Ax g m_SA_makeKind 0 0 (ZV g Q) SH σ 0 0 0 [(0, .ref (gB g + t)), (1, .int x1), (2, .int x2)] []
  refine a_iload_n (pc := 0) 1 rfl rfl d_SA_makeKind_0 ?_
  refine a_if_lt (pc := 1) 10 (by decide) d_SA_makeKind_1 ⟨fun c0 => ?_, fun c0 => ?_⟩
  · replace h := h.1 c0
    exact b_vret (pc := 10) rfl d_SA_makeKind_10 h
  · replace h := h.2 c0
    refine a_iload_n (pc := 4) 1 rfl rfl d_SA_makeKind_4 ?_
    refine a_bipush (pc := 5) (64 : Int32) (by decide) d_SA_makeKind_5 ?_
    refine a_icmp_lt (pc := 7) 11 (by decide) d_SA_makeKind_7 ⟨fun c0 => ?_, fun c0 => ?_⟩
    · replace h := h.1 c0
      refine a_aload_n (pc := 11) 0 rfl rfl d_SA_makeKind_11 ?_
      refine a_getR (pc := 12) fg_SA_15 (sa0 ht) rfl d_SA_makeKind_12 ?_
      refine a_iload_n (pc := 15) 1 rfl rfl d_SA_makeKind_15 ?_
      refine a_iload_n (pc := 16) 2 rfl rfl d_SA_makeKind_16 ?_
      obtain ⟨hx, h⟩ := h
      refine a_iast (pc := 17) (sa1 ht) hx d_SA_makeKind_17 ?_
      refine a_nms (fun s1 hs1 => ?_)
      replace h := h s1 hs1
      refine a_iload_n (pc := 18) 2 rfl rfl d_SA_makeKind_18 ?_
      refine a_iconst (pc := 19) (2 : Int32) (by decide) d_SA_makeKind_19 ?_
      refine a_icmp_lt (pc := 20) 43 (by decide) d_SA_makeKind_20 ⟨fun c0 => ?_, fun c0 => ?_⟩
      · replace h := h.1 c0
        exact b_vret (pc := 43) rfl d_SA_makeKind_43 h
      · replace h := h.2 c0
        refine a_iload_n (pc := 23) 2 rfl rfl d_SA_makeKind_23 ?_
        refine a_iconst (pc := 24) (2 : Int32) (by decide) d_SA_makeKind_24 ?_
        refine a_isub (pc := 25) d_SA_makeKind_25 ?_
        refine a_aload_n (pc := 26) 0 rfl rfl d_SA_makeKind_26 ?_
        refine a_getR (pc := 27) fg_SA_19 (sa0 ht) rfl d_SA_makeKind_27 ?_
        refine a_alen (pc := 30) (kd := 0) rfl (sa2 ht) d_SA_makeKind_30 ?_
        refine a_icmp_ge (pc := 31) 43 (by decide) d_SA_makeKind_31 ⟨fun c0 => ?_, fun c0 => ?_⟩
        · replace h := h.1 c0
          exact b_vret (pc := 43) rfl d_SA_makeKind_43 h
        · replace h := h.2 c0
          refine a_aload_n (pc := 34) 0 rfl rfl d_SA_makeKind_34 ?_
          refine a_getR (pc := 35) fg_SA_19 (sa0 ht) rfl d_SA_makeKind_35 ?_
          refine a_iload_n (pc := 38) 2 rfl rfl d_SA_makeKind_38 ?_
          refine a_iconst (pc := 39) (2 : Int32) (by decide) d_SA_makeKind_39 ?_
          refine a_isub (pc := 40) d_SA_makeKind_40 ?_
          refine a_iload_n (pc := 41) 1 rfl rfl d_SA_makeKind_41 ?_
          obtain ⟨hx, h⟩ := h
          refine a_iast (pc := 42) (sa2 ht) hx d_SA_makeKind_42 ?_
          refine a_nms (fun s2 hs2 => ?_)
          replace h := h s2 hs2
          exact b_vret (pc := 43) rfl d_SA_makeKind_43 h
    · replace h := h.2 c0
      exact b_vret (pc := 10) rfl d_SA_makeKind_10 h
theorem ko_SA_makeKind {g : Gx}  {t : Nat} {x1 : Int32} {x2 : Int32} {σ : St} {Q : St → Prop} (h : S_SA_makeKind_0 g Q σ t x1 x2) : K_SA_makeKind g t x1 x2 σ Q := KV.of (show plainName "BallBox$State" = true by decide) (Nat.le_of_ble_eq_true rfl) h
theorem d_SA_hasHole_0 : decode c_SA_hasHole 0 = .ok (.iload_n 1, 1) := by decide +kernel
theorem d_SA_hasHole_1 : decode c_SA_hasHole 1 = .ok (.iconst 2, 1) := by decide +kernel
theorem d_SA_hasHole_2 : decode c_SA_hasHole 2 = .ok (.if_icmp .lt 29, 3) := by decide +kernel
theorem d_SA_hasHole_5 : decode c_SA_hasHole 5 = .ok (.iload_n 1, 1) := by decide +kernel
theorem d_SA_hasHole_6 : decode c_SA_hasHole 6 = .ok (.iconst 2, 1) := by decide +kernel
theorem d_SA_hasHole_7 : decode c_SA_hasHole 7 = .ok (.isub, 1) := by decide +kernel
theorem d_SA_hasHole_8 : decode c_SA_hasHole 8 = .ok (.aload_n 0, 1) := by decide +kernel
theorem d_SA_hasHole_9 : decode c_SA_hasHole 9 = .ok (.getfield 19, 3) := by decide +kernel
theorem d_SA_hasHole_12 : decode c_SA_hasHole 12 = .ok (.arraylength, 1) := by decide +kernel
theorem d_SA_hasHole_13 : decode c_SA_hasHole 13 = .ok (.if_icmp .ge 18, 3) := by decide +kernel
theorem d_SA_hasHole_16 : decode c_SA_hasHole 16 = .ok (.aload_n 0, 1) := by decide +kernel
theorem d_SA_hasHole_17 : decode c_SA_hasHole 17 = .ok (.getfield 19, 3) := by decide +kernel
theorem d_SA_hasHole_20 : decode c_SA_hasHole 20 = .ok (.iload_n 1, 1) := by decide +kernel
theorem d_SA_hasHole_21 : decode c_SA_hasHole 21 = .ok (.iconst 2, 1) := by decide +kernel
theorem d_SA_hasHole_22 : decode c_SA_hasHole 22 = .ok (.isub, 1) := by decide +kernel
theorem d_SA_hasHole_23 : decode c_SA_hasHole 23 = .ok (.iaload, 1) := by decide +kernel
theorem d_SA_hasHole_24 : decode c_SA_hasHole 24 = .ok (.ifCond .eq 7, 3) := by decide +kernel
theorem d_SA_hasHole_27 : decode c_SA_hasHole 27 = .ok (.iconst 1, 1) := by decide +kernel
theorem d_SA_hasHole_28 : decode c_SA_hasHole 28 = .ok (.goto 4, 3) := by decide +kernel
theorem d_SA_hasHole_31 : decode c_SA_hasHole 31 = .ok (.iconst 0, 1) := by decide +kernel
theorem d_SA_hasHole_32 : decode c_SA_hasHole 32 = .ok (.ireturn, 1) := by decide +kernel
def S_SA_hasHole_0 (g : Gx) (Q : Int32 → St → Prop) (σ : St) (t : Nat) (x1 : Int32) : Prop := Ax g m_SA_hasHole 0 0 (ZI g Q) SH σ 0 0 0 [(0, .ref (gB g + t)), (1, .int x1)] []
theorem sg_SA_hasHole_0 {g : Gx} {Q : Int32 → St → Prop} {σ : St} {t : Nat} {x1 : Int32} (ht : isSA t)
    (h : (x1 < (2 : Int32) → Q (0 : Int32) σ) ∧ (¬ x1 < (2 : Int32) → ((3 : Int32) ≤ (x1 - (2 : Int32)) → Q (0 : Int32) σ) ∧ (¬ (3 : Int32) ≤ (x1 - (2 : Int32)) → vp_in (x1 - (2 : Int32)) 3 ∧ (((ai σ (t + 2) ((x1 - (2 : Int32))).toNatClampNeg) = 0 → Q (0 : Int32) σ) ∧ (¬ (ai σ (t + 2) ((x1 - (2 : Int32))).toNatClampNeg) = 0 → Q (1 : Int32) σ))))) : S_SA_hasHole_0 g Q σ t x1 := by
  show Ax g m_SA_hasHole 0 0 (ZI g Q) SH σ 0 0 0 [(0, .ref (gB g + t)), (1, .int x1)] []
  refine a_iload_n (pc := 0) 1 rfl rfl d_SA_hasHole_0 ?_
  refine a_iconst (pc := 1) (2 : Int32) (by decide) d_SA_hasHole_1 ?_
  refine a_icmp_lt (pc := 2) 31 (by decide) d_SA_hasHole_2 ⟨fun c0 => ?_, fun c0 => ?_⟩
  · replace h := h.1 c0
    refine a_iconst (pc := 31) (0 : Int32) (by decide) d_SA_hasHole_31 ?_
    exact b_zret (pc := 32) rfl (Or.inl rfl) d_SA_hasHole_32 h
  · replace h := h.2 c0
    refine a_iload_n (pc := 5) 1 rfl rfl d_SA_hasHole_5 ?_
    refine a_iconst (pc := 6) (2 : Int32) (by decide) d_SA_hasHole_6 ?_
    refine a_isub (pc := 7) d_SA_hasHole_7 ?_
    refine a_aload_n (pc := 8) 0 rfl rfl d_SA_hasHole_8 ?_
    refine a_getR (pc := 9) fg_SA_19 (sa0 ht) rfl d_SA_hasHole_9 ?_
    refine a_alen (pc := 12) (kd := 0) rfl (sa2 ht) d_SA_hasHole_12 ?_
    refine a_icmp_ge (pc := 13) 31 (by decide) d_SA_hasHole_13 ⟨fun c0 => ?_, fun c0 => ?_⟩
    · replace h := h.1 c0
      refine a_iconst (pc := 31) (0 : Int32) (by decide) d_SA_hasHole_31 ?_
      exact b_zret (pc := 32) rfl (Or.inl rfl) d_SA_hasHole_32 h
    · replace h := h.2 c0
      refine a_aload_n (pc := 16) 0 rfl rfl d_SA_hasHole_16 ?_
      refine a_getR (pc := 17) fg_SA_19 (sa0 ht) rfl d_SA_hasHole_17 ?_
      refine a_iload_n (pc := 20) 1 rfl rfl d_SA_hasHole_20 ?_
      refine a_iconst (pc := 21) (2 : Int32) (by decide) d_SA_hasHole_21 ?_
      refine a_isub (pc := 22) d_SA_hasHole_22 ?_
      obtain ⟨hx, h⟩ := h
      refine a_iald (pc := 23) (sa2 ht) hx d_SA_hasHole_23 ?_
      refine a_if_eq (pc := 24) 31 (by decide) d_SA_hasHole_24 ⟨fun c0 => ?_, fun c0 => ?_⟩
      · replace h := h.1 c0
        refine a_iconst (pc := 31) (0 : Int32) (by decide) d_SA_hasHole_31 ?_
        exact b_zret (pc := 32) rfl (Or.inl rfl) d_SA_hasHole_32 h
      · replace h := h.2 c0
        refine a_iconst (pc := 27) (1 : Int32) (by decide) d_SA_hasHole_27 ?_
        refine a_goto (pc := 28) 32 (by decide) d_SA_hasHole_28 ?_
        exact b_zret (pc := 32) rfl (Or.inr rfl) d_SA_hasHole_32 h
theorem ko_SA_hasHole {g : Gx}  {t : Nat} {x1 : Int32} {σ : St} {Q : Int32 → St → Prop} (h : S_SA_hasHole_0 g Q σ t x1) : K_SA_hasHole g t x1 σ Q := KI.of (show plainName "BallBox$State" = true by decide) (Nat.le_of_ble_eq_true rfl) h
theorem d_SA_isBare_0 : decode c_SA_isBare 0 = .ok (.aload_n 0, 1) := by decide +kernel
theorem d_SA_isBare_1 : decode c_SA_isBare 1 = .ok (.iload_n 1, 1) := by decide +kernel
theorem d_SA_isBare_2 : decode c_SA_isBare 2 = .ok (.invokevirtual 45, 3) := by decide +kernel
theorem d_SA_isBare_5 : decode c_SA_isBare 5 = .ok (.ifCond .ne 19, 3) := by decide +kernel
theorem d_SA_isBare_8 : decode c_SA_isBare 8 = .ok (.aload_n 0, 1) := by decide +kernel
theorem d_SA_isBare_9 : decode c_SA_isBare 9 = .ok (.getfield 48, 3) := by decide +kernel
theorem d_SA_isBare_12 : decode c_SA_isBare 12 = .ok (.iload_n 1, 1) := by decide +kernel
theorem d_SA_isBare_13 : decode c_SA_isBare 13 = .ok (.invokestatic 51, 3) := by decide +kernel
theorem d_SA_isBare_16 : decode c_SA_isBare 16 = .ok (.iconst (-1), 1) := by decide +kernel
theorem d_SA_isBare_17 : decode c_SA_isBare 17 = .ok (.if_icmp .ne 7, 3) := by decide +kernel
theorem d_SA_isBare_20 : decode c_SA_isBare 20 = .ok (.iconst 1, 1) := by decide +kernel
theorem d_SA_isBare_21 : decode c_SA_isBare 21 = .ok (.goto 4, 3) := by decide +kernel
theorem d_SA_isBare_24 : decode c_SA_isBare 24 = .ok (.iconst 0, 1) := by decide +kernel
theorem d_SA_isBare_25 : decode c_SA_isBare 25 = .ok (.ireturn, 1) := by decide +kernel
def S_SA_isBare_0 (g : Gx) (Q : Int32 → St → Prop) (σ : St) (t : Nat) (x1 : Int32) : Prop := Ax g m_SA_isBare 0 0 (ZI g Q) SH σ 0 0 0 [(0, .ref (gB g + t)), (1, .int x1)] []
theorem sg_SA_isBare_0 {g : Gx} {Q : Int32 → St → Prop} {σ : St} {t : Nat} {x1 : Int32} (ht : isSA t)
    (h : K_SA_kindAt g t x1 σ (fun (r2 : Int32) (s1 : St) => (¬ r2 = 0 → Q (0 : Int32) s1) ∧ (r2 = 0 → K_SA_whoLies g (fi s1 t 5) x1 s1 (fun (r4 : Int32) (s3 : St) => (¬ r4 = (-1 : Int32) → Q (0 : Int32) s3) ∧ (r4 = (-1 : Int32) → Q (1 : Int32) s3))))) : S_SA_isBare_0 g Q σ t x1 := by
  show Ax g m_SA_isBare 0 0 (ZI g Q) SH σ 0 0 0 [(0, .ref (gB g + t)), (1, .int x1)] []
  refine a_aload_n (pc := 0) 0 rfl rfl d_SA_isBare_0 ?_
  refine a_iload_n (pc := 1) 1 rfl rfl d_SA_isBare_1 ?_
  refine a_callV (pc := 2) (M' := m_SA_kindAt) (As := [.int x1]) (st := []) (mc' := 0) (ms' := 0) lk_SA_45 rfl (sa0 ht) rfl (by decide) (by decide) rfl (Nat.le_of_ble_eq_true rfl) (Nat.le_refl 0) (Nat.le_refl 0) d_SA_isBare_2 h ?_
  rintro _ _ s1 ⟨r2, rfl, rfl, h⟩ -
  show Ax g m_SA_isBare 0 0 (ZI g Q) SH s1 0 0 5 [(0, .ref (gB g + t)), (1, .int x1)] [.int r2]
  refine a_if_ne (pc := 5) 24 (by decide) d_SA_isBare_5 ⟨fun c0 => ?_, fun c0 => ?_⟩
  · replace h := h.1 c0
    refine a_iconst (pc := 24) (0 : Int32) (by decide) d_SA_isBare_24 ?_
    exact b_zret (pc := 25) rfl (Or.inl rfl) d_SA_isBare_25 h
  · replace h := h.2 c0
    refine a_aload_n (pc := 8) 0 rfl rfl d_SA_isBare_8 ?_
    refine a_getI (pc := 9) fg_SA_48 (sa0 ht) rfl d_SA_isBare_9 ?_
    refine a_iload_n (pc := 12) 1 rfl rfl d_SA_isBare_12 ?_
    refine a_callS (pc := 13) (M' := m_SA_whoLies) (As := [.int (fi s1 t 5), .int x1]) (st := []) (mc' := 0) (ms' := 0) lk_SA_51 rfl (by decide) (by decide) rfl (Nat.le_of_ble_eq_true rfl) (Nat.le_refl 0) (Nat.le_refl 0) d_SA_isBare_13 h ?_
    rintro _ _ s3 ⟨r4, rfl, rfl, h⟩ -
    show Ax g m_SA_isBare 0 0 (ZI g Q) SH s3 0 0 16 [(0, .ref (gB g + t)), (1, .int x1)] [.int r4]
    refine a_iconst (pc := 16) (-1 : Int32) (by decide) d_SA_isBare_16 ?_
    refine a_icmp_ne (pc := 17) 24 (by decide) d_SA_isBare_17 ⟨fun c0 => ?_, fun c0 => ?_⟩
    · replace h := h.1 c0
      refine a_iconst (pc := 24) (0 : Int32) (by decide) d_SA_isBare_24 ?_
      exact b_zret (pc := 25) rfl (Or.inl rfl) d_SA_isBare_25 h
    · replace h := h.2 c0
      refine a_iconst (pc := 20) (1 : Int32) (by decide) d_SA_isBare_20 ?_
      refine a_goto (pc := 21) 25 (by decide) d_SA_isBare_21 ?_
      exact b_zret (pc := 25) rfl (Or.inr rfl) d_SA_isBare_25 h
theorem ko_SA_isBare {g : Gx}  {t : Nat} {x1 : Int32} {σ : St} {Q : Int32 → St → Prop} (h : S_SA_isBare_0 g Q σ t x1) : K_SA_isBare g t x1 σ Q := KI.of (show plainName "BallBox$State" = true by decide) (Nat.le_of_ble_eq_true rfl) h
theorem d_SA_howManyHome_0 : decode c_SA_howManyHome 0 = .ok (.iload_n 1, 1) := by decide +kernel
theorem d_SA_howManyHome_1 : decode c_SA_howManyHome 1 = .ok (.iconst 0, 1) := by decide +kernel
theorem d_SA_howManyHome_2 : decode c_SA_howManyHome 2 = .ok (.invokestatic 54, 3) := by decide +kernel
theorem d_SA_howManyHome_5 : decode c_SA_howManyHome 5 = .ok (.iconst 3, 1) := by decide +kernel
theorem d_SA_howManyHome_6 : decode c_SA_howManyHome 6 = .ok (.aload_n 0, 1) := by decide +kernel
theorem d_SA_howManyHome_7 : decode c_SA_howManyHome 7 = .ok (.getfield 57, 3) := by decide +kernel
theorem d_SA_howManyHome_10 : decode c_SA_howManyHome 10 = .ok (.isub, 1) := by decide +kernel
theorem d_SA_howManyHome_11 : decode c_SA_howManyHome 11 = .ok (.isub, 1) := by decide +kernel
theorem d_SA_howManyHome_12 : decode c_SA_howManyHome 12 = .ok (.ireturn, 1) := by decide +kernel
def S_SA_howManyHome_0 (g : Gx) (Q : Int32 → St → Prop) (σ : St) (t : Nat) (x1 : Int32) : Prop := Ax g m_SA_howManyHome 0 0 (ZI g Q) SH σ 0 0 0 [(0, .ref (gB g + t)), (1, .int x1)] []
theorem sg_SA_howManyHome_0 {g : Gx} {Q : Int32 → St → Prop} {σ : St} {t : Nat} {x1 : Int32} (ht : isSA t)
    (h : K_SA_howMany g x1 (0 : Int32) σ (fun (r2 : Int32) (s1 : St) => Q (r2 - ((3 : Int32) - (fi s1 t 4))) s1)) : S_SA_howManyHome_0 g Q σ t x1 := by
  show Ax g m_SA_howManyHome 0 0 (ZI g Q) SH σ 0 0 0 [(0, .ref (gB g + t)), (1, .int x1)] []
  refine a_iload_n (pc := 0) 1 rfl rfl d_SA_howManyHome_0 ?_
  refine a_iconst (pc := 1) (0 : Int32) (by decide) d_SA_howManyHome_1 ?_
  refine a_callS (pc := 2) (M' := m_SA_howMany) (As := [.int x1, .int (0 : Int32)]) (st := []) (mc' := 0) (ms' := 0) lk_SA_54 rfl (by decide) (by decide) rfl (Nat.le_of_ble_eq_true rfl) (Nat.le_refl 0) (Nat.le_refl 0) d_SA_howManyHome_2 h ?_
  rintro _ _ s1 ⟨r2, rfl, rfl, h⟩ -
  show Ax g m_SA_howManyHome 0 0 (ZI g Q) SH s1 0 0 5 [(0, .ref (gB g + t)), (1, .int x1)] [.int r2]
  refine a_iconst (pc := 5) (3 : Int32) (by decide) d_SA_howManyHome_5 ?_
  refine a_aload_n (pc := 6) 0 rfl rfl d_SA_howManyHome_6 ?_
  refine a_getI (pc := 7) fg_SA_57 (sa0 ht) rfl d_SA_howManyHome_7 ?_
  refine a_isub (pc := 10) d_SA_howManyHome_10 ?_
  refine a_isub (pc := 11) d_SA_howManyHome_11 ?_
  exact b_iret (pc := 12) rfl d_SA_howManyHome_12 h
theorem ko_SA_howManyHome {g : Gx}  {t : Nat} {x1 : Int32} {σ : St} {Q : Int32 → St → Prop} (h : S_SA_howManyHome_0 g Q σ t x1) : K_SA_howManyHome g t x1 σ Q := KI.of (show plainName "BallBox$State" = true by decide) (Nat.le_of_ble_eq_true rfl) h
theorem d_SA_howManyWalls_0 : decode c_SA_howManyWalls 0 = .ok (.iconst 0, 1) := by decide +kernel
theorem d_SA_howManyWalls_1 : decode c_SA_howManyWalls 1 = .ok (.istore_n 1, 1) := by decide +kernel
theorem d_SA_howManyWalls_2 : decode c_SA_howManyWalls 2 = .ok (.iconst 0, 1) := by decide +kernel
theorem d_SA_howManyWalls_3 : decode c_SA_howManyWalls 3 = .ok (.istore_n 2, 1) := by decide +kernel
theorem d_SA_howManyWalls_4 : decode c_SA_howManyWalls 4 = .ok (.iload_n 2, 1) := by decide +kernel
theorem d_SA_howManyWalls_5 : decode c_SA_howManyWalls 5 = .ok (.bipush 64, 2) := by decide +kernel
theorem d_SA_howManyWalls_7 : decode c_SA_howManyWalls 7 = .ok (.if_icmp .ge 22, 3) := by decide +kernel
theorem d_SA_howManyWalls_10 : decode c_SA_howManyWalls 10 = .ok (.aload_n 0, 1) := by decide +kernel
theorem d_SA_howManyWalls_11 : decode c_SA_howManyWalls 11 = .ok (.getfield 15, 3) := by decide +kernel
theorem d_SA_howManyWalls_14 : decode c_SA_howManyWalls 14 = .ok (.iload_n 2, 1) := by decide +kernel
theorem d_SA_howManyWalls_15 : decode c_SA_howManyWalls 15 = .ok (.iaload, 1) := by decide +kernel
theorem d_SA_howManyWalls_16 : decode c_SA_howManyWalls 16 = .ok (.iconst 1, 1) := by decide +kernel
theorem d_SA_howManyWalls_17 : decode c_SA_howManyWalls 17 = .ok (.if_icmp .ne 6, 3) := by decide +kernel
theorem d_SA_howManyWalls_20 : decode c_SA_howManyWalls 20 = .ok (.iinc 1 1, 3) := by decide +kernel
theorem d_SA_howManyWalls_23 : decode c_SA_howManyWalls 23 = .ok (.iinc 2 1, 3) := by decide +kernel
theorem d_SA_howManyWalls_26 : decode c_SA_howManyWalls 26 = .ok (.goto (-22), 3) := by decide +kernel
theorem d_SA_howManyWalls_29 : decode c_SA_howManyWalls 29 = .ok (.iload_n 1, 1) := by decide +kernel
theorem d_SA_howManyWalls_30 : decode c_SA_howManyWalls 30 = .ok (.ireturn, 1) := by decide +kernel
def S_SA_howManyWalls_0 (g : Gx) (Q : Int32 → St → Prop) (σ : St) (t : Nat) : Prop := Ax g m_SA_howManyWalls 0 0 (ZI g Q) SH σ 0 0 0 [(0, .ref (gB g + t))] []
def S_SA_howManyWalls_4 (g : Gx) (Q : Int32 → St → Prop) (σ : St) (t : Nat) (x1 : Int32) (x2 : Int32) : Prop := Ax g m_SA_howManyWalls 0 0 (ZI g Q) SH σ 0 0 4 [(0, .ref (gB g + t)), (1, .int x1), (2, .int x2)] []
theorem sg_SA_howManyWalls_0 {g : Gx} {Q : Int32 → St → Prop} {σ : St} {t : Nat} (ht : isSA t)
    (h : S_SA_howManyWalls_4 g Q σ t (0 : Int32) (0 : Int32)) : S_SA_howManyWalls_0 g Q σ t := by
  show Ax g m_SA_howManyWalls 0 0 (ZI g Q) SH σ 0 0 0 [(0, .ref (gB g + t))] []
  refine a_iconst (pc := 0) (0 : Int32) (by decide) d_SA_howManyWalls_0 ?_
  refine a_istore_n (pc := 1) (lv' := [(1, .int (0 : Int32)), (0, .ref (gB g + t))]) rfl (Nat.le_of_ble_eq_true rfl) rfl d_SA_howManyWalls_1 ?_
  refine a_iconst (pc := 2) (0 : Int32) (by decide) d_SA_howManyWalls_2 ?_
  refine a_istore_n (pc := 3) (lv' := [(2, .int (0 : Int32)), (1, .int (0 : Int32)), (0, .ref (gB g + t))]) rfl (Nat.le_of_ble_eq_true rfl) rfl d_SA_howManyWalls_3 ?_
  refine a_sub (pc := 4) [2, 1, 0] rfl ?_
  exact h
theorem sg_SA_howManyWalls_4 {g : Gx} {Q : Int32 → St → Prop} {σ : St} {t : Nat} {x1 : Int32} {x2 : Int32} (ht : isSA t)
    (h : ((64 : Int32) ≤ x2 → Q x1 σ) ∧ (¬ (64 : Int32) ≤ x2 → vp_in x2 64 ∧ ((¬ (ai σ (t + 1) (x2).toNatClampNeg) = (1 : Int32) → ∀ u1 : Int32, u1 = x2 + (1 : Int32) → S_SA_howManyWalls_4 g Q σ t x1 u1) ∧ ((ai σ (t + 1) (x2).toNatClampNeg) = (1 : Int32) → ∀ u2 : Int32, u2 = x1 + (1 : Int32) → ∀ u3 : Int32, u3 = x2 + (1 : Int32) → S_SA_howManyWalls_4 g Q σ t u2 u3)))) : S_SA_howManyWalls_4 g Q σ t x1 x2 := by
  show Ax g m_SA_howManyWalls 0 0 (ZI g Q) SH σ 0 0 4 [(0, .ref (gB g + t)), (1, .int x1), (2, .int x2)] []
  refine a_iload_n (pc := 4) 2 rfl rfl d_SA_howManyWalls_4 ?_
  refine a_bipush (pc := 5) (64 : Int32) (by decide) d_SA_howManyWalls_5 ?_
  refine a_icmp_ge (pc := 7) 29 (by decide) d_SA_howManyWalls_7 ⟨fun c0 => ?_, fun c0 => ?_⟩
  · replace h := h.1 c0
    refine a_iload_n (pc := 29) 1 rfl rfl d_SA_howManyWalls_29 ?_
    exact b_iret (pc := 30) rfl d_SA_howManyWalls_30 h
  · replace h := h.2 c0
    refine a_aload_n (pc := 10) 0 rfl rfl d_SA_howManyWalls_10 ?_
    refine a_getR (pc := 11) fg_SA_15 (sa0 ht) rfl d_SA_howManyWalls_11 ?_
    refine a_iload_n (pc := 14) 2 rfl rfl d_SA_howManyWalls_14 ?_
    obtain ⟨hx, h⟩ := h
    refine a_iald (pc := 15) (sa1 ht) hx d_SA_howManyWalls_15 ?_
    refine a_iconst (pc := 16) (1 : Int32) (by decide) d_SA_howManyWalls_16 ?_
    refine a_icmp_ne (pc := 17) 23 (by decide) d_SA_howManyWalls_17 ⟨fun c0 => ?_, fun c0 => ?_⟩
    · replace h := h.1 c0
      obtain ⟨u1, hu1⟩ : ∃ y : Int32, y = x2 + (1 : Int32) := ⟨_, rfl⟩
      replace h := h u1 hu1
      refine a_iinc (pc := 23) (v := u1) (lv' := [(2, .int u1), (0, .ref (gB g + t)), (1, .int x1)]) 2 rfl (by rw [hu1]; rfl) (Nat.le_of_ble_eq_true rfl) rfl d_SA_howManyWalls_23 ?_
      refine a_goto (pc := 26) 4 (by decide) d_SA_howManyWalls_26 ?_
      refine a_sub (pc := 4) [1, 2, 0] rfl ?_
      exact h
    · replace h := h.2 c0
      obtain ⟨u2, hu2⟩ : ∃ y : Int32, y = x1 + (1 : Int32) := ⟨_, rfl⟩
      replace h := h u2 hu2
      refine a_iinc (pc := 20) (v := u2) (lv' := [(1, .int u2), (0, .ref (gB g + t)), (2, .int x2)]) 1 rfl (by rw [hu2]; rfl) (Nat.le_of_ble_eq_true rfl) rfl d_SA_howManyWalls_20 ?_
      obtain ⟨u3, hu3⟩ : ∃ y : Int32, y = x2 + (1 : Int32) := ⟨_, rfl⟩
      replace h := h u3 hu3
      refine a_iinc (pc := 23) (v := u3) (lv' := [(2, .int u3), (1, .int u2), (0, .ref (gB g + t))]) 2 rfl (by rw [hu3]; rfl) (Nat.le_of_ble_eq_true rfl) rfl d_SA_howManyWalls_23 ?_
      refine a_goto (pc := 26) 4 (by decide) d_SA_howManyWalls_26 ?_
      refine a_sub (pc := 4) [2, 1, 0] rfl ?_
      exact h
theorem ko_SA_howManyWalls {g : Gx}  {t : Nat} {σ : St} {Q : Int32 → St → Prop} (h : S_SA_howManyWalls_0 g Q σ t) : K_SA_howManyWalls g t σ Q := KI.of (show plainName "BallBox$State" = true by decide) (Nat.le_of_ble_eq_true rfl) h
theorem d_SA_stepsHome_0 : decode c_SA_stepsHome 0 = .ok (.iload_n 1, 1) := by decide +kernel
theorem d_SA_stepsHome_1 : decode c_SA_stepsHome 1 = .ok (.ifCond .lt 12, 3) := by decide +kernel
theorem d_SA_stepsHome_4 : decode c_SA_stepsHome 4 = .ok (.iload_n 1, 1) := by decide +kernel
theorem d_SA_stepsHome_5 : decode c_SA_stepsHome 5 = .ok (.aload_n 0, 1) := by decide +kernel
theorem d_SA_stepsHome_6 : decode c_SA_stepsHome 6 = .ok (.getfield 19, 3) := by decide +kernel
theorem d_SA_stepsHome_9 : decode c_SA_stepsHome 9 = .ok (.arraylength, 1) := by decide +kernel
theorem d_SA_stepsHome_10 : decode c_SA_stepsHome 10 = .ok (.if_icmp .lt 7, 3) := by decide +kernel
theorem d_SA_stepsHome_13 : decode c_SA_stepsHome 13 = .ok (.iconst 0, 1) := by decide +kernel
theorem d_SA_stepsHome_14 : decode c_SA_stepsHome 14 = .ok (.goto 9, 3) := by decide +kernel
theorem d_SA_stepsHome_17 : decode c_SA_stepsHome 17 = .ok (.aload_n 0, 1) := by decide +kernel
theorem d_SA_stepsHome_18 : decode c_SA_stepsHome 18 = .ok (.getfield 19, 3) := by decide +kernel
theorem d_SA_stepsHome_21 : decode c_SA_stepsHome 21 = .ok (.iload_n 1, 1) := by decide +kernel
theorem d_SA_stepsHome_22 : decode c_SA_stepsHome 22 = .ok (.iaload, 1) := by decide +kernel
theorem d_SA_stepsHome_23 : decode c_SA_stepsHome 23 = .ok (.istore_n 3, 1) := by decide +kernel
theorem d_SA_stepsHome_24 : decode c_SA_stepsHome 24 = .ok (.iload_n 3, 1) := by decide +kernel
theorem d_SA_stepsHome_25 : decode c_SA_stepsHome 25 = .ok (.ifCond .ne 5, 3) := by decide +kernel
theorem d_SA_stepsHome_28 : decode c_SA_stepsHome 28 = .ok (.iconst (-1), 1) := by decide +kernel
theorem d_SA_stepsHome_29 : decode c_SA_stepsHome 29 = .ok (.ireturn, 1) := by decide +kernel
theorem d_SA_stepsHome_30 : decode c_SA_stepsHome 30 = .ok (.iload_n 3, 1) := by decide +kernel
theorem d_SA_stepsHome_31 : decode c_SA_stepsHome 31 = .ok (.invokestatic 42, 3) := by decide +kernel
theorem d_SA_stepsHome_34 : decode c_SA_stepsHome 34 = .ok (.iload_n 2, 1) := by decide +kernel
theorem d_SA_stepsHome_35 : decode c_SA_stepsHome 35 = .ok (.invokestatic 42, 3) := by decide +kernel
theorem d_SA_stepsHome_38 : decode c_SA_stepsHome 38 = .ok (.isub, 1) := by decide +kernel
theorem d_SA_stepsHome_39 : decode c_SA_stepsHome 39 = .ok (.invokestatic 60, 3) := by decide +kernel
theorem d_SA_stepsHome_42 : decode c_SA_stepsHome 42 = .ok (.iload_n 3, 1) := by decide +kernel
theorem d_SA_stepsHome_43 : decode c_SA_stepsHome 43 = .ok (.invokestatic 38, 3) := by decide +kernel
theorem d_SA_stepsHome_46 : decode c_SA_stepsHome 46 = .ok (.iload_n 2, 1) := by decide +kernel
theorem d_SA_stepsHome_47 : decode c_SA_stepsHome 47 = .ok (.invokestatic 38, 3) := by decide +kernel
theorem d_SA_stepsHome_50 : decode c_SA_stepsHome 50 = .ok (.isub, 1) := by decide +kernel
theorem d_SA_stepsHome_51 : decode c_SA_stepsHome 51 = .ok (.invokestatic 60, 3) := by decide +kernel
theorem d_SA_stepsHome_54 : decode c_SA_stepsHome 54 = .ok (.iadd, 1) := by decide +kernel
theorem d_SA_stepsHome_55 : decode c_SA_stepsHome 55 = .ok (.ireturn, 1) := by decide +kernel
def S_SA_stepsHome_0 (g : Gx) (Q : Int32 → St → Prop) (σ : St) (t : Nat) (x1 : Int32) (x2 : Int32) : Prop := Ax g m_SA_stepsHome 0 0 (ZI g Q) SH σ 0 0 0 [(0, .ref (gB g + t)), (1, .int x1), (2, .int x2)] []
def S_SA_stepsHome_23 (g : Gx) (Q : Int32 → St → Prop) (σ : St) (x2 : Int32) (z0 : Int32) : Prop := Ax g m_SA_stepsHome 0 0 (ZI g Q) SH σ 0 0 23 [(2, .int x2)] [.int z0]
theorem sg_SA_stepsHome_0 {g : Gx} {Q : Int32 → St → Prop} {σ : St} {t : Nat} {x1 : Int32} {x2 : Int32} (ht : isSA t)
    (h : (x1 < 0 → S_SA_stepsHome_23 g Q σ x2 (0 : Int32)) ∧ (¬ x1 < 0 → (x1 < (3 : Int32) → vp_in x1 3 ∧ (S_SA_stepsHome_23 g Q σ x2 (ai σ (t + 2) (x1).toNatClampNeg))) ∧ (¬ x1 < (3 : Int32) → S_SA_stepsHome_23 g Q σ x2 (0 : Int32)))) : S_SA_stepsHome_0 g Q σ t x1 x2 := by
  show Ax g m_SA_stepsHome 0 0 (ZI g Q) SH σ 0 0 0 [(0, .ref (gB g + t)), (1, .int x1), (2, .int x2)] []
  refine a_iload_n (pc := 0) 1 rfl rfl d_SA_stepsHome_0 ?_
  refine a_if_lt (pc := 1) 13 (by decide) d_SA_stepsHome_1 ⟨fun c0 => ?_, fun c0 => ?_⟩
  · replace h := h.1 c0
    refine a_iconst (pc := 13) (0 : Int32) (by decide) d_SA_stepsHome_13 ?_
    refine a_goto (pc := 14) 23 (by decide) d_SA_stepsHome_14 ?_
    refine a_sub (pc := 23) [2] rfl ?_
    exact h
  · replace h := h.2 c0
    refine a_iload_n (pc := 4) 1 rfl rfl d_SA_stepsHome_4 ?_
    refine a_aload_n (pc := 5) 0 rfl rfl d_SA_stepsHome_5 ?_
    refine a_getR (pc := 6) fg_SA_19 (sa0 ht) rfl d_SA_stepsHome_6 ?_
    refine a_alen (pc := 9) (kd := 0) rfl (sa2 ht) d_SA_stepsHome_9 ?_
    refine a_icmp_lt (pc := 10) 17 (by decide) d_SA_stepsHome_10 ⟨fun c0 => ?_, fun c0 => ?_⟩
    · replace h := h.1 c0
      refine a_aload_n (pc := 17) 0 rfl rfl d_SA_stepsHome_17 ?_
      refine a_getR (pc := 18) fg_SA_19 (sa0 ht) rfl d_SA_stepsHome_18 ?_
      refine a_iload_n (pc := 21) 1 rfl rfl d_SA_stepsHome_21 ?_
      obtain ⟨hx, h⟩ := h
      refine a_iald (pc := 22) (sa2 ht) hx d_SA_stepsHome_22 ?_
      refine a_sub (pc := 23) [2] rfl ?_
      exact h
    · replace h := h.2 c0
      refine a_iconst (pc := 13) (0 : Int32) (by decide) d_SA_stepsHome_13 ?_
      refine a_goto (pc := 14) 23 (by decide) d_SA_stepsHome_14 ?_
      refine a_sub (pc := 23) [2] rfl ?_
      exact h
theorem sg_SA_stepsHome_23 {g : Gx} {Q : Int32 → St → Prop} {σ : St} {x2 : Int32} {z0 : Int32}
    (h : (¬ z0 = 0 → K_SA_columnOf g z0 σ (fun (r2 : Int32) (s1 : St) => K_SA_columnOf g x2 s1 (fun (r4 : Int32) (s3 : St) => K_SA_rowOf g z0 s3 (fun (r6 : Int32) (s5 : St) => K_SA_rowOf g x2 s5 (fun (r8 : Int32) (s7 : St) => Q ((if 0 ≤ (r2 - r4) then (r2 - r4) else 0 - (r2 - r4)) + (if 0 ≤ (r6 - r8) then (r6 - r8) else 0 - (r6 - r8))) s7))))) ∧ (z0 = 0 → Q (-1 : Int32) σ)) : S_SA_stepsHome_23 g Q σ x2 z0 := by
  show Ax g m_SA_stepsHome 0 0 (ZI g Q) SH σ 0 0 23 [(2, .int x2)] [.int z0]
  refine a_istore_n (pc := 23) (lv' := [(3, .int z0), (2, .int x2)]) rfl (Nat.le_of_ble_eq_true rfl) rfl d_SA_stepsHome_23 ?_
  refine a_iload_n (pc := 24) 0 rfl rfl d_SA_stepsHome_24 ?_
  refine a_if_ne (pc := 25) 30 (by decide) d_SA_stepsHome_25 ⟨fun c0 => ?_, fun c0 => ?_⟩
  · replace h := h.1 c0
    refine a_iload_n (pc := 30) 0 rfl rfl d_SA_stepsHome_30 ?_
    refine a_callS (pc := 31) (M' := m_SA_columnOf) (As := [.int z0]) (st := []) (mc' := 0) (ms' := 0) lk_SA_42 rfl (by decide) (by decide) rfl (Nat.le_of_ble_eq_true rfl) (Nat.le_refl 0) (Nat.le_refl 0) d_SA_stepsHome_31 h ?_
    rintro _ _ s1 ⟨r2, rfl, rfl, h⟩ -
    show Ax g m_SA_stepsHome 0 0 (ZI g Q) SH s1 0 0 34 [(3, .int z0), (2, .int x2)] [.int r2]
    refine a_iload_n (pc := 34) 1 rfl rfl d_SA_stepsHome_34 ?_
    refine a_callS (pc := 35) (M' := m_SA_columnOf) (As := [.int x2]) (st := [.int r2]) (mc' := 0) (ms' := 0) lk_SA_42 rfl (by decide) (by decide) rfl (Nat.le_of_ble_eq_true rfl) (Nat.le_refl 0) (Nat.le_refl 0) d_SA_stepsHome_35 h ?_
    rintro _ _ s3 ⟨r4, rfl, rfl, h⟩ -
    show Ax g m_SA_stepsHome 0 0 (ZI g Q) SH s3 0 0 38 [(3, .int z0), (2, .int x2)] [.int r4, .int r2]
    refine a_isub (pc := 38) d_SA_stepsHome_38 ?_
    refine a_mabs (pc := 39) tw849 (by decide) (Nat.le_of_ble_eq_true rfl) (Nat.le_refl 0) (Nat.le_refl 0) d_SA_stepsHome_39 ?_
    refine a_iload_n (pc := 42) 0 rfl rfl d_SA_stepsHome_42 ?_
    refine a_callS (pc := 43) (M' := m_SA_rowOf) (As := [.int z0]) (st := [.int (if 0 ≤ (r2 - r4) then (r2 - r4) else 0 - (r2 - r4))]) (mc' := 0) (ms' := 0) lk_SA_38 rfl (by decide) (by decide) rfl (Nat.le_of_ble_eq_true rfl) (Nat.le_refl 0) (Nat.le_refl 0) d_SA_stepsHome_43 h ?_
    rintro _ _ s5 ⟨r6, rfl, rfl, h⟩ -
    show Ax g m_SA_stepsHome 0 0 (ZI g Q) SH s5 0 0 46 [(3, .int z0), (2, .int x2)] [.int r6, .int (if 0 ≤ (r2 - r4) then (r2 - r4) else 0 - (r2 - r4))]
    refine a_iload_n (pc := 46) 1 rfl rfl d_SA_stepsHome_46 ?_
    refine a_callS (pc := 47) (M' := m_SA_rowOf) (As := [.int x2]) (st := [.int r6, .int (if 0 ≤ (r2 - r4) then (r2 - r4) else 0 - (r2 - r4))]) (mc' := 0) (ms' := 0) lk_SA_38 rfl (by decide) (by decide) rfl (Nat.le_of_ble_eq_true rfl) (Nat.le_refl 0) (Nat.le_refl 0) d_SA_stepsHome_47 h ?_
    rintro _ _ s7 ⟨r8, rfl, rfl, h⟩ -
    show Ax g m_SA_stepsHome 0 0 (ZI g Q) SH s7 0 0 50 [(3, .int z0), (2, .int x2)] [.int r8, .int r6, .int (if 0 ≤ (r2 - r4) then (r2 - r4) else 0 - (r2 - r4))]
    refine a_isub (pc := 50) d_SA_stepsHome_50 ?_
    refine a_mabs (pc := 51) tw849 (by decide) (Nat.le_of_ble_eq_true rfl) (Nat.le_refl 0) (Nat.le_refl 0) d_SA_stepsHome_51 ?_
    refine a_iadd (pc := 54) d_SA_stepsHome_54 ?_
    exact b_iret (pc := 55) rfl d_SA_stepsHome_55 h
  · replace h := h.2 c0
    refine a_iconst (pc := 28) (-1 : Int32) (by decide) d_SA_stepsHome_28 ?_
    exact b_iret (pc := 29) rfl d_SA_stepsHome_29 h
theorem ko_SA_stepsHome {g : Gx}  {t : Nat} {x1 : Int32} {x2 : Int32} {σ : St} {Q : Int32 → St → Prop} (h : S_SA_stepsHome_0 g Q σ t x1 x2) : K_SA_stepsHome g t x1 x2 σ Q := KI.of (show plainName "BallBox$State" = true by decide) (Nat.le_of_ble_eq_true rfl) h
theorem d_SA_isHopeless_0 : decode c_SA_isHopeless 0 = .ok (.iconst 0, 1) := by decide +kernel
theorem d_SA_isHopeless_1 : decode c_SA_isHopeless 1 = .ok (.istore_n 1, 1) := by decide +kernel
theorem d_SA_isHopeless_2 : decode c_SA_isHopeless 2 = .ok (.iload_n 1, 1) := by decide +kernel
theorem d_SA_isHopeless_3 : decode c_SA_isHopeless 3 = .ok (.aload_n 0, 1) := by decide +kernel
theorem d_SA_isHopeless_4 : decode c_SA_isHopeless 4 = .ok (.getfield 57, 3) := by decide +kernel
theorem d_SA_isHopeless_7 : decode c_SA_isHopeless 7 = .ok (.if_icmp .ge 39, 3) := by decide +kernel
theorem d_SA_isHopeless_10 : decode c_SA_isHopeless 10 = .ok (.aload_n 0, 1) := by decide +kernel
theorem d_SA_isHopeless_11 : decode c_SA_isHopeless 11 = .ok (.getfield 48, 3) := by decide +kernel
theorem d_SA_isHopeless_14 : decode c_SA_isHopeless 14 = .ok (.iload_n 1, 1) := by decide +kernel
theorem d_SA_isHopeless_15 : decode c_SA_isHopeless 15 = .ok (.invokestatic 34, 3) := by decide +kernel
theorem d_SA_isHopeless_18 : decode c_SA_isHopeless 18 = .ok (.istore_n 2, 1) := by decide +kernel
theorem d_SA_isHopeless_19 : decode c_SA_isHopeless 19 = .ok (.iload_n 2, 1) := by decide +kernel
theorem d_SA_isHopeless_20 : decode c_SA_isHopeless 20 = .ok (.bipush 7, 2) := by decide +kernel
theorem d_SA_isHopeless_22 : decode c_SA_isHopeless 22 = .ok (.if_icmp .eq 16, 3) := by decide +kernel
theorem d_SA_isHopeless_25 : decode c_SA_isHopeless 25 = .ok (.iload_n 2, 1) := by decide +kernel
theorem d_SA_isHopeless_26 : decode c_SA_isHopeless 26 = .ok (.ifCond .eq 14, 3) := by decide +kernel
theorem d_SA_isHopeless_29 : decode c_SA_isHopeless 29 = .ok (.aload_n 0, 1) := by decide +kernel
theorem d_SA_isHopeless_30 : decode c_SA_isHopeless 30 = .ok (.getfield 19, 3) := by decide +kernel
theorem d_SA_isHopeless_33 : decode c_SA_isHopeless 33 = .ok (.iload_n 1, 1) := by decide +kernel
theorem d_SA_isHopeless_34 : decode c_SA_isHopeless 34 = .ok (.iaload, 1) := by decide +kernel
theorem d_SA_isHopeless_35 : decode c_SA_isHopeless 35 = .ok (.ifCond .ne 5, 3) := by decide +kernel
theorem d_SA_isHopeless_38 : decode c_SA_isHopeless 38 = .ok (.iconst 1, 1) := by decide +kernel
theorem d_SA_isHopeless_39 : decode c_SA_isHopeless 39 = .ok (.ireturn, 1) := by decide +kernel
theorem d_SA_isHopeless_40 : decode c_SA_isHopeless 40 = .ok (.iinc 1 1, 3) := by decide +kernel
theorem d_SA_isHopeless_43 : decode c_SA_isHopeless 43 = .ok (.goto (-41), 3) := by decide +kernel
theorem d_SA_isHopeless_46 : decode c_SA_isHopeless 46 = .ok (.iconst 0, 1) := by decide +kernel
theorem d_SA_isHopeless_47 : decode c_SA_isHopeless 47 = .ok (.ireturn, 1) := by decide +kernel
def S_SA_isHopeless_0 (g : Gx) (Q : Int32 → St → Prop) (σ : St) (t : Nat) : Prop := Ax g m_SA_isHopeless 0 0 (ZI g Q) SH σ 0 0 0 [(0, .ref (gB g + t))] []
def S_SA_isHopeless_2 (g : Gx) (Q : Int32 → St → Prop) (σ : St) (t : Nat) (x1 : Int32) : Prop := Ax g m_SA_isHopeless 0 0 (ZI g Q) SH σ 0 0 2 [(0, .ref (gB g + t)), (1, .int x1)] []
theorem sg_SA_isHopeless_0 {g : Gx} {Q : Int32 → St → Prop} {σ : St} {t : Nat} (ht : isSA t)
    (h : S_SA_isHopeless_2 g Q σ t (0 : Int32)) : S_SA_isHopeless_0 g Q σ t := by
  show Ax g m_SA_isHopeless 0 0 (ZI g Q) SH σ 0 0 0 [(0, .ref (gB g + t))] []
  refine a_iconst (pc := 0) (0 : Int32) (by decide) d_SA_isHopeless_0 ?_
  refine a_istore_n (pc := 1) (lv' := [(1, .int (0 : Int32)), (0, .ref (gB g + t))]) rfl (Nat.le_of_ble_eq_true rfl) rfl d_SA_isHopeless_1 ?_
  refine a_sub (pc := 2) [1, 0] rfl ?_
  exact h
theorem sg_SA_isHopeless_2 {g : Gx} {Q : Int32 → St → Prop} {σ : St} {t : Nat} {x1 : Int32} (ht : isSA t)
    (h : ((fi σ t 4) ≤ x1 → Q (0 : Int32) σ) ∧ (¬ (fi σ t 4) ≤ x1 → K_SA_spotIn g (fi σ t 5) x1 σ (fun (r2 : Int32) (s1 : St) => (r2 = (7 : Int32) → Q (1 : Int32) s1) ∧ (¬ r2 = (7 : Int32) → (r2 = 0 → ∀ u3 : Int32, u3 = x1 + (1 : Int32) → S_SA_isHopeless_2 g Q s1 t u3) ∧ (¬ r2 = 0 → vp_in x1 3 ∧ ((¬ (ai s1 (t + 2) (x1).toNatClampNeg) = 0 → ∀ u4 : Int32, u4 = x1 + (1 : Int32) → S_SA_isHopeless_2 g Q s1 t u4) ∧ ((ai s1 (t + 2) (x1).toNatClampNeg) = 0 → Q (1 : Int32) s1))))))) : S_SA_isHopeless_2 g Q σ t x1 := by
  show Ax g m_SA_isHopeless 0 0 (ZI g Q) SH σ 0 0 2 [(0, .ref (gB g + t)), (1, .int x1)] []
  refine a_iload_n (pc := 2) 1 rfl rfl d_SA_isHopeless_2 ?_
  refine a_aload_n (pc := 3) 0 rfl rfl d_SA_isHopeless_3 ?_
  refine a_getI (pc := 4) fg_SA_57 (sa0 ht) rfl d_SA_isHopeless_4 ?_
  refine a_icmp_ge (pc := 7) 46 (by decide) d_SA_isHopeless_7 ⟨fun c0 => ?_, fun c0 => ?_⟩
  · replace h := h.1 c0
    refine a_iconst (pc := 46) (0 : Int32) (by decide) d_SA_isHopeless_46 ?_
    exact b_zret (pc := 47) rfl (Or.inl rfl) d_SA_isHopeless_47 h
  · replace h := h.2 c0
    refine a_aload_n (pc := 10) 0 rfl rfl d_SA_isHopeless_10 ?_
    refine a_getI (pc := 11) fg_SA_48 (sa0 ht) rfl d_SA_isHopeless_11 ?_
    refine a_iload_n (pc := 14) 1 rfl rfl d_SA_isHopeless_14 ?_
    refine a_callS (pc := 15) (M' := m_SA_spotIn) (As := [.int (fi σ t 5), .int x1]) (st := []) (mc' := 0) (ms' := 0) lk_SA_34 rfl (by decide) (by decide) rfl (Nat.le_of_ble_eq_true rfl) (Nat.le_refl 0) (Nat.le_refl 0) d_SA_isHopeless_15 h ?_
    rintro _ _ s1 ⟨r2, rfl, rfl, h⟩ -
    show Ax g m_SA_isHopeless 0 0 (ZI g Q) SH s1 0 0 18 [(0, .ref (gB g + t)), (1, .int x1)] [.int r2]
    refine a_istore_n (pc := 18) (lv' := [(2, .int r2), (0, .ref (gB g + t)), (1, .int x1)]) rfl (Nat.le_of_ble_eq_true rfl) rfl d_SA_isHopeless_18 ?_
    refine a_iload_n (pc := 19) 0 rfl rfl d_SA_isHopeless_19 ?_
    refine a_bipush (pc := 20) (7 : Int32) (by decide) d_SA_isHopeless_20 ?_
    refine a_icmp_eq (pc := 22) 38 (by decide) d_SA_isHopeless_22 ⟨fun c0 => ?_, fun c0 => ?_⟩
    · replace h := h.1 c0
      refine a_iconst (pc := 38) (1 : Int32) (by decide) d_SA_isHopeless_38 ?_
      exact b_zret (pc := 39) rfl (Or.inr rfl) d_SA_isHopeless_39 h
    · replace h := h.2 c0
      refine a_iload_n (pc := 25) 0 rfl rfl d_SA_isHopeless_25 ?_
      refine a_if_eq (pc := 26) 40 (by decide) d_SA_isHopeless_26 ⟨fun c0 => ?_, fun c0 => ?_⟩
      · replace h := h.1 c0
        obtain ⟨u3, hu3⟩ : ∃ y : Int32, y = x1 + (1 : Int32) := ⟨_, rfl⟩
        replace h := h u3 hu3
        refine a_iinc (pc := 40) (v := u3) (lv' := [(1, .int u3), (2, .int r2), (0, .ref (gB g + t))]) 2 rfl (by rw [hu3]; rfl) (Nat.le_of_ble_eq_true rfl) rfl d_SA_isHopeless_40 ?_
        refine a_goto (pc := 43) 2 (by decide) d_SA_isHopeless_43 ?_
        refine a_sub (pc := 2) [2, 0] rfl ?_
        exact h
      · replace h := h.2 c0
        refine a_aload_n (pc := 29) 1 rfl rfl d_SA_isHopeless_29 ?_
        refine a_getR (pc := 30) fg_SA_19 (sa0 ht) rfl d_SA_isHopeless_30 ?_
        refine a_iload_n (pc := 33) 2 rfl rfl d_SA_isHopeless_33 ?_
        obtain ⟨hx, h⟩ := h
        refine a_iald (pc := 34) (sa2 ht) hx d_SA_isHopeless_34 ?_
        refine a_if_ne (pc := 35) 40 (by decide) d_SA_isHopeless_35 ⟨fun c0 => ?_, fun c0 => ?_⟩
        · replace h := h.1 c0
          obtain ⟨u4, hu4⟩ : ∃ y : Int32, y = x1 + (1 : Int32) := ⟨_, rfl⟩
          replace h := h u4 hu4
          refine a_iinc (pc := 40) (v := u4) (lv' := [(1, .int u4), (2, .int r2), (0, .ref (gB g + t))]) 2 rfl (by rw [hu4]; rfl) (Nat.le_of_ble_eq_true rfl) rfl d_SA_isHopeless_40 ?_
          refine a_goto (pc := 43) 2 (by decide) d_SA_isHopeless_43 ?_
          refine a_sub (pc := 2) [2, 0] rfl ?_
          exact h
        · replace h := h.2 c0
          refine a_iconst (pc := 38) (1 : Int32) (by decide) d_SA_isHopeless_38 ?_
          exact b_zret (pc := 39) rfl (Or.inr rfl) d_SA_isHopeless_39 h
theorem ko_SA_isHopeless {g : Gx}  {t : Nat} {σ : St} {Q : Int32 → St → Prop} (h : S_SA_isHopeless_0 g Q σ t) : K_SA_isHopeless g t σ Q := KI.of (show plainName "BallBox$State" = true by decide) (Nat.le_of_ble_eq_true rfl) h
theorem d_SA_listPlain_0 : decode c_SA_listPlain 0 = .ok (.iconst 0, 1) := by decide +kernel
theorem d_SA_listPlain_1 : decode c_SA_listPlain 1 = .ok (.istore_n 2, 1) := by decide +kernel
theorem d_SA_listPlain_2 : decode c_SA_listPlain 2 = .ok (.iconst 0, 1) := by decide +kernel
theorem d_SA_listPlain_3 : decode c_SA_listPlain 3 = .ok (.istore_n 3, 1) := by decide +kernel
theorem d_SA_listPlain_4 : decode c_SA_listPlain 4 = .ok (.iload_n 3, 1) := by decide +kernel
theorem d_SA_listPlain_5 : decode c_SA_listPlain 5 = .ok (.bipush 64, 2) := by decide +kernel
theorem d_SA_listPlain_7 : decode c_SA_listPlain 7 = .ok (.if_icmp .ge 31, 3) := by decide +kernel
theorem d_SA_listPlain_10 : decode c_SA_listPlain 10 = .ok (.aload_n 0, 1) := by decide +kernel
theorem d_SA_listPlain_11 : decode c_SA_listPlain 11 = .ok (.getfield 15, 3) := by decide +kernel
theorem d_SA_listPlain_14 : decode c_SA_listPlain 14 = .ok (.iload_n 3, 1) := by decide +kernel
theorem d_SA_listPlain_15 : decode c_SA_listPlain 15 = .ok (.iaload, 1) := by decide +kernel
theorem d_SA_listPlain_16 : decode c_SA_listPlain 16 = .ok (.ifCond .ne 16, 3) := by decide +kernel
theorem d_SA_listPlain_19 : decode c_SA_listPlain 19 = .ok (.iload_n 2, 1) := by decide +kernel
theorem d_SA_listPlain_20 : decode c_SA_listPlain 20 = .ok (.aload_n 1, 1) := by decide +kernel
theorem d_SA_listPlain_21 : decode c_SA_listPlain 21 = .ok (.arraylength, 1) := by decide +kernel
theorem d_SA_listPlain_22 : decode c_SA_listPlain 22 = .ok (.if_icmp .ge 10, 3) := by decide +kernel
theorem d_SA_listPlain_25 : decode c_SA_listPlain 25 = .ok (.aload_n 1, 1) := by decide +kernel
theorem d_SA_listPlain_26 : decode c_SA_listPlain 26 = .ok (.iload_n 2, 1) := by decide +kernel
theorem d_SA_listPlain_27 : decode c_SA_listPlain 27 = .ok (.iload_n 3, 1) := by decide +kernel
theorem d_SA_listPlain_28 : decode c_SA_listPlain 28 = .ok (.iastore, 1) := by decide +kernel
theorem d_SA_listPlain_29 : decode c_SA_listPlain 29 = .ok (.iinc 2 1, 3) := by decide +kernel
theorem d_SA_listPlain_32 : decode c_SA_listPlain 32 = .ok (.iinc 3 1, 3) := by decide +kernel
theorem d_SA_listPlain_35 : decode c_SA_listPlain 35 = .ok (.goto (-31), 3) := by decide +kernel
theorem d_SA_listPlain_38 : decode c_SA_listPlain 38 = .ok (.iload_n 2, 1) := by decide +kernel
theorem d_SA_listPlain_39 : decode c_SA_listPlain 39 = .ok (.ireturn, 1) := by decide +kernel
def S_SA_listPlain_0 (g : Gx) (Q : Int32 → St → Prop) (σ : St) (t : Nat) (a1 : Nat) : Prop := Ax g m_SA_listPlain 0 0 (ZI g Q) SH σ 0 0 0 [(0, .ref (gB g + t)), (1, .ref (gB g + a1))] []
def S_SA_listPlain_4 (g : Gx) (Q : Int32 → St → Prop) (σ : St) (t : Nat) (a1 : Nat) (x2 : Int32) (x3 : Int32) : Prop := Ax g m_SA_listPlain 0 0 (ZI g Q) SH σ 0 0 4 [(0, .ref (gB g + t)), (1, .ref (gB g + a1)), (2, .int x2), (3, .int x3)] []
theorem sg_SA_listPlain_0 {g : Gx} {Q : Int32 → St → Prop} {σ : St} {t : Nat} {a1 : Nat} {N1 : Nat} (ht : isSA t) (ha1 : SH[a1]? = some (.inr (0, N1, [])))
    (h : S_SA_listPlain_4 g Q σ t a1 (0 : Int32) (0 : Int32)) : S_SA_listPlain_0 g Q σ t a1 := by
  show Ax g m_SA_listPlain 0 0 (ZI g Q) SH σ 0 0 0 [(0, .ref (gB g + t)), (1, .ref (gB g + a1))] []
  refine a_iconst (pc := 0) (0 : Int32) (by decide) d_SA_listPlain_0 ?_
  refine a_istore_n (pc := 1) (lv' := [(2, .int (0 : Int32)), (0, .ref (gB g + t)), (1, .ref (gB g + a1))]) rfl (Nat.le_of_ble_eq_true rfl) rfl d_SA_listPlain_1 ?_
  refine a_iconst (pc := 2) (0 : Int32) (by decide) d_SA_listPlain_2 ?_
  refine a_istore_n (pc := 3) (lv' := [(3, .int (0 : Int32)), (2, .int (0 : Int32)), (0, .ref (gB g + t)), (1, .ref (gB g + a1))]) rfl (Nat.le_of_ble_eq_true rfl) rfl d_SA_listPlain_3 ?_
  refine a_sub (pc := 4) [2, 3, 1, 0] rfl ?_
  exact h
theorem sg_SA_listPlain_4 {g : Gx} {Q : Int32 → St → Prop} {σ : St} {t : Nat} {a1 : Nat} {N1 : Nat} {x2 : Int32} {x3 : Int32} (ht : isSA t) (ha1 : SH[a1]? = some (.inr (0, N1, [])))
    (h : ((64 : Int32) ≤ x3 → Q x2 σ) ∧ (¬ (64 : Int32) ≤ x3 → vp_in x3 64 ∧ ((¬ (ai σ (t + 1) (x3).toNatClampNeg) = 0 → ∀ u1 : Int32, u1 = x3 + (1 : Int32) → S_SA_listPlain_4 g Q σ t a1 x2 u1) ∧ ((ai σ (t + 1) (x3).toNatClampNeg) = 0 → ((Int32.ofNat N1) ≤ x2 → ∀ u2 : Int32, u2 = x3 + (1 : Int32) → S_SA_listPlain_4 g Q σ t a1 x2 u2) ∧ (¬ (Int32.ofNat N1) ≤ x2 → vp_in x2 N1 ∧ (∀ s3 : St, s3 = sai σ a1 (x2).toNatClampNeg x3 → ∀ u4 : Int32, u4 = x2 + (1 : Int32) → ∀ u5 : Int32, u5 = x3 + (1 : Int32) → S_SA_listPlain_4 g Q s3 t a1 u4 u5)))))) : S_SA_listPlain_4 g Q σ t a1 x2 x3 := by
  show Ax g m_SA_listPlain 0 0 (ZI g Q) SH σ 0 0 4 [(0, .ref (gB g + t)), (1, .ref (gB g + a1)), (2, .int x2), (3, .int x3)] []
  refine a_iload_n (pc := 4) 3 rfl rfl d_SA_listPlain_4 ?_
  refine a_bipush (pc := 5) (64 : Int32) (by decide) d_SA_listPlain_5 ?_
  refine a_icmp_ge (pc := 7) 38 (by decide) d_SA_listPlain_7 ⟨fun c0 => ?_, fun c0 => ?_⟩
  · replace h := h.1 c0
    refine a_iload_n (pc := 38) 2 rfl rfl d_SA_listPlain_38 ?_
    exact b_iret (pc := 39) rfl d_SA_listPlain_39 h
  · replace h := h.2 c0
    refine a_aload_n (pc := 10) 0 rfl rfl d_SA_listPlain_10 ?_
    refine a_getR (pc := 11) fg_SA_15 (sa0 ht) rfl d_SA_listPlain_11 ?_
    refine a_iload_n (pc := 14) 3 rfl rfl d_SA_listPlain_14 ?_
    obtain ⟨hx, h⟩ := h
    refine a_iald (pc := 15) (sa1 ht) hx d_SA_listPlain_15 ?_
    refine a_if_ne (pc := 16) 32 (by decide) d_SA_listPlain_16 ⟨fun c0 => ?_, fun c0 => ?_⟩
    · replace h := h.1 c0
      obtain ⟨u1, hu1⟩ : ∃ y : Int32, y = x3 + (1 : Int32) := ⟨_, rfl⟩
      replace h := h u1 hu1
      refine a_iinc (pc := 32) (v := u1) (lv' := [(3, .int u1), (0, .ref (gB g + t)), (1, .ref (gB g + a1)), (2, .int x2)]) 3 rfl (by rw [hu1]; rfl) (Nat.le_of_ble_eq_true rfl) rfl d_SA_listPlain_32 ?_
      refine a_goto (pc := 35) 4 (by decide) d_SA_listPlain_35 ?_
      refine a_sub (pc := 4) [1, 2, 3, 0] rfl ?_
      exact h
    · replace h := h.2 c0
      refine a_iload_n (pc := 19) 2 rfl rfl d_SA_listPlain_19 ?_
      refine a_aload_n (pc := 20) 1 rfl rfl d_SA_listPlain_20 ?_
      refine a_alen (pc := 21) (kd := 0) rfl ha1 d_SA_listPlain_21 ?_
      refine a_icmp_ge (pc := 22) 32 (by decide) d_SA_listPlain_22 ⟨fun c0 => ?_, fun c0 => ?_⟩
      · replace h := h.1 c0
        obtain ⟨u2, hu2⟩ : ∃ y : Int32, y = x3 + (1 : Int32) := ⟨_, rfl⟩
        replace h := h u2 hu2
        refine a_iinc (pc := 32) (v := u2) (lv' := [(3, .int u2), (0, .ref (gB g + t)), (1, .ref (gB g + a1)), (2, .int x2)]) 3 rfl (by rw [hu2]; rfl) (Nat.le_of_ble_eq_true rfl) rfl d_SA_listPlain_32 ?_
        refine a_goto (pc := 35) 4 (by decide) d_SA_listPlain_35 ?_
        refine a_sub (pc := 4) [1, 2, 3, 0] rfl ?_
        exact h
      · replace h := h.2 c0
        refine a_aload_n (pc := 25) 1 rfl rfl d_SA_listPlain_25 ?_
        refine a_iload_n (pc := 26) 2 rfl rfl d_SA_listPlain_26 ?_
        refine a_iload_n (pc := 27) 3 rfl rfl d_SA_listPlain_27 ?_
        obtain ⟨hx, h⟩ := h
        refine a_iast (pc := 28) ha1 hx d_SA_listPlain_28 ?_
        refine a_nms (fun s3 hs3 => ?_)
        replace h := h s3 hs3
        obtain ⟨u4, hu4⟩ : ∃ y : Int32, y = x2 + (1 : Int32) := ⟨_, rfl⟩
        replace h := h u4 hu4
        refine a_iinc (pc := 29) (v := u4) (lv' := [(2, .int u4), (0, .ref (gB g + t)), (1, .ref (gB g + a1)), (3, .int x3)]) 2 rfl (by rw [hu4]; rfl) (Nat.le_of_ble_eq_true rfl) rfl d_SA_listPlain_29 ?_
        obtain ⟨u5, hu5⟩ : ∃ y : Int32, y = x3 + (1 : Int32) := ⟨_, rfl⟩
        replace h := h u5 hu5
        refine a_iinc (pc := 32) (v := u5) (lv' := [(3, .int u5), (2, .int u4), (0, .ref (gB g + t)), (1, .ref (gB g + a1))]) 3 rfl (by rw [hu5]; rfl) (Nat.le_of_ble_eq_true rfl) rfl d_SA_listPlain_32 ?_
        refine a_goto (pc := 35) 4 (by decide) d_SA_listPlain_35 ?_
        refine a_sub (pc := 4) [2, 3, 1, 0] rfl ?_
        exact h
theorem ko_SA_listPlain {g : Gx}  {t : Nat} {a1 : Nat} {σ : St} {Q : Int32 → St → Prop} (h : S_SA_listPlain_0 g Q σ t a1) : K_SA_listPlain g t a1 σ Q := KI.of (show plainName "BallBox$State" = true by decide) (Nat.le_of_ble_eq_true rfl) h
theorem d_SA_clearBox_0 : decode c_SA_clearBox 0 = .ok (.aload_n 0, 1) := by decide +kernel
theorem d_SA_clearBox_1 : decode c_SA_clearBox 1 = .ok (.getfield 15, 3) := by decide +kernel
theorem d_SA_clearBox_4 : decode c_SA_clearBox 4 = .ok (.iconst (-1), 1) := by decide +kernel
theorem d_SA_clearBox_5 : decode c_SA_clearBox 5 = .ok (.invokestatic 28, 3) := by decide +kernel
theorem d_SA_clearBox_8 : decode c_SA_clearBox 8 = .ok (.aload_n 0, 1) := by decide +kernel
theorem d_SA_clearBox_9 : decode c_SA_clearBox 9 = .ok (.getfield 19, 3) := by decide +kernel
theorem d_SA_clearBox_12 : decode c_SA_clearBox 12 = .ok (.iconst 0, 1) := by decide +kernel
theorem d_SA_clearBox_13 : decode c_SA_clearBox 13 = .ok (.invokestatic 28, 3) := by decide +kernel
theorem d_SA_clearBox_16 : decode c_SA_clearBox 16 = .ok (.aload_n 0, 1) := by decide +kernel
theorem d_SA_clearBox_17 : decode c_SA_clearBox 17 = .ok (.iconst 0, 1) := by decide +kernel
theorem d_SA_clearBox_18 : decode c_SA_clearBox 18 = .ok (.putfield 65, 3) := by decide +kernel
theorem d_SA_clearBox_21 : decode c_SA_clearBox 21 = .ok (.aload_n 0, 1) := by decide +kernel
theorem d_SA_clearBox_22 : decode c_SA_clearBox 22 = .ok (.iconst 0, 1) := by decide +kernel
theorem d_SA_clearBox_23 : decode c_SA_clearBox 23 = .ok (.putfield 68, 3) := by decide +kernel
theorem d_SA_clearBox_26 : decode c_SA_clearBox 26 = .ok (.aload_n 0, 1) := by decide +kernel
theorem d_SA_clearBox_27 : decode c_SA_clearBox 27 = .ok (.iconst 0, 1) := by decide +kernel
theorem d_SA_clearBox_28 : decode c_SA_clearBox 28 = .ok (.putfield 57, 3) := by decide +kernel
theorem d_SA_clearBox_31 : decode c_SA_clearBox 31 = .ok (.aload_n 0, 1) := by decide +kernel
theorem d_SA_clearBox_32 : decode c_SA_clearBox 32 = .ok (.iconst 0, 1) := by decide +kernel
theorem d_SA_clearBox_33 : decode c_SA_clearBox 33 = .ok (.putfield 48, 3) := by decide +kernel
theorem d_SA_clearBox_36 : decode c_SA_clearBox 36 = .ok (.return_, 1) := by decide +kernel
def S_SA_clearBox_0 (g : Gx) (Q : St → Prop) (σ : St) (t : Nat) : Prop := Ax g m_SA_clearBox 0 0 (ZV g Q) SH σ 0 0 0 [(0, .ref (gB g + t))] []
theorem sg_SA_clearBox_0 {g : Gx} {Q : St → Prop} {σ : St} {t : Nat} (ht : isSA t)
    (h : K_JA_fill g (t + 1) (-1 : Int32) σ (fun s1 : St => K_JA_fill g (t + 2) (0 : Int32) s1 (fun s2 : St => ∀ s3 : St, s3 = sfi s2 t 2 (0 : Int32) → ∀ s4 : St, s4 = sfi s3 t 3 (0 : Int32) → ∀ s5 : St, s5 = sfi s4 t 4 (0 : Int32) → ∀ s6 : St, s6 = sfi s5 t 5 (0 : Int32) → Q s6))) : S_SA_clearBox_0 g Q σ t := by
  show Ax g m_SA_clearBox 0 0 (ZV g Q) SH σ 0 0 0 [(0, .ref (gB g + t))] []
  refine a_aload_n (pc := 0) 0 rfl rfl d_SA_clearBox_0 ?_
  refine a_getR (pc := 1) fg_SA_15 (sa0 ht) rfl d_SA_clearBox_1 ?_
  refine a_iconst (pc := 4) (-1 : Int32) (by decide) d_SA_clearBox_4 ?_
  refine a_callS (pc := 5) (M' := m_JA_fill) (As := [.ref (gB g + (t + 1)), .int (-1 : Int32)]) (st := []) (mc' := 0) (ms' := 0) lk_SA_28 rfl (by decide) (by decide) rfl (Nat.le_of_ble_eq_true rfl) (Nat.le_refl 0) (Nat.le_refl 0) d_SA_clearBox_5 h ?_
  rintro _ _ s1 ⟨rfl, rfl, h⟩ -
  show Ax g m_SA_clearBox 0 0 (ZV g Q) SH s1 0 0 8 [(0, .ref (gB g + t))] []
  refine a_aload_n (pc := 8) 0 rfl rfl d_SA_clearBox_8 ?_
  refine a_getR (pc := 9) fg_SA_19 (sa0 ht) rfl d_SA_clearBox_9 ?_
  refine a_iconst (pc := 12) (0 : Int32) (by decide) d_SA_clearBox_12 ?_
  refine a_callS (pc := 13) (M' := m_JA_fill) (As := [.ref (gB g + (t + 2)), .int (0 : Int32)]) (st := []) (mc' := 0) (ms' := 0) lk_SA_28 rfl (by decide) (by decide) rfl (Nat.le_of_ble_eq_true rfl) (Nat.le_refl 0) (Nat.le_refl 0) d_SA_clearBox_13 h ?_
  rintro _ _ s2 ⟨rfl, rfl, h⟩ -
  show Ax g m_SA_clearBox 0 0 (ZV g Q) SH s2 0 0 16 [(0, .ref (gB g + t))] []
  refine a_aload_n (pc := 16) 0 rfl rfl d_SA_clearBox_16 ?_
  refine a_iconst (pc := 17) (0 : Int32) (by decide) d_SA_clearBox_17 ?_
  refine a_putI (pc := 18) fp_SA_65 (sa0 ht) rfl d_SA_clearBox_18 ?_
  refine a_nms (fun s3 hs3 => ?_)
  replace h := h s3 hs3
  refine a_aload_n (pc := 21) 0 rfl rfl d_SA_clearBox_21 ?_
  refine a_iconst (pc := 22) (0 : Int32) (by decide) d_SA_clearBox_22 ?_
  refine a_putI (pc := 23) fp_SA_68 (sa0 ht) rfl d_SA_clearBox_23 ?_
  refine a_nms (fun s4 hs4 => ?_)
  replace h := h s4 hs4
  refine a_aload_n (pc := 26) 0 rfl rfl d_SA_clearBox_26 ?_
  refine a_iconst (pc := 27) (0 : Int32) (by decide) d_SA_clearBox_27 ?_
  refine a_putI (pc := 28) fp_SA_57 (sa0 ht) rfl d_SA_clearBox_28 ?_
  refine a_nms (fun s5 hs5 => ?_)
  replace h := h s5 hs5
  refine a_aload_n (pc := 31) 0 rfl rfl d_SA_clearBox_31 ?_
  refine a_iconst (pc := 32) (0 : Int32) (by decide) d_SA_clearBox_32 ?_
  refine a_putI (pc := 33) fp_SA_48 (sa0 ht) rfl d_SA_clearBox_33 ?_
  refine a_nms (fun s6 hs6 => ?_)
  replace h := h s6 hs6
  exact b_vret (pc := 36) rfl d_SA_clearBox_36 h
theorem ko_SA_clearBox {g : Gx}  {t : Nat} {σ : St} {Q : St → Prop} (h : S_SA_clearBox_0 g Q σ t) : K_SA_clearBox g t σ Q := KV.of (show plainName "BallBox$State" = true by decide) (Nat.le_of_ble_eq_true rfl) h
theorem d_SA_beginWith_0 : decode c_SA_beginWith 0 = .ok (.aload_n 0, 1) := by decide +kernel
theorem d_SA_beginWith_1 : decode c_SA_beginWith 1 = .ok (.aload_n 1, 1) := by decide +kernel
theorem d_SA_beginWith_2 : decode c_SA_beginWith 2 = .ok (.invokevirtual 71, 3) := by decide +kernel
theorem d_SA_beginWith_5 : decode c_SA_beginWith 5 = .ok (.aload_n 0, 1) := by decide +kernel
theorem d_SA_beginWith_6 : decode c_SA_beginWith 6 = .ok (.iconst 1, 1) := by decide +kernel
theorem d_SA_beginWith_7 : decode c_SA_beginWith 7 = .ok (.putfield 75, 3) := by decide +kernel
theorem d_SA_beginWith_10 : decode c_SA_beginWith 10 = .ok (.aload_n 0, 1) := by decide +kernel
theorem d_SA_beginWith_11 : decode c_SA_beginWith 11 = .ok (.iconst 0, 1) := by decide +kernel
theorem d_SA_beginWith_12 : decode c_SA_beginWith 12 = .ok (.putfield 79, 3) := by decide +kernel
theorem d_SA_beginWith_15 : decode c_SA_beginWith 15 = .ok (.aload_n 0, 1) := by decide +kernel
theorem d_SA_beginWith_16 : decode c_SA_beginWith 16 = .ok (.iconst 0, 1) := by decide +kernel
theorem d_SA_beginWith_17 : decode c_SA_beginWith 17 = .ok (.putfield 82, 3) := by decide +kernel
theorem d_SA_beginWith_20 : decode c_SA_beginWith 20 = .ok (.aload_n 0, 1) := by decide +kernel
theorem d_SA_beginWith_21 : decode c_SA_beginWith 21 = .ok (.iconst 0, 1) := by decide +kernel
theorem d_SA_beginWith_22 : decode c_SA_beginWith 22 = .ok (.putfield 85, 3) := by decide +kernel
theorem d_SA_beginWith_25 : decode c_SA_beginWith 25 = .ok (.return_, 1) := by decide +kernel
def S_SA_beginWith_0 (g : Gx) (Q : St → Prop) (σ : St) (t : Nat) (t1 : Nat) : Prop := Ax g m_SA_beginWith 0 0 (ZV g Q) SH σ 0 0 0 [(0, .ref (gB g + t)), (1, .ref (gB g + t1))] []
theorem sg_SA_beginWith_0 {g : Gx} {Q : St → Prop} {σ : St} {t : Nat} {t1 : Nat} (ht : isSA t) (ht1 : isSA t1)
    (h : K_SA_takeBox g t t1 σ (fun s1 : St => ∀ s2 : St, s2 = sfi s1 t 1 (1 : Int32) → ∀ s3 : St, s3 = sfi s2 t 6 (0 : Int32) → ∀ s4 : St, s4 = sfi s3 t 7 (0 : Int32) → ∀ s5 : St, s5 = sfi s4 t 8 (0 : Int32) → Q s5)) : S_SA_beginWith_0 g Q σ t t1 := by
  show Ax g m_SA_beginWith 0 0 (ZV g Q) SH σ 0 0 0 [(0, .ref (gB g + t)), (1, .ref (gB g + t1))] []
  refine a_aload_n (pc := 0) 0 rfl rfl d_SA_beginWith_0 ?_
  refine a_aload_n (pc := 1) 1 rfl rfl d_SA_beginWith_1 ?_
  refine a_callV (pc := 2) (M' := m_SA_takeBox) (As := [.ref (gB g + t1)]) (st := []) (mc' := 0) (ms' := 0) lk_SA_71 rfl (sa0 ht) rfl (by decide) (by decide) rfl (Nat.le_of_ble_eq_true rfl) (Nat.le_refl 0) (Nat.le_refl 0) d_SA_beginWith_2 h ?_
  rintro _ _ s1 ⟨rfl, rfl, h⟩ -
  show Ax g m_SA_beginWith 0 0 (ZV g Q) SH s1 0 0 5 [(0, .ref (gB g + t)), (1, .ref (gB g + t1))] []
  refine a_aload_n (pc := 5) 0 rfl rfl d_SA_beginWith_5 ?_
  refine a_iconst (pc := 6) (1 : Int32) (by decide) d_SA_beginWith_6 ?_
  refine a_putZ (pc := 7) fp_SA_75 (sa0 ht) rfl (Or.inr rfl) d_SA_beginWith_7 ?_
  refine a_nms (fun s2 hs2 => ?_)
  replace h := h s2 hs2
  refine a_aload_n (pc := 10) 0 rfl rfl d_SA_beginWith_10 ?_
  refine a_iconst (pc := 11) (0 : Int32) (by decide) d_SA_beginWith_11 ?_
  refine a_putI (pc := 12) fp_SA_79 (sa0 ht) rfl d_SA_beginWith_12 ?_
  refine a_nms (fun s3 hs3 => ?_)
  replace h := h s3 hs3
  refine a_aload_n (pc := 15) 0 rfl rfl d_SA_beginWith_15 ?_
  refine a_iconst (pc := 16) (0 : Int32) (by decide) d_SA_beginWith_16 ?_
  refine a_putI (pc := 17) fp_SA_82 (sa0 ht) rfl d_SA_beginWith_17 ?_
  refine a_nms (fun s4 hs4 => ?_)
  replace h := h s4 hs4
  refine a_aload_n (pc := 20) 0 rfl rfl d_SA_beginWith_20 ?_
  refine a_iconst (pc := 21) (0 : Int32) (by decide) d_SA_beginWith_21 ?_
  refine a_putI (pc := 22) fp_SA_85 (sa0 ht) rfl d_SA_beginWith_22 ?_
  refine a_nms (fun s5 hs5 => ?_)
  replace h := h s5 hs5
  exact b_vret (pc := 25) rfl d_SA_beginWith_25 h
theorem ko_SA_beginWith {g : Gx}  {t : Nat} {t1 : Nat} {σ : St} {Q : St → Prop} (h : S_SA_beginWith_0 g Q σ t t1) : K_SA_beginWith g t t1 σ Q := KV.of (show plainName "BallBox$State" = true by decide) (Nat.le_of_ble_eq_true rfl) h
theorem d_SA_takeBox_0 : decode c_SA_takeBox 0 = .ok (.aload_n 1, 1) := by decide +kernel
theorem d_SA_takeBox_1 : decode c_SA_takeBox 1 = .ok (.getfield 15, 3) := by decide +kernel
theorem d_SA_takeBox_4 : decode c_SA_takeBox 4 = .ok (.iconst 0, 1) := by decide +kernel
theorem d_SA_takeBox_5 : decode c_SA_takeBox 5 = .ok (.aload_n 0, 1) := by decide +kernel
theorem d_SA_takeBox_6 : decode c_SA_takeBox 6 = .ok (.getfield 15, 3) := by decide +kernel
theorem d_SA_takeBox_9 : decode c_SA_takeBox 9 = .ok (.iconst 0, 1) := by decide +kernel
theorem d_SA_takeBox_10 : decode c_SA_takeBox 10 = .ok (.bipush 64, 2) := by decide +kernel
theorem d_SA_takeBox_12 : decode c_SA_takeBox 12 = .ok (.invokestatic 88, 3) := by decide +kernel
theorem d_SA_takeBox_15 : decode c_SA_takeBox 15 = .ok (.aload_n 1, 1) := by decide +kernel
theorem d_SA_takeBox_16 : decode c_SA_takeBox 16 = .ok (.getfield 19, 3) := by decide +kernel
theorem d_SA_takeBox_19 : decode c_SA_takeBox 19 = .ok (.iconst 0, 1) := by decide +kernel
theorem d_SA_takeBox_20 : decode c_SA_takeBox 20 = .ok (.aload_n 0, 1) := by decide +kernel
theorem d_SA_takeBox_21 : decode c_SA_takeBox 21 = .ok (.getfield 19, 3) := by decide +kernel
theorem d_SA_takeBox_24 : decode c_SA_takeBox 24 = .ok (.iconst 0, 1) := by decide +kernel
theorem d_SA_takeBox_25 : decode c_SA_takeBox 25 = .ok (.iconst 3, 1) := by decide +kernel
theorem d_SA_takeBox_26 : decode c_SA_takeBox 26 = .ok (.invokestatic 88, 3) := by decide +kernel
theorem d_SA_takeBox_29 : decode c_SA_takeBox 29 = .ok (.aload_n 0, 1) := by decide +kernel
theorem d_SA_takeBox_30 : decode c_SA_takeBox 30 = .ok (.aload_n 1, 1) := by decide +kernel
theorem d_SA_takeBox_31 : decode c_SA_takeBox 31 = .ok (.getfield 65, 3) := by decide +kernel
theorem d_SA_takeBox_34 : decode c_SA_takeBox 34 = .ok (.putfield 65, 3) := by decide +kernel
theorem d_SA_takeBox_37 : decode c_SA_takeBox 37 = .ok (.aload_n 0, 1) := by decide +kernel
theorem d_SA_takeBox_38 : decode c_SA_takeBox 38 = .ok (.aload_n 1, 1) := by decide +kernel
theorem d_SA_takeBox_39 : decode c_SA_takeBox 39 = .ok (.getfield 68, 3) := by decide +kernel
theorem d_SA_takeBox_42 : decode c_SA_takeBox 42 = .ok (.putfield 68, 3) := by decide +kernel
theorem d_SA_takeBox_45 : decode c_SA_takeBox 45 = .ok (.aload_n 0, 1) := by decide +kernel
theorem d_SA_takeBox_46 : decode c_SA_takeBox 46 = .ok (.aload_n 1, 1) := by decide +kernel
theorem d_SA_takeBox_47 : decode c_SA_takeBox 47 = .ok (.getfield 57, 3) := by decide +kernel
theorem d_SA_takeBox_50 : decode c_SA_takeBox 50 = .ok (.putfield 57, 3) := by decide +kernel
theorem d_SA_takeBox_53 : decode c_SA_takeBox 53 = .ok (.aload_n 0, 1) := by decide +kernel
theorem d_SA_takeBox_54 : decode c_SA_takeBox 54 = .ok (.aload_n 1, 1) := by decide +kernel
theorem d_SA_takeBox_55 : decode c_SA_takeBox 55 = .ok (.getfield 48, 3) := by decide +kernel
theorem d_SA_takeBox_58 : decode c_SA_takeBox 58 = .ok (.putfield 48, 3) := by decide +kernel
theorem d_SA_takeBox_61 : decode c_SA_takeBox 61 = .ok (.return_, 1) := by decide +kernel
def S_SA_takeBox_0 (g : Gx) (Q : St → Prop) (σ : St) (t : Nat) (t1 : Nat) : Prop := Ax g m_SA_takeBox 0 0 (ZV g Q) SH σ 0 0 0 [(0, .ref (gB g + t)), (1, .ref (gB g + t1))] []
theorem sg_SA_takeBox_0 {g : Gx} {Q : St → Prop} {σ : St} {t : Nat} {t1 : Nat} (ht : isSA t) (ht1 : isSA t1)
    (h : ∀ s1 : St, s1 = rai σ (t + 1) (va_cpy (ai σ (t1 + 1)) (ai σ (t + 1)) ((0 : Int32)).toNatClampNeg ((0 : Int32)).toNatClampNeg ((64 : Int32)).toNatClampNeg) → ∀ s2 : St, s2 = rai s1 (t + 2) (va_cpy (ai s1 (t1 + 2)) (ai s1 (t + 2)) ((0 : Int32)).toNatClampNeg ((0 : Int32)).toNatClampNeg ((3 : Int32)).toNatClampNeg) → ∀ s3 : St, s3 = sfi s2 t 2 (fi s2 t1 2) → ∀ s4 : St, s4 = sfi s3 t 3 (fi s3 t1 3) → ∀ s5 : St, s5 = sfi s4 t 4 (fi s4 t1 4) → ∀ s6 : St, s6 = sfi s5 t 5 (fi s5 t1 5) → Q s6) : S_SA_takeBox_0 g Q σ t t1 := by
  show Ax g m_SA_takeBox 0 0 (ZV g Q) SH σ 0 0 0 [(0, .ref (gB g + t)), (1, .ref (gB g + t1))] []
  refine a_aload_n (pc := 0) 1 rfl rfl d_SA_takeBox_0 ?_
  refine a_getR (pc := 1) fg_SA_15 (sa0 ht1) rfl d_SA_takeBox_1 ?_
  refine a_iconst (pc := 4) (0 : Int32) (by decide) d_SA_takeBox_4 ?_
  refine a_aload_n (pc := 5) 0 rfl rfl d_SA_takeBox_5 ?_
  refine a_getR (pc := 6) fg_SA_15 (sa0 ht) rfl d_SA_takeBox_6 ?_
  refine a_iconst (pc := 9) (0 : Int32) (by decide) d_SA_takeBox_9 ?_
  refine a_bipush (pc := 10) (64 : Int32) (by decide) d_SA_takeBox_10 ?_
  refine a_copyi (pc := 12) tw659 (sa1 ht1) (sa1 ht) (by decide) (by decide) (by decide) (by decide) (by decide) (by decide) (Nat.le_of_ble_eq_true rfl) d_SA_takeBox_12 ?_
  refine a_nms (fun s1 hs1 => ?_)
  replace h := h s1 hs1
  refine a_aload_n (pc := 15) 1 rfl rfl d_SA_takeBox_15 ?_
  refine a_getR (pc := 16) fg_SA_19 (sa0 ht1) rfl d_SA_takeBox_16 ?_
  refine a_iconst (pc := 19) (0 : Int32) (by decide) d_SA_takeBox_19 ?_
  refine a_aload_n (pc := 20) 0 rfl rfl d_SA_takeBox_20 ?_
  refine a_getR (pc := 21) fg_SA_19 (sa0 ht) rfl d_SA_takeBox_21 ?_
  refine a_iconst (pc := 24) (0 : Int32) (by decide) d_SA_takeBox_24 ?_
  refine a_iconst (pc := 25) (3 : Int32) (by decide) d_SA_takeBox_25 ?_
  refine a_copyi (pc := 26) tw659 (sa2 ht1) (sa2 ht) (by decide) (by decide) (by decide) (by decide) (by decide) (by decide) (Nat.le_of_ble_eq_true rfl) d_SA_takeBox_26 ?_
  refine a_nms (fun s2 hs2 => ?_)
  replace h := h s2 hs2
  refine a_aload_n (pc := 29) 0 rfl rfl d_SA_takeBox_29 ?_
  refine a_aload_n (pc := 30) 1 rfl rfl d_SA_takeBox_30 ?_
  refine a_getI (pc := 31) fg_SA_65 (sa0 ht1) rfl d_SA_takeBox_31 ?_
  refine a_putI (pc := 34) fp_SA_65 (sa0 ht) rfl d_SA_takeBox_34 ?_
  refine a_nms (fun s3 hs3 => ?_)
  replace h := h s3 hs3
  refine a_aload_n (pc := 37) 0 rfl rfl d_SA_takeBox_37 ?_
  refine a_aload_n (pc := 38) 1 rfl rfl d_SA_takeBox_38 ?_
  refine a_getI (pc := 39) fg_SA_68 (sa0 ht1) rfl d_SA_takeBox_39 ?_
  refine a_putI (pc := 42) fp_SA_68 (sa0 ht) rfl d_SA_takeBox_42 ?_
  refine a_nms (fun s4 hs4 => ?_)
  replace h := h s4 hs4
  refine a_aload_n (pc := 45) 0 rfl rfl d_SA_takeBox_45 ?_
  refine a_aload_n (pc := 46) 1 rfl rfl d_SA_takeBox_46 ?_
  refine a_getI (pc := 47) fg_SA_57 (sa0 ht1) rfl d_SA_takeBox_47 ?_
  refine a_putI (pc := 50) fp_SA_57 (sa0 ht) rfl d_SA_takeBox_50 ?_
  refine a_nms (fun s5 hs5 => ?_)
  replace h := h s5 hs5
  refine a_aload_n (pc := 53) 0 rfl rfl d_SA_takeBox_53 ?_
  refine a_aload_n (pc := 54) 1 rfl rfl d_SA_takeBox_54 ?_
  refine a_getI (pc := 55) fg_SA_48 (sa0 ht1) rfl d_SA_takeBox_55 ?_
  refine a_putI (pc := 58) fp_SA_48 (sa0 ht) rfl d_SA_takeBox_58 ?_
  refine a_nms (fun s6 hs6 => ?_)
  replace h := h s6 hs6
  exact b_vret (pc := 61) rfl d_SA_takeBox_61 h
theorem ko_SA_takeBox {g : Gx}  {t : Nat} {t1 : Nat} {σ : St} {Q : St → Prop} (h : S_SA_takeBox_0 g Q σ t t1) : K_SA_takeBox g t t1 σ Q := KV.of (show plainName "BallBox$State" = true by decide) (Nat.le_of_ble_eq_true rfl) h
theorem d_SA_takeOver_0 : decode c_SA_takeOver 0 = .ok (.aload_n 0, 1) := by decide +kernel
theorem d_SA_takeOver_1 : decode c_SA_takeOver 1 = .ok (.aload_n 1, 1) := by decide +kernel
theorem d_SA_takeOver_2 : decode c_SA_takeOver 2 = .ok (.invokevirtual 71, 3) := by decide +kernel
theorem d_SA_takeOver_5 : decode c_SA_takeOver 5 = .ok (.aload_n 0, 1) := by decide +kernel
theorem d_SA_takeOver_6 : decode c_SA_takeOver 6 = .ok (.aload_n 1, 1) := by decide +kernel
theorem d_SA_takeOver_7 : decode c_SA_takeOver 7 = .ok (.getfield 75, 3) := by decide +kernel
theorem d_SA_takeOver_10 : decode c_SA_takeOver 10 = .ok (.putfield 75, 3) := by decide +kernel
theorem d_SA_takeOver_13 : decode c_SA_takeOver 13 = .ok (.aload_n 0, 1) := by decide +kernel
theorem d_SA_takeOver_14 : decode c_SA_takeOver 14 = .ok (.aload_n 1, 1) := by decide +kernel
theorem d_SA_takeOver_15 : decode c_SA_takeOver 15 = .ok (.getfield 79, 3) := by decide +kernel
theorem d_SA_takeOver_18 : decode c_SA_takeOver 18 = .ok (.putfield 79, 3) := by decide +kernel
theorem d_SA_takeOver_21 : decode c_SA_takeOver 21 = .ok (.aload_n 0, 1) := by decide +kernel
theorem d_SA_takeOver_22 : decode c_SA_takeOver 22 = .ok (.aload_n 1, 1) := by decide +kernel
theorem d_SA_takeOver_23 : decode c_SA_takeOver 23 = .ok (.getfield 82, 3) := by decide +kernel
theorem d_SA_takeOver_26 : decode c_SA_takeOver 26 = .ok (.putfield 82, 3) := by decide +kernel
theorem d_SA_takeOver_29 : decode c_SA_takeOver 29 = .ok (.aload_n 0, 1) := by decide +kernel
theorem d_SA_takeOver_30 : decode c_SA_takeOver 30 = .ok (.aload_n 1, 1) := by decide +kernel
theorem d_SA_takeOver_31 : decode c_SA_takeOver 31 = .ok (.getfield 85, 3) := by decide +kernel
theorem d_SA_takeOver_34 : decode c_SA_takeOver 34 = .ok (.putfield 85, 3) := by decide +kernel
theorem d_SA_takeOver_37 : decode c_SA_takeOver 37 = .ok (.aload_n 0, 1) := by decide +kernel
theorem d_SA_takeOver_38 : decode c_SA_takeOver 38 = .ok (.aload_n 1, 1) := by decide +kernel
theorem d_SA_takeOver_39 : decode c_SA_takeOver 39 = .ok (.getfield 9, 3) := by decide +kernel
theorem d_SA_takeOver_42 : decode c_SA_takeOver 42 = .ok (.putfield 9, 3) := by decide +kernel
theorem d_SA_takeOver_45 : decode c_SA_takeOver 45 = .ok (.aload_n 0, 1) := by decide +kernel
theorem d_SA_takeOver_46 : decode c_SA_takeOver 46 = .ok (.aload_n 1, 1) := by decide +kernel
theorem d_SA_takeOver_47 : decode c_SA_takeOver 47 = .ok (.getfield 94, 3) := by decide +kernel
theorem d_SA_takeOver_50 : decode c_SA_takeOver 50 = .ok (.putfield 94, 3) := by decide +kernel
theorem d_SA_takeOver_53 : decode c_SA_takeOver 53 = .ok (.aload_n 1, 1) := by decide +kernel
theorem d_SA_takeOver_54 : decode c_SA_takeOver 54 = .ok (.getfield 22, 3) := by decide +kernel
theorem d_SA_takeOver_57 : decode c_SA_takeOver 57 = .ok (.iconst 0, 1) := by decide +kernel
theorem d_SA_takeOver_58 : decode c_SA_takeOver 58 = .ok (.aload_n 0, 1) := by decide +kernel
theorem d_SA_takeOver_59 : decode c_SA_takeOver 59 = .ok (.getfield 22, 3) := by decide +kernel
theorem d_SA_takeOver_62 : decode c_SA_takeOver 62 = .ok (.iconst 0, 1) := by decide +kernel
theorem d_SA_takeOver_63 : decode c_SA_takeOver 63 = .ok (.bipush 8, 2) := by decide +kernel
theorem d_SA_takeOver_65 : decode c_SA_takeOver 65 = .ok (.invokestatic 88, 3) := by decide +kernel
theorem d_SA_takeOver_68 : decode c_SA_takeOver 68 = .ok (.aload_n 1, 1) := by decide +kernel
theorem d_SA_takeOver_69 : decode c_SA_takeOver 69 = .ok (.getfield 25, 3) := by decide +kernel
theorem d_SA_takeOver_72 : decode c_SA_takeOver 72 = .ok (.iconst 0, 1) := by decide +kernel
theorem d_SA_takeOver_73 : decode c_SA_takeOver 73 = .ok (.aload_n 0, 1) := by decide +kernel
theorem d_SA_takeOver_74 : decode c_SA_takeOver 74 = .ok (.getfield 25, 3) := by decide +kernel
theorem d_SA_takeOver_77 : decode c_SA_takeOver 77 = .ok (.iconst 0, 1) := by decide +kernel
theorem d_SA_takeOver_78 : decode c_SA_takeOver 78 = .ok (.bipush 8, 2) := by decide +kernel
theorem d_SA_takeOver_80 : decode c_SA_takeOver 80 = .ok (.invokestatic 88, 3) := by decide +kernel
theorem d_SA_takeOver_83 : decode c_SA_takeOver 83 = .ok (.return_, 1) := by decide +kernel
def S_SA_takeOver_0 (g : Gx) (Q : St → Prop) (σ : St) (t : Nat) (t1 : Nat) : Prop := Ax g m_SA_takeOver 0 0 (ZV g Q) SH σ 0 0 0 [(0, .ref (gB g + t)), (1, .ref (gB g + t1))] []
theorem sg_SA_takeOver_0 {g : Gx} {Q : St → Prop} {σ : St} {t : Nat} {t1 : Nat} (ht : isSA t) (ht1 : isSA t1)
    (h : K_SA_takeBox g t t1 σ (fun s1 : St => ((fi s1 t1 1) = 0 ∨ (fi s1 t1 1) = 1) ∧ (∀ s2 : St, s2 = sfi s1 t 1 (fi s1 t1 1) → ∀ s3 : St, s3 = sfi s2 t 6 (fi s2 t1 6) → ∀ s4 : St, s4 = sfi s3 t 7 (fi s3 t1 7) → ∀ s5 : St, s5 = sfi s4 t 8 (fi s4 t1 8) → ∀ s6 : St, s6 = sfi s5 t 9 (fi s5 t1 9) → ∀ s7 : St, s7 = sfi s6 t 10 (fi s6 t1 10) → ∀ s8 : St, s8 = rai s7 (t + 3) (va_cpy (ai s7 (t1 + 3)) (ai s7 (t + 3)) ((0 : Int32)).toNatClampNeg ((0 : Int32)).toNatClampNeg ((8 : Int32)).toNatClampNeg) → ∀ s9 : St, s9 = rai s8 (t + 4) (va_cpy (ai s8 (t1 + 4)) (ai s8 (t + 4)) ((0 : Int32)).toNatClampNeg ((0 : Int32)).toNatClampNeg ((8 : Int32)).toNatClampNeg) → Q s9))) : S_SA_takeOver_0 g Q σ t t1 := by
  show Ax g m_SA_takeOver 0 0 (ZV g Q) SH σ 0 0 0 [(0, .ref (gB g + t)), (1, .ref (gB g + t1))] []
  refine a_aload_n (pc := 0) 0 rfl rfl d_SA_takeOver_0 ?_
  refine a_aload_n (pc := 1) 1 rfl rfl d_SA_takeOver_1 ?_
  refine a_callV (pc := 2) (M' := m_SA_takeBox) (As := [.ref (gB g + t1)]) (st := []) (mc' := 0) (ms' := 0) lk_SA_71 rfl (sa0 ht) rfl (by decide) (by decide) rfl (Nat.le_of_ble_eq_true rfl) (Nat.le_refl 0) (Nat.le_refl 0) d_SA_takeOver_2 h ?_
  rintro _ _ s1 ⟨rfl, rfl, h⟩ -
  show Ax g m_SA_takeOver 0 0 (ZV g Q) SH s1 0 0 5 [(0, .ref (gB g + t)), (1, .ref (gB g + t1))] []
  refine a_aload_n (pc := 5) 0 rfl rfl d_SA_takeOver_5 ?_
  refine a_aload_n (pc := 6) 1 rfl rfl d_SA_takeOver_6 ?_
  refine a_getI (pc := 7) fg_SA_75 (sa0 ht1) rfl d_SA_takeOver_7 ?_
  obtain ⟨hz, h⟩ := h
  refine a_putZ (pc := 10) fp_SA_75 (sa0 ht) rfl hz d_SA_takeOver_10 ?_
  refine a_nms (fun s2 hs2 => ?_)
  replace h := h s2 hs2
  refine a_aload_n (pc := 13) 0 rfl rfl d_SA_takeOver_13 ?_
  refine a_aload_n (pc := 14) 1 rfl rfl d_SA_takeOver_14 ?_
  refine a_getI (pc := 15) fg_SA_79 (sa0 ht1) rfl d_SA_takeOver_15 ?_
  refine a_putI (pc := 18) fp_SA_79 (sa0 ht) rfl d_SA_takeOver_18 ?_
  refine a_nms (fun s3 hs3 => ?_)
  replace h := h s3 hs3
  refine a_aload_n (pc := 21) 0 rfl rfl d_SA_takeOver_21 ?_
  refine a_aload_n (pc := 22) 1 rfl rfl d_SA_takeOver_22 ?_
  refine a_getI (pc := 23) fg_SA_82 (sa0 ht1) rfl d_SA_takeOver_23 ?_
  refine a_putI (pc := 26) fp_SA_82 (sa0 ht) rfl d_SA_takeOver_26 ?_
  refine a_nms (fun s4 hs4 => ?_)
  replace h := h s4 hs4
  refine a_aload_n (pc := 29) 0 rfl rfl d_SA_takeOver_29 ?_
  refine a_aload_n (pc := 30) 1 rfl rfl d_SA_takeOver_30 ?_
  refine a_getI (pc := 31) fg_SA_85 (sa0 ht1) rfl d_SA_takeOver_31 ?_
  refine a_putI (pc := 34) fp_SA_85 (sa0 ht) rfl d_SA_takeOver_34 ?_
  refine a_nms (fun s5 hs5 => ?_)
  replace h := h s5 hs5
  refine a_aload_n (pc := 37) 0 rfl rfl d_SA_takeOver_37 ?_
  refine a_aload_n (pc := 38) 1 rfl rfl d_SA_takeOver_38 ?_
  refine a_getI (pc := 39) fg_SA_9 (sa0 ht1) rfl d_SA_takeOver_39 ?_
  refine a_putI (pc := 42) fp_SA_9 (sa0 ht) rfl d_SA_takeOver_42 ?_
  refine a_nms (fun s6 hs6 => ?_)
  replace h := h s6 hs6
  refine a_aload_n (pc := 45) 0 rfl rfl d_SA_takeOver_45 ?_
  refine a_aload_n (pc := 46) 1 rfl rfl d_SA_takeOver_46 ?_
  refine a_getI (pc := 47) fg_SA_94 (sa0 ht1) rfl d_SA_takeOver_47 ?_
  refine a_putI (pc := 50) fp_SA_94 (sa0 ht) rfl d_SA_takeOver_50 ?_
  refine a_nms (fun s7 hs7 => ?_)
  replace h := h s7 hs7
  refine a_aload_n (pc := 53) 1 rfl rfl d_SA_takeOver_53 ?_
  refine a_getR (pc := 54) fg_SA_22 (sa0 ht1) rfl d_SA_takeOver_54 ?_
  refine a_iconst (pc := 57) (0 : Int32) (by decide) d_SA_takeOver_57 ?_
  refine a_aload_n (pc := 58) 0 rfl rfl d_SA_takeOver_58 ?_
  refine a_getR (pc := 59) fg_SA_22 (sa0 ht) rfl d_SA_takeOver_59 ?_
  refine a_iconst (pc := 62) (0 : Int32) (by decide) d_SA_takeOver_62 ?_
  refine a_bipush (pc := 63) (8 : Int32) (by decide) d_SA_takeOver_63 ?_
  refine a_copyi (pc := 65) tw659 (sa3 ht1) (sa3 ht) (by decide) (by decide) (by decide) (by decide) (by decide) (by decide) (Nat.le_of_ble_eq_true rfl) d_SA_takeOver_65 ?_
  refine a_nms (fun s8 hs8 => ?_)
  replace h := h s8 hs8
  refine a_aload_n (pc := 68) 1 rfl rfl d_SA_takeOver_68 ?_
  refine a_getR (pc := 69) fg_SA_25 (sa0 ht1) rfl d_SA_takeOver_69 ?_
  refine a_iconst (pc := 72) (0 : Int32) (by decide) d_SA_takeOver_72 ?_
  refine a_aload_n (pc := 73) 0 rfl rfl d_SA_takeOver_73 ?_
  refine a_getR (pc := 74) fg_SA_25 (sa0 ht) rfl d_SA_takeOver_74 ?_
  refine a_iconst (pc := 77) (0 : Int32) (by decide) d_SA_takeOver_77 ?_
  refine a_bipush (pc := 78) (8 : Int32) (by decide) d_SA_takeOver_78 ?_
  refine a_copyi (pc := 80) tw659 (sa4 ht1) (sa4 ht) (by decide) (by decide) (by decide) (by decide) (by decide) (by decide) (Nat.le_of_ble_eq_true rfl) d_SA_takeOver_80 ?_
  refine a_nms (fun s9 hs9 => ?_)
  replace h := h s9 hs9
  exact b_vret (pc := 83) rfl d_SA_takeOver_83 h
theorem ko_SA_takeOver {g : Gx}  {t : Nat} {t1 : Nat} {σ : St} {Q : St → Prop} (h : S_SA_takeOver_0 g Q σ t t1) : K_SA_takeOver g t t1 σ Q := KV.of (show plainName "BallBox$State" = true by decide) (Nat.le_of_ble_eq_true rfl) h
theorem d_SA_isAlike_0 : decode c_SA_isAlike 0 = .ok (.iconst 0, 1) := by decide +kernel
theorem d_SA_isAlike_1 : decode c_SA_isAlike 1 = .ok (.istore_n 2, 1) := by decide +kernel
theorem d_SA_isAlike_2 : decode c_SA_isAlike 2 = .ok (.iload_n 2, 1) := by decide +kernel
theorem d_SA_isAlike_3 : decode c_SA_isAlike 3 = .ok (.bipush 8, 2) := by decide +kernel
theorem d_SA_isAlike_5 : decode c_SA_isAlike 5 = .ok (.if_icmp .ge 20, 3) := by decide +kernel
theorem d_SA_isAlike_8 : decode c_SA_isAlike 8 = .ok (.aload_n 0, 1) := by decide +kernel
theorem d_SA_isAlike_9 : decode c_SA_isAlike 9 = .ok (.aload_n 1, 1) := by decide +kernel
theorem d_SA_isAlike_10 : decode c_SA_isAlike 10 = .ok (.iload_n 2, 1) := by decide +kernel
theorem d_SA_isAlike_11 : decode c_SA_isAlike 11 = .ok (.invokevirtual 97, 3) := by decide +kernel
theorem d_SA_isAlike_14 : decode c_SA_isAlike 14 = .ok (.ifCond .eq 5, 3) := by decide +kernel
theorem d_SA_isAlike_17 : decode c_SA_isAlike 17 = .ok (.iconst 1, 1) := by decide +kernel
theorem d_SA_isAlike_18 : decode c_SA_isAlike 18 = .ok (.ireturn, 1) := by decide +kernel
theorem d_SA_isAlike_19 : decode c_SA_isAlike 19 = .ok (.iinc 2 1, 3) := by decide +kernel
theorem d_SA_isAlike_22 : decode c_SA_isAlike 22 = .ok (.goto (-20), 3) := by decide +kernel
theorem d_SA_isAlike_25 : decode c_SA_isAlike 25 = .ok (.iconst 0, 1) := by decide +kernel
theorem d_SA_isAlike_26 : decode c_SA_isAlike 26 = .ok (.ireturn, 1) := by decide +kernel
def S_SA_isAlike_0 (g : Gx) (Q : Int32 → St → Prop) (σ : St) (t : Nat) (t1 : Nat) : Prop := Ax g m_SA_isAlike 0 0 (ZI g Q) SH σ 0 0 0 [(0, .ref (gB g + t)), (1, .ref (gB g + t1))] []
def S_SA_isAlike_2 (g : Gx) (Q : Int32 → St → Prop) (σ : St) (t : Nat) (t1 : Nat) (x2 : Int32) : Prop := Ax g m_SA_isAlike 0 0 (ZI g Q) SH σ 0 0 2 [(0, .ref (gB g + t)), (1, .ref (gB g + t1)), (2, .int x2)] []
theorem sg_SA_isAlike_0 {g : Gx} {Q : Int32 → St → Prop} {σ : St} {t : Nat} {t1 : Nat} (ht : isSA t) (ht1 : isSA t1)
    (h : S_SA_isAlike_2 g Q σ t t1 (0 : Int32)) : S_SA_isAlike_0 g Q σ t t1 := by
  show Ax g m_SA_isAlike 0 0 (ZI g Q) SH σ 0 0 0 [(0, .ref (gB g + t)), (1, .ref (gB g + t1))] []
  refine a_iconst (pc := 0) (0 : Int32) (by decide) d_SA_isAlike_0 ?_
  refine a_istore_n (pc := 1) (lv' := [(2, .int (0 : Int32)), (0, .ref (gB g + t)), (1, .ref (gB g + t1))]) rfl (Nat.le_of_ble_eq_true rfl) rfl d_SA_isAlike_1 ?_
  refine a_sub (pc := 2) [1, 2, 0] rfl ?_
  exact h
theorem sg_SA_isAlike_2 {g : Gx} {Q : Int32 → St → Prop} {σ : St} {t : Nat} {t1 : Nat} {x2 : Int32} (ht : isSA t) (ht1 : isSA t1)
    (h : ((8 : Int32) ≤ x2 → Q (0 : Int32) σ) ∧ (¬ (8 : Int32) ≤ x2 → K_SA_isTurned g t t1 x2 σ (fun (r2 : Int32) (s1 : St) => (r2 = 0 → ∀ u3 : Int32, u3 = x2 + (1 : Int32) → S_SA_isAlike_2 g Q s1 t t1 u3) ∧ (¬ r2 = 0 → Q (1 : Int32) s1)))) : S_SA_isAlike_2 g Q σ t t1 x2 := by
  show Ax g m_SA_isAlike 0 0 (ZI g Q) SH σ 0 0 2 [(0, .ref (gB g + t)), (1, .ref (gB g + t1)), (2, .int x2)] []
  refine a_iload_n (pc := 2) 2 rfl rfl d_SA_isAlike_2 ?_
  refine a_bipush (pc := 3) (8 : Int32) (by decide) d_SA_isAlike_3 ?_
  refine a_icmp_ge (pc := 5) 25 (by decide) d_SA_isAlike_5 ⟨fun c0 => ?_, fun c0 => ?_⟩
  · replace h := h.1 c0
    refine a_iconst (pc := 25) (0 : Int32) (by decide) d_SA_isAlike_25 ?_
    exact b_zret (pc := 26) rfl (Or.inl rfl) d_SA_isAlike_26 h
  · replace h := h.2 c0
    refine a_aload_n (pc := 8) 0 rfl rfl d_SA_isAlike_8 ?_
    refine a_aload_n (pc := 9) 1 rfl rfl d_SA_isAlike_9 ?_
    refine a_iload_n (pc := 10) 2 rfl rfl d_SA_isAlike_10 ?_
    refine a_callV (pc := 11) (M' := m_SA_isTurned) (As := [.ref (gB g + t1), .int x2]) (st := []) (mc' := 0) (ms' := 0) lk_SA_97 rfl (sa0 ht) rfl (by decide) (by decide) rfl (Nat.le_of_ble_eq_true rfl) (Nat.le_refl 0) (Nat.le_refl 0) d_SA_isAlike_11 h ?_
    rintro _ _ s1 ⟨r2, rfl, rfl, h⟩ -
    show Ax g m_SA_isAlike 0 0 (ZI g Q) SH s1 0 0 14 [(0, .ref (gB g + t)), (1, .ref (gB g + t1)), (2, .int x2)] [.int r2]
    refine a_if_eq (pc := 14) 19 (by decide) d_SA_isAlike_14 ⟨fun c0 => ?_, fun c0 => ?_⟩
    · replace h := h.1 c0
      obtain ⟨u3, hu3⟩ : ∃ y : Int32, y = x2 + (1 : Int32) := ⟨_, rfl⟩
      replace h := h u3 hu3
      refine a_iinc (pc := 19) (v := u3) (lv' := [(2, .int u3), (0, .ref (gB g + t)), (1, .ref (gB g + t1))]) 2 rfl (by rw [hu3]; rfl) (Nat.le_of_ble_eq_true rfl) rfl d_SA_isAlike_19 ?_
      refine a_goto (pc := 22) 2 (by decide) d_SA_isAlike_22 ?_
      refine a_sub (pc := 2) [1, 2, 0] rfl ?_
      exact h
    · replace h := h.2 c0
      refine a_iconst (pc := 17) (1 : Int32) (by decide) d_SA_isAlike_17 ?_
      exact b_zret (pc := 18) rfl (Or.inr rfl) d_SA_isAlike_18 h
theorem ko_SA_isAlike {g : Gx}  {t : Nat} {t1 : Nat} {σ : St} {Q : Int32 → St → Prop} (h : S_SA_isAlike_0 g Q σ t t1) : K_SA_isAlike g t t1 σ Q := KI.of (show plainName "BallBox$State" = true by decide) (Nat.le_of_ble_eq_true rfl) h
theorem d_SA_isTurned_0 : decode c_SA_isTurned 0 = .ok (.iload_n 2, 1) := by decide +kernel
theorem d_SA_isTurned_1 : decode c_SA_isTurned 1 = .ok (.iconst 4, 1) := by decide +kernel
theorem d_SA_isTurned_2 : decode c_SA_isTurned 2 = .ok (.iand, 1) := by decide +kernel
theorem d_SA_isTurned_3 : decode c_SA_isTurned 3 = .ok (.ifCond .eq 7, 3) := by decide +kernel
theorem d_SA_isTurned_6 : decode c_SA_isTurned 6 = .ok (.iconst 1, 1) := by decide +kernel
theorem d_SA_isTurned_7 : decode c_SA_isTurned 7 = .ok (.goto 4, 3) := by decide +kernel
theorem d_SA_isTurned_10 : decode c_SA_isTurned 10 = .ok (.iconst 0, 1) := by decide +kernel
theorem d_SA_isTurned_11 : decode c_SA_isTurned 11 = .ok (.istore_n 3, 1) := by decide +kernel
theorem d_SA_isTurned_12 : decode c_SA_isTurned 12 = .ok (.aload_n 0, 1) := by decide +kernel
theorem d_SA_isTurned_13 : decode c_SA_isTurned 13 = .ok (.getfield 65, 3) := by decide +kernel
theorem d_SA_isTurned_16 : decode c_SA_isTurned 16 = .ok (.iload_n 3, 1) := by decide +kernel
theorem d_SA_isTurned_17 : decode c_SA_isTurned 17 = .ok (.ifCond .eq 10, 3) := by decide +kernel
theorem d_SA_isTurned_20 : decode c_SA_isTurned 20 = .ok (.aload_n 1, 1) := by decide +kernel
theorem d_SA_isTurned_21 : decode c_SA_isTurned 21 = .ok (.getfield 68, 3) := by decide +kernel
theorem d_SA_isTurned_24 : decode c_SA_isTurned 24 = .ok (.goto 7, 3) := by decide +kernel
theorem d_SA_isTurned_27 : decode c_SA_isTurned 27 = .ok (.aload_n 1, 1) := by decide +kernel
theorem d_SA_isTurned_28 : decode c_SA_isTurned 28 = .ok (.getfield 65, 3) := by decide +kernel
theorem d_SA_isTurned_31 : decode c_SA_isTurned 31 = .ok (.if_icmp .ne 25, 3) := by decide +kernel
theorem d_SA_isTurned_34 : decode c_SA_isTurned 34 = .ok (.aload_n 0, 1) := by decide +kernel
theorem d_SA_isTurned_35 : decode c_SA_isTurned 35 = .ok (.getfield 68, 3) := by decide +kernel
theorem d_SA_isTurned_38 : decode c_SA_isTurned 38 = .ok (.iload_n 3, 1) := by decide +kernel
theorem d_SA_isTurned_39 : decode c_SA_isTurned 39 = .ok (.ifCond .eq 10, 3) := by decide +kernel
theorem d_SA_isTurned_42 : decode c_SA_isTurned 42 = .ok (.aload_n 1, 1) := by decide +kernel
theorem d_SA_isTurned_43 : decode c_SA_isTurned 43 = .ok (.getfield 65, 3) := by decide +kernel
theorem d_SA_isTurned_46 : decode c_SA_isTurned 46 = .ok (.goto 7, 3) := by decide +kernel
theorem d_SA_isTurned_49 : decode c_SA_isTurned 49 = .ok (.aload_n 1, 1) := by decide +kernel
theorem d_SA_isTurned_50 : decode c_SA_isTurned 50 = .ok (.getfield 68, 3) := by decide +kernel
theorem d_SA_isTurned_53 : decode c_SA_isTurned 53 = .ok (.if_icmp .eq 5, 3) := by decide +kernel
theorem d_SA_isTurned_56 : decode c_SA_isTurned 56 = .ok (.iconst 0, 1) := by decide +kernel
theorem d_SA_isTurned_57 : decode c_SA_isTurned 57 = .ok (.ireturn, 1) := by decide +kernel
theorem d_SA_isTurned_58 : decode c_SA_isTurned 58 = .ok (.iconst 0, 1) := by decide +kernel
theorem d_SA_isTurned_59 : decode c_SA_isTurned 59 = .ok (.istore 4, 2) := by decide +kernel
theorem d_SA_isTurned_61 : decode c_SA_isTurned 61 = .ok (.iload 4, 2) := by decide +kernel
theorem d_SA_isTurned_63 : decode c_SA_isTurned 63 = .ok (.aload_n 0, 1) := by decide +kernel
theorem d_SA_isTurned_64 : decode c_SA_isTurned 64 = .ok (.getfield 68, 3) := by decide +kernel
theorem d_SA_isTurned_67 : decode c_SA_isTurned 67 = .ok (.if_icmp .ge 113, 3) := by decide +kernel
theorem d_SA_isTurned_70 : decode c_SA_isTurned 70 = .ok (.iconst 0, 1) := by decide +kernel
theorem d_SA_isTurned_71 : decode c_SA_isTurned 71 = .ok (.istore 5, 2) := by decide +kernel
theorem d_SA_isTurned_73 : decode c_SA_isTurned 73 = .ok (.iload 5, 2) := by decide +kernel
theorem d_SA_isTurned_75 : decode c_SA_isTurned 75 = .ok (.aload_n 0, 1) := by decide +kernel
theorem d_SA_isTurned_76 : decode c_SA_isTurned 76 = .ok (.getfield 65, 3) := by decide +kernel
theorem d_SA_isTurned_79 : decode c_SA_isTurned 79 = .ok (.if_icmp .ge 95, 3) := by decide +kernel
theorem d_SA_isTurned_82 : decode c_SA_isTurned 82 = .ok (.iload_n 2, 1) := by decide +kernel
theorem d_SA_isTurned_83 : decode c_SA_isTurned 83 = .ok (.iconst 1, 1) := by decide +kernel
theorem d_SA_isTurned_84 : decode c_SA_isTurned 84 = .ok (.iand, 1) := by decide +kernel
theorem d_SA_isTurned_85 : decode c_SA_isTurned 85 = .ok (.ifCond .ne 8, 3) := by decide +kernel
theorem d_SA_isTurned_88 : decode c_SA_isTurned 88 = .ok (.iload 5, 2) := by decide +kernel
theorem d_SA_isTurned_90 : decode c_SA_isTurned 90 = .ok (.goto 12, 3) := by decide +kernel
theorem d_SA_isTurned_93 : decode c_SA_isTurned 93 = .ok (.aload_n 0, 1) := by decide +kernel
theorem d_SA_isTurned_94 : decode c_SA_isTurned 94 = .ok (.getfield 65, 3) := by decide +kernel
theorem d_SA_isTurned_97 : decode c_SA_isTurned 97 = .ok (.iconst 1, 1) := by decide +kernel
theorem d_SA_isTurned_98 : decode c_SA_isTurned 98 = .ok (.isub, 1) := by decide +kernel
theorem d_SA_isTurned_99 : decode c_SA_isTurned 99 = .ok (.iload 5, 2) := by decide +kernel
theorem d_SA_isTurned_101 : decode c_SA_isTurned 101 = .ok (.isub, 1) := by decide +kernel
theorem d_SA_isTurned_102 : decode c_SA_isTurned 102 = .ok (.istore 6, 2) := by decide +kernel
theorem d_SA_isTurned_104 : decode c_SA_isTurned 104 = .ok (.iload_n 2, 1) := by decide +kernel
theorem d_SA_isTurned_105 : decode c_SA_isTurned 105 = .ok (.iconst 2, 1) := by decide +kernel
theorem d_SA_isTurned_106 : decode c_SA_isTurned 106 = .ok (.iand, 1) := by decide +kernel
theorem d_SA_isTurned_107 : decode c_SA_isTurned 107 = .ok (.ifCond .ne 8, 3) := by decide +kernel
theorem d_SA_isTurned_110 : decode c_SA_isTurned 110 = .ok (.iload 4, 2) := by decide +kernel
theorem d_SA_isTurned_112 : decode c_SA_isTurned 112 = .ok (.goto 12, 3) := by decide +kernel
theorem d_SA_isTurned_115 : decode c_SA_isTurned 115 = .ok (.aload_n 0, 1) := by decide +kernel
theorem d_SA_isTurned_116 : decode c_SA_isTurned 116 = .ok (.getfield 68, 3) := by decide +kernel
theorem d_SA_isTurned_119 : decode c_SA_isTurned 119 = .ok (.iconst 1, 1) := by decide +kernel
theorem d_SA_isTurned_120 : decode c_SA_isTurned 120 = .ok (.isub, 1) := by decide +kernel
theorem d_SA_isTurned_121 : decode c_SA_isTurned 121 = .ok (.iload 4, 2) := by decide +kernel
theorem d_SA_isTurned_123 : decode c_SA_isTurned 123 = .ok (.isub, 1) := by decide +kernel
theorem d_SA_isTurned_124 : decode c_SA_isTurned 124 = .ok (.istore 7, 2) := by decide +kernel
theorem d_SA_isTurned_126 : decode c_SA_isTurned 126 = .ok (.iload_n 3, 1) := by decide +kernel
theorem d_SA_isTurned_127 : decode c_SA_isTurned 127 = .ok (.ifCond .eq 13, 3) := by decide +kernel
theorem d_SA_isTurned_130 : decode c_SA_isTurned 130 = .ok (.iload 7, 2) := by decide +kernel
theorem d_SA_isTurned_132 : decode c_SA_isTurned 132 = .ok (.iload 6, 2) := by decide +kernel
theorem d_SA_isTurned_134 : decode c_SA_isTurned 134 = .ok (.invokestatic 101, 3) := by decide +kernel
theorem d_SA_isTurned_137 : decode c_SA_isTurned 137 = .ok (.goto 10, 3) := by decide +kernel
theorem d_SA_isTurned_140 : decode c_SA_isTurned 140 = .ok (.iload 6, 2) := by decide +kernel
theorem d_SA_isTurned_142 : decode c_SA_isTurned 142 = .ok (.iload 7, 2) := by decide +kernel
theorem d_SA_isTurned_144 : decode c_SA_isTurned 144 = .ok (.invokestatic 101, 3) := by decide +kernel
theorem d_SA_isTurned_147 : decode c_SA_isTurned 147 = .ok (.istore 8, 2) := by decide +kernel
theorem d_SA_isTurned_149 : decode c_SA_isTurned 149 = .ok (.aload_n 0, 1) := by decide +kernel
theorem d_SA_isTurned_150 : decode c_SA_isTurned 150 = .ok (.iload 5, 2) := by decide +kernel
theorem d_SA_isTurned_152 : decode c_SA_isTurned 152 = .ok (.iload 4, 2) := by decide +kernel
theorem d_SA_isTurned_154 : decode c_SA_isTurned 154 = .ok (.invokestatic 101, 3) := by decide +kernel
theorem d_SA_isTurned_157 : decode c_SA_isTurned 157 = .ok (.aload_n 1, 1) := by decide +kernel
theorem d_SA_isTurned_158 : decode c_SA_isTurned 158 = .ok (.iload 8, 2) := by decide +kernel
theorem d_SA_isTurned_160 : decode c_SA_isTurned 160 = .ok (.invokevirtual 104, 3) := by decide +kernel
theorem d_SA_isTurned_163 : decode c_SA_isTurned 163 = .ok (.ifCond .ne 5, 3) := by decide +kernel
theorem d_SA_isTurned_166 : decode c_SA_isTurned 166 = .ok (.iconst 0, 1) := by decide +kernel
theorem d_SA_isTurned_167 : decode c_SA_isTurned 167 = .ok (.ireturn, 1) := by decide +kernel
theorem d_SA_isTurned_168 : decode c_SA_isTurned 168 = .ok (.iinc 5 1, 3) := by decide +kernel
theorem d_SA_isTurned_171 : decode c_SA_isTurned 171 = .ok (.goto (-98), 3) := by decide +kernel
theorem d_SA_isTurned_174 : decode c_SA_isTurned 174 = .ok (.iinc 4 1, 3) := by decide +kernel
theorem d_SA_isTurned_177 : decode c_SA_isTurned 177 = .ok (.goto (-116), 3) := by decide +kernel
theorem d_SA_isTurned_180 : decode c_SA_isTurned 180 = .ok (.iconst 1, 1) := by decide +kernel
theorem d_SA_isTurned_181 : decode c_SA_isTurned 181 = .ok (.ireturn, 1) := by decide +kernel
def S_SA_isTurned_0 (g : Gx) (Q : Int32 → St → Prop) (σ : St) (t : Nat) (t1 : Nat) (x2 : Int32) : Prop := Ax g m_SA_isTurned 0 0 (ZI g Q) SH σ 0 0 0 [(0, .ref (gB g + t)), (1, .ref (gB g + t1)), (2, .int x2)] []
def S_SA_isTurned_31 (g : Gx) (Q : Int32 → St → Prop) (σ : St) (t : Nat) (t1 : Nat) (x2 : Int32) (x3 : Int32) (z0 : Int32) (z1 : Int32) : Prop := Ax g m_SA_isTurned 0 0 (ZI g Q) SH σ 0 0 31 [(0, .ref (gB g + t)), (1, .ref (gB g + t1)), (2, .int x2), (3, .int x3)] [.int z0, .int z1]
def S_SA_isTurned_61 (g : Gx) (Q : Int32 → St → Prop) (σ : St) (t : Nat) (t1 : Nat) (x2 : Int32) (x3 : Int32) (x4 : Int32) : Prop := Ax g m_SA_isTurned 0 0 (ZI g Q) SH σ 0 0 61 [(0, .ref (gB g + t)), (1, .ref (gB g + t1)), (2, .int x2), (3, .int x3), (4, .int x4)] []
def S_SA_isTurned_73 (g : Gx) (Q : Int32 → St → Prop) (σ : St) (t : Nat) (t1 : Nat) (x2 : Int32) (x3 : Int32) (x4 : Int32) (x5 : Int32) : Prop := Ax g m_SA_isTurned 0 0 (ZI g Q) SH σ 0 0 73 [(0, .ref (gB g + t)), (1, .ref (gB g + t1)), (2, .int x2), (3, .int x3), (4, .int x4), (5, .int x5)] []
def S_SA_isTurned_102 (g : Gx) (Q : Int32 → St → Prop) (σ : St) (t : Nat) (t1 : Nat) (x2 : Int32) (x3 : Int32) (x4 : Int32) (x5 : Int32) (z0 : Int32) : Prop := Ax g m_SA_isTurned 0 0 (ZI g Q) SH σ 0 0 102 [(0, .ref (gB g + t)), (1, .ref (gB g + t1)), (2, .int x2), (3, .int x3), (4, .int x4), (5, .int x5)] [.int z0]
def S_SA_isTurned_124 (g : Gx) (Q : Int32 → St → Prop) (σ : St) (t : Nat) (t1 : Nat) (x2 : Int32) (x3 : Int32) (x4 : Int32) (x5 : Int32) (x6 : Int32) (z0 : Int32) : Prop := Ax g m_SA_isTurned 0 0 (ZI g Q) SH σ 0 0 124 [(0, .ref (gB g + t)), (1, .ref (gB g + t1)), (2, .int x2), (3, .int x3), (4, .int x4), (5, .int x5), (6, .int x6)] [.int z0]
theorem sg_SA_isTurned_0 {g : Gx} {Q : Int32 → St → Prop} {σ : St} {t : Nat} {t1 : Nat} {x2 : Int32} (ht : isSA t) (ht1 : isSA t1)
    (h : ((x2 &&& (4 : Int32)) = 0 → S_SA_isTurned_31 g Q σ t t1 x2 (0 : Int32) (fi σ t1 2) (fi σ t 2)) ∧ (¬ (x2 &&& (4 : Int32)) = 0 → S_SA_isTurned_31 g Q σ t t1 x2 (1 : Int32) (fi σ t1 3) (fi σ t 2))) : S_SA_isTurned_0 g Q σ t t1 x2 := by
  show Ax g m_SA_isTurned 0 0 (ZI g Q) SH σ 0 0 0 [(0, .ref (gB g + t)), (1, .ref (gB g + t1)), (2, .int x2)] []
  refine a_iload_n (pc := 0) 2 rfl rfl d_SA_isTurned_0 ?_
  refine a_iconst (pc := 1) (4 : Int32) (by decide) d_SA_isTurned_1 ?_
  refine a_iand (pc := 2) d_SA_isTurned_2 ?_
  refine a_if_eq (pc := 3) 10 (by decide) d_SA_isTurned_3 ⟨fun c0 => ?_, fun c0 => ?_⟩
  · replace h := h.1 c0
    refine a_iconst (pc := 10) (0 : Int32) (by decide) d_SA_isTurned_10 ?_
    refine a_istore_n (pc := 11) (lv' := [(3, .int (0 : Int32)), (0, .ref (gB g + t)), (1, .ref (gB g + t1)), (2, .int x2)]) rfl (Nat.le_of_ble_eq_true rfl) rfl d_SA_isTurned_11 ?_
    refine a_aload_n (pc := 12) 1 rfl rfl d_SA_isTurned_12 ?_
    refine a_getI (pc := 13) fg_SA_65 (sa0 ht) rfl d_SA_isTurned_13 ?_
    refine a_iload_n (pc := 16) 0 rfl rfl d_SA_isTurned_16 ?_
    refine a_if_eq (pc := 17) 27 (by decide) d_SA_isTurned_17 ⟨fun _ => ?_, fun c0 => absurd c0 (by decide)⟩
    refine a_aload_n (pc := 27) 2 rfl rfl d_SA_isTurned_27 ?_
    refine a_getI (pc := 28) fg_SA_65 (sa0 ht1) rfl d_SA_isTurned_28 ?_
    refine a_sub (pc := 31) [1, 2, 3, 0] rfl ?_
    exact h
  · replace h := h.2 c0
    refine a_iconst (pc := 6) (1 : Int32) (by decide) d_SA_isTurned_6 ?_
    refine a_goto (pc := 7) 11 (by decide) d_SA_isTurned_7 ?_
    refine a_istore_n (pc := 11) (lv' := [(3, .int (1 : Int32)), (0, .ref (gB g + t)), (1, .ref (gB g + t1)), (2, .int x2)]) rfl (Nat.le_of_ble_eq_true rfl) rfl d_SA_isTurned_11 ?_
    refine a_aload_n (pc := 12) 1 rfl rfl d_SA_isTurned_12 ?_
    refine a_getI (pc := 13) fg_SA_65 (sa0 ht) rfl d_SA_isTurned_13 ?_
    refine a_iload_n (pc := 16) 0 rfl rfl d_SA_isTurned_16 ?_
    refine a_if_eq (pc := 17) 27 (by decide) d_SA_isTurned_17 ⟨fun c0 => absurd c0 (by decide), fun _ => ?_⟩
    refine a_aload_n (pc := 20) 2 rfl rfl d_SA_isTurned_20 ?_
    refine a_getI (pc := 21) fg_SA_68 (sa0 ht1) rfl d_SA_isTurned_21 ?_
    refine a_goto (pc := 24) 31 (by decide) d_SA_isTurned_24 ?_
    refine a_sub (pc := 31) [1, 2, 3, 0] rfl ?_
    exact h
theorem sg_SA_isTurned_31 {g : Gx} {Q : Int32 → St → Prop} {σ : St} {t : Nat} {t1 : Nat} {x2 : Int32} {x3 : Int32} {z0 : Int32} {z1 : Int32} (ht : isSA t) (ht1 : isSA t1)
    (h : (¬ z1 = z0 → Q (0 : Int32) σ) ∧ (z1 = z0 → (x3 = 0 → ((fi σ t 3) = (fi σ t1 3) → S_SA_isTurned_61 g Q σ t t1 x2 x3 (0 : Int32)) ∧ (¬ (fi σ t 3) = (fi σ t1 3) → Q (0 : Int32) σ)) ∧ (¬ x3 = 0 → ((fi σ t 3) = (fi σ t1 2) → S_SA_isTurned_61 g Q σ t t1 x2 x3 (0 : Int32)) ∧ (¬ (fi σ t 3) = (fi σ t1 2) → Q (0 : Int32) σ)))) : S_SA_isTurned_31 g Q σ t t1 x2 x3 z0 z1 := by
  show Ax g m_SA_isTurned 0 0 (ZI g Q) SH σ 0 0 31 [(0, .ref (gB g + t)), (1, .ref (gB g + t1)), (2, .int x2), (3, .int x3)] [.int z0, .int z1]
  refine a_icmp_ne (pc := 31) 56 (by decide) d_SA_isTurned_31 ⟨fun c0 => ?_, fun c0 => ?_⟩
  · replace h := h.1 c0
    refine a_iconst (pc := 56) (0 : Int32) (by decide) d_SA_isTurned_56 ?_
    exact b_zret (pc := 57) rfl (Or.inl rfl) d_SA_isTurned_57 h
  · replace h := h.2 c0
    refine a_aload_n (pc := 34) 0 rfl rfl d_SA_isTurned_34 ?_
    refine a_getI (pc := 35) fg_SA_68 (sa0 ht) rfl d_SA_isTurned_35 ?_
    refine a_iload_n (pc := 38) 3 rfl rfl d_SA_isTurned_38 ?_
    refine a_if_eq (pc := 39) 49 (by decide) d_SA_isTurned_39 ⟨fun c0 => ?_, fun c0 => ?_⟩
    · replace h := h.1 c0
      refine a_aload_n (pc := 49) 1 rfl rfl d_SA_isTurned_49 ?_
      refine a_getI (pc := 50) fg_SA_68 (sa0 ht1) rfl d_SA_isTurned_50 ?_
      refine a_icmp_eq (pc := 53) 58 (by decide) d_SA_isTurned_53 ⟨fun c0 => ?_, fun c0 => ?_⟩
      · replace h := h.1 c0
        refine a_iconst (pc := 58) (0 : Int32) (by decide) d_SA_isTurned_58 ?_
        refine a_istore (pc := 59) (lv' := [(4, .int (0 : Int32)), (0, .ref (gB g + t)), (1, .ref (gB g + t1)), (2, .int x2), (3, .int x3)]) (Nat.le_of_ble_eq_true rfl) rfl d_SA_isTurned_59 ?_
        refine a_sub (pc := 61) [1, 2, 3, 4, 0] rfl ?_
        exact h
      · replace h := h.2 c0
        refine a_iconst (pc := 56) (0 : Int32) (by decide) d_SA_isTurned_56 ?_
        exact b_zret (pc := 57) rfl (Or.inl rfl) d_SA_isTurned_57 h
    · replace h := h.2 c0
      refine a_aload_n (pc := 42) 1 rfl rfl d_SA_isTurned_42 ?_
      refine a_getI (pc := 43) fg_SA_65 (sa0 ht1) rfl d_SA_isTurned_43 ?_
      refine a_goto (pc := 46) 53 (by decide) d_SA_isTurned_46 ?_
      refine a_icmp_eq (pc := 53) 58 (by decide) d_SA_isTurned_53 ⟨fun c0 => ?_, fun c0 => ?_⟩
      · replace h := h.1 c0
        refine a_iconst (pc := 58) (0 : Int32) (by decide) d_SA_isTurned_58 ?_
        refine a_istore (pc := 59) (lv' := [(4, .int (0 : Int32)), (0, .ref (gB g + t)), (1, .ref (gB g + t1)), (2, .int x2), (3, .int x3)]) (Nat.le_of_ble_eq_true rfl) rfl d_SA_isTurned_59 ?_
        refine a_sub (pc := 61) [1, 2, 3, 4, 0] rfl ?_
        exact h
      · replace h := h.2 c0
        refine a_iconst (pc := 56) (0 : Int32) (by decide) d_SA_isTurned_56 ?_
        exact b_zret (pc := 57) rfl (Or.inl rfl) d_SA_isTurned_57 h
theorem sg_SA_isTurned_61 {g : Gx} {Q : Int32 → St → Prop} {σ : St} {t : Nat} {t1 : Nat} {x2 : Int32} {x3 : Int32} {x4 : Int32} (ht : isSA t) (ht1 : isSA t1)
    (h : ((fi σ t 3) ≤ x4 → Q (1 : Int32) σ) ∧ (¬ (fi σ t 3) ≤ x4 → S_SA_isTurned_73 g Q σ t t1 x2 x3 x4 (0 : Int32))) : S_SA_isTurned_61 g Q σ t t1 x2 x3 x4 := by
  show Ax g m_SA_isTurned 0 0 (ZI g Q) SH σ 0 0 61 [(0, .ref (gB g + t)), (1, .ref (gB g + t1)), (2, .int x2), (3, .int x3), (4, .int x4)] []
  refine a_iload (pc := 61) 4 rfl d_SA_isTurned_61 ?_
  refine a_aload_n (pc := 63) 0 rfl rfl d_SA_isTurned_63 ?_
  refine a_getI (pc := 64) fg_SA_68 (sa0 ht) rfl d_SA_isTurned_64 ?_
  refine a_icmp_ge (pc := 67) 180 (by decide) d_SA_isTurned_67 ⟨fun c0 => ?_, fun c0 => ?_⟩
  · replace h := h.1 c0
    refine a_iconst (pc := 180) (1 : Int32) (by decide) d_SA_isTurned_180 ?_
    exact b_zret (pc := 181) rfl (Or.inr rfl) d_SA_isTurned_181 h
  · replace h := h.2 c0
    refine a_iconst (pc := 70) (0 : Int32) (by decide) d_SA_isTurned_70 ?_
    refine a_istore (pc := 71) (lv' := [(5, .int (0 : Int32)), (0, .ref (gB g + t)), (1, .ref (gB g + t1)), (2, .int x2), (3, .int x3), (4, .int x4)]) (Nat.le_of_ble_eq_true rfl) rfl d_SA_isTurned_71 ?_
    refine a_sub (pc := 73) [1, 2, 3, 4, 5, 0] rfl ?_
    exact h
theorem sg_SA_isTurned_73 {g : Gx} {Q : Int32 → St → Prop} {σ : St} {t : Nat} {t1 : Nat} {x2 : Int32} {x3 : Int32} {x4 : Int32} {x5 : Int32} (ht : isSA t) (ht1 : isSA t1)
    (h : ((fi σ t 2) ≤ x5 → ∀ u1 : Int32, u1 = x4 + (1 : Int32) → S_SA_isTurned_61 g Q σ t t1 x2 x3 u1) ∧ (¬ (fi σ t 2) ≤ x5 → (¬ (x2 &&& (1 : Int32)) = 0 → S_SA_isTurned_102 g Q σ t t1 x2 x3 x4 x5 (((fi σ t 2) - (1 : Int32)) - x5)) ∧ ((x2 &&& (1 : Int32)) = 0 → S_SA_isTurned_102 g Q σ t t1 x2 x3 x4 x5 x5))) : S_SA_isTurned_73 g Q σ t t1 x2 x3 x4 x5 := by
  show Ax g m_SA_isTurned 0 0 (ZI g Q) SH σ 0 0 73 [(0, .ref (gB g + t)), (1, .ref (gB g + t1)), (2, .int x2), (3, .int x3), (4, .int x4), (5, .int x5)] []
  refine a_iload (pc := 73) 5 rfl d_SA_isTurned_73 ?_
  refine a_aload_n (pc := 75) 0 rfl rfl d_SA_isTurned_75 ?_
  refine a_getI (pc := 76) fg_SA_65 (sa0 ht) rfl d_SA_isTurned_76 ?_
  refine a_icmp_ge (pc := 79) 174 (by decide) d_SA_isTurned_79 ⟨fun c0 => ?_, fun c0 => ?_⟩
  · replace h := h.1 c0
    obtain ⟨u1, hu1⟩ : ∃ y : Int32, y = x4 + (1 : Int32) := ⟨_, rfl⟩
    replace h := h u1 hu1
    refine a_iinc (pc := 174) (v := u1) (lv' := [(4, .int u1), (0, .ref (gB g + t)), (1, .ref (gB g + t1)), (2, .int x2), (3, .int x3), (5, .int x5)]) 4 rfl (by rw [hu1]; rfl) (Nat.le_of_ble_eq_true rfl) rfl d_SA_isTurned_174 ?_
    refine a_goto (pc := 177) 61 (by decide) d_SA_isTurned_177 ?_
    refine a_sub (pc := 61) [1, 2, 3, 4, 0] rfl ?_
    exact h
  · replace h := h.2 c0
    refine a_iload_n (pc := 82) 2 rfl rfl d_SA_isTurned_82 ?_
    refine a_iconst (pc := 83) (1 : Int32) (by decide) d_SA_isTurned_83 ?_
    refine a_iand (pc := 84) d_SA_isTurned_84 ?_
    refine a_if_ne (pc := 85) 93 (by decide) d_SA_isTurned_85 ⟨fun c0 => ?_, fun c0 => ?_⟩
    · replace h := h.1 c0
      refine a_aload_n (pc := 93) 0 rfl rfl d_SA_isTurned_93 ?_
      refine a_getI (pc := 94) fg_SA_65 (sa0 ht) rfl d_SA_isTurned_94 ?_
      refine a_iconst (pc := 97) (1 : Int32) (by decide) d_SA_isTurned_97 ?_
      refine a_isub (pc := 98) d_SA_isTurned_98 ?_
      refine a_iload (pc := 99) 5 rfl d_SA_isTurned_99 ?_
      refine a_isub (pc := 101) d_SA_isTurned_101 ?_
      refine a_sub (pc := 102) [0, 1, 2, 3, 4, 5] rfl ?_
      exact h
    · replace h := h.2 c0
      refine a_iload (pc := 88) 5 rfl d_SA_isTurned_88 ?_
      refine a_goto (pc := 90) 102 (by decide) d_SA_isTurned_90 ?_
      refine a_sub (pc := 102) [0, 1, 2, 3, 4, 5] rfl ?_
      exact h
theorem sg_SA_isTurned_102 {g : Gx} {Q : Int32 → St → Prop} {σ : St} {t : Nat} {t1 : Nat} {x2 : Int32} {x3 : Int32} {x4 : Int32} {x5 : Int32} {z0 : Int32} (ht : isSA t) (ht1 : isSA t1)
    (h : (¬ (x2 &&& (2 : Int32)) = 0 → S_SA_isTurned_124 g Q σ t t1 x2 x3 x4 x5 z0 (((fi σ t 3) - (1 : Int32)) - x4)) ∧ ((x2 &&& (2 : Int32)) = 0 → S_SA_isTurned_124 g Q σ t t1 x2 x3 x4 x5 z0 x4)) : S_SA_isTurned_102 g Q σ t t1 x2 x3 x4 x5 z0 := by
  show Ax g m_SA_isTurned 0 0 (ZI g Q) SH σ 0 0 102 [(0, .ref (gB g + t)), (1, .ref (gB g + t1)), (2, .int x2), (3, .int x3), (4, .int x4), (5, .int x5)] [.int z0]
  refine a_istore (pc := 102) (lv' := [(6, .int z0), (0, .ref (gB g + t)), (1, .ref (gB g + t1)), (2, .int x2), (3, .int x3), (4, .int x4), (5, .int x5)]) (Nat.le_of_ble_eq_true rfl) rfl d_SA_isTurned_102 ?_
  refine a_iload_n (pc := 104) 3 rfl rfl d_SA_isTurned_104 ?_
  refine a_iconst (pc := 105) (2 : Int32) (by decide) d_SA_isTurned_105 ?_
  refine a_iand (pc := 106) d_SA_isTurned_106 ?_
  refine a_if_ne (pc := 107) 115 (by decide) d_SA_isTurned_107 ⟨fun c0 => ?_, fun c0 => ?_⟩
  · replace h := h.1 c0
    refine a_aload_n (pc := 115) 1 rfl rfl d_SA_isTurned_115 ?_
    refine a_getI (pc := 116) fg_SA_68 (sa0 ht) rfl d_SA_isTurned_116 ?_
    refine a_iconst (pc := 119) (1 : Int32) (by decide) d_SA_isTurned_119 ?_
    refine a_isub (pc := 120) d_SA_isTurned_120 ?_
    refine a_iload (pc := 121) 5 rfl d_SA_isTurned_121 ?_
    refine a_isub (pc := 123) d_SA_isTurned_123 ?_
    refine a_sub (pc := 124) [1, 2, 3, 4, 5, 6, 0] rfl ?_
    exact h
  · replace h := h.2 c0
    refine a_iload (pc := 110) 5 rfl d_SA_isTurned_110 ?_
    refine a_goto (pc := 112) 124 (by decide) d_SA_isTurned_112 ?_
    refine a_sub (pc := 124) [1, 2, 3, 4, 5, 6, 0] rfl ?_
    exact h
theorem sg_SA_isTurned_124 {g : Gx} {Q : Int32 → St → Prop} {σ : St} {t : Nat} {t1 : Nat} {x2 : Int32} {x3 : Int32} {x4 : Int32} {x5 : Int32} {x6 : Int32} {z0 : Int32} (ht : isSA t) (ht1 : isSA t1)
    (h : (x3 = 0 → K_SA_spotOf g x6 z0 σ (fun (r2 : Int32) (s1 : St) => K_SA_spotOf g x5 x4 s1 (fun (r4 : Int32) (s3 : St) => K_SA_showsSame g t r4 t1 r2 s3 (fun (r6 : Int32) (s5 : St) => (¬ r6 = 0 → ∀ u7 : Int32, u7 = x5 + (1 : Int32) → S_SA_isTurned_73 g Q s5 t t1 x2 x3 x4 u7) ∧ (r6 = 0 → Q (0 : Int32) s5))))) ∧ (¬ x3 = 0 → K_SA_spotOf g z0 x6 σ (fun (r9 : Int32) (s8 : St) => K_SA_spotOf g x5 x4 s8 (fun (r11 : Int32) (s10 : St) => K_SA_showsSame g t r11 t1 r9 s10 (fun (r13 : Int32) (s12 : St) => (¬ r13 = 0 → ∀ u14 : Int32, u14 = x5 + (1 : Int32) → S_SA_isTurned_73 g Q s12 t t1 x2 x3 x4 u14) ∧ (r13 = 0 → Q (0 : Int32) s12)))))) : S_SA_isTurned_124 g Q σ t t1 x2 x3 x4 x5 x6 z0 := by
  show Ax g m_SA_isTurned 0 0 (ZI g Q) SH σ 0 0 124 [(0, .ref (gB g + t)), (1, .ref (gB g + t1)), (2, .int x2), (3, .int x3), (4, .int x4), (5, .int x5), (6, .int x6)] [.int z0]
  refine a_istore (pc := 124) (lv' := [(7, .int z0), (0, .ref (gB g + t)), (1, .ref (gB g + t1)), (2, .int x2), (3, .int x3), (4, .int x4), (5, .int x5), (6, .int x6)]) (Nat.le_of_ble_eq_true rfl) rfl d_SA_isTurned_124 ?_
  refine a_iload_n (pc := 126) 4 rfl rfl d_SA_isTurned_126 ?_
  refine a_if_eq (pc := 127) 140 (by decide) d_SA_isTurned_127 ⟨fun c0 => ?_, fun c0 => ?_⟩
  · replace h := h.1 c0
    refine a_iload (pc := 140) 7 rfl d_SA_isTurned_140 ?_
    refine a_iload (pc := 142) 0 rfl d_SA_isTurned_142 ?_
    refine a_callS (pc := 144) (M' := m_SA_spotOf) (As := [.int x6, .int z0]) (st := []) (mc' := 0) (ms' := 0) lk_SA_101 rfl (by decide) (by decide) rfl (Nat.le_of_ble_eq_true rfl) (Nat.le_refl 0) (Nat.le_refl 0) d_SA_isTurned_144 h ?_
    rintro _ _ s1 ⟨r2, rfl, rfl, h⟩ -
    show Ax g m_SA_isTurned 0 0 (ZI g Q) SH s1 0 0 147 [(7, .int z0), (0, .ref (gB g + t)), (1, .ref (gB g + t1)), (2, .int x2), (3, .int x3), (4, .int x4), (5, .int x5), (6, .int x6)] [.int r2]
    refine a_istore (pc := 147) (lv' := [(8, .int r2), (7, .int z0), (0, .ref (gB g + t)), (1, .ref (gB g + t1)), (2, .int x2), (3, .int x3), (4, .int x4), (5, .int x5), (6, .int x6)]) (Nat.le_of_ble_eq_true rfl) rfl d_SA_isTurned_147 ?_
    refine a_aload_n (pc := 149) 2 rfl rfl d_SA_isTurned_149 ?_
    refine a_iload (pc := 150) 7 rfl d_SA_isTurned_150 ?_
    refine a_iload (pc := 152) 6 rfl d_SA_isTurned_152 ?_
    refine a_callS (pc := 154) (M' := m_SA_spotOf) (As := [.int x5, .int x4]) (st := [.ref (gB g + t)]) (mc' := 0) (ms' := 0) lk_SA_101 rfl (by decide) (by decide) rfl (Nat.le_of_ble_eq_true rfl) (Nat.le_refl 0) (Nat.le_refl 0) d_SA_isTurned_154 h ?_
    rintro _ _ s3 ⟨r4, rfl, rfl, h⟩ -
    show Ax g m_SA_isTurned 0 0 (ZI g Q) SH s3 0 0 157 [(8, .int r2), (7, .int z0), (0, .ref (gB g + t)), (1, .ref (gB g + t1)), (2, .int x2), (3, .int x3), (4, .int x4), (5, .int x5), (6, .int x6)] [.int r4, .ref (gB g + t)]
    refine a_aload_n (pc := 157) 3 rfl rfl d_SA_isTurned_157 ?_
    refine a_iload (pc := 158) 0 rfl d_SA_isTurned_158 ?_
    refine a_callV (pc := 160) (M' := m_SA_showsSame) (As := [.int r4, .ref (gB g + t1), .int r2]) (st := []) (mc' := 0) (ms' := 0) lk_SA_104 rfl (sa0 ht) rfl (by decide) (by decide) rfl (Nat.le_of_ble_eq_true rfl) (Nat.le_refl 0) (Nat.le_refl 0) d_SA_isTurned_160 h ?_
    rintro _ _ s5 ⟨r6, rfl, rfl, h⟩ -
    show Ax g m_SA_isTurned 0 0 (ZI g Q) SH s5 0 0 163 [(8, .int r2), (7, .int z0), (0, .ref (gB g + t)), (1, .ref (gB g + t1)), (2, .int x2), (3, .int x3), (4, .int x4), (5, .int x5), (6, .int x6)] [.int r6]
    refine a_if_ne (pc := 163) 168 (by decide) d_SA_isTurned_163 ⟨fun c0 => ?_, fun c0 => ?_⟩
    · replace h := h.1 c0
      obtain ⟨u7, hu7⟩ : ∃ y : Int32, y = x5 + (1 : Int32) := ⟨_, rfl⟩
      replace h := h u7 hu7
      refine a_iinc (pc := 168) (v := u7) (lv' := [(5, .int u7), (8, .int r2), (7, .int z0), (0, .ref (gB g + t)), (1, .ref (gB g + t1)), (2, .int x2), (3, .int x3), (4, .int x4), (6, .int x6)]) 7 rfl (by rw [hu7]; rfl) (Nat.le_of_ble_eq_true rfl) rfl d_SA_isTurned_168 ?_
      refine a_goto (pc := 171) 73 (by decide) d_SA_isTurned_171 ?_
      refine a_sub (pc := 73) [3, 4, 5, 6, 7, 0] rfl ?_
      exact h
    · replace h := h.2 c0
      refine a_iconst (pc := 166) (0 : Int32) (by decide) d_SA_isTurned_166 ?_
      exact b_zret (pc := 167) rfl (Or.inl rfl) d_SA_isTurned_167 h
  · replace h := h.2 c0
    refine a_iload (pc := 130) 0 rfl d_SA_isTurned_130 ?_
    refine a_iload (pc := 132) 7 rfl d_SA_isTurned_132 ?_
    refine a_callS (pc := 134) (M' := m_SA_spotOf) (As := [.int z0, .int x6]) (st := []) (mc' := 0) (ms' := 0) lk_SA_101 rfl (by decide) (by decide) rfl (Nat.le_of_ble_eq_true rfl) (Nat.le_refl 0) (Nat.le_refl 0) d_SA_isTurned_134 h ?_
    rintro _ _ s8 ⟨r9, rfl, rfl, h⟩ -
    show Ax g m_SA_isTurned 0 0 (ZI g Q) SH s8 0 0 137 [(7, .int z0), (0, .ref (gB g + t)), (1, .ref (gB g + t1)), (2, .int x2), (3, .int x3), (4, .int x4), (5, .int x5), (6, .int x6)] [.int r9]
    refine a_goto (pc := 137) 147 (by decide) d_SA_isTurned_137 ?_
    refine a_istore (pc := 147) (lv' := [(8, .int r9), (7, .int z0), (0, .ref (gB g + t)), (1, .ref (gB g + t1)), (2, .int x2), (3, .int x3), (4, .int x4), (5, .int x5), (6, .int x6)]) (Nat.le_of_ble_eq_true rfl) rfl d_SA_isTurned_147 ?_
    refine a_aload_n (pc := 149) 2 rfl rfl d_SA_isTurned_149 ?_
    refine a_iload (pc := 150) 7 rfl d_SA_isTurned_150 ?_
    refine a_iload (pc := 152) 6 rfl d_SA_isTurned_152 ?_
    refine a_callS (pc := 154) (M' := m_SA_spotOf) (As := [.int x5, .int x4]) (st := [.ref (gB g + t)]) (mc' := 0) (ms' := 0) lk_SA_101 rfl (by decide) (by decide) rfl (Nat.le_of_ble_eq_true rfl) (Nat.le_refl 0) (Nat.le_refl 0) d_SA_isTurned_154 h ?_
    rintro _ _ s10 ⟨r11, rfl, rfl, h⟩ -
    show Ax g m_SA_isTurned 0 0 (ZI g Q) SH s10 0 0 157 [(8, .int r9), (7, .int z0), (0, .ref (gB g + t)), (1, .ref (gB g + t1)), (2, .int x2), (3, .int x3), (4, .int x4), (5, .int x5), (6, .int x6)] [.int r11, .ref (gB g + t)]
    refine a_aload_n (pc := 157) 3 rfl rfl d_SA_isTurned_157 ?_
    refine a_iload (pc := 158) 0 rfl d_SA_isTurned_158 ?_
    refine a_callV (pc := 160) (M' := m_SA_showsSame) (As := [.int r11, .ref (gB g + t1), .int r9]) (st := []) (mc' := 0) (ms' := 0) lk_SA_104 rfl (sa0 ht) rfl (by decide) (by decide) rfl (Nat.le_of_ble_eq_true rfl) (Nat.le_refl 0) (Nat.le_refl 0) d_SA_isTurned_160 h ?_
    rintro _ _ s12 ⟨r13, rfl, rfl, h⟩ -
    show Ax g m_SA_isTurned 0 0 (ZI g Q) SH s12 0 0 163 [(8, .int r9), (7, .int z0), (0, .ref (gB g + t)), (1, .ref (gB g + t1)), (2, .int x2), (3, .int x3), (4, .int x4), (5, .int x5), (6, .int x6)] [.int r13]
    refine a_if_ne (pc := 163) 168 (by decide) d_SA_isTurned_163 ⟨fun c0 => ?_, fun c0 => ?_⟩
    · replace h := h.1 c0
      obtain ⟨u14, hu14⟩ : ∃ y : Int32, y = x5 + (1 : Int32) := ⟨_, rfl⟩
      replace h := h u14 hu14
      refine a_iinc (pc := 168) (v := u14) (lv' := [(5, .int u14), (8, .int r9), (7, .int z0), (0, .ref (gB g + t)), (1, .ref (gB g + t1)), (2, .int x2), (3, .int x3), (4, .int x4), (6, .int x6)]) 7 rfl (by rw [hu14]; rfl) (Nat.le_of_ble_eq_true rfl) rfl d_SA_isTurned_168 ?_
      refine a_goto (pc := 171) 73 (by decide) d_SA_isTurned_171 ?_
      refine a_sub (pc := 73) [3, 4, 5, 6, 7, 0] rfl ?_
      exact h
    · replace h := h.2 c0
      refine a_iconst (pc := 166) (0 : Int32) (by decide) d_SA_isTurned_166 ?_
      exact b_zret (pc := 167) rfl (Or.inl rfl) d_SA_isTurned_167 h
theorem ko_SA_isTurned {g : Gx}  {t : Nat} {t1 : Nat} {x2 : Int32} {σ : St} {Q : Int32 → St → Prop} (h : S_SA_isTurned_0 g Q σ t t1 x2) : K_SA_isTurned g t t1 x2 σ Q := KI.of (show plainName "BallBox$State" = true by decide) (Nat.le_of_ble_eq_true rfl) h
theorem d_SA_showsSame_0 : decode c_SA_showsSame 0 = .ok (.aload_n 0, 1) := by decide +kernel
theorem d_SA_showsSame_1 : decode c_SA_showsSame 1 = .ok (.iload_n 1, 1) := by decide +kernel
theorem d_SA_showsSame_2 : decode c_SA_showsSame 2 = .ok (.invokevirtual 45, 3) := by decide +kernel
theorem d_SA_showsSame_5 : decode c_SA_showsSame 5 = .ok (.aload_n 2, 1) := by decide +kernel
theorem d_SA_showsSame_6 : decode c_SA_showsSame 6 = .ok (.iload_n 3, 1) := by decide +kernel
theorem d_SA_showsSame_7 : decode c_SA_showsSame 7 = .ok (.invokevirtual 45, 3) := by decide +kernel
theorem d_SA_showsSame_10 : decode c_SA_showsSame 10 = .ok (.if_icmp .ne 26, 3) := by decide +kernel
theorem d_SA_showsSame_13 : decode c_SA_showsSame 13 = .ok (.aload_n 0, 1) := by decide +kernel
theorem d_SA_showsSame_14 : decode c_SA_showsSame 14 = .ok (.getfield 48, 3) := by decide +kernel
theorem d_SA_showsSame_17 : decode c_SA_showsSame 17 = .ok (.iload_n 1, 1) := by decide +kernel
theorem d_SA_showsSame_18 : decode c_SA_showsSame 18 = .ok (.invokestatic 51, 3) := by decide +kernel
theorem d_SA_showsSame_21 : decode c_SA_showsSame 21 = .ok (.aload_n 2, 1) := by decide +kernel
theorem d_SA_showsSame_22 : decode c_SA_showsSame 22 = .ok (.getfield 48, 3) := by decide +kernel
theorem d_SA_showsSame_25 : decode c_SA_showsSame 25 = .ok (.iload_n 3, 1) := by decide +kernel
theorem d_SA_showsSame_26 : decode c_SA_showsSame 26 = .ok (.invokestatic 51, 3) := by decide +kernel
theorem d_SA_showsSame_29 : decode c_SA_showsSame 29 = .ok (.if_icmp .ne 7, 3) := by decide +kernel
theorem d_SA_showsSame_32 : decode c_SA_showsSame 32 = .ok (.iconst 1, 1) := by decide +kernel
theorem d_SA_showsSame_33 : decode c_SA_showsSame 33 = .ok (.goto 4, 3) := by decide +kernel
theorem d_SA_showsSame_36 : decode c_SA_showsSame 36 = .ok (.iconst 0, 1) := by decide +kernel
theorem d_SA_showsSame_37 : decode c_SA_showsSame 37 = .ok (.ireturn, 1) := by decide +kernel
def S_SA_showsSame_0 (g : Gx) (Q : Int32 → St → Prop) (σ : St) (t : Nat) (t2 : Nat) (x1 : Int32) (x3 : Int32) : Prop := Ax g m_SA_showsSame 0 0 (ZI g Q) SH σ 0 0 0 [(0, .ref (gB g + t)), (1, .int x1), (2, .ref (gB g + t2)), (3, .int x3)] []
theorem sg_SA_showsSame_0 {g : Gx} {Q : Int32 → St → Prop} {σ : St} {t : Nat} {t2 : Nat} {x1 : Int32} {x3 : Int32} (ht : isSA t) (ht2 : isSA t2)
    (h : K_SA_kindAt g t x1 σ (fun (r2 : Int32) (s1 : St) => K_SA_kindAt g t2 x3 s1 (fun (r4 : Int32) (s3 : St) => (¬ r2 = r4 → Q (0 : Int32) s3) ∧ (r2 = r4 → K_SA_whoLies g (fi s3 t 5) x1 s3 (fun (r6 : Int32) (s5 : St) => K_SA_whoLies g (fi s5 t2 5) x3 s5 (fun (r8 : Int32) (s7 : St) => (¬ r6 = r8 → Q (0 : Int32) s7) ∧ (r6 = r8 → Q (1 : Int32) s7))))))) : S_SA_showsSame_0 g Q σ t t2 x1 x3 := by
  show Ax g m_SA_showsSame 0 0 (ZI g Q) SH σ 0 0 0 [(0, .ref (gB g + t)), (1, .int x1), (2, .ref (gB g + t2)), (3, .int x3)] []
  refine a_aload_n (pc := 0) 0 rfl rfl d_SA_showsSame_0 ?_
  refine a_iload_n (pc := 1) 1 rfl rfl d_SA_showsSame_1 ?_
  refine a_callV (pc := 2) (M' := m_SA_kindAt) (As := [.int x1]) (st := []) (mc' := 0) (ms' := 0) lk_SA_45 rfl (sa0 ht) rfl (by decide) (by decide) rfl (Nat.le_of_ble_eq_true rfl) (Nat.le_refl 0) (Nat.le_refl 0) d_SA_showsSame_2 h ?_
  rintro _ _ s1 ⟨r2, rfl, rfl, h⟩ -
  show Ax g m_SA_showsSame 0 0 (ZI g Q) SH s1 0 0 5 [(0, .ref (gB g + t)), (1, .int x1), (2, .ref (gB g + t2)), (3, .int x3)] [.int r2]
  refine a_aload_n (pc := 5) 2 rfl rfl d_SA_showsSame_5 ?_
  refine a_iload_n (pc := 6) 3 rfl rfl d_SA_showsSame_6 ?_
  refine a_callV (pc := 7) (M' := m_SA_kindAt) (As := [.int x3]) (st := [.int r2]) (mc' := 0) (ms' := 0) lk_SA_45 rfl (sa0 ht2) rfl (by decide) (by decide) rfl (Nat.le_of_ble_eq_true rfl) (Nat.le_refl 0) (Nat.le_refl 0) d_SA_showsSame_7 h ?_
  rintro _ _ s3 ⟨r4, rfl, rfl, h⟩ -
  show Ax g m_SA_showsSame 0 0 (ZI g Q) SH s3 0 0 10 [(0, .ref (gB g + t)), (1, .int x1), (2, .ref (gB g + t2)), (3, .int x3)] [.int r4, .int r2]
  refine a_icmp_ne (pc := 10) 36 (by decide) d_SA_showsSame_10 ⟨fun c0 => ?_, fun c0 => ?_⟩
  · replace h := h.1 c0
    refine a_iconst (pc := 36) (0 : Int32) (by decide) d_SA_showsSame_36 ?_
    exact b_zret (pc := 37) rfl (Or.inl rfl) d_SA_showsSame_37 h
  · replace h := h.2 c0
    refine a_aload_n (pc := 13) 0 rfl rfl d_SA_showsSame_13 ?_
    refine a_getI (pc := 14) fg_SA_48 (sa0 ht) rfl d_SA_showsSame_14 ?_
    refine a_iload_n (pc := 17) 1 rfl rfl d_SA_showsSame_17 ?_
    refine a_callS (pc := 18) (M' := m_SA_whoLies) (As := [.int (fi s3 t 5), .int x1]) (st := []) (mc' := 0) (ms' := 0) lk_SA_51 rfl (by decide) (by decide) rfl (Nat.le_of_ble_eq_true rfl) (Nat.le_refl 0) (Nat.le_refl 0) d_SA_showsSame_18 h ?_
    rintro _ _ s5 ⟨r6, rfl, rfl, h⟩ -
    show Ax g m_SA_showsSame 0 0 (ZI g Q) SH s5 0 0 21 [(0, .ref (gB g + t)), (1, .int x1), (2, .ref (gB g + t2)), (3, .int x3)] [.int r6]
    refine a_aload_n (pc := 21) 2 rfl rfl d_SA_showsSame_21 ?_
    refine a_getI (pc := 22) fg_SA_48 (sa0 ht2) rfl d_SA_showsSame_22 ?_
    refine a_iload_n (pc := 25) 3 rfl rfl d_SA_showsSame_25 ?_
    refine a_callS (pc := 26) (M' := m_SA_whoLies) (As := [.int (fi s5 t2 5), .int x3]) (st := [.int r6]) (mc' := 0) (ms' := 0) lk_SA_51 rfl (by decide) (by decide) rfl (Nat.le_of_ble_eq_true rfl) (Nat.le_refl 0) (Nat.le_refl 0) d_SA_showsSame_26 h ?_
    rintro _ _ s7 ⟨r8, rfl, rfl, h⟩ -
    show Ax g m_SA_showsSame 0 0 (ZI g Q) SH s7 0 0 29 [(0, .ref (gB g + t)), (1, .int x1), (2, .ref (gB g + t2)), (3, .int x3)] [.int r8, .int r6]
    refine a_icmp_ne (pc := 29) 36 (by decide) d_SA_showsSame_29 ⟨fun c0 => ?_, fun c0 => ?_⟩
    · replace h := h.1 c0
      refine a_iconst (pc := 36) (0 : Int32) (by decide) d_SA_showsSame_36 ?_
      exact b_zret (pc := 37) rfl (Or.inl rfl) d_SA_showsSame_37 h
    · replace h := h.2 c0
      refine a_iconst (pc := 32) (1 : Int32) (by decide) d_SA_showsSame_32 ?_
      refine a_goto (pc := 33) 37 (by decide) d_SA_showsSame_33 ?_
      exact b_zret (pc := 37) rfl (Or.inr rfl) d_SA_showsSame_37 h
theorem ko_SA_showsSame {g : Gx}  {t : Nat} {x1 : Int32} {t2 : Nat} {x3 : Int32} {σ : St} {Q : Int32 → St → Prop} (h : S_SA_showsSame_0 g Q σ t t2 x1 x3) : K_SA_showsSame g t x1 t2 x3 σ Q := KI.of (show plainName "BallBox$State" = true by decide) (Nat.le_of_ble_eq_true rfl) h
