theorem d_JP_checkIndex_0 : decode c_JP_checkIndex 0 = .ok (.iload_n 0, 1) := by decide +kernel
theorem d_JP_checkIndex_1 : decode c_JP_checkIndex 1 = .ok (.ifCond .lt 8, 3) := by decide +kernel
theorem d_JP_checkIndex_4 : decode c_JP_checkIndex 4 = .ok (.iload_n 0, 1) := by decide +kernel
theorem d_JP_checkIndex_5 : decode c_JP_checkIndex 5 = .ok (.iload_n 1, 1) := by decide +kernel
theorem d_JP_checkIndex_6 : decode c_JP_checkIndex 6 = .ok (.if_icmp .lt 10, 3) := by decide +kernel
theorem d_JP_checkIndex_9 : decode c_JP_checkIndex 9 = .ok (.aload_n 2, 1) := by decide +kernel
theorem d_JP_checkIndex_10 : decode c_JP_checkIndex 10 = .ok (.iload_n 0, 1) := by decide +kernel
theorem d_JP_checkIndex_11 : decode c_JP_checkIndex 11 = .ok (.iload_n 1, 1) := by decide +kernel
theorem d_JP_checkIndex_12 : decode c_JP_checkIndex 12 = .ok (.invokestatic 95, 3) := by decide +kernel
theorem d_JP_checkIndex_15 : decode c_JP_checkIndex 15 = .ok (.athrow, 1) := by decide +kernel
theorem d_JP_checkIndex_16 : decode c_JP_checkIndex 16 = .ok (.iload_n 0, 1) := by decide +kernel
theorem d_JP_checkIndex_17 : decode c_JP_checkIndex 17 = .ok (.ireturn, 1) := by decide +kernel
def S_JP_checkIndex_0 (g : Gx) (Q : Int32 → St → Prop) (σ : St) (f2 : Nat) (x0 : Int32) (x1 : Int32) : Prop := Ax g m_JP_checkIndex 0 0 (ZI g Q) SH σ 0 0 0 [(0, .int x0), (1, .int x1), (2, .ref f2)] []
theorem sg_JP_checkIndex_0 {g : Gx} {Q : Int32 → St → Prop} {σ : St} {f2 : Nat} {x0 : Int32} {x1 : Int32}
    (h : (x0 < 0 → False) ∧ (¬ x0 < 0 → (x0 < x1 → Q x0 σ) ∧ (¬ x0 < x1 → False))) : S_JP_checkIndex_0 g Q σ f2 x0 x1 := by
  show Ax g m_JP_checkIndex 0 0 (ZI g Q) SH σ 0 0 0 [(0, .int x0), (1, .int x1), (2, .ref f2)] []
  refine a_iload_n (pc := 0) 0 rfl rfl d_JP_checkIndex_0 ?_
  refine a_if_lt (pc := 1) 9 (by decide) d_JP_checkIndex_1 ⟨fun c0 => ?_, fun c0 => ?_⟩
  · replace h := h.1 c0
    refine a_aload_n (pc := 9) 2 rfl rfl d_JP_checkIndex_9 ?_
    refine a_iload_n (pc := 10) 0 rfl rfl d_JP_checkIndex_10 ?_
    refine a_iload_n (pc := 11) 1 rfl rfl d_JP_checkIndex_11 ?_
    exact h.elim
  · replace h := h.2 c0
    refine a_iload_n (pc := 4) 0 rfl rfl d_JP_checkIndex_4 ?_
    refine a_iload_n (pc := 5) 1 rfl rfl d_JP_checkIndex_5 ?_
    refine a_icmp_lt (pc := 6) 16 (by decide) d_JP_checkIndex_6 ⟨fun c0 => ?_, fun c0 => ?_⟩
    · replace h := h.1 c0
      refine a_iload_n (pc := 16) 0 rfl rfl d_JP_checkIndex_16 ?_
      exact b_iret (pc := 17) rfl d_JP_checkIndex_17 h
    · replace h := h.2 c0
      refine a_aload_n (pc := 9) 2 rfl rfl d_JP_checkIndex_9 ?_
      refine a_iload_n (pc := 10) 0 rfl rfl d_JP_checkIndex_10 ?_
      refine a_iload_n (pc := 11) 1 rfl rfl d_JP_checkIndex_11 ?_
      exact h.elim
theorem ko_JP_checkIndex {g : Gx}  {x0 : Int32} {x1 : Int32} {f2 : Nat} {σ : St} {Q : Int32 → St → Prop} (h : S_JP_checkIndex_0 g Q σ f2 x0 x1) : K_JP_checkIndex g x0 x1 f2 σ Q := KI.of (show plainName "jdk/internal/util/Preconditions" = true by decide) (Nat.le_of_ble_eq_true rfl) h
def S_JP_checkIndexN_0 (g : Gx) (Q : Int32 → St → Prop) (σ : St) (x0 : Int32) (x1 : Int32) : Prop := Ax g m_JP_checkIndex 0 0 (ZI g Q) SH σ 0 0 0 [(0, .int x0), (1, .int x1), (2, .null)] []
theorem sg_JP_checkIndexN_0 {g : Gx} {Q : Int32 → St → Prop} {σ : St} {x0 : Int32} {x1 : Int32}
    (h : (x0 < 0 → False) ∧ (¬ x0 < 0 → (x0 < x1 → Q x0 σ) ∧ (¬ x0 < x1 → False))) : S_JP_checkIndexN_0 g Q σ x0 x1 := by
  show Ax g m_JP_checkIndex 0 0 (ZI g Q) SH σ 0 0 0 [(0, .int x0), (1, .int x1), (2, .null)] []
  refine a_iload_n (pc := 0) 0 rfl rfl d_JP_checkIndex_0 ?_
  refine a_if_lt (pc := 1) 9 (by decide) d_JP_checkIndex_1 ⟨fun c0 => ?_, fun c0 => ?_⟩
  · replace h := h.1 c0
    exact h.elim
  · replace h := h.2 c0
    refine a_iload_n (pc := 4) 0 rfl rfl d_JP_checkIndex_4 ?_
    refine a_iload_n (pc := 5) 1 rfl rfl d_JP_checkIndex_5 ?_
    refine a_icmp_lt (pc := 6) 16 (by decide) d_JP_checkIndex_6 ⟨fun c0 => ?_, fun c0 => ?_⟩
    · replace h := h.1 c0
      refine a_iload_n (pc := 16) 0 rfl rfl d_JP_checkIndex_16 ?_
      exact b_iret (pc := 17) rfl d_JP_checkIndex_17 h
    · replace h := h.2 c0
      exact h.elim
theorem ko_JP_checkIndexN {g : Gx}  {x0 : Int32} {x1 : Int32} {σ : St} {Q : Int32 → St → Prop} (h : S_JP_checkIndexN_0 g Q σ x0 x1) : K_JP_checkIndexN g x0 x1 σ Q := KI.of (show plainName "jdk/internal/util/Preconditions" = true by decide) (Nat.le_of_ble_eq_true rfl) h
