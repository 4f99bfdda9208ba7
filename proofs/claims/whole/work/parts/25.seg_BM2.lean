theorem d_BM_fillsBegun_0 : decode c_BM_fillsBegun 0 = .ok (.iconst 0, 1) := by decide +kernel
theorem d_BM_fillsBegun_1 : decode c_BM_fillsBegun 1 = .ok (.istore_n 1, 1) := by decide +kernel
theorem d_BM_fillsBegun_2 : decode c_BM_fillsBegun 2 = .ok (.iconst 0, 1) := by decide +kernel
theorem d_BM_fillsBegun_3 : decode c_BM_fillsBegun 3 = .ok (.istore_n 2, 1) := by decide +kernel
theorem d_BM_fillsBegun_4 : decode c_BM_fillsBegun 4 = .ok (.iload_n 2, 1) := by decide +kernel
theorem d_BM_fillsBegun_5 : decode c_BM_fillsBegun 5 = .ok (.aload_n 0, 1) := by decide +kernel
theorem d_BM_fillsBegun_6 : decode c_BM_fillsBegun 6 = .ok (.invokevirtual 443, 3) := by decide +kernel
theorem d_BM_fillsBegun_9 : decode c_BM_fillsBegun 9 = .ok (.if_icmp .ge 36, 3) := by decide +kernel
theorem d_BM_fillsBegun_12 : decode c_BM_fillsBegun 12 = .ok (.aload_n 0, 1) := by decide +kernel
theorem d_BM_fillsBegun_13 : decode c_BM_fillsBegun 13 = .ok (.iload_n 2, 1) := by decide +kernel
theorem d_BM_fillsBegun_14 : decode c_BM_fillsBegun 14 = .ok (.aload_n 0, 1) := by decide +kernel
theorem d_BM_fillsBegun_15 : decode c_BM_fillsBegun 15 = .ok (.getfield 9, 3) := by decide +kernel
theorem d_BM_fillsBegun_18 : decode c_BM_fillsBegun 18 = .ok (.iconst 2, 1) := by decide +kernel
theorem d_BM_fillsBegun_19 : decode c_BM_fillsBegun 19 = .ok (.iaload, 1) := by decide +kernel
theorem d_BM_fillsBegun_20 : decode c_BM_fillsBegun 20 = .ok (.invokevirtual 446, 3) := by decide +kernel
theorem d_BM_fillsBegun_23 : decode c_BM_fillsBegun 23 = .ok (.ifCond .eq 16, 3) := by decide +kernel
theorem d_BM_fillsBegun_26 : decode c_BM_fillsBegun 26 = .ok (.aload_n 0, 1) := by decide +kernel
theorem d_BM_fillsBegun_27 : decode c_BM_fillsBegun 27 = .ok (.getfield 104, 3) := by decide +kernel
theorem d_BM_fillsBegun_30 : decode c_BM_fillsBegun 30 = .ok (.iload_n 1, 1) := by decide +kernel
theorem d_BM_fillsBegun_31 : decode c_BM_fillsBegun 31 = .ok (.aload_n 0, 1) := by decide +kernel
theorem d_BM_fillsBegun_32 : decode c_BM_fillsBegun 32 = .ok (.invokevirtual 422, 3) := by decide +kernel
theorem d_BM_fillsBegun_35 : decode c_BM_fillsBegun 35 = .ok (.iastore, 1) := by decide +kernel
theorem d_BM_fillsBegun_36 : decode c_BM_fillsBegun 36 = .ok (.iinc 1 1, 3) := by decide +kernel
theorem d_BM_fillsBegun_39 : decode c_BM_fillsBegun 39 = .ok (.iinc 2 1, 3) := by decide +kernel
theorem d_BM_fillsBegun_42 : decode c_BM_fillsBegun 42 = .ok (.goto (-38), 3) := by decide +kernel
theorem d_BM_fillsBegun_45 : decode c_BM_fillsBegun 45 = .ok (.iload_n 1, 1) := by decide +kernel
theorem d_BM_fillsBegun_46 : decode c_BM_fillsBegun 46 = .ok (.ireturn, 1) := by decide +kernel
def S_BM_fillsBegun_0 (g : Gx) (Q : Int32 → St → Prop) (σ : St) : Prop := Ax g m_BM_fillsBegun 0 0 (ZI g Q) SH σ 0 0 0 [(0, .ref (gB g + 151))] []
def S_BM_fillsBegun_4 (g : Gx) (Q : Int32 → St → Prop) (σ : St) (x1 : Int32) (x2 : Int32) : Prop := Ax g m_BM_fillsBegun 0 0 (ZI g Q) SH σ 0 0 4 [(0, .ref (gB g + 151)), (1, .int x1), (2, .int x2)] []
theorem sg_BM_fillsBegun_0 {g : Gx} {Q : Int32 → St → Prop} {σ : St}
    (h : S_BM_fillsBegun_4 g Q σ (0 : Int32) (0 : Int32)) : S_BM_fillsBegun_0 g Q σ := by
  show Ax g m_BM_fillsBegun 0 0 (ZI g Q) SH σ 0 0 0 [(0, .ref (gB g + 151))] []
  refine a_iconst (pc := 0) (0 : Int32) (by decide) d_BM_fillsBegun_0 ?_
  refine a_istore_n (pc := 1) (lv' := [(1, .int (0 : Int32)), (0, .ref (gB g + 151))]) rfl (Nat.le_of_ble_eq_true rfl) rfl d_BM_fillsBegun_1 ?_
  refine a_iconst (pc := 2) (0 : Int32) (by decide) d_BM_fillsBegun_2 ?_
  refine a_istore_n (pc := 3) (lv' := [(2, .int (0 : Int32)), (1, .int (0 : Int32)), (0, .ref (gB g + 151))]) rfl (Nat.le_of_ble_eq_true rfl) rfl d_BM_fillsBegun_3 ?_
  refine a_sub (pc := 4) [2, 1, 0] rfl ?_
  exact h
theorem sg_BM_fillsBegun_4 {g : Gx} {Q : Int32 → St → Prop} {σ : St} {x1 : Int32} {x2 : Int32}
    (h : K_BM_codes g σ (fun (r2 : Int32) (s1 : St) => (r2 ≤ x2 → Q x1 s1) ∧ (¬ r2 ≤ x2 → vp_in (2 : Int32) 8 ∧ (K_BM_isBeginning g x2 (ai s1 152 ((2 : Int32)).toNatClampNeg) s1 (fun (r4 : Int32) (s3 : St) => (r4 = 0 → ∀ u5 : Int32, u5 = x2 + (1 : Int32) → S_BM_fillsBegun_4 g Q s3 x1 u5) ∧ (¬ r4 = 0 → K_BM_situationNow g s3 (fun (r7 : Int32) (s6 : St) => vp_in x1 1444 ∧ (∀ s8 : St, s8 = sai s6 181 (x1).toNatClampNeg r7 → ∀ u9 : Int32, u9 = x1 + (1 : Int32) → ∀ u10 : Int32, u10 = x2 + (1 : Int32) → S_BM_fillsBegun_4 g Q s8 u9 u10)))))))) : S_BM_fillsBegun_4 g Q σ x1 x2 := by
  show Ax g m_BM_fillsBegun 0 0 (ZI g Q) SH σ 0 0 4 [(0, .ref (gB g + 151)), (1, .int x1), (2, .int x2)] []
  refine a_iload_n (pc := 4) 2 rfl rfl d_BM_fillsBegun_4 ?_
  refine a_aload_n (pc := 5) 0 rfl rfl d_BM_fillsBegun_5 ?_
  refine a_callV (pc := 6) (M' := m_BM_codes) (As := []) (st := [.int x2]) (mc' := 0) (ms' := 0) lk_BM_443 rfl sx_151 rfl (by decide) (by decide) rfl (Nat.le_of_ble_eq_true rfl) (Nat.le_refl 0) (Nat.le_refl 0) d_BM_fillsBegun_6 h ?_
  rintro _ _ s1 ⟨r2, rfl, rfl, h⟩ -
  show Ax g m_BM_fillsBegun 0 0 (ZI g Q) SH s1 0 0 9 [(0, .ref (gB g + 151)), (1, .int x1), (2, .int x2)] [.int r2, .int x2]
  refine a_icmp_ge (pc := 9) 45 (by decide) d_BM_fillsBegun_9 ⟨fun c0 => ?_, fun c0 => ?_⟩
  · replace h := h.1 c0
    refine a_iload_n (pc := 45) 1 rfl rfl d_BM_fillsBegun_45 ?_
    exact b_iret (pc := 46) rfl d_BM_fillsBegun_46 h
  · replace h := h.2 c0
    refine a_aload_n (pc := 12) 0 rfl rfl d_BM_fillsBegun_12 ?_
    refine a_iload_n (pc := 13) 2 rfl rfl d_BM_fillsBegun_13 ?_
    refine a_aload_n (pc := 14) 0 rfl rfl d_BM_fillsBegun_14 ?_
    refine a_getR (pc := 15) fg_BM_9 sx_151 rfl d_BM_fillsBegun_15 ?_
    refine a_iconst (pc := 18) (2 : Int32) (by decide) d_BM_fillsBegun_18 ?_
    obtain ⟨hx, h⟩ := h
    refine a_iald (pc := 19) sx_152 hx d_BM_fillsBegun_19 ?_
    refine a_callV (pc := 20) (M' := m_BM_isBeginning) (As := [.int x2, .int (ai s1 152 ((2 : Int32)).toNatClampNeg)]) (st := []) (mc' := 0) (ms' := 0) lk_BM_446 rfl sx_151 rfl (by decide) (by decide) rfl (Nat.le_of_ble_eq_true rfl) (Nat.le_refl 0) (Nat.le_refl 0) d_BM_fillsBegun_20 h ?_
    rintro _ _ s3 ⟨r4, rfl, rfl, h⟩ -
    show Ax g m_BM_fillsBegun 0 0 (ZI g Q) SH s3 0 0 23 [(0, .ref (gB g + 151)), (1, .int x1), (2, .int x2)] [.int r4]
    refine a_if_eq (pc := 23) 39 (by decide) d_BM_fillsBegun_23 ⟨fun c0 => ?_, fun c0 => ?_⟩
    · replace h := h.1 c0
      obtain ⟨u5, hu5⟩ : ∃ y : Int32, y = x2 + (1 : Int32) := ⟨_, rfl⟩
      replace h := h u5 hu5
      refine a_iinc (pc := 39) (v := u5) (lv' := [(2, .int u5), (0, .ref (gB g + 151)), (1, .int x1)]) 2 rfl (by rw [hu5]; rfl) (Nat.le_of_ble_eq_true rfl) rfl d_BM_fillsBegun_39 ?_
      refine a_goto (pc := 42) 4 (by decide) d_BM_fillsBegun_42 ?_
      refine a_sub (pc := 4) [1, 2, 0] rfl ?_
      exact h
    · replace h := h.2 c0
      refine a_aload_n (pc := 26) 0 rfl rfl d_BM_fillsBegun_26 ?_
      refine a_getR (pc := 27) fg_BM_104 sx_151 rfl d_BM_fillsBegun_27 ?_
      refine a_iload_n (pc := 30) 1 rfl rfl d_BM_fillsBegun_30 ?_
      refine a_aload_n (pc := 31) 0 rfl rfl d_BM_fillsBegun_31 ?_
      refine a_callV (pc := 32) (M' := m_BM_situationNow) (As := []) (st := [.int x1, .ref (gB g + 181)]) (mc' := 0) (ms' := 0) lk_BM_422 rfl sx_151 rfl (by decide) (by decide) rfl (Nat.le_of_ble_eq_true rfl) (Nat.le_refl 0) (Nat.le_refl 0) d_BM_fillsBegun_32 h ?_
      rintro _ _ s6 ⟨r7, rfl, rfl, h⟩ -
      show Ax g m_BM_fillsBegun 0 0 (ZI g Q) SH s6 0 0 35 [(0, .ref (gB g + 151)), (1, .int x1), (2, .int x2)] [.int r7, .int x1, .ref (gB g + 181)]
      obtain ⟨hx, h⟩ := h
      refine a_iast (pc := 35) sx_181 hx d_BM_fillsBegun_35 ?_
      refine a_nms (fun s8 hs8 => ?_)
      replace h := h s8 hs8
      obtain ⟨u9, hu9⟩ : ∃ y : Int32, y = x1 + (1 : Int32) := ⟨_, rfl⟩
      replace h := h u9 hu9
      refine a_iinc (pc := 36) (v := u9) (lv' := [(1, .int u9), (0, .ref (gB g + 151)), (2, .int x2)]) 1 rfl (by rw [hu9]; rfl) (Nat.le_of_ble_eq_true rfl) rfl d_BM_fillsBegun_36 ?_
      obtain ⟨u10, hu10⟩ : ∃ y : Int32, y = x2 + (1 : Int32) := ⟨_, rfl⟩
      replace h := h u10 hu10
      refine a_iinc (pc := 39) (v := u10) (lv' := [(2, .int u10), (1, .int u9), (0, .ref (gB g + 151))]) 2 rfl (by rw [hu10]; rfl) (Nat.le_of_ble_eq_true rfl) rfl d_BM_fillsBegun_39 ?_
      refine a_goto (pc := 42) 4 (by decide) d_BM_fillsBegun_42 ?_
      refine a_sub (pc := 4) [2, 1, 0] rfl ?_
      exact h
theorem ko_BM_fillsBegun {g : Gx}  {σ : St} {Q : Int32 → St → Prop} (h : S_BM_fillsBegun_0 g Q σ) : K_BM_fillsBegun g  σ Q := KI.of (show plainName "BallBoxModel" = true by decide) (Nat.le_of_ble_eq_true rfl) h
theorem d_BM_isBlind_0 : decode c_BM_isBlind 0 = .ok (.iconst 1, 1) := by decide +kernel
theorem d_BM_isBlind_1 : decode c_BM_isBlind 1 = .ok (.istore 4, 2) := by decide +kernel
theorem d_BM_isBlind_3 : decode c_BM_isBlind 3 = .ok (.iconst 0, 1) := by decide +kernel
theorem d_BM_isBlind_4 : decode c_BM_isBlind 4 = .ok (.istore 5, 2) := by decide +kernel
theorem d_BM_isBlind_6 : decode c_BM_isBlind 6 = .ok (.iload 5, 2) := by decide +kernel
theorem d_BM_isBlind_8 : decode c_BM_isBlind 8 = .ok (.iload_n 3, 1) := by decide +kernel
theorem d_BM_isBlind_9 : decode c_BM_isBlind 9 = .ok (.if_icmp .ge 94, 3) := by decide +kernel
theorem d_BM_isBlind_12 : decode c_BM_isBlind 12 = .ok (.iload 4, 2) := by decide +kernel
theorem d_BM_isBlind_14 : decode c_BM_isBlind 14 = .ok (.ifCond .eq 89, 3) := by decide +kernel
theorem d_BM_isBlind_17 : decode c_BM_isBlind 17 = .ok (.aload_n 0, 1) := by decide +kernel
theorem d_BM_isBlind_18 : decode c_BM_isBlind 18 = .ok (.getfield 104, 3) := by decide +kernel
theorem d_BM_isBlind_21 : decode c_BM_isBlind 21 = .ok (.iload 5, 2) := by decide +kernel
theorem d_BM_isBlind_23 : decode c_BM_isBlind 23 = .ok (.iaload, 1) := by decide +kernel
theorem d_BM_isBlind_24 : decode c_BM_isBlind 24 = .ok (.istore 6, 2) := by decide +kernel
theorem d_BM_isBlind_26 : decode c_BM_isBlind 26 = .ok (.iconst 1, 1) := by decide +kernel
theorem d_BM_isBlind_27 : decode c_BM_isBlind 27 = .ok (.istore 7, 2) := by decide +kernel
theorem d_BM_isBlind_29 : decode c_BM_isBlind 29 = .ok (.iconst 1, 1) := by decide +kernel
theorem d_BM_isBlind_30 : decode c_BM_isBlind 30 = .ok (.istore 8, 2) := by decide +kernel
theorem d_BM_isBlind_32 : decode c_BM_isBlind 32 = .ok (.iload 8, 2) := by decide +kernel
theorem d_BM_isBlind_34 : decode c_BM_isBlind 34 = .ok (.iload_n 2, 1) := by decide +kernel
theorem d_BM_isBlind_35 : decode c_BM_isBlind 35 = .ok (.if_icmp .ge 15, 3) := by decide +kernel
theorem d_BM_isBlind_38 : decode c_BM_isBlind 38 = .ok (.iload 7, 2) := by decide +kernel
theorem d_BM_isBlind_40 : decode c_BM_isBlind 40 = .ok (.iconst 4, 1) := by decide +kernel
theorem d_BM_isBlind_41 : decode c_BM_isBlind 41 = .ok (.imul, 1) := by decide +kernel
theorem d_BM_isBlind_42 : decode c_BM_isBlind 42 = .ok (.istore 7, 2) := by decide +kernel
theorem d_BM_isBlind_44 : decode c_BM_isBlind 44 = .ok (.iinc 8 1, 3) := by decide +kernel
theorem d_BM_isBlind_47 : decode c_BM_isBlind 47 = .ok (.goto (-15), 3) := by decide +kernel
theorem d_BM_isBlind_50 : decode c_BM_isBlind 50 = .ok (.iconst 0, 1) := by decide +kernel
theorem d_BM_isBlind_51 : decode c_BM_isBlind 51 = .ok (.istore 8, 2) := by decide +kernel
theorem d_BM_isBlind_53 : decode c_BM_isBlind 53 = .ok (.iload 8, 2) := by decide +kernel
theorem d_BM_isBlind_55 : decode c_BM_isBlind 55 = .ok (.iload_n 2, 1) := by decide +kernel
theorem d_BM_isBlind_56 : decode c_BM_isBlind 56 = .ok (.if_icmp .ge 33, 3) := by decide +kernel
theorem d_BM_isBlind_59 : decode c_BM_isBlind 59 = .ok (.aload_n 0, 1) := by decide +kernel
theorem d_BM_isBlind_60 : decode c_BM_isBlind 60 = .ok (.getfield 101, 3) := by decide +kernel
theorem d_BM_isBlind_63 : decode c_BM_isBlind 63 = .ok (.iconst 4, 1) := by decide +kernel
theorem d_BM_isBlind_64 : decode c_BM_isBlind 64 = .ok (.iload 6, 2) := by decide +kernel
theorem d_BM_isBlind_66 : decode c_BM_isBlind 66 = .ok (.imul, 1) := by decide +kernel
theorem d_BM_isBlind_67 : decode c_BM_isBlind 67 = .ok (.iload_n 1, 1) := by decide +kernel
theorem d_BM_isBlind_68 : decode c_BM_isBlind 68 = .ok (.iload 7, 2) := by decide +kernel
theorem d_BM_isBlind_70 : decode c_BM_isBlind 70 = .ok (.idiv, 1) := by decide +kernel
theorem d_BM_isBlind_71 : decode c_BM_isBlind 71 = .ok (.iconst 4, 1) := by decide +kernel
theorem d_BM_isBlind_72 : decode c_BM_isBlind 72 = .ok (.irem, 1) := by decide +kernel
theorem d_BM_isBlind_73 : decode c_BM_isBlind 73 = .ok (.iadd, 1) := by decide +kernel
theorem d_BM_isBlind_74 : decode c_BM_isBlind 74 = .ok (.iaload, 1) := by decide +kernel
theorem d_BM_isBlind_75 : decode c_BM_isBlind 75 = .ok (.istore 6, 2) := by decide +kernel
theorem d_BM_isBlind_77 : decode c_BM_isBlind 77 = .ok (.iload 7, 2) := by decide +kernel
theorem d_BM_isBlind_79 : decode c_BM_isBlind 79 = .ok (.iconst 4, 1) := by decide +kernel
theorem d_BM_isBlind_80 : decode c_BM_isBlind 80 = .ok (.idiv, 1) := by decide +kernel
theorem d_BM_isBlind_81 : decode c_BM_isBlind 81 = .ok (.istore 7, 2) := by decide +kernel
theorem d_BM_isBlind_83 : decode c_BM_isBlind 83 = .ok (.iinc 8 1, 3) := by decide +kernel
theorem d_BM_isBlind_86 : decode c_BM_isBlind 86 = .ok (.goto (-33), 3) := by decide +kernel
theorem d_BM_isBlind_89 : decode c_BM_isBlind 89 = .ok (.aload_n 0, 1) := by decide +kernel
theorem d_BM_isBlind_90 : decode c_BM_isBlind 90 = .ok (.iload 6, 2) := by decide +kernel
theorem d_BM_isBlind_92 : decode c_BM_isBlind 92 = .ok (.invokevirtual 449, 3) := by decide +kernel
theorem d_BM_isBlind_95 : decode c_BM_isBlind 95 = .ok (.istore 4, 2) := by decide +kernel
theorem d_BM_isBlind_97 : decode c_BM_isBlind 97 = .ok (.iinc 5 1, 3) := by decide +kernel
theorem d_BM_isBlind_100 : decode c_BM_isBlind 100 = .ok (.goto (-94), 3) := by decide +kernel
theorem d_BM_isBlind_103 : decode c_BM_isBlind 103 = .ok (.iload 4, 2) := by decide +kernel
theorem d_BM_isBlind_105 : decode c_BM_isBlind 105 = .ok (.ireturn, 1) := by decide +kernel
def S_BM_isBlind_0 (g : Gx) (Q : Int32 → St → Prop) (σ : St) (x1 : Int32) (x2 : Int32) (x3 : Int32) : Prop := Ax g m_BM_isBlind 0 0 (ZI g Q) SH σ 0 0 0 [(0, .ref (gB g + 151)), (1, .int x1), (2, .int x2), (3, .int x3)] []
def S_BM_isBlind_6 (g : Gx) (Q : Int32 → St → Prop) (σ : St) (x1 : Int32) (x2 : Int32) (x3 : Int32) (x4 : Int32) (x5 : Int32) : Prop := Ax g m_BM_isBlind 0 0 (ZI g Q) SH σ 0 0 6 [(0, .ref (gB g + 151)), (1, .int x1), (2, .int x2), (3, .int x3), (4, .int x4), (5, .int x5)] []
def S_BM_isBlind_32 (g : Gx) (Q : Int32 → St → Prop) (σ : St) (x1 : Int32) (x2 : Int32) (x3 : Int32) (x5 : Int32) (x6 : Int32) (x7 : Int32) (x8 : Int32) : Prop := Ax g m_BM_isBlind 0 0 (ZI g Q) SH σ 0 0 32 [(0, .ref (gB g + 151)), (1, .int x1), (2, .int x2), (3, .int x3), (5, .int x5), (6, .int x6), (7, .int x7), (8, .int x8)] []
def S_BM_isBlind_53 (g : Gx) (Q : Int32 → St → Prop) (σ : St) (x1 : Int32) (x2 : Int32) (x3 : Int32) (x5 : Int32) (x6 : Int32) (x7 : Int32) (x8 : Int32) : Prop := Ax g m_BM_isBlind 0 0 (ZI g Q) SH σ 0 0 53 [(0, .ref (gB g + 151)), (1, .int x1), (2, .int x2), (3, .int x3), (5, .int x5), (6, .int x6), (7, .int x7), (8, .int x8)] []
theorem sg_BM_isBlind_0 {g : Gx} {Q : Int32 → St → Prop} {σ : St} {x1 : Int32} {x2 : Int32} {x3 : Int32}
    (h : S_BM_isBlind_6 g Q σ x1 x2 x3 (1 : Int32) (0 : Int32)) : S_BM_isBlind_0 g Q σ x1 x2 x3 := by
  show Ax g m_BM_isBlind 0 0 (ZI g Q) SH σ 0 0 0 [(0, .ref (gB g + 151)), (1, .int x1), (2, .int x2), (3, .int x3)] []
  refine a_iconst (pc := 0) (1 : Int32) (by decide) d_BM_isBlind_0 ?_
  refine a_istore (pc := 1) (lv' := [(4, .int (1 : Int32)), (0, .ref (gB g + 151)), (1, .int x1), (2, .int x2), (3, .int x3)]) (Nat.le_of_ble_eq_true rfl) rfl d_BM_isBlind_1 ?_
  refine a_iconst (pc := 3) (0 : Int32) (by decide) d_BM_isBlind_3 ?_
  refine a_istore (pc := 4) (lv' := [(5, .int (0 : Int32)), (4, .int (1 : Int32)), (0, .ref (gB g + 151)), (1, .int x1), (2, .int x2), (3, .int x3)]) (Nat.le_of_ble_eq_true rfl) rfl d_BM_isBlind_4 ?_
  refine a_sub (pc := 6) [2, 3, 4, 5, 1, 0] rfl ?_
  exact h
theorem sg_BM_isBlind_6 {g : Gx} {Q : Int32 → St → Prop} {σ : St} {x1 : Int32} {x2 : Int32} {x3 : Int32} {x4 : Int32} {x5 : Int32}
    (h : (x3 ≤ x5 → (x4 = 0 ∨ x4 = 1) ∧ Q x4 σ) ∧ (¬ x3 ≤ x5 → (x4 = 0 → (x4 = 0 ∨ x4 = 1) ∧ Q x4 σ) ∧ (¬ x4 = 0 → vp_in x5 1444 ∧ (∀ u1 : Int32, u1 = (ai σ 181 (x5).toNatClampNeg) → S_BM_isBlind_32 g Q σ x1 x2 x3 x5 u1 (1 : Int32) (1 : Int32))))) : S_BM_isBlind_6 g Q σ x1 x2 x3 x4 x5 := by
  show Ax g m_BM_isBlind 0 0 (ZI g Q) SH σ 0 0 6 [(0, .ref (gB g + 151)), (1, .int x1), (2, .int x2), (3, .int x3), (4, .int x4), (5, .int x5)] []
  refine a_iload (pc := 6) 5 rfl d_BM_isBlind_6 ?_
  refine a_iload_n (pc := 8) 3 rfl rfl d_BM_isBlind_8 ?_
  refine a_icmp_ge (pc := 9) 103 (by decide) d_BM_isBlind_9 ⟨fun c0 => ?_, fun c0 => ?_⟩
  · replace h := h.1 c0
    refine a_iload (pc := 103) 4 rfl d_BM_isBlind_103 ?_
    exact b_zret (pc := 105) rfl h.1 d_BM_isBlind_105 h.2
  · replace h := h.2 c0
    refine a_iload (pc := 12) 4 rfl d_BM_isBlind_12 ?_
    refine a_if_eq (pc := 14) 103 (by decide) d_BM_isBlind_14 ⟨fun c0 => ?_, fun c0 => ?_⟩
    · replace h := h.1 c0
      refine a_iload (pc := 103) 4 rfl d_BM_isBlind_103 ?_
      exact b_zret (pc := 105) rfl h.1 d_BM_isBlind_105 h.2
    · replace h := h.2 c0
      refine a_aload_n (pc := 17) 0 rfl rfl d_BM_isBlind_17 ?_
      refine a_getR (pc := 18) fg_BM_104 sx_151 rfl d_BM_isBlind_18 ?_
      refine a_iload (pc := 21) 5 rfl d_BM_isBlind_21 ?_
      obtain ⟨hx, h⟩ := h
      refine a_iald (pc := 23) sx_181 hx d_BM_isBlind_23 ?_
      refine a_nmi (pc := 24) (fun u1 hu1 => ?_)
      replace h := h u1 hu1
      refine a_istore (pc := 24) (lv' := [(6, .int u1), (0, .ref (gB g + 151)), (1, .int x1), (2, .int x2), (3, .int x3), (4, .int x4), (5, .int x5)]) (Nat.le_of_ble_eq_true rfl) rfl d_BM_isBlind_24 ?_
      refine a_iconst (pc := 26) (1 : Int32) (by decide) d_BM_isBlind_26 ?_
      refine a_istore (pc := 27) (lv' := [(7, .int (1 : Int32)), (6, .int u1), (0, .ref (gB g + 151)), (1, .int x1), (2, .int x2), (3, .int x3), (4, .int x4), (5, .int x5)]) (Nat.le_of_ble_eq_true rfl) rfl d_BM_isBlind_27 ?_
      refine a_iconst (pc := 29) (1 : Int32) (by decide) d_BM_isBlind_29 ?_
      refine a_istore (pc := 30) (lv' := [(8, .int (1 : Int32)), (7, .int (1 : Int32)), (6, .int u1), (0, .ref (gB g + 151)), (1, .int x1), (2, .int x2), (3, .int x3), (4, .int x4), (5, .int x5)]) (Nat.le_of_ble_eq_true rfl) rfl d_BM_isBlind_30 ?_
      refine a_sub (pc := 32) [3, 4, 5, 6, 8, 2, 1, 0] rfl ?_
      exact h
theorem sg_BM_isBlind_32 {g : Gx} {Q : Int32 → St → Prop} {σ : St} {x1 : Int32} {x2 : Int32} {x3 : Int32} {x5 : Int32} {x6 : Int32} {x7 : Int32} {x8 : Int32}
    (h : (x2 ≤ x8 → S_BM_isBlind_53 g Q σ x1 x2 x3 x5 x6 x7 (0 : Int32)) ∧ (¬ x2 ≤ x8 → ∀ u1 : Int32, u1 = (x7 * (4 : Int32)) → ∀ u2 : Int32, u2 = x8 + (1 : Int32) → S_BM_isBlind_32 g Q σ x1 x2 x3 x5 x6 u1 u2)) : S_BM_isBlind_32 g Q σ x1 x2 x3 x5 x6 x7 x8 := by
  show Ax g m_BM_isBlind 0 0 (ZI g Q) SH σ 0 0 32 [(0, .ref (gB g + 151)), (1, .int x1), (2, .int x2), (3, .int x3), (5, .int x5), (6, .int x6), (7, .int x7), (8, .int x8)] []
  refine a_iload (pc := 32) 7 rfl d_BM_isBlind_32 ?_
  refine a_iload_n (pc := 34) 2 rfl rfl d_BM_isBlind_34 ?_
  refine a_icmp_ge (pc := 35) 50 (by decide) d_BM_isBlind_35 ⟨fun c0 => ?_, fun c0 => ?_⟩
  · replace h := h.1 c0
    refine a_iconst (pc := 50) (0 : Int32) (by decide) d_BM_isBlind_50 ?_
    refine a_istore (pc := 51) (lv' := [(8, .int (0 : Int32)), (0, .ref (gB g + 151)), (1, .int x1), (2, .int x2), (3, .int x3), (5, .int x5), (6, .int x6), (7, .int x7)]) (Nat.le_of_ble_eq_true rfl) rfl d_BM_isBlind_51 ?_
    refine a_sub (pc := 53) [1, 2, 3, 4, 5, 6, 7, 0] rfl ?_
    exact h
  · replace h := h.2 c0
    refine a_iload (pc := 38) 6 rfl d_BM_isBlind_38 ?_
    refine a_iconst (pc := 40) (4 : Int32) (by decide) d_BM_isBlind_40 ?_
    refine a_imul (pc := 41) d_BM_isBlind_41 ?_
    refine a_nmi (pc := 42) (fun u1 hu1 => ?_)
    replace h := h u1 hu1
    refine a_istore (pc := 42) (lv' := [(7, .int u1), (0, .ref (gB g + 151)), (1, .int x1), (2, .int x2), (3, .int x3), (5, .int x5), (6, .int x6), (8, .int x8)]) (Nat.le_of_ble_eq_true rfl) rfl d_BM_isBlind_42 ?_
    obtain ⟨u2, hu2⟩ : ∃ y : Int32, y = x8 + (1 : Int32) := ⟨_, rfl⟩
    replace h := h u2 hu2
    refine a_iinc (pc := 44) (v := u2) (lv' := [(8, .int u2), (7, .int u1), (0, .ref (gB g + 151)), (1, .int x1), (2, .int x2), (3, .int x3), (5, .int x5), (6, .int x6)]) 7 rfl (by rw [hu2]; rfl) (Nat.le_of_ble_eq_true rfl) rfl d_BM_isBlind_44 ?_
    refine a_goto (pc := 47) 32 (by decide) d_BM_isBlind_47 ?_
    refine a_sub (pc := 32) [2, 3, 4, 5, 6, 7, 1, 0] rfl ?_
    exact h
theorem sg_BM_isBlind_53 {g : Gx} {Q : Int32 → St → Prop} {σ : St} {x1 : Int32} {x2 : Int32} {x3 : Int32} {x5 : Int32} {x6 : Int32} {x7 : Int32} {x8 : Int32}
    (h : (x2 ≤ x8 → K_BM_isWhole g x6 σ (fun (r2 : Int32) (s1 : St) => ∀ u3 : Int32, u3 = x5 + (1 : Int32) → S_BM_isBlind_6 g Q s1 x1 x2 x3 r2 u3)) ∧ (¬ x2 ≤ x8 → ¬ x7 = 0 ∧ (vp_in (((4 : Int32) * x6) + ((x1 / x7) - (x1 / x7) / (4 : Int32) * (4 : Int32))) 5776 ∧ (∀ u4 : Int32, u4 = (ai σ 180 ((((4 : Int32) * x6) + ((x1 / x7) - (x1 / x7) / (4 : Int32) * (4 : Int32)))).toNatClampNeg) → ∀ u5 : Int32, u5 = (x7 / (4 : Int32)) → ∀ u6 : Int32, u6 = x8 + (1 : Int32) → S_BM_isBlind_53 g Q σ x1 x2 x3 x5 u4 u5 u6)))) : S_BM_isBlind_53 g Q σ x1 x2 x3 x5 x6 x7 x8 := by
  show Ax g m_BM_isBlind 0 0 (ZI g Q) SH σ 0 0 53 [(0, .ref (gB g + 151)), (1, .int x1), (2, .int x2), (3, .int x3), (5, .int x5), (6, .int x6), (7, .int x7), (8, .int x8)] []
  refine a_iload (pc := 53) 7 rfl d_BM_isBlind_53 ?_
  refine a_iload_n (pc := 55) 2 rfl rfl d_BM_isBlind_55 ?_
  refine a_icmp_ge (pc := 56) 89 (by decide) d_BM_isBlind_56 ⟨fun c0 => ?_, fun c0 => ?_⟩
  · replace h := h.1 c0
    refine a_aload_n (pc := 89) 0 rfl rfl d_BM_isBlind_89 ?_
    refine a_iload (pc := 90) 5 rfl d_BM_isBlind_90 ?_
    refine a_callV (pc := 92) (M' := m_BM_isWhole) (As := [.int x6]) (st := []) (mc' := 0) (ms' := 0) lk_BM_449 rfl sx_151 rfl (by decide) (by decide) rfl (Nat.le_of_ble_eq_true rfl) (Nat.le_refl 0) (Nat.le_refl 0) d_BM_isBlind_92 h ?_
    rintro _ _ s1 ⟨r2, rfl, rfl, h⟩ -
    show Ax g m_BM_isBlind 0 0 (ZI g Q) SH s1 0 0 95 [(0, .ref (gB g + 151)), (1, .int x1), (2, .int x2), (3, .int x3), (5, .int x5), (6, .int x6), (7, .int x7), (8, .int x8)] [.int r2]
    refine a_istore (pc := 95) (lv' := [(4, .int r2), (0, .ref (gB g + 151)), (1, .int x1), (2, .int x2), (3, .int x3), (5, .int x5), (6, .int x6), (7, .int x7), (8, .int x8)]) (Nat.le_of_ble_eq_true rfl) rfl d_BM_isBlind_95 ?_
    obtain ⟨u3, hu3⟩ : ∃ y : Int32, y = x5 + (1 : Int32) := ⟨_, rfl⟩
    replace h := h u3 hu3
    refine a_iinc (pc := 97) (v := u3) (lv' := [(5, .int u3), (4, .int r2), (0, .ref (gB g + 151)), (1, .int x1), (2, .int x2), (3, .int x3), (6, .int x6), (7, .int x7), (8, .int x8)]) 5 rfl (by rw [hu3]; rfl) (Nat.le_of_ble_eq_true rfl) rfl d_BM_isBlind_97 ?_
    refine a_goto (pc := 100) 6 (by decide) d_BM_isBlind_100 ?_
    refine a_sub (pc := 6) [2, 3, 4, 5, 1, 0] rfl ?_
    exact h
  · replace h := h.2 c0
    refine a_aload_n (pc := 59) 0 rfl rfl d_BM_isBlind_59 ?_
    refine a_getR (pc := 60) fg_BM_101 sx_151 rfl d_BM_isBlind_60 ?_
    refine a_iconst (pc := 63) (4 : Int32) (by decide) d_BM_isBlind_63 ?_
    refine a_iload (pc := 64) 5 rfl d_BM_isBlind_64 ?_
    refine a_imul (pc := 66) d_BM_isBlind_66 ?_
    refine a_iload_n (pc := 67) 1 rfl rfl d_BM_isBlind_67 ?_
    refine a_iload (pc := 68) 6 rfl d_BM_isBlind_68 ?_
    obtain ⟨hne, h⟩ := h
    refine a_idiv (pc := 70) hne d_BM_isBlind_70 ?_
    refine a_iconst (pc := 71) (4 : Int32) (by decide) d_BM_isBlind_71 ?_
    refine a_irem (pc := 72) (by decide) d_BM_isBlind_72 ?_
    refine a_iadd (pc := 73) d_BM_isBlind_73 ?_
    obtain ⟨hx, h⟩ := h
    refine a_iald (pc := 74) sx_180 hx d_BM_isBlind_74 ?_
    refine a_nmi (pc := 75) (fun u4 hu4 => ?_)
    replace h := h u4 hu4
    refine a_istore (pc := 75) (lv' := [(6, .int u4), (0, .ref (gB g + 151)), (1, .int x1), (2, .int x2), (3, .int x3), (5, .int x5), (7, .int x7), (8, .int x8)]) (Nat.le_of_ble_eq_true rfl) rfl d_BM_isBlind_75 ?_
    refine a_iload (pc := 77) 6 rfl d_BM_isBlind_77 ?_
    refine a_iconst (pc := 79) (4 : Int32) (by decide) d_BM_isBlind_79 ?_
    refine a_idiv (pc := 80) (by decide) d_BM_isBlind_80 ?_
    refine a_nmi (pc := 81) (fun u5 hu5 => ?_)
    replace h := h u5 hu5
    refine a_istore (pc := 81) (lv' := [(7, .int u5), (6, .int u4), (0, .ref (gB g + 151)), (1, .int x1), (2, .int x2), (3, .int x3), (5, .int x5), (8, .int x8)]) (Nat.le_of_ble_eq_true rfl) rfl d_BM_isBlind_81 ?_
    obtain ⟨u6, hu6⟩ : ∃ y : Int32, y = x8 + (1 : Int32) := ⟨_, rfl⟩
    replace h := h u6 hu6
    refine a_iinc (pc := 83) (v := u6) (lv' := [(8, .int u6), (7, .int u5), (6, .int u4), (0, .ref (gB g + 151)), (1, .int x1), (2, .int x2), (3, .int x3), (5, .int x5)]) 7 rfl (by rw [hu6]; rfl) (Nat.le_of_ble_eq_true rfl) rfl d_BM_isBlind_83 ?_
    refine a_goto (pc := 86) 53 (by decide) d_BM_isBlind_86 ?_
    refine a_sub (pc := 53) [3, 4, 5, 6, 7, 2, 1, 0] rfl ?_
    exact h
theorem ko_BM_isBlind {g : Gx}  {x1 : Int32} {x2 : Int32} {x3 : Int32} {σ : St} {Q : Int32 → St → Prop} (h : S_BM_isBlind_0 g Q σ x1 x2 x3) : K_BM_isBlind g x1 x2 x3 σ Q := KI.of (show plainName "BallBoxModel" = true by decide) (Nat.le_of_ble_eq_true rfl) h
theorem d_BM_findsBlind_0 : decode c_BM_findsBlind 0 = .ok (.aload_n 0, 1) := by decide +kernel
theorem d_BM_findsBlind_1 : decode c_BM_findsBlind 1 = .ok (.getfield 16, 3) := by decide +kernel
theorem d_BM_findsBlind_4 : decode c_BM_findsBlind 4 = .ok (.aload_n 0, 1) := by decide +kernel
theorem d_BM_findsBlind_5 : decode c_BM_findsBlind 5 = .ok (.getfield 98, 3) := by decide +kernel
theorem d_BM_findsBlind_8 : decode c_BM_findsBlind 8 = .ok (.invokestatic 333, 3) := by decide +kernel
theorem d_BM_findsBlind_11 : decode c_BM_findsBlind 11 = .ok (.aload_n 0, 1) := by decide +kernel
theorem d_BM_findsBlind_12 : decode c_BM_findsBlind 12 = .ok (.invokevirtual 452, 3) := by decide +kernel
theorem d_BM_findsBlind_15 : decode c_BM_findsBlind 15 = .ok (.aload_n 0, 1) := by decide +kernel
theorem d_BM_findsBlind_16 : decode c_BM_findsBlind 16 = .ok (.invokevirtual 455, 3) := by decide +kernel
theorem d_BM_findsBlind_19 : decode c_BM_findsBlind 19 = .ok (.istore_n 2, 1) := by decide +kernel
theorem d_BM_findsBlind_20 : decode c_BM_findsBlind 20 = .ok (.aload_n 0, 1) := by decide +kernel
theorem d_BM_findsBlind_21 : decode c_BM_findsBlind 21 = .ok (.getfield 98, 3) := by decide +kernel
theorem d_BM_findsBlind_24 : decode c_BM_findsBlind 24 = .ok (.aload_n 0, 1) := by decide +kernel
theorem d_BM_findsBlind_25 : decode c_BM_findsBlind 25 = .ok (.getfield 16, 3) := by decide +kernel
theorem d_BM_findsBlind_28 : decode c_BM_findsBlind 28 = .ok (.invokestatic 333, 3) := by decide +kernel
theorem d_BM_findsBlind_31 : decode c_BM_findsBlind 31 = .ok (.aload_n 0, 1) := by decide +kernel
theorem d_BM_findsBlind_32 : decode c_BM_findsBlind 32 = .ok (.bipush (-2), 2) := by decide +kernel
theorem d_BM_findsBlind_34 : decode c_BM_findsBlind 34 = .ok (.putfield 458, 3) := by decide +kernel
theorem d_BM_findsBlind_37 : decode c_BM_findsBlind 37 = .ok (.iconst 1, 1) := by decide +kernel
theorem d_BM_findsBlind_38 : decode c_BM_findsBlind 38 = .ok (.istore_n 3, 1) := by decide +kernel
theorem d_BM_findsBlind_39 : decode c_BM_findsBlind 39 = .ok (.iconst 0, 1) := by decide +kernel
theorem d_BM_findsBlind_40 : decode c_BM_findsBlind 40 = .ok (.istore 4, 2) := by decide +kernel
theorem d_BM_findsBlind_42 : decode c_BM_findsBlind 42 = .ok (.iload 4, 2) := by decide +kernel
theorem d_BM_findsBlind_44 : decode c_BM_findsBlind 44 = .ok (.iload_n 1, 1) := by decide +kernel
theorem d_BM_findsBlind_45 : decode c_BM_findsBlind 45 = .ok (.if_icmp .gt 70, 3) := by decide +kernel
theorem d_BM_findsBlind_48 : decode c_BM_findsBlind 48 = .ok (.aload_n 0, 1) := by decide +kernel
theorem d_BM_findsBlind_49 : decode c_BM_findsBlind 49 = .ok (.getfield 458, 3) := by decide +kernel
theorem d_BM_findsBlind_52 : decode c_BM_findsBlind 52 = .ok (.bipush (-2), 2) := by decide +kernel
theorem d_BM_findsBlind_54 : decode c_BM_findsBlind 54 = .ok (.if_icmp .ne 61, 3) := by decide +kernel
theorem d_BM_findsBlind_57 : decode c_BM_findsBlind 57 = .ok (.iconst 0, 1) := by decide +kernel
theorem d_BM_findsBlind_58 : decode c_BM_findsBlind 58 = .ok (.istore 5, 2) := by decide +kernel
theorem d_BM_findsBlind_60 : decode c_BM_findsBlind 60 = .ok (.iload 5, 2) := by decide +kernel
theorem d_BM_findsBlind_62 : decode c_BM_findsBlind 62 = .ok (.iload_n 3, 1) := by decide +kernel
theorem d_BM_findsBlind_63 : decode c_BM_findsBlind 63 = .ok (.if_icmp .ge 42, 3) := by decide +kernel
theorem d_BM_findsBlind_66 : decode c_BM_findsBlind 66 = .ok (.aload_n 0, 1) := by decide +kernel
theorem d_BM_findsBlind_67 : decode c_BM_findsBlind 67 = .ok (.getfield 458, 3) := by decide +kernel
theorem d_BM_findsBlind_70 : decode c_BM_findsBlind 70 = .ok (.bipush (-2), 2) := by decide +kernel
theorem d_BM_findsBlind_72 : decode c_BM_findsBlind 72 = .ok (.if_icmp .ne 33, 3) := by decide +kernel
theorem d_BM_findsBlind_75 : decode c_BM_findsBlind 75 = .ok (.aload_n 0, 1) := by decide +kernel
theorem d_BM_findsBlind_76 : decode c_BM_findsBlind 76 = .ok (.iload 5, 2) := by decide +kernel
theorem d_BM_findsBlind_78 : decode c_BM_findsBlind 78 = .ok (.iload 4, 2) := by decide +kernel
theorem d_BM_findsBlind_80 : decode c_BM_findsBlind 80 = .ok (.iload_n 2, 1) := by decide +kernel
theorem d_BM_findsBlind_81 : decode c_BM_findsBlind 81 = .ok (.invokevirtual 461, 3) := by decide +kernel
theorem d_BM_findsBlind_84 : decode c_BM_findsBlind 84 = .ok (.ifCond .eq 15, 3) := by decide +kernel
theorem d_BM_findsBlind_87 : decode c_BM_findsBlind 87 = .ok (.aload_n 0, 1) := by decide +kernel
theorem d_BM_findsBlind_88 : decode c_BM_findsBlind 88 = .ok (.iload 4, 2) := by decide +kernel
theorem d_BM_findsBlind_90 : decode c_BM_findsBlind 90 = .ok (.putfield 458, 3) := by decide +kernel
theorem d_BM_findsBlind_93 : decode c_BM_findsBlind 93 = .ok (.aload_n 0, 1) := by decide +kernel
theorem d_BM_findsBlind_94 : decode c_BM_findsBlind 94 = .ok (.iload 5, 2) := by decide +kernel
theorem d_BM_findsBlind_96 : decode c_BM_findsBlind 96 = .ok (.putfield 465, 3) := by decide +kernel
theorem d_BM_findsBlind_99 : decode c_BM_findsBlind 99 = .ok (.iinc 5 1, 3) := by decide +kernel
theorem d_BM_findsBlind_102 : decode c_BM_findsBlind 102 = .ok (.goto (-42), 3) := by decide +kernel
theorem d_BM_findsBlind_105 : decode c_BM_findsBlind 105 = .ok (.iload_n 3, 1) := by decide +kernel
theorem d_BM_findsBlind_106 : decode c_BM_findsBlind 106 = .ok (.iconst 4, 1) := by decide +kernel
theorem d_BM_findsBlind_107 : decode c_BM_findsBlind 107 = .ok (.imul, 1) := by decide +kernel
theorem d_BM_findsBlind_108 : decode c_BM_findsBlind 108 = .ok (.istore_n 3, 1) := by decide +kernel
theorem d_BM_findsBlind_109 : decode c_BM_findsBlind 109 = .ok (.iinc 4 1, 3) := by decide +kernel
theorem d_BM_findsBlind_112 : decode c_BM_findsBlind 112 = .ok (.goto (-70), 3) := by decide +kernel
theorem d_BM_findsBlind_115 : decode c_BM_findsBlind 115 = .ok (.return_, 1) := by decide +kernel
def S_BM_findsBlind_0 (g : Gx) (Q : St → Prop) (σ : St) (x1 : Int32) : Prop := Ax g m_BM_findsBlind 0 0 (ZV g Q) SH σ 0 0 0 [(0, .ref (gB g + 151)), (1, .int x1)] []
def S_BM_findsBlind_42 (g : Gx) (Q : St → Prop) (σ : St) (x1 : Int32) (x2 : Int32) (x3 : Int32) (x4 : Int32) : Prop := Ax g m_BM_findsBlind 0 0 (ZV g Q) SH σ 0 0 42 [(0, .ref (gB g + 151)), (1, .int x1), (2, .int x2), (3, .int x3), (4, .int x4)] []
def S_BM_findsBlind_60 (g : Gx) (Q : St → Prop) (σ : St) (x1 : Int32) (x2 : Int32) (x3 : Int32) (x4 : Int32) (x5 : Int32) : Prop := Ax g m_BM_findsBlind 0 0 (ZV g Q) SH σ 0 0 60 [(0, .ref (gB g + 151)), (1, .int x1), (2, .int x2), (3, .int x3), (4, .int x4), (5, .int x5)] []
theorem sg_BM_findsBlind_0 {g : Gx} {Q : St → Prop} {σ : St} {x1 : Int32}
    (h : K_BM_lay g 154 179 σ (fun s1 : St => K_BM_fillsNext g s1 (fun s2 : St => K_BM_fillsBegun g s2 (fun (r4 : Int32) (s3 : St) => K_BM_lay g 179 154 s3 (fun s5 : St => ∀ s6 : St, s6 = sfi s5 151 52 (-2 : Int32) → S_BM_findsBlind_42 g Q s6 x1 r4 (1 : Int32) (0 : Int32)))))) : S_BM_findsBlind_0 g Q σ x1 := by
  show Ax g m_BM_findsBlind 0 0 (ZV g Q) SH σ 0 0 0 [(0, .ref (gB g + 151)), (1, .int x1)] []
  refine a_aload_n (pc := 0) 0 rfl rfl d_BM_findsBlind_0 ?_
  refine a_getR (pc := 1) fg_BM_16 sx_151 rfl d_BM_findsBlind_1 ?_
  refine a_aload_n (pc := 4) 0 rfl rfl d_BM_findsBlind_4 ?_
  refine a_getR (pc := 5) fg_BM_98 sx_151 rfl d_BM_findsBlind_5 ?_
  refine a_callS (pc := 8) (M' := m_BM_lay) (As := [.ref (gB g + 154), .ref (gB g + 179)]) (st := []) (mc' := 0) (ms' := 0) lk_BM_333 rfl (by decide) (by decide) rfl (Nat.le_of_ble_eq_true rfl) (Nat.le_refl 0) (Nat.le_refl 0) d_BM_findsBlind_8 h ?_
  rintro _ _ s1 ⟨rfl, rfl, h⟩ -
  show Ax g m_BM_findsBlind 0 0 (ZV g Q) SH s1 0 0 11 [(0, .ref (gB g + 151)), (1, .int x1)] []
  refine a_aload_n (pc := 11) 0 rfl rfl d_BM_findsBlind_11 ?_
  refine a_callV (pc := 12) (M' := m_BM_fillsNext) (As := []) (st := []) (mc' := 0) (ms' := 0) lk_BM_452 rfl sx_151 rfl (by decide) (by decide) rfl (Nat.le_of_ble_eq_true rfl) (Nat.le_refl 0) (Nat.le_refl 0) d_BM_findsBlind_12 h ?_
  rintro _ _ s2 ⟨rfl, rfl, h⟩ -
  show Ax g m_BM_findsBlind 0 0 (ZV g Q) SH s2 0 0 15 [(0, .ref (gB g + 151)), (1, .int x1)] []
  refine a_aload_n (pc := 15) 0 rfl rfl d_BM_findsBlind_15 ?_
  refine a_callV (pc := 16) (M' := m_BM_fillsBegun) (As := []) (st := []) (mc' := 0) (ms' := 0) lk_BM_455 rfl sx_151 rfl (by decide) (by decide) rfl (Nat.le_of_ble_eq_true rfl) (Nat.le_refl 0) (Nat.le_refl 0) d_BM_findsBlind_16 h ?_
  rintro _ _ s3 ⟨r4, rfl, rfl, h⟩ -
  show Ax g m_BM_findsBlind 0 0 (ZV g Q) SH s3 0 0 19 [(0, .ref (gB g + 151)), (1, .int x1)] [.int r4]
  refine a_istore_n (pc := 19) (lv' := [(2, .int r4), (0, .ref (gB g + 151)), (1, .int x1)]) rfl (Nat.le_of_ble_eq_true rfl) rfl d_BM_findsBlind_19 ?_
  refine a_aload_n (pc := 20) 1 rfl rfl d_BM_findsBlind_20 ?_
  refine a_getR (pc := 21) fg_BM_98 sx_151 rfl d_BM_findsBlind_21 ?_
  refine a_aload_n (pc := 24) 1 rfl rfl d_BM_findsBlind_24 ?_
  refine a_getR (pc := 25) fg_BM_16 sx_151 rfl d_BM_findsBlind_25 ?_
  refine a_callS (pc := 28) (M' := m_BM_lay) (As := [.ref (gB g + 179), .ref (gB g + 154)]) (st := []) (mc' := 0) (ms' := 0) lk_BM_333 rfl (by decide) (by decide) rfl (Nat.le_of_ble_eq_true rfl) (Nat.le_refl 0) (Nat.le_refl 0) d_BM_findsBlind_28 h ?_
  rintro _ _ s5 ⟨rfl, rfl, h⟩ -
  show Ax g m_BM_findsBlind 0 0 (ZV g Q) SH s5 0 0 31 [(2, .int r4), (0, .ref (gB g + 151)), (1, .int x1)] []
  refine a_aload_n (pc := 31) 1 rfl rfl d_BM_findsBlind_31 ?_
  refine a_bipush (pc := 32) (-2 : Int32) (by decide) d_BM_findsBlind_32 ?_
  refine a_putI (pc := 34) fp_BM_458 sx_151 rfl d_BM_findsBlind_34 ?_
  refine a_nms (fun s6 hs6 => ?_)
  replace h := h s6 hs6
  refine a_iconst (pc := 37) (1 : Int32) (by decide) d_BM_findsBlind_37 ?_
  refine a_istore_n (pc := 38) (lv' := [(3, .int (1 : Int32)), (2, .int r4), (0, .ref (gB g + 151)), (1, .int x1)]) rfl (Nat.le_of_ble_eq_true rfl) rfl d_BM_findsBlind_38 ?_
  refine a_iconst (pc := 39) (0 : Int32) (by decide) d_BM_findsBlind_39 ?_
  refine a_istore (pc := 40) (lv' := [(4, .int (0 : Int32)), (3, .int (1 : Int32)), (2, .int r4), (0, .ref (gB g + 151)), (1, .int x1)]) (Nat.le_of_ble_eq_true rfl) rfl d_BM_findsBlind_40 ?_
  refine a_sub (pc := 42) [3, 4, 2, 1, 0] rfl ?_
  exact h
theorem sg_BM_findsBlind_42 {g : Gx} {Q : St → Prop} {σ : St} {x1 : Int32} {x2 : Int32} {x3 : Int32} {x4 : Int32}
    (h : (x1 < x4 → Q σ) ∧ (¬ x1 < x4 → (¬ (fi σ 151 52) = (-2 : Int32) → Q σ) ∧ ((fi σ 151 52) = (-2 : Int32) → S_BM_findsBlind_60 g Q σ x1 x2 x3 x4 (0 : Int32)))) : S_BM_findsBlind_42 g Q σ x1 x2 x3 x4 := by
  show Ax g m_BM_findsBlind 0 0 (ZV g Q) SH σ 0 0 42 [(0, .ref (gB g + 151)), (1, .int x1), (2, .int x2), (3, .int x3), (4, .int x4)] []
  refine a_iload (pc := 42) 4 rfl d_BM_findsBlind_42 ?_
  refine a_iload_n (pc := 44) 1 rfl rfl d_BM_findsBlind_44 ?_
  refine a_icmp_gt (pc := 45) 115 (by decide) d_BM_findsBlind_45 ⟨fun c0 => ?_, fun c0 => ?_⟩
  · replace h := h.1 c0
    exact b_vret (pc := 115) rfl d_BM_findsBlind_115 h
  · replace h := h.2 c0
    refine a_aload_n (pc := 48) 0 rfl rfl d_BM_findsBlind_48 ?_
    refine a_getI (pc := 49) fg_BM_458 sx_151 rfl d_BM_findsBlind_49 ?_
    refine a_bipush (pc := 52) (-2 : Int32) (by decide) d_BM_findsBlind_52 ?_
    refine a_icmp_ne (pc := 54) 115 (by decide) d_BM_findsBlind_54 ⟨fun c0 => ?_, fun c0 => ?_⟩
    · replace h := h.1 c0
      exact b_vret (pc := 115) rfl d_BM_findsBlind_115 h
    · replace h := h.2 c0
      refine a_iconst (pc := 57) (0 : Int32) (by decide) d_BM_findsBlind_57 ?_
      refine a_istore (pc := 58) (lv' := [(5, .int (0 : Int32)), (0, .ref (gB g + 151)), (1, .int x1), (2, .int x2), (3, .int x3), (4, .int x4)]) (Nat.le_of_ble_eq_true rfl) rfl d_BM_findsBlind_58 ?_
      refine a_sub (pc := 60) [1, 2, 3, 4, 5, 0] rfl ?_
      exact h
theorem sg_BM_findsBlind_60 {g : Gx} {Q : St → Prop} {σ : St} {x1 : Int32} {x2 : Int32} {x3 : Int32} {x4 : Int32} {x5 : Int32}
    (h : (x3 ≤ x5 → ∀ u1 : Int32, u1 = (x3 * (4 : Int32)) → ∀ u2 : Int32, u2 = x4 + (1 : Int32) → S_BM_findsBlind_42 g Q σ x1 x2 u1 u2) ∧ (¬ x3 ≤ x5 → (¬ (fi σ 151 52) = (-2 : Int32) → ∀ u3 : Int32, u3 = (x3 * (4 : Int32)) → ∀ u4 : Int32, u4 = x4 + (1 : Int32) → S_BM_findsBlind_42 g Q σ x1 x2 u3 u4) ∧ ((fi σ 151 52) = (-2 : Int32) → K_BM_isBlind g x5 x4 x2 σ (fun (r6 : Int32) (s5 : St) => (r6 = 0 → ∀ u7 : Int32, u7 = x5 + (1 : Int32) → S_BM_findsBlind_60 g Q s5 x1 x2 x3 x4 u7) ∧ (¬ r6 = 0 → ∀ s8 : St, s8 = sfi s5 151 52 x4 → ∀ s9 : St, s9 = sfi s8 151 53 x5 → ∀ u10 : Int32, u10 = x5 + (1 : Int32) → S_BM_findsBlind_60 g Q s9 x1 x2 x3 x4 u10))))) : S_BM_findsBlind_60 g Q σ x1 x2 x3 x4 x5 := by
  show Ax g m_BM_findsBlind 0 0 (ZV g Q) SH σ 0 0 60 [(0, .ref (gB g + 151)), (1, .int x1), (2, .int x2), (3, .int x3), (4, .int x4), (5, .int x5)] []
  refine a_iload (pc := 60) 5 rfl d_BM_findsBlind_60 ?_
  refine a_iload_n (pc := 62) 3 rfl rfl d_BM_findsBlind_62 ?_
  refine a_icmp_ge (pc := 63) 105 (by decide) d_BM_findsBlind_63 ⟨fun c0 => ?_, fun c0 => ?_⟩
  · replace h := h.1 c0
    refine a_iload_n (pc := 105) 3 rfl rfl d_BM_findsBlind_105 ?_
    refine a_iconst (pc := 106) (4 : Int32) (by decide) d_BM_findsBlind_106 ?_
    refine a_imul (pc := 107) d_BM_findsBlind_107 ?_
    refine a_nmi (pc := 108) (fun u1 hu1 => ?_)
    replace h := h u1 hu1
    refine a_istore_n (pc := 108) (lv' := [(3, .int u1), (0, .ref (gB g + 151)), (1, .int x1), (2, .int x2), (4, .int x4), (5, .int x5)]) rfl (Nat.le_of_ble_eq_true rfl) rfl d_BM_findsBlind_108 ?_
    obtain ⟨u2, hu2⟩ : ∃ y : Int32, y = x4 + (1 : Int32) := ⟨_, rfl⟩
    replace h := h u2 hu2
    refine a_iinc (pc := 109) (v := u2) (lv' := [(4, .int u2), (3, .int u1), (0, .ref (gB g + 151)), (1, .int x1), (2, .int x2), (5, .int x5)]) 4 rfl (by rw [hu2]; rfl) (Nat.le_of_ble_eq_true rfl) rfl d_BM_findsBlind_109 ?_
    refine a_goto (pc := 112) 42 (by decide) d_BM_findsBlind_112 ?_
    refine a_sub (pc := 42) [2, 3, 4, 1, 0] rfl ?_
    exact h
  · replace h := h.2 c0
    refine a_aload_n (pc := 66) 0 rfl rfl d_BM_findsBlind_66 ?_
    refine a_getI (pc := 67) fg_BM_458 sx_151 rfl d_BM_findsBlind_67 ?_
    refine a_bipush (pc := 70) (-2 : Int32) (by decide) d_BM_findsBlind_70 ?_
    refine a_icmp_ne (pc := 72) 105 (by decide) d_BM_findsBlind_72 ⟨fun c0 => ?_, fun c0 => ?_⟩
    · replace h := h.1 c0
      refine a_iload_n (pc := 105) 3 rfl rfl d_BM_findsBlind_105 ?_
      refine a_iconst (pc := 106) (4 : Int32) (by decide) d_BM_findsBlind_106 ?_
      refine a_imul (pc := 107) d_BM_findsBlind_107 ?_
      refine a_nmi (pc := 108) (fun u3 hu3 => ?_)
      replace h := h u3 hu3
      refine a_istore_n (pc := 108) (lv' := [(3, .int u3), (0, .ref (gB g + 151)), (1, .int x1), (2, .int x2), (4, .int x4), (5, .int x5)]) rfl (Nat.le_of_ble_eq_true rfl) rfl d_BM_findsBlind_108 ?_
      obtain ⟨u4, hu4⟩ : ∃ y : Int32, y = x4 + (1 : Int32) := ⟨_, rfl⟩
      replace h := h u4 hu4
      refine a_iinc (pc := 109) (v := u4) (lv' := [(4, .int u4), (3, .int u3), (0, .ref (gB g + 151)), (1, .int x1), (2, .int x2), (5, .int x5)]) 4 rfl (by rw [hu4]; rfl) (Nat.le_of_ble_eq_true rfl) rfl d_BM_findsBlind_109 ?_
      refine a_goto (pc := 112) 42 (by decide) d_BM_findsBlind_112 ?_
      refine a_sub (pc := 42) [2, 3, 4, 1, 0] rfl ?_
      exact h
    · replace h := h.2 c0
      refine a_aload_n (pc := 75) 0 rfl rfl d_BM_findsBlind_75 ?_
      refine a_iload (pc := 76) 5 rfl d_BM_findsBlind_76 ?_
      refine a_iload (pc := 78) 4 rfl d_BM_findsBlind_78 ?_
      refine a_iload_n (pc := 80) 2 rfl rfl d_BM_findsBlind_80 ?_
      refine a_callV (pc := 81) (M' := m_BM_isBlind) (As := [.int x5, .int x4, .int x2]) (st := []) (mc' := 0) (ms' := 0) lk_BM_461 rfl sx_151 rfl (by decide) (by decide) rfl (Nat.le_of_ble_eq_true rfl) (Nat.le_refl 0) (Nat.le_refl 0) d_BM_findsBlind_81 h ?_
      rintro _ _ s5 ⟨r6, rfl, rfl, h⟩ -
      show Ax g m_BM_findsBlind 0 0 (ZV g Q) SH s5 0 0 84 [(0, .ref (gB g + 151)), (1, .int x1), (2, .int x2), (3, .int x3), (4, .int x4), (5, .int x5)] [.int r6]
      refine a_if_eq (pc := 84) 99 (by decide) d_BM_findsBlind_84 ⟨fun c0 => ?_, fun c0 => ?_⟩
      · replace h := h.1 c0
        obtain ⟨u7, hu7⟩ : ∃ y : Int32, y = x5 + (1 : Int32) := ⟨_, rfl⟩
        replace h := h u7 hu7
        refine a_iinc (pc := 99) (v := u7) (lv' := [(5, .int u7), (0, .ref (gB g + 151)), (1, .int x1), (2, .int x2), (3, .int x3), (4, .int x4)]) 5 rfl (by rw [hu7]; rfl) (Nat.le_of_ble_eq_true rfl) rfl d_BM_findsBlind_99 ?_
        refine a_goto (pc := 102) 60 (by decide) d_BM_findsBlind_102 ?_
        refine a_sub (pc := 60) [1, 2, 3, 4, 5, 0] rfl ?_
        exact h
      · replace h := h.2 c0
        refine a_aload_n (pc := 87) 0 rfl rfl d_BM_findsBlind_87 ?_
        refine a_iload (pc := 88) 4 rfl d_BM_findsBlind_88 ?_
        refine a_putI (pc := 90) fp_BM_458 sx_151 rfl d_BM_findsBlind_90 ?_
        refine a_nms (fun s8 hs8 => ?_)
        replace h := h s8 hs8
        refine a_aload_n (pc := 93) 0 rfl rfl d_BM_findsBlind_93 ?_
        refine a_iload (pc := 94) 5 rfl d_BM_findsBlind_94 ?_
        refine a_putI (pc := 96) fp_BM_465 sx_151 rfl d_BM_findsBlind_96 ?_
        refine a_nms (fun s9 hs9 => ?_)
        replace h := h s9 hs9
        obtain ⟨u10, hu10⟩ : ∃ y : Int32, y = x5 + (1 : Int32) := ⟨_, rfl⟩
        replace h := h u10 hu10
        refine a_iinc (pc := 99) (v := u10) (lv' := [(5, .int u10), (0, .ref (gB g + 151)), (1, .int x1), (2, .int x2), (3, .int x3), (4, .int x4)]) 5 rfl (by rw [hu10]; rfl) (Nat.le_of_ble_eq_true rfl) rfl d_BM_findsBlind_99 ?_
        refine a_goto (pc := 102) 60 (by decide) d_BM_findsBlind_102 ?_
        refine a_sub (pc := 60) [1, 2, 3, 4, 5, 0] rfl ?_
        exact h
theorem ko_BM_findsBlind {g : Gx}  {x1 : Int32} {σ : St} {Q : St → Prop} (h : S_BM_findsBlind_0 g Q σ x1) : K_BM_findsBlind g x1 σ Q := KV.of (show plainName "BallBoxModel" = true by decide) (Nat.le_of_ble_eq_true rfl) h
theorem d_BM_blind_0 : decode c_BM_blind 0 = .ok (.aload_n 0, 1) := by decide +kernel
theorem d_BM_blind_1 : decode c_BM_blind 1 = .ok (.invokevirtual 391, 3) := by decide +kernel
theorem d_BM_blind_4 : decode c_BM_blind 4 = .ok (.ifCond .eq 37, 3) := by decide +kernel
theorem d_BM_blind_7 : decode c_BM_blind 7 = .ok (.aload_n 0, 1) := by decide +kernel
theorem d_BM_blind_8 : decode c_BM_blind 8 = .ok (.getfield 9, 3) := by decide +kernel
theorem d_BM_blind_11 : decode c_BM_blind 11 = .ok (.iconst 2, 1) := by decide +kernel
theorem d_BM_blind_12 : decode c_BM_blind 12 = .ok (.iaload, 1) := by decide +kernel
theorem d_BM_blind_13 : decode c_BM_blind 13 = .ok (.iconst 2, 1) := by decide +kernel
theorem d_BM_blind_14 : decode c_BM_blind 14 = .ok (.if_icmp .gt 27, 3) := by decide +kernel
theorem d_BM_blind_17 : decode c_BM_blind 17 = .ok (.iload_n 1, 1) := by decide +kernel
theorem d_BM_blind_18 : decode c_BM_blind 18 = .ok (.i2l, 1) := by decide +kernel
theorem d_BM_blind_19 : decode c_BM_blind 19 = .ok (.lconst 0, 1) := by decide +kernel
theorem d_BM_blind_20 : decode c_BM_blind 20 = .ok (.ldc2_w 468, 3) := by decide +kernel
theorem d_BM_blind_23 : decode c_BM_blind 23 = .ok (.invokestatic 162, 3) := by decide +kernel
theorem d_BM_blind_26 : decode c_BM_blind 26 = .ok (.ifCond .eq 15, 3) := by decide +kernel
theorem d_BM_blind_29 : decode c_BM_blind 29 = .ok (.iload_n 2, 1) := by decide +kernel
theorem d_BM_blind_30 : decode c_BM_blind 30 = .ok (.i2l, 1) := by decide +kernel
theorem d_BM_blind_31 : decode c_BM_blind 31 = .ok (.lconst 0, 1) := by decide +kernel
theorem d_BM_blind_32 : decode c_BM_blind 32 = .ok (.ldc2_w 468, 3) := by decide +kernel
theorem d_BM_blind_35 : decode c_BM_blind 35 = .ok (.invokestatic 162, 3) := by decide +kernel
theorem d_BM_blind_38 : decode c_BM_blind 38 = .ok (.ifCond .ne 5, 3) := by decide +kernel
theorem d_BM_blind_41 : decode c_BM_blind 41 = .ok (.iconst (-1), 1) := by decide +kernel
theorem d_BM_blind_42 : decode c_BM_blind 42 = .ok (.ireturn, 1) := by decide +kernel
theorem d_BM_blind_43 : decode c_BM_blind 43 = .ok (.aload_n 0, 1) := by decide +kernel
theorem d_BM_blind_44 : decode c_BM_blind 44 = .ok (.iload_n 1, 1) := by decide +kernel
theorem d_BM_blind_45 : decode c_BM_blind 45 = .ok (.invokevirtual 470, 3) := by decide +kernel
theorem d_BM_blind_48 : decode c_BM_blind 48 = .ok (.aload_n 0, 1) := by decide +kernel
theorem d_BM_blind_49 : decode c_BM_blind 49 = .ok (.getfield 458, 3) := by decide +kernel
theorem d_BM_blind_52 : decode c_BM_blind 52 = .ok (.bipush (-2), 2) := by decide +kernel
theorem d_BM_blind_54 : decode c_BM_blind 54 = .ok (.if_icmp .eq 7, 3) := by decide +kernel
theorem d_BM_blind_57 : decode c_BM_blind 57 = .ok (.iload_n 2, 1) := by decide +kernel
theorem d_BM_blind_58 : decode c_BM_blind 58 = .ok (.ifCond .ne 8, 3) := by decide +kernel
theorem d_BM_blind_61 : decode c_BM_blind 61 = .ok (.aload_n 0, 1) := by decide +kernel
theorem d_BM_blind_62 : decode c_BM_blind 62 = .ok (.getfield 458, 3) := by decide +kernel
theorem d_BM_blind_65 : decode c_BM_blind 65 = .ok (.ireturn, 1) := by decide +kernel
theorem d_BM_blind_66 : decode c_BM_blind 66 = .ok (.iload_n 2, 1) := by decide +kernel
theorem d_BM_blind_67 : decode c_BM_blind 67 = .ok (.aload_n 0, 1) := by decide +kernel
theorem d_BM_blind_68 : decode c_BM_blind 68 = .ok (.getfield 458, 3) := by decide +kernel
theorem d_BM_blind_71 : decode c_BM_blind 71 = .ok (.if_icmp .le 6, 3) := by decide +kernel
theorem d_BM_blind_74 : decode c_BM_blind 74 = .ok (.bipush (-2), 2) := by decide +kernel
theorem d_BM_blind_76 : decode c_BM_blind 76 = .ok (.ireturn, 1) := by decide +kernel
theorem d_BM_blind_77 : decode c_BM_blind 77 = .ok (.aload_n 0, 1) := by decide +kernel
theorem d_BM_blind_78 : decode c_BM_blind 78 = .ok (.getfield 465, 3) := by decide +kernel
theorem d_BM_blind_81 : decode c_BM_blind 81 = .ok (.istore_n 3, 1) := by decide +kernel
theorem d_BM_blind_82 : decode c_BM_blind 82 = .ok (.aload_n 0, 1) := by decide +kernel
theorem d_BM_blind_83 : decode c_BM_blind 83 = .ok (.getfield 458, 3) := by decide +kernel
theorem d_BM_blind_86 : decode c_BM_blind 86 = .ok (.istore 4, 2) := by decide +kernel
theorem d_BM_blind_88 : decode c_BM_blind 88 = .ok (.iload 4, 2) := by decide +kernel
theorem d_BM_blind_90 : decode c_BM_blind 90 = .ok (.iload_n 2, 1) := by decide +kernel
theorem d_BM_blind_91 : decode c_BM_blind 91 = .ok (.if_icmp .le 13, 3) := by decide +kernel
theorem d_BM_blind_94 : decode c_BM_blind 94 = .ok (.iload_n 3, 1) := by decide +kernel
theorem d_BM_blind_95 : decode c_BM_blind 95 = .ok (.iconst 4, 1) := by decide +kernel
theorem d_BM_blind_96 : decode c_BM_blind 96 = .ok (.idiv, 1) := by decide +kernel
theorem d_BM_blind_97 : decode c_BM_blind 97 = .ok (.istore_n 3, 1) := by decide +kernel
theorem d_BM_blind_98 : decode c_BM_blind 98 = .ok (.iinc 4 (-1), 3) := by decide +kernel
theorem d_BM_blind_101 : decode c_BM_blind 101 = .ok (.goto (-13), 3) := by decide +kernel
theorem d_BM_blind_104 : decode c_BM_blind 104 = .ok (.iload_n 3, 1) := by decide +kernel
theorem d_BM_blind_105 : decode c_BM_blind 105 = .ok (.iconst 4, 1) := by decide +kernel
theorem d_BM_blind_106 : decode c_BM_blind 106 = .ok (.irem, 1) := by decide +kernel
theorem d_BM_blind_107 : decode c_BM_blind 107 = .ok (.ireturn, 1) := by decide +kernel
def S_BM_blind_0 (g : Gx) (Q : Int32 → St → Prop) (σ : St) (x1 : Int32) (x2 : Int32) : Prop := Ax g m_BM_blind 0 0 (ZI g Q) SH σ 0 0 0 [(0, .ref (gB g + 151)), (1, .int x1), (2, .int x2)] []
def S_BM_blind_88 (g : Gx) (Q : Int32 → St → Prop) (σ : St) (x2 : Int32) (x3 : Int32) (x4 : Int32) : Prop := Ax g m_BM_blind 0 0 (ZI g Q) SH σ 0 0 88 [(2, .int x2), (3, .int x3), (4, .int x4)] []
theorem sg_BM_blind_0 {g : Gx} {Q : Int32 → St → Prop} {σ : St} {x1 : Int32} {x2 : Int32}
    (h : K_BM_isBox g σ (fun (r2 : Int32) (s1 : St) => (r2 = 0 → Q (-1 : Int32) s1) ∧ (¬ r2 = 0 → vp_in (2 : Int32) 8 ∧ (((2 : Int32) < (ai s1 152 ((2 : Int32)).toNatClampNeg) → Q (-1 : Int32) s1) ∧ (¬ (2 : Int32) < (ai s1 152 ((2 : Int32)).toNatClampNeg) → K_BM_in g ((x1).toInt64) (0 : Int64) (6 : Int64) s1 (fun (r4 : Int32) (s3 : St) => (r4 = 0 → Q (-1 : Int32) s3) ∧ (¬ r4 = 0 → K_BM_in g ((x2).toInt64) (0 : Int64) (6 : Int64) s3 (fun (r6 : Int32) (s5 : St) => (¬ r6 = 0 → K_BM_findsBlind g x1 s5 (fun s7 : St => ((fi s7 151 52) = (-2 : Int32) → Q (fi s7 151 52) s7) ∧ (¬ (fi s7 151 52) = (-2 : Int32) → (¬ x2 = 0 → (x2 ≤ (fi s7 151 52) → ∀ u8 : Int32, u8 = (fi s7 151 53) → ∀ u9 : Int32, u9 = (fi s7 151 52) → S_BM_blind_88 g Q s7 x2 u8 u9) ∧ (¬ x2 ≤ (fi s7 151 52) → Q (-2 : Int32) s7)) ∧ (x2 = 0 → Q (fi s7 151 52) s7)))) ∧ (r6 = 0 → Q (-1 : Int32) s5))))))))) : S_BM_blind_0 g Q σ x1 x2 := by
  show Ax g m_BM_blind 0 0 (ZI g Q) SH σ 0 0 0 [(0, .ref (gB g + 151)), (1, .int x1), (2, .int x2)] []
  refine a_aload_n (pc := 0) 0 rfl rfl d_BM_blind_0 ?_
  refine a_callV (pc := 1) (M' := m_BM_isBox) (As := []) (st := []) (mc' := 0) (ms' := 0) lk_BM_391 rfl sx_151 rfl (by decide) (by decide) rfl (Nat.le_of_ble_eq_true rfl) (Nat.le_refl 0) (Nat.le_refl 0) d_BM_blind_1 h ?_
  rintro _ _ s1 ⟨r2, rfl, rfl, h⟩ -
  show Ax g m_BM_blind 0 0 (ZI g Q) SH s1 0 0 4 [(0, .ref (gB g + 151)), (1, .int x1), (2, .int x2)] [.int r2]
  refine a_if_eq (pc := 4) 41 (by decide) d_BM_blind_4 ⟨fun c0 => ?_, fun c0 => ?_⟩
  · replace h := h.1 c0
    refine a_iconst (pc := 41) (-1 : Int32) (by decide) d_BM_blind_41 ?_
    exact b_iret (pc := 42) rfl d_BM_blind_42 h
  · replace h := h.2 c0
    refine a_aload_n (pc := 7) 0 rfl rfl d_BM_blind_7 ?_
    refine a_getR (pc := 8) fg_BM_9 sx_151 rfl d_BM_blind_8 ?_
    refine a_iconst (pc := 11) (2 : Int32) (by decide) d_BM_blind_11 ?_
    obtain ⟨hx, h⟩ := h
    refine a_iald (pc := 12) sx_152 hx d_BM_blind_12 ?_
    refine a_iconst (pc := 13) (2 : Int32) (by decide) d_BM_blind_13 ?_
    refine a_icmp_gt (pc := 14) 41 (by decide) d_BM_blind_14 ⟨fun c0 => ?_, fun c0 => ?_⟩
    · replace h := h.1 c0
      refine a_iconst (pc := 41) (-1 : Int32) (by decide) d_BM_blind_41 ?_
      exact b_iret (pc := 42) rfl d_BM_blind_42 h
    · replace h := h.2 c0
      refine a_iload_n (pc := 17) 1 rfl rfl d_BM_blind_17 ?_
      refine a_i2l (pc := 18) d_BM_blind_18 ?_
      refine a_lconst (pc := 19) (0 : Int64) (by decide) d_BM_blind_19 ?_
      refine a_ldc2 (pc := 20) tw1782 d_BM_blind_20 ?_
      refine a_callS (pc := 23) (M' := m_BM_in) (As := [.long ((x1).toInt64), .long (0 : Int64), .long (6 : Int64)]) (st := []) (mc' := 0) (ms' := 0) lk_BM_162 rfl (by decide) (by decide) rfl (Nat.le_of_ble_eq_true rfl) (Nat.le_refl 0) (Nat.le_refl 0) d_BM_blind_23 h ?_
      rintro _ _ s3 ⟨r4, rfl, rfl, h⟩ -
      show Ax g m_BM_blind 0 0 (ZI g Q) SH s3 0 0 26 [(0, .ref (gB g + 151)), (1, .int x1), (2, .int x2)] [.int r4]
      refine a_if_eq (pc := 26) 41 (by decide) d_BM_blind_26 ⟨fun c0 => ?_, fun c0 => ?_⟩
      · replace h := h.1 c0
        refine a_iconst (pc := 41) (-1 : Int32) (by decide) d_BM_blind_41 ?_
        exact b_iret (pc := 42) rfl d_BM_blind_42 h
      · replace h := h.2 c0
        refine a_iload_n (pc := 29) 2 rfl rfl d_BM_blind_29 ?_
        refine a_i2l (pc := 30) d_BM_blind_30 ?_
        refine a_lconst (pc := 31) (0 : Int64) (by decide) d_BM_blind_31 ?_
        refine a_ldc2 (pc := 32) tw1782 d_BM_blind_32 ?_
        refine a_callS (pc := 35) (M' := m_BM_in) (As := [.long ((x2).toInt64), .long (0 : Int64), .long (6 : Int64)]) (st := []) (mc' := 0) (ms' := 0) lk_BM_162 rfl (by decide) (by decide) rfl (Nat.le_of_ble_eq_true rfl) (Nat.le_refl 0) (Nat.le_refl 0) d_BM_blind_35 h ?_
        rintro _ _ s5 ⟨r6, rfl, rfl, h⟩ -
        show Ax g m_BM_blind 0 0 (ZI g Q) SH s5 0 0 38 [(0, .ref (gB g + 151)), (1, .int x1), (2, .int x2)] [.int r6]
        refine a_if_ne (pc := 38) 43 (by decide) d_BM_blind_38 ⟨fun c0 => ?_, fun c0 => ?_⟩
        · replace h := h.1 c0
          refine a_aload_n (pc := 43) 0 rfl rfl d_BM_blind_43 ?_
          refine a_iload_n (pc := 44) 1 rfl rfl d_BM_blind_44 ?_
          refine a_callV (pc := 45) (M' := m_BM_findsBlind) (As := [.int x1]) (st := []) (mc' := 0) (ms' := 0) lk_BM_470 rfl sx_151 rfl (by decide) (by decide) rfl (Nat.le_of_ble_eq_true rfl) (Nat.le_refl 0) (Nat.le_refl 0) d_BM_blind_45 h ?_
          rintro _ _ s7 ⟨rfl, rfl, h⟩ -
          show Ax g m_BM_blind 0 0 (ZI g Q) SH s7 0 0 48 [(0, .ref (gB g + 151)), (1, .int x1), (2, .int x2)] []
          refine a_aload_n (pc := 48) 0 rfl rfl d_BM_blind_48 ?_
          refine a_getI (pc := 49) fg_BM_458 sx_151 rfl d_BM_blind_49 ?_
          refine a_bipush (pc := 52) (-2 : Int32) (by decide) d_BM_blind_52 ?_
          refine a_icmp_eq (pc := 54) 61 (by decide) d_BM_blind_54 ⟨fun c0 => ?_, fun c0 => ?_⟩
          · replace h := h.1 c0
            refine a_aload_n (pc := 61) 0 rfl rfl d_BM_blind_61 ?_
            refine a_getI (pc := 62) fg_BM_458 sx_151 rfl d_BM_blind_62 ?_
            exact b_iret (pc := 65) rfl d_BM_blind_65 h
          · replace h := h.2 c0
            refine a_iload_n (pc := 57) 2 rfl rfl d_BM_blind_57 ?_
            refine a_if_ne (pc := 58) 66 (by decide) d_BM_blind_58 ⟨fun c0 => ?_, fun c0 => ?_⟩
            · replace h := h.1 c0
              refine a_iload_n (pc := 66) 2 rfl rfl d_BM_blind_66 ?_
              refine a_aload_n (pc := 67) 0 rfl rfl d_BM_blind_67 ?_
              refine a_getI (pc := 68) fg_BM_458 sx_151 rfl d_BM_blind_68 ?_
              refine a_icmp_le (pc := 71) 77 (by decide) d_BM_blind_71 ⟨fun c0 => ?_, fun c0 => ?_⟩
              · replace h := h.1 c0
                refine a_aload_n (pc := 77) 0 rfl rfl d_BM_blind_77 ?_
                refine a_getI (pc := 78) fg_BM_465 sx_151 rfl d_BM_blind_78 ?_
                refine a_nmi (pc := 81) (fun u8 hu8 => ?_)
                replace h := h u8 hu8
                refine a_istore_n (pc := 81) (lv' := [(3, .int u8), (0, .ref (gB g + 151)), (1, .int x1), (2, .int x2)]) rfl (Nat.le_of_ble_eq_true rfl) rfl d_BM_blind_81 ?_
                refine a_aload_n (pc := 82) 1 rfl rfl d_BM_blind_82 ?_
                refine a_getI (pc := 83) fg_BM_458 sx_151 rfl d_BM_blind_83 ?_
                refine a_nmi (pc := 86) (fun u9 hu9 => ?_)
                replace h := h u9 hu9
                refine a_istore (pc := 86) (lv' := [(4, .int u9), (3, .int u8), (0, .ref (gB g + 151)), (1, .int x1), (2, .int x2)]) (Nat.le_of_ble_eq_true rfl) rfl d_BM_blind_86 ?_
                refine a_sub (pc := 88) [4, 1, 0] rfl ?_
                exact h
              · replace h := h.2 c0
                refine a_bipush (pc := 74) (-2 : Int32) (by decide) d_BM_blind_74 ?_
                exact b_iret (pc := 76) rfl d_BM_blind_76 h
            · replace h := h.2 c0
              refine a_aload_n (pc := 61) 0 rfl rfl d_BM_blind_61 ?_
              refine a_getI (pc := 62) fg_BM_458 sx_151 rfl d_BM_blind_62 ?_
              exact b_iret (pc := 65) rfl d_BM_blind_65 h
        · replace h := h.2 c0
          refine a_iconst (pc := 41) (-1 : Int32) (by decide) d_BM_blind_41 ?_
          exact b_iret (pc := 42) rfl d_BM_blind_42 h
theorem sg_BM_blind_88 {g : Gx} {Q : Int32 → St → Prop} {σ : St} {x2 : Int32} {x3 : Int32} {x4 : Int32}
    (h : (x4 ≤ x2 → Q (x3 - x3 / (4 : Int32) * (4 : Int32)) σ) ∧ (¬ x4 ≤ x2 → ∀ u1 : Int32, u1 = (x3 / (4 : Int32)) → ∀ u2 : Int32, u2 = x4 + (-1 : Int32) → S_BM_blind_88 g Q σ x2 u1 u2)) : S_BM_blind_88 g Q σ x2 x3 x4 := by
  show Ax g m_BM_blind 0 0 (ZI g Q) SH σ 0 0 88 [(2, .int x2), (3, .int x3), (4, .int x4)] []
  refine a_iload (pc := 88) 2 rfl d_BM_blind_88 ?_
  refine a_iload_n (pc := 90) 0 rfl rfl d_BM_blind_90 ?_
  refine a_icmp_le (pc := 91) 104 (by decide) d_BM_blind_91 ⟨fun c0 => ?_, fun c0 => ?_⟩
  · replace h := h.1 c0
    refine a_iload_n (pc := 104) 1 rfl rfl d_BM_blind_104 ?_
    refine a_iconst (pc := 105) (4 : Int32) (by decide) d_BM_blind_105 ?_
    refine a_irem (pc := 106) (by decide) d_BM_blind_106 ?_
    exact b_iret (pc := 107) rfl d_BM_blind_107 h
  · replace h := h.2 c0
    refine a_iload_n (pc := 94) 1 rfl rfl d_BM_blind_94 ?_
    refine a_iconst (pc := 95) (4 : Int32) (by decide) d_BM_blind_95 ?_
    refine a_idiv (pc := 96) (by decide) d_BM_blind_96 ?_
    refine a_nmi (pc := 97) (fun u1 hu1 => ?_)
    replace h := h u1 hu1
    refine a_istore_n (pc := 97) (lv' := [(3, .int u1), (2, .int x2), (4, .int x4)]) rfl (Nat.le_of_ble_eq_true rfl) rfl d_BM_blind_97 ?_
    obtain ⟨u2, hu2⟩ : ∃ y : Int32, y = x4 + (-1 : Int32) := ⟨_, rfl⟩
    replace h := h u2 hu2
    refine a_iinc (pc := 98) (v := u2) (lv' := [(4, .int u2), (3, .int u1), (2, .int x2)]) 2 rfl (by rw [hu2]; rfl) (Nat.le_of_ble_eq_true rfl) rfl d_BM_blind_98 ?_
    refine a_goto (pc := 101) 88 (by decide) d_BM_blind_101 ?_
    refine a_sub (pc := 88) [2, 1, 0] rfl ?_
    exact h
theorem ko_BM_blind {g : Gx}  {x1 : Int32} {x2 : Int32} {σ : St} {Q : Int32 → St → Prop} (h : S_BM_blind_0 g Q σ x1 x2) : K_BM_blind g x1 x2 σ Q := KI.of (show plainName "BallBoxModel" = true by decide) (Nat.le_of_ble_eq_true rfl) h
theorem d_BM_findsChipped_0 : decode c_BM_findsChipped 0 = .ok (.aload_n 0, 1) := by decide +kernel
theorem d_BM_findsChipped_1 : decode c_BM_findsChipped 1 = .ok (.bipush (-2), 2) := by decide +kernel
theorem d_BM_findsChipped_3 : decode c_BM_findsChipped 3 = .ok (.putfield 473, 3) := by decide +kernel
theorem d_BM_findsChipped_6 : decode c_BM_findsChipped 6 = .ok (.aload_n 0, 1) := by decide +kernel
theorem d_BM_findsChipped_7 : decode c_BM_findsChipped 7 = .ok (.bipush (-2), 2) := by decide +kernel
theorem d_BM_findsChipped_9 : decode c_BM_findsChipped 9 = .ok (.putfield 476, 3) := by decide +kernel
theorem d_BM_findsChipped_12 : decode c_BM_findsChipped 12 = .ok (.iconst 0, 1) := by decide +kernel
theorem d_BM_findsChipped_13 : decode c_BM_findsChipped 13 = .ok (.istore_n 1, 1) := by decide +kernel
theorem d_BM_findsChipped_14 : decode c_BM_findsChipped 14 = .ok (.iload_n 1, 1) := by decide +kernel
theorem d_BM_findsChipped_15 : decode c_BM_findsChipped 15 = .ok (.bipush 36, 2) := by decide +kernel
theorem d_BM_findsChipped_17 : decode c_BM_findsChipped 17 = .ok (.if_icmp .ge 77, 3) := by decide +kernel
theorem d_BM_findsChipped_20 : decode c_BM_findsChipped 20 = .ok (.aload_n 0, 1) := by decide +kernel
theorem d_BM_findsChipped_21 : decode c_BM_findsChipped 21 = .ok (.iload_n 1, 1) := by decide +kernel
theorem d_BM_findsChipped_22 : decode c_BM_findsChipped 22 = .ok (.invokevirtual 170, 3) := by decide +kernel
theorem d_BM_findsChipped_25 : decode c_BM_findsChipped 25 = .ok (.ifCond .eq 63, 3) := by decide +kernel
theorem d_BM_findsChipped_28 : decode c_BM_findsChipped 28 = .ok (.aload_n 0, 1) := by decide +kernel
theorem d_BM_findsChipped_29 : decode c_BM_findsChipped 29 = .ok (.getfield 13, 3) := by decide +kernel
theorem d_BM_findsChipped_32 : decode c_BM_findsChipped 32 = .ok (.iload_n 1, 1) := by decide +kernel
theorem d_BM_findsChipped_33 : decode c_BM_findsChipped 33 = .ok (.iaload, 1) := by decide +kernel
theorem d_BM_findsChipped_34 : decode c_BM_findsChipped 34 = .ok (.iconst 1, 1) := by decide +kernel
theorem d_BM_findsChipped_35 : decode c_BM_findsChipped 35 = .ok (.if_icmp .ne 53, 3) := by decide +kernel
theorem d_BM_findsChipped_38 : decode c_BM_findsChipped 38 = .ok (.aload_n 0, 1) := by decide +kernel
theorem d_BM_findsChipped_39 : decode c_BM_findsChipped 39 = .ok (.getfield 13, 3) := by decide +kernel
theorem d_BM_findsChipped_42 : decode c_BM_findsChipped 42 = .ok (.iload_n 1, 1) := by decide +kernel
theorem d_BM_findsChipped_43 : decode c_BM_findsChipped 43 = .ok (.iconst 0, 1) := by decide +kernel
theorem d_BM_findsChipped_44 : decode c_BM_findsChipped 44 = .ok (.iastore, 1) := by decide +kernel
theorem d_BM_findsChipped_45 : decode c_BM_findsChipped 45 = .ok (.aload_n 0, 1) := by decide +kernel
theorem d_BM_findsChipped_46 : decode c_BM_findsChipped 46 = .ok (.invokevirtual 440, 3) := by decide +kernel
theorem d_BM_findsChipped_49 : decode c_BM_findsChipped 49 = .ok (.istore_n 2, 1) := by decide +kernel
theorem d_BM_findsChipped_50 : decode c_BM_findsChipped 50 = .ok (.aload_n 0, 1) := by decide +kernel
theorem d_BM_findsChipped_51 : decode c_BM_findsChipped 51 = .ok (.getfield 13, 3) := by decide +kernel
theorem d_BM_findsChipped_54 : decode c_BM_findsChipped 54 = .ok (.iload_n 1, 1) := by decide +kernel
theorem d_BM_findsChipped_55 : decode c_BM_findsChipped 55 = .ok (.iconst 1, 1) := by decide +kernel
theorem d_BM_findsChipped_56 : decode c_BM_findsChipped 56 = .ok (.iastore, 1) := by decide +kernel
theorem d_BM_findsChipped_57 : decode c_BM_findsChipped 57 = .ok (.iload_n 2, 1) := by decide +kernel
theorem d_BM_findsChipped_58 : decode c_BM_findsChipped 58 = .ok (.ifCond .lt 30, 3) := by decide +kernel
theorem d_BM_findsChipped_61 : decode c_BM_findsChipped 61 = .ok (.aload_n 0, 1) := by decide +kernel
theorem d_BM_findsChipped_62 : decode c_BM_findsChipped 62 = .ok (.getfield 473, 3) := by decide +kernel
theorem d_BM_findsChipped_65 : decode c_BM_findsChipped 65 = .ok (.bipush (-2), 2) := by decide +kernel
theorem d_BM_findsChipped_67 : decode c_BM_findsChipped 67 = .ok (.if_icmp .eq 11, 3) := by decide +kernel
theorem d_BM_findsChipped_70 : decode c_BM_findsChipped 70 = .ok (.iload_n 2, 1) := by decide +kernel
theorem d_BM_findsChipped_71 : decode c_BM_findsChipped 71 = .ok (.aload_n 0, 1) := by decide +kernel
theorem d_BM_findsChipped_72 : decode c_BM_findsChipped 72 = .ok (.getfield 476, 3) := by decide +kernel
theorem d_BM_findsChipped_75 : decode c_BM_findsChipped 75 = .ok (.if_icmp .ge 13, 3) := by decide +kernel
theorem d_BM_findsChipped_78 : decode c_BM_findsChipped 78 = .ok (.aload_n 0, 1) := by decide +kernel
theorem d_BM_findsChipped_79 : decode c_BM_findsChipped 79 = .ok (.iload_n 1, 1) := by decide +kernel
theorem d_BM_findsChipped_80 : decode c_BM_findsChipped 80 = .ok (.putfield 473, 3) := by decide +kernel
theorem d_BM_findsChipped_83 : decode c_BM_findsChipped 83 = .ok (.aload_n 0, 1) := by decide +kernel
theorem d_BM_findsChipped_84 : decode c_BM_findsChipped 84 = .ok (.iload_n 2, 1) := by decide +kernel
theorem d_BM_findsChipped_85 : decode c_BM_findsChipped 85 = .ok (.putfield 476, 3) := by decide +kernel
theorem d_BM_findsChipped_88 : decode c_BM_findsChipped 88 = .ok (.iinc 1 1, 3) := by decide +kernel
theorem d_BM_findsChipped_91 : decode c_BM_findsChipped 91 = .ok (.goto (-77), 3) := by decide +kernel
theorem d_BM_findsChipped_94 : decode c_BM_findsChipped 94 = .ok (.return_, 1) := by decide +kernel
def S_BM_findsChipped_0 (g : Gx) (Q : St → Prop) (σ : St) : Prop := Ax g m_BM_findsChipped 0 0 (ZV g Q) SH σ 0 0 0 [(0, .ref (gB g + 151))] []
def S_BM_findsChipped_14 (g : Gx) (Q : St → Prop) (σ : St) (x1 : Int32) : Prop := Ax g m_BM_findsChipped 0 0 (ZV g Q) SH σ 0 0 14 [(0, .ref (gB g + 151)), (1, .int x1)] []
theorem sg_BM_findsChipped_0 {g : Gx} {Q : St → Prop} {σ : St}
    (h : ∀ s1 : St, s1 = sfi σ 151 54 (-2 : Int32) → ∀ s2 : St, s2 = sfi s1 151 55 (-2 : Int32) → S_BM_findsChipped_14 g Q s2 (0 : Int32)) : S_BM_findsChipped_0 g Q σ := by
  show Ax g m_BM_findsChipped 0 0 (ZV g Q) SH σ 0 0 0 [(0, .ref (gB g + 151))] []
  refine a_aload_n (pc := 0) 0 rfl rfl d_BM_findsChipped_0 ?_
  refine a_bipush (pc := 1) (-2 : Int32) (by decide) d_BM_findsChipped_1 ?_
  refine a_putI (pc := 3) fp_BM_473 sx_151 rfl d_BM_findsChipped_3 ?_
  refine a_nms (fun s1 hs1 => ?_)
  replace h := h s1 hs1
  refine a_aload_n (pc := 6) 0 rfl rfl d_BM_findsChipped_6 ?_
  refine a_bipush (pc := 7) (-2 : Int32) (by decide) d_BM_findsChipped_7 ?_
  refine a_putI (pc := 9) fp_BM_476 sx_151 rfl d_BM_findsChipped_9 ?_
  refine a_nms (fun s2 hs2 => ?_)
  replace h := h s2 hs2
  refine a_iconst (pc := 12) (0 : Int32) (by decide) d_BM_findsChipped_12 ?_
  refine a_istore_n (pc := 13) (lv' := [(1, .int (0 : Int32)), (0, .ref (gB g + 151))]) rfl (Nat.le_of_ble_eq_true rfl) rfl d_BM_findsChipped_13 ?_
  refine a_sub (pc := 14) [1, 0] rfl ?_
  exact h
theorem sg_BM_findsChipped_14 {g : Gx} {Q : St → Prop} {σ : St} {x1 : Int32}
    (h : ((36 : Int32) ≤ x1 → Q σ) ∧ (¬ (36 : Int32) ≤ x1 → K_BM_isThere g x1 σ (fun (r2 : Int32) (s1 : St) => (r2 = 0 → ∀ u3 : Int32, u3 = x1 + (1 : Int32) → S_BM_findsChipped_14 g Q s1 u3) ∧ (¬ r2 = 0 → vp_in x1 36 ∧ ((¬ (ai s1 153 (x1).toNatClampNeg) = (1 : Int32) → ∀ u4 : Int32, u4 = x1 + (1 : Int32) → S_BM_findsChipped_14 g Q s1 u4) ∧ ((ai s1 153 (x1).toNatClampNeg) = (1 : Int32) → vp_in x1 36 ∧ (∀ s5 : St, s5 = sai s1 153 (x1).toNatClampNeg (0 : Int32) → K_BM_finds g s5 (fun (r7 : Int32) (s6 : St) => vp_in x1 36 ∧ (∀ s8 : St, s8 = sai s6 153 (x1).toNatClampNeg (1 : Int32) → (r7 < 0 → ∀ u9 : Int32, u9 = x1 + (1 : Int32) → S_BM_findsChipped_14 g Q s8 u9) ∧ (¬ r7 < 0 → ((fi s8 151 54) = (-2 : Int32) → ∀ s10 : St, s10 = sfi s8 151 54 x1 → ∀ s11 : St, s11 = sfi s10 151 55 r7 → ∀ u12 : Int32, u12 = x1 + (1 : Int32) → S_BM_findsChipped_14 g Q s11 u12) ∧ (¬ (fi s8 151 54) = (-2 : Int32) → ((fi s8 151 55) ≤ r7 → ∀ u13 : Int32, u13 = x1 + (1 : Int32) → S_BM_findsChipped_14 g Q s8 u13) ∧ (¬ (fi s8 151 55) ≤ r7 → ∀ s14 : St, s14 = sfi s8 151 54 x1 → ∀ s15 : St, s15 = sfi s14 151 55 r7 → ∀ u16 : Int32, u16 = x1 + (1 : Int32) → S_BM_findsChipped_14 g Q s15 u16)))))))))))) : S_BM_findsChipped_14 g Q σ x1 := by
  show Ax g m_BM_findsChipped 0 0 (ZV g Q) SH σ 0 0 14 [(0, .ref (gB g + 151)), (1, .int x1)] []
  refine a_iload_n (pc := 14) 1 rfl rfl d_BM_findsChipped_14 ?_
  refine a_bipush (pc := 15) (36 : Int32) (by decide) d_BM_findsChipped_15 ?_
  refine a_icmp_ge (pc := 17) 94 (by decide) d_BM_findsChipped_17 ⟨fun c0 => ?_, fun c0 => ?_⟩
  · replace h := h.1 c0
    exact b_vret (pc := 94) rfl d_BM_findsChipped_94 h
  · replace h := h.2 c0
    refine a_aload_n (pc := 20) 0 rfl rfl d_BM_findsChipped_20 ?_
    refine a_iload_n (pc := 21) 1 rfl rfl d_BM_findsChipped_21 ?_
    refine a_callV (pc := 22) (M' := m_BM_isThere) (As := [.int x1]) (st := []) (mc' := 0) (ms' := 0) lk_BM_170 rfl sx_151 rfl (by decide) (by decide) rfl (Nat.le_of_ble_eq_true rfl) (Nat.le_refl 0) (Nat.le_refl 0) d_BM_findsChipped_22 h ?_
    rintro _ _ s1 ⟨r2, rfl, rfl, h⟩ -
    show Ax g m_BM_findsChipped 0 0 (ZV g Q) SH s1 0 0 25 [(0, .ref (gB g + 151)), (1, .int x1)] [.int r2]
    refine a_if_eq (pc := 25) 88 (by decide) d_BM_findsChipped_25 ⟨fun c0 => ?_, fun c0 => ?_⟩
    · replace h := h.1 c0
      obtain ⟨u3, hu3⟩ : ∃ y : Int32, y = x1 + (1 : Int32) := ⟨_, rfl⟩
      replace h := h u3 hu3
      refine a_iinc (pc := 88) (v := u3) (lv' := [(1, .int u3), (0, .ref (gB g + 151))]) 1 rfl (by rw [hu3]; rfl) (Nat.le_of_ble_eq_true rfl) rfl d_BM_findsChipped_88 ?_
      refine a_goto (pc := 91) 14 (by decide) d_BM_findsChipped_91 ?_
      refine a_sub (pc := 14) [1, 0] rfl ?_
      exact h
    · replace h := h.2 c0
      refine a_aload_n (pc := 28) 0 rfl rfl d_BM_findsChipped_28 ?_
      refine a_getR (pc := 29) fg_BM_13 sx_151 rfl d_BM_findsChipped_29 ?_
      refine a_iload_n (pc := 32) 1 rfl rfl d_BM_findsChipped_32 ?_
      obtain ⟨hx, h⟩ := h
      refine a_iald (pc := 33) sx_153 hx d_BM_findsChipped_33 ?_
      refine a_iconst (pc := 34) (1 : Int32) (by decide) d_BM_findsChipped_34 ?_
      refine a_icmp_ne (pc := 35) 88 (by decide) d_BM_findsChipped_35 ⟨fun c0 => ?_, fun c0 => ?_⟩
      · replace h := h.1 c0
        obtain ⟨u4, hu4⟩ : ∃ y : Int32, y = x1 + (1 : Int32) := ⟨_, rfl⟩
        replace h := h u4 hu4
        refine a_iinc (pc := 88) (v := u4) (lv' := [(1, .int u4), (0, .ref (gB g + 151))]) 1 rfl (by rw [hu4]; rfl) (Nat.le_of_ble_eq_true rfl) rfl d_BM_findsChipped_88 ?_
        refine a_goto (pc := 91) 14 (by decide) d_BM_findsChipped_91 ?_
        refine a_sub (pc := 14) [1, 0] rfl ?_
        exact h
      · replace h := h.2 c0
        refine a_aload_n (pc := 38) 0 rfl rfl d_BM_findsChipped_38 ?_
        refine a_getR (pc := 39) fg_BM_13 sx_151 rfl d_BM_findsChipped_39 ?_
        refine a_iload_n (pc := 42) 1 rfl rfl d_BM_findsChipped_42 ?_
        refine a_iconst (pc := 43) (0 : Int32) (by decide) d_BM_findsChipped_43 ?_
        obtain ⟨hx, h⟩ := h
        refine a_iast (pc := 44) sx_153 hx d_BM_findsChipped_44 ?_
        refine a_nms (fun s5 hs5 => ?_)
        replace h := h s5 hs5
        refine a_aload_n (pc := 45) 0 rfl rfl d_BM_findsChipped_45 ?_
        refine a_callV (pc := 46) (M' := m_BM_finds) (As := []) (st := []) (mc' := 0) (ms' := 0) lk_BM_440 rfl sx_151 rfl (by decide) (by decide) rfl (Nat.le_of_ble_eq_true rfl) (Nat.le_refl 0) (Nat.le_refl 0) d_BM_findsChipped_46 h ?_
        rintro _ _ s6 ⟨r7, rfl, rfl, h⟩ -
        show Ax g m_BM_findsChipped 0 0 (ZV g Q) SH s6 0 0 49 [(0, .ref (gB g + 151)), (1, .int x1)] [.int r7]
        refine a_istore_n (pc := 49) (lv' := [(2, .int r7), (0, .ref (gB g + 151)), (1, .int x1)]) rfl (Nat.le_of_ble_eq_true rfl) rfl d_BM_findsChipped_49 ?_
        refine a_aload_n (pc := 50) 1 rfl rfl d_BM_findsChipped_50 ?_
        refine a_getR (pc := 51) fg_BM_13 sx_151 rfl d_BM_findsChipped_51 ?_
        refine a_iload_n (pc := 54) 2 rfl rfl d_BM_findsChipped_54 ?_
        refine a_iconst (pc := 55) (1 : Int32) (by decide) d_BM_findsChipped_55 ?_
        obtain ⟨hx, h⟩ := h
        refine a_iast (pc := 56) sx_153 hx d_BM_findsChipped_56 ?_
        refine a_nms (fun s8 hs8 => ?_)
        replace h := h s8 hs8
        refine a_iload_n (pc := 57) 0 rfl rfl d_BM_findsChipped_57 ?_
        refine a_if_lt (pc := 58) 88 (by decide) d_BM_findsChipped_58 ⟨fun c0 => ?_, fun c0 => ?_⟩
        · replace h := h.1 c0
          obtain ⟨u9, hu9⟩ : ∃ y : Int32, y = x1 + (1 : Int32) := ⟨_, rfl⟩
          replace h := h u9 hu9
          refine a_iinc (pc := 88) (v := u9) (lv' := [(1, .int u9), (2, .int r7), (0, .ref (gB g + 151))]) 2 rfl (by rw [hu9]; rfl) (Nat.le_of_ble_eq_true rfl) rfl d_BM_findsChipped_88 ?_
          refine a_goto (pc := 91) 14 (by decide) d_BM_findsChipped_91 ?_
          refine a_sub (pc := 14) [2, 0] rfl ?_
          exact h
        · replace h := h.2 c0
          refine a_aload_n (pc := 61) 1 rfl rfl d_BM_findsChipped_61 ?_
          refine a_getI (pc := 62) fg_BM_473 sx_151 rfl d_BM_findsChipped_62 ?_
          refine a_bipush (pc := 65) (-2 : Int32) (by decide) d_BM_findsChipped_65 ?_
          refine a_icmp_eq (pc := 67) 78 (by decide) d_BM_findsChipped_67 ⟨fun c0 => ?_, fun c0 => ?_⟩
          · replace h := h.1 c0
            refine a_aload_n (pc := 78) 1 rfl rfl d_BM_findsChipped_78 ?_
            refine a_iload_n (pc := 79) 2 rfl rfl d_BM_findsChipped_79 ?_
            refine a_putI (pc := 80) fp_BM_473 sx_151 rfl d_BM_findsChipped_80 ?_
            refine a_nms (fun s10 hs10 => ?_)
            replace h := h s10 hs10
            refine a_aload_n (pc := 83) 1 rfl rfl d_BM_findsChipped_83 ?_
            refine a_iload_n (pc := 84) 0 rfl rfl d_BM_findsChipped_84 ?_
            refine a_putI (pc := 85) fp_BM_476 sx_151 rfl d_BM_findsChipped_85 ?_
            refine a_nms (fun s11 hs11 => ?_)
            replace h := h s11 hs11
            obtain ⟨u12, hu12⟩ : ∃ y : Int32, y = x1 + (1 : Int32) := ⟨_, rfl⟩
            replace h := h u12 hu12
            refine a_iinc (pc := 88) (v := u12) (lv' := [(1, .int u12), (2, .int r7), (0, .ref (gB g + 151))]) 2 rfl (by rw [hu12]; rfl) (Nat.le_of_ble_eq_true rfl) rfl d_BM_findsChipped_88 ?_
            refine a_goto (pc := 91) 14 (by decide) d_BM_findsChipped_91 ?_
            refine a_sub (pc := 14) [2, 0] rfl ?_
            exact h
          · replace h := h.2 c0
            refine a_iload_n (pc := 70) 0 rfl rfl d_BM_findsChipped_70 ?_
            refine a_aload_n (pc := 71) 1 rfl rfl d_BM_findsChipped_71 ?_
            refine a_getI (pc := 72) fg_BM_476 sx_151 rfl d_BM_findsChipped_72 ?_
            refine a_icmp_ge (pc := 75) 88 (by decide) d_BM_findsChipped_75 ⟨fun c0 => ?_, fun c0 => ?_⟩
            · replace h := h.1 c0
              obtain ⟨u13, hu13⟩ : ∃ y : Int32, y = x1 + (1 : Int32) := ⟨_, rfl⟩
              replace h := h u13 hu13
              refine a_iinc (pc := 88) (v := u13) (lv' := [(1, .int u13), (2, .int r7), (0, .ref (gB g + 151))]) 2 rfl (by rw [hu13]; rfl) (Nat.le_of_ble_eq_true rfl) rfl d_BM_findsChipped_88 ?_
              refine a_goto (pc := 91) 14 (by decide) d_BM_findsChipped_91 ?_
              refine a_sub (pc := 14) [2, 0] rfl ?_
              exact h
            · replace h := h.2 c0
              refine a_aload_n (pc := 78) 1 rfl rfl d_BM_findsChipped_78 ?_
              refine a_iload_n (pc := 79) 2 rfl rfl d_BM_findsChipped_79 ?_
              refine a_putI (pc := 80) fp_BM_473 sx_151 rfl d_BM_findsChipped_80 ?_
              refine a_nms (fun s14 hs14 => ?_)
              replace h := h s14 hs14
              refine a_aload_n (pc := 83) 1 rfl rfl d_BM_findsChipped_83 ?_
              refine a_iload_n (pc := 84) 0 rfl rfl d_BM_findsChipped_84 ?_
              refine a_putI (pc := 85) fp_BM_476 sx_151 rfl d_BM_findsChipped_85 ?_
              refine a_nms (fun s15 hs15 => ?_)
              replace h := h s15 hs15
              obtain ⟨u16, hu16⟩ : ∃ y : Int32, y = x1 + (1 : Int32) := ⟨_, rfl⟩
              replace h := h u16 hu16
              refine a_iinc (pc := 88) (v := u16) (lv' := [(1, .int u16), (2, .int r7), (0, .ref (gB g + 151))]) 2 rfl (by rw [hu16]; rfl) (Nat.le_of_ble_eq_true rfl) rfl d_BM_findsChipped_88 ?_
              refine a_goto (pc := 91) 14 (by decide) d_BM_findsChipped_91 ?_
              refine a_sub (pc := 14) [2, 0] rfl ?_
              exact h
theorem ko_BM_findsChipped {g : Gx}  {σ : St} {Q : St → Prop} (h : S_BM_findsChipped_0 g Q σ) : K_BM_findsChipped g  σ Q := KV.of (show plainName "BallBoxModel" = true by decide) (Nat.le_of_ble_eq_true rfl) h
theorem d_BM_findsWalled_0 : decode c_BM_findsWalled 0 = .ok (.aload_n 0, 1) := by decide +kernel
theorem d_BM_findsWalled_1 : decode c_BM_findsWalled 1 = .ok (.bipush (-2), 2) := by decide +kernel
theorem d_BM_findsWalled_3 : decode c_BM_findsWalled 3 = .ok (.putfield 473, 3) := by decide +kernel
theorem d_BM_findsWalled_6 : decode c_BM_findsWalled 6 = .ok (.aload_n 0, 1) := by decide +kernel
theorem d_BM_findsWalled_7 : decode c_BM_findsWalled 7 = .ok (.bipush (-2), 2) := by decide +kernel
theorem d_BM_findsWalled_9 : decode c_BM_findsWalled 9 = .ok (.putfield 476, 3) := by decide +kernel
theorem d_BM_findsWalled_12 : decode c_BM_findsWalled 12 = .ok (.iconst 0, 1) := by decide +kernel
theorem d_BM_findsWalled_13 : decode c_BM_findsWalled 13 = .ok (.istore_n 1, 1) := by decide +kernel
theorem d_BM_findsWalled_14 : decode c_BM_findsWalled 14 = .ok (.iload_n 1, 1) := by decide +kernel
theorem d_BM_findsWalled_15 : decode c_BM_findsWalled 15 = .ok (.bipush 36, 2) := by decide +kernel
theorem d_BM_findsWalled_17 : decode c_BM_findsWalled 17 = .ok (.if_icmp .ge 67, 3) := by decide +kernel
theorem d_BM_findsWalled_20 : decode c_BM_findsWalled 20 = .ok (.aload_n 0, 1) := by decide +kernel
theorem d_BM_findsWalled_21 : decode c_BM_findsWalled 21 = .ok (.iload_n 1, 1) := by decide +kernel
theorem d_BM_findsWalled_22 : decode c_BM_findsWalled 22 = .ok (.invokevirtual 401, 3) := by decide +kernel
theorem d_BM_findsWalled_25 : decode c_BM_findsWalled 25 = .ok (.ifCond .eq 53, 3) := by decide +kernel
theorem d_BM_findsWalled_28 : decode c_BM_findsWalled 28 = .ok (.aload_n 0, 1) := by decide +kernel
theorem d_BM_findsWalled_29 : decode c_BM_findsWalled 29 = .ok (.getfield 13, 3) := by decide +kernel
theorem d_BM_findsWalled_32 : decode c_BM_findsWalled 32 = .ok (.iload_n 1, 1) := by decide +kernel
theorem d_BM_findsWalled_33 : decode c_BM_findsWalled 33 = .ok (.iconst 1, 1) := by decide +kernel
theorem d_BM_findsWalled_34 : decode c_BM_findsWalled 34 = .ok (.iastore, 1) := by decide +kernel
theorem d_BM_findsWalled_35 : decode c_BM_findsWalled 35 = .ok (.aload_n 0, 1) := by decide +kernel
theorem d_BM_findsWalled_36 : decode c_BM_findsWalled 36 = .ok (.invokevirtual 440, 3) := by decide +kernel
theorem d_BM_findsWalled_39 : decode c_BM_findsWalled 39 = .ok (.istore_n 2, 1) := by decide +kernel
theorem d_BM_findsWalled_40 : decode c_BM_findsWalled 40 = .ok (.aload_n 0, 1) := by decide +kernel
theorem d_BM_findsWalled_41 : decode c_BM_findsWalled 41 = .ok (.getfield 13, 3) := by decide +kernel
theorem d_BM_findsWalled_44 : decode c_BM_findsWalled 44 = .ok (.iload_n 1, 1) := by decide +kernel
theorem d_BM_findsWalled_45 : decode c_BM_findsWalled 45 = .ok (.iconst 0, 1) := by decide +kernel
theorem d_BM_findsWalled_46 : decode c_BM_findsWalled 46 = .ok (.iastore, 1) := by decide +kernel
theorem d_BM_findsWalled_47 : decode c_BM_findsWalled 47 = .ok (.iload_n 2, 1) := by decide +kernel
theorem d_BM_findsWalled_48 : decode c_BM_findsWalled 48 = .ok (.ifCond .lt 30, 3) := by decide +kernel
theorem d_BM_findsWalled_51 : decode c_BM_findsWalled 51 = .ok (.aload_n 0, 1) := by decide +kernel
theorem d_BM_findsWalled_52 : decode c_BM_findsWalled 52 = .ok (.getfield 473, 3) := by decide +kernel
theorem d_BM_findsWalled_55 : decode c_BM_findsWalled 55 = .ok (.bipush (-2), 2) := by decide +kernel
theorem d_BM_findsWalled_57 : decode c_BM_findsWalled 57 = .ok (.if_icmp .eq 11, 3) := by decide +kernel
theorem d_BM_findsWalled_60 : decode c_BM_findsWalled 60 = .ok (.iload_n 2, 1) := by decide +kernel
theorem d_BM_findsWalled_61 : decode c_BM_findsWalled 61 = .ok (.aload_n 0, 1) := by decide +kernel
theorem d_BM_findsWalled_62 : decode c_BM_findsWalled 62 = .ok (.getfield 476, 3) := by decide +kernel
theorem d_BM_findsWalled_65 : decode c_BM_findsWalled 65 = .ok (.if_icmp .le 13, 3) := by decide +kernel
theorem d_BM_findsWalled_68 : decode c_BM_findsWalled 68 = .ok (.aload_n 0, 1) := by decide +kernel
theorem d_BM_findsWalled_69 : decode c_BM_findsWalled 69 = .ok (.iload_n 1, 1) := by decide +kernel
theorem d_BM_findsWalled_70 : decode c_BM_findsWalled 70 = .ok (.putfield 473, 3) := by decide +kernel
theorem d_BM_findsWalled_73 : decode c_BM_findsWalled 73 = .ok (.aload_n 0, 1) := by decide +kernel
theorem d_BM_findsWalled_74 : decode c_BM_findsWalled 74 = .ok (.iload_n 2, 1) := by decide +kernel
theorem d_BM_findsWalled_75 : decode c_BM_findsWalled 75 = .ok (.putfield 476, 3) := by decide +kernel
theorem d_BM_findsWalled_78 : decode c_BM_findsWalled 78 = .ok (.iinc 1 1, 3) := by decide +kernel
theorem d_BM_findsWalled_81 : decode c_BM_findsWalled 81 = .ok (.goto (-67), 3) := by decide +kernel
theorem d_BM_findsWalled_84 : decode c_BM_findsWalled 84 = .ok (.return_, 1) := by decide +kernel
def S_BM_findsWalled_0 (g : Gx) (Q : St → Prop) (σ : St) : Prop := Ax g m_BM_findsWalled 0 0 (ZV g Q) SH σ 0 0 0 [(0, .ref (gB g + 151))] []
def S_BM_findsWalled_14 (g : Gx) (Q : St → Prop) (σ : St) (x1 : Int32) : Prop := Ax g m_BM_findsWalled 0 0 (ZV g Q) SH σ 0 0 14 [(0, .ref (gB g + 151)), (1, .int x1)] []
theorem sg_BM_findsWalled_0 {g : Gx} {Q : St → Prop} {σ : St}
    (h : ∀ s1 : St, s1 = sfi σ 151 54 (-2 : Int32) → ∀ s2 : St, s2 = sfi s1 151 55 (-2 : Int32) → S_BM_findsWalled_14 g Q s2 (0 : Int32)) : S_BM_findsWalled_0 g Q σ := by
  show Ax g m_BM_findsWalled 0 0 (ZV g Q) SH σ 0 0 0 [(0, .ref (gB g + 151))] []
  refine a_aload_n (pc := 0) 0 rfl rfl d_BM_findsWalled_0 ?_
  refine a_bipush (pc := 1) (-2 : Int32) (by decide) d_BM_findsWalled_1 ?_
  refine a_putI (pc := 3) fp_BM_473 sx_151 rfl d_BM_findsWalled_3 ?_
  refine a_nms (fun s1 hs1 => ?_)
  replace h := h s1 hs1
  refine a_aload_n (pc := 6) 0 rfl rfl d_BM_findsWalled_6 ?_
  refine a_bipush (pc := 7) (-2 : Int32) (by decide) d_BM_findsWalled_7 ?_
  refine a_putI (pc := 9) fp_BM_476 sx_151 rfl d_BM_findsWalled_9 ?_
  refine a_nms (fun s2 hs2 => ?_)
  replace h := h s2 hs2
  refine a_iconst (pc := 12) (0 : Int32) (by decide) d_BM_findsWalled_12 ?_
  refine a_istore_n (pc := 13) (lv' := [(1, .int (0 : Int32)), (0, .ref (gB g + 151))]) rfl (Nat.le_of_ble_eq_true rfl) rfl d_BM_findsWalled_13 ?_
  refine a_sub (pc := 14) [1, 0] rfl ?_
  exact h
theorem sg_BM_findsWalled_14 {g : Gx} {Q : St → Prop} {σ : St} {x1 : Int32}
    (h : ((36 : Int32) ≤ x1 → Q σ) ∧ (¬ (36 : Int32) ≤ x1 → K_BM_isFree g x1 σ (fun (r2 : Int32) (s1 : St) => (r2 = 0 → ∀ u3 : Int32, u3 = x1 + (1 : Int32) → S_BM_findsWalled_14 g Q s1 u3) ∧ (¬ r2 = 0 → vp_in x1 36 ∧ (∀ s4 : St, s4 = sai s1 153 (x1).toNatClampNeg (1 : Int32) → K_BM_finds g s4 (fun (r6 : Int32) (s5 : St) => vp_in x1 36 ∧ (∀ s7 : St, s7 = sai s5 153 (x1).toNatClampNeg (0 : Int32) → (r6 < 0 → ∀ u8 : Int32, u8 = x1 + (1 : Int32) → S_BM_findsWalled_14 g Q s7 u8) ∧ (¬ r6 < 0 → ((fi s7 151 54) = (-2 : Int32) → ∀ s9 : St, s9 = sfi s7 151 54 x1 → ∀ s10 : St, s10 = sfi s9 151 55 r6 → ∀ u11 : Int32, u11 = x1 + (1 : Int32) → S_BM_findsWalled_14 g Q s10 u11) ∧ (¬ (fi s7 151 54) = (-2 : Int32) → (r6 ≤ (fi s7 151 55) → ∀ u12 : Int32, u12 = x1 + (1 : Int32) → S_BM_findsWalled_14 g Q s7 u12) ∧ (¬ r6 ≤ (fi s7 151 55) → ∀ s13 : St, s13 = sfi s7 151 54 x1 → ∀ s14 : St, s14 = sfi s13 151 55 r6 → ∀ u15 : Int32, u15 = x1 + (1 : Int32) → S_BM_findsWalled_14 g Q s14 u15)))))))))) : S_BM_findsWalled_14 g Q σ x1 := by
  show Ax g m_BM_findsWalled 0 0 (ZV g Q) SH σ 0 0 14 [(0, .ref (gB g + 151)), (1, .int x1)] []
  refine a_iload_n (pc := 14) 1 rfl rfl d_BM_findsWalled_14 ?_
  refine a_bipush (pc := 15) (36 : Int32) (by decide) d_BM_findsWalled_15 ?_
  refine a_icmp_ge (pc := 17) 84 (by decide) d_BM_findsWalled_17 ⟨fun c0 => ?_, fun c0 => ?_⟩
  · replace h := h.1 c0
    exact b_vret (pc := 84) rfl d_BM_findsWalled_84 h
  · replace h := h.2 c0
    refine a_aload_n (pc := 20) 0 rfl rfl d_BM_findsWalled_20 ?_
    refine a_iload_n (pc := 21) 1 rfl rfl d_BM_findsWalled_21 ?_
    refine a_callV (pc := 22) (M' := m_BM_isFree) (As := [.int x1]) (st := []) (mc' := 0) (ms' := 0) lk_BM_401 rfl sx_151 rfl (by decide) (by decide) rfl (Nat.le_of_ble_eq_true rfl) (Nat.le_refl 0) (Nat.le_refl 0) d_BM_findsWalled_22 h ?_
    rintro _ _ s1 ⟨r2, rfl, rfl, h⟩ -
    show Ax g m_BM_findsWalled 0 0 (ZV g Q) SH s1 0 0 25 [(0, .ref (gB g + 151)), (1, .int x1)] [.int r2]
    refine a_if_eq (pc := 25) 78 (by decide) d_BM_findsWalled_25 ⟨fun c0 => ?_, fun c0 => ?_⟩
    · replace h := h.1 c0
      obtain ⟨u3, hu3⟩ : ∃ y : Int32, y = x1 + (1 : Int32) := ⟨_, rfl⟩
      replace h := h u3 hu3
      refine a_iinc (pc := 78) (v := u3) (lv' := [(1, .int u3), (0, .ref (gB g + 151))]) 1 rfl (by rw [hu3]; rfl) (Nat.le_of_ble_eq_true rfl) rfl d_BM_findsWalled_78 ?_
      refine a_goto (pc := 81) 14 (by decide) d_BM_findsWalled_81 ?_
      refine a_sub (pc := 14) [1, 0] rfl ?_
      exact h
    · replace h := h.2 c0
      refine a_aload_n (pc := 28) 0 rfl rfl d_BM_findsWalled_28 ?_
      refine a_getR (pc := 29) fg_BM_13 sx_151 rfl d_BM_findsWalled_29 ?_
      refine a_iload_n (pc := 32) 1 rfl rfl d_BM_findsWalled_32 ?_
      refine a_iconst (pc := 33) (1 : Int32) (by decide) d_BM_findsWalled_33 ?_
      obtain ⟨hx, h⟩ := h
      refine a_iast (pc := 34) sx_153 hx d_BM_findsWalled_34 ?_
      refine a_nms (fun s4 hs4 => ?_)
      replace h := h s4 hs4
      refine a_aload_n (pc := 35) 0 rfl rfl d_BM_findsWalled_35 ?_
      refine a_callV (pc := 36) (M' := m_BM_finds) (As := []) (st := []) (mc' := 0) (ms' := 0) lk_BM_440 rfl sx_151 rfl (by decide) (by decide) rfl (Nat.le_of_ble_eq_true rfl) (Nat.le_refl 0) (Nat.le_refl 0) d_BM_findsWalled_36 h ?_
      rintro _ _ s5 ⟨r6, rfl, rfl, h⟩ -
      show Ax g m_BM_findsWalled 0 0 (ZV g Q) SH s5 0 0 39 [(0, .ref (gB g + 151)), (1, .int x1)] [.int r6]
      refine a_istore_n (pc := 39) (lv' := [(2, .int r6), (0, .ref (gB g + 151)), (1, .int x1)]) rfl (Nat.le_of_ble_eq_true rfl) rfl d_BM_findsWalled_39 ?_
      refine a_aload_n (pc := 40) 1 rfl rfl d_BM_findsWalled_40 ?_
      refine a_getR (pc := 41) fg_BM_13 sx_151 rfl d_BM_findsWalled_41 ?_
      refine a_iload_n (pc := 44) 2 rfl rfl d_BM_findsWalled_44 ?_
      refine a_iconst (pc := 45) (0 : Int32) (by decide) d_BM_findsWalled_45 ?_
      obtain ⟨hx, h⟩ := h
      refine a_iast (pc := 46) sx_153 hx d_BM_findsWalled_46 ?_
      refine a_nms (fun s7 hs7 => ?_)
      replace h := h s7 hs7
      refine a_iload_n (pc := 47) 0 rfl rfl d_BM_findsWalled_47 ?_
      refine a_if_lt (pc := 48) 78 (by decide) d_BM_findsWalled_48 ⟨fun c0 => ?_, fun c0 => ?_⟩
      · replace h := h.1 c0
        obtain ⟨u8, hu8⟩ : ∃ y : Int32, y = x1 + (1 : Int32) := ⟨_, rfl⟩
        replace h := h u8 hu8
        refine a_iinc (pc := 78) (v := u8) (lv' := [(1, .int u8), (2, .int r6), (0, .ref (gB g + 151))]) 2 rfl (by rw [hu8]; rfl) (Nat.le_of_ble_eq_true rfl) rfl d_BM_findsWalled_78 ?_
        refine a_goto (pc := 81) 14 (by decide) d_BM_findsWalled_81 ?_
        refine a_sub (pc := 14) [2, 0] rfl ?_
        exact h
      · replace h := h.2 c0
        refine a_aload_n (pc := 51) 1 rfl rfl d_BM_findsWalled_51 ?_
        refine a_getI (pc := 52) fg_BM_473 sx_151 rfl d_BM_findsWalled_52 ?_
        refine a_bipush (pc := 55) (-2 : Int32) (by decide) d_BM_findsWalled_55 ?_
        refine a_icmp_eq (pc := 57) 68 (by decide) d_BM_findsWalled_57 ⟨fun c0 => ?_, fun c0 => ?_⟩
        · replace h := h.1 c0
          refine a_aload_n (pc := 68) 1 rfl rfl d_BM_findsWalled_68 ?_
          refine a_iload_n (pc := 69) 2 rfl rfl d_BM_findsWalled_69 ?_
          refine a_putI (pc := 70) fp_BM_473 sx_151 rfl d_BM_findsWalled_70 ?_
          refine a_nms (fun s9 hs9 => ?_)
          replace h := h s9 hs9
          refine a_aload_n (pc := 73) 1 rfl rfl d_BM_findsWalled_73 ?_
          refine a_iload_n (pc := 74) 0 rfl rfl d_BM_findsWalled_74 ?_
          refine a_putI (pc := 75) fp_BM_476 sx_151 rfl d_BM_findsWalled_75 ?_
          refine a_nms (fun s10 hs10 => ?_)
          replace h := h s10 hs10
          obtain ⟨u11, hu11⟩ : ∃ y : Int32, y = x1 + (1 : Int32) := ⟨_, rfl⟩
          replace h := h u11 hu11
          refine a_iinc (pc := 78) (v := u11) (lv' := [(1, .int u11), (2, .int r6), (0, .ref (gB g + 151))]) 2 rfl (by rw [hu11]; rfl) (Nat.le_of_ble_eq_true rfl) rfl d_BM_findsWalled_78 ?_
          refine a_goto (pc := 81) 14 (by decide) d_BM_findsWalled_81 ?_
          refine a_sub (pc := 14) [2, 0] rfl ?_
          exact h
        · replace h := h.2 c0
          refine a_iload_n (pc := 60) 0 rfl rfl d_BM_findsWalled_60 ?_
          refine a_aload_n (pc := 61) 1 rfl rfl d_BM_findsWalled_61 ?_
          refine a_getI (pc := 62) fg_BM_476 sx_151 rfl d_BM_findsWalled_62 ?_
          refine a_icmp_le (pc := 65) 78 (by decide) d_BM_findsWalled_65 ⟨fun c0 => ?_, fun c0 => ?_⟩
          · replace h := h.1 c0
            obtain ⟨u12, hu12⟩ : ∃ y : Int32, y = x1 + (1 : Int32) := ⟨_, rfl⟩
            replace h := h u12 hu12
            refine a_iinc (pc := 78) (v := u12) (lv' := [(1, .int u12), (2, .int r6), (0, .ref (gB g + 151))]) 2 rfl (by rw [hu12]; rfl) (Nat.le_of_ble_eq_true rfl) rfl d_BM_findsWalled_78 ?_
            refine a_goto (pc := 81) 14 (by decide) d_BM_findsWalled_81 ?_
            refine a_sub (pc := 14) [2, 0] rfl ?_
            exact h
          · replace h := h.2 c0
            refine a_aload_n (pc := 68) 1 rfl rfl d_BM_findsWalled_68 ?_
            refine a_iload_n (pc := 69) 2 rfl rfl d_BM_findsWalled_69 ?_
            refine a_putI (pc := 70) fp_BM_473 sx_151 rfl d_BM_findsWalled_70 ?_
            refine a_nms (fun s13 hs13 => ?_)
            replace h := h s13 hs13
            refine a_aload_n (pc := 73) 1 rfl rfl d_BM_findsWalled_73 ?_
            refine a_iload_n (pc := 74) 0 rfl rfl d_BM_findsWalled_74 ?_
            refine a_putI (pc := 75) fp_BM_476 sx_151 rfl d_BM_findsWalled_75 ?_
            refine a_nms (fun s14 hs14 => ?_)
            replace h := h s14 hs14
            obtain ⟨u15, hu15⟩ : ∃ y : Int32, y = x1 + (1 : Int32) := ⟨_, rfl⟩
            replace h := h u15 hu15
            refine a_iinc (pc := 78) (v := u15) (lv' := [(1, .int u15), (2, .int r6), (0, .ref (gB g + 151))]) 2 rfl (by rw [hu15]; rfl) (Nat.le_of_ble_eq_true rfl) rfl d_BM_findsWalled_78 ?_
            refine a_goto (pc := 81) 14 (by decide) d_BM_findsWalled_81 ?_
            refine a_sub (pc := 14) [2, 0] rfl ?_
            exact h
theorem ko_BM_findsWalled {g : Gx}  {σ : St} {Q : St → Prop} (h : S_BM_findsWalled_0 g Q σ) : K_BM_findsWalled g  σ Q := KV.of (show plainName "BallBoxModel" = true by decide) (Nat.le_of_ble_eq_true rfl) h
theorem d_BM_best_0 : decode c_BM_best 0 = .ok (.aload_n 0, 1) := by decide +kernel
theorem d_BM_best_1 : decode c_BM_best 1 = .ok (.getfield 473, 3) := by decide +kernel
theorem d_BM_best_4 : decode c_BM_best 4 = .ok (.bipush (-2), 2) := by decide +kernel
theorem d_BM_best_6 : decode c_BM_best 6 = .ok (.if_icmp .eq 8, 3) := by decide +kernel
theorem d_BM_best_9 : decode c_BM_best 9 = .ok (.iload_n 1, 1) := by decide +kernel
theorem d_BM_best_10 : decode c_BM_best 10 = .ok (.iconst 2, 1) := by decide +kernel
theorem d_BM_best_11 : decode c_BM_best 11 = .ok (.if_icmp .ne 10, 3) := by decide +kernel
theorem d_BM_best_14 : decode c_BM_best 14 = .ok (.aload_n 0, 1) := by decide +kernel
theorem d_BM_best_15 : decode c_BM_best 15 = .ok (.getfield 476, 3) := by decide +kernel
theorem d_BM_best_18 : decode c_BM_best 18 = .ok (.goto 24, 3) := by decide +kernel
theorem d_BM_best_21 : decode c_BM_best 21 = .ok (.iload_n 1, 1) := by decide +kernel
theorem d_BM_best_22 : decode c_BM_best 22 = .ok (.ifCond .ne 13, 3) := by decide +kernel
theorem d_BM_best_25 : decode c_BM_best 25 = .ok (.aload_n 0, 1) := by decide +kernel
theorem d_BM_best_26 : decode c_BM_best 26 = .ok (.getfield 473, 3) := by decide +kernel
theorem d_BM_best_29 : decode c_BM_best 29 = .ok (.bipush 6, 2) := by decide +kernel
theorem d_BM_best_31 : decode c_BM_best 31 = .ok (.irem, 1) := by decide +kernel
theorem d_BM_best_32 : decode c_BM_best 32 = .ok (.goto 10, 3) := by decide +kernel
theorem d_BM_best_35 : decode c_BM_best 35 = .ok (.aload_n 0, 1) := by decide +kernel
theorem d_BM_best_36 : decode c_BM_best 36 = .ok (.getfield 473, 3) := by decide +kernel
theorem d_BM_best_39 : decode c_BM_best 39 = .ok (.bipush 6, 2) := by decide +kernel
theorem d_BM_best_41 : decode c_BM_best 41 = .ok (.idiv, 1) := by decide +kernel
theorem d_BM_best_42 : decode c_BM_best 42 = .ok (.ireturn, 1) := by decide +kernel
def S_BM_best_0 (g : Gx) (Q : Int32 → St → Prop) (σ : St) (x1 : Int32) : Prop := Ax g m_BM_best 0 0 (ZI g Q) SH σ 0 0 0 [(0, .ref (gB g + 151)), (1, .int x1)] []
theorem sg_BM_best_0 {g : Gx} {Q : Int32 → St → Prop} {σ : St} {x1 : Int32}
    (h : ((fi σ 151 54) = (-2 : Int32) → Q (fi σ 151 55) σ) ∧ (¬ (fi σ 151 54) = (-2 : Int32) → (¬ x1 = (2 : Int32) → (¬ x1 = 0 → Q ((fi σ 151 54) / (6 : Int32)) σ) ∧ (x1 = 0 → Q ((fi σ 151 54) - (fi σ 151 54) / (6 : Int32) * (6 : Int32)) σ)) ∧ (x1 = (2 : Int32) → Q (fi σ 151 55) σ))) : S_BM_best_0 g Q σ x1 := by
  show Ax g m_BM_best 0 0 (ZI g Q) SH σ 0 0 0 [(0, .ref (gB g + 151)), (1, .int x1)] []
  refine a_aload_n (pc := 0) 0 rfl rfl d_BM_best_0 ?_
  refine a_getI (pc := 1) fg_BM_473 sx_151 rfl d_BM_best_1 ?_
  refine a_bipush (pc := 4) (-2 : Int32) (by decide) d_BM_best_4 ?_
  refine a_icmp_eq (pc := 6) 14 (by decide) d_BM_best_6 ⟨fun c0 => ?_, fun c0 => ?_⟩
  · replace h := h.1 c0
    refine a_aload_n (pc := 14) 0 rfl rfl d_BM_best_14 ?_
    refine a_getI (pc := 15) fg_BM_476 sx_151 rfl d_BM_best_15 ?_
    refine a_goto (pc := 18) 42 (by decide) d_BM_best_18 ?_
    exact b_iret (pc := 42) rfl d_BM_best_42 h
  · replace h := h.2 c0
    refine a_iload_n (pc := 9) 1 rfl rfl d_BM_best_9 ?_
    refine a_iconst (pc := 10) (2 : Int32) (by decide) d_BM_best_10 ?_
    refine a_icmp_ne (pc := 11) 21 (by decide) d_BM_best_11 ⟨fun c0 => ?_, fun c0 => ?_⟩
    · replace h := h.1 c0
      refine a_iload_n (pc := 21) 1 rfl rfl d_BM_best_21 ?_
      refine a_if_ne (pc := 22) 35 (by decide) d_BM_best_22 ⟨fun c0 => ?_, fun c0 => ?_⟩
      · replace h := h.1 c0
        refine a_aload_n (pc := 35) 0 rfl rfl d_BM_best_35 ?_
        refine a_getI (pc := 36) fg_BM_473 sx_151 rfl d_BM_best_36 ?_
        refine a_bipush (pc := 39) (6 : Int32) (by decide) d_BM_best_39 ?_
        refine a_idiv (pc := 41) (by decide) d_BM_best_41 ?_
        exact b_iret (pc := 42) rfl d_BM_best_42 h
      · replace h := h.2 c0
        refine a_aload_n (pc := 25) 0 rfl rfl d_BM_best_25 ?_
        refine a_getI (pc := 26) fg_BM_473 sx_151 rfl d_BM_best_26 ?_
        refine a_bipush (pc := 29) (6 : Int32) (by decide) d_BM_best_29 ?_
        refine a_irem (pc := 31) (by decide) d_BM_best_31 ?_
        refine a_goto (pc := 32) 42 (by decide) d_BM_best_32 ?_
        exact b_iret (pc := 42) rfl d_BM_best_42 h
    · replace h := h.2 c0
      refine a_aload_n (pc := 14) 0 rfl rfl d_BM_best_14 ?_
      refine a_getI (pc := 15) fg_BM_476 sx_151 rfl d_BM_best_15 ?_
      refine a_goto (pc := 18) 42 (by decide) d_BM_best_18 ?_
      exact b_iret (pc := 42) rfl d_BM_best_42 h
theorem ko_BM_best {g : Gx}  {x1 : Int32} {σ : St} {Q : Int32 → St → Prop} (h : S_BM_best_0 g Q σ x1) : K_BM_best g x1 σ Q := KI.of (show plainName "BallBoxModel" = true by decide) (Nat.le_of_ble_eq_true rfl) h
theorem d_BM_chipped_0 : decode c_BM_chipped 0 = .ok (.aload_n 0, 1) := by decide +kernel
theorem d_BM_chipped_1 : decode c_BM_chipped 1 = .ok (.invokevirtual 391, 3) := by decide +kernel
theorem d_BM_chipped_4 : decode c_BM_chipped 4 = .ok (.ifCond .eq 15, 3) := by decide +kernel
theorem d_BM_chipped_7 : decode c_BM_chipped 7 = .ok (.iload_n 1, 1) := by decide +kernel
theorem d_BM_chipped_8 : decode c_BM_chipped 8 = .ok (.i2l, 1) := by decide +kernel
theorem d_BM_chipped_9 : decode c_BM_chipped 9 = .ok (.lconst 0, 1) := by decide +kernel
theorem d_BM_chipped_10 : decode c_BM_chipped 10 = .ok (.ldc2_w 479, 3) := by decide +kernel
theorem d_BM_chipped_13 : decode c_BM_chipped 13 = .ok (.invokestatic 162, 3) := by decide +kernel
theorem d_BM_chipped_16 : decode c_BM_chipped 16 = .ok (.ifCond .ne 5, 3) := by decide +kernel
theorem d_BM_chipped_19 : decode c_BM_chipped 19 = .ok (.iconst (-1), 1) := by decide +kernel
theorem d_BM_chipped_20 : decode c_BM_chipped 20 = .ok (.ireturn, 1) := by decide +kernel
theorem d_BM_chipped_21 : decode c_BM_chipped 21 = .ok (.aload_n 0, 1) := by decide +kernel
theorem d_BM_chipped_22 : decode c_BM_chipped 22 = .ok (.invokevirtual 481, 3) := by decide +kernel
theorem d_BM_chipped_25 : decode c_BM_chipped 25 = .ok (.aload_n 0, 1) := by decide +kernel
theorem d_BM_chipped_26 : decode c_BM_chipped 26 = .ok (.iload_n 1, 1) := by decide +kernel
theorem d_BM_chipped_27 : decode c_BM_chipped 27 = .ok (.invokevirtual 484, 3) := by decide +kernel
theorem d_BM_chipped_30 : decode c_BM_chipped 30 = .ok (.ireturn, 1) := by decide +kernel
def S_BM_chipped_0 (g : Gx) (Q : Int32 → St → Prop) (σ : St) (x1 : Int32) : Prop := Ax g m_BM_chipped 0 0 (ZI g Q) SH σ 0 0 0 [(0, .ref (gB g + 151)), (1, .int x1)] []
theorem sg_BM_chipped_0 {g : Gx} {Q : Int32 → St → Prop} {σ : St} {x1 : Int32}
    (h : K_BM_isBox g σ (fun (r2 : Int32) (s1 : St) => (r2 = 0 → Q (-1 : Int32) s1) ∧ (¬ r2 = 0 → K_BM_in g ((x1).toInt64) (0 : Int64) (2 : Int64) s1 (fun (r4 : Int32) (s3 : St) => (¬ r4 = 0 → K_BM_findsChipped g s3 (fun s5 : St => K_BM_best g x1 s5 (fun (r7 : Int32) (s6 : St) => Q r7 s6))) ∧ (r4 = 0 → Q (-1 : Int32) s3))))) : S_BM_chipped_0 g Q σ x1 := by
  show Ax g m_BM_chipped 0 0 (ZI g Q) SH σ 0 0 0 [(0, .ref (gB g + 151)), (1, .int x1)] []
  refine a_aload_n (pc := 0) 0 rfl rfl d_BM_chipped_0 ?_
  refine a_callV (pc := 1) (M' := m_BM_isBox) (As := []) (st := []) (mc' := 0) (ms' := 0) lk_BM_391 rfl sx_151 rfl (by decide) (by decide) rfl (Nat.le_of_ble_eq_true rfl) (Nat.le_refl 0) (Nat.le_refl 0) d_BM_chipped_1 h ?_
  rintro _ _ s1 ⟨r2, rfl, rfl, h⟩ -
  show Ax g m_BM_chipped 0 0 (ZI g Q) SH s1 0 0 4 [(0, .ref (gB g + 151)), (1, .int x1)] [.int r2]
  refine a_if_eq (pc := 4) 19 (by decide) d_BM_chipped_4 ⟨fun c0 => ?_, fun c0 => ?_⟩
  · replace h := h.1 c0
    refine a_iconst (pc := 19) (-1 : Int32) (by decide) d_BM_chipped_19 ?_
    exact b_iret (pc := 20) rfl d_BM_chipped_20 h
  · replace h := h.2 c0
    refine a_iload_n (pc := 7) 1 rfl rfl d_BM_chipped_7 ?_
    refine a_i2l (pc := 8) d_BM_chipped_8 ?_
    refine a_lconst (pc := 9) (0 : Int64) (by decide) d_BM_chipped_9 ?_
    refine a_ldc2 (pc := 10) tw1815 d_BM_chipped_10 ?_
    refine a_callS (pc := 13) (M' := m_BM_in) (As := [.long ((x1).toInt64), .long (0 : Int64), .long (2 : Int64)]) (st := []) (mc' := 0) (ms' := 0) lk_BM_162 rfl (by decide) (by decide) rfl (Nat.le_of_ble_eq_true rfl) (Nat.le_refl 0) (Nat.le_refl 0) d_BM_chipped_13 h ?_
    rintro _ _ s3 ⟨r4, rfl, rfl, h⟩ -
    show Ax g m_BM_chipped 0 0 (ZI g Q) SH s3 0 0 16 [(0, .ref (gB g + 151)), (1, .int x1)] [.int r4]
    refine a_if_ne (pc := 16) 21 (by decide) d_BM_chipped_16 ⟨fun c0 => ?_, fun c0 => ?_⟩
    · replace h := h.1 c0
      refine a_aload_n (pc := 21) 0 rfl rfl d_BM_chipped_21 ?_
      refine a_callV (pc := 22) (M' := m_BM_findsChipped) (As := []) (st := []) (mc' := 0) (ms' := 0) lk_BM_481 rfl sx_151 rfl (by decide) (by decide) rfl (Nat.le_of_ble_eq_true rfl) (Nat.le_refl 0) (Nat.le_refl 0) d_BM_chipped_22 h ?_
      rintro _ _ s5 ⟨rfl, rfl, h⟩ -
      show Ax g m_BM_chipped 0 0 (ZI g Q) SH s5 0 0 25 [(0, .ref (gB g + 151)), (1, .int x1)] []
      refine a_aload_n (pc := 25) 0 rfl rfl d_BM_chipped_25 ?_
      refine a_iload_n (pc := 26) 1 rfl rfl d_BM_chipped_26 ?_
      refine a_callV (pc := 27) (M' := m_BM_best) (As := [.int x1]) (st := []) (mc' := 0) (ms' := 0) lk_BM_484 rfl sx_151 rfl (by decide) (by decide) rfl (Nat.le_of_ble_eq_true rfl) (Nat.le_refl 0) (Nat.le_refl 0) d_BM_chipped_27 h ?_
      rintro _ _ s6 ⟨r7, rfl, rfl, h⟩ -
      show Ax g m_BM_chipped 0 0 (ZI g Q) SH s6 0 0 30 [(0, .ref (gB g + 151)), (1, .int x1)] [.int r7]
      exact b_iret (pc := 30) rfl d_BM_chipped_30 h
    · replace h := h.2 c0
      refine a_iconst (pc := 19) (-1 : Int32) (by decide) d_BM_chipped_19 ?_
      exact b_iret (pc := 20) rfl d_BM_chipped_20 h
theorem ko_BM_chipped {g : Gx}  {x1 : Int32} {σ : St} {Q : Int32 → St → Prop} (h : S_BM_chipped_0 g Q σ x1) : K_BM_chipped g x1 σ Q := KI.of (show plainName "BallBoxModel" = true by decide) (Nat.le_of_ble_eq_true rfl) h
theorem d_BM_walled_0 : decode c_BM_walled 0 = .ok (.aload_n 0, 1) := by decide +kernel
theorem d_BM_walled_1 : decode c_BM_walled 1 = .ok (.invokevirtual 391, 3) := by decide +kernel
theorem d_BM_walled_4 : decode c_BM_walled 4 = .ok (.ifCond .eq 15, 3) := by decide +kernel
theorem d_BM_walled_7 : decode c_BM_walled 7 = .ok (.iload_n 1, 1) := by decide +kernel
theorem d_BM_walled_8 : decode c_BM_walled 8 = .ok (.i2l, 1) := by decide +kernel
theorem d_BM_walled_9 : decode c_BM_walled 9 = .ok (.lconst 0, 1) := by decide +kernel
theorem d_BM_walled_10 : decode c_BM_walled 10 = .ok (.ldc2_w 479, 3) := by decide +kernel
theorem d_BM_walled_13 : decode c_BM_walled 13 = .ok (.invokestatic 162, 3) := by decide +kernel
theorem d_BM_walled_16 : decode c_BM_walled 16 = .ok (.ifCond .ne 5, 3) := by decide +kernel
theorem d_BM_walled_19 : decode c_BM_walled 19 = .ok (.iconst (-1), 1) := by decide +kernel
theorem d_BM_walled_20 : decode c_BM_walled 20 = .ok (.ireturn, 1) := by decide +kernel
theorem d_BM_walled_21 : decode c_BM_walled 21 = .ok (.aload_n 0, 1) := by decide +kernel
theorem d_BM_walled_22 : decode c_BM_walled 22 = .ok (.invokevirtual 487, 3) := by decide +kernel
theorem d_BM_walled_25 : decode c_BM_walled 25 = .ok (.aload_n 0, 1) := by decide +kernel
theorem d_BM_walled_26 : decode c_BM_walled 26 = .ok (.iload_n 1, 1) := by decide +kernel
theorem d_BM_walled_27 : decode c_BM_walled 27 = .ok (.invokevirtual 484, 3) := by decide +kernel
theorem d_BM_walled_30 : decode c_BM_walled 30 = .ok (.ireturn, 1) := by decide +kernel
def S_BM_walled_0 (g : Gx) (Q : Int32 → St → Prop) (σ : St) (x1 : Int32) : Prop := Ax g m_BM_walled 0 0 (ZI g Q) SH σ 0 0 0 [(0, .ref (gB g + 151)), (1, .int x1)] []
theorem sg_BM_walled_0 {g : Gx} {Q : Int32 → St → Prop} {σ : St} {x1 : Int32}
    (h : K_BM_isBox g σ (fun (r2 : Int32) (s1 : St) => (r2 = 0 → Q (-1 : Int32) s1) ∧ (¬ r2 = 0 → K_BM_in g ((x1).toInt64) (0 : Int64) (2 : Int64) s1 (fun (r4 : Int32) (s3 : St) => (¬ r4 = 0 → K_BM_findsWalled g s3 (fun s5 : St => K_BM_best g x1 s5 (fun (r7 : Int32) (s6 : St) => Q r7 s6))) ∧ (r4 = 0 → Q (-1 : Int32) s3))))) : S_BM_walled_0 g Q σ x1 := by
  show Ax g m_BM_walled 0 0 (ZI g Q) SH σ 0 0 0 [(0, .ref (gB g + 151)), (1, .int x1)] []
  refine a_aload_n (pc := 0) 0 rfl rfl d_BM_walled_0 ?_
  refine a_callV (pc := 1) (M' := m_BM_isBox) (As := []) (st := []) (mc' := 0) (ms' := 0) lk_BM_391 rfl sx_151 rfl (by decide) (by decide) rfl (Nat.le_of_ble_eq_true rfl) (Nat.le_refl 0) (Nat.le_refl 0) d_BM_walled_1 h ?_
  rintro _ _ s1 ⟨r2, rfl, rfl, h⟩ -
  show Ax g m_BM_walled 0 0 (ZI g Q) SH s1 0 0 4 [(0, .ref (gB g + 151)), (1, .int x1)] [.int r2]
  refine a_if_eq (pc := 4) 19 (by decide) d_BM_walled_4 ⟨fun c0 => ?_, fun c0 => ?_⟩
  · replace h := h.1 c0
    refine a_iconst (pc := 19) (-1 : Int32) (by decide) d_BM_walled_19 ?_
    exact b_iret (pc := 20) rfl d_BM_walled_20 h
  · replace h := h.2 c0
    refine a_iload_n (pc := 7) 1 rfl rfl d_BM_walled_7 ?_
    refine a_i2l (pc := 8) d_BM_walled_8 ?_
    refine a_lconst (pc := 9) (0 : Int64) (by decide) d_BM_walled_9 ?_
    refine a_ldc2 (pc := 10) tw1815 d_BM_walled_10 ?_
    refine a_callS (pc := 13) (M' := m_BM_in) (As := [.long ((x1).toInt64), .long (0 : Int64), .long (2 : Int64)]) (st := []) (mc' := 0) (ms' := 0) lk_BM_162 rfl (by decide) (by decide) rfl (Nat.le_of_ble_eq_true rfl) (Nat.le_refl 0) (Nat.le_refl 0) d_BM_walled_13 h ?_
    rintro _ _ s3 ⟨r4, rfl, rfl, h⟩ -
    show Ax g m_BM_walled 0 0 (ZI g Q) SH s3 0 0 16 [(0, .ref (gB g + 151)), (1, .int x1)] [.int r4]
    refine a_if_ne (pc := 16) 21 (by decide) d_BM_walled_16 ⟨fun c0 => ?_, fun c0 => ?_⟩
    · replace h := h.1 c0
      refine a_aload_n (pc := 21) 0 rfl rfl d_BM_walled_21 ?_
      refine a_callV (pc := 22) (M' := m_BM_findsWalled) (As := []) (st := []) (mc' := 0) (ms' := 0) lk_BM_487 rfl sx_151 rfl (by decide) (by decide) rfl (Nat.le_of_ble_eq_true rfl) (Nat.le_refl 0) (Nat.le_refl 0) d_BM_walled_22 h ?_
      rintro _ _ s5 ⟨rfl, rfl, h⟩ -
      show Ax g m_BM_walled 0 0 (ZI g Q) SH s5 0 0 25 [(0, .ref (gB g + 151)), (1, .int x1)] []
      refine a_aload_n (pc := 25) 0 rfl rfl d_BM_walled_25 ?_
      refine a_iload_n (pc := 26) 1 rfl rfl d_BM_walled_26 ?_
      refine a_callV (pc := 27) (M' := m_BM_best) (As := [.int x1]) (st := []) (mc' := 0) (ms' := 0) lk_BM_484 rfl sx_151 rfl (by decide) (by decide) rfl (Nat.le_of_ble_eq_true rfl) (Nat.le_refl 0) (Nat.le_refl 0) d_BM_walled_27 h ?_
      rintro _ _ s6 ⟨r7, rfl, rfl, h⟩ -
      show Ax g m_BM_walled 0 0 (ZI g Q) SH s6 0 0 30 [(0, .ref (gB g + 151)), (1, .int x1)] [.int r7]
      exact b_iret (pc := 30) rfl d_BM_walled_30 h
    · replace h := h.2 c0
      refine a_iconst (pc := 19) (-1 : Int32) (by decide) d_BM_walled_19 ?_
      exact b_iret (pc := 20) rfl d_BM_walled_20 h
theorem ko_BM_walled {g : Gx}  {x1 : Int32} {σ : St} {Q : Int32 → St → Prop} (h : S_BM_walled_0 g Q σ x1) : K_BM_walled g x1 σ Q := KI.of (show plainName "BallBoxModel" = true by decide) (Nat.le_of_ble_eq_true rfl) h
theorem d_BM_fillsFar_0 : decode c_BM_fillsFar 0 = .ok (.aload_n 0, 1) := by decide +kernel
theorem d_BM_fillsFar_1 : decode c_BM_fillsFar 1 = .ok (.invokevirtual 452, 3) := by decide +kernel
theorem d_BM_fillsFar_4 : decode c_BM_fillsFar 4 = .ok (.iconst 0, 1) := by decide +kernel
theorem d_BM_fillsFar_5 : decode c_BM_fillsFar 5 = .ok (.istore_n 1, 1) := by decide +kernel
theorem d_BM_fillsFar_6 : decode c_BM_fillsFar 6 = .ok (.iload_n 1, 1) := by decide +kernel
theorem d_BM_fillsFar_7 : decode c_BM_fillsFar 7 = .ok (.sipush 1444, 3) := by decide +kernel
theorem d_BM_fillsFar_10 : decode c_BM_fillsFar 10 = .ok (.if_icmp .ge 29, 3) := by decide +kernel
theorem d_BM_fillsFar_13 : decode c_BM_fillsFar 13 = .ok (.aload_n 0, 1) := by decide +kernel
theorem d_BM_fillsFar_14 : decode c_BM_fillsFar 14 = .ok (.getfield 113, 3) := by decide +kernel
theorem d_BM_fillsFar_17 : decode c_BM_fillsFar 17 = .ok (.iload_n 1, 1) := by decide +kernel
theorem d_BM_fillsFar_18 : decode c_BM_fillsFar 18 = .ok (.aload_n 0, 1) := by decide +kernel
theorem d_BM_fillsFar_19 : decode c_BM_fillsFar 19 = .ok (.iload_n 1, 1) := by decide +kernel
theorem d_BM_fillsFar_20 : decode c_BM_fillsFar 20 = .ok (.invokevirtual 449, 3) := by decide +kernel
theorem d_BM_fillsFar_23 : decode c_BM_fillsFar 23 = .ok (.ifCond .eq 7, 3) := by decide +kernel
theorem d_BM_fillsFar_26 : decode c_BM_fillsFar 26 = .ok (.iconst 0, 1) := by decide +kernel
theorem d_BM_fillsFar_27 : decode c_BM_fillsFar 27 = .ok (.goto 5, 3) := by decide +kernel
theorem d_BM_fillsFar_30 : decode c_BM_fillsFar 30 = .ok (.bipush (-2), 2) := by decide +kernel
theorem d_BM_fillsFar_32 : decode c_BM_fillsFar 32 = .ok (.iastore, 1) := by decide +kernel
theorem d_BM_fillsFar_33 : decode c_BM_fillsFar 33 = .ok (.iinc 1 1, 3) := by decide +kernel
theorem d_BM_fillsFar_36 : decode c_BM_fillsFar 36 = .ok (.goto (-30), 3) := by decide +kernel
theorem d_BM_fillsFar_39 : decode c_BM_fillsFar 39 = .ok (.iconst 1, 1) := by decide +kernel
theorem d_BM_fillsFar_40 : decode c_BM_fillsFar 40 = .ok (.istore_n 1, 1) := by decide +kernel
theorem d_BM_fillsFar_41 : decode c_BM_fillsFar 41 = .ok (.iconst 0, 1) := by decide +kernel
theorem d_BM_fillsFar_42 : decode c_BM_fillsFar 42 = .ok (.istore_n 2, 1) := by decide +kernel
theorem d_BM_fillsFar_43 : decode c_BM_fillsFar 43 = .ok (.iload_n 1, 1) := by decide +kernel
theorem d_BM_fillsFar_44 : decode c_BM_fillsFar 44 = .ok (.ifCond .eq 83, 3) := by decide +kernel
theorem d_BM_fillsFar_47 : decode c_BM_fillsFar 47 = .ok (.iconst 0, 1) := by decide +kernel
theorem d_BM_fillsFar_48 : decode c_BM_fillsFar 48 = .ok (.istore_n 1, 1) := by decide +kernel
theorem d_BM_fillsFar_49 : decode c_BM_fillsFar 49 = .ok (.iconst 0, 1) := by decide +kernel
theorem d_BM_fillsFar_50 : decode c_BM_fillsFar 50 = .ok (.istore_n 3, 1) := by decide +kernel
theorem d_BM_fillsFar_51 : decode c_BM_fillsFar 51 = .ok (.iload_n 3, 1) := by decide +kernel
theorem d_BM_fillsFar_52 : decode c_BM_fillsFar 52 = .ok (.sipush 1444, 3) := by decide +kernel
theorem d_BM_fillsFar_55 : decode c_BM_fillsFar 55 = .ok (.if_icmp .ge 66, 3) := by decide +kernel
theorem d_BM_fillsFar_58 : decode c_BM_fillsFar 58 = .ok (.iconst 0, 1) := by decide +kernel
theorem d_BM_fillsFar_59 : decode c_BM_fillsFar 59 = .ok (.istore 4, 2) := by decide +kernel
theorem d_BM_fillsFar_61 : decode c_BM_fillsFar 61 = .ok (.iload 4, 2) := by decide +kernel
theorem d_BM_fillsFar_63 : decode c_BM_fillsFar 63 = .ok (.iconst 4, 1) := by decide +kernel
theorem d_BM_fillsFar_64 : decode c_BM_fillsFar 64 = .ok (.if_icmp .ge 51, 3) := by decide +kernel
theorem d_BM_fillsFar_67 : decode c_BM_fillsFar 67 = .ok (.aload_n 0, 1) := by decide +kernel
theorem d_BM_fillsFar_68 : decode c_BM_fillsFar 68 = .ok (.getfield 113, 3) := by decide +kernel
theorem d_BM_fillsFar_71 : decode c_BM_fillsFar 71 = .ok (.iload_n 3, 1) := by decide +kernel
theorem d_BM_fillsFar_72 : decode c_BM_fillsFar 72 = .ok (.iaload, 1) := by decide +kernel
theorem d_BM_fillsFar_73 : decode c_BM_fillsFar 73 = .ok (.bipush (-2), 2) := by decide +kernel
theorem d_BM_fillsFar_75 : decode c_BM_fillsFar 75 = .ok (.if_icmp .ne 40, 3) := by decide +kernel
theorem d_BM_fillsFar_78 : decode c_BM_fillsFar 78 = .ok (.aload_n 0, 1) := by decide +kernel
theorem d_BM_fillsFar_79 : decode c_BM_fillsFar 79 = .ok (.getfield 113, 3) := by decide +kernel
theorem d_BM_fillsFar_82 : decode c_BM_fillsFar 82 = .ok (.aload_n 0, 1) := by decide +kernel
theorem d_BM_fillsFar_83 : decode c_BM_fillsFar 83 = .ok (.getfield 101, 3) := by decide +kernel
theorem d_BM_fillsFar_86 : decode c_BM_fillsFar 86 = .ok (.iconst 4, 1) := by decide +kernel
theorem d_BM_fillsFar_87 : decode c_BM_fillsFar 87 = .ok (.iload_n 3, 1) := by decide +kernel
theorem d_BM_fillsFar_88 : decode c_BM_fillsFar 88 = .ok (.imul, 1) := by decide +kernel
theorem d_BM_fillsFar_89 : decode c_BM_fillsFar 89 = .ok (.iload 4, 2) := by decide +kernel
theorem d_BM_fillsFar_91 : decode c_BM_fillsFar 91 = .ok (.iadd, 1) := by decide +kernel
theorem d_BM_fillsFar_92 : decode c_BM_fillsFar 92 = .ok (.iaload, 1) := by decide +kernel
theorem d_BM_fillsFar_93 : decode c_BM_fillsFar 93 = .ok (.iaload, 1) := by decide +kernel
theorem d_BM_fillsFar_94 : decode c_BM_fillsFar 94 = .ok (.iload_n 2, 1) := by decide +kernel
theorem d_BM_fillsFar_95 : decode c_BM_fillsFar 95 = .ok (.if_icmp .ne 14, 3) := by decide +kernel
theorem d_BM_fillsFar_98 : decode c_BM_fillsFar 98 = .ok (.aload_n 0, 1) := by decide +kernel
theorem d_BM_fillsFar_99 : decode c_BM_fillsFar 99 = .ok (.getfield 113, 3) := by decide +kernel
theorem d_BM_fillsFar_102 : decode c_BM_fillsFar 102 = .ok (.iload_n 3, 1) := by decide +kernel
theorem d_BM_fillsFar_103 : decode c_BM_fillsFar 103 = .ok (.iload_n 2, 1) := by decide +kernel
theorem d_BM_fillsFar_104 : decode c_BM_fillsFar 104 = .ok (.iconst 1, 1) := by decide +kernel
theorem d_BM_fillsFar_105 : decode c_BM_fillsFar 105 = .ok (.iadd, 1) := by decide +kernel
theorem d_BM_fillsFar_106 : decode c_BM_fillsFar 106 = .ok (.iastore, 1) := by decide +kernel
theorem d_BM_fillsFar_107 : decode c_BM_fillsFar 107 = .ok (.iconst 1, 1) := by decide +kernel
theorem d_BM_fillsFar_108 : decode c_BM_fillsFar 108 = .ok (.istore_n 1, 1) := by decide +kernel
theorem d_BM_fillsFar_109 : decode c_BM_fillsFar 109 = .ok (.iinc 4 1, 3) := by decide +kernel
theorem d_BM_fillsFar_112 : decode c_BM_fillsFar 112 = .ok (.goto (-51), 3) := by decide +kernel
theorem d_BM_fillsFar_115 : decode c_BM_fillsFar 115 = .ok (.iinc 3 1, 3) := by decide +kernel
theorem d_BM_fillsFar_118 : decode c_BM_fillsFar 118 = .ok (.goto (-67), 3) := by decide +kernel
theorem d_BM_fillsFar_121 : decode c_BM_fillsFar 121 = .ok (.iinc 2 1, 3) := by decide +kernel
theorem d_BM_fillsFar_124 : decode c_BM_fillsFar 124 = .ok (.goto (-81), 3) := by decide +kernel
theorem d_BM_fillsFar_127 : decode c_BM_fillsFar 127 = .ok (.return_, 1) := by decide +kernel
def S_BM_fillsFar_0 (g : Gx) (Q : St → Prop) (σ : St) : Prop := Ax g m_BM_fillsFar 0 0 (ZV g Q) SH σ 0 0 0 [(0, .ref (gB g + 151))] []
def S_BM_fillsFar_6 (g : Gx) (Q : St → Prop) (σ : St) (x1 : Int32) : Prop := Ax g m_BM_fillsFar 0 0 (ZV g Q) SH σ 0 0 6 [(0, .ref (gB g + 151)), (1, .int x1)] []
def S_BM_fillsFar_43 (g : Gx) (Q : St → Prop) (σ : St) (x1 : Int32) (x2 : Int32) : Prop := Ax g m_BM_fillsFar 0 0 (ZV g Q) SH σ 0 0 43 [(0, .ref (gB g + 151)), (1, .int x1), (2, .int x2)] []
def S_BM_fillsFar_51 (g : Gx) (Q : St → Prop) (σ : St) (x1 : Int32) (x2 : Int32) (x3 : Int32) : Prop := Ax g m_BM_fillsFar 0 0 (ZV g Q) SH σ 0 0 51 [(0, .ref (gB g + 151)), (1, .int x1), (2, .int x2), (3, .int x3)] []
def S_BM_fillsFar_61 (g : Gx) (Q : St → Prop) (σ : St) (x1 : Int32) (x2 : Int32) (x3 : Int32) (x4 : Int32) : Prop := Ax g m_BM_fillsFar 0 0 (ZV g Q) SH σ 0 0 61 [(0, .ref (gB g + 151)), (1, .int x1), (2, .int x2), (3, .int x3), (4, .int x4)] []
theorem sg_BM_fillsFar_0 {g : Gx} {Q : St → Prop} {σ : St}
    (h : K_BM_fillsNext g σ (fun s1 : St => S_BM_fillsFar_6 g Q s1 (0 : Int32))) : S_BM_fillsFar_0 g Q σ := by
  show Ax g m_BM_fillsFar 0 0 (ZV g Q) SH σ 0 0 0 [(0, .ref (gB g + 151))] []
  refine a_aload_n (pc := 0) 0 rfl rfl d_BM_fillsFar_0 ?_
  refine a_callV (pc := 1) (M' := m_BM_fillsNext) (As := []) (st := []) (mc' := 0) (ms' := 0) lk_BM_452 rfl sx_151 rfl (by decide) (by decide) rfl (Nat.le_of_ble_eq_true rfl) (Nat.le_refl 0) (Nat.le_refl 0) d_BM_fillsFar_1 h ?_
  rintro _ _ s1 ⟨rfl, rfl, h⟩ -
  show Ax g m_BM_fillsFar 0 0 (ZV g Q) SH s1 0 0 4 [(0, .ref (gB g + 151))] []
  refine a_iconst (pc := 4) (0 : Int32) (by decide) d_BM_fillsFar_4 ?_
  refine a_istore_n (pc := 5) (lv' := [(1, .int (0 : Int32)), (0, .ref (gB g + 151))]) rfl (Nat.le_of_ble_eq_true rfl) rfl d_BM_fillsFar_5 ?_
  refine a_sub (pc := 6) [1, 0] rfl ?_
  exact h
theorem sg_BM_fillsFar_6 {g : Gx} {Q : St → Prop} {σ : St} {x1 : Int32}
    (h : ((1444 : Int32) ≤ x1 → S_BM_fillsFar_43 g Q σ (1 : Int32) (0 : Int32)) ∧ (¬ (1444 : Int32) ≤ x1 → K_BM_isWhole g x1 σ (fun (r2 : Int32) (s1 : St) => (r2 = 0 → vp_in x1 1444 ∧ (∀ s3 : St, s3 = sai s1 184 (x1).toNatClampNeg (-2 : Int32) → ∀ u4 : Int32, u4 = x1 + (1 : Int32) → S_BM_fillsFar_6 g Q s3 u4)) ∧ (¬ r2 = 0 → vp_in x1 1444 ∧ (∀ s5 : St, s5 = sai s1 184 (x1).toNatClampNeg (0 : Int32) → ∀ u6 : Int32, u6 = x1 + (1 : Int32) → S_BM_fillsFar_6 g Q s5 u6))))) : S_BM_fillsFar_6 g Q σ x1 := by
  show Ax g m_BM_fillsFar 0 0 (ZV g Q) SH σ 0 0 6 [(0, .ref (gB g + 151)), (1, .int x1)] []
  refine a_iload_n (pc := 6) 1 rfl rfl d_BM_fillsFar_6 ?_
  refine a_sipush (pc := 7) (1444 : Int32) (by decide) d_BM_fillsFar_7 ?_
  refine a_icmp_ge (pc := 10) 39 (by decide) d_BM_fillsFar_10 ⟨fun c0 => ?_, fun c0 => ?_⟩
  · replace h := h.1 c0
    refine a_iconst (pc := 39) (1 : Int32) (by decide) d_BM_fillsFar_39 ?_
    refine a_istore_n (pc := 40) (lv' := [(1, .int (1 : Int32)), (0, .ref (gB g + 151))]) rfl (Nat.le_of_ble_eq_true rfl) rfl d_BM_fillsFar_40 ?_
    refine a_iconst (pc := 41) (0 : Int32) (by decide) d_BM_fillsFar_41 ?_
    refine a_istore_n (pc := 42) (lv' := [(2, .int (0 : Int32)), (1, .int (1 : Int32)), (0, .ref (gB g + 151))]) rfl (Nat.le_of_ble_eq_true rfl) rfl d_BM_fillsFar_42 ?_
    refine a_sub (pc := 43) [2, 1, 0] rfl ?_
    exact h
  · replace h := h.2 c0
    refine a_aload_n (pc := 13) 0 rfl rfl d_BM_fillsFar_13 ?_
    refine a_getR (pc := 14) fg_BM_113 sx_151 rfl d_BM_fillsFar_14 ?_
    refine a_iload_n (pc := 17) 1 rfl rfl d_BM_fillsFar_17 ?_
    refine a_aload_n (pc := 18) 0 rfl rfl d_BM_fillsFar_18 ?_
    refine a_iload_n (pc := 19) 1 rfl rfl d_BM_fillsFar_19 ?_
    refine a_callV (pc := 20) (M' := m_BM_isWhole) (As := [.int x1]) (st := [.int x1, .ref (gB g + 184)]) (mc' := 0) (ms' := 0) lk_BM_449 rfl sx_151 rfl (by decide) (by decide) rfl (Nat.le_of_ble_eq_true rfl) (Nat.le_refl 0) (Nat.le_refl 0) d_BM_fillsFar_20 h ?_
    rintro _ _ s1 ⟨r2, rfl, rfl, h⟩ -
    show Ax g m_BM_fillsFar 0 0 (ZV g Q) SH s1 0 0 23 [(0, .ref (gB g + 151)), (1, .int x1)] [.int r2, .int x1, .ref (gB g + 184)]
    refine a_if_eq (pc := 23) 30 (by decide) d_BM_fillsFar_23 ⟨fun c0 => ?_, fun c0 => ?_⟩
    · replace h := h.1 c0
      refine a_bipush (pc := 30) (-2 : Int32) (by decide) d_BM_fillsFar_30 ?_
      obtain ⟨hx, h⟩ := h
      refine a_iast (pc := 32) sx_184 hx d_BM_fillsFar_32 ?_
      refine a_nms (fun s3 hs3 => ?_)
      replace h := h s3 hs3
      obtain ⟨u4, hu4⟩ : ∃ y : Int32, y = x1 + (1 : Int32) := ⟨_, rfl⟩
      replace h := h u4 hu4
      refine a_iinc (pc := 33) (v := u4) (lv' := [(1, .int u4), (0, .ref (gB g + 151))]) 1 rfl (by rw [hu4]; rfl) (Nat.le_of_ble_eq_true rfl) rfl d_BM_fillsFar_33 ?_
      refine a_goto (pc := 36) 6 (by decide) d_BM_fillsFar_36 ?_
      refine a_sub (pc := 6) [1, 0] rfl ?_
      exact h
    · replace h := h.2 c0
      refine a_iconst (pc := 26) (0 : Int32) (by decide) d_BM_fillsFar_26 ?_
      refine a_goto (pc := 27) 32 (by decide) d_BM_fillsFar_27 ?_
      obtain ⟨hx, h⟩ := h
      refine a_iast (pc := 32) sx_184 hx d_BM_fillsFar_32 ?_
      refine a_nms (fun s5 hs5 => ?_)
      replace h := h s5 hs5
      obtain ⟨u6, hu6⟩ : ∃ y : Int32, y = x1 + (1 : Int32) := ⟨_, rfl⟩
      replace h := h u6 hu6
      refine a_iinc (pc := 33) (v := u6) (lv' := [(1, .int u6), (0, .ref (gB g + 151))]) 1 rfl (by rw [hu6]; rfl) (Nat.le_of_ble_eq_true rfl) rfl d_BM_fillsFar_33 ?_
      refine a_goto (pc := 36) 6 (by decide) d_BM_fillsFar_36 ?_
      refine a_sub (pc := 6) [1, 0] rfl ?_
      exact h
theorem sg_BM_fillsFar_43 {g : Gx} {Q : St → Prop} {σ : St} {x1 : Int32} {x2 : Int32}
    (h : (x1 = 0 → Q σ) ∧ (¬ x1 = 0 → S_BM_fillsFar_51 g Q σ (0 : Int32) x2 (0 : Int32))) : S_BM_fillsFar_43 g Q σ x1 x2 := by
  show Ax g m_BM_fillsFar 0 0 (ZV g Q) SH σ 0 0 43 [(0, .ref (gB g + 151)), (1, .int x1), (2, .int x2)] []
  refine a_iload_n (pc := 43) 1 rfl rfl d_BM_fillsFar_43 ?_
  refine a_if_eq (pc := 44) 127 (by decide) d_BM_fillsFar_44 ⟨fun c0 => ?_, fun c0 => ?_⟩
  · replace h := h.1 c0
    exact b_vret (pc := 127) rfl d_BM_fillsFar_127 h
  · replace h := h.2 c0
    refine a_iconst (pc := 47) (0 : Int32) (by decide) d_BM_fillsFar_47 ?_
    refine a_istore_n (pc := 48) (lv' := [(1, .int (0 : Int32)), (0, .ref (gB g + 151)), (2, .int x2)]) rfl (Nat.le_of_ble_eq_true rfl) rfl d_BM_fillsFar_48 ?_
    refine a_iconst (pc := 49) (0 : Int32) (by decide) d_BM_fillsFar_49 ?_
    refine a_istore_n (pc := 50) (lv' := [(3, .int (0 : Int32)), (1, .int (0 : Int32)), (0, .ref (gB g + 151)), (2, .int x2)]) rfl (Nat.le_of_ble_eq_true rfl) rfl d_BM_fillsFar_50 ?_
    refine a_sub (pc := 51) [2, 1, 3, 0] rfl ?_
    exact h
theorem sg_BM_fillsFar_51 {g : Gx} {Q : St → Prop} {σ : St} {x1 : Int32} {x2 : Int32} {x3 : Int32}
    (h : ((1444 : Int32) ≤ x3 → ∀ u1 : Int32, u1 = x2 + (1 : Int32) → S_BM_fillsFar_43 g Q σ x1 u1) ∧ (¬ (1444 : Int32) ≤ x3 → S_BM_fillsFar_61 g Q σ x1 x2 x3 (0 : Int32))) : S_BM_fillsFar_51 g Q σ x1 x2 x3 := by
  show Ax g m_BM_fillsFar 0 0 (ZV g Q) SH σ 0 0 51 [(0, .ref (gB g + 151)), (1, .int x1), (2, .int x2), (3, .int x3)] []
  refine a_iload_n (pc := 51) 3 rfl rfl d_BM_fillsFar_51 ?_
  refine a_sipush (pc := 52) (1444 : Int32) (by decide) d_BM_fillsFar_52 ?_
  refine a_icmp_ge (pc := 55) 121 (by decide) d_BM_fillsFar_55 ⟨fun c0 => ?_, fun c0 => ?_⟩
  · replace h := h.1 c0
    obtain ⟨u1, hu1⟩ : ∃ y : Int32, y = x2 + (1 : Int32) := ⟨_, rfl⟩
    replace h := h u1 hu1
    refine a_iinc (pc := 121) (v := u1) (lv' := [(2, .int u1), (0, .ref (gB g + 151)), (1, .int x1), (3, .int x3)]) 2 rfl (by rw [hu1]; rfl) (Nat.le_of_ble_eq_true rfl) rfl d_BM_fillsFar_121 ?_
    refine a_goto (pc := 124) 43 (by decide) d_BM_fillsFar_124 ?_
    refine a_sub (pc := 43) [1, 2, 0] rfl ?_
    exact h
  · replace h := h.2 c0
    refine a_iconst (pc := 58) (0 : Int32) (by decide) d_BM_fillsFar_58 ?_
    refine a_istore (pc := 59) (lv' := [(4, .int (0 : Int32)), (0, .ref (gB g + 151)), (1, .int x1), (2, .int x2), (3, .int x3)]) (Nat.le_of_ble_eq_true rfl) rfl d_BM_fillsFar_59 ?_
    refine a_sub (pc := 61) [1, 2, 3, 4, 0] rfl ?_
    exact h
theorem sg_BM_fillsFar_61 {g : Gx} {Q : St → Prop} {σ : St} {x1 : Int32} {x2 : Int32} {x3 : Int32} {x4 : Int32}
    (h : ((4 : Int32) ≤ x4 → ∀ u1 : Int32, u1 = x3 + (1 : Int32) → S_BM_fillsFar_51 g Q σ x1 x2 u1) ∧ (¬ (4 : Int32) ≤ x4 → vp_in x3 1444 ∧ ((¬ (ai σ 184 (x3).toNatClampNeg) = (-2 : Int32) → ∀ u2 : Int32, u2 = x3 + (1 : Int32) → S_BM_fillsFar_51 g Q σ x1 x2 u2) ∧ ((ai σ 184 (x3).toNatClampNeg) = (-2 : Int32) → vp_in (((4 : Int32) * x3) + x4) 5776 ∧ (vp_in (ai σ 180 ((((4 : Int32) * x3) + x4)).toNatClampNeg) 1444 ∧ ((¬ (ai σ 184 ((ai σ 180 ((((4 : Int32) * x3) + x4)).toNatClampNeg)).toNatClampNeg) = x2 → ∀ u3 : Int32, u3 = x4 + (1 : Int32) → S_BM_fillsFar_61 g Q σ x1 x2 x3 u3) ∧ ((ai σ 184 ((ai σ 180 ((((4 : Int32) * x3) + x4)).toNatClampNeg)).toNatClampNeg) = x2 → vp_in x3 1444 ∧ (∀ s4 : St, s4 = sai σ 184 (x3).toNatClampNeg (x2 + (1 : Int32)) → ∀ u5 : Int32, u5 = x4 + (1 : Int32) → S_BM_fillsFar_61 g Q s4 (1 : Int32) x2 x3 u5)))))))) : S_BM_fillsFar_61 g Q σ x1 x2 x3 x4 := by
  show Ax g m_BM_fillsFar 0 0 (ZV g Q) SH σ 0 0 61 [(0, .ref (gB g + 151)), (1, .int x1), (2, .int x2), (3, .int x3), (4, .int x4)] []
  refine a_iload (pc := 61) 4 rfl d_BM_fillsFar_61 ?_
  refine a_iconst (pc := 63) (4 : Int32) (by decide) d_BM_fillsFar_63 ?_
  refine a_icmp_ge (pc := 64) 115 (by decide) d_BM_fillsFar_64 ⟨fun c0 => ?_, fun c0 => ?_⟩
  · replace h := h.1 c0
    obtain ⟨u1, hu1⟩ : ∃ y : Int32, y = x3 + (1 : Int32) := ⟨_, rfl⟩
    replace h := h u1 hu1
    refine a_iinc (pc := 115) (v := u1) (lv' := [(3, .int u1), (0, .ref (gB g + 151)), (1, .int x1), (2, .int x2), (4, .int x4)]) 3 rfl (by rw [hu1]; rfl) (Nat.le_of_ble_eq_true rfl) rfl d_BM_fillsFar_115 ?_
    refine a_goto (pc := 118) 51 (by decide) d_BM_fillsFar_118 ?_
    refine a_sub (pc := 51) [1, 2, 3, 0] rfl ?_
    exact h
  · replace h := h.2 c0
    refine a_aload_n (pc := 67) 0 rfl rfl d_BM_fillsFar_67 ?_
    refine a_getR (pc := 68) fg_BM_113 sx_151 rfl d_BM_fillsFar_68 ?_
    refine a_iload_n (pc := 71) 3 rfl rfl d_BM_fillsFar_71 ?_
    obtain ⟨hx, h⟩ := h
    refine a_iald (pc := 72) sx_184 hx d_BM_fillsFar_72 ?_
    refine a_bipush (pc := 73) (-2 : Int32) (by decide) d_BM_fillsFar_73 ?_
    refine a_icmp_ne (pc := 75) 115 (by decide) d_BM_fillsFar_75 ⟨fun c0 => ?_, fun c0 => ?_⟩
    · replace h := h.1 c0
      obtain ⟨u2, hu2⟩ : ∃ y : Int32, y = x3 + (1 : Int32) := ⟨_, rfl⟩
      replace h := h u2 hu2
      refine a_iinc (pc := 115) (v := u2) (lv' := [(3, .int u2), (0, .ref (gB g + 151)), (1, .int x1), (2, .int x2), (4, .int x4)]) 3 rfl (by rw [hu2]; rfl) (Nat.le_of_ble_eq_true rfl) rfl d_BM_fillsFar_115 ?_
      refine a_goto (pc := 118) 51 (by decide) d_BM_fillsFar_118 ?_
      refine a_sub (pc := 51) [1, 2, 3, 0] rfl ?_
      exact h
    · replace h := h.2 c0
      refine a_aload_n (pc := 78) 0 rfl rfl d_BM_fillsFar_78 ?_
      refine a_getR (pc := 79) fg_BM_113 sx_151 rfl d_BM_fillsFar_79 ?_
      refine a_aload_n (pc := 82) 0 rfl rfl d_BM_fillsFar_82 ?_
      refine a_getR (pc := 83) fg_BM_101 sx_151 rfl d_BM_fillsFar_83 ?_
      refine a_iconst (pc := 86) (4 : Int32) (by decide) d_BM_fillsFar_86 ?_
      refine a_iload_n (pc := 87) 3 rfl rfl d_BM_fillsFar_87 ?_
      refine a_imul (pc := 88) d_BM_fillsFar_88 ?_
      refine a_iload (pc := 89) 4 rfl d_BM_fillsFar_89 ?_
      refine a_iadd (pc := 91) d_BM_fillsFar_91 ?_
      obtain ⟨hx, h⟩ := h
      refine a_iald (pc := 92) sx_180 hx d_BM_fillsFar_92 ?_
      obtain ⟨hx, h⟩ := h
      refine a_iald (pc := 93) sx_184 hx d_BM_fillsFar_93 ?_
      refine a_iload_n (pc := 94) 2 rfl rfl d_BM_fillsFar_94 ?_
      refine a_icmp_ne (pc := 95) 109 (by decide) d_BM_fillsFar_95 ⟨fun c0 => ?_, fun c0 => ?_⟩
      · replace h := h.1 c0
        obtain ⟨u3, hu3⟩ : ∃ y : Int32, y = x4 + (1 : Int32) := ⟨_, rfl⟩
        replace h := h u3 hu3
        refine a_iinc (pc := 109) (v := u3) (lv' := [(4, .int u3), (0, .ref (gB g + 151)), (1, .int x1), (2, .int x2), (3, .int x3)]) 4 rfl (by rw [hu3]; rfl) (Nat.le_of_ble_eq_true rfl) rfl d_BM_fillsFar_109 ?_
        refine a_goto (pc := 112) 61 (by decide) d_BM_fillsFar_112 ?_
        refine a_sub (pc := 61) [1, 2, 3, 4, 0] rfl ?_
        exact h
      · replace h := h.2 c0
        refine a_aload_n (pc := 98) 0 rfl rfl d_BM_fillsFar_98 ?_
        refine a_getR (pc := 99) fg_BM_113 sx_151 rfl d_BM_fillsFar_99 ?_
        refine a_iload_n (pc := 102) 3 rfl rfl d_BM_fillsFar_102 ?_
        refine a_iload_n (pc := 103) 2 rfl rfl d_BM_fillsFar_103 ?_
        refine a_iconst (pc := 104) (1 : Int32) (by decide) d_BM_fillsFar_104 ?_
        refine a_iadd (pc := 105) d_BM_fillsFar_105 ?_
        obtain ⟨hx, h⟩ := h
        refine a_iast (pc := 106) sx_184 hx d_BM_fillsFar_106 ?_
        refine a_nms (fun s4 hs4 => ?_)
        replace h := h s4 hs4
        refine a_iconst (pc := 107) (1 : Int32) (by decide) d_BM_fillsFar_107 ?_
        refine a_istore_n (pc := 108) (lv' := [(1, .int (1 : Int32)), (0, .ref (gB g + 151)), (2, .int x2), (3, .int x3), (4, .int x4)]) rfl (Nat.le_of_ble_eq_true rfl) rfl d_BM_fillsFar_108 ?_
        obtain ⟨u5, hu5⟩ : ∃ y : Int32, y = x4 + (1 : Int32) := ⟨_, rfl⟩
        replace h := h u5 hu5
        refine a_iinc (pc := 109) (v := u5) (lv' := [(4, .int u5), (1, .int (1 : Int32)), (0, .ref (gB g + 151)), (2, .int x2), (3, .int x3)]) 4 rfl (by rw [hu5]; rfl) (Nat.le_of_ble_eq_true rfl) rfl d_BM_fillsFar_109 ?_
        refine a_goto (pc := 112) 61 (by decide) d_BM_fillsFar_112 ?_
        refine a_sub (pc := 61) [2, 1, 3, 4, 0] rfl ?_
        exact h
theorem ko_BM_fillsFar {g : Gx}  {σ : St} {Q : St → Prop} (h : S_BM_fillsFar_0 g Q σ) : K_BM_fillsFar g  σ Q := KV.of (show plainName "BallBoxModel" = true by decide) (Nat.le_of_ble_eq_true rfl) h
theorem d_BM_hardest_0 : decode c_BM_hardest 0 = .ok (.aload_n 0, 1) := by decide +kernel
theorem d_BM_hardest_1 : decode c_BM_hardest 1 = .ok (.invokevirtual 391, 3) := by decide +kernel
theorem d_BM_hardest_4 : decode c_BM_hardest 4 = .ok (.ifCond .eq 25, 3) := by decide +kernel
theorem d_BM_hardest_7 : decode c_BM_hardest 7 = .ok (.aload_n 0, 1) := by decide +kernel
theorem d_BM_hardest_8 : decode c_BM_hardest 8 = .ok (.getfield 9, 3) := by decide +kernel
theorem d_BM_hardest_11 : decode c_BM_hardest 11 = .ok (.iconst 2, 1) := by decide +kernel
theorem d_BM_hardest_12 : decode c_BM_hardest 12 = .ok (.iaload, 1) := by decide +kernel
theorem d_BM_hardest_13 : decode c_BM_hardest 13 = .ok (.iconst 2, 1) := by decide +kernel
theorem d_BM_hardest_14 : decode c_BM_hardest 14 = .ok (.if_icmp .gt 15, 3) := by decide +kernel
theorem d_BM_hardest_17 : decode c_BM_hardest 17 = .ok (.iload_n 1, 1) := by decide +kernel
theorem d_BM_hardest_18 : decode c_BM_hardest 18 = .ok (.i2l, 1) := by decide +kernel
theorem d_BM_hardest_19 : decode c_BM_hardest 19 = .ok (.lconst 0, 1) := by decide +kernel
theorem d_BM_hardest_20 : decode c_BM_hardest 20 = .ok (.ldc2_w 479, 3) := by decide +kernel
theorem d_BM_hardest_23 : decode c_BM_hardest 23 = .ok (.invokestatic 162, 3) := by decide +kernel
theorem d_BM_hardest_26 : decode c_BM_hardest 26 = .ok (.ifCond .ne 5, 3) := by decide +kernel
theorem d_BM_hardest_29 : decode c_BM_hardest 29 = .ok (.iconst (-1), 1) := by decide +kernel
theorem d_BM_hardest_30 : decode c_BM_hardest 30 = .ok (.ireturn, 1) := by decide +kernel
theorem d_BM_hardest_31 : decode c_BM_hardest 31 = .ok (.aload_n 0, 1) := by decide +kernel
theorem d_BM_hardest_32 : decode c_BM_hardest 32 = .ok (.getfield 16, 3) := by decide +kernel
theorem d_BM_hardest_35 : decode c_BM_hardest 35 = .ok (.aload_n 0, 1) := by decide +kernel
theorem d_BM_hardest_36 : decode c_BM_hardest 36 = .ok (.getfield 98, 3) := by decide +kernel
theorem d_BM_hardest_39 : decode c_BM_hardest 39 = .ok (.invokestatic 333, 3) := by decide +kernel
theorem d_BM_hardest_42 : decode c_BM_hardest 42 = .ok (.aload_n 0, 1) := by decide +kernel
theorem d_BM_hardest_43 : decode c_BM_hardest 43 = .ok (.invokevirtual 490, 3) := by decide +kernel
theorem d_BM_hardest_46 : decode c_BM_hardest 46 = .ok (.aload_n 0, 1) := by decide +kernel
theorem d_BM_hardest_47 : decode c_BM_hardest 47 = .ok (.invokevirtual 455, 3) := by decide +kernel
theorem d_BM_hardest_50 : decode c_BM_hardest 50 = .ok (.istore_n 2, 1) := by decide +kernel
theorem d_BM_hardest_51 : decode c_BM_hardest 51 = .ok (.aload_n 0, 1) := by decide +kernel
theorem d_BM_hardest_52 : decode c_BM_hardest 52 = .ok (.getfield 98, 3) := by decide +kernel
theorem d_BM_hardest_55 : decode c_BM_hardest 55 = .ok (.aload_n 0, 1) := by decide +kernel
theorem d_BM_hardest_56 : decode c_BM_hardest 56 = .ok (.getfield 16, 3) := by decide +kernel
theorem d_BM_hardest_59 : decode c_BM_hardest 59 = .ok (.invokestatic 333, 3) := by decide +kernel
theorem d_BM_hardest_62 : decode c_BM_hardest 62 = .ok (.bipush (-2), 2) := by decide +kernel
theorem d_BM_hardest_64 : decode c_BM_hardest 64 = .ok (.istore_n 3, 1) := by decide +kernel
theorem d_BM_hardest_65 : decode c_BM_hardest 65 = .ok (.iconst 0, 1) := by decide +kernel
theorem d_BM_hardest_66 : decode c_BM_hardest 66 = .ok (.istore 4, 2) := by decide +kernel
theorem d_BM_hardest_68 : decode c_BM_hardest 68 = .ok (.iload 4, 2) := by decide +kernel
theorem d_BM_hardest_70 : decode c_BM_hardest 70 = .ok (.iload_n 2, 1) := by decide +kernel
theorem d_BM_hardest_71 : decode c_BM_hardest 71 = .ok (.if_icmp .ge 65, 3) := by decide +kernel
theorem d_BM_hardest_74 : decode c_BM_hardest 74 = .ok (.aload_n 0, 1) := by decide +kernel
theorem d_BM_hardest_75 : decode c_BM_hardest 75 = .ok (.getfield 113, 3) := by decide +kernel
theorem d_BM_hardest_78 : decode c_BM_hardest 78 = .ok (.aload_n 0, 1) := by decide +kernel
theorem d_BM_hardest_79 : decode c_BM_hardest 79 = .ok (.getfield 104, 3) := by decide +kernel
theorem d_BM_hardest_82 : decode c_BM_hardest 82 = .ok (.iload 4, 2) := by decide +kernel
theorem d_BM_hardest_84 : decode c_BM_hardest 84 = .ok (.iaload, 1) := by decide +kernel
theorem d_BM_hardest_85 : decode c_BM_hardest 85 = .ok (.iaload, 1) := by decide +kernel
theorem d_BM_hardest_86 : decode c_BM_hardest 86 = .ok (.bipush (-2), 2) := by decide +kernel
theorem d_BM_hardest_88 : decode c_BM_hardest 88 = .ok (.if_icmp .eq 40, 3) := by decide +kernel
theorem d_BM_hardest_91 : decode c_BM_hardest 91 = .ok (.iload_n 3, 1) := by decide +kernel
theorem d_BM_hardest_92 : decode c_BM_hardest 92 = .ok (.bipush (-2), 2) := by decide +kernel
theorem d_BM_hardest_94 : decode c_BM_hardest 94 = .ok (.if_icmp .eq 24, 3) := by decide +kernel
theorem d_BM_hardest_97 : decode c_BM_hardest 97 = .ok (.aload_n 0, 1) := by decide +kernel
theorem d_BM_hardest_98 : decode c_BM_hardest 98 = .ok (.getfield 113, 3) := by decide +kernel
theorem d_BM_hardest_101 : decode c_BM_hardest 101 = .ok (.aload_n 0, 1) := by decide +kernel
theorem d_BM_hardest_102 : decode c_BM_hardest 102 = .ok (.getfield 104, 3) := by decide +kernel
theorem d_BM_hardest_105 : decode c_BM_hardest 105 = .ok (.iload 4, 2) := by decide +kernel
theorem d_BM_hardest_107 : decode c_BM_hardest 107 = .ok (.iaload, 1) := by decide +kernel
theorem d_BM_hardest_108 : decode c_BM_hardest 108 = .ok (.iaload, 1) := by decide +kernel
theorem d_BM_hardest_109 : decode c_BM_hardest 109 = .ok (.aload_n 0, 1) := by decide +kernel
theorem d_BM_hardest_110 : decode c_BM_hardest 110 = .ok (.getfield 113, 3) := by decide +kernel
theorem d_BM_hardest_113 : decode c_BM_hardest 113 = .ok (.iload_n 3, 1) := by decide +kernel
theorem d_BM_hardest_114 : decode c_BM_hardest 114 = .ok (.iaload, 1) := by decide +kernel
theorem d_BM_hardest_115 : decode c_BM_hardest 115 = .ok (.if_icmp .le 13, 3) := by decide +kernel
theorem d_BM_hardest_118 : decode c_BM_hardest 118 = .ok (.aload_n 0, 1) := by decide +kernel
theorem d_BM_hardest_119 : decode c_BM_hardest 119 = .ok (.getfield 104, 3) := by decide +kernel
theorem d_BM_hardest_122 : decode c_BM_hardest 122 = .ok (.iload 4, 2) := by decide +kernel
theorem d_BM_hardest_124 : decode c_BM_hardest 124 = .ok (.iaload, 1) := by decide +kernel
theorem d_BM_hardest_125 : decode c_BM_hardest 125 = .ok (.goto 4, 3) := by decide +kernel
theorem d_BM_hardest_128 : decode c_BM_hardest 128 = .ok (.iload_n 3, 1) := by decide +kernel
theorem d_BM_hardest_129 : decode c_BM_hardest 129 = .ok (.istore_n 3, 1) := by decide +kernel
theorem d_BM_hardest_130 : decode c_BM_hardest 130 = .ok (.iinc 4 1, 3) := by decide +kernel
theorem d_BM_hardest_133 : decode c_BM_hardest 133 = .ok (.goto (-65), 3) := by decide +kernel
theorem d_BM_hardest_136 : decode c_BM_hardest 136 = .ok (.iload_n 3, 1) := by decide +kernel
theorem d_BM_hardest_137 : decode c_BM_hardest 137 = .ok (.bipush (-2), 2) := by decide +kernel
theorem d_BM_hardest_139 : decode c_BM_hardest 139 = .ok (.if_icmp .eq 7, 3) := by decide +kernel
theorem d_BM_hardest_142 : decode c_BM_hardest 142 = .ok (.iload_n 1, 1) := by decide +kernel
theorem d_BM_hardest_143 : decode c_BM_hardest 143 = .ok (.ifCond .ne 21, 3) := by decide +kernel
theorem d_BM_hardest_146 : decode c_BM_hardest 146 = .ok (.iload_n 3, 1) := by decide +kernel
theorem d_BM_hardest_147 : decode c_BM_hardest 147 = .ok (.bipush (-2), 2) := by decide +kernel
theorem d_BM_hardest_149 : decode c_BM_hardest 149 = .ok (.if_icmp .ne 8, 3) := by decide +kernel
theorem d_BM_hardest_152 : decode c_BM_hardest 152 = .ok (.bipush (-2), 2) := by decide +kernel
theorem d_BM_hardest_154 : decode c_BM_hardest 154 = .ok (.goto 9, 3) := by decide +kernel
theorem d_BM_hardest_157 : decode c_BM_hardest 157 = .ok (.aload_n 0, 1) := by decide +kernel
theorem d_BM_hardest_158 : decode c_BM_hardest 158 = .ok (.getfield 113, 3) := by decide +kernel
theorem d_BM_hardest_161 : decode c_BM_hardest 161 = .ok (.iload_n 3, 1) := by decide +kernel
theorem d_BM_hardest_162 : decode c_BM_hardest 162 = .ok (.iaload, 1) := by decide +kernel
theorem d_BM_hardest_163 : decode c_BM_hardest 163 = .ok (.ireturn, 1) := by decide +kernel
theorem d_BM_hardest_164 : decode c_BM_hardest 164 = .ok (.iload_n 1, 1) := by decide +kernel
theorem d_BM_hardest_165 : decode c_BM_hardest 165 = .ok (.aload_n 0, 1) := by decide +kernel
theorem d_BM_hardest_166 : decode c_BM_hardest 166 = .ok (.getfield 9, 3) := by decide +kernel
theorem d_BM_hardest_169 : decode c_BM_hardest 169 = .ok (.iconst 2, 1) := by decide +kernel
theorem d_BM_hardest_170 : decode c_BM_hardest 170 = .ok (.iaload, 1) := by decide +kernel
theorem d_BM_hardest_171 : decode c_BM_hardest 171 = .ok (.if_icmp .le 8, 3) := by decide +kernel
theorem d_BM_hardest_174 : decode c_BM_hardest 174 = .ok (.bipush (-2), 2) := by decide +kernel
theorem d_BM_hardest_176 : decode c_BM_hardest 176 = .ok (.goto 22, 3) := by decide +kernel
theorem d_BM_hardest_179 : decode c_BM_hardest 179 = .ok (.iload_n 1, 1) := by decide +kernel
theorem d_BM_hardest_180 : decode c_BM_hardest 180 = .ok (.iconst 1, 1) := by decide +kernel
theorem d_BM_hardest_181 : decode c_BM_hardest 181 = .ok (.if_icmp .ne 10, 3) := by decide +kernel
theorem d_BM_hardest_184 : decode c_BM_hardest 184 = .ok (.iload_n 3, 1) := by decide +kernel
theorem d_BM_hardest_185 : decode c_BM_hardest 185 = .ok (.bipush 38, 2) := by decide +kernel
theorem d_BM_hardest_187 : decode c_BM_hardest 187 = .ok (.irem, 1) := by decide +kernel
theorem d_BM_hardest_188 : decode c_BM_hardest 188 = .ok (.goto 10, 3) := by decide +kernel
theorem d_BM_hardest_191 : decode c_BM_hardest 191 = .ok (.iload_n 3, 1) := by decide +kernel
theorem d_BM_hardest_192 : decode c_BM_hardest 192 = .ok (.bipush 38, 2) := by decide +kernel
theorem d_BM_hardest_194 : decode c_BM_hardest 194 = .ok (.idiv, 1) := by decide +kernel
theorem d_BM_hardest_195 : decode c_BM_hardest 195 = .ok (.bipush 38, 2) := by decide +kernel
theorem d_BM_hardest_197 : decode c_BM_hardest 197 = .ok (.irem, 1) := by decide +kernel
theorem d_BM_hardest_198 : decode c_BM_hardest 198 = .ok (.ireturn, 1) := by decide +kernel
def S_BM_hardest_0 (g : Gx) (Q : Int32 → St → Prop) (σ : St) (x1 : Int32) : Prop := Ax g m_BM_hardest 0 0 (ZI g Q) SH σ 0 0 0 [(0, .ref (gB g + 151)), (1, .int x1)] []
def S_BM_hardest_68 (g : Gx) (Q : Int32 → St → Prop) (σ : St) (x1 : Int32) (x2 : Int32) (x3 : Int32) (x4 : Int32) : Prop := Ax g m_BM_hardest 0 0 (ZI g Q) SH σ 0 0 68 [(0, .ref (gB g + 151)), (1, .int x1), (2, .int x2), (3, .int x3), (4, .int x4)] []
theorem sg_BM_hardest_0 {g : Gx} {Q : Int32 → St → Prop} {σ : St} {x1 : Int32}
    (h : K_BM_isBox g σ (fun (r2 : Int32) (s1 : St) => (r2 = 0 → Q (-1 : Int32) s1) ∧ (¬ r2 = 0 → vp_in (2 : Int32) 8 ∧ (((2 : Int32) < (ai s1 152 ((2 : Int32)).toNatClampNeg) → Q (-1 : Int32) s1) ∧ (¬ (2 : Int32) < (ai s1 152 ((2 : Int32)).toNatClampNeg) → K_BM_in g ((x1).toInt64) (0 : Int64) (2 : Int64) s1 (fun (r4 : Int32) (s3 : St) => (¬ r4 = 0 → K_BM_lay g 154 179 s3 (fun s5 : St => K_BM_fillsFar g s5 (fun s6 : St => K_BM_fillsBegun g s6 (fun (r8 : Int32) (s7 : St) => K_BM_lay g 179 154 s7 (fun s9 : St => S_BM_hardest_68 g Q s9 x1 r8 (-2 : Int32) (0 : Int32)))))) ∧ (r4 = 0 → Q (-1 : Int32) s3))))))) : S_BM_hardest_0 g Q σ x1 := by
  show Ax g m_BM_hardest 0 0 (ZI g Q) SH σ 0 0 0 [(0, .ref (gB g + 151)), (1, .int x1)] []
  refine a_aload_n (pc := 0) 0 rfl rfl d_BM_hardest_0 ?_
  refine a_callV (pc := 1) (M' := m_BM_isBox) (As := []) (st := []) (mc' := 0) (ms' := 0) lk_BM_391 rfl sx_151 rfl (by decide) (by decide) rfl (Nat.le_of_ble_eq_true rfl) (Nat.le_refl 0) (Nat.le_refl 0) d_BM_hardest_1 h ?_
  rintro _ _ s1 ⟨r2, rfl, rfl, h⟩ -
  show Ax g m_BM_hardest 0 0 (ZI g Q) SH s1 0 0 4 [(0, .ref (gB g + 151)), (1, .int x1)] [.int r2]
  refine a_if_eq (pc := 4) 29 (by decide) d_BM_hardest_4 ⟨fun c0 => ?_, fun c0 => ?_⟩
  · replace h := h.1 c0
    refine a_iconst (pc := 29) (-1 : Int32) (by decide) d_BM_hardest_29 ?_
    exact b_iret (pc := 30) rfl d_BM_hardest_30 h
  · replace h := h.2 c0
    refine a_aload_n (pc := 7) 0 rfl rfl d_BM_hardest_7 ?_
    refine a_getR (pc := 8) fg_BM_9 sx_151 rfl d_BM_hardest_8 ?_
    refine a_iconst (pc := 11) (2 : Int32) (by decide) d_BM_hardest_11 ?_
    obtain ⟨hx, h⟩ := h
    refine a_iald (pc := 12) sx_152 hx d_BM_hardest_12 ?_
    refine a_iconst (pc := 13) (2 : Int32) (by decide) d_BM_hardest_13 ?_
    refine a_icmp_gt (pc := 14) 29 (by decide) d_BM_hardest_14 ⟨fun c0 => ?_, fun c0 => ?_⟩
    · replace h := h.1 c0
      refine a_iconst (pc := 29) (-1 : Int32) (by decide) d_BM_hardest_29 ?_
      exact b_iret (pc := 30) rfl d_BM_hardest_30 h
    · replace h := h.2 c0
      refine a_iload_n (pc := 17) 1 rfl rfl d_BM_hardest_17 ?_
      refine a_i2l (pc := 18) d_BM_hardest_18 ?_
      refine a_lconst (pc := 19) (0 : Int64) (by decide) d_BM_hardest_19 ?_
      refine a_ldc2 (pc := 20) tw1815 d_BM_hardest_20 ?_
      refine a_callS (pc := 23) (M' := m_BM_in) (As := [.long ((x1).toInt64), .long (0 : Int64), .long (2 : Int64)]) (st := []) (mc' := 0) (ms' := 0) lk_BM_162 rfl (by decide) (by decide) rfl (Nat.le_of_ble_eq_true rfl) (Nat.le_refl 0) (Nat.le_refl 0) d_BM_hardest_23 h ?_
      rintro _ _ s3 ⟨r4, rfl, rfl, h⟩ -
      show Ax g m_BM_hardest 0 0 (ZI g Q) SH s3 0 0 26 [(0, .ref (gB g + 151)), (1, .int x1)] [.int r4]
      refine a_if_ne (pc := 26) 31 (by decide) d_BM_hardest_26 ⟨fun c0 => ?_, fun c0 => ?_⟩
      · replace h := h.1 c0
        refine a_aload_n (pc := 31) 0 rfl rfl d_BM_hardest_31 ?_
        refine a_getR (pc := 32) fg_BM_16 sx_151 rfl d_BM_hardest_32 ?_
        refine a_aload_n (pc := 35) 0 rfl rfl d_BM_hardest_35 ?_
        refine a_getR (pc := 36) fg_BM_98 sx_151 rfl d_BM_hardest_36 ?_
        refine a_callS (pc := 39) (M' := m_BM_lay) (As := [.ref (gB g + 154), .ref (gB g + 179)]) (st := []) (mc' := 0) (ms' := 0) lk_BM_333 rfl (by decide) (by decide) rfl (Nat.le_of_ble_eq_true rfl) (Nat.le_refl 0) (Nat.le_refl 0) d_BM_hardest_39 h ?_
        rintro _ _ s5 ⟨rfl, rfl, h⟩ -
        show Ax g m_BM_hardest 0 0 (ZI g Q) SH s5 0 0 42 [(0, .ref (gB g + 151)), (1, .int x1)] []
        refine a_aload_n (pc := 42) 0 rfl rfl d_BM_hardest_42 ?_
        refine a_callV (pc := 43) (M' := m_BM_fillsFar) (As := []) (st := []) (mc' := 0) (ms' := 0) lk_BM_490 rfl sx_151 rfl (by decide) (by decide) rfl (Nat.le_of_ble_eq_true rfl) (Nat.le_refl 0) (Nat.le_refl 0) d_BM_hardest_43 h ?_
        rintro _ _ s6 ⟨rfl, rfl, h⟩ -
        show Ax g m_BM_hardest 0 0 (ZI g Q) SH s6 0 0 46 [(0, .ref (gB g + 151)), (1, .int x1)] []
        refine a_aload_n (pc := 46) 0 rfl rfl d_BM_hardest_46 ?_
        refine a_callV (pc := 47) (M' := m_BM_fillsBegun) (As := []) (st := []) (mc' := 0) (ms' := 0) lk_BM_455 rfl sx_151 rfl (by decide) (by decide) rfl (Nat.le_of_ble_eq_true rfl) (Nat.le_refl 0) (Nat.le_refl 0) d_BM_hardest_47 h ?_
        rintro _ _ s7 ⟨r8, rfl, rfl, h⟩ -
        show Ax g m_BM_hardest 0 0 (ZI g Q) SH s7 0 0 50 [(0, .ref (gB g + 151)), (1, .int x1)] [.int r8]
        refine a_istore_n (pc := 50) (lv' := [(2, .int r8), (0, .ref (gB g + 151)), (1, .int x1)]) rfl (Nat.le_of_ble_eq_true rfl) rfl d_BM_hardest_50 ?_
        refine a_aload_n (pc := 51) 1 rfl rfl d_BM_hardest_51 ?_
        refine a_getR (pc := 52) fg_BM_98 sx_151 rfl d_BM_hardest_52 ?_
        refine a_aload_n (pc := 55) 1 rfl rfl d_BM_hardest_55 ?_
        refine a_getR (pc := 56) fg_BM_16 sx_151 rfl d_BM_hardest_56 ?_
        refine a_callS (pc := 59) (M' := m_BM_lay) (As := [.ref (gB g + 179), .ref (gB g + 154)]) (st := []) (mc' := 0) (ms' := 0) lk_BM_333 rfl (by decide) (by decide) rfl (Nat.le_of_ble_eq_true rfl) (Nat.le_refl 0) (Nat.le_refl 0) d_BM_hardest_59 h ?_
        rintro _ _ s9 ⟨rfl, rfl, h⟩ -
        show Ax g m_BM_hardest 0 0 (ZI g Q) SH s9 0 0 62 [(2, .int r8), (0, .ref (gB g + 151)), (1, .int x1)] []
        refine a_bipush (pc := 62) (-2 : Int32) (by decide) d_BM_hardest_62 ?_
        refine a_istore_n (pc := 64) (lv' := [(3, .int (-2 : Int32)), (2, .int r8), (0, .ref (gB g + 151)), (1, .int x1)]) rfl (Nat.le_of_ble_eq_true rfl) rfl d_BM_hardest_64 ?_
        refine a_iconst (pc := 65) (0 : Int32) (by decide) d_BM_hardest_65 ?_
        refine a_istore (pc := 66) (lv' := [(4, .int (0 : Int32)), (3, .int (-2 : Int32)), (2, .int r8), (0, .ref (gB g + 151)), (1, .int x1)]) (Nat.le_of_ble_eq_true rfl) rfl d_BM_hardest_66 ?_
        refine a_sub (pc := 68) [3, 4, 2, 1, 0] rfl ?_
        exact h
      · replace h := h.2 c0
        refine a_iconst (pc := 29) (-1 : Int32) (by decide) d_BM_hardest_29 ?_
        exact b_iret (pc := 30) rfl d_BM_hardest_30 h
theorem sg_BM_hardest_68 {g : Gx} {Q : Int32 → St → Prop} {σ : St} {x1 : Int32} {x2 : Int32} {x3 : Int32} {x4 : Int32}
    (h : (x2 ≤ x4 → (x3 = (-2 : Int32) → (¬ x3 = (-2 : Int32) → vp_in x3 1444 ∧ (Q (ai σ 184 (x3).toNatClampNeg) σ)) ∧ (x3 = (-2 : Int32) → Q (-2 : Int32) σ)) ∧ (¬ x3 = (-2 : Int32) → (¬ x1 = 0 → vp_in (2 : Int32) 8 ∧ ((x1 ≤ (ai σ 152 ((2 : Int32)).toNatClampNeg) → (¬ x1 = (1 : Int32) → Q ((x3 / (38 : Int32)) - (x3 / (38 : Int32)) / (38 : Int32) * (38 : Int32)) σ) ∧ (x1 = (1 : Int32) → Q (x3 - x3 / (38 : Int32) * (38 : Int32)) σ)) ∧ (¬ x1 ≤ (ai σ 152 ((2 : Int32)).toNatClampNeg) → Q (-2 : Int32) σ))) ∧ (x1 = 0 → (¬ x3 = (-2 : Int32) → vp_in x3 1444 ∧ (Q (ai σ 184 (x3).toNatClampNeg) σ)) ∧ (x3 = (-2 : Int32) → Q (-2 : Int32) σ)))) ∧ (¬ x2 ≤ x4 → vp_in x4 1444 ∧ (vp_in (ai σ 181 (x4).toNatClampNeg) 1444 ∧ (((ai σ 184 ((ai σ 181 (x4).toNatClampNeg)).toNatClampNeg) = (-2 : Int32) → ∀ u1 : Int32, u1 = x4 + (1 : Int32) → S_BM_hardest_68 g Q σ x1 x2 x3 u1) ∧ (¬ (ai σ 184 ((ai σ 181 (x4).toNatClampNeg)).toNatClampNeg) = (-2 : Int32) → (x3 = (-2 : Int32) → vp_in x4 1444 ∧ (∀ u2 : Int32, u2 = (ai σ 181 (x4).toNatClampNeg) → ∀ u3 : Int32, u3 = x4 + (1 : Int32) → S_BM_hardest_68 g Q σ x1 x2 u2 u3)) ∧ (¬ x3 = (-2 : Int32) → vp_in x4 1444 ∧ (vp_in (ai σ 181 (x4).toNatClampNeg) 1444 ∧ (vp_in x3 1444 ∧ (((ai σ 184 ((ai σ 181 (x4).toNatClampNeg)).toNatClampNeg) ≤ (ai σ 184 (x3).toNatClampNeg) → ∀ u4 : Int32, u4 = x4 + (1 : Int32) → S_BM_hardest_68 g Q σ x1 x2 x3 u4) ∧ (¬ (ai σ 184 ((ai σ 181 (x4).toNatClampNeg)).toNatClampNeg) ≤ (ai σ 184 (x3).toNatClampNeg) → vp_in x4 1444 ∧ (∀ u5 : Int32, u5 = (ai σ 181 (x4).toNatClampNeg) → ∀ u6 : Int32, u6 = x4 + (1 : Int32) → S_BM_hardest_68 g Q σ x1 x2 u5 u6))))))))))) : S_BM_hardest_68 g Q σ x1 x2 x3 x4 := by
  show Ax g m_BM_hardest 0 0 (ZI g Q) SH σ 0 0 68 [(0, .ref (gB g + 151)), (1, .int x1), (2, .int x2), (3, .int x3), (4, .int x4)] []
  refine a_iload (pc := 68) 4 rfl d_BM_hardest_68 ?_
  refine a_iload_n (pc := 70) 2 rfl rfl d_BM_hardest_70 ?_
  refine a_icmp_ge (pc := 71) 136 (by decide) d_BM_hardest_71 ⟨fun c0 => ?_, fun c0 => ?_⟩
  · replace h := h.1 c0
    refine a_iload_n (pc := 136) 3 rfl rfl d_BM_hardest_136 ?_
    refine a_bipush (pc := 137) (-2 : Int32) (by decide) d_BM_hardest_137 ?_
    refine a_icmp_eq (pc := 139) 146 (by decide) d_BM_hardest_139 ⟨fun c0 => ?_, fun c0 => ?_⟩
    · replace h := h.1 c0
      refine a_iload_n (pc := 146) 3 rfl rfl d_BM_hardest_146 ?_
      refine a_bipush (pc := 147) (-2 : Int32) (by decide) d_BM_hardest_147 ?_
      refine a_icmp_ne (pc := 149) 157 (by decide) d_BM_hardest_149 ⟨fun c0 => ?_, fun c0 => ?_⟩
      · replace h := h.1 c0
        refine a_aload_n (pc := 157) 0 rfl rfl d_BM_hardest_157 ?_
        refine a_getR (pc := 158) fg_BM_113 sx_151 rfl d_BM_hardest_158 ?_
        refine a_iload_n (pc := 161) 3 rfl rfl d_BM_hardest_161 ?_
        obtain ⟨hx, h⟩ := h
        refine a_iald (pc := 162) sx_184 hx d_BM_hardest_162 ?_
        exact b_iret (pc := 163) rfl d_BM_hardest_163 h
      · replace h := h.2 c0
        refine a_bipush (pc := 152) (-2 : Int32) (by decide) d_BM_hardest_152 ?_
        refine a_goto (pc := 154) 163 (by decide) d_BM_hardest_154 ?_
        exact b_iret (pc := 163) rfl d_BM_hardest_163 h
    · replace h := h.2 c0
      refine a_iload_n (pc := 142) 1 rfl rfl d_BM_hardest_142 ?_
      refine a_if_ne (pc := 143) 164 (by decide) d_BM_hardest_143 ⟨fun c0 => ?_, fun c0 => ?_⟩
      · replace h := h.1 c0
        refine a_iload_n (pc := 164) 1 rfl rfl d_BM_hardest_164 ?_
        refine a_aload_n (pc := 165) 0 rfl rfl d_BM_hardest_165 ?_
        refine a_getR (pc := 166) fg_BM_9 sx_151 rfl d_BM_hardest_166 ?_
        refine a_iconst (pc := 169) (2 : Int32) (by decide) d_BM_hardest_169 ?_
        obtain ⟨hx, h⟩ := h
        refine a_iald (pc := 170) sx_152 hx d_BM_hardest_170 ?_
        refine a_icmp_le (pc := 171) 179 (by decide) d_BM_hardest_171 ⟨fun c0 => ?_, fun c0 => ?_⟩
        · replace h := h.1 c0
          refine a_iload_n (pc := 179) 1 rfl rfl d_BM_hardest_179 ?_
          refine a_iconst (pc := 180) (1 : Int32) (by decide) d_BM_hardest_180 ?_
          refine a_icmp_ne (pc := 181) 191 (by decide) d_BM_hardest_181 ⟨fun c0 => ?_, fun c0 => ?_⟩
          · replace h := h.1 c0
            refine a_iload_n (pc := 191) 3 rfl rfl d_BM_hardest_191 ?_
            refine a_bipush (pc := 192) (38 : Int32) (by decide) d_BM_hardest_192 ?_
            refine a_idiv (pc := 194) (by decide) d_BM_hardest_194 ?_
            refine a_bipush (pc := 195) (38 : Int32) (by decide) d_BM_hardest_195 ?_
            refine a_irem (pc := 197) (by decide) d_BM_hardest_197 ?_
            exact b_iret (pc := 198) rfl d_BM_hardest_198 h
          · replace h := h.2 c0
            refine a_iload_n (pc := 184) 3 rfl rfl d_BM_hardest_184 ?_
            refine a_bipush (pc := 185) (38 : Int32) (by decide) d_BM_hardest_185 ?_
            refine a_irem (pc := 187) (by decide) d_BM_hardest_187 ?_
            refine a_goto (pc := 188) 198 (by decide) d_BM_hardest_188 ?_
            exact b_iret (pc := 198) rfl d_BM_hardest_198 h
        · replace h := h.2 c0
          refine a_bipush (pc := 174) (-2 : Int32) (by decide) d_BM_hardest_174 ?_
          refine a_goto (pc := 176) 198 (by decide) d_BM_hardest_176 ?_
          exact b_iret (pc := 198) rfl d_BM_hardest_198 h
      · replace h := h.2 c0
        refine a_iload_n (pc := 146) 3 rfl rfl d_BM_hardest_146 ?_
        refine a_bipush (pc := 147) (-2 : Int32) (by decide) d_BM_hardest_147 ?_
        refine a_icmp_ne (pc := 149) 157 (by decide) d_BM_hardest_149 ⟨fun c0 => ?_, fun c0 => ?_⟩
        · replace h := h.1 c0
          refine a_aload_n (pc := 157) 0 rfl rfl d_BM_hardest_157 ?_
          refine a_getR (pc := 158) fg_BM_113 sx_151 rfl d_BM_hardest_158 ?_
          refine a_iload_n (pc := 161) 3 rfl rfl d_BM_hardest_161 ?_
          obtain ⟨hx, h⟩ := h
          refine a_iald (pc := 162) sx_184 hx d_BM_hardest_162 ?_
          exact b_iret (pc := 163) rfl d_BM_hardest_163 h
        · replace h := h.2 c0
          refine a_bipush (pc := 152) (-2 : Int32) (by decide) d_BM_hardest_152 ?_
          refine a_goto (pc := 154) 163 (by decide) d_BM_hardest_154 ?_
          exact b_iret (pc := 163) rfl d_BM_hardest_163 h
  · replace h := h.2 c0
    refine a_aload_n (pc := 74) 0 rfl rfl d_BM_hardest_74 ?_
    refine a_getR (pc := 75) fg_BM_113 sx_151 rfl d_BM_hardest_75 ?_
    refine a_aload_n (pc := 78) 0 rfl rfl d_BM_hardest_78 ?_
    refine a_getR (pc := 79) fg_BM_104 sx_151 rfl d_BM_hardest_79 ?_
    refine a_iload (pc := 82) 4 rfl d_BM_hardest_82 ?_
    obtain ⟨hx, h⟩ := h
    refine a_iald (pc := 84) sx_181 hx d_BM_hardest_84 ?_
    obtain ⟨hx, h⟩ := h
    refine a_iald (pc := 85) sx_184 hx d_BM_hardest_85 ?_
    refine a_bipush (pc := 86) (-2 : Int32) (by decide) d_BM_hardest_86 ?_
    refine a_icmp_eq (pc := 88) 128 (by decide) d_BM_hardest_88 ⟨fun c0 => ?_, fun c0 => ?_⟩
    · replace h := h.1 c0
      refine a_iload_n (pc := 128) 3 rfl rfl d_BM_hardest_128 ?_
      refine a_istore_n (pc := 129) (lv' := [(3, .int x3), (0, .ref (gB g + 151)), (1, .int x1), (2, .int x2), (4, .int x4)]) rfl (Nat.le_of_ble_eq_true rfl) rfl d_BM_hardest_129 ?_
      obtain ⟨u1, hu1⟩ : ∃ y : Int32, y = x4 + (1 : Int32) := ⟨_, rfl⟩
      replace h := h u1 hu1
      refine a_iinc (pc := 130) (v := u1) (lv' := [(4, .int u1), (3, .int x3), (0, .ref (gB g + 151)), (1, .int x1), (2, .int x2)]) 4 rfl (by rw [hu1]; rfl) (Nat.le_of_ble_eq_true rfl) rfl d_BM_hardest_130 ?_
      refine a_goto (pc := 133) 68 (by decide) d_BM_hardest_133 ?_
      refine a_sub (pc := 68) [2, 3, 4, 1, 0] rfl ?_
      exact h
    · replace h := h.2 c0
      refine a_iload_n (pc := 91) 3 rfl rfl d_BM_hardest_91 ?_
      refine a_bipush (pc := 92) (-2 : Int32) (by decide) d_BM_hardest_92 ?_
      refine a_icmp_eq (pc := 94) 118 (by decide) d_BM_hardest_94 ⟨fun c0 => ?_, fun c0 => ?_⟩
      · replace h := h.1 c0
        refine a_aload_n (pc := 118) 0 rfl rfl d_BM_hardest_118 ?_
        refine a_getR (pc := 119) fg_BM_104 sx_151 rfl d_BM_hardest_119 ?_
        refine a_iload (pc := 122) 4 rfl d_BM_hardest_122 ?_
        obtain ⟨hx, h⟩ := h
        refine a_iald (pc := 124) sx_181 hx d_BM_hardest_124 ?_
        refine a_goto (pc := 125) 129 (by decide) d_BM_hardest_125 ?_
        refine a_nmi (pc := 129) (fun u2 hu2 => ?_)
        replace h := h u2 hu2
        refine a_istore_n (pc := 129) (lv' := [(3, .int u2), (0, .ref (gB g + 151)), (1, .int x1), (2, .int x2), (4, .int x4)]) rfl (Nat.le_of_ble_eq_true rfl) rfl d_BM_hardest_129 ?_
        obtain ⟨u3, hu3⟩ : ∃ y : Int32, y = x4 + (1 : Int32) := ⟨_, rfl⟩
        replace h := h u3 hu3
        refine a_iinc (pc := 130) (v := u3) (lv' := [(4, .int u3), (3, .int u2), (0, .ref (gB g + 151)), (1, .int x1), (2, .int x2)]) 4 rfl (by rw [hu3]; rfl) (Nat.le_of_ble_eq_true rfl) rfl d_BM_hardest_130 ?_
        refine a_goto (pc := 133) 68 (by decide) d_BM_hardest_133 ?_
        refine a_sub (pc := 68) [2, 3, 4, 1, 0] rfl ?_
        exact h
      · replace h := h.2 c0
        refine a_aload_n (pc := 97) 0 rfl rfl d_BM_hardest_97 ?_
        refine a_getR (pc := 98) fg_BM_113 sx_151 rfl d_BM_hardest_98 ?_
        refine a_aload_n (pc := 101) 0 rfl rfl d_BM_hardest_101 ?_
        refine a_getR (pc := 102) fg_BM_104 sx_151 rfl d_BM_hardest_102 ?_
        refine a_iload (pc := 105) 4 rfl d_BM_hardest_105 ?_
        obtain ⟨hx, h⟩ := h
        refine a_iald (pc := 107) sx_181 hx d_BM_hardest_107 ?_
        obtain ⟨hx, h⟩ := h
        refine a_iald (pc := 108) sx_184 hx d_BM_hardest_108 ?_
        refine a_aload_n (pc := 109) 0 rfl rfl d_BM_hardest_109 ?_
        refine a_getR (pc := 110) fg_BM_113 sx_151 rfl d_BM_hardest_110 ?_
        refine a_iload_n (pc := 113) 3 rfl rfl d_BM_hardest_113 ?_
        obtain ⟨hx, h⟩ := h
        refine a_iald (pc := 114) sx_184 hx d_BM_hardest_114 ?_
        refine a_icmp_le (pc := 115) 128 (by decide) d_BM_hardest_115 ⟨fun c0 => ?_, fun c0 => ?_⟩
        · replace h := h.1 c0
          refine a_iload_n (pc := 128) 3 rfl rfl d_BM_hardest_128 ?_
          refine a_istore_n (pc := 129) (lv' := [(3, .int x3), (0, .ref (gB g + 151)), (1, .int x1), (2, .int x2), (4, .int x4)]) rfl (Nat.le_of_ble_eq_true rfl) rfl d_BM_hardest_129 ?_
          obtain ⟨u4, hu4⟩ : ∃ y : Int32, y = x4 + (1 : Int32) := ⟨_, rfl⟩
          replace h := h u4 hu4
          refine a_iinc (pc := 130) (v := u4) (lv' := [(4, .int u4), (3, .int x3), (0, .ref (gB g + 151)), (1, .int x1), (2, .int x2)]) 4 rfl (by rw [hu4]; rfl) (Nat.le_of_ble_eq_true rfl) rfl d_BM_hardest_130 ?_
          refine a_goto (pc := 133) 68 (by decide) d_BM_hardest_133 ?_
          refine a_sub (pc := 68) [2, 3, 4, 1, 0] rfl ?_
          exact h
        · replace h := h.2 c0
          refine a_aload_n (pc := 118) 0 rfl rfl d_BM_hardest_118 ?_
          refine a_getR (pc := 119) fg_BM_104 sx_151 rfl d_BM_hardest_119 ?_
          refine a_iload (pc := 122) 4 rfl d_BM_hardest_122 ?_
          obtain ⟨hx, h⟩ := h
          refine a_iald (pc := 124) sx_181 hx d_BM_hardest_124 ?_
          refine a_goto (pc := 125) 129 (by decide) d_BM_hardest_125 ?_
          refine a_nmi (pc := 129) (fun u5 hu5 => ?_)
          replace h := h u5 hu5
          refine a_istore_n (pc := 129) (lv' := [(3, .int u5), (0, .ref (gB g + 151)), (1, .int x1), (2, .int x2), (4, .int x4)]) rfl (Nat.le_of_ble_eq_true rfl) rfl d_BM_hardest_129 ?_
          obtain ⟨u6, hu6⟩ : ∃ y : Int32, y = x4 + (1 : Int32) := ⟨_, rfl⟩
          replace h := h u6 hu6
          refine a_iinc (pc := 130) (v := u6) (lv' := [(4, .int u6), (3, .int u5), (0, .ref (gB g + 151)), (1, .int x1), (2, .int x2)]) 4 rfl (by rw [hu6]; rfl) (Nat.le_of_ble_eq_true rfl) rfl d_BM_hardest_130 ?_
          refine a_goto (pc := 133) 68 (by decide) d_BM_hardest_133 ?_
          refine a_sub (pc := 68) [2, 3, 4, 1, 0] rfl ?_
          exact h
theorem ko_BM_hardest {g : Gx}  {x1 : Int32} {σ : St} {Q : Int32 → St → Prop} (h : S_BM_hardest_0 g Q σ x1) : K_BM_hardest g x1 σ Q := KI.of (show plainName "BallBoxModel" = true by decide) (Nat.le_of_ble_eq_true rfl) h
theorem d_BM_sound_0 : decode c_BM_sound 0 = .ok (.iload_n 1, 1) := by decide +kernel
theorem d_BM_sound_1 : decode c_BM_sound 1 = .ok (.iconst (-1), 1) := by decide +kernel
theorem d_BM_sound_2 : decode c_BM_sound 2 = .ok (.if_icmp .ne 12, 3) := by decide +kernel
theorem d_BM_sound_5 : decode c_BM_sound 5 = .ok (.aload_n 0, 1) := by decide +kernel
theorem d_BM_sound_6 : decode c_BM_sound 6 = .ok (.getfield 9, 3) := by decide +kernel
theorem d_BM_sound_9 : decode c_BM_sound 9 = .ok (.iconst 5, 1) := by decide +kernel
theorem d_BM_sound_10 : decode c_BM_sound 10 = .ok (.iconst 0, 1) := by decide +kernel
theorem d_BM_sound_11 : decode c_BM_sound 11 = .ok (.iastore, 1) := by decide +kernel
theorem d_BM_sound_12 : decode c_BM_sound 12 = .ok (.iconst 0, 1) := by decide +kernel
theorem d_BM_sound_13 : decode c_BM_sound 13 = .ok (.ireturn, 1) := by decide +kernel
theorem d_BM_sound_14 : decode c_BM_sound 14 = .ok (.aload_n 0, 1) := by decide +kernel
theorem d_BM_sound_15 : decode c_BM_sound 15 = .ok (.getfield 9, 3) := by decide +kernel
theorem d_BM_sound_18 : decode c_BM_sound 18 = .ok (.iconst 5, 1) := by decide +kernel
theorem d_BM_sound_19 : decode c_BM_sound 19 = .ok (.iaload, 1) := by decide +kernel
theorem d_BM_sound_20 : decode c_BM_sound 20 = .ok (.istore 4, 2) := by decide +kernel
theorem d_BM_sound_22 : decode c_BM_sound 22 = .ok (.aload_n 0, 1) := by decide +kernel
theorem d_BM_sound_23 : decode c_BM_sound 23 = .ok (.invokevirtual 391, 3) := by decide +kernel
theorem d_BM_sound_26 : decode c_BM_sound 26 = .ok (.ifCond .eq 53, 3) := by decide +kernel
theorem d_BM_sound_29 : decode c_BM_sound 29 = .ok (.iload 4, 2) := by decide +kernel
theorem d_BM_sound_31 : decode c_BM_sound 31 = .ok (.bipush 8, 2) := by decide +kernel
theorem d_BM_sound_33 : decode c_BM_sound 33 = .ok (.if_icmp .eq 46, 3) := by decide +kernel
theorem d_BM_sound_36 : decode c_BM_sound 36 = .ok (.iload_n 1, 1) := by decide +kernel
theorem d_BM_sound_37 : decode c_BM_sound 37 = .ok (.i2l, 1) := by decide +kernel
theorem d_BM_sound_38 : decode c_BM_sound 38 = .ok (.lconst 0, 1) := by decide +kernel
theorem d_BM_sound_39 : decode c_BM_sound 39 = .ok (.ldc2_w 394, 3) := by decide +kernel
theorem d_BM_sound_42 : decode c_BM_sound 42 = .ok (.invokestatic 162, 3) := by decide +kernel
theorem d_BM_sound_45 : decode c_BM_sound 45 = .ok (.ifCond .eq 34, 3) := by decide +kernel
theorem d_BM_sound_48 : decode c_BM_sound 48 = .ok (.iload_n 2, 1) := by decide +kernel
theorem d_BM_sound_49 : decode c_BM_sound 49 = .ok (.i2l, 1) := by decide +kernel
theorem d_BM_sound_50 : decode c_BM_sound 50 = .ok (.lconst 0, 1) := by decide +kernel
theorem d_BM_sound_51 : decode c_BM_sound 51 = .ok (.ldc2_w 394, 3) := by decide +kernel
theorem d_BM_sound_54 : decode c_BM_sound 54 = .ok (.invokestatic 162, 3) := by decide +kernel
theorem d_BM_sound_57 : decode c_BM_sound 57 = .ok (.ifCond .eq 22, 3) := by decide +kernel
theorem d_BM_sound_60 : decode c_BM_sound 60 = .ok (.iload_n 3, 1) := by decide +kernel
theorem d_BM_sound_61 : decode c_BM_sound 61 = .ok (.i2l, 1) := by decide +kernel
theorem d_BM_sound_62 : decode c_BM_sound 62 = .ok (.lconst 0, 1) := by decide +kernel
theorem d_BM_sound_63 : decode c_BM_sound 63 = .ok (.ldc2_w 394, 3) := by decide +kernel
theorem d_BM_sound_66 : decode c_BM_sound 66 = .ok (.invokestatic 162, 3) := by decide +kernel
theorem d_BM_sound_69 : decode c_BM_sound 69 = .ok (.ifCond .eq 10, 3) := by decide +kernel
theorem d_BM_sound_72 : decode c_BM_sound 72 = .ok (.iload_n 2, 1) := by decide +kernel
theorem d_BM_sound_73 : decode c_BM_sound 73 = .ok (.iload_n 3, 1) := by decide +kernel
theorem d_BM_sound_74 : decode c_BM_sound 74 = .ok (.iadd, 1) := by decide +kernel
theorem d_BM_sound_75 : decode c_BM_sound 75 = .ok (.iconst 3, 1) := by decide +kernel
theorem d_BM_sound_76 : decode c_BM_sound 76 = .ok (.if_icmp .le 6, 3) := by decide +kernel
theorem d_BM_sound_79 : decode c_BM_sound 79 = .ok (.bipush (-2), 2) := by decide +kernel
theorem d_BM_sound_81 : decode c_BM_sound 81 = .ok (.ireturn, 1) := by decide +kernel
theorem d_BM_sound_82 : decode c_BM_sound 82 = .ok (.aload_n 0, 1) := by decide +kernel
theorem d_BM_sound_83 : decode c_BM_sound 83 = .ok (.getfield 22, 3) := by decide +kernel
theorem d_BM_sound_86 : decode c_BM_sound 86 = .ok (.iload 4, 2) := by decide +kernel
theorem d_BM_sound_88 : decode c_BM_sound 88 = .ok (.iload_n 1, 1) := by decide +kernel
theorem d_BM_sound_89 : decode c_BM_sound 89 = .ok (.iastore, 1) := by decide +kernel
theorem d_BM_sound_90 : decode c_BM_sound 90 = .ok (.aload_n 0, 1) := by decide +kernel
theorem d_BM_sound_91 : decode c_BM_sound 91 = .ok (.getfield 25, 3) := by decide +kernel
theorem d_BM_sound_94 : decode c_BM_sound 94 = .ok (.iload 4, 2) := by decide +kernel
theorem d_BM_sound_96 : decode c_BM_sound 96 = .ok (.iload_n 2, 1) := by decide +kernel
theorem d_BM_sound_97 : decode c_BM_sound 97 = .ok (.iastore, 1) := by decide +kernel
theorem d_BM_sound_98 : decode c_BM_sound 98 = .ok (.aload_n 0, 1) := by decide +kernel
theorem d_BM_sound_99 : decode c_BM_sound 99 = .ok (.getfield 28, 3) := by decide +kernel
theorem d_BM_sound_102 : decode c_BM_sound 102 = .ok (.iload 4, 2) := by decide +kernel
theorem d_BM_sound_104 : decode c_BM_sound 104 = .ok (.iload_n 3, 1) := by decide +kernel
theorem d_BM_sound_105 : decode c_BM_sound 105 = .ok (.iastore, 1) := by decide +kernel
theorem d_BM_sound_106 : decode c_BM_sound 106 = .ok (.aload_n 0, 1) := by decide +kernel
theorem d_BM_sound_107 : decode c_BM_sound 107 = .ok (.getfield 9, 3) := by decide +kernel
theorem d_BM_sound_110 : decode c_BM_sound 110 = .ok (.iconst 5, 1) := by decide +kernel
theorem d_BM_sound_111 : decode c_BM_sound 111 = .ok (.dup2, 1) := by decide +kernel
theorem d_BM_sound_112 : decode c_BM_sound 112 = .ok (.iaload, 1) := by decide +kernel
theorem d_BM_sound_113 : decode c_BM_sound 113 = .ok (.iconst 1, 1) := by decide +kernel
theorem d_BM_sound_114 : decode c_BM_sound 114 = .ok (.iadd, 1) := by decide +kernel
theorem d_BM_sound_115 : decode c_BM_sound 115 = .ok (.iastore, 1) := by decide +kernel
theorem d_BM_sound_116 : decode c_BM_sound 116 = .ok (.iload 4, 2) := by decide +kernel
theorem d_BM_sound_118 : decode c_BM_sound 118 = .ok (.iconst 1, 1) := by decide +kernel
theorem d_BM_sound_119 : decode c_BM_sound 119 = .ok (.iadd, 1) := by decide +kernel
theorem d_BM_sound_120 : decode c_BM_sound 120 = .ok (.ireturn, 1) := by decide +kernel
def S_BM_sound_0 (g : Gx) (Q : Int32 → St → Prop) (σ : St) (x1 : Int32) (x2 : Int32) (x3 : Int32) : Prop := Ax g m_BM_sound 0 0 (ZI g Q) SH σ 0 0 0 [(0, .ref (gB g + 151)), (1, .int x1), (2, .int x2), (3, .int x3)] []
theorem sg_BM_sound_0 {g : Gx} {Q : Int32 → St → Prop} {σ : St} {x1 : Int32} {x2 : Int32} {x3 : Int32}
    (h : (¬ x1 = (-1 : Int32) → vp_in (5 : Int32) 8 ∧ (∀ u1 : Int32, u1 = (ai σ 152 ((5 : Int32)).toNatClampNeg) → K_BM_isBox g σ (fun (r3 : Int32) (s2 : St) => (r3 = 0 → Q (-2 : Int32) s2) ∧ (¬ r3 = 0 → (u1 = (8 : Int32) → Q (-2 : Int32) s2) ∧ (¬ u1 = (8 : Int32) → K_BM_in g ((x1).toInt64) (0 : Int64) (3 : Int64) s2 (fun (r5 : Int32) (s4 : St) => (r5 = 0 → Q (-2 : Int32) s4) ∧ (¬ r5 = 0 → K_BM_in g ((x2).toInt64) (0 : Int64) (3 : Int64) s4 (fun (r7 : Int32) (s6 : St) => (r7 = 0 → Q (-2 : Int32) s6) ∧ (¬ r7 = 0 → K_BM_in g ((x3).toInt64) (0 : Int64) (3 : Int64) s6 (fun (r9 : Int32) (s8 : St) => (r9 = 0 → Q (-2 : Int32) s8) ∧ (¬ r9 = 0 → ((x2 + x3) ≤ (3 : Int32) → vp_in u1 8 ∧ (∀ s10 : St, s10 = sai s8 156 (u1).toNatClampNeg x1 → vp_in u1 8 ∧ (∀ s11 : St, s11 = sai s10 157 (u1).toNatClampNeg x2 → vp_in u1 8 ∧ (∀ s12 : St, s12 = sai s11 158 (u1).toNatClampNeg x3 → vp_in (5 : Int32) 8 ∧ (vp_in (5 : Int32) 8 ∧ (∀ s13 : St, s13 = sai s12 152 ((5 : Int32)).toNatClampNeg ((ai s12 152 ((5 : Int32)).toNatClampNeg) + (1 : Int32)) → Q (u1 + (1 : Int32)) s13)))))) ∧ (¬ (x2 + x3) ≤ (3 : Int32) → Q (-2 : Int32) s8)))))))))))) ∧ (x1 = (-1 : Int32) → vp_in (5 : Int32) 8 ∧ (∀ s14 : St, s14 = sai σ 152 ((5 : Int32)).toNatClampNeg (0 : Int32) → Q (0 : Int32) s14))) : S_BM_sound_0 g Q σ x1 x2 x3 := by
  show Ax g m_BM_sound 0 0 (ZI g Q) SH σ 0 0 0 [(0, .ref (gB g + 151)), (1, .int x1), (2, .int x2), (3, .int x3)] []
  refine a_iload_n (pc := 0) 1 rfl rfl d_BM_sound_0 ?_
  refine a_iconst (pc := 1) (-1 : Int32) (by decide) d_BM_sound_1 ?_
  refine a_icmp_ne (pc := 2) 14 (by decide) d_BM_sound_2 ⟨fun c0 => ?_, fun c0 => ?_⟩
  · replace h := h.1 c0
    refine a_aload_n (pc := 14) 0 rfl rfl d_BM_sound_14 ?_
    refine a_getR (pc := 15) fg_BM_9 sx_151 rfl d_BM_sound_15 ?_
    refine a_iconst (pc := 18) (5 : Int32) (by decide) d_BM_sound_18 ?_
    obtain ⟨hx, h⟩ := h
    refine a_iald (pc := 19) sx_152 hx d_BM_sound_19 ?_
    refine a_nmi (pc := 20) (fun u1 hu1 => ?_)
    replace h := h u1 hu1
    refine a_istore (pc := 20) (lv' := [(4, .int u1), (0, .ref (gB g + 151)), (1, .int x1), (2, .int x2), (3, .int x3)]) (Nat.le_of_ble_eq_true rfl) rfl d_BM_sound_20 ?_
    refine a_aload_n (pc := 22) 1 rfl rfl d_BM_sound_22 ?_
    refine a_callV (pc := 23) (M' := m_BM_isBox) (As := []) (st := []) (mc' := 0) (ms' := 0) lk_BM_391 rfl sx_151 rfl (by decide) (by decide) rfl (Nat.le_of_ble_eq_true rfl) (Nat.le_refl 0) (Nat.le_refl 0) d_BM_sound_23 h ?_
    rintro _ _ s2 ⟨r3, rfl, rfl, h⟩ -
    show Ax g m_BM_sound 0 0 (ZI g Q) SH s2 0 0 26 [(4, .int u1), (0, .ref (gB g + 151)), (1, .int x1), (2, .int x2), (3, .int x3)] [.int r3]
    refine a_if_eq (pc := 26) 79 (by decide) d_BM_sound_26 ⟨fun c0 => ?_, fun c0 => ?_⟩
    · replace h := h.1 c0
      refine a_bipush (pc := 79) (-2 : Int32) (by decide) d_BM_sound_79 ?_
      exact b_iret (pc := 81) rfl d_BM_sound_81 h
    · replace h := h.2 c0
      refine a_iload (pc := 29) 0 rfl d_BM_sound_29 ?_
      refine a_bipush (pc := 31) (8 : Int32) (by decide) d_BM_sound_31 ?_
      refine a_icmp_eq (pc := 33) 79 (by decide) d_BM_sound_33 ⟨fun c0 => ?_, fun c0 => ?_⟩
      · replace h := h.1 c0
        refine a_bipush (pc := 79) (-2 : Int32) (by decide) d_BM_sound_79 ?_
        exact b_iret (pc := 81) rfl d_BM_sound_81 h
      · replace h := h.2 c0
        refine a_iload_n (pc := 36) 2 rfl rfl d_BM_sound_36 ?_
        refine a_i2l (pc := 37) d_BM_sound_37 ?_
        refine a_lconst (pc := 38) (0 : Int64) (by decide) d_BM_sound_38 ?_
        refine a_ldc2 (pc := 39) tw1644 d_BM_sound_39 ?_
        refine a_callS (pc := 42) (M' := m_BM_in) (As := [.long ((x1).toInt64), .long (0 : Int64), .long (3 : Int64)]) (st := []) (mc' := 0) (ms' := 0) lk_BM_162 rfl (by decide) (by decide) rfl (Nat.le_of_ble_eq_true rfl) (Nat.le_refl 0) (Nat.le_refl 0) d_BM_sound_42 h ?_
        rintro _ _ s4 ⟨r5, rfl, rfl, h⟩ -
        show Ax g m_BM_sound 0 0 (ZI g Q) SH s4 0 0 45 [(4, .int u1), (0, .ref (gB g + 151)), (1, .int x1), (2, .int x2), (3, .int x3)] [.int r5]
        refine a_if_eq (pc := 45) 79 (by decide) d_BM_sound_45 ⟨fun c0 => ?_, fun c0 => ?_⟩
        · replace h := h.1 c0
          refine a_bipush (pc := 79) (-2 : Int32) (by decide) d_BM_sound_79 ?_
          exact b_iret (pc := 81) rfl d_BM_sound_81 h
        · replace h := h.2 c0
          refine a_iload_n (pc := 48) 3 rfl rfl d_BM_sound_48 ?_
          refine a_i2l (pc := 49) d_BM_sound_49 ?_
          refine a_lconst (pc := 50) (0 : Int64) (by decide) d_BM_sound_50 ?_
          refine a_ldc2 (pc := 51) tw1644 d_BM_sound_51 ?_
          refine a_callS (pc := 54) (M' := m_BM_in) (As := [.long ((x2).toInt64), .long (0 : Int64), .long (3 : Int64)]) (st := []) (mc' := 0) (ms' := 0) lk_BM_162 rfl (by decide) (by decide) rfl (Nat.le_of_ble_eq_true rfl) (Nat.le_refl 0) (Nat.le_refl 0) d_BM_sound_54 h ?_
          rintro _ _ s6 ⟨r7, rfl, rfl, h⟩ -
          show Ax g m_BM_sound 0 0 (ZI g Q) SH s6 0 0 57 [(4, .int u1), (0, .ref (gB g + 151)), (1, .int x1), (2, .int x2), (3, .int x3)] [.int r7]
          refine a_if_eq (pc := 57) 79 (by decide) d_BM_sound_57 ⟨fun c0 => ?_, fun c0 => ?_⟩
          · replace h := h.1 c0
            refine a_bipush (pc := 79) (-2 : Int32) (by decide) d_BM_sound_79 ?_
            exact b_iret (pc := 81) rfl d_BM_sound_81 h
          · replace h := h.2 c0
            refine a_iload_n (pc := 60) 4 rfl rfl d_BM_sound_60 ?_
            refine a_i2l (pc := 61) d_BM_sound_61 ?_
            refine a_lconst (pc := 62) (0 : Int64) (by decide) d_BM_sound_62 ?_
            refine a_ldc2 (pc := 63) tw1644 d_BM_sound_63 ?_
            refine a_callS (pc := 66) (M' := m_BM_in) (As := [.long ((x3).toInt64), .long (0 : Int64), .long (3 : Int64)]) (st := []) (mc' := 0) (ms' := 0) lk_BM_162 rfl (by decide) (by decide) rfl (Nat.le_of_ble_eq_true rfl) (Nat.le_refl 0) (Nat.le_refl 0) d_BM_sound_66 h ?_
            rintro _ _ s8 ⟨r9, rfl, rfl, h⟩ -
            show Ax g m_BM_sound 0 0 (ZI g Q) SH s8 0 0 69 [(4, .int u1), (0, .ref (gB g + 151)), (1, .int x1), (2, .int x2), (3, .int x3)] [.int r9]
            refine a_if_eq (pc := 69) 79 (by decide) d_BM_sound_69 ⟨fun c0 => ?_, fun c0 => ?_⟩
            · replace h := h.1 c0
              refine a_bipush (pc := 79) (-2 : Int32) (by decide) d_BM_sound_79 ?_
              exact b_iret (pc := 81) rfl d_BM_sound_81 h
            · replace h := h.2 c0
              refine a_iload_n (pc := 72) 3 rfl rfl d_BM_sound_72 ?_
              refine a_iload_n (pc := 73) 4 rfl rfl d_BM_sound_73 ?_
              refine a_iadd (pc := 74) d_BM_sound_74 ?_
              refine a_iconst (pc := 75) (3 : Int32) (by decide) d_BM_sound_75 ?_
              refine a_icmp_le (pc := 76) 82 (by decide) d_BM_sound_76 ⟨fun c0 => ?_, fun c0 => ?_⟩
              · replace h := h.1 c0
                refine a_aload_n (pc := 82) 1 rfl rfl d_BM_sound_82 ?_
                refine a_getR (pc := 83) fg_BM_22 sx_151 rfl d_BM_sound_83 ?_
                refine a_iload (pc := 86) 0 rfl d_BM_sound_86 ?_
                refine a_iload_n (pc := 88) 2 rfl rfl d_BM_sound_88 ?_
                obtain ⟨hx, h⟩ := h
                refine a_iast (pc := 89) sx_156 hx d_BM_sound_89 ?_
                refine a_nms (fun s10 hs10 => ?_)
                replace h := h s10 hs10
                refine a_aload_n (pc := 90) 1 rfl rfl d_BM_sound_90 ?_
                refine a_getR (pc := 91) fg_BM_25 sx_151 rfl d_BM_sound_91 ?_
                refine a_iload (pc := 94) 0 rfl d_BM_sound_94 ?_
                refine a_iload_n (pc := 96) 3 rfl rfl d_BM_sound_96 ?_
                obtain ⟨hx, h⟩ := h
                refine a_iast (pc := 97) sx_157 hx d_BM_sound_97 ?_
                refine a_nms (fun s11 hs11 => ?_)
                replace h := h s11 hs11
                refine a_aload_n (pc := 98) 1 rfl rfl d_BM_sound_98 ?_
                refine a_getR (pc := 99) fg_BM_28 sx_151 rfl d_BM_sound_99 ?_
                refine a_iload (pc := 102) 0 rfl d_BM_sound_102 ?_
                refine a_iload_n (pc := 104) 4 rfl rfl d_BM_sound_104 ?_
                obtain ⟨hx, h⟩ := h
                refine a_iast (pc := 105) sx_158 hx d_BM_sound_105 ?_
                refine a_nms (fun s12 hs12 => ?_)
                replace h := h s12 hs12
                refine a_aload_n (pc := 106) 1 rfl rfl d_BM_sound_106 ?_
                refine a_getR (pc := 107) fg_BM_9 sx_151 rfl d_BM_sound_107 ?_
                refine a_iconst (pc := 110) (5 : Int32) (by decide) d_BM_sound_110 ?_
                refine a_dup2_11 (pc := 111) rfl rfl d_BM_sound_111 ?_
                obtain ⟨hx, h⟩ := h
                refine a_iald (pc := 112) sx_152 hx d_BM_sound_112 ?_
                refine a_iconst (pc := 113) (1 : Int32) (by decide) d_BM_sound_113 ?_
                refine a_iadd (pc := 114) d_BM_sound_114 ?_
                obtain ⟨hx, h⟩ := h
                refine a_iast (pc := 115) sx_152 hx d_BM_sound_115 ?_
                refine a_nms (fun s13 hs13 => ?_)
                replace h := h s13 hs13
                refine a_iload (pc := 116) 0 rfl d_BM_sound_116 ?_
                refine a_iconst (pc := 118) (1 : Int32) (by decide) d_BM_sound_118 ?_
                refine a_iadd (pc := 119) d_BM_sound_119 ?_
                exact b_iret (pc := 120) rfl d_BM_sound_120 h
              · replace h := h.2 c0
                refine a_bipush (pc := 79) (-2 : Int32) (by decide) d_BM_sound_79 ?_
                exact b_iret (pc := 81) rfl d_BM_sound_81 h
  · replace h := h.2 c0
    refine a_aload_n (pc := 5) 0 rfl rfl d_BM_sound_5 ?_
    refine a_getR (pc := 6) fg_BM_9 sx_151 rfl d_BM_sound_6 ?_
    refine a_iconst (pc := 9) (5 : Int32) (by decide) d_BM_sound_9 ?_
    refine a_iconst (pc := 10) (0 : Int32) (by decide) d_BM_sound_10 ?_
    obtain ⟨hx, h⟩ := h
    refine a_iast (pc := 11) sx_152 hx d_BM_sound_11 ?_
    refine a_nms (fun s14 hs14 => ?_)
    replace h := h s14 hs14
    refine a_iconst (pc := 12) (0 : Int32) (by decide) d_BM_sound_12 ?_
    exact b_iret (pc := 13) rfl d_BM_sound_13 h
theorem ko_BM_sound {g : Gx}  {x1 : Int32} {x2 : Int32} {x3 : Int32} {σ : St} {Q : Int32 → St → Prop} (h : S_BM_sound_0 g Q σ x1 x2 x3) : K_BM_sound g x1 x2 x3 σ Q := KI.of (show plainName "BallBoxModel" = true by decide) (Nat.le_of_ble_eq_true rfl) h
theorem d_BM_sounds_0 : decode c_BM_sounds 0 = .ok (.iconst 1, 1) := by decide +kernel
theorem d_BM_sounds_1 : decode c_BM_sounds 1 = .ok (.istore_n 1, 1) := by decide +kernel
theorem d_BM_sounds_2 : decode c_BM_sounds 2 = .ok (.iconst 0, 1) := by decide +kernel
theorem d_BM_sounds_3 : decode c_BM_sounds 3 = .ok (.istore_n 2, 1) := by decide +kernel
theorem d_BM_sounds_4 : decode c_BM_sounds 4 = .ok (.iload_n 2, 1) := by decide +kernel
theorem d_BM_sounds_5 : decode c_BM_sounds 5 = .ok (.aload_n 0, 1) := by decide +kernel
theorem d_BM_sounds_6 : decode c_BM_sounds 6 = .ok (.getfield 9, 3) := by decide +kernel
theorem d_BM_sounds_9 : decode c_BM_sounds 9 = .ok (.iconst 5, 1) := by decide +kernel
theorem d_BM_sounds_10 : decode c_BM_sounds 10 = .ok (.iaload, 1) := by decide +kernel
theorem d_BM_sounds_11 : decode c_BM_sounds 11 = .ok (.if_icmp .ge 55, 3) := by decide +kernel
theorem d_BM_sounds_14 : decode c_BM_sounds 14 = .ok (.iload_n 1, 1) := by decide +kernel
theorem d_BM_sounds_15 : decode c_BM_sounds 15 = .ok (.ifCond .eq 51, 3) := by decide +kernel
theorem d_BM_sounds_18 : decode c_BM_sounds 18 = .ok (.aload_n 0, 1) := by decide +kernel
theorem d_BM_sounds_19 : decode c_BM_sounds 19 = .ok (.aload_n 0, 1) := by decide +kernel
theorem d_BM_sounds_20 : decode c_BM_sounds 20 = .ok (.getfield 22, 3) := by decide +kernel
theorem d_BM_sounds_23 : decode c_BM_sounds 23 = .ok (.iload_n 2, 1) := by decide +kernel
theorem d_BM_sounds_24 : decode c_BM_sounds 24 = .ok (.iaload, 1) := by decide +kernel
theorem d_BM_sounds_25 : decode c_BM_sounds 25 = .ok (.invokevirtual 396, 3) := by decide +kernel
theorem d_BM_sounds_28 : decode c_BM_sounds 28 = .ok (.aload_n 0, 1) := by decide +kernel
theorem d_BM_sounds_29 : decode c_BM_sounds 29 = .ok (.getfield 385, 3) := by decide +kernel
theorem d_BM_sounds_32 : decode c_BM_sounds 32 = .ok (.aload_n 0, 1) := by decide +kernel
theorem d_BM_sounds_33 : decode c_BM_sounds 33 = .ok (.getfield 25, 3) := by decide +kernel
theorem d_BM_sounds_36 : decode c_BM_sounds 36 = .ok (.iload_n 2, 1) := by decide +kernel
theorem d_BM_sounds_37 : decode c_BM_sounds 37 = .ok (.iaload, 1) := by decide +kernel
theorem d_BM_sounds_38 : decode c_BM_sounds 38 = .ok (.if_icmp .ne 20, 3) := by decide +kernel
theorem d_BM_sounds_41 : decode c_BM_sounds 41 = .ok (.aload_n 0, 1) := by decide +kernel
theorem d_BM_sounds_42 : decode c_BM_sounds 42 = .ok (.getfield 388, 3) := by decide +kernel
theorem d_BM_sounds_45 : decode c_BM_sounds 45 = .ok (.aload_n 0, 1) := by decide +kernel
theorem d_BM_sounds_46 : decode c_BM_sounds 46 = .ok (.getfield 28, 3) := by decide +kernel
theorem d_BM_sounds_49 : decode c_BM_sounds 49 = .ok (.iload_n 2, 1) := by decide +kernel
theorem d_BM_sounds_50 : decode c_BM_sounds 50 = .ok (.iaload, 1) := by decide +kernel
theorem d_BM_sounds_51 : decode c_BM_sounds 51 = .ok (.if_icmp .ne 7, 3) := by decide +kernel
theorem d_BM_sounds_54 : decode c_BM_sounds 54 = .ok (.iconst 1, 1) := by decide +kernel
theorem d_BM_sounds_55 : decode c_BM_sounds 55 = .ok (.goto 4, 3) := by decide +kernel
theorem d_BM_sounds_58 : decode c_BM_sounds 58 = .ok (.iconst 0, 1) := by decide +kernel
theorem d_BM_sounds_59 : decode c_BM_sounds 59 = .ok (.istore_n 1, 1) := by decide +kernel
theorem d_BM_sounds_60 : decode c_BM_sounds 60 = .ok (.iinc 2 1, 3) := by decide +kernel
theorem d_BM_sounds_63 : decode c_BM_sounds 63 = .ok (.goto (-59), 3) := by decide +kernel
theorem d_BM_sounds_66 : decode c_BM_sounds 66 = .ok (.iload_n 1, 1) := by decide +kernel
theorem d_BM_sounds_67 : decode c_BM_sounds 67 = .ok (.ireturn, 1) := by decide +kernel
def S_BM_sounds_0 (g : Gx) (Q : Int32 → St → Prop) (σ : St) : Prop := Ax g m_BM_sounds 0 0 (ZI g Q) SH σ 0 0 0 [(0, .ref (gB g + 151))] []
def S_BM_sounds_4 (g : Gx) (Q : Int32 → St → Prop) (σ : St) (x1 : Int32) (x2 : Int32) : Prop := Ax g m_BM_sounds 0 0 (ZI g Q) SH σ 0 0 4 [(0, .ref (gB g + 151)), (1, .int x1), (2, .int x2)] []
theorem sg_BM_sounds_0 {g : Gx} {Q : Int32 → St → Prop} {σ : St}
    (h : S_BM_sounds_4 g Q σ (1 : Int32) (0 : Int32)) : S_BM_sounds_0 g Q σ := by
  show Ax g m_BM_sounds 0 0 (ZI g Q) SH σ 0 0 0 [(0, .ref (gB g + 151))] []
  refine a_iconst (pc := 0) (1 : Int32) (by decide) d_BM_sounds_0 ?_
  refine a_istore_n (pc := 1) (lv' := [(1, .int (1 : Int32)), (0, .ref (gB g + 151))]) rfl (Nat.le_of_ble_eq_true rfl) rfl d_BM_sounds_1 ?_
  refine a_iconst (pc := 2) (0 : Int32) (by decide) d_BM_sounds_2 ?_
  refine a_istore_n (pc := 3) (lv' := [(2, .int (0 : Int32)), (1, .int (1 : Int32)), (0, .ref (gB g + 151))]) rfl (Nat.le_of_ble_eq_true rfl) rfl d_BM_sounds_3 ?_
  refine a_sub (pc := 4) [2, 1, 0] rfl ?_
  exact h
theorem sg_BM_sounds_4 {g : Gx} {Q : Int32 → St → Prop} {σ : St} {x1 : Int32} {x2 : Int32}
    (h : vp_in (5 : Int32) 8 ∧ (((ai σ 152 ((5 : Int32)).toNatClampNeg) ≤ x2 → (x1 = 0 ∨ x1 = 1) ∧ Q x1 σ) ∧ (¬ (ai σ 152 ((5 : Int32)).toNatClampNeg) ≤ x2 → (x1 = 0 → (x1 = 0 ∨ x1 = 1) ∧ Q x1 σ) ∧ (¬ x1 = 0 → vp_in x2 8 ∧ (K_BM_tips g (ai σ 156 (x2).toNatClampNeg) σ (fun s1 : St => vp_in x2 8 ∧ ((¬ (fi s1 151 35) = (ai s1 157 (x2).toNatClampNeg) → ∀ u2 : Int32, u2 = x2 + (1 : Int32) → S_BM_sounds_4 g Q s1 (0 : Int32) u2) ∧ ((fi s1 151 35) = (ai s1 157 (x2).toNatClampNeg) → vp_in x2 8 ∧ ((¬ (fi s1 151 36) = (ai s1 158 (x2).toNatClampNeg) → ∀ u3 : Int32, u3 = x2 + (1 : Int32) → S_BM_sounds_4 g Q s1 (0 : Int32) u3) ∧ ((fi s1 151 36) = (ai s1 158 (x2).toNatClampNeg) → ∀ u4 : Int32, u4 = x2 + (1 : Int32) → S_BM_sounds_4 g Q s1 (1 : Int32) u4)))))))))) : S_BM_sounds_4 g Q σ x1 x2 := by
  show Ax g m_BM_sounds 0 0 (ZI g Q) SH σ 0 0 4 [(0, .ref (gB g + 151)), (1, .int x1), (2, .int x2)] []
  refine a_iload_n (pc := 4) 2 rfl rfl d_BM_sounds_4 ?_
  refine a_aload_n (pc := 5) 0 rfl rfl d_BM_sounds_5 ?_
  refine a_getR (pc := 6) fg_BM_9 sx_151 rfl d_BM_sounds_6 ?_
  refine a_iconst (pc := 9) (5 : Int32) (by decide) d_BM_sounds_9 ?_
  obtain ⟨hx, h⟩ := h
  refine a_iald (pc := 10) sx_152 hx d_BM_sounds_10 ?_
  refine a_icmp_ge (pc := 11) 66 (by decide) d_BM_sounds_11 ⟨fun c0 => ?_, fun c0 => ?_⟩
  · replace h := h.1 c0
    refine a_iload_n (pc := 66) 1 rfl rfl d_BM_sounds_66 ?_
    exact b_zret (pc := 67) rfl h.1 d_BM_sounds_67 h.2
  · replace h := h.2 c0
    refine a_iload_n (pc := 14) 1 rfl rfl d_BM_sounds_14 ?_
    refine a_if_eq (pc := 15) 66 (by decide) d_BM_sounds_15 ⟨fun c0 => ?_, fun c0 => ?_⟩
    · replace h := h.1 c0
      refine a_iload_n (pc := 66) 1 rfl rfl d_BM_sounds_66 ?_
      exact b_zret (pc := 67) rfl h.1 d_BM_sounds_67 h.2
    · replace h := h.2 c0
      refine a_aload_n (pc := 18) 0 rfl rfl d_BM_sounds_18 ?_
      refine a_aload_n (pc := 19) 0 rfl rfl d_BM_sounds_19 ?_
      refine a_getR (pc := 20) fg_BM_22 sx_151 rfl d_BM_sounds_20 ?_
      refine a_iload_n (pc := 23) 2 rfl rfl d_BM_sounds_23 ?_
      obtain ⟨hx, h⟩ := h
      refine a_iald (pc := 24) sx_156 hx d_BM_sounds_24 ?_
      refine a_callV (pc := 25) (M' := m_BM_tips) (As := [.int (ai σ 156 (x2).toNatClampNeg)]) (st := []) (mc' := 0) (ms' := 0) lk_BM_396 rfl sx_151 rfl (by decide) (by decide) rfl (Nat.le_of_ble_eq_true rfl) (Nat.le_refl 0) (Nat.le_refl 0) d_BM_sounds_25 h ?_
      rintro _ _ s1 ⟨rfl, rfl, h⟩ -
      show Ax g m_BM_sounds 0 0 (ZI g Q) SH s1 0 0 28 [(0, .ref (gB g + 151)), (1, .int x1), (2, .int x2)] []
      refine a_aload_n (pc := 28) 0 rfl rfl d_BM_sounds_28 ?_
      refine a_getI (pc := 29) fg_BM_385 sx_151 rfl d_BM_sounds_29 ?_
      refine a_aload_n (pc := 32) 0 rfl rfl d_BM_sounds_32 ?_
      refine a_getR (pc := 33) fg_BM_25 sx_151 rfl d_BM_sounds_33 ?_
      refine a_iload_n (pc := 36) 2 rfl rfl d_BM_sounds_36 ?_
      obtain ⟨hx, h⟩ := h
      refine a_iald (pc := 37) sx_157 hx d_BM_sounds_37 ?_
      refine a_icmp_ne (pc := 38) 58 (by decide) d_BM_sounds_38 ⟨fun c0 => ?_, fun c0 => ?_⟩
      · replace h := h.1 c0
        refine a_iconst (pc := 58) (0 : Int32) (by decide) d_BM_sounds_58 ?_
        refine a_istore_n (pc := 59) (lv' := [(1, .int (0 : Int32)), (0, .ref (gB g + 151)), (2, .int x2)]) rfl (Nat.le_of_ble_eq_true rfl) rfl d_BM_sounds_59 ?_
        obtain ⟨u2, hu2⟩ : ∃ y : Int32, y = x2 + (1 : Int32) := ⟨_, rfl⟩
        replace h := h u2 hu2
        refine a_iinc (pc := 60) (v := u2) (lv' := [(2, .int u2), (1, .int (0 : Int32)), (0, .ref (gB g + 151))]) 2 rfl (by rw [hu2]; rfl) (Nat.le_of_ble_eq_true rfl) rfl d_BM_sounds_60 ?_
        refine a_goto (pc := 63) 4 (by decide) d_BM_sounds_63 ?_
        refine a_sub (pc := 4) [2, 1, 0] rfl ?_
        exact h
      · replace h := h.2 c0
        refine a_aload_n (pc := 41) 0 rfl rfl d_BM_sounds_41 ?_
        refine a_getI (pc := 42) fg_BM_388 sx_151 rfl d_BM_sounds_42 ?_
        refine a_aload_n (pc := 45) 0 rfl rfl d_BM_sounds_45 ?_
        refine a_getR (pc := 46) fg_BM_28 sx_151 rfl d_BM_sounds_46 ?_
        refine a_iload_n (pc := 49) 2 rfl rfl d_BM_sounds_49 ?_
        obtain ⟨hx, h⟩ := h
        refine a_iald (pc := 50) sx_158 hx d_BM_sounds_50 ?_
        refine a_icmp_ne (pc := 51) 58 (by decide) d_BM_sounds_51 ⟨fun c0 => ?_, fun c0 => ?_⟩
        · replace h := h.1 c0
          refine a_iconst (pc := 58) (0 : Int32) (by decide) d_BM_sounds_58 ?_
          refine a_istore_n (pc := 59) (lv' := [(1, .int (0 : Int32)), (0, .ref (gB g + 151)), (2, .int x2)]) rfl (Nat.le_of_ble_eq_true rfl) rfl d_BM_sounds_59 ?_
          obtain ⟨u3, hu3⟩ : ∃ y : Int32, y = x2 + (1 : Int32) := ⟨_, rfl⟩
          replace h := h u3 hu3
          refine a_iinc (pc := 60) (v := u3) (lv' := [(2, .int u3), (1, .int (0 : Int32)), (0, .ref (gB g + 151))]) 2 rfl (by rw [hu3]; rfl) (Nat.le_of_ble_eq_true rfl) rfl d_BM_sounds_60 ?_
          refine a_goto (pc := 63) 4 (by decide) d_BM_sounds_63 ?_
          refine a_sub (pc := 4) [2, 1, 0] rfl ?_
          exact h
        · replace h := h.2 c0
          refine a_iconst (pc := 54) (1 : Int32) (by decide) d_BM_sounds_54 ?_
          refine a_goto (pc := 55) 59 (by decide) d_BM_sounds_55 ?_
          refine a_istore_n (pc := 59) (lv' := [(1, .int (1 : Int32)), (0, .ref (gB g + 151)), (2, .int x2)]) rfl (Nat.le_of_ble_eq_true rfl) rfl d_BM_sounds_59 ?_
          obtain ⟨u4, hu4⟩ : ∃ y : Int32, y = x2 + (1 : Int32) := ⟨_, rfl⟩
          replace h := h u4 hu4
          refine a_iinc (pc := 60) (v := u4) (lv' := [(2, .int u4), (1, .int (1 : Int32)), (0, .ref (gB g + 151))]) 2 rfl (by rw [hu4]; rfl) (Nat.le_of_ble_eq_true rfl) rfl d_BM_sounds_60 ?_
          refine a_goto (pc := 63) 4 (by decide) d_BM_sounds_63 ?_
          refine a_sub (pc := 4) [2, 1, 0] rfl ?_
          exact h
theorem ko_BM_sounds {g : Gx}  {σ : St} {Q : Int32 → St → Prop} (h : S_BM_sounds_0 g Q σ) : K_BM_sounds g  σ Q := KI.of (show plainName "BallBoxModel" = true by decide) (Nat.le_of_ble_eq_true rfl) h
theorem d_BM_groupsAll_0 : decode c_BM_groupsAll 0 = .ok (.aload_n 0, 1) := by decide +kernel
theorem d_BM_groupsAll_1 : decode c_BM_groupsAll 1 = .ok (.getfield 16, 3) := by decide +kernel
theorem d_BM_groupsAll_4 : decode c_BM_groupsAll 4 = .ok (.aload_n 0, 1) := by decide +kernel
theorem d_BM_groupsAll_5 : decode c_BM_groupsAll 5 = .ok (.getfield 82, 3) := by decide +kernel
theorem d_BM_groupsAll_8 : decode c_BM_groupsAll 8 = .ok (.invokestatic 333, 3) := by decide +kernel
theorem d_BM_groupsAll_11 : decode c_BM_groupsAll 11 = .ok (.iconst 0, 1) := by decide +kernel
theorem d_BM_groupsAll_12 : decode c_BM_groupsAll 12 = .ok (.istore_n 1, 1) := by decide +kernel
theorem d_BM_groupsAll_13 : decode c_BM_groupsAll 13 = .ok (.iload_n 1, 1) := by decide +kernel
theorem d_BM_groupsAll_14 : decode c_BM_groupsAll 14 = .ok (.iconst 4, 1) := by decide +kernel
theorem d_BM_groupsAll_15 : decode c_BM_groupsAll 15 = .ok (.if_icmp .ge 49, 3) := by decide +kernel
theorem d_BM_groupsAll_18 : decode c_BM_groupsAll 18 = .ok (.aload_n 0, 1) := by decide +kernel
theorem d_BM_groupsAll_19 : decode c_BM_groupsAll 19 = .ok (.iload_n 1, 1) := by decide +kernel
theorem d_BM_groupsAll_20 : decode c_BM_groupsAll 20 = .ok (.invokevirtual 396, 3) := by decide +kernel
theorem d_BM_groupsAll_23 : decode c_BM_groupsAll 23 = .ok (.aload_n 0, 1) := by decide +kernel
theorem d_BM_groupsAll_24 : decode c_BM_groupsAll 24 = .ok (.getfield 119, 3) := by decide +kernel
theorem d_BM_groupsAll_27 : decode c_BM_groupsAll 27 = .ok (.iconst 4, 1) := by decide +kernel
theorem d_BM_groupsAll_28 : decode c_BM_groupsAll 28 = .ok (.iconst 4, 1) := by decide +kernel
theorem d_BM_groupsAll_29 : decode c_BM_groupsAll 29 = .ok (.iload_n 1, 1) := by decide +kernel
theorem d_BM_groupsAll_30 : decode c_BM_groupsAll 30 = .ok (.imul, 1) := by decide +kernel
theorem d_BM_groupsAll_31 : decode c_BM_groupsAll 31 = .ok (.aload_n 0, 1) := by decide +kernel
theorem d_BM_groupsAll_32 : decode c_BM_groupsAll 32 = .ok (.getfield 385, 3) := by decide +kernel
theorem d_BM_groupsAll_35 : decode c_BM_groupsAll 35 = .ok (.iadd, 1) := by decide +kernel
theorem d_BM_groupsAll_36 : decode c_BM_groupsAll 36 = .ok (.imul, 1) := by decide +kernel
theorem d_BM_groupsAll_37 : decode c_BM_groupsAll 37 = .ok (.aload_n 0, 1) := by decide +kernel
theorem d_BM_groupsAll_38 : decode c_BM_groupsAll 38 = .ok (.getfield 388, 3) := by decide +kernel
theorem d_BM_groupsAll_41 : decode c_BM_groupsAll 41 = .ok (.iadd, 1) := by decide +kernel
theorem d_BM_groupsAll_42 : decode c_BM_groupsAll 42 = .ok (.dup2, 1) := by decide +kernel
theorem d_BM_groupsAll_43 : decode c_BM_groupsAll 43 = .ok (.iaload, 1) := by decide +kernel
theorem d_BM_groupsAll_44 : decode c_BM_groupsAll 44 = .ok (.iconst 1, 1) := by decide +kernel
theorem d_BM_groupsAll_45 : decode c_BM_groupsAll 45 = .ok (.iadd, 1) := by decide +kernel
theorem d_BM_groupsAll_46 : decode c_BM_groupsAll 46 = .ok (.iastore, 1) := by decide +kernel
theorem d_BM_groupsAll_47 : decode c_BM_groupsAll 47 = .ok (.aload_n 0, 1) := by decide +kernel
theorem d_BM_groupsAll_48 : decode c_BM_groupsAll 48 = .ok (.getfield 82, 3) := by decide +kernel
theorem d_BM_groupsAll_51 : decode c_BM_groupsAll 51 = .ok (.aload_n 0, 1) := by decide +kernel
theorem d_BM_groupsAll_52 : decode c_BM_groupsAll 52 = .ok (.getfield 16, 3) := by decide +kernel
theorem d_BM_groupsAll_55 : decode c_BM_groupsAll 55 = .ok (.invokestatic 333, 3) := by decide +kernel
theorem d_BM_groupsAll_58 : decode c_BM_groupsAll 58 = .ok (.iinc 1 1, 3) := by decide +kernel
theorem d_BM_groupsAll_61 : decode c_BM_groupsAll 61 = .ok (.goto (-48), 3) := by decide +kernel
theorem d_BM_groupsAll_64 : decode c_BM_groupsAll 64 = .ok (.return_, 1) := by decide +kernel
def S_BM_groupsAll_0 (g : Gx) (Q : St → Prop) (σ : St) : Prop := Ax g m_BM_groupsAll 0 0 (ZV g Q) SH σ 0 0 0 [(0, .ref (gB g + 151))] []
def S_BM_groupsAll_13 (g : Gx) (Q : St → Prop) (σ : St) (x1 : Int32) : Prop := Ax g m_BM_groupsAll 0 0 (ZV g Q) SH σ 0 0 13 [(0, .ref (gB g + 151)), (1, .int x1)] []
theorem sg_BM_groupsAll_0 {g : Gx} {Q : St → Prop} {σ : St}
    (h : K_BM_lay g 154 174 σ (fun s1 : St => S_BM_groupsAll_13 g Q s1 (0 : Int32))) : S_BM_groupsAll_0 g Q σ := by
  show Ax g m_BM_groupsAll 0 0 (ZV g Q) SH σ 0 0 0 [(0, .ref (gB g + 151))] []
  refine a_aload_n (pc := 0) 0 rfl rfl d_BM_groupsAll_0 ?_
  refine a_getR (pc := 1) fg_BM_16 sx_151 rfl d_BM_groupsAll_1 ?_
  refine a_aload_n (pc := 4) 0 rfl rfl d_BM_groupsAll_4 ?_
  refine a_getR (pc := 5) fg_BM_82 sx_151 rfl d_BM_groupsAll_5 ?_
  refine a_callS (pc := 8) (M' := m_BM_lay) (As := [.ref (gB g + 154), .ref (gB g + 174)]) (st := []) (mc' := 0) (ms' := 0) lk_BM_333 rfl (by decide) (by decide) rfl (Nat.le_of_ble_eq_true rfl) (Nat.le_refl 0) (Nat.le_refl 0) d_BM_groupsAll_8 h ?_
  rintro _ _ s1 ⟨rfl, rfl, h⟩ -
  show Ax g m_BM_groupsAll 0 0 (ZV g Q) SH s1 0 0 11 [(0, .ref (gB g + 151))] []
  refine a_iconst (pc := 11) (0 : Int32) (by decide) d_BM_groupsAll_11 ?_
  refine a_istore_n (pc := 12) (lv' := [(1, .int (0 : Int32)), (0, .ref (gB g + 151))]) rfl (Nat.le_of_ble_eq_true rfl) rfl d_BM_groupsAll_12 ?_
  refine a_sub (pc := 13) [1, 0] rfl ?_
  exact h
theorem sg_BM_groupsAll_13 {g : Gx} {Q : St → Prop} {σ : St} {x1 : Int32}
    (h : ((4 : Int32) ≤ x1 → Q σ) ∧ (¬ (4 : Int32) ≤ x1 → K_BM_tips g x1 σ (fun s1 : St => vp_in (((4 : Int32) * (((4 : Int32) * x1) + (fi s1 151 35))) + (fi s1 151 36)) 64 ∧ (vp_in (((4 : Int32) * (((4 : Int32) * x1) + (fi s1 151 35))) + (fi s1 151 36)) 64 ∧ (∀ s2 : St, s2 = sai s1 186 ((((4 : Int32) * (((4 : Int32) * x1) + (fi s1 151 35))) + (fi s1 151 36))).toNatClampNeg ((ai s1 186 ((((4 : Int32) * (((4 : Int32) * x1) + (fi s1 151 35))) + (fi s1 151 36))).toNatClampNeg) + (1 : Int32)) → K_BM_lay g 174 154 s2 (fun s3 : St => ∀ u4 : Int32, u4 = x1 + (1 : Int32) → S_BM_groupsAll_13 g Q s3 u4)))))) : S_BM_groupsAll_13 g Q σ x1 := by
  show Ax g m_BM_groupsAll 0 0 (ZV g Q) SH σ 0 0 13 [(0, .ref (gB g + 151)), (1, .int x1)] []
  refine a_iload_n (pc := 13) 1 rfl rfl d_BM_groupsAll_13 ?_
  refine a_iconst (pc := 14) (4 : Int32) (by decide) d_BM_groupsAll_14 ?_
  refine a_icmp_ge (pc := 15) 64 (by decide) d_BM_groupsAll_15 ⟨fun c0 => ?_, fun c0 => ?_⟩
  · replace h := h.1 c0
    exact b_vret (pc := 64) rfl d_BM_groupsAll_64 h
  · replace h := h.2 c0
    refine a_aload_n (pc := 18) 0 rfl rfl d_BM_groupsAll_18 ?_
    refine a_iload_n (pc := 19) 1 rfl rfl d_BM_groupsAll_19 ?_
    refine a_callV (pc := 20) (M' := m_BM_tips) (As := [.int x1]) (st := []) (mc' := 0) (ms' := 0) lk_BM_396 rfl sx_151 rfl (by decide) (by decide) rfl (Nat.le_of_ble_eq_true rfl) (Nat.le_refl 0) (Nat.le_refl 0) d_BM_groupsAll_20 h ?_
    rintro _ _ s1 ⟨rfl, rfl, h⟩ -
    show Ax g m_BM_groupsAll 0 0 (ZV g Q) SH s1 0 0 23 [(0, .ref (gB g + 151)), (1, .int x1)] []
    refine a_aload_n (pc := 23) 0 rfl rfl d_BM_groupsAll_23 ?_
    refine a_getR (pc := 24) fg_BM_119 sx_151 rfl d_BM_groupsAll_24 ?_
    refine a_iconst (pc := 27) (4 : Int32) (by decide) d_BM_groupsAll_27 ?_
    refine a_iconst (pc := 28) (4 : Int32) (by decide) d_BM_groupsAll_28 ?_
    refine a_iload_n (pc := 29) 1 rfl rfl d_BM_groupsAll_29 ?_
    refine a_imul (pc := 30) d_BM_groupsAll_30 ?_
    refine a_aload_n (pc := 31) 0 rfl rfl d_BM_groupsAll_31 ?_
    refine a_getI (pc := 32) fg_BM_385 sx_151 rfl d_BM_groupsAll_32 ?_
    refine a_iadd (pc := 35) d_BM_groupsAll_35 ?_
    refine a_imul (pc := 36) d_BM_groupsAll_36 ?_
    refine a_aload_n (pc := 37) 0 rfl rfl d_BM_groupsAll_37 ?_
    refine a_getI (pc := 38) fg_BM_388 sx_151 rfl d_BM_groupsAll_38 ?_
    refine a_iadd (pc := 41) d_BM_groupsAll_41 ?_
    refine a_dup2_11 (pc := 42) rfl rfl d_BM_groupsAll_42 ?_
    obtain ⟨hx, h⟩ := h
    refine a_iald (pc := 43) sx_186 hx d_BM_groupsAll_43 ?_
    refine a_iconst (pc := 44) (1 : Int32) (by decide) d_BM_groupsAll_44 ?_
    refine a_iadd (pc := 45) d_BM_groupsAll_45 ?_
    obtain ⟨hx, h⟩ := h
    refine a_iast (pc := 46) sx_186 hx d_BM_groupsAll_46 ?_
    refine a_nms (fun s2 hs2 => ?_)
    replace h := h s2 hs2
    refine a_aload_n (pc := 47) 0 rfl rfl d_BM_groupsAll_47 ?_
    refine a_getR (pc := 48) fg_BM_82 sx_151 rfl d_BM_groupsAll_48 ?_
    refine a_aload_n (pc := 51) 0 rfl rfl d_BM_groupsAll_51 ?_
    refine a_getR (pc := 52) fg_BM_16 sx_151 rfl d_BM_groupsAll_52 ?_
    refine a_callS (pc := 55) (M' := m_BM_lay) (As := [.ref (gB g + 174), .ref (gB g + 154)]) (st := []) (mc' := 0) (ms' := 0) lk_BM_333 rfl (by decide) (by decide) rfl (Nat.le_of_ble_eq_true rfl) (Nat.le_refl 0) (Nat.le_refl 0) d_BM_groupsAll_55 h ?_
    rintro _ _ s3 ⟨rfl, rfl, h⟩ -
    show Ax g m_BM_groupsAll 0 0 (ZV g Q) SH s3 0 0 58 [(0, .ref (gB g + 151)), (1, .int x1)] []
    obtain ⟨u4, hu4⟩ : ∃ y : Int32, y = x1 + (1 : Int32) := ⟨_, rfl⟩
    replace h := h u4 hu4
    refine a_iinc (pc := 58) (v := u4) (lv' := [(1, .int u4), (0, .ref (gB g + 151))]) 1 rfl (by rw [hu4]; rfl) (Nat.le_of_ble_eq_true rfl) rfl d_BM_groupsAll_58 ?_
    refine a_goto (pc := 61) 13 (by decide) d_BM_groupsAll_61 ?_
    refine a_sub (pc := 13) [1, 0] rfl ?_
    exact h
theorem ko_BM_groupsAll {g : Gx}  {σ : St} {Q : St → Prop} (h : S_BM_groupsAll_0 g Q σ) : K_BM_groupsAll g  σ Q := KV.of (show plainName "BallBoxModel" = true by decide) (Nat.le_of_ble_eq_true rfl) h
theorem d_BM_findsFits_0 : decode c_BM_findsFits 0 = .ok (.aload_n 0, 1) := by decide +kernel
theorem d_BM_findsFits_1 : decode c_BM_findsFits 1 = .ok (.getfield 16, 3) := by decide +kernel
theorem d_BM_findsFits_4 : decode c_BM_findsFits 4 = .ok (.aload_n 0, 1) := by decide +kernel
theorem d_BM_findsFits_5 : decode c_BM_findsFits 5 = .ok (.getfield 98, 3) := by decide +kernel
theorem d_BM_findsFits_8 : decode c_BM_findsFits 8 = .ok (.invokestatic 333, 3) := by decide +kernel
theorem d_BM_findsFits_11 : decode c_BM_findsFits 11 = .ok (.aload_n 0, 1) := by decide +kernel
theorem d_BM_findsFits_12 : decode c_BM_findsFits 12 = .ok (.iconst 0, 1) := by decide +kernel
theorem d_BM_findsFits_13 : decode c_BM_findsFits 13 = .ok (.putfield 493, 3) := by decide +kernel
theorem d_BM_findsFits_16 : decode c_BM_findsFits 16 = .ok (.iconst 0, 1) := by decide +kernel
theorem d_BM_findsFits_17 : decode c_BM_findsFits 17 = .ok (.istore_n 1, 1) := by decide +kernel
theorem d_BM_findsFits_18 : decode c_BM_findsFits 18 = .ok (.iload_n 1, 1) := by decide +kernel
theorem d_BM_findsFits_19 : decode c_BM_findsFits 19 = .ok (.aload_n 0, 1) := by decide +kernel
theorem d_BM_findsFits_20 : decode c_BM_findsFits 20 = .ok (.getfield 119, 3) := by decide +kernel
theorem d_BM_findsFits_23 : decode c_BM_findsFits 23 = .ok (.arraylength, 1) := by decide +kernel
theorem d_BM_findsFits_24 : decode c_BM_findsFits 24 = .ok (.if_icmp .ge 16, 3) := by decide +kernel
theorem d_BM_findsFits_27 : decode c_BM_findsFits 27 = .ok (.aload_n 0, 1) := by decide +kernel
theorem d_BM_findsFits_28 : decode c_BM_findsFits 28 = .ok (.getfield 119, 3) := by decide +kernel
theorem d_BM_findsFits_31 : decode c_BM_findsFits 31 = .ok (.iload_n 1, 1) := by decide +kernel
theorem d_BM_findsFits_32 : decode c_BM_findsFits 32 = .ok (.iconst 0, 1) := by decide +kernel
theorem d_BM_findsFits_33 : decode c_BM_findsFits 33 = .ok (.iastore, 1) := by decide +kernel
theorem d_BM_findsFits_34 : decode c_BM_findsFits 34 = .ok (.iinc 1 1, 3) := by decide +kernel
theorem d_BM_findsFits_37 : decode c_BM_findsFits 37 = .ok (.goto (-19), 3) := by decide +kernel
theorem d_BM_findsFits_40 : decode c_BM_findsFits 40 = .ok (.iconst 0, 1) := by decide +kernel
theorem d_BM_findsFits_41 : decode c_BM_findsFits 41 = .ok (.istore_n 1, 1) := by decide +kernel
theorem d_BM_findsFits_42 : decode c_BM_findsFits 42 = .ok (.iload_n 1, 1) := by decide +kernel
theorem d_BM_findsFits_43 : decode c_BM_findsFits 43 = .ok (.iconst 3, 1) := by decide +kernel
theorem d_BM_findsFits_44 : decode c_BM_findsFits 44 = .ok (.if_icmp .ge 16, 3) := by decide +kernel
theorem d_BM_findsFits_47 : decode c_BM_findsFits 47 = .ok (.aload_n 0, 1) := by decide +kernel
theorem d_BM_findsFits_48 : decode c_BM_findsFits 48 = .ok (.getfield 122, 3) := by decide +kernel
theorem d_BM_findsFits_51 : decode c_BM_findsFits 51 = .ok (.iload_n 1, 1) := by decide +kernel
theorem d_BM_findsFits_52 : decode c_BM_findsFits 52 = .ok (.lconst 0, 1) := by decide +kernel
theorem d_BM_findsFits_53 : decode c_BM_findsFits 53 = .ok (.lastore, 1) := by decide +kernel
theorem d_BM_findsFits_54 : decode c_BM_findsFits 54 = .ok (.iinc 1 1, 3) := by decide +kernel
theorem d_BM_findsFits_57 : decode c_BM_findsFits 57 = .ok (.goto (-15), 3) := by decide +kernel
theorem d_BM_findsFits_60 : decode c_BM_findsFits 60 = .ok (.iconst 0, 1) := by decide +kernel
theorem d_BM_findsFits_61 : decode c_BM_findsFits 61 = .ok (.istore_n 1, 1) := by decide +kernel
theorem d_BM_findsFits_62 : decode c_BM_findsFits 62 = .ok (.iload_n 1, 1) := by decide +kernel
theorem d_BM_findsFits_63 : decode c_BM_findsFits 63 = .ok (.aload_n 0, 1) := by decide +kernel
theorem d_BM_findsFits_64 : decode c_BM_findsFits 64 = .ok (.invokevirtual 443, 3) := by decide +kernel
theorem d_BM_findsFits_67 : decode c_BM_findsFits 67 = .ok (.if_icmp .ge 115, 3) := by decide +kernel
theorem d_BM_findsFits_70 : decode c_BM_findsFits 70 = .ok (.aload_n 0, 1) := by decide +kernel
theorem d_BM_findsFits_71 : decode c_BM_findsFits 71 = .ok (.iload_n 1, 1) := by decide +kernel
theorem d_BM_findsFits_72 : decode c_BM_findsFits 72 = .ok (.aload_n 0, 1) := by decide +kernel
theorem d_BM_findsFits_73 : decode c_BM_findsFits 73 = .ok (.getfield 9, 3) := by decide +kernel
theorem d_BM_findsFits_76 : decode c_BM_findsFits 76 = .ok (.iconst 2, 1) := by decide +kernel
theorem d_BM_findsFits_77 : decode c_BM_findsFits 77 = .ok (.iaload, 1) := by decide +kernel
theorem d_BM_findsFits_78 : decode c_BM_findsFits 78 = .ok (.invokevirtual 446, 3) := by decide +kernel
theorem d_BM_findsFits_81 : decode c_BM_findsFits 81 = .ok (.ifCond .eq 95, 3) := by decide +kernel
theorem d_BM_findsFits_84 : decode c_BM_findsFits 84 = .ok (.aload_n 0, 1) := by decide +kernel
theorem d_BM_findsFits_85 : decode c_BM_findsFits 85 = .ok (.getfield 16, 3) := by decide +kernel
theorem d_BM_findsFits_88 : decode c_BM_findsFits 88 = .ok (.aload_n 0, 1) := by decide +kernel
theorem d_BM_findsFits_89 : decode c_BM_findsFits 89 = .ok (.getfield 125, 3) := by decide +kernel
theorem d_BM_findsFits_92 : decode c_BM_findsFits 92 = .ok (.invokestatic 333, 3) := by decide +kernel
theorem d_BM_findsFits_95 : decode c_BM_findsFits 95 = .ok (.aload_n 0, 1) := by decide +kernel
theorem d_BM_findsFits_96 : decode c_BM_findsFits 96 = .ok (.invokevirtual 496, 3) := by decide +kernel
theorem d_BM_findsFits_99 : decode c_BM_findsFits 99 = .ok (.ifCond .eq 77, 3) := by decide +kernel
theorem d_BM_findsFits_102 : decode c_BM_findsFits 102 = .ok (.aload_n 0, 1) := by decide +kernel
theorem d_BM_findsFits_103 : decode c_BM_findsFits 103 = .ok (.getfield 125, 3) := by decide +kernel
theorem d_BM_findsFits_106 : decode c_BM_findsFits 106 = .ok (.aload_n 0, 1) := by decide +kernel
theorem d_BM_findsFits_107 : decode c_BM_findsFits 107 = .ok (.getfield 493, 3) := by decide +kernel
theorem d_BM_findsFits_110 : decode c_BM_findsFits 110 = .ok (.ifCond .ne 10, 3) := by decide +kernel
theorem d_BM_findsFits_113 : decode c_BM_findsFits 113 = .ok (.aload_n 0, 1) := by decide +kernel
theorem d_BM_findsFits_114 : decode c_BM_findsFits 114 = .ok (.getfield 116, 3) := by decide +kernel
theorem d_BM_findsFits_117 : decode c_BM_findsFits 117 = .ok (.goto 7, 3) := by decide +kernel
theorem d_BM_findsFits_120 : decode c_BM_findsFits 120 = .ok (.aload_n 0, 1) := by decide +kernel
theorem d_BM_findsFits_121 : decode c_BM_findsFits 121 = .ok (.getfield 125, 3) := by decide +kernel
theorem d_BM_findsFits_124 : decode c_BM_findsFits 124 = .ok (.invokestatic 333, 3) := by decide +kernel
theorem d_BM_findsFits_127 : decode c_BM_findsFits 127 = .ok (.iconst 0, 1) := by decide +kernel
theorem d_BM_findsFits_128 : decode c_BM_findsFits 128 = .ok (.istore_n 2, 1) := by decide +kernel
theorem d_BM_findsFits_129 : decode c_BM_findsFits 129 = .ok (.iload_n 2, 1) := by decide +kernel
theorem d_BM_findsFits_130 : decode c_BM_findsFits 130 = .ok (.aload_n 0, 1) := by decide +kernel
theorem d_BM_findsFits_131 : decode c_BM_findsFits 131 = .ok (.getfield 9, 3) := by decide +kernel
theorem d_BM_findsFits_134 : decode c_BM_findsFits 134 = .ok (.iconst 2, 1) := by decide +kernel
theorem d_BM_findsFits_135 : decode c_BM_findsFits 135 = .ok (.iaload, 1) := by decide +kernel
theorem d_BM_findsFits_136 : decode c_BM_findsFits 136 = .ok (.if_icmp .ge 26, 3) := by decide +kernel
theorem d_BM_findsFits_139 : decode c_BM_findsFits 139 = .ok (.aload_n 0, 1) := by decide +kernel
theorem d_BM_findsFits_140 : decode c_BM_findsFits 140 = .ok (.getfield 122, 3) := by decide +kernel
theorem d_BM_findsFits_143 : decode c_BM_findsFits 143 = .ok (.iload_n 2, 1) := by decide +kernel
theorem d_BM_findsFits_144 : decode c_BM_findsFits 144 = .ok (.dup2, 1) := by decide +kernel
theorem d_BM_findsFits_145 : decode c_BM_findsFits 145 = .ok (.laload, 1) := by decide +kernel
theorem d_BM_findsFits_146 : decode c_BM_findsFits 146 = .ok (.lconst 1, 1) := by decide +kernel
theorem d_BM_findsFits_147 : decode c_BM_findsFits 147 = .ok (.aload_n 0, 1) := by decide +kernel
theorem d_BM_findsFits_148 : decode c_BM_findsFits 148 = .ok (.getfield 125, 3) := by decide +kernel
theorem d_BM_findsFits_151 : decode c_BM_findsFits 151 = .ok (.iload_n 2, 1) := by decide +kernel
theorem d_BM_findsFits_152 : decode c_BM_findsFits 152 = .ok (.iaload, 1) := by decide +kernel
theorem d_BM_findsFits_153 : decode c_BM_findsFits 153 = .ok (.lshl, 1) := by decide +kernel
theorem d_BM_findsFits_154 : decode c_BM_findsFits 154 = .ok (.lor, 1) := by decide +kernel
theorem d_BM_findsFits_155 : decode c_BM_findsFits 155 = .ok (.lastore, 1) := by decide +kernel
theorem d_BM_findsFits_156 : decode c_BM_findsFits 156 = .ok (.iinc 2 1, 3) := by decide +kernel
theorem d_BM_findsFits_159 : decode c_BM_findsFits 159 = .ok (.goto (-30), 3) := by decide +kernel
theorem d_BM_findsFits_162 : decode c_BM_findsFits 162 = .ok (.aload_n 0, 1) := by decide +kernel
theorem d_BM_findsFits_163 : decode c_BM_findsFits 163 = .ok (.dup, 1) := by decide +kernel
theorem d_BM_findsFits_164 : decode c_BM_findsFits 164 = .ok (.getfield 493, 3) := by decide +kernel
theorem d_BM_findsFits_167 : decode c_BM_findsFits 167 = .ok (.iconst 1, 1) := by decide +kernel
theorem d_BM_findsFits_168 : decode c_BM_findsFits 168 = .ok (.iadd, 1) := by decide +kernel
theorem d_BM_findsFits_169 : decode c_BM_findsFits 169 = .ok (.putfield 493, 3) := by decide +kernel
theorem d_BM_findsFits_172 : decode c_BM_findsFits 172 = .ok (.aload_n 0, 1) := by decide +kernel
theorem d_BM_findsFits_173 : decode c_BM_findsFits 173 = .ok (.invokevirtual 499, 3) := by decide +kernel
theorem d_BM_findsFits_176 : decode c_BM_findsFits 176 = .ok (.iinc 1 1, 3) := by decide +kernel
theorem d_BM_findsFits_179 : decode c_BM_findsFits 179 = .ok (.goto (-117), 3) := by decide +kernel
theorem d_BM_findsFits_182 : decode c_BM_findsFits 182 = .ok (.aload_n 0, 1) := by decide +kernel
theorem d_BM_findsFits_183 : decode c_BM_findsFits 183 = .ok (.getfield 98, 3) := by decide +kernel
theorem d_BM_findsFits_186 : decode c_BM_findsFits 186 = .ok (.aload_n 0, 1) := by decide +kernel
theorem d_BM_findsFits_187 : decode c_BM_findsFits 187 = .ok (.getfield 16, 3) := by decide +kernel
theorem d_BM_findsFits_190 : decode c_BM_findsFits 190 = .ok (.invokestatic 333, 3) := by decide +kernel
theorem d_BM_findsFits_193 : decode c_BM_findsFits 193 = .ok (.return_, 1) := by decide +kernel
def S_BM_findsFits_0 (g : Gx) (Q : St → Prop) (σ : St) : Prop := Ax g m_BM_findsFits 0 0 (ZV g Q) SH σ 0 0 0 [(0, .ref (gB g + 151))] []
def S_BM_findsFits_18 (g : Gx) (Q : St → Prop) (σ : St) (x1 : Int32) : Prop := Ax g m_BM_findsFits 0 0 (ZV g Q) SH σ 0 0 18 [(0, .ref (gB g + 151)), (1, .int x1)] []
def S_BM_findsFits_42 (g : Gx) (Q : St → Prop) (σ : St) (x1 : Int32) : Prop := Ax g m_BM_findsFits 0 0 (ZV g Q) SH σ 0 0 42 [(0, .ref (gB g + 151)), (1, .int x1)] []
def S_BM_findsFits_62 (g : Gx) (Q : St → Prop) (σ : St) (x1 : Int32) : Prop := Ax g m_BM_findsFits 0 0 (ZV g Q) SH σ 0 0 62 [(0, .ref (gB g + 151)), (1, .int x1)] []
def S_BM_findsFits_129 (g : Gx) (Q : St → Prop) (σ : St) (x1 : Int32) (x2 : Int32) : Prop := Ax g m_BM_findsFits 0 0 (ZV g Q) SH σ 0 0 129 [(0, .ref (gB g + 151)), (1, .int x1), (2, .int x2)] []
theorem sg_BM_findsFits_0 {g : Gx} {Q : St → Prop} {σ : St}
    (h : K_BM_lay g 154 179 σ (fun s1 : St => ∀ s2 : St, s2 = sfi s1 151 60 (0 : Int32) → S_BM_findsFits_18 g Q s2 (0 : Int32))) : S_BM_findsFits_0 g Q σ := by
  show Ax g m_BM_findsFits 0 0 (ZV g Q) SH σ 0 0 0 [(0, .ref (gB g + 151))] []
  refine a_aload_n (pc := 0) 0 rfl rfl d_BM_findsFits_0 ?_
  refine a_getR (pc := 1) fg_BM_16 sx_151 rfl d_BM_findsFits_1 ?_
  refine a_aload_n (pc := 4) 0 rfl rfl d_BM_findsFits_4 ?_
  refine a_getR (pc := 5) fg_BM_98 sx_151 rfl d_BM_findsFits_5 ?_
  refine a_callS (pc := 8) (M' := m_BM_lay) (As := [.ref (gB g + 154), .ref (gB g + 179)]) (st := []) (mc' := 0) (ms' := 0) lk_BM_333 rfl (by decide) (by decide) rfl (Nat.le_of_ble_eq_true rfl) (Nat.le_refl 0) (Nat.le_refl 0) d_BM_findsFits_8 h ?_
  rintro _ _ s1 ⟨rfl, rfl, h⟩ -
  show Ax g m_BM_findsFits 0 0 (ZV g Q) SH s1 0 0 11 [(0, .ref (gB g + 151))] []
  refine a_aload_n (pc := 11) 0 rfl rfl d_BM_findsFits_11 ?_
  refine a_iconst (pc := 12) (0 : Int32) (by decide) d_BM_findsFits_12 ?_
  refine a_putI (pc := 13) fp_BM_493 sx_151 rfl d_BM_findsFits_13 ?_
  refine a_nms (fun s2 hs2 => ?_)
  replace h := h s2 hs2
  refine a_iconst (pc := 16) (0 : Int32) (by decide) d_BM_findsFits_16 ?_
  refine a_istore_n (pc := 17) (lv' := [(1, .int (0 : Int32)), (0, .ref (gB g + 151))]) rfl (Nat.le_of_ble_eq_true rfl) rfl d_BM_findsFits_17 ?_
  refine a_sub (pc := 18) [1, 0] rfl ?_
  exact h
theorem sg_BM_findsFits_18 {g : Gx} {Q : St → Prop} {σ : St} {x1 : Int32}
    (h : ((64 : Int32) ≤ x1 → S_BM_findsFits_42 g Q σ (0 : Int32)) ∧ (¬ (64 : Int32) ≤ x1 → vp_in x1 64 ∧ (∀ s1 : St, s1 = sai σ 186 (x1).toNatClampNeg (0 : Int32) → ∀ u2 : Int32, u2 = x1 + (1 : Int32) → S_BM_findsFits_18 g Q s1 u2))) : S_BM_findsFits_18 g Q σ x1 := by
  show Ax g m_BM_findsFits 0 0 (ZV g Q) SH σ 0 0 18 [(0, .ref (gB g + 151)), (1, .int x1)] []
  refine a_iload_n (pc := 18) 1 rfl rfl d_BM_findsFits_18 ?_
  refine a_aload_n (pc := 19) 0 rfl rfl d_BM_findsFits_19 ?_
  refine a_getR (pc := 20) fg_BM_119 sx_151 rfl d_BM_findsFits_20 ?_
  refine a_alen (pc := 23) (kd := 0) rfl sx_186 d_BM_findsFits_23 ?_
  refine a_icmp_ge (pc := 24) 40 (by decide) d_BM_findsFits_24 ⟨fun c0 => ?_, fun c0 => ?_⟩
  · replace h := h.1 c0
    refine a_iconst (pc := 40) (0 : Int32) (by decide) d_BM_findsFits_40 ?_
    refine a_istore_n (pc := 41) (lv' := [(1, .int (0 : Int32)), (0, .ref (gB g + 151))]) rfl (Nat.le_of_ble_eq_true rfl) rfl d_BM_findsFits_41 ?_
    refine a_sub (pc := 42) [1, 0] rfl ?_
    exact h
  · replace h := h.2 c0
    refine a_aload_n (pc := 27) 0 rfl rfl d_BM_findsFits_27 ?_
    refine a_getR (pc := 28) fg_BM_119 sx_151 rfl d_BM_findsFits_28 ?_
    refine a_iload_n (pc := 31) 1 rfl rfl d_BM_findsFits_31 ?_
    refine a_iconst (pc := 32) (0 : Int32) (by decide) d_BM_findsFits_32 ?_
    obtain ⟨hx, h⟩ := h
    refine a_iast (pc := 33) sx_186 hx d_BM_findsFits_33 ?_
    refine a_nms (fun s1 hs1 => ?_)
    replace h := h s1 hs1
    obtain ⟨u2, hu2⟩ : ∃ y : Int32, y = x1 + (1 : Int32) := ⟨_, rfl⟩
    replace h := h u2 hu2
    refine a_iinc (pc := 34) (v := u2) (lv' := [(1, .int u2), (0, .ref (gB g + 151))]) 1 rfl (by rw [hu2]; rfl) (Nat.le_of_ble_eq_true rfl) rfl d_BM_findsFits_34 ?_
    refine a_goto (pc := 37) 18 (by decide) d_BM_findsFits_37 ?_
    refine a_sub (pc := 18) [1, 0] rfl ?_
    exact h
theorem sg_BM_findsFits_42 {g : Gx} {Q : St → Prop} {σ : St} {x1 : Int32}
    (h : ((3 : Int32) ≤ x1 → S_BM_findsFits_62 g Q σ (0 : Int32)) ∧ (¬ (3 : Int32) ≤ x1 → vp_in x1 3 ∧ (∀ s1 : St, s1 = saj σ 187 (x1).toNatClampNeg (0 : Int64) → ∀ u2 : Int32, u2 = x1 + (1 : Int32) → S_BM_findsFits_42 g Q s1 u2))) : S_BM_findsFits_42 g Q σ x1 := by
  show Ax g m_BM_findsFits 0 0 (ZV g Q) SH σ 0 0 42 [(0, .ref (gB g + 151)), (1, .int x1)] []
  refine a_iload_n (pc := 42) 1 rfl rfl d_BM_findsFits_42 ?_
  refine a_iconst (pc := 43) (3 : Int32) (by decide) d_BM_findsFits_43 ?_
  refine a_icmp_ge (pc := 44) 60 (by decide) d_BM_findsFits_44 ⟨fun c0 => ?_, fun c0 => ?_⟩
  · replace h := h.1 c0
    refine a_iconst (pc := 60) (0 : Int32) (by decide) d_BM_findsFits_60 ?_
    refine a_istore_n (pc := 61) (lv' := [(1, .int (0 : Int32)), (0, .ref (gB g + 151))]) rfl (Nat.le_of_ble_eq_true rfl) rfl d_BM_findsFits_61 ?_
    refine a_sub (pc := 62) [1, 0] rfl ?_
    exact h
  · replace h := h.2 c0
    refine a_aload_n (pc := 47) 0 rfl rfl d_BM_findsFits_47 ?_
    refine a_getR (pc := 48) fg_BM_122 sx_151 rfl d_BM_findsFits_48 ?_
    refine a_iload_n (pc := 51) 1 rfl rfl d_BM_findsFits_51 ?_
    refine a_lconst (pc := 52) (0 : Int64) (by decide) d_BM_findsFits_52 ?_
    obtain ⟨hx, h⟩ := h
    refine a_last (pc := 53) sx_187 hx d_BM_findsFits_53 ?_
    refine a_nms (fun s1 hs1 => ?_)
    replace h := h s1 hs1
    obtain ⟨u2, hu2⟩ : ∃ y : Int32, y = x1 + (1 : Int32) := ⟨_, rfl⟩
    replace h := h u2 hu2
    refine a_iinc (pc := 54) (v := u2) (lv' := [(1, .int u2), (0, .ref (gB g + 151))]) 1 rfl (by rw [hu2]; rfl) (Nat.le_of_ble_eq_true rfl) rfl d_BM_findsFits_54 ?_
    refine a_goto (pc := 57) 42 (by decide) d_BM_findsFits_57 ?_
    refine a_sub (pc := 42) [1, 0] rfl ?_
    exact h
theorem sg_BM_findsFits_62 {g : Gx} {Q : St → Prop} {σ : St} {x1 : Int32}
    (h : K_BM_codes g σ (fun (r2 : Int32) (s1 : St) => (r2 ≤ x1 → K_BM_lay g 179 154 s1 (fun s3 : St => Q s3)) ∧ (¬ r2 ≤ x1 → vp_in (2 : Int32) 8 ∧ (K_BM_isBeginning g x1 (ai s1 152 ((2 : Int32)).toNatClampNeg) s1 (fun (r5 : Int32) (s4 : St) => (r5 = 0 → ∀ u6 : Int32, u6 = x1 + (1 : Int32) → S_BM_findsFits_62 g Q s4 u6) ∧ (¬ r5 = 0 → K_BM_lay g 154 188 s4 (fun s7 : St => K_BM_sounds g s7 (fun (r9 : Int32) (s8 : St) => (r9 = 0 → ∀ u10 : Int32, u10 = x1 + (1 : Int32) → S_BM_findsFits_62 g Q s8 u10) ∧ (¬ r9 = 0 → (¬ (fi s8 151 60) = 0 → K_BM_lay g 188 188 s8 (fun s11 : St => S_BM_findsFits_129 g Q s11 x1 (0 : Int32))) ∧ ((fi s8 151 60) = 0 → K_BM_lay g 188 185 s8 (fun s12 : St => S_BM_findsFits_129 g Q s12 x1 (0 : Int32)))))))))))) : S_BM_findsFits_62 g Q σ x1 := by
  show Ax g m_BM_findsFits 0 0 (ZV g Q) SH σ 0 0 62 [(0, .ref (gB g + 151)), (1, .int x1)] []
  refine a_iload_n (pc := 62) 1 rfl rfl d_BM_findsFits_62 ?_
  refine a_aload_n (pc := 63) 0 rfl rfl d_BM_findsFits_63 ?_
  refine a_callV (pc := 64) (M' := m_BM_codes) (As := []) (st := [.int x1]) (mc' := 0) (ms' := 0) lk_BM_443 rfl sx_151 rfl (by decide) (by decide) rfl (Nat.le_of_ble_eq_true rfl) (Nat.le_refl 0) (Nat.le_refl 0) d_BM_findsFits_64 h ?_
  rintro _ _ s1 ⟨r2, rfl, rfl, h⟩ -
  show Ax g m_BM_findsFits 0 0 (ZV g Q) SH s1 0 0 67 [(0, .ref (gB g + 151)), (1, .int x1)] [.int r2, .int x1]
  refine a_icmp_ge (pc := 67) 182 (by decide) d_BM_findsFits_67 ⟨fun c0 => ?_, fun c0 => ?_⟩
  · replace h := h.1 c0
    refine a_aload_n (pc := 182) 0 rfl rfl d_BM_findsFits_182 ?_
    refine a_getR (pc := 183) fg_BM_98 sx_151 rfl d_BM_findsFits_183 ?_
    refine a_aload_n (pc := 186) 0 rfl rfl d_BM_findsFits_186 ?_
    refine a_getR (pc := 187) fg_BM_16 sx_151 rfl d_BM_findsFits_187 ?_
    refine a_callS (pc := 190) (M' := m_BM_lay) (As := [.ref (gB g + 179), .ref (gB g + 154)]) (st := []) (mc' := 0) (ms' := 0) lk_BM_333 rfl (by decide) (by decide) rfl (Nat.le_of_ble_eq_true rfl) (Nat.le_refl 0) (Nat.le_refl 0) d_BM_findsFits_190 h ?_
    rintro _ _ s3 ⟨rfl, rfl, h⟩ -
    show Ax g m_BM_findsFits 0 0 (ZV g Q) SH s3 0 0 193 [(0, .ref (gB g + 151)), (1, .int x1)] []
    exact b_vret (pc := 193) rfl d_BM_findsFits_193 h
  · replace h := h.2 c0
    refine a_aload_n (pc := 70) 0 rfl rfl d_BM_findsFits_70 ?_
    refine a_iload_n (pc := 71) 1 rfl rfl d_BM_findsFits_71 ?_
    refine a_aload_n (pc := 72) 0 rfl rfl d_BM_findsFits_72 ?_
    refine a_getR (pc := 73) fg_BM_9 sx_151 rfl d_BM_findsFits_73 ?_
    refine a_iconst (pc := 76) (2 : Int32) (by decide) d_BM_findsFits_76 ?_
    obtain ⟨hx, h⟩ := h
    refine a_iald (pc := 77) sx_152 hx d_BM_findsFits_77 ?_
    refine a_callV (pc := 78) (M' := m_BM_isBeginning) (As := [.int x1, .int (ai s1 152 ((2 : Int32)).toNatClampNeg)]) (st := []) (mc' := 0) (ms' := 0) lk_BM_446 rfl sx_151 rfl (by decide) (by decide) rfl (Nat.le_of_ble_eq_true rfl) (Nat.le_refl 0) (Nat.le_refl 0) d_BM_findsFits_78 h ?_
    rintro _ _ s4 ⟨r5, rfl, rfl, h⟩ -
    show Ax g m_BM_findsFits 0 0 (ZV g Q) SH s4 0 0 81 [(0, .ref (gB g + 151)), (1, .int x1)] [.int r5]
    refine a_if_eq (pc := 81) 176 (by decide) d_BM_findsFits_81 ⟨fun c0 => ?_, fun c0 => ?_⟩
    · replace h := h.1 c0
      obtain ⟨u6, hu6⟩ : ∃ y : Int32, y = x1 + (1 : Int32) := ⟨_, rfl⟩
      replace h := h u6 hu6
      refine a_iinc (pc := 176) (v := u6) (lv' := [(1, .int u6), (0, .ref (gB g + 151))]) 1 rfl (by rw [hu6]; rfl) (Nat.le_of_ble_eq_true rfl) rfl d_BM_findsFits_176 ?_
      refine a_goto (pc := 179) 62 (by decide) d_BM_findsFits_179 ?_
      refine a_sub (pc := 62) [1, 0] rfl ?_
      exact h
    · replace h := h.2 c0
      refine a_aload_n (pc := 84) 0 rfl rfl d_BM_findsFits_84 ?_
      refine a_getR (pc := 85) fg_BM_16 sx_151 rfl d_BM_findsFits_85 ?_
      refine a_aload_n (pc := 88) 0 rfl rfl d_BM_findsFits_88 ?_
      refine a_getR (pc := 89) fg_BM_125 sx_151 rfl d_BM_findsFits_89 ?_
      refine a_callS (pc := 92) (M' := m_BM_lay) (As := [.ref (gB g + 154), .ref (gB g + 188)]) (st := []) (mc' := 0) (ms' := 0) lk_BM_333 rfl (by decide) (by decide) rfl (Nat.le_of_ble_eq_true rfl) (Nat.le_refl 0) (Nat.le_refl 0) d_BM_findsFits_92 h ?_
      rintro _ _ s7 ⟨rfl, rfl, h⟩ -
      show Ax g m_BM_findsFits 0 0 (ZV g Q) SH s7 0 0 95 [(0, .ref (gB g + 151)), (1, .int x1)] []
      refine a_aload_n (pc := 95) 0 rfl rfl d_BM_findsFits_95 ?_
      refine a_callV (pc := 96) (M' := m_BM_sounds) (As := []) (st := []) (mc' := 0) (ms' := 0) lk_BM_496 rfl sx_151 rfl (by decide) (by decide) rfl (Nat.le_of_ble_eq_true rfl) (Nat.le_refl 0) (Nat.le_refl 0) d_BM_findsFits_96 h ?_
      rintro _ _ s8 ⟨r9, rfl, rfl, h⟩ -
      show Ax g m_BM_findsFits 0 0 (ZV g Q) SH s8 0 0 99 [(0, .ref (gB g + 151)), (1, .int x1)] [.int r9]
      refine a_if_eq (pc := 99) 176 (by decide) d_BM_findsFits_99 ⟨fun c0 => ?_, fun c0 => ?_⟩
      · replace h := h.1 c0
        obtain ⟨u10, hu10⟩ : ∃ y : Int32, y = x1 + (1 : Int32) := ⟨_, rfl⟩
        replace h := h u10 hu10
        refine a_iinc (pc := 176) (v := u10) (lv' := [(1, .int u10), (0, .ref (gB g + 151))]) 1 rfl (by rw [hu10]; rfl) (Nat.le_of_ble_eq_true rfl) rfl d_BM_findsFits_176 ?_
        refine a_goto (pc := 179) 62 (by decide) d_BM_findsFits_179 ?_
        refine a_sub (pc := 62) [1, 0] rfl ?_
        exact h
      · replace h := h.2 c0
        refine a_aload_n (pc := 102) 0 rfl rfl d_BM_findsFits_102 ?_
        refine a_getR (pc := 103) fg_BM_125 sx_151 rfl d_BM_findsFits_103 ?_
        refine a_aload_n (pc := 106) 0 rfl rfl d_BM_findsFits_106 ?_
        refine a_getI (pc := 107) fg_BM_493 sx_151 rfl d_BM_findsFits_107 ?_
        refine a_if_ne (pc := 110) 120 (by decide) d_BM_findsFits_110 ⟨fun c0 => ?_, fun c0 => ?_⟩
        · replace h := h.1 c0
          refine a_aload_n (pc := 120) 0 rfl rfl d_BM_findsFits_120 ?_
          refine a_getR (pc := 121) fg_BM_125 sx_151 rfl d_BM_findsFits_121 ?_
          refine a_callS (pc := 124) (M' := m_BM_lay) (As := [.ref (gB g + 188), .ref (gB g + 188)]) (st := []) (mc' := 0) (ms' := 0) lk_BM_333 rfl (by decide) (by decide) rfl (Nat.le_of_ble_eq_true rfl) (Nat.le_refl 0) (Nat.le_refl 0) d_BM_findsFits_124 h ?_
          rintro _ _ s11 ⟨rfl, rfl, h⟩ -
          show Ax g m_BM_findsFits 0 0 (ZV g Q) SH s11 0 0 127 [(0, .ref (gB g + 151)), (1, .int x1)] []
          refine a_iconst (pc := 127) (0 : Int32) (by decide) d_BM_findsFits_127 ?_
          refine a_istore_n (pc := 128) (lv' := [(2, .int (0 : Int32)), (0, .ref (gB g + 151)), (1, .int x1)]) rfl (Nat.le_of_ble_eq_true rfl) rfl d_BM_findsFits_128 ?_
          refine a_sub (pc := 129) [1, 2, 0] rfl ?_
          exact h
        · replace h := h.2 c0
          refine a_aload_n (pc := 113) 0 rfl rfl d_BM_findsFits_113 ?_
          refine a_getR (pc := 114) fg_BM_116 sx_151 rfl d_BM_findsFits_114 ?_
          refine a_goto (pc := 117) 124 (by decide) d_BM_findsFits_117 ?_
          refine a_callS (pc := 124) (M' := m_BM_lay) (As := [.ref (gB g + 188), .ref (gB g + 185)]) (st := []) (mc' := 0) (ms' := 0) lk_BM_333 rfl (by decide) (by decide) rfl (Nat.le_of_ble_eq_true rfl) (Nat.le_refl 0) (Nat.le_refl 0) d_BM_findsFits_124 h ?_
          rintro _ _ s12 ⟨rfl, rfl, h⟩ -
          show Ax g m_BM_findsFits 0 0 (ZV g Q) SH s12 0 0 127 [(0, .ref (gB g + 151)), (1, .int x1)] []
          refine a_iconst (pc := 127) (0 : Int32) (by decide) d_BM_findsFits_127 ?_
          refine a_istore_n (pc := 128) (lv' := [(2, .int (0 : Int32)), (0, .ref (gB g + 151)), (1, .int x1)]) rfl (Nat.le_of_ble_eq_true rfl) rfl d_BM_findsFits_128 ?_
          refine a_sub (pc := 129) [1, 2, 0] rfl ?_
          exact h
theorem sg_BM_findsFits_129 {g : Gx} {Q : St → Prop} {σ : St} {x1 : Int32} {x2 : Int32}
    (h : vp_in (2 : Int32) 8 ∧ (((ai σ 152 ((2 : Int32)).toNatClampNeg) ≤ x2 → ∀ s1 : St, s1 = sfi σ 151 60 ((fi σ 151 60) + (1 : Int32)) → K_BM_groupsAll g s1 (fun s2 : St => ∀ u3 : Int32, u3 = x1 + (1 : Int32) → S_BM_findsFits_62 g Q s2 u3)) ∧ (¬ (ai σ 152 ((2 : Int32)).toNatClampNeg) ≤ x2 → vp_in x2 3 ∧ (vp_in x2 3 ∧ (vp_in x2 3 ∧ (∀ s4 : St, s4 = saj σ 187 (x2).toNatClampNeg ((aj σ 187 (x2).toNatClampNeg) ||| ((1 : Int64) <<< (((ai σ 188 (x2).toNatClampNeg)).toInt64 &&& 63))) → ∀ u5 : Int32, u5 = x2 + (1 : Int32) → S_BM_findsFits_129 g Q s4 x1 u5)))))) : S_BM_findsFits_129 g Q σ x1 x2 := by
  show Ax g m_BM_findsFits 0 0 (ZV g Q) SH σ 0 0 129 [(0, .ref (gB g + 151)), (1, .int x1), (2, .int x2)] []
  refine a_iload_n (pc := 129) 2 rfl rfl d_BM_findsFits_129 ?_
  refine a_aload_n (pc := 130) 0 rfl rfl d_BM_findsFits_130 ?_
  refine a_getR (pc := 131) fg_BM_9 sx_151 rfl d_BM_findsFits_131 ?_
  refine a_iconst (pc := 134) (2 : Int32) (by decide) d_BM_findsFits_134 ?_
  obtain ⟨hx, h⟩ := h
  refine a_iald (pc := 135) sx_152 hx d_BM_findsFits_135 ?_
  refine a_icmp_ge (pc := 136) 162 (by decide) d_BM_findsFits_136 ⟨fun c0 => ?_, fun c0 => ?_⟩
  · replace h := h.1 c0
    refine a_aload_n (pc := 162) 0 rfl rfl d_BM_findsFits_162 ?_
    refine a_dup (pc := 163) rfl d_BM_findsFits_163 ?_
    refine a_getI (pc := 164) fg_BM_493 sx_151 rfl d_BM_findsFits_164 ?_
    refine a_iconst (pc := 167) (1 : Int32) (by decide) d_BM_findsFits_167 ?_
    refine a_iadd (pc := 168) d_BM_findsFits_168 ?_
    refine a_putI (pc := 169) fp_BM_493 sx_151 rfl d_BM_findsFits_169 ?_
    refine a_nms (fun s1 hs1 => ?_)
    replace h := h s1 hs1
    refine a_aload_n (pc := 172) 0 rfl rfl d_BM_findsFits_172 ?_
    refine a_callV (pc := 173) (M' := m_BM_groupsAll) (As := []) (st := []) (mc' := 0) (ms' := 0) lk_BM_499 rfl sx_151 rfl (by decide) (by decide) rfl (Nat.le_of_ble_eq_true rfl) (Nat.le_refl 0) (Nat.le_refl 0) d_BM_findsFits_173 h ?_
    rintro _ _ s2 ⟨rfl, rfl, h⟩ -
    show Ax g m_BM_findsFits 0 0 (ZV g Q) SH s2 0 0 176 [(0, .ref (gB g + 151)), (1, .int x1), (2, .int x2)] []
    obtain ⟨u3, hu3⟩ : ∃ y : Int32, y = x1 + (1 : Int32) := ⟨_, rfl⟩
    replace h := h u3 hu3
    refine a_iinc (pc := 176) (v := u3) (lv' := [(1, .int u3), (0, .ref (gB g + 151)), (2, .int x2)]) 1 rfl (by rw [hu3]; rfl) (Nat.le_of_ble_eq_true rfl) rfl d_BM_findsFits_176 ?_
    refine a_goto (pc := 179) 62 (by decide) d_BM_findsFits_179 ?_
    refine a_sub (pc := 62) [1, 0] rfl ?_
    exact h
  · replace h := h.2 c0
    refine a_aload_n (pc := 139) 0 rfl rfl d_BM_findsFits_139 ?_
    refine a_getR (pc := 140) fg_BM_122 sx_151 rfl d_BM_findsFits_140 ?_
    refine a_iload_n (pc := 143) 2 rfl rfl d_BM_findsFits_143 ?_
    refine a_dup2_11 (pc := 144) rfl rfl d_BM_findsFits_144 ?_
    obtain ⟨hx, h⟩ := h
    refine a_lald (pc := 145) sx_187 hx d_BM_findsFits_145 ?_
    refine a_lconst (pc := 146) (1 : Int64) (by decide) d_BM_findsFits_146 ?_
    refine a_aload_n (pc := 147) 0 rfl rfl d_BM_findsFits_147 ?_
    refine a_getR (pc := 148) fg_BM_125 sx_151 rfl d_BM_findsFits_148 ?_
    refine a_iload_n (pc := 151) 2 rfl rfl d_BM_findsFits_151 ?_
    obtain ⟨hx, h⟩ := h
    refine a_iald (pc := 152) sx_188 hx d_BM_findsFits_152 ?_
    refine a_lshl (pc := 153) d_BM_findsFits_153 ?_
    refine a_lor (pc := 154) d_BM_findsFits_154 ?_
    obtain ⟨hx, h⟩ := h
    refine a_last (pc := 155) sx_187 hx d_BM_findsFits_155 ?_
    refine a_nms (fun s4 hs4 => ?_)
    replace h := h s4 hs4
    obtain ⟨u5, hu5⟩ : ∃ y : Int32, y = x2 + (1 : Int32) := ⟨_, rfl⟩
    replace h := h u5 hu5
    refine a_iinc (pc := 156) (v := u5) (lv' := [(2, .int u5), (0, .ref (gB g + 151)), (1, .int x1)]) 2 rfl (by rw [hu5]; rfl) (Nat.le_of_ble_eq_true rfl) rfl d_BM_findsFits_156 ?_
    refine a_goto (pc := 159) 129 (by decide) d_BM_findsFits_159 ?_
    refine a_sub (pc := 129) [1, 2, 0] rfl ?_
    exact h
theorem ko_BM_findsFits {g : Gx}  {σ : St} {Q : St → Prop} (h : S_BM_findsFits_0 g Q σ) : K_BM_findsFits g  σ Q := KV.of (show plainName "BallBoxModel" = true by decide) (Nat.le_of_ble_eq_true rfl) h
theorem d_BM_fits_0 : decode c_BM_fits 0 = .ok (.aload_n 0, 1) := by decide +kernel
theorem d_BM_fits_1 : decode c_BM_fits 1 = .ok (.invokevirtual 391, 3) := by decide +kernel
theorem d_BM_fits_4 : decode c_BM_fits 4 = .ok (.ifCond .eq 15, 3) := by decide +kernel
theorem d_BM_fits_7 : decode c_BM_fits 7 = .ok (.iload_n 1, 1) := by decide +kernel
theorem d_BM_fits_8 : decode c_BM_fits 8 = .ok (.i2l, 1) := by decide +kernel
theorem d_BM_fits_9 : decode c_BM_fits 9 = .ok (.lconst 0, 1) := by decide +kernel
theorem d_BM_fits_10 : decode c_BM_fits 10 = .ok (.ldc2_w 394, 3) := by decide +kernel
theorem d_BM_fits_13 : decode c_BM_fits 13 = .ok (.invokestatic 162, 3) := by decide +kernel
theorem d_BM_fits_16 : decode c_BM_fits 16 = .ok (.ifCond .ne 5, 3) := by decide +kernel
theorem d_BM_fits_19 : decode c_BM_fits 19 = .ok (.iconst (-1), 1) := by decide +kernel
theorem d_BM_fits_20 : decode c_BM_fits 20 = .ok (.ireturn, 1) := by decide +kernel
theorem d_BM_fits_21 : decode c_BM_fits 21 = .ok (.aload_n 0, 1) := by decide +kernel
theorem d_BM_fits_22 : decode c_BM_fits 22 = .ok (.invokevirtual 502, 3) := by decide +kernel
theorem d_BM_fits_25 : decode c_BM_fits 25 = .ok (.iload_n 1, 1) := by decide +kernel
theorem d_BM_fits_26 : decode c_BM_fits 26 = .ok (.ifCond .ne 10, 3) := by decide +kernel
theorem d_BM_fits_29 : decode c_BM_fits 29 = .ok (.aload_n 0, 1) := by decide +kernel
theorem d_BM_fits_30 : decode c_BM_fits 30 = .ok (.getfield 493, 3) := by decide +kernel
theorem d_BM_fits_33 : decode c_BM_fits 33 = .ok (.goto 33, 3) := by decide +kernel
theorem d_BM_fits_36 : decode c_BM_fits 36 = .ok (.aload_n 0, 1) := by decide +kernel
theorem d_BM_fits_37 : decode c_BM_fits 37 = .ok (.getfield 493, 3) := by decide +kernel
theorem d_BM_fits_40 : decode c_BM_fits 40 = .ok (.ifCond .eq 13, 3) := by decide +kernel
theorem d_BM_fits_43 : decode c_BM_fits 43 = .ok (.iload_n 1, 1) := by decide +kernel
theorem d_BM_fits_44 : decode c_BM_fits 44 = .ok (.aload_n 0, 1) := by decide +kernel
theorem d_BM_fits_45 : decode c_BM_fits 45 = .ok (.getfield 9, 3) := by decide +kernel
theorem d_BM_fits_48 : decode c_BM_fits 48 = .ok (.iconst 2, 1) := by decide +kernel
theorem d_BM_fits_49 : decode c_BM_fits 49 = .ok (.iaload, 1) := by decide +kernel
theorem d_BM_fits_50 : decode c_BM_fits 50 = .ok (.if_icmp .le 8, 3) := by decide +kernel
theorem d_BM_fits_53 : decode c_BM_fits 53 = .ok (.bipush (-2), 2) := by decide +kernel
theorem d_BM_fits_55 : decode c_BM_fits 55 = .ok (.goto 11, 3) := by decide +kernel
theorem d_BM_fits_58 : decode c_BM_fits 58 = .ok (.aload_n 0, 1) := by decide +kernel
theorem d_BM_fits_59 : decode c_BM_fits 59 = .ok (.getfield 116, 3) := by decide +kernel
theorem d_BM_fits_62 : decode c_BM_fits 62 = .ok (.iload_n 1, 1) := by decide +kernel
theorem d_BM_fits_63 : decode c_BM_fits 63 = .ok (.iconst 1, 1) := by decide +kernel
theorem d_BM_fits_64 : decode c_BM_fits 64 = .ok (.isub, 1) := by decide +kernel
theorem d_BM_fits_65 : decode c_BM_fits 65 = .ok (.iaload, 1) := by decide +kernel
theorem d_BM_fits_66 : decode c_BM_fits 66 = .ok (.ireturn, 1) := by decide +kernel
def S_BM_fits_0 (g : Gx) (Q : Int32 → St → Prop) (σ : St) (x1 : Int32) : Prop := Ax g m_BM_fits 0 0 (ZI g Q) SH σ 0 0 0 [(0, .ref (gB g + 151)), (1, .int x1)] []
theorem sg_BM_fits_0 {g : Gx} {Q : Int32 → St → Prop} {σ : St} {x1 : Int32}
    (h : K_BM_isBox g σ (fun (r2 : Int32) (s1 : St) => (r2 = 0 → Q (-1 : Int32) s1) ∧ (¬ r2 = 0 → K_BM_in g ((x1).toInt64) (0 : Int64) (3 : Int64) s1 (fun (r4 : Int32) (s3 : St) => (¬ r4 = 0 → K_BM_findsFits g s3 (fun s5 : St => (¬ x1 = 0 → ((fi s5 151 60) = 0 → Q (-2 : Int32) s5) ∧ (¬ (fi s5 151 60) = 0 → vp_in (2 : Int32) 8 ∧ ((x1 ≤ (ai s5 152 ((2 : Int32)).toNatClampNeg) → vp_in (x1 - (1 : Int32)) 3 ∧ (Q (ai s5 185 ((x1 - (1 : Int32))).toNatClampNeg) s5)) ∧ (¬ x1 ≤ (ai s5 152 ((2 : Int32)).toNatClampNeg) → Q (-2 : Int32) s5)))) ∧ (x1 = 0 → Q (fi s5 151 60) s5))) ∧ (r4 = 0 → Q (-1 : Int32) s3))))) : S_BM_fits_0 g Q σ x1 := by
  show Ax g m_BM_fits 0 0 (ZI g Q) SH σ 0 0 0 [(0, .ref (gB g + 151)), (1, .int x1)] []
  refine a_aload_n (pc := 0) 0 rfl rfl d_BM_fits_0 ?_
  refine a_callV (pc := 1) (M' := m_BM_isBox) (As := []) (st := []) (mc' := 0) (ms' := 0) lk_BM_391 rfl sx_151 rfl (by decide) (by decide) rfl (Nat.le_of_ble_eq_true rfl) (Nat.le_refl 0) (Nat.le_refl 0) d_BM_fits_1 h ?_
  rintro _ _ s1 ⟨r2, rfl, rfl, h⟩ -
  show Ax g m_BM_fits 0 0 (ZI g Q) SH s1 0 0 4 [(0, .ref (gB g + 151)), (1, .int x1)] [.int r2]
  refine a_if_eq (pc := 4) 19 (by decide) d_BM_fits_4 ⟨fun c0 => ?_, fun c0 => ?_⟩
  · replace h := h.1 c0
    refine a_iconst (pc := 19) (-1 : Int32) (by decide) d_BM_fits_19 ?_
    exact b_iret (pc := 20) rfl d_BM_fits_20 h
  · replace h := h.2 c0
    refine a_iload_n (pc := 7) 1 rfl rfl d_BM_fits_7 ?_
    refine a_i2l (pc := 8) d_BM_fits_8 ?_
    refine a_lconst (pc := 9) (0 : Int64) (by decide) d_BM_fits_9 ?_
    refine a_ldc2 (pc := 10) tw1644 d_BM_fits_10 ?_
    refine a_callS (pc := 13) (M' := m_BM_in) (As := [.long ((x1).toInt64), .long (0 : Int64), .long (3 : Int64)]) (st := []) (mc' := 0) (ms' := 0) lk_BM_162 rfl (by decide) (by decide) rfl (Nat.le_of_ble_eq_true rfl) (Nat.le_refl 0) (Nat.le_refl 0) d_BM_fits_13 h ?_
    rintro _ _ s3 ⟨r4, rfl, rfl, h⟩ -
    show Ax g m_BM_fits 0 0 (ZI g Q) SH s3 0 0 16 [(0, .ref (gB g + 151)), (1, .int x1)] [.int r4]
    refine a_if_ne (pc := 16) 21 (by decide) d_BM_fits_16 ⟨fun c0 => ?_, fun c0 => ?_⟩
    · replace h := h.1 c0
      refine a_aload_n (pc := 21) 0 rfl rfl d_BM_fits_21 ?_
      refine a_callV (pc := 22) (M' := m_BM_findsFits) (As := []) (st := []) (mc' := 0) (ms' := 0) lk_BM_502 rfl sx_151 rfl (by decide) (by decide) rfl (Nat.le_of_ble_eq_true rfl) (Nat.le_refl 0) (Nat.le_refl 0) d_BM_fits_22 h ?_
      rintro _ _ s5 ⟨rfl, rfl, h⟩ -
      show Ax g m_BM_fits 0 0 (ZI g Q) SH s5 0 0 25 [(0, .ref (gB g + 151)), (1, .int x1)] []
      refine a_iload_n (pc := 25) 1 rfl rfl d_BM_fits_25 ?_
      refine a_if_ne (pc := 26) 36 (by decide) d_BM_fits_26 ⟨fun c0 => ?_, fun c0 => ?_⟩
      · replace h := h.1 c0
        refine a_aload_n (pc := 36) 0 rfl rfl d_BM_fits_36 ?_
        refine a_getI (pc := 37) fg_BM_493 sx_151 rfl d_BM_fits_37 ?_
        refine a_if_eq (pc := 40) 53 (by decide) d_BM_fits_40 ⟨fun c0 => ?_, fun c0 => ?_⟩
        · replace h := h.1 c0
          refine a_bipush (pc := 53) (-2 : Int32) (by decide) d_BM_fits_53 ?_
          refine a_goto (pc := 55) 66 (by decide) d_BM_fits_55 ?_
          exact b_iret (pc := 66) rfl d_BM_fits_66 h
        · replace h := h.2 c0
          refine a_iload_n (pc := 43) 1 rfl rfl d_BM_fits_43 ?_
          refine a_aload_n (pc := 44) 0 rfl rfl d_BM_fits_44 ?_
          refine a_getR (pc := 45) fg_BM_9 sx_151 rfl d_BM_fits_45 ?_
          refine a_iconst (pc := 48) (2 : Int32) (by decide) d_BM_fits_48 ?_
          obtain ⟨hx, h⟩ := h
          refine a_iald (pc := 49) sx_152 hx d_BM_fits_49 ?_
          refine a_icmp_le (pc := 50) 58 (by decide) d_BM_fits_50 ⟨fun c0 => ?_, fun c0 => ?_⟩
          · replace h := h.1 c0
            refine a_aload_n (pc := 58) 0 rfl rfl d_BM_fits_58 ?_
            refine a_getR (pc := 59) fg_BM_116 sx_151 rfl d_BM_fits_59 ?_
            refine a_iload_n (pc := 62) 1 rfl rfl d_BM_fits_62 ?_
            refine a_iconst (pc := 63) (1 : Int32) (by decide) d_BM_fits_63 ?_
            refine a_isub (pc := 64) d_BM_fits_64 ?_
            obtain ⟨hx, h⟩ := h
            refine a_iald (pc := 65) sx_185 hx d_BM_fits_65 ?_
            exact b_iret (pc := 66) rfl d_BM_fits_66 h
          · replace h := h.2 c0
            refine a_bipush (pc := 53) (-2 : Int32) (by decide) d_BM_fits_53 ?_
            refine a_goto (pc := 55) 66 (by decide) d_BM_fits_55 ?_
            exact b_iret (pc := 66) rfl d_BM_fits_66 h
      · replace h := h.2 c0
        refine a_aload_n (pc := 29) 0 rfl rfl d_BM_fits_29 ?_
        refine a_getI (pc := 30) fg_BM_493 sx_151 rfl d_BM_fits_30 ?_
        refine a_goto (pc := 33) 66 (by decide) d_BM_fits_33 ?_
        exact b_iret (pc := 66) rfl d_BM_fits_66 h
    · replace h := h.2 c0
      refine a_iconst (pc := 19) (-1 : Int32) (by decide) d_BM_fits_19 ?_
      exact b_iret (pc := 20) rfl d_BM_fits_20 h
theorem ko_BM_fits {g : Gx}  {x1 : Int32} {σ : St} {Q : Int32 → St → Prop} (h : S_BM_fits_0 g Q σ x1) : K_BM_fits g x1 σ Q := KI.of (show plainName "BallBoxModel" = true by decide) (Nat.le_of_ble_eq_true rfl) h
theorem d_BM_where_0 : decode c_BM_where 0 = .ok (.aload_n 0, 1) := by decide +kernel
theorem d_BM_where_1 : decode c_BM_where 1 = .ok (.iload_n 1, 1) := by decide +kernel
theorem d_BM_where_2 : decode c_BM_where 2 = .ok (.invokevirtual 398, 3) := by decide +kernel
theorem d_BM_where_5 : decode c_BM_where 5 = .ok (.ifCond .ne 7, 3) := by decide +kernel
theorem d_BM_where_8 : decode c_BM_where 8 = .ok (.ldc2_w 353, 3) := by decide +kernel
theorem d_BM_where_11 : decode c_BM_where 11 = .ok (.lreturn, 1) := by decide +kernel
theorem d_BM_where_12 : decode c_BM_where 12 = .ok (.aload_n 0, 1) := by decide +kernel
theorem d_BM_where_13 : decode c_BM_where 13 = .ok (.invokevirtual 502, 3) := by decide +kernel
theorem d_BM_where_16 : decode c_BM_where 16 = .ok (.aload_n 0, 1) := by decide +kernel
theorem d_BM_where_17 : decode c_BM_where 17 = .ok (.getfield 122, 3) := by decide +kernel
theorem d_BM_where_20 : decode c_BM_where 20 = .ok (.iload_n 1, 1) := by decide +kernel
theorem d_BM_where_21 : decode c_BM_where 21 = .ok (.laload, 1) := by decide +kernel
theorem d_BM_where_22 : decode c_BM_where 22 = .ok (.lreturn, 1) := by decide +kernel
def S_BM_where_0 (g : Gx) (Q : Int64 → St → Prop) (σ : St) (x1 : Int32) : Prop := Ax g m_BM_where 0 0 (ZJ g Q) SH σ 0 0 0 [(0, .ref (gB g + 151)), (1, .int x1)] []
theorem sg_BM_where_0 {g : Gx} {Q : Int64 → St → Prop} {σ : St} {x1 : Int32}
    (h : K_BM_isBall g x1 σ (fun (r2 : Int32) (s1 : St) => (¬ r2 = 0 → K_BM_findsFits g s1 (fun s3 : St => vp_in x1 3 ∧ (Q (aj s3 187 (x1).toNatClampNeg) s3))) ∧ (r2 = 0 → Q (-1 : Int64) s1))) : S_BM_where_0 g Q σ x1 := by
  show Ax g m_BM_where 0 0 (ZJ g Q) SH σ 0 0 0 [(0, .ref (gB g + 151)), (1, .int x1)] []
  refine a_aload_n (pc := 0) 0 rfl rfl d_BM_where_0 ?_
  refine a_iload_n (pc := 1) 1 rfl rfl d_BM_where_1 ?_
  refine a_callV (pc := 2) (M' := m_BM_isBall) (As := [.int x1]) (st := []) (mc' := 0) (ms' := 0) lk_BM_398 rfl sx_151 rfl (by decide) (by decide) rfl (Nat.le_of_ble_eq_true rfl) (Nat.le_refl 0) (Nat.le_refl 0) d_BM_where_2 h ?_
  rintro _ _ s1 ⟨r2, rfl, rfl, h⟩ -
  show Ax g m_BM_where 0 0 (ZJ g Q) SH s1 0 0 5 [(0, .ref (gB g + 151)), (1, .int x1)] [.int r2]
  refine a_if_ne (pc := 5) 12 (by decide) d_BM_where_5 ⟨fun c0 => ?_, fun c0 => ?_⟩
  · replace h := h.1 c0
    refine a_aload_n (pc := 12) 0 rfl rfl d_BM_where_12 ?_
    refine a_callV (pc := 13) (M' := m_BM_findsFits) (As := []) (st := []) (mc' := 0) (ms' := 0) lk_BM_502 rfl sx_151 rfl (by decide) (by decide) rfl (Nat.le_of_ble_eq_true rfl) (Nat.le_refl 0) (Nat.le_refl 0) d_BM_where_13 h ?_
    rintro _ _ s3 ⟨rfl, rfl, h⟩ -
    show Ax g m_BM_where 0 0 (ZJ g Q) SH s3 0 0 16 [(0, .ref (gB g + 151)), (1, .int x1)] []
    refine a_aload_n (pc := 16) 0 rfl rfl d_BM_where_16 ?_
    refine a_getR (pc := 17) fg_BM_122 sx_151 rfl d_BM_where_17 ?_
    refine a_iload_n (pc := 20) 1 rfl rfl d_BM_where_20 ?_
    obtain ⟨hx, h⟩ := h
    refine a_lald (pc := 21) sx_187 hx d_BM_where_21 ?_
    exact b_lret (pc := 22) rfl d_BM_where_22 h
  · replace h := h.2 c0
    refine a_ldc2 (pc := 8) tw1635 d_BM_where_8 ?_
    exact b_lret (pc := 11) rfl d_BM_where_11 h
theorem ko_BM_where {g : Gx}  {x1 : Int32} {σ : St} {Q : Int64 → St → Prop} (h : S_BM_where_0 g Q σ x1) : K_BM_where g x1 σ Q := KJ.of (show plainName "BallBoxModel" = true by decide) (Nat.le_of_ble_eq_true rfl) h
theorem d_BM_tells_0 : decode c_BM_tells 0 = .ok (.aload_n 0, 1) := by decide +kernel
theorem d_BM_tells_1 : decode c_BM_tells 1 = .ok (.invokevirtual 391, 3) := by decide +kernel
theorem d_BM_tells_4 : decode c_BM_tells 4 = .ok (.ifCond .eq 13, 3) := by decide +kernel
theorem d_BM_tells_7 : decode c_BM_tells 7 = .ok (.iload_n 1, 1) := by decide +kernel
theorem d_BM_tells_8 : decode c_BM_tells 8 = .ok (.i2l, 1) := by decide +kernel
theorem d_BM_tells_9 : decode c_BM_tells 9 = .ok (.lconst 0, 1) := by decide +kernel
theorem d_BM_tells_10 : decode c_BM_tells 10 = .ok (.lconst 1, 1) := by decide +kernel
theorem d_BM_tells_11 : decode c_BM_tells 11 = .ok (.invokestatic 162, 3) := by decide +kernel
theorem d_BM_tells_14 : decode c_BM_tells 14 = .ok (.ifCond .ne 5, 3) := by decide +kernel
theorem d_BM_tells_17 : decode c_BM_tells 17 = .ok (.iconst (-1), 1) := by decide +kernel
theorem d_BM_tells_18 : decode c_BM_tells 18 = .ok (.ireturn, 1) := by decide +kernel
theorem d_BM_tells_19 : decode c_BM_tells 19 = .ok (.aload_n 0, 1) := by decide +kernel
theorem d_BM_tells_20 : decode c_BM_tells 20 = .ok (.invokevirtual 502, 3) := by decide +kernel
theorem d_BM_tells_23 : decode c_BM_tells 23 = .ok (.aload_n 0, 1) := by decide +kernel
theorem d_BM_tells_24 : decode c_BM_tells 24 = .ok (.getfield 493, 3) := by decide +kernel
theorem d_BM_tells_27 : decode c_BM_tells 27 = .ok (.ifCond .ne 6, 3) := by decide +kernel
theorem d_BM_tells_30 : decode c_BM_tells 30 = .ok (.bipush (-2), 2) := by decide +kernel
theorem d_BM_tells_32 : decode c_BM_tells 32 = .ok (.ireturn, 1) := by decide +kernel
theorem d_BM_tells_33 : decode c_BM_tells 33 = .ok (.iconst (-1), 1) := by decide +kernel
theorem d_BM_tells_34 : decode c_BM_tells 34 = .ok (.istore_n 2, 1) := by decide +kernel
theorem d_BM_tells_35 : decode c_BM_tells 35 = .ok (.iconst 0, 1) := by decide +kernel
theorem d_BM_tells_36 : decode c_BM_tells 36 = .ok (.istore_n 3, 1) := by decide +kernel
theorem d_BM_tells_37 : decode c_BM_tells 37 = .ok (.iconst 0, 1) := by decide +kernel
theorem d_BM_tells_38 : decode c_BM_tells 38 = .ok (.istore 4, 2) := by decide +kernel
theorem d_BM_tells_40 : decode c_BM_tells 40 = .ok (.iload 4, 2) := by decide +kernel
theorem d_BM_tells_42 : decode c_BM_tells 42 = .ok (.iconst 4, 1) := by decide +kernel
theorem d_BM_tells_43 : decode c_BM_tells 43 = .ok (.if_icmp .ge 76, 3) := by decide +kernel
theorem d_BM_tells_46 : decode c_BM_tells 46 = .ok (.iconst 0, 1) := by decide +kernel
theorem d_BM_tells_47 : decode c_BM_tells 47 = .ok (.istore 5, 2) := by decide +kernel
theorem d_BM_tells_49 : decode c_BM_tells 49 = .ok (.iconst 0, 1) := by decide +kernel
theorem d_BM_tells_50 : decode c_BM_tells 50 = .ok (.istore 6, 2) := by decide +kernel
theorem d_BM_tells_52 : decode c_BM_tells 52 = .ok (.iload 6, 2) := by decide +kernel
theorem d_BM_tells_54 : decode c_BM_tells 54 = .ok (.bipush 16, 2) := by decide +kernel
theorem d_BM_tells_56 : decode c_BM_tells 56 = .ok (.if_icmp .ge 40, 3) := by decide +kernel
theorem d_BM_tells_59 : decode c_BM_tells 59 = .ok (.aload_n 0, 1) := by decide +kernel
theorem d_BM_tells_60 : decode c_BM_tells 60 = .ok (.getfield 119, 3) := by decide +kernel
theorem d_BM_tells_63 : decode c_BM_tells 63 = .ok (.bipush 16, 2) := by decide +kernel
theorem d_BM_tells_65 : decode c_BM_tells 65 = .ok (.iload 4, 2) := by decide +kernel
theorem d_BM_tells_67 : decode c_BM_tells 67 = .ok (.imul, 1) := by decide +kernel
theorem d_BM_tells_68 : decode c_BM_tells 68 = .ok (.iload 6, 2) := by decide +kernel
theorem d_BM_tells_70 : decode c_BM_tells 70 = .ok (.iadd, 1) := by decide +kernel
theorem d_BM_tells_71 : decode c_BM_tells 71 = .ok (.iaload, 1) := by decide +kernel
theorem d_BM_tells_72 : decode c_BM_tells 72 = .ok (.istore 7, 2) := by decide +kernel
theorem d_BM_tells_74 : decode c_BM_tells 74 = .ok (.iload 7, 2) := by decide +kernel
theorem d_BM_tells_76 : decode c_BM_tells 76 = .ok (.iload 5, 2) := by decide +kernel
theorem d_BM_tells_78 : decode c_BM_tells 78 = .ok (.if_icmp .le 8, 3) := by decide +kernel
theorem d_BM_tells_81 : decode c_BM_tells 81 = .ok (.iload 7, 2) := by decide +kernel
theorem d_BM_tells_83 : decode c_BM_tells 83 = .ok (.goto 5, 3) := by decide +kernel
theorem d_BM_tells_86 : decode c_BM_tells 86 = .ok (.iload 5, 2) := by decide +kernel
theorem d_BM_tells_88 : decode c_BM_tells 88 = .ok (.istore 5, 2) := by decide +kernel
theorem d_BM_tells_90 : decode c_BM_tells 90 = .ok (.iinc 6 1, 3) := by decide +kernel
theorem d_BM_tells_93 : decode c_BM_tells 93 = .ok (.goto (-41), 3) := by decide +kernel
theorem d_BM_tells_96 : decode c_BM_tells 96 = .ok (.iload_n 2, 1) := by decide +kernel
theorem d_BM_tells_97 : decode c_BM_tells 97 = .ok (.iconst (-1), 1) := by decide +kernel
theorem d_BM_tells_98 : decode c_BM_tells 98 = .ok (.if_icmp .eq 9, 3) := by decide +kernel
theorem d_BM_tells_101 : decode c_BM_tells 101 = .ok (.iload 5, 2) := by decide +kernel
theorem d_BM_tells_103 : decode c_BM_tells 103 = .ok (.iload_n 3, 1) := by decide +kernel
theorem d_BM_tells_104 : decode c_BM_tells 104 = .ok (.if_icmp .ge 9, 3) := by decide +kernel
theorem d_BM_tells_107 : decode c_BM_tells 107 = .ok (.iload 4, 2) := by decide +kernel
theorem d_BM_tells_109 : decode c_BM_tells 109 = .ok (.istore_n 2, 1) := by decide +kernel
theorem d_BM_tells_110 : decode c_BM_tells 110 = .ok (.iload 5, 2) := by decide +kernel
theorem d_BM_tells_112 : decode c_BM_tells 112 = .ok (.istore_n 3, 1) := by decide +kernel
theorem d_BM_tells_113 : decode c_BM_tells 113 = .ok (.iinc 4 1, 3) := by decide +kernel
theorem d_BM_tells_116 : decode c_BM_tells 116 = .ok (.goto (-76), 3) := by decide +kernel
theorem d_BM_tells_119 : decode c_BM_tells 119 = .ok (.iload_n 1, 1) := by decide +kernel
theorem d_BM_tells_120 : decode c_BM_tells 120 = .ok (.ifCond .ne 7, 3) := by decide +kernel
theorem d_BM_tells_123 : decode c_BM_tells 123 = .ok (.iload_n 2, 1) := by decide +kernel
theorem d_BM_tells_124 : decode c_BM_tells 124 = .ok (.goto 4, 3) := by decide +kernel
theorem d_BM_tells_127 : decode c_BM_tells 127 = .ok (.iload_n 3, 1) := by decide +kernel
theorem d_BM_tells_128 : decode c_BM_tells 128 = .ok (.ireturn, 1) := by decide +kernel
def S_BM_tells_0 (g : Gx) (Q : Int32 → St → Prop) (σ : St) (x1 : Int32) : Prop := Ax g m_BM_tells 0 0 (ZI g Q) SH σ 0 0 0 [(0, .ref (gB g + 151)), (1, .int x1)] []
def S_BM_tells_40 (g : Gx) (Q : Int32 → St → Prop) (σ : St) (x1 : Int32) (x2 : Int32) (x3 : Int32) (x4 : Int32) : Prop := Ax g m_BM_tells 0 0 (ZI g Q) SH σ 0 0 40 [(0, .ref (gB g + 151)), (1, .int x1), (2, .int x2), (3, .int x3), (4, .int x4)] []
def S_BM_tells_52 (g : Gx) (Q : Int32 → St → Prop) (σ : St) (x1 : Int32) (x2 : Int32) (x3 : Int32) (x4 : Int32) (x5 : Int32) (x6 : Int32) : Prop := Ax g m_BM_tells 0 0 (ZI g Q) SH σ 0 0 52 [(0, .ref (gB g + 151)), (1, .int x1), (2, .int x2), (3, .int x3), (4, .int x4), (5, .int x5), (6, .int x6)] []
theorem sg_BM_tells_0 {g : Gx} {Q : Int32 → St → Prop} {σ : St} {x1 : Int32}
    (h : K_BM_isBox g σ (fun (r2 : Int32) (s1 : St) => (r2 = 0 → Q (-1 : Int32) s1) ∧ (¬ r2 = 0 → K_BM_in g ((x1).toInt64) (0 : Int64) (1 : Int64) s1 (fun (r4 : Int32) (s3 : St) => (¬ r4 = 0 → K_BM_findsFits g s3 (fun s5 : St => (¬ (fi s5 151 60) = 0 → S_BM_tells_40 g Q s5 x1 (-1 : Int32) (0 : Int32) (0 : Int32)) ∧ ((fi s5 151 60) = 0 → Q (-2 : Int32) s5))) ∧ (r4 = 0 → Q (-1 : Int32) s3))))) : S_BM_tells_0 g Q σ x1 := by
  show Ax g m_BM_tells 0 0 (ZI g Q) SH σ 0 0 0 [(0, .ref (gB g + 151)), (1, .int x1)] []
  refine a_aload_n (pc := 0) 0 rfl rfl d_BM_tells_0 ?_
  refine a_callV (pc := 1) (M' := m_BM_isBox) (As := []) (st := []) (mc' := 0) (ms' := 0) lk_BM_391 rfl sx_151 rfl (by decide) (by decide) rfl (Nat.le_of_ble_eq_true rfl) (Nat.le_refl 0) (Nat.le_refl 0) d_BM_tells_1 h ?_
  rintro _ _ s1 ⟨r2, rfl, rfl, h⟩ -
  show Ax g m_BM_tells 0 0 (ZI g Q) SH s1 0 0 4 [(0, .ref (gB g + 151)), (1, .int x1)] [.int r2]
  refine a_if_eq (pc := 4) 17 (by decide) d_BM_tells_4 ⟨fun c0 => ?_, fun c0 => ?_⟩
  · replace h := h.1 c0
    refine a_iconst (pc := 17) (-1 : Int32) (by decide) d_BM_tells_17 ?_
    exact b_iret (pc := 18) rfl d_BM_tells_18 h
  · replace h := h.2 c0
    refine a_iload_n (pc := 7) 1 rfl rfl d_BM_tells_7 ?_
    refine a_i2l (pc := 8) d_BM_tells_8 ?_
    refine a_lconst (pc := 9) (0 : Int64) (by decide) d_BM_tells_9 ?_
    refine a_lconst (pc := 10) (1 : Int64) (by decide) d_BM_tells_10 ?_
    refine a_callS (pc := 11) (M' := m_BM_in) (As := [.long ((x1).toInt64), .long (0 : Int64), .long (1 : Int64)]) (st := []) (mc' := 0) (ms' := 0) lk_BM_162 rfl (by decide) (by decide) rfl (Nat.le_of_ble_eq_true rfl) (Nat.le_refl 0) (Nat.le_refl 0) d_BM_tells_11 h ?_
    rintro _ _ s3 ⟨r4, rfl, rfl, h⟩ -
    show Ax g m_BM_tells 0 0 (ZI g Q) SH s3 0 0 14 [(0, .ref (gB g + 151)), (1, .int x1)] [.int r4]
    refine a_if_ne (pc := 14) 19 (by decide) d_BM_tells_14 ⟨fun c0 => ?_, fun c0 => ?_⟩
    · replace h := h.1 c0
      refine a_aload_n (pc := 19) 0 rfl rfl d_BM_tells_19 ?_
      refine a_callV (pc := 20) (M' := m_BM_findsFits) (As := []) (st := []) (mc' := 0) (ms' := 0) lk_BM_502 rfl sx_151 rfl (by decide) (by decide) rfl (Nat.le_of_ble_eq_true rfl) (Nat.le_refl 0) (Nat.le_refl 0) d_BM_tells_20 h ?_
      rintro _ _ s5 ⟨rfl, rfl, h⟩ -
      show Ax g m_BM_tells 0 0 (ZI g Q) SH s5 0 0 23 [(0, .ref (gB g + 151)), (1, .int x1)] []
      refine a_aload_n (pc := 23) 0 rfl rfl d_BM_tells_23 ?_
      refine a_getI (pc := 24) fg_BM_493 sx_151 rfl d_BM_tells_24 ?_
      refine a_if_ne (pc := 27) 33 (by decide) d_BM_tells_27 ⟨fun c0 => ?_, fun c0 => ?_⟩
      · replace h := h.1 c0
        refine a_iconst (pc := 33) (-1 : Int32) (by decide) d_BM_tells_33 ?_
        refine a_istore_n (pc := 34) (lv' := [(2, .int (-1 : Int32)), (0, .ref (gB g + 151)), (1, .int x1)]) rfl (Nat.le_of_ble_eq_true rfl) rfl d_BM_tells_34 ?_
        refine a_iconst (pc := 35) (0 : Int32) (by decide) d_BM_tells_35 ?_
        refine a_istore_n (pc := 36) (lv' := [(3, .int (0 : Int32)), (2, .int (-1 : Int32)), (0, .ref (gB g + 151)), (1, .int x1)]) rfl (Nat.le_of_ble_eq_true rfl) rfl d_BM_tells_36 ?_
        refine a_iconst (pc := 37) (0 : Int32) (by decide) d_BM_tells_37 ?_
        refine a_istore (pc := 38) (lv' := [(4, .int (0 : Int32)), (3, .int (0 : Int32)), (2, .int (-1 : Int32)), (0, .ref (gB g + 151)), (1, .int x1)]) (Nat.le_of_ble_eq_true rfl) rfl d_BM_tells_38 ?_
        refine a_sub (pc := 40) [3, 4, 2, 1, 0] rfl ?_
        exact h
      · replace h := h.2 c0
        refine a_bipush (pc := 30) (-2 : Int32) (by decide) d_BM_tells_30 ?_
        exact b_iret (pc := 32) rfl d_BM_tells_32 h
    · replace h := h.2 c0
      refine a_iconst (pc := 17) (-1 : Int32) (by decide) d_BM_tells_17 ?_
      exact b_iret (pc := 18) rfl d_BM_tells_18 h
theorem sg_BM_tells_40 {g : Gx} {Q : Int32 → St → Prop} {σ : St} {x1 : Int32} {x2 : Int32} {x3 : Int32} {x4 : Int32}
    (h : ((4 : Int32) ≤ x4 → (¬ x1 = 0 → Q x3 σ) ∧ (x1 = 0 → Q x2 σ)) ∧ (¬ (4 : Int32) ≤ x4 → S_BM_tells_52 g Q σ x1 x2 x3 x4 (0 : Int32) (0 : Int32))) : S_BM_tells_40 g Q σ x1 x2 x3 x4 := by
  show Ax g m_BM_tells 0 0 (ZI g Q) SH σ 0 0 40 [(0, .ref (gB g + 151)), (1, .int x1), (2, .int x2), (3, .int x3), (4, .int x4)] []
  refine a_iload (pc := 40) 4 rfl d_BM_tells_40 ?_
  refine a_iconst (pc := 42) (4 : Int32) (by decide) d_BM_tells_42 ?_
  refine a_icmp_ge (pc := 43) 119 (by decide) d_BM_tells_43 ⟨fun c0 => ?_, fun c0 => ?_⟩
  · replace h := h.1 c0
    refine a_iload_n (pc := 119) 1 rfl rfl d_BM_tells_119 ?_
    refine a_if_ne (pc := 120) 127 (by decide) d_BM_tells_120 ⟨fun c0 => ?_, fun c0 => ?_⟩
    · replace h := h.1 c0
      refine a_iload_n (pc := 127) 3 rfl rfl d_BM_tells_127 ?_
      exact b_iret (pc := 128) rfl d_BM_tells_128 h
    · replace h := h.2 c0
      refine a_iload_n (pc := 123) 2 rfl rfl d_BM_tells_123 ?_
      refine a_goto (pc := 124) 128 (by decide) d_BM_tells_124 ?_
      exact b_iret (pc := 128) rfl d_BM_tells_128 h
  · replace h := h.2 c0
    refine a_iconst (pc := 46) (0 : Int32) (by decide) d_BM_tells_46 ?_
    refine a_istore (pc := 47) (lv' := [(5, .int (0 : Int32)), (0, .ref (gB g + 151)), (1, .int x1), (2, .int x2), (3, .int x3), (4, .int x4)]) (Nat.le_of_ble_eq_true rfl) rfl d_BM_tells_47 ?_
    refine a_iconst (pc := 49) (0 : Int32) (by decide) d_BM_tells_49 ?_
    refine a_istore (pc := 50) (lv' := [(6, .int (0 : Int32)), (5, .int (0 : Int32)), (0, .ref (gB g + 151)), (1, .int x1), (2, .int x2), (3, .int x3), (4, .int x4)]) (Nat.le_of_ble_eq_true rfl) rfl d_BM_tells_50 ?_
    refine a_sub (pc := 52) [2, 3, 4, 5, 6, 1, 0] rfl ?_
    exact h
theorem sg_BM_tells_52 {g : Gx} {Q : Int32 → St → Prop} {σ : St} {x1 : Int32} {x2 : Int32} {x3 : Int32} {x4 : Int32} {x5 : Int32} {x6 : Int32}
    (h : ((16 : Int32) ≤ x6 → (x2 = (-1 : Int32) → ∀ u1 : Int32, u1 = x4 + (1 : Int32) → S_BM_tells_40 g Q σ x1 x4 x5 u1) ∧ (¬ x2 = (-1 : Int32) → (x3 ≤ x5 → ∀ u2 : Int32, u2 = x4 + (1 : Int32) → S_BM_tells_40 g Q σ x1 x2 x3 u2) ∧ (¬ x3 ≤ x5 → ∀ u3 : Int32, u3 = x4 + (1 : Int32) → S_BM_tells_40 g Q σ x1 x4 x5 u3))) ∧ (¬ (16 : Int32) ≤ x6 → vp_in (((16 : Int32) * x4) + x6) 64 ∧ (∀ u4 : Int32, u4 = (ai σ 186 ((((16 : Int32) * x4) + x6)).toNatClampNeg) → (u4 ≤ x5 → ∀ u5 : Int32, u5 = x6 + (1 : Int32) → S_BM_tells_52 g Q σ x1 x2 x3 x4 x5 u5) ∧ (¬ u4 ≤ x5 → ∀ u6 : Int32, u6 = x6 + (1 : Int32) → S_BM_tells_52 g Q σ x1 x2 x3 x4 u4 u6)))) : S_BM_tells_52 g Q σ x1 x2 x3 x4 x5 x6 := by
  show Ax g m_BM_tells 0 0 (ZI g Q) SH σ 0 0 52 [(0, .ref (gB g + 151)), (1, .int x1), (2, .int x2), (3, .int x3), (4, .int x4), (5, .int x5), (6, .int x6)] []
  refine a_iload (pc := 52) 6 rfl d_BM_tells_52 ?_
  refine a_bipush (pc := 54) (16 : Int32) (by decide) d_BM_tells_54 ?_
  refine a_icmp_ge (pc := 56) 96 (by decide) d_BM_tells_56 ⟨fun c0 => ?_, fun c0 => ?_⟩
  · replace h := h.1 c0
    refine a_iload_n (pc := 96) 2 rfl rfl d_BM_tells_96 ?_
    refine a_iconst (pc := 97) (-1 : Int32) (by decide) d_BM_tells_97 ?_
    refine a_icmp_eq (pc := 98) 107 (by decide) d_BM_tells_98 ⟨fun c0 => ?_, fun c0 => ?_⟩
    · replace h := h.1 c0
      refine a_iload (pc := 107) 4 rfl d_BM_tells_107 ?_
      refine a_istore_n (pc := 109) (lv' := [(2, .int x4), (0, .ref (gB g + 151)), (1, .int x1), (3, .int x3), (4, .int x4), (5, .int x5), (6, .int x6)]) rfl (Nat.le_of_ble_eq_true rfl) rfl d_BM_tells_109 ?_
      refine a_iload (pc := 110) 5 rfl d_BM_tells_110 ?_
      refine a_istore_n (pc := 112) (lv' := [(3, .int x5), (2, .int x4), (0, .ref (gB g + 151)), (1, .int x1), (4, .int x4), (5, .int x5), (6, .int x6)]) rfl (Nat.le_of_ble_eq_true rfl) rfl d_BM_tells_112 ?_
      obtain ⟨u1, hu1⟩ : ∃ y : Int32, y = x4 + (1 : Int32) := ⟨_, rfl⟩
      replace h := h u1 hu1
      refine a_iinc (pc := 113) (v := u1) (lv' := [(4, .int u1), (3, .int x5), (2, .int x4), (0, .ref (gB g + 151)), (1, .int x1), (5, .int x5), (6, .int x6)]) 4 rfl (by rw [hu1]; rfl) (Nat.le_of_ble_eq_true rfl) rfl d_BM_tells_113 ?_
      refine a_goto (pc := 116) 40 (by decide) d_BM_tells_116 ?_
      refine a_sub (pc := 40) [3, 4, 2, 1, 0] rfl ?_
      exact h
    · replace h := h.2 c0
      refine a_iload (pc := 101) 5 rfl d_BM_tells_101 ?_
      refine a_iload_n (pc := 103) 3 rfl rfl d_BM_tells_103 ?_
      refine a_icmp_ge (pc := 104) 113 (by decide) d_BM_tells_104 ⟨fun c0 => ?_, fun c0 => ?_⟩
      · replace h := h.1 c0
        obtain ⟨u2, hu2⟩ : ∃ y : Int32, y = x4 + (1 : Int32) := ⟨_, rfl⟩
        replace h := h u2 hu2
        refine a_iinc (pc := 113) (v := u2) (lv' := [(4, .int u2), (0, .ref (gB g + 151)), (1, .int x1), (2, .int x2), (3, .int x3), (5, .int x5), (6, .int x6)]) 4 rfl (by rw [hu2]; rfl) (Nat.le_of_ble_eq_true rfl) rfl d_BM_tells_113 ?_
        refine a_goto (pc := 116) 40 (by decide) d_BM_tells_116 ?_
        refine a_sub (pc := 40) [1, 2, 3, 4, 0] rfl ?_
        exact h
      · replace h := h.2 c0
        refine a_iload (pc := 107) 4 rfl d_BM_tells_107 ?_
        refine a_istore_n (pc := 109) (lv' := [(2, .int x4), (0, .ref (gB g + 151)), (1, .int x1), (3, .int x3), (4, .int x4), (5, .int x5), (6, .int x6)]) rfl (Nat.le_of_ble_eq_true rfl) rfl d_BM_tells_109 ?_
        refine a_iload (pc := 110) 5 rfl d_BM_tells_110 ?_
        refine a_istore_n (pc := 112) (lv' := [(3, .int x5), (2, .int x4), (0, .ref (gB g + 151)), (1, .int x1), (4, .int x4), (5, .int x5), (6, .int x6)]) rfl (Nat.le_of_ble_eq_true rfl) rfl d_BM_tells_112 ?_
        obtain ⟨u3, hu3⟩ : ∃ y : Int32, y = x4 + (1 : Int32) := ⟨_, rfl⟩
        replace h := h u3 hu3
        refine a_iinc (pc := 113) (v := u3) (lv' := [(4, .int u3), (3, .int x5), (2, .int x4), (0, .ref (gB g + 151)), (1, .int x1), (5, .int x5), (6, .int x6)]) 4 rfl (by rw [hu3]; rfl) (Nat.le_of_ble_eq_true rfl) rfl d_BM_tells_113 ?_
        refine a_goto (pc := 116) 40 (by decide) d_BM_tells_116 ?_
        refine a_sub (pc := 40) [3, 4, 2, 1, 0] rfl ?_
        exact h
  · replace h := h.2 c0
    refine a_aload_n (pc := 59) 0 rfl rfl d_BM_tells_59 ?_
    refine a_getR (pc := 60) fg_BM_119 sx_151 rfl d_BM_tells_60 ?_
    refine a_bipush (pc := 63) (16 : Int32) (by decide) d_BM_tells_63 ?_
    refine a_iload (pc := 65) 4 rfl d_BM_tells_65 ?_
    refine a_imul (pc := 67) d_BM_tells_67 ?_
    refine a_iload (pc := 68) 6 rfl d_BM_tells_68 ?_
    refine a_iadd (pc := 70) d_BM_tells_70 ?_
    obtain ⟨hx, h⟩ := h
    refine a_iald (pc := 71) sx_186 hx d_BM_tells_71 ?_
    refine a_nmi (pc := 72) (fun u4 hu4 => ?_)
    replace h := h u4 hu4
    refine a_istore (pc := 72) (lv' := [(7, .int u4), (0, .ref (gB g + 151)), (1, .int x1), (2, .int x2), (3, .int x3), (4, .int x4), (5, .int x5), (6, .int x6)]) (Nat.le_of_ble_eq_true rfl) rfl d_BM_tells_72 ?_
    refine a_iload (pc := 74) 0 rfl d_BM_tells_74 ?_
    refine a_iload (pc := 76) 6 rfl d_BM_tells_76 ?_
    refine a_icmp_le (pc := 78) 86 (by decide) d_BM_tells_78 ⟨fun c0 => ?_, fun c0 => ?_⟩
    · replace h := h.1 c0
      refine a_iload (pc := 86) 6 rfl d_BM_tells_86 ?_
      refine a_istore (pc := 88) (lv' := [(5, .int x5), (7, .int u4), (0, .ref (gB g + 151)), (1, .int x1), (2, .int x2), (3, .int x3), (4, .int x4), (6, .int x6)]) (Nat.le_of_ble_eq_true rfl) rfl d_BM_tells_88 ?_
      obtain ⟨u5, hu5⟩ : ∃ y : Int32, y = x6 + (1 : Int32) := ⟨_, rfl⟩
      replace h := h u5 hu5
      refine a_iinc (pc := 90) (v := u5) (lv' := [(6, .int u5), (5, .int x5), (7, .int u4), (0, .ref (gB g + 151)), (1, .int x1), (2, .int x2), (3, .int x3), (4, .int x4)]) 7 rfl (by rw [hu5]; rfl) (Nat.le_of_ble_eq_true rfl) rfl d_BM_tells_90 ?_
      refine a_goto (pc := 93) 52 (by decide) d_BM_tells_93 ?_
      refine a_sub (pc := 52) [3, 4, 5, 6, 7, 1, 0] rfl ?_
      exact h
    · replace h := h.2 c0
      refine a_iload (pc := 81) 0 rfl d_BM_tells_81 ?_
      refine a_goto (pc := 83) 88 (by decide) d_BM_tells_83 ?_
      refine a_istore (pc := 88) (lv' := [(5, .int u4), (7, .int u4), (0, .ref (gB g + 151)), (1, .int x1), (2, .int x2), (3, .int x3), (4, .int x4), (6, .int x6)]) (Nat.le_of_ble_eq_true rfl) rfl d_BM_tells_88 ?_
      obtain ⟨u6, hu6⟩ : ∃ y : Int32, y = x6 + (1 : Int32) := ⟨_, rfl⟩
      replace h := h u6 hu6
      refine a_iinc (pc := 90) (v := u6) (lv' := [(6, .int u6), (5, .int u4), (7, .int u4), (0, .ref (gB g + 151)), (1, .int x1), (2, .int x2), (3, .int x3), (4, .int x4)]) 7 rfl (by rw [hu6]; rfl) (Nat.le_of_ble_eq_true rfl) rfl d_BM_tells_90 ?_
      refine a_goto (pc := 93) 52 (by decide) d_BM_tells_93 ?_
      refine a_sub (pc := 52) [3, 4, 5, 6, 7, 1, 0] rfl ?_
      exact h
theorem ko_BM_tells {g : Gx}  {x1 : Int32} {σ : St} {Q : Int32 → St → Prop} (h : S_BM_tells_0 g Q σ x1) : K_BM_tells g x1 σ Q := KI.of (show plainName "BallBoxModel" = true by decide) (Nat.le_of_ble_eq_true rfl) h
theorem d_BM_laysLevel_0 : decode c_BM_laysLevel 0 = .ok (.iconst 0, 1) := by decide +kernel
theorem d_BM_laysLevel_1 : decode c_BM_laysLevel 1 = .ok (.istore_n 2, 1) := by decide +kernel
theorem d_BM_laysLevel_2 : decode c_BM_laysLevel 2 = .ok (.iload_n 2, 1) := by decide +kernel
theorem d_BM_laysLevel_3 : decode c_BM_laysLevel 3 = .ok (.iconst 3, 1) := by decide +kernel
theorem d_BM_laysLevel_4 : decode c_BM_laysLevel 4 = .ok (.if_icmp .ge 25, 3) := by decide +kernel
theorem d_BM_laysLevel_7 : decode c_BM_laysLevel 7 = .ok (.aload_n 0, 1) := by decide +kernel
theorem d_BM_laysLevel_8 : decode c_BM_laysLevel 8 = .ok (.getfield 16, 3) := by decide +kernel
theorem d_BM_laysLevel_11 : decode c_BM_laysLevel 11 = .ok (.iload_n 2, 1) := by decide +kernel
theorem d_BM_laysLevel_12 : decode c_BM_laysLevel 12 = .ok (.aload_n 0, 1) := by decide +kernel
theorem d_BM_laysLevel_13 : decode c_BM_laysLevel 13 = .ok (.getfield 128, 3) := by decide +kernel
theorem d_BM_laysLevel_16 : decode c_BM_laysLevel 16 = .ok (.iconst 3, 1) := by decide +kernel
theorem d_BM_laysLevel_17 : decode c_BM_laysLevel 17 = .ok (.iload_n 1, 1) := by decide +kernel
theorem d_BM_laysLevel_18 : decode c_BM_laysLevel 18 = .ok (.imul, 1) := by decide +kernel
theorem d_BM_laysLevel_19 : decode c_BM_laysLevel 19 = .ok (.iload_n 2, 1) := by decide +kernel
theorem d_BM_laysLevel_20 : decode c_BM_laysLevel 20 = .ok (.iadd, 1) := by decide +kernel
theorem d_BM_laysLevel_21 : decode c_BM_laysLevel 21 = .ok (.iaload, 1) := by decide +kernel
theorem d_BM_laysLevel_22 : decode c_BM_laysLevel 22 = .ok (.iastore, 1) := by decide +kernel
theorem d_BM_laysLevel_23 : decode c_BM_laysLevel 23 = .ok (.iinc 2 1, 3) := by decide +kernel
theorem d_BM_laysLevel_26 : decode c_BM_laysLevel 26 = .ok (.goto (-24), 3) := by decide +kernel
theorem d_BM_laysLevel_29 : decode c_BM_laysLevel 29 = .ok (.return_, 1) := by decide +kernel
def S_BM_laysLevel_0 (g : Gx) (Q : St → Prop) (σ : St) (x1 : Int32) : Prop := Ax g m_BM_laysLevel 0 0 (ZV g Q) SH σ 0 0 0 [(0, .ref (gB g + 151)), (1, .int x1)] []
def S_BM_laysLevel_2 (g : Gx) (Q : St → Prop) (σ : St) (x1 : Int32) (x2 : Int32) : Prop := Ax g m_BM_laysLevel 0 0 (ZV g Q) SH σ 0 0 2 [(0, .ref (gB g + 151)), (1, .int x1), (2, .int x2)] []
theorem sg_BM_laysLevel_0 {g : Gx} {Q : St → Prop} {σ : St} {x1 : Int32}
    (h : S_BM_laysLevel_2 g Q σ x1 (0 : Int32)) : S_BM_laysLevel_0 g Q σ x1 := by
  show Ax g m_BM_laysLevel 0 0 (ZV g Q) SH σ 0 0 0 [(0, .ref (gB g + 151)), (1, .int x1)] []
  refine a_iconst (pc := 0) (0 : Int32) (by decide) d_BM_laysLevel_0 ?_
  refine a_istore_n (pc := 1) (lv' := [(2, .int (0 : Int32)), (0, .ref (gB g + 151)), (1, .int x1)]) rfl (Nat.le_of_ble_eq_true rfl) rfl d_BM_laysLevel_1 ?_
  refine a_sub (pc := 2) [1, 2, 0] rfl ?_
  exact h
theorem sg_BM_laysLevel_2 {g : Gx} {Q : St → Prop} {σ : St} {x1 : Int32} {x2 : Int32}
    (h : ((3 : Int32) ≤ x2 → Q σ) ∧ (¬ (3 : Int32) ≤ x2 → vp_in (((3 : Int32) * x1) + x2) 27 ∧ (vp_in x2 3 ∧ (∀ s1 : St, s1 = sai σ 154 (x2).toNatClampNeg (ai σ 189 ((((3 : Int32) * x1) + x2)).toNatClampNeg) → ∀ u2 : Int32, u2 = x2 + (1 : Int32) → S_BM_laysLevel_2 g Q s1 x1 u2)))) : S_BM_laysLevel_2 g Q σ x1 x2 := by
  show Ax g m_BM_laysLevel 0 0 (ZV g Q) SH σ 0 0 2 [(0, .ref (gB g + 151)), (1, .int x1), (2, .int x2)] []
  refine a_iload_n (pc := 2) 2 rfl rfl d_BM_laysLevel_2 ?_
  refine a_iconst (pc := 3) (3 : Int32) (by decide) d_BM_laysLevel_3 ?_
  refine a_icmp_ge (pc := 4) 29 (by decide) d_BM_laysLevel_4 ⟨fun c0 => ?_, fun c0 => ?_⟩
  · replace h := h.1 c0
    exact b_vret (pc := 29) rfl d_BM_laysLevel_29 h
  · replace h := h.2 c0
    refine a_aload_n (pc := 7) 0 rfl rfl d_BM_laysLevel_7 ?_
    refine a_getR (pc := 8) fg_BM_16 sx_151 rfl d_BM_laysLevel_8 ?_
    refine a_iload_n (pc := 11) 2 rfl rfl d_BM_laysLevel_11 ?_
    refine a_aload_n (pc := 12) 0 rfl rfl d_BM_laysLevel_12 ?_
    refine a_getR (pc := 13) fg_BM_128 sx_151 rfl d_BM_laysLevel_13 ?_
    refine a_iconst (pc := 16) (3 : Int32) (by decide) d_BM_laysLevel_16 ?_
    refine a_iload_n (pc := 17) 1 rfl rfl d_BM_laysLevel_17 ?_
    refine a_imul (pc := 18) d_BM_laysLevel_18 ?_
    refine a_iload_n (pc := 19) 2 rfl rfl d_BM_laysLevel_19 ?_
    refine a_iadd (pc := 20) d_BM_laysLevel_20 ?_
    obtain ⟨hx, h⟩ := h
    refine a_iald (pc := 21) sx_189 hx d_BM_laysLevel_21 ?_
    obtain ⟨hx, h⟩ := h
    refine a_iast (pc := 22) sx_154 hx d_BM_laysLevel_22 ?_
    refine a_nms (fun s1 hs1 => ?_)
    replace h := h s1 hs1
    obtain ⟨u2, hu2⟩ : ∃ y : Int32, y = x2 + (1 : Int32) := ⟨_, rfl⟩
    replace h := h u2 hu2
    refine a_iinc (pc := 23) (v := u2) (lv' := [(2, .int u2), (0, .ref (gB g + 151)), (1, .int x1)]) 2 rfl (by rw [hu2]; rfl) (Nat.le_of_ble_eq_true rfl) rfl d_BM_laysLevel_23 ?_
    refine a_goto (pc := 26) 2 (by decide) d_BM_laysLevel_26 ?_
    refine a_sub (pc := 2) [1, 2, 0] rfl ?_
    exact h
theorem ko_BM_laysLevel {g : Gx}  {x1 : Int32} {σ : St} {Q : St → Prop} (h : S_BM_laysLevel_0 g Q σ x1) : K_BM_laysLevel g x1 σ Q := KV.of (show plainName "BallBoxModel" = true by decide) (Nat.le_of_ble_eq_true rfl) h
theorem d_BM_keepsLevel_0 : decode c_BM_keepsLevel 0 = .ok (.iconst 0, 1) := by decide +kernel
theorem d_BM_keepsLevel_1 : decode c_BM_keepsLevel 1 = .ok (.istore_n 2, 1) := by decide +kernel
theorem d_BM_keepsLevel_2 : decode c_BM_keepsLevel 2 = .ok (.iload_n 2, 1) := by decide +kernel
theorem d_BM_keepsLevel_3 : decode c_BM_keepsLevel 3 = .ok (.iconst 3, 1) := by decide +kernel
theorem d_BM_keepsLevel_4 : decode c_BM_keepsLevel 4 = .ok (.if_icmp .ge 25, 3) := by decide +kernel
theorem d_BM_keepsLevel_7 : decode c_BM_keepsLevel 7 = .ok (.aload_n 0, 1) := by decide +kernel
theorem d_BM_keepsLevel_8 : decode c_BM_keepsLevel 8 = .ok (.getfield 128, 3) := by decide +kernel
theorem d_BM_keepsLevel_11 : decode c_BM_keepsLevel 11 = .ok (.iconst 3, 1) := by decide +kernel
theorem d_BM_keepsLevel_12 : decode c_BM_keepsLevel 12 = .ok (.iload_n 1, 1) := by decide +kernel
theorem d_BM_keepsLevel_13 : decode c_BM_keepsLevel 13 = .ok (.imul, 1) := by decide +kernel
theorem d_BM_keepsLevel_14 : decode c_BM_keepsLevel 14 = .ok (.iload_n 2, 1) := by decide +kernel
theorem d_BM_keepsLevel_15 : decode c_BM_keepsLevel 15 = .ok (.iadd, 1) := by decide +kernel
theorem d_BM_keepsLevel_16 : decode c_BM_keepsLevel 16 = .ok (.aload_n 0, 1) := by decide +kernel
theorem d_BM_keepsLevel_17 : decode c_BM_keepsLevel 17 = .ok (.getfield 16, 3) := by decide +kernel
theorem d_BM_keepsLevel_20 : decode c_BM_keepsLevel 20 = .ok (.iload_n 2, 1) := by decide +kernel
theorem d_BM_keepsLevel_21 : decode c_BM_keepsLevel 21 = .ok (.iaload, 1) := by decide +kernel
theorem d_BM_keepsLevel_22 : decode c_BM_keepsLevel 22 = .ok (.iastore, 1) := by decide +kernel
theorem d_BM_keepsLevel_23 : decode c_BM_keepsLevel 23 = .ok (.iinc 2 1, 3) := by decide +kernel
theorem d_BM_keepsLevel_26 : decode c_BM_keepsLevel 26 = .ok (.goto (-24), 3) := by decide +kernel
theorem d_BM_keepsLevel_29 : decode c_BM_keepsLevel 29 = .ok (.return_, 1) := by decide +kernel
def S_BM_keepsLevel_0 (g : Gx) (Q : St → Prop) (σ : St) (x1 : Int32) : Prop := Ax g m_BM_keepsLevel 0 0 (ZV g Q) SH σ 0 0 0 [(0, .ref (gB g + 151)), (1, .int x1)] []
def S_BM_keepsLevel_2 (g : Gx) (Q : St → Prop) (σ : St) (x1 : Int32) (x2 : Int32) : Prop := Ax g m_BM_keepsLevel 0 0 (ZV g Q) SH σ 0 0 2 [(0, .ref (gB g + 151)), (1, .int x1), (2, .int x2)] []
theorem sg_BM_keepsLevel_0 {g : Gx} {Q : St → Prop} {σ : St} {x1 : Int32}
    (h : S_BM_keepsLevel_2 g Q σ x1 (0 : Int32)) : S_BM_keepsLevel_0 g Q σ x1 := by
  show Ax g m_BM_keepsLevel 0 0 (ZV g Q) SH σ 0 0 0 [(0, .ref (gB g + 151)), (1, .int x1)] []
  refine a_iconst (pc := 0) (0 : Int32) (by decide) d_BM_keepsLevel_0 ?_
  refine a_istore_n (pc := 1) (lv' := [(2, .int (0 : Int32)), (0, .ref (gB g + 151)), (1, .int x1)]) rfl (Nat.le_of_ble_eq_true rfl) rfl d_BM_keepsLevel_1 ?_
  refine a_sub (pc := 2) [1, 2, 0] rfl ?_
  exact h
theorem sg_BM_keepsLevel_2 {g : Gx} {Q : St → Prop} {σ : St} {x1 : Int32} {x2 : Int32}
    (h : ((3 : Int32) ≤ x2 → Q σ) ∧ (¬ (3 : Int32) ≤ x2 → vp_in x2 3 ∧ (vp_in (((3 : Int32) * x1) + x2) 27 ∧ (∀ s1 : St, s1 = sai σ 189 ((((3 : Int32) * x1) + x2)).toNatClampNeg (ai σ 154 (x2).toNatClampNeg) → ∀ u2 : Int32, u2 = x2 + (1 : Int32) → S_BM_keepsLevel_2 g Q s1 x1 u2)))) : S_BM_keepsLevel_2 g Q σ x1 x2 := by
  show Ax g m_BM_keepsLevel 0 0 (ZV g Q) SH σ 0 0 2 [(0, .ref (gB g + 151)), (1, .int x1), (2, .int x2)] []
  refine a_iload_n (pc := 2) 2 rfl rfl d_BM_keepsLevel_2 ?_
  refine a_iconst (pc := 3) (3 : Int32) (by decide) d_BM_keepsLevel_3 ?_
  refine a_icmp_ge (pc := 4) 29 (by decide) d_BM_keepsLevel_4 ⟨fun c0 => ?_, fun c0 => ?_⟩
  · replace h := h.1 c0
    exact b_vret (pc := 29) rfl d_BM_keepsLevel_29 h
  · replace h := h.2 c0
    refine a_aload_n (pc := 7) 0 rfl rfl d_BM_keepsLevel_7 ?_
    refine a_getR (pc := 8) fg_BM_128 sx_151 rfl d_BM_keepsLevel_8 ?_
    refine a_iconst (pc := 11) (3 : Int32) (by decide) d_BM_keepsLevel_11 ?_
    refine a_iload_n (pc := 12) 1 rfl rfl d_BM_keepsLevel_12 ?_
    refine a_imul (pc := 13) d_BM_keepsLevel_13 ?_
    refine a_iload_n (pc := 14) 2 rfl rfl d_BM_keepsLevel_14 ?_
    refine a_iadd (pc := 15) d_BM_keepsLevel_15 ?_
    refine a_aload_n (pc := 16) 0 rfl rfl d_BM_keepsLevel_16 ?_
    refine a_getR (pc := 17) fg_BM_16 sx_151 rfl d_BM_keepsLevel_17 ?_
    refine a_iload_n (pc := 20) 2 rfl rfl d_BM_keepsLevel_20 ?_
    obtain ⟨hx, h⟩ := h
    refine a_iald (pc := 21) sx_154 hx d_BM_keepsLevel_21 ?_
    obtain ⟨hx, h⟩ := h
    refine a_iast (pc := 22) sx_189 hx d_BM_keepsLevel_22 ?_
    refine a_nms (fun s1 hs1 => ?_)
    replace h := h s1 hs1
    obtain ⟨u2, hu2⟩ : ∃ y : Int32, y = x2 + (1 : Int32) := ⟨_, rfl⟩
    replace h := h u2 hu2
    refine a_iinc (pc := 23) (v := u2) (lv' := [(2, .int u2), (0, .ref (gB g + 151)), (1, .int x1)]) 2 rfl (by rw [hu2]; rfl) (Nat.le_of_ble_eq_true rfl) rfl d_BM_keepsLevel_23 ?_
    refine a_goto (pc := 26) 2 (by decide) d_BM_keepsLevel_26 ?_
    refine a_sub (pc := 2) [1, 2, 0] rfl ?_
    exact h
theorem ko_BM_keepsLevel {g : Gx}  {x1 : Int32} {σ : St} {Q : St → Prop} (h : S_BM_keepsLevel_0 g Q σ x1) : K_BM_keepsLevel g x1 σ Q := KV.of (show plainName "BallBoxModel" = true by decide) (Nat.le_of_ble_eq_true rfl) h
theorem d_BM_isTold_0 : decode c_BM_isTold 0 = .ok (.aload_n 0, 1) := by decide +kernel
theorem d_BM_isTold_1 : decode c_BM_isTold 1 = .ok (.iload_n 1, 1) := by decide +kernel
theorem d_BM_isTold_2 : decode c_BM_isTold 2 = .ok (.invokevirtual 505, 3) := by decide +kernel
theorem d_BM_isTold_5 : decode c_BM_isTold 5 = .ok (.aload_n 0, 1) := by decide +kernel
theorem d_BM_isTold_6 : decode c_BM_isTold 6 = .ok (.getfield 131, 3) := by decide +kernel
theorem d_BM_isTold_9 : decode c_BM_isTold 9 = .ok (.iload_n 1, 1) := by decide +kernel
theorem d_BM_isTold_10 : decode c_BM_isTold 10 = .ok (.iconst 0, 1) := by decide +kernel
theorem d_BM_isTold_11 : decode c_BM_isTold 11 = .ok (.iastore, 1) := by decide +kernel
theorem d_BM_isTold_12 : decode c_BM_isTold 12 = .ok (.aload_n 0, 1) := by decide +kernel
theorem d_BM_isTold_13 : decode c_BM_isTold 13 = .ok (.invokevirtual 415, 3) := by decide +kernel
theorem d_BM_isTold_16 : decode c_BM_isTold 16 = .ok (.istore_n 3, 1) := by decide +kernel
theorem d_BM_isTold_17 : decode c_BM_isTold 17 = .ok (.aload_n 0, 1) := by decide +kernel
theorem d_BM_isTold_18 : decode c_BM_isTold 18 = .ok (.getfield 134, 3) := by decide +kernel
theorem d_BM_isTold_21 : decode c_BM_isTold 21 = .ok (.iload_n 1, 1) := by decide +kernel
theorem d_BM_isTold_22 : decode c_BM_isTold 22 = .ok (.iload_n 3, 1) := by decide +kernel
theorem d_BM_isTold_23 : decode c_BM_isTold 23 = .ok (.ifCond .ne 15, 3) := by decide +kernel
theorem d_BM_isTold_26 : decode c_BM_isTold 26 = .ok (.iload_n 1, 1) := by decide +kernel
theorem d_BM_isTold_27 : decode c_BM_isTold 27 = .ok (.iload_n 2, 1) := by decide +kernel
theorem d_BM_isTold_28 : decode c_BM_isTold 28 = .ok (.if_icmp .ge 14, 3) := by decide +kernel
theorem d_BM_isTold_31 : decode c_BM_isTold 31 = .ok (.iload_n 1, 1) := by decide +kernel
theorem d_BM_isTold_32 : decode c_BM_isTold 32 = .ok (.iconst 2, 1) := by decide +kernel
theorem d_BM_isTold_33 : decode c_BM_isTold 33 = .ok (.irem, 1) := by decide +kernel
theorem d_BM_isTold_34 : decode c_BM_isTold 34 = .ok (.iconst 1, 1) := by decide +kernel
theorem d_BM_isTold_35 : decode c_BM_isTold 35 = .ok (.if_icmp .ne 7, 3) := by decide +kernel
theorem d_BM_isTold_38 : decode c_BM_isTold 38 = .ok (.iconst 1, 1) := by decide +kernel
theorem d_BM_isTold_39 : decode c_BM_isTold 39 = .ok (.goto 4, 3) := by decide +kernel
theorem d_BM_isTold_42 : decode c_BM_isTold 42 = .ok (.iconst 0, 1) := by decide +kernel
theorem d_BM_isTold_43 : decode c_BM_isTold 43 = .ok (.bastore, 1) := by decide +kernel
theorem d_BM_isTold_44 : decode c_BM_isTold 44 = .ok (.iload_n 3, 1) := by decide +kernel
theorem d_BM_isTold_45 : decode c_BM_isTold 45 = .ok (.ifCond .ne 8, 3) := by decide +kernel
theorem d_BM_isTold_48 : decode c_BM_isTold 48 = .ok (.iload_n 1, 1) := by decide +kernel
theorem d_BM_isTold_49 : decode c_BM_isTold 49 = .ok (.iload_n 2, 1) := by decide +kernel
theorem d_BM_isTold_50 : decode c_BM_isTold 50 = .ok (.if_icmp .ne 7, 3) := by decide +kernel
theorem d_BM_isTold_53 : decode c_BM_isTold 53 = .ok (.iconst 1, 1) := by decide +kernel
theorem d_BM_isTold_54 : decode c_BM_isTold 54 = .ok (.goto 4, 3) := by decide +kernel
theorem d_BM_isTold_57 : decode c_BM_isTold 57 = .ok (.iconst 0, 1) := by decide +kernel
theorem d_BM_isTold_58 : decode c_BM_isTold 58 = .ok (.ireturn, 1) := by decide +kernel
def S_BM_isTold_0 (g : Gx) (Q : Int32 → St → Prop) (σ : St) (x1 : Int32) (x2 : Int32) : Prop := Ax g m_BM_isTold 0 0 (ZI g Q) SH σ 0 0 0 [(0, .ref (gB g + 151)), (1, .int x1), (2, .int x2)] []
def S_BM_isTold_38 (g : Gx) (Q : Int32 → St → Prop) (σ : St) (x1 : Int32) (x2 : Int32) (x3 : Int32) (z0 : Int32) : Prop := Ax g m_BM_isTold 0 0 (ZI g Q) SH σ 0 0 38 [(1, .int x1), (2, .int x2), (3, .int x3)] [.int z0, .ref (gB g + 191)]
def S_BM_isTold_42 (g : Gx) (Q : Int32 → St → Prop) (σ : St) (x1 : Int32) (x2 : Int32) (x3 : Int32) (z0 : Int32) : Prop := Ax g m_BM_isTold 0 0 (ZI g Q) SH σ 0 0 42 [(1, .int x1), (2, .int x2), (3, .int x3)] [.int z0, .ref (gB g + 191)]
theorem sg_BM_isTold_0 {g : Gx} {Q : Int32 → St → Prop} {σ : St} {x1 : Int32} {x2 : Int32}
    (h : K_BM_keepsLevel g x1 σ (fun s1 : St => vp_in x1 9 ∧ (∀ s2 : St, s2 = sai s1 190 (x1).toNatClampNeg (0 : Int32) → K_BM_areHome g s2 (fun (r4 : Int32) (s3 : St) => (¬ r4 = 0 → S_BM_isTold_38 g Q s3 x1 x2 r4 x1) ∧ (r4 = 0 → (x2 ≤ x1 → S_BM_isTold_42 g Q s3 x1 x2 r4 x1) ∧ (¬ x2 ≤ x1 → (¬ (x1 - x1 / (2 : Int32) * (2 : Int32)) = (1 : Int32) → S_BM_isTold_42 g Q s3 x1 x2 r4 x1) ∧ ((x1 - x1 / (2 : Int32) * (2 : Int32)) = (1 : Int32) → S_BM_isTold_38 g Q s3 x1 x2 r4 x1))))))) : S_BM_isTold_0 g Q σ x1 x2 := by
  show Ax g m_BM_isTold 0 0 (ZI g Q) SH σ 0 0 0 [(0, .ref (gB g + 151)), (1, .int x1), (2, .int x2)] []
  refine a_aload_n (pc := 0) 0 rfl rfl d_BM_isTold_0 ?_
  refine a_iload_n (pc := 1) 1 rfl rfl d_BM_isTold_1 ?_
  refine a_callV (pc := 2) (M' := m_BM_keepsLevel) (As := [.int x1]) (st := []) (mc' := 0) (ms' := 0) lk_BM_505 rfl sx_151 rfl (by decide) (by decide) rfl (Nat.le_of_ble_eq_true rfl) (Nat.le_refl 0) (Nat.le_refl 0) d_BM_isTold_2 h ?_
  rintro _ _ s1 ⟨rfl, rfl, h⟩ -
  show Ax g m_BM_isTold 0 0 (ZI g Q) SH s1 0 0 5 [(0, .ref (gB g + 151)), (1, .int x1), (2, .int x2)] []
  refine a_aload_n (pc := 5) 0 rfl rfl d_BM_isTold_5 ?_
  refine a_getR (pc := 6) fg_BM_131 sx_151 rfl d_BM_isTold_6 ?_
  refine a_iload_n (pc := 9) 1 rfl rfl d_BM_isTold_9 ?_
  refine a_iconst (pc := 10) (0 : Int32) (by decide) d_BM_isTold_10 ?_
  obtain ⟨hx, h⟩ := h
  refine a_iast (pc := 11) sx_190 hx d_BM_isTold_11 ?_
  refine a_nms (fun s2 hs2 => ?_)
  replace h := h s2 hs2
  refine a_aload_n (pc := 12) 0 rfl rfl d_BM_isTold_12 ?_
  refine a_callV (pc := 13) (M' := m_BM_areHome) (As := []) (st := []) (mc' := 0) (ms' := 0) lk_BM_415 rfl sx_151 rfl (by decide) (by decide) rfl (Nat.le_of_ble_eq_true rfl) (Nat.le_refl 0) (Nat.le_refl 0) d_BM_isTold_13 h ?_
  rintro _ _ s3 ⟨r4, rfl, rfl, h⟩ -
  show Ax g m_BM_isTold 0 0 (ZI g Q) SH s3 0 0 16 [(0, .ref (gB g + 151)), (1, .int x1), (2, .int x2)] [.int r4]
  refine a_istore_n (pc := 16) (lv' := [(3, .int r4), (0, .ref (gB g + 151)), (1, .int x1), (2, .int x2)]) rfl (Nat.le_of_ble_eq_true rfl) rfl d_BM_isTold_16 ?_
  refine a_aload_n (pc := 17) 1 rfl rfl d_BM_isTold_17 ?_
  refine a_getR (pc := 18) fg_BM_134 sx_151 rfl d_BM_isTold_18 ?_
  refine a_iload_n (pc := 21) 2 rfl rfl d_BM_isTold_21 ?_
  refine a_iload_n (pc := 22) 0 rfl rfl d_BM_isTold_22 ?_
  refine a_if_ne (pc := 23) 38 (by decide) d_BM_isTold_23 ⟨fun c0 => ?_, fun c0 => ?_⟩
  · replace h := h.1 c0
    refine a_sub (pc := 38) [2, 3, 0] rfl ?_
    exact h
  · replace h := h.2 c0
    refine a_iload_n (pc := 26) 2 rfl rfl d_BM_isTold_26 ?_
    refine a_iload_n (pc := 27) 3 rfl rfl d_BM_isTold_27 ?_
    refine a_icmp_ge (pc := 28) 42 (by decide) d_BM_isTold_28 ⟨fun c0 => ?_, fun c0 => ?_⟩
    · replace h := h.1 c0
      refine a_sub (pc := 42) [2, 3, 0] rfl ?_
      exact h
    · replace h := h.2 c0
      refine a_iload_n (pc := 31) 2 rfl rfl d_BM_isTold_31 ?_
      refine a_iconst (pc := 32) (2 : Int32) (by decide) d_BM_isTold_32 ?_
      refine a_irem (pc := 33) (by decide) d_BM_isTold_33 ?_
      refine a_iconst (pc := 34) (1 : Int32) (by decide) d_BM_isTold_34 ?_
      refine a_icmp_ne (pc := 35) 42 (by decide) d_BM_isTold_35 ⟨fun c0 => ?_, fun c0 => ?_⟩
      · replace h := h.1 c0
        refine a_sub (pc := 42) [2, 3, 0] rfl ?_
        exact h
      · replace h := h.2 c0
        refine a_sub (pc := 38) [2, 3, 0] rfl ?_
        exact h
theorem sg_BM_isTold_38 {g : Gx} {Q : Int32 → St → Prop} {σ : St} {x1 : Int32} {x2 : Int32} {x3 : Int32} {z0 : Int32}
    (h : vp_in z0 9 ∧ (∀ s1 : St, s1 = sai σ 191 (z0).toNatClampNeg (vp_nar .boolean (1 : Int32)) → (¬ x3 = 0 → Q (1 : Int32) s1) ∧ (x3 = 0 → (¬ x1 = x2 → Q (0 : Int32) s1) ∧ (x1 = x2 → Q (1 : Int32) s1)))) : S_BM_isTold_38 g Q σ x1 x2 x3 z0 := by
  show Ax g m_BM_isTold 0 0 (ZI g Q) SH σ 0 0 38 [(1, .int x1), (2, .int x2), (3, .int x3)] [.int z0, .ref (gB g + 191)]
  refine a_iconst (pc := 38) (1 : Int32) (by decide) d_BM_isTold_38 ?_
  refine a_goto (pc := 39) 43 (by decide) d_BM_isTold_39 ?_
  obtain ⟨hx, h⟩ := h
  refine a_zast (pc := 43) sx_191 hx d_BM_isTold_43 ?_
  refine a_nms (fun s1 hs1 => ?_)
  replace h := h s1 hs1
  refine a_iload_n (pc := 44) 2 rfl rfl d_BM_isTold_44 ?_
  refine a_if_ne (pc := 45) 53 (by decide) d_BM_isTold_45 ⟨fun c0 => ?_, fun c0 => ?_⟩
  · replace h := h.1 c0
    refine a_iconst (pc := 53) (1 : Int32) (by decide) d_BM_isTold_53 ?_
    refine a_goto (pc := 54) 58 (by decide) d_BM_isTold_54 ?_
    exact b_zret (pc := 58) rfl (Or.inr rfl) d_BM_isTold_58 h
  · replace h := h.2 c0
    refine a_iload_n (pc := 48) 0 rfl rfl d_BM_isTold_48 ?_
    refine a_iload_n (pc := 49) 1 rfl rfl d_BM_isTold_49 ?_
    refine a_icmp_ne (pc := 50) 57 (by decide) d_BM_isTold_50 ⟨fun c0 => ?_, fun c0 => ?_⟩
    · replace h := h.1 c0
      refine a_iconst (pc := 57) (0 : Int32) (by decide) d_BM_isTold_57 ?_
      exact b_zret (pc := 58) rfl (Or.inl rfl) d_BM_isTold_58 h
    · replace h := h.2 c0
      refine a_iconst (pc := 53) (1 : Int32) (by decide) d_BM_isTold_53 ?_
      refine a_goto (pc := 54) 58 (by decide) d_BM_isTold_54 ?_
      exact b_zret (pc := 58) rfl (Or.inr rfl) d_BM_isTold_58 h
theorem sg_BM_isTold_42 {g : Gx} {Q : Int32 → St → Prop} {σ : St} {x1 : Int32} {x2 : Int32} {x3 : Int32} {z0 : Int32}
    (h : vp_in z0 9 ∧ (∀ s1 : St, s1 = sai σ 191 (z0).toNatClampNeg (vp_nar .boolean (0 : Int32)) → (¬ x3 = 0 → Q (1 : Int32) s1) ∧ (x3 = 0 → (¬ x1 = x2 → Q (0 : Int32) s1) ∧ (x1 = x2 → Q (1 : Int32) s1)))) : S_BM_isTold_42 g Q σ x1 x2 x3 z0 := by
  show Ax g m_BM_isTold 0 0 (ZI g Q) SH σ 0 0 42 [(1, .int x1), (2, .int x2), (3, .int x3)] [.int z0, .ref (gB g + 191)]
  refine a_iconst (pc := 42) (0 : Int32) (by decide) d_BM_isTold_42 ?_
  obtain ⟨hx, h⟩ := h
  refine a_zast (pc := 43) sx_191 hx d_BM_isTold_43 ?_
  refine a_nms (fun s1 hs1 => ?_)
  replace h := h s1 hs1
  refine a_iload_n (pc := 44) 2 rfl rfl d_BM_isTold_44 ?_
  refine a_if_ne (pc := 45) 53 (by decide) d_BM_isTold_45 ⟨fun c0 => ?_, fun c0 => ?_⟩
  · replace h := h.1 c0
    refine a_iconst (pc := 53) (1 : Int32) (by decide) d_BM_isTold_53 ?_
    refine a_goto (pc := 54) 58 (by decide) d_BM_isTold_54 ?_
    exact b_zret (pc := 58) rfl (Or.inr rfl) d_BM_isTold_58 h
  · replace h := h.2 c0
    refine a_iload_n (pc := 48) 0 rfl rfl d_BM_isTold_48 ?_
    refine a_iload_n (pc := 49) 1 rfl rfl d_BM_isTold_49 ?_
    refine a_icmp_ne (pc := 50) 57 (by decide) d_BM_isTold_50 ⟨fun c0 => ?_, fun c0 => ?_⟩
    · replace h := h.1 c0
      refine a_iconst (pc := 57) (0 : Int32) (by decide) d_BM_isTold_57 ?_
      exact b_zret (pc := 58) rfl (Or.inl rfl) d_BM_isTold_58 h
    · replace h := h.2 c0
      refine a_iconst (pc := 53) (1 : Int32) (by decide) d_BM_isTold_53 ?_
      refine a_goto (pc := 54) 58 (by decide) d_BM_isTold_54 ?_
      exact b_zret (pc := 58) rfl (Or.inr rfl) d_BM_isTold_58 h
theorem ko_BM_isTold {g : Gx}  {x1 : Int32} {x2 : Int32} {σ : St} {Q : Int32 → St → Prop} (h : S_BM_isTold_0 g Q σ x1 x2) : K_BM_isTold g x1 x2 σ Q := KI.of (show plainName "BallBoxModel" = true by decide) (Nat.le_of_ble_eq_true rfl) h
theorem d_BM_isOver_0 : decode c_BM_isOver 0 = .ok (.aload_n 0, 1) := by decide +kernel
theorem d_BM_isOver_1 : decode c_BM_isOver 1 = .ok (.getfield 131, 3) := by decide +kernel
theorem d_BM_isOver_4 : decode c_BM_isOver 4 = .ok (.iload_n 1, 1) := by decide +kernel
theorem d_BM_isOver_5 : decode c_BM_isOver 5 = .ok (.iaload, 1) := by decide +kernel
theorem d_BM_isOver_6 : decode c_BM_isOver 6 = .ok (.iconst 4, 1) := by decide +kernel
theorem d_BM_isOver_7 : decode c_BM_isOver 7 = .ok (.if_icmp .eq 32, 3) := by decide +kernel
theorem d_BM_isOver_10 : decode c_BM_isOver 10 = .ok (.aload_n 0, 1) := by decide +kernel
theorem d_BM_isOver_11 : decode c_BM_isOver 11 = .ok (.getfield 134, 3) := by decide +kernel
theorem d_BM_isOver_14 : decode c_BM_isOver 14 = .ok (.iload_n 1, 1) := by decide +kernel
theorem d_BM_isOver_15 : decode c_BM_isOver 15 = .ok (.baload, 1) := by decide +kernel
theorem d_BM_isOver_16 : decode c_BM_isOver 16 = .ok (.iload_n 1, 1) := by decide +kernel
theorem d_BM_isOver_17 : decode c_BM_isOver 17 = .ok (.iconst 2, 1) := by decide +kernel
theorem d_BM_isOver_18 : decode c_BM_isOver 18 = .ok (.irem, 1) := by decide +kernel
theorem d_BM_isOver_19 : decode c_BM_isOver 19 = .ok (.ifCond .ne 7, 3) := by decide +kernel
theorem d_BM_isOver_22 : decode c_BM_isOver 22 = .ok (.iconst 1, 1) := by decide +kernel
theorem d_BM_isOver_23 : decode c_BM_isOver 23 = .ok (.goto 4, 3) := by decide +kernel
theorem d_BM_isOver_26 : decode c_BM_isOver 26 = .ok (.iconst 0, 1) := by decide +kernel
theorem d_BM_isOver_27 : decode c_BM_isOver 27 = .ok (.if_icmp .ne 16, 3) := by decide +kernel
theorem d_BM_isOver_30 : decode c_BM_isOver 30 = .ok (.aload_n 0, 1) := by decide +kernel
theorem d_BM_isOver_31 : decode c_BM_isOver 31 = .ok (.getfield 131, 3) := by decide +kernel
theorem d_BM_isOver_34 : decode c_BM_isOver 34 = .ok (.iload_n 1, 1) := by decide +kernel
theorem d_BM_isOver_35 : decode c_BM_isOver 35 = .ok (.iaload, 1) := by decide +kernel
theorem d_BM_isOver_36 : decode c_BM_isOver 36 = .ok (.ifCond .le 7, 3) := by decide +kernel
theorem d_BM_isOver_39 : decode c_BM_isOver 39 = .ok (.iconst 1, 1) := by decide +kernel
theorem d_BM_isOver_40 : decode c_BM_isOver 40 = .ok (.goto 4, 3) := by decide +kernel
theorem d_BM_isOver_43 : decode c_BM_isOver 43 = .ok (.iconst 0, 1) := by decide +kernel
theorem d_BM_isOver_44 : decode c_BM_isOver 44 = .ok (.ireturn, 1) := by decide +kernel
def S_BM_isOver_0 (g : Gx) (Q : Int32 → St → Prop) (σ : St) (x1 : Int32) : Prop := Ax g m_BM_isOver 0 0 (ZI g Q) SH σ 0 0 0 [(0, .ref (gB g + 151)), (1, .int x1)] []
theorem sg_BM_isOver_0 {g : Gx} {Q : Int32 → St → Prop} {σ : St} {x1 : Int32}
    (h : vp_in x1 9 ∧ (((ai σ 190 (x1).toNatClampNeg) = (4 : Int32) → Q (1 : Int32) σ) ∧ (¬ (ai σ 190 (x1).toNatClampNeg) = (4 : Int32) → vp_in x1 9 ∧ ((¬ (x1 - x1 / (2 : Int32) * (2 : Int32)) = 0 → (¬ (ai σ 191 (x1).toNatClampNeg) = (0 : Int32) → Q (0 : Int32) σ) ∧ ((ai σ 191 (x1).toNatClampNeg) = (0 : Int32) → vp_in x1 9 ∧ (((ai σ 190 (x1).toNatClampNeg) ≤ 0 → Q (0 : Int32) σ) ∧ (¬ (ai σ 190 (x1).toNatClampNeg) ≤ 0 → Q (1 : Int32) σ)))) ∧ ((x1 - x1 / (2 : Int32) * (2 : Int32)) = 0 → (¬ (ai σ 191 (x1).toNatClampNeg) = (1 : Int32) → Q (0 : Int32) σ) ∧ ((ai σ 191 (x1).toNatClampNeg) = (1 : Int32) → vp_in x1 9 ∧ (((ai σ 190 (x1).toNatClampNeg) ≤ 0 → Q (0 : Int32) σ) ∧ (¬ (ai σ 190 (x1).toNatClampNeg) ≤ 0 → Q (1 : Int32) σ)))))))) : S_BM_isOver_0 g Q σ x1 := by
  show Ax g m_BM_isOver 0 0 (ZI g Q) SH σ 0 0 0 [(0, .ref (gB g + 151)), (1, .int x1)] []
  refine a_aload_n (pc := 0) 0 rfl rfl d_BM_isOver_0 ?_
  refine a_getR (pc := 1) fg_BM_131 sx_151 rfl d_BM_isOver_1 ?_
  refine a_iload_n (pc := 4) 1 rfl rfl d_BM_isOver_4 ?_
  obtain ⟨hx, h⟩ := h
  refine a_iald (pc := 5) sx_190 hx d_BM_isOver_5 ?_
  refine a_iconst (pc := 6) (4 : Int32) (by decide) d_BM_isOver_6 ?_
  refine a_icmp_eq (pc := 7) 39 (by decide) d_BM_isOver_7 ⟨fun c0 => ?_, fun c0 => ?_⟩
  · replace h := h.1 c0
    refine a_iconst (pc := 39) (1 : Int32) (by decide) d_BM_isOver_39 ?_
    refine a_goto (pc := 40) 44 (by decide) d_BM_isOver_40 ?_
    exact b_zret (pc := 44) rfl (Or.inr rfl) d_BM_isOver_44 h
  · replace h := h.2 c0
    refine a_aload_n (pc := 10) 0 rfl rfl d_BM_isOver_10 ?_
    refine a_getR (pc := 11) fg_BM_134 sx_151 rfl d_BM_isOver_11 ?_
    refine a_iload_n (pc := 14) 1 rfl rfl d_BM_isOver_14 ?_
    obtain ⟨hx, h⟩ := h
    refine a_zald (pc := 15) sx_191 hx d_BM_isOver_15 ?_
    refine a_iload_n (pc := 16) 1 rfl rfl d_BM_isOver_16 ?_
    refine a_iconst (pc := 17) (2 : Int32) (by decide) d_BM_isOver_17 ?_
    refine a_irem (pc := 18) (by decide) d_BM_isOver_18 ?_
    refine a_if_ne (pc := 19) 26 (by decide) d_BM_isOver_19 ⟨fun c0 => ?_, fun c0 => ?_⟩
    · replace h := h.1 c0
      refine a_iconst (pc := 26) (0 : Int32) (by decide) d_BM_isOver_26 ?_
      refine a_icmp_ne (pc := 27) 43 (by decide) d_BM_isOver_27 ⟨fun c0 => ?_, fun c0 => ?_⟩
      · replace h := h.1 c0
        refine a_iconst (pc := 43) (0 : Int32) (by decide) d_BM_isOver_43 ?_
        exact b_zret (pc := 44) rfl (Or.inl rfl) d_BM_isOver_44 h
      · replace h := h.2 c0
        refine a_aload_n (pc := 30) 0 rfl rfl d_BM_isOver_30 ?_
        refine a_getR (pc := 31) fg_BM_131 sx_151 rfl d_BM_isOver_31 ?_
        refine a_iload_n (pc := 34) 1 rfl rfl d_BM_isOver_34 ?_
        obtain ⟨hx, h⟩ := h
        refine a_iald (pc := 35) sx_190 hx d_BM_isOver_35 ?_
        refine a_if_le (pc := 36) 43 (by decide) d_BM_isOver_36 ⟨fun c0 => ?_, fun c0 => ?_⟩
        · replace h := h.1 c0
          refine a_iconst (pc := 43) (0 : Int32) (by decide) d_BM_isOver_43 ?_
          exact b_zret (pc := 44) rfl (Or.inl rfl) d_BM_isOver_44 h
        · replace h := h.2 c0
          refine a_iconst (pc := 39) (1 : Int32) (by decide) d_BM_isOver_39 ?_
          refine a_goto (pc := 40) 44 (by decide) d_BM_isOver_40 ?_
          exact b_zret (pc := 44) rfl (Or.inr rfl) d_BM_isOver_44 h
    · replace h := h.2 c0
      refine a_iconst (pc := 22) (1 : Int32) (by decide) d_BM_isOver_22 ?_
      refine a_goto (pc := 23) 27 (by decide) d_BM_isOver_23 ?_
      refine a_icmp_ne (pc := 27) 43 (by decide) d_BM_isOver_27 ⟨fun c0 => ?_, fun c0 => ?_⟩
      · replace h := h.1 c0
        refine a_iconst (pc := 43) (0 : Int32) (by decide) d_BM_isOver_43 ?_
        exact b_zret (pc := 44) rfl (Or.inl rfl) d_BM_isOver_44 h
      · replace h := h.2 c0
        refine a_aload_n (pc := 30) 0 rfl rfl d_BM_isOver_30 ?_
        refine a_getR (pc := 31) fg_BM_131 sx_151 rfl d_BM_isOver_31 ?_
        refine a_iload_n (pc := 34) 1 rfl rfl d_BM_isOver_34 ?_
        obtain ⟨hx, h⟩ := h
        refine a_iald (pc := 35) sx_190 hx d_BM_isOver_35 ?_
        refine a_if_le (pc := 36) 43 (by decide) d_BM_isOver_36 ⟨fun c0 => ?_, fun c0 => ?_⟩
        · replace h := h.1 c0
          refine a_iconst (pc := 43) (0 : Int32) (by decide) d_BM_isOver_43 ?_
          exact b_zret (pc := 44) rfl (Or.inl rfl) d_BM_isOver_44 h
        · replace h := h.2 c0
          refine a_iconst (pc := 39) (1 : Int32) (by decide) d_BM_isOver_39 ?_
          refine a_goto (pc := 40) 44 (by decide) d_BM_isOver_40 ?_
          exact b_zret (pc := 44) rfl (Or.inr rfl) d_BM_isOver_44 h
theorem ko_BM_isOver {g : Gx}  {x1 : Int32} {σ : St} {Q : Int32 → St → Prop} (h : S_BM_isOver_0 g Q σ x1) : K_BM_isOver g x1 σ Q := KI.of (show plainName "BallBoxModel" = true by decide) (Nat.le_of_ble_eq_true rfl) h
theorem d_BM_plays_0 : decode c_BM_plays 0 = .ok (.aload_n 0, 1) := by decide +kernel
theorem d_BM_plays_1 : decode c_BM_plays 1 = .ok (.getfield 16, 3) := by decide +kernel
theorem d_BM_plays_4 : decode c_BM_plays 4 = .ok (.aload_n 0, 1) := by decide +kernel
theorem d_BM_plays_5 : decode c_BM_plays 5 = .ok (.getfield 98, 3) := by decide +kernel
theorem d_BM_plays_8 : decode c_BM_plays 8 = .ok (.invokestatic 333, 3) := by decide +kernel
theorem d_BM_plays_11 : decode c_BM_plays 11 = .ok (.aload_n 0, 1) := by decide +kernel
theorem d_BM_plays_12 : decode c_BM_plays 12 = .ok (.iconst (-1), 1) := by decide +kernel
theorem d_BM_plays_13 : decode c_BM_plays 13 = .ok (.putfield 508, 3) := by decide +kernel
theorem d_BM_plays_16 : decode c_BM_plays 16 = .ok (.iconst 0, 1) := by decide +kernel
theorem d_BM_plays_17 : decode c_BM_plays 17 = .ok (.istore_n 2, 1) := by decide +kernel
theorem d_BM_plays_18 : decode c_BM_plays 18 = .ok (.aload_n 0, 1) := by decide +kernel
theorem d_BM_plays_19 : decode c_BM_plays 19 = .ok (.iconst 0, 1) := by decide +kernel
theorem d_BM_plays_20 : decode c_BM_plays 20 = .ok (.iload_n 1, 1) := by decide +kernel
theorem d_BM_plays_21 : decode c_BM_plays 21 = .ok (.invokevirtual 511, 3) := by decide +kernel
theorem d_BM_plays_24 : decode c_BM_plays 24 = .ok (.istore_n 3, 1) := by decide +kernel
theorem d_BM_plays_25 : decode c_BM_plays 25 = .ok (.iload_n 2, 1) := by decide +kernel
theorem d_BM_plays_26 : decode c_BM_plays 26 = .ok (.ifCond .gt 15, 3) := by decide +kernel
theorem d_BM_plays_29 : decode c_BM_plays 29 = .ok (.iload_n 3, 1) := by decide +kernel
theorem d_BM_plays_30 : decode c_BM_plays 30 = .ok (.ifCond .ne 164, 3) := by decide +kernel
theorem d_BM_plays_33 : decode c_BM_plays 33 = .ok (.aload_n 0, 1) := by decide +kernel
theorem d_BM_plays_34 : decode c_BM_plays 34 = .ok (.iconst 0, 1) := by decide +kernel
theorem d_BM_plays_35 : decode c_BM_plays 35 = .ok (.invokevirtual 514, 3) := by decide +kernel
theorem d_BM_plays_38 : decode c_BM_plays 38 = .ok (.ifCond .ne 156, 3) := by decide +kernel
theorem d_BM_plays_41 : decode c_BM_plays 41 = .ok (.iload_n 3, 1) := by decide +kernel
theorem d_BM_plays_42 : decode c_BM_plays 42 = .ok (.ifCond .ne 11, 3) := by decide +kernel
theorem d_BM_plays_45 : decode c_BM_plays 45 = .ok (.aload_n 0, 1) := by decide +kernel
theorem d_BM_plays_46 : decode c_BM_plays 46 = .ok (.iload_n 2, 1) := by decide +kernel
theorem d_BM_plays_47 : decode c_BM_plays 47 = .ok (.invokevirtual 514, 3) := by decide +kernel
theorem d_BM_plays_50 : decode c_BM_plays 50 = .ok (.ifCond .eq 116, 3) := by decide +kernel
theorem d_BM_plays_53 : decode c_BM_plays 53 = .ok (.aload_n 0, 1) := by decide +kernel
theorem d_BM_plays_54 : decode c_BM_plays 54 = .ok (.getfield 134, 3) := by decide +kernel
theorem d_BM_plays_57 : decode c_BM_plays 57 = .ok (.iload_n 2, 1) := by decide +kernel
theorem d_BM_plays_58 : decode c_BM_plays 58 = .ok (.baload, 1) := by decide +kernel
theorem d_BM_plays_59 : decode c_BM_plays 59 = .ok (.istore 4, 2) := by decide +kernel
theorem d_BM_plays_61 : decode c_BM_plays 61 = .ok (.iinc 2 (-1), 3) := by decide +kernel
theorem d_BM_plays_64 : decode c_BM_plays 64 = .ok (.aload_n 0, 1) := by decide +kernel
theorem d_BM_plays_65 : decode c_BM_plays 65 = .ok (.getfield 134, 3) := by decide +kernel
theorem d_BM_plays_68 : decode c_BM_plays 68 = .ok (.iload_n 2, 1) := by decide +kernel
theorem d_BM_plays_69 : decode c_BM_plays 69 = .ok (.iload_n 2, 1) := by decide +kernel
theorem d_BM_plays_70 : decode c_BM_plays 70 = .ok (.iconst 2, 1) := by decide +kernel
theorem d_BM_plays_71 : decode c_BM_plays 71 = .ok (.irem, 1) := by decide +kernel
theorem d_BM_plays_72 : decode c_BM_plays 72 = .ok (.ifCond .ne 25, 3) := by decide +kernel
theorem d_BM_plays_75 : decode c_BM_plays 75 = .ok (.aload_n 0, 1) := by decide +kernel
theorem d_BM_plays_76 : decode c_BM_plays 76 = .ok (.getfield 134, 3) := by decide +kernel
theorem d_BM_plays_79 : decode c_BM_plays 79 = .ok (.iload_n 2, 1) := by decide +kernel
theorem d_BM_plays_80 : decode c_BM_plays 80 = .ok (.baload, 1) := by decide +kernel
theorem d_BM_plays_81 : decode c_BM_plays 81 = .ok (.ifCond .ne 8, 3) := by decide +kernel
theorem d_BM_plays_84 : decode c_BM_plays 84 = .ok (.iload 4, 2) := by decide +kernel
theorem d_BM_plays_86 : decode c_BM_plays 86 = .ok (.ifCond .eq 7, 3) := by decide +kernel
theorem d_BM_plays_89 : decode c_BM_plays 89 = .ok (.iconst 1, 1) := by decide +kernel
theorem d_BM_plays_90 : decode c_BM_plays 90 = .ok (.goto 26, 3) := by decide +kernel
theorem d_BM_plays_93 : decode c_BM_plays 93 = .ok (.iconst 0, 1) := by decide +kernel
theorem d_BM_plays_94 : decode c_BM_plays 94 = .ok (.goto 22, 3) := by decide +kernel
theorem d_BM_plays_97 : decode c_BM_plays 97 = .ok (.aload_n 0, 1) := by decide +kernel
theorem d_BM_plays_98 : decode c_BM_plays 98 = .ok (.getfield 134, 3) := by decide +kernel
theorem d_BM_plays_101 : decode c_BM_plays 101 = .ok (.iload_n 2, 1) := by decide +kernel
theorem d_BM_plays_102 : decode c_BM_plays 102 = .ok (.baload, 1) := by decide +kernel
theorem d_BM_plays_103 : decode c_BM_plays 103 = .ok (.ifCond .eq 12, 3) := by decide +kernel
theorem d_BM_plays_106 : decode c_BM_plays 106 = .ok (.iload 4, 2) := by decide +kernel
theorem d_BM_plays_108 : decode c_BM_plays 108 = .ok (.ifCond .eq 7, 3) := by decide +kernel
theorem d_BM_plays_111 : decode c_BM_plays 111 = .ok (.iconst 1, 1) := by decide +kernel
theorem d_BM_plays_112 : decode c_BM_plays 112 = .ok (.goto 4, 3) := by decide +kernel
theorem d_BM_plays_115 : decode c_BM_plays 115 = .ok (.iconst 0, 1) := by decide +kernel
theorem d_BM_plays_116 : decode c_BM_plays 116 = .ok (.bastore, 1) := by decide +kernel
theorem d_BM_plays_117 : decode c_BM_plays 117 = .ok (.aload_n 0, 1) := by decide +kernel
theorem d_BM_plays_118 : decode c_BM_plays 118 = .ok (.iload_n 2, 1) := by decide +kernel
theorem d_BM_plays_119 : decode c_BM_plays 119 = .ok (.ifCond .ne 25, 3) := by decide +kernel
theorem d_BM_plays_122 : decode c_BM_plays 122 = .ok (.iload 4, 2) := by decide +kernel
theorem d_BM_plays_124 : decode c_BM_plays 124 = .ok (.ifCond .eq 20, 3) := by decide +kernel
theorem d_BM_plays_127 : decode c_BM_plays 127 = .ok (.aload_n 0, 1) := by decide +kernel
theorem d_BM_plays_128 : decode c_BM_plays 128 = .ok (.getfield 508, 3) := by decide +kernel
theorem d_BM_plays_131 : decode c_BM_plays 131 = .ok (.iconst (-1), 1) := by decide +kernel
theorem d_BM_plays_132 : decode c_BM_plays 132 = .ok (.if_icmp .ne 12, 3) := by decide +kernel
theorem d_BM_plays_135 : decode c_BM_plays 135 = .ok (.aload_n 0, 1) := by decide +kernel
theorem d_BM_plays_136 : decode c_BM_plays 136 = .ok (.getfield 131, 3) := by decide +kernel
theorem d_BM_plays_139 : decode c_BM_plays 139 = .ok (.iconst 0, 1) := by decide +kernel
theorem d_BM_plays_140 : decode c_BM_plays 140 = .ok (.iaload, 1) := by decide +kernel
theorem d_BM_plays_141 : decode c_BM_plays 141 = .ok (.goto 7, 3) := by decide +kernel
theorem d_BM_plays_144 : decode c_BM_plays 144 = .ok (.aload_n 0, 1) := by decide +kernel
theorem d_BM_plays_145 : decode c_BM_plays 145 = .ok (.getfield 508, 3) := by decide +kernel
theorem d_BM_plays_148 : decode c_BM_plays 148 = .ok (.putfield 508, 3) := by decide +kernel
theorem d_BM_plays_151 : decode c_BM_plays 151 = .ok (.aload_n 0, 1) := by decide +kernel
theorem d_BM_plays_152 : decode c_BM_plays 152 = .ok (.getfield 131, 3) := by decide +kernel
theorem d_BM_plays_155 : decode c_BM_plays 155 = .ok (.iload_n 2, 1) := by decide +kernel
theorem d_BM_plays_156 : decode c_BM_plays 156 = .ok (.dup2, 1) := by decide +kernel
theorem d_BM_plays_157 : decode c_BM_plays 157 = .ok (.iaload, 1) := by decide +kernel
theorem d_BM_plays_158 : decode c_BM_plays 158 = .ok (.iconst 1, 1) := by decide +kernel
theorem d_BM_plays_159 : decode c_BM_plays 159 = .ok (.iadd, 1) := by decide +kernel
theorem d_BM_plays_160 : decode c_BM_plays 160 = .ok (.iastore, 1) := by decide +kernel
theorem d_BM_plays_161 : decode c_BM_plays 161 = .ok (.iconst 0, 1) := by decide +kernel
theorem d_BM_plays_162 : decode c_BM_plays 162 = .ok (.istore_n 3, 1) := by decide +kernel
theorem d_BM_plays_163 : decode c_BM_plays 163 = .ok (.goto (-138), 3) := by decide +kernel
theorem d_BM_plays_166 : decode c_BM_plays 166 = .ok (.aload_n 0, 1) := by decide +kernel
theorem d_BM_plays_167 : decode c_BM_plays 167 = .ok (.iload_n 2, 1) := by decide +kernel
theorem d_BM_plays_168 : decode c_BM_plays 168 = .ok (.invokevirtual 517, 3) := by decide +kernel
theorem d_BM_plays_171 : decode c_BM_plays 171 = .ok (.aload_n 0, 1) := by decide +kernel
theorem d_BM_plays_172 : decode c_BM_plays 172 = .ok (.aload_n 0, 1) := by decide +kernel
theorem d_BM_plays_173 : decode c_BM_plays 173 = .ok (.getfield 131, 3) := by decide +kernel
theorem d_BM_plays_176 : decode c_BM_plays 176 = .ok (.iload_n 2, 1) := by decide +kernel
theorem d_BM_plays_177 : decode c_BM_plays 177 = .ok (.iaload, 1) := by decide +kernel
theorem d_BM_plays_178 : decode c_BM_plays 178 = .ok (.invokevirtual 396, 3) := by decide +kernel
theorem d_BM_plays_181 : decode c_BM_plays 181 = .ok (.iinc 2 1, 3) := by decide +kernel
theorem d_BM_plays_184 : decode c_BM_plays 184 = .ok (.aload_n 0, 1) := by decide +kernel
theorem d_BM_plays_185 : decode c_BM_plays 185 = .ok (.iload_n 2, 1) := by decide +kernel
theorem d_BM_plays_186 : decode c_BM_plays 186 = .ok (.iload_n 1, 1) := by decide +kernel
theorem d_BM_plays_187 : decode c_BM_plays 187 = .ok (.invokevirtual 511, 3) := by decide +kernel
theorem d_BM_plays_190 : decode c_BM_plays 190 = .ok (.istore_n 3, 1) := by decide +kernel
theorem d_BM_plays_191 : decode c_BM_plays 191 = .ok (.goto (-166), 3) := by decide +kernel
theorem d_BM_plays_194 : decode c_BM_plays 194 = .ok (.aload_n 0, 1) := by decide +kernel
theorem d_BM_plays_195 : decode c_BM_plays 195 = .ok (.getfield 98, 3) := by decide +kernel
theorem d_BM_plays_198 : decode c_BM_plays 198 = .ok (.aload_n 0, 1) := by decide +kernel
theorem d_BM_plays_199 : decode c_BM_plays 199 = .ok (.getfield 16, 3) := by decide +kernel
theorem d_BM_plays_202 : decode c_BM_plays 202 = .ok (.invokestatic 333, 3) := by decide +kernel
theorem d_BM_plays_205 : decode c_BM_plays 205 = .ok (.aload_n 0, 1) := by decide +kernel
theorem d_BM_plays_206 : decode c_BM_plays 206 = .ok (.getfield 134, 3) := by decide +kernel
theorem d_BM_plays_209 : decode c_BM_plays 209 = .ok (.iconst 0, 1) := by decide +kernel
theorem d_BM_plays_210 : decode c_BM_plays 210 = .ok (.baload, 1) := by decide +kernel
theorem d_BM_plays_211 : decode c_BM_plays 211 = .ok (.ireturn, 1) := by decide +kernel
def S_BM_plays_0 (g : Gx) (Q : Int32 → St → Prop) (σ : St) (x1 : Int32) : Prop := Ax g m_BM_plays 0 0 (ZI g Q) SH σ 0 0 0 [(0, .ref (gB g + 151)), (1, .int x1)] []
def S_BM_plays_25 (g : Gx) (Q : Int32 → St → Prop) (σ : St) (x1 : Int32) (x2 : Int32) (x3 : Int32) : Prop := Ax g m_BM_plays 0 0 (ZI g Q) SH σ 0 0 25 [(0, .ref (gB g + 151)), (1, .int x1), (2, .int x2), (3, .int x3)] []
def S_BM_plays_41 (g : Gx) (Q : Int32 → St → Prop) (σ : St) (x1 : Int32) (x2 : Int32) (x3 : Int32) : Prop := Ax g m_BM_plays 0 0 (ZI g Q) SH σ 0 0 41 [(0, .ref (gB g + 151)), (1, .int x1), (2, .int x2), (3, .int x3)] []
def S_BM_plays_53 (g : Gx) (Q : Int32 → St → Prop) (σ : St) (x1 : Int32) (x2 : Int32) : Prop := Ax g m_BM_plays 0 0 (ZI g Q) SH σ 0 0 53 [(0, .ref (gB g + 151)), (1, .int x1), (2, .int x2)] []
def S_BM_plays_116 (g : Gx) (Q : Int32 → St → Prop) (σ : St) (x1 : Int32) (x2 : Int32) (x4 : Int32) (z0 : Int32) (z1 : Int32) : Prop := Ax g m_BM_plays 0 0 (ZI g Q) SH σ 0 0 116 [(0, .ref (gB g + 151)), (1, .int x1), (2, .int x2), (4, .int x4)] [.int z0, .int z1, .ref (gB g + 191)]
def S_BM_plays_144 (g : Gx) (Q : Int32 → St → Prop) (σ : St) (x1 : Int32) (x2 : Int32) : Prop := Ax g m_BM_plays 0 0 (ZI g Q) SH σ 0 0 144 [(0, .ref (gB g + 151)), (1, .int x1), (2, .int x2)] [.ref (gB g + 151)]
theorem sg_BM_plays_0 {g : Gx} {Q : Int32 → St → Prop} {σ : St} {x1 : Int32}
    (h : K_BM_lay g 154 179 σ (fun s1 : St => ∀ s2 : St, s2 = sfi s1 151 65 (-1 : Int32) → K_BM_isTold g (0 : Int32) x1 s2 (fun (r4 : Int32) (s3 : St) => S_BM_plays_25 g Q s3 x1 (0 : Int32) r4))) : S_BM_plays_0 g Q σ x1 := by
  show Ax g m_BM_plays 0 0 (ZI g Q) SH σ 0 0 0 [(0, .ref (gB g + 151)), (1, .int x1)] []
  refine a_aload_n (pc := 0) 0 rfl rfl d_BM_plays_0 ?_
  refine a_getR (pc := 1) fg_BM_16 sx_151 rfl d_BM_plays_1 ?_
  refine a_aload_n (pc := 4) 0 rfl rfl d_BM_plays_4 ?_
  refine a_getR (pc := 5) fg_BM_98 sx_151 rfl d_BM_plays_5 ?_
  refine a_callS (pc := 8) (M' := m_BM_lay) (As := [.ref (gB g + 154), .ref (gB g + 179)]) (st := []) (mc' := 0) (ms' := 0) lk_BM_333 rfl (by decide) (by decide) rfl (Nat.le_of_ble_eq_true rfl) (Nat.le_refl 0) (Nat.le_refl 0) d_BM_plays_8 h ?_
  rintro _ _ s1 ⟨rfl, rfl, h⟩ -
  show Ax g m_BM_plays 0 0 (ZI g Q) SH s1 0 0 11 [(0, .ref (gB g + 151)), (1, .int x1)] []
  refine a_aload_n (pc := 11) 0 rfl rfl d_BM_plays_11 ?_
  refine a_iconst (pc := 12) (-1 : Int32) (by decide) d_BM_plays_12 ?_
  refine a_putI (pc := 13) fp_BM_508 sx_151 rfl d_BM_plays_13 ?_
  refine a_nms (fun s2 hs2 => ?_)
  replace h := h s2 hs2
  refine a_iconst (pc := 16) (0 : Int32) (by decide) d_BM_plays_16 ?_
  refine a_istore_n (pc := 17) (lv' := [(2, .int (0 : Int32)), (0, .ref (gB g + 151)), (1, .int x1)]) rfl (Nat.le_of_ble_eq_true rfl) rfl d_BM_plays_17 ?_
  refine a_aload_n (pc := 18) 1 rfl rfl d_BM_plays_18 ?_
  refine a_iconst (pc := 19) (0 : Int32) (by decide) d_BM_plays_19 ?_
  refine a_iload_n (pc := 20) 2 rfl rfl d_BM_plays_20 ?_
  refine a_callV (pc := 21) (M' := m_BM_isTold) (As := [.int (0 : Int32), .int x1]) (st := []) (mc' := 0) (ms' := 0) lk_BM_511 rfl sx_151 rfl (by decide) (by decide) rfl (Nat.le_of_ble_eq_true rfl) (Nat.le_refl 0) (Nat.le_refl 0) d_BM_plays_21 h ?_
  rintro _ _ s3 ⟨r4, rfl, rfl, h⟩ -
  show Ax g m_BM_plays 0 0 (ZI g Q) SH s3 0 0 24 [(2, .int (0 : Int32)), (0, .ref (gB g + 151)), (1, .int x1)] [.int r4]
  refine a_istore_n (pc := 24) (lv' := [(3, .int r4), (2, .int (0 : Int32)), (0, .ref (gB g + 151)), (1, .int x1)]) rfl (Nat.le_of_ble_eq_true rfl) rfl d_BM_plays_24 ?_
  refine a_sub (pc := 25) [2, 3, 1, 0] rfl ?_
  exact h
theorem sg_BM_plays_25 {g : Gx} {Q : Int32 → St → Prop} {σ : St} {x1 : Int32} {x2 : Int32} {x3 : Int32}
    (h : (0 < x2 → S_BM_plays_41 g Q σ x1 x2 x3) ∧ (¬ 0 < x2 → (¬ x3 = 0 → K_BM_lay g 179 154 σ (fun s1 : St => vp_in (0 : Int32) 9 ∧ (((ai s1 191 ((0 : Int32)).toNatClampNeg) = 0 ∨ (ai s1 191 ((0 : Int32)).toNatClampNeg) = 1) ∧ Q (ai s1 191 ((0 : Int32)).toNatClampNeg) s1))) ∧ (x3 = 0 → K_BM_isOver g (0 : Int32) σ (fun (r3 : Int32) (s2 : St) => (¬ r3 = 0 → K_BM_lay g 179 154 s2 (fun s4 : St => vp_in (0 : Int32) 9 ∧ (((ai s4 191 ((0 : Int32)).toNatClampNeg) = 0 ∨ (ai s4 191 ((0 : Int32)).toNatClampNeg) = 1) ∧ Q (ai s4 191 ((0 : Int32)).toNatClampNeg) s4))) ∧ (r3 = 0 → S_BM_plays_41 g Q s2 x1 x2 x3))))) : S_BM_plays_25 g Q σ x1 x2 x3 := by
  show Ax g m_BM_plays 0 0 (ZI g Q) SH σ 0 0 25 [(0, .ref (gB g + 151)), (1, .int x1), (2, .int x2), (3, .int x3)] []
  refine a_iload_n (pc := 25) 2 rfl rfl d_BM_plays_25 ?_
  refine a_if_gt (pc := 26) 41 (by decide) d_BM_plays_26 ⟨fun c0 => ?_, fun c0 => ?_⟩
  · replace h := h.1 c0
    refine a_sub (pc := 41) [0, 1, 2, 3] rfl ?_
    exact h
  · replace h := h.2 c0
    refine a_iload_n (pc := 29) 3 rfl rfl d_BM_plays_29 ?_
    refine a_if_ne (pc := 30) 194 (by decide) d_BM_plays_30 ⟨fun c0 => ?_, fun c0 => ?_⟩
    · replace h := h.1 c0
      refine a_aload_n (pc := 194) 0 rfl rfl d_BM_plays_194 ?_
      refine a_getR (pc := 195) fg_BM_98 sx_151 rfl d_BM_plays_195 ?_
      refine a_aload_n (pc := 198) 0 rfl rfl d_BM_plays_198 ?_
      refine a_getR (pc := 199) fg_BM_16 sx_151 rfl d_BM_plays_199 ?_
      refine a_callS (pc := 202) (M' := m_BM_lay) (As := [.ref (gB g + 179), .ref (gB g + 154)]) (st := []) (mc' := 0) (ms' := 0) lk_BM_333 rfl (by decide) (by decide) rfl (Nat.le_of_ble_eq_true rfl) (Nat.le_refl 0) (Nat.le_refl 0) d_BM_plays_202 h ?_
      rintro _ _ s1 ⟨rfl, rfl, h⟩ -
      show Ax g m_BM_plays 0 0 (ZI g Q) SH s1 0 0 205 [(0, .ref (gB g + 151)), (1, .int x1), (2, .int x2), (3, .int x3)] []
      refine a_aload_n (pc := 205) 0 rfl rfl d_BM_plays_205 ?_
      refine a_getR (pc := 206) fg_BM_134 sx_151 rfl d_BM_plays_206 ?_
      refine a_iconst (pc := 209) (0 : Int32) (by decide) d_BM_plays_209 ?_
      obtain ⟨hx, h⟩ := h
      refine a_zald (pc := 210) sx_191 hx d_BM_plays_210 ?_
      exact b_zret (pc := 211) rfl h.1 d_BM_plays_211 h.2
    · replace h := h.2 c0
      refine a_aload_n (pc := 33) 0 rfl rfl d_BM_plays_33 ?_
      refine a_iconst (pc := 34) (0 : Int32) (by decide) d_BM_plays_34 ?_
      refine a_callV (pc := 35) (M' := m_BM_isOver) (As := [.int (0 : Int32)]) (st := []) (mc' := 0) (ms' := 0) lk_BM_514 rfl sx_151 rfl (by decide) (by decide) rfl (Nat.le_of_ble_eq_true rfl) (Nat.le_refl 0) (Nat.le_refl 0) d_BM_plays_35 h ?_
      rintro _ _ s2 ⟨r3, rfl, rfl, h⟩ -
      show Ax g m_BM_plays 0 0 (ZI g Q) SH s2 0 0 38 [(0, .ref (gB g + 151)), (1, .int x1), (2, .int x2), (3, .int x3)] [.int r3]
      refine a_if_ne (pc := 38) 194 (by decide) d_BM_plays_38 ⟨fun c0 => ?_, fun c0 => ?_⟩
      · replace h := h.1 c0
        refine a_aload_n (pc := 194) 0 rfl rfl d_BM_plays_194 ?_
        refine a_getR (pc := 195) fg_BM_98 sx_151 rfl d_BM_plays_195 ?_
        refine a_aload_n (pc := 198) 0 rfl rfl d_BM_plays_198 ?_
        refine a_getR (pc := 199) fg_BM_16 sx_151 rfl d_BM_plays_199 ?_
        refine a_callS (pc := 202) (M' := m_BM_lay) (As := [.ref (gB g + 179), .ref (gB g + 154)]) (st := []) (mc' := 0) (ms' := 0) lk_BM_333 rfl (by decide) (by decide) rfl (Nat.le_of_ble_eq_true rfl) (Nat.le_refl 0) (Nat.le_refl 0) d_BM_plays_202 h ?_
        rintro _ _ s4 ⟨rfl, rfl, h⟩ -
        show Ax g m_BM_plays 0 0 (ZI g Q) SH s4 0 0 205 [(0, .ref (gB g + 151)), (1, .int x1), (2, .int x2), (3, .int x3)] []
        refine a_aload_n (pc := 205) 0 rfl rfl d_BM_plays_205 ?_
        refine a_getR (pc := 206) fg_BM_134 sx_151 rfl d_BM_plays_206 ?_
        refine a_iconst (pc := 209) (0 : Int32) (by decide) d_BM_plays_209 ?_
        obtain ⟨hx, h⟩ := h
        refine a_zald (pc := 210) sx_191 hx d_BM_plays_210 ?_
        exact b_zret (pc := 211) rfl h.1 d_BM_plays_211 h.2
      · replace h := h.2 c0
        refine a_sub (pc := 41) [0, 1, 2, 3] rfl ?_
        exact h
theorem sg_BM_plays_41 {g : Gx} {Q : Int32 → St → Prop} {σ : St} {x1 : Int32} {x2 : Int32} {x3 : Int32}
    (h : (¬ x3 = 0 → S_BM_plays_53 g Q σ x1 x2) ∧ (x3 = 0 → K_BM_isOver g x2 σ (fun (r2 : Int32) (s1 : St) => (r2 = 0 → K_BM_laysLevel g x2 s1 (fun s3 : St => vp_in x2 9 ∧ (K_BM_tips g (ai s3 190 (x2).toNatClampNeg) s3 (fun s4 : St => ∀ u5 : Int32, u5 = x2 + (1 : Int32) → K_BM_isTold g u5 x1 s4 (fun (r7 : Int32) (s6 : St) => S_BM_plays_25 g Q s6 x1 u5 r7))))) ∧ (¬ r2 = 0 → S_BM_plays_53 g Q s1 x1 x2)))) : S_BM_plays_41 g Q σ x1 x2 x3 := by
  show Ax g m_BM_plays 0 0 (ZI g Q) SH σ 0 0 41 [(0, .ref (gB g + 151)), (1, .int x1), (2, .int x2), (3, .int x3)] []
  refine a_iload_n (pc := 41) 3 rfl rfl d_BM_plays_41 ?_
  refine a_if_ne (pc := 42) 53 (by decide) d_BM_plays_42 ⟨fun c0 => ?_, fun c0 => ?_⟩
  · replace h := h.1 c0
    refine a_sub (pc := 53) [0, 1, 2] rfl ?_
    exact h
  · replace h := h.2 c0
    refine a_aload_n (pc := 45) 0 rfl rfl d_BM_plays_45 ?_
    refine a_iload_n (pc := 46) 2 rfl rfl d_BM_plays_46 ?_
    refine a_callV (pc := 47) (M' := m_BM_isOver) (As := [.int x2]) (st := []) (mc' := 0) (ms' := 0) lk_BM_514 rfl sx_151 rfl (by decide) (by decide) rfl (Nat.le_of_ble_eq_true rfl) (Nat.le_refl 0) (Nat.le_refl 0) d_BM_plays_47 h ?_
    rintro _ _ s1 ⟨r2, rfl, rfl, h⟩ -
    show Ax g m_BM_plays 0 0 (ZI g Q) SH s1 0 0 50 [(0, .ref (gB g + 151)), (1, .int x1), (2, .int x2), (3, .int x3)] [.int r2]
    refine a_if_eq (pc := 50) 166 (by decide) d_BM_plays_50 ⟨fun c0 => ?_, fun c0 => ?_⟩
    · replace h := h.1 c0
      refine a_aload_n (pc := 166) 0 rfl rfl d_BM_plays_166 ?_
      refine a_iload_n (pc := 167) 2 rfl rfl d_BM_plays_167 ?_
      refine a_callV (pc := 168) (M' := m_BM_laysLevel) (As := [.int x2]) (st := []) (mc' := 0) (ms' := 0) lk_BM_517 rfl sx_151 rfl (by decide) (by decide) rfl (Nat.le_of_ble_eq_true rfl) (Nat.le_refl 0) (Nat.le_refl 0) d_BM_plays_168 h ?_
      rintro _ _ s3 ⟨rfl, rfl, h⟩ -
      show Ax g m_BM_plays 0 0 (ZI g Q) SH s3 0 0 171 [(0, .ref (gB g + 151)), (1, .int x1), (2, .int x2), (3, .int x3)] []
      refine a_aload_n (pc := 171) 0 rfl rfl d_BM_plays_171 ?_
      refine a_aload_n (pc := 172) 0 rfl rfl d_BM_plays_172 ?_
      refine a_getR (pc := 173) fg_BM_131 sx_151 rfl d_BM_plays_173 ?_
      refine a_iload_n (pc := 176) 2 rfl rfl d_BM_plays_176 ?_
      obtain ⟨hx, h⟩ := h
      refine a_iald (pc := 177) sx_190 hx d_BM_plays_177 ?_
      refine a_callV (pc := 178) (M' := m_BM_tips) (As := [.int (ai s3 190 (x2).toNatClampNeg)]) (st := []) (mc' := 0) (ms' := 0) lk_BM_396 rfl sx_151 rfl (by decide) (by decide) rfl (Nat.le_of_ble_eq_true rfl) (Nat.le_refl 0) (Nat.le_refl 0) d_BM_plays_178 h ?_
      rintro _ _ s4 ⟨rfl, rfl, h⟩ -
      show Ax g m_BM_plays 0 0 (ZI g Q) SH s4 0 0 181 [(0, .ref (gB g + 151)), (1, .int x1), (2, .int x2), (3, .int x3)] []
      obtain ⟨u5, hu5⟩ : ∃ y : Int32, y = x2 + (1 : Int32) := ⟨_, rfl⟩
      replace h := h u5 hu5
      refine a_iinc (pc := 181) (v := u5) (lv' := [(2, .int u5), (0, .ref (gB g + 151)), (1, .int x1), (3, .int x3)]) 2 rfl (by rw [hu5]; rfl) (Nat.le_of_ble_eq_true rfl) rfl d_BM_plays_181 ?_
      refine a_aload_n (pc := 184) 1 rfl rfl d_BM_plays_184 ?_
      refine a_iload_n (pc := 185) 0 rfl rfl d_BM_plays_185 ?_
      refine a_iload_n (pc := 186) 2 rfl rfl d_BM_plays_186 ?_
      refine a_callV (pc := 187) (M' := m_BM_isTold) (As := [.int u5, .int x1]) (st := []) (mc' := 0) (ms' := 0) lk_BM_511 rfl sx_151 rfl (by decide) (by decide) rfl (Nat.le_of_ble_eq_true rfl) (Nat.le_refl 0) (Nat.le_refl 0) d_BM_plays_187 h ?_
      rintro _ _ s6 ⟨r7, rfl, rfl, h⟩ -
      show Ax g m_BM_plays 0 0 (ZI g Q) SH s6 0 0 190 [(2, .int u5), (0, .ref (gB g + 151)), (1, .int x1), (3, .int x3)] [.int r7]
      refine a_istore_n (pc := 190) (lv' := [(3, .int r7), (2, .int u5), (0, .ref (gB g + 151)), (1, .int x1)]) rfl (Nat.le_of_ble_eq_true rfl) rfl d_BM_plays_190 ?_
      refine a_goto (pc := 191) 25 (by decide) d_BM_plays_191 ?_
      refine a_sub (pc := 25) [2, 3, 1, 0] rfl ?_
      exact h
    · replace h := h.2 c0
      refine a_sub (pc := 53) [0, 1, 2] rfl ?_
      exact h
theorem sg_BM_plays_53 {g : Gx} {Q : Int32 → St → Prop} {σ : St} {x1 : Int32} {x2 : Int32}
    (h : vp_in x2 9 ∧ (∀ u1 : Int32, u1 = (ai σ 191 (x2).toNatClampNeg) → ∀ u2 : Int32, u2 = x2 + (-1 : Int32) → (¬ (u2 - u2 / (2 : Int32) * (2 : Int32)) = 0 → vp_in u2 9 ∧ (((ai σ 191 (u2).toNatClampNeg) = 0 → S_BM_plays_116 g Q σ x1 u2 u1 (0 : Int32) u2) ∧ (¬ (ai σ 191 (u2).toNatClampNeg) = 0 → (u1 = 0 → S_BM_plays_116 g Q σ x1 u2 u1 (0 : Int32) u2) ∧ (¬ u1 = 0 → S_BM_plays_116 g Q σ x1 u2 u1 (1 : Int32) u2)))) ∧ ((u2 - u2 / (2 : Int32) * (2 : Int32)) = 0 → vp_in u2 9 ∧ ((¬ (ai σ 191 (u2).toNatClampNeg) = 0 → S_BM_plays_116 g Q σ x1 u2 u1 (1 : Int32) u2) ∧ ((ai σ 191 (u2).toNatClampNeg) = 0 → (u1 = 0 → S_BM_plays_116 g Q σ x1 u2 u1 (0 : Int32) u2) ∧ (¬ u1 = 0 → S_BM_plays_116 g Q σ x1 u2 u1 (1 : Int32) u2)))))) : S_BM_plays_53 g Q σ x1 x2 := by
  show Ax g m_BM_plays 0 0 (ZI g Q) SH σ 0 0 53 [(0, .ref (gB g + 151)), (1, .int x1), (2, .int x2)] []
  refine a_aload_n (pc := 53) 0 rfl rfl d_BM_plays_53 ?_
  refine a_getR (pc := 54) fg_BM_134 sx_151 rfl d_BM_plays_54 ?_
  refine a_iload_n (pc := 57) 2 rfl rfl d_BM_plays_57 ?_
  obtain ⟨hx, h⟩ := h
  refine a_zald (pc := 58) sx_191 hx d_BM_plays_58 ?_
  refine a_nmi (pc := 59) (fun u1 hu1 => ?_)
  replace h := h u1 hu1
  refine a_istore (pc := 59) (lv' := [(4, .int u1), (0, .ref (gB g + 151)), (1, .int x1), (2, .int x2)]) (Nat.le_of_ble_eq_true rfl) rfl d_BM_plays_59 ?_
  obtain ⟨u2, hu2⟩ : ∃ y : Int32, y = x2 + (-1 : Int32) := ⟨_, rfl⟩
  replace h := h u2 hu2
  refine a_iinc (pc := 61) (v := u2) (lv' := [(2, .int u2), (4, .int u1), (0, .ref (gB g + 151)), (1, .int x1)]) 3 rfl (by rw [hu2]; rfl) (Nat.le_of_ble_eq_true rfl) rfl d_BM_plays_61 ?_
  refine a_aload_n (pc := 64) 2 rfl rfl d_BM_plays_64 ?_
  refine a_getR (pc := 65) fg_BM_134 sx_151 rfl d_BM_plays_65 ?_
  refine a_iload_n (pc := 68) 0 rfl rfl d_BM_plays_68 ?_
  refine a_iload_n (pc := 69) 0 rfl rfl d_BM_plays_69 ?_
  refine a_iconst (pc := 70) (2 : Int32) (by decide) d_BM_plays_70 ?_
  refine a_irem (pc := 71) (by decide) d_BM_plays_71 ?_
  refine a_if_ne (pc := 72) 97 (by decide) d_BM_plays_72 ⟨fun c0 => ?_, fun c0 => ?_⟩
  · replace h := h.1 c0
    refine a_aload_n (pc := 97) 2 rfl rfl d_BM_plays_97 ?_
    refine a_getR (pc := 98) fg_BM_134 sx_151 rfl d_BM_plays_98 ?_
    refine a_iload_n (pc := 101) 0 rfl rfl d_BM_plays_101 ?_
    obtain ⟨hx, h⟩ := h
    refine a_zald (pc := 102) sx_191 hx d_BM_plays_102 ?_
    refine a_if_eq (pc := 103) 115 (by decide) d_BM_plays_103 ⟨fun c0 => ?_, fun c0 => ?_⟩
    · replace h := h.1 c0
      refine a_iconst (pc := 115) (0 : Int32) (by decide) d_BM_plays_115 ?_
      refine a_sub (pc := 116) [2, 3, 0, 1] rfl ?_
      exact h
    · replace h := h.2 c0
      refine a_iload (pc := 106) 1 rfl d_BM_plays_106 ?_
      refine a_if_eq (pc := 108) 115 (by decide) d_BM_plays_108 ⟨fun c0 => ?_, fun c0 => ?_⟩
      · replace h := h.1 c0
        refine a_iconst (pc := 115) (0 : Int32) (by decide) d_BM_plays_115 ?_
        refine a_sub (pc := 116) [2, 3, 0, 1] rfl ?_
        exact h
      · replace h := h.2 c0
        refine a_iconst (pc := 111) (1 : Int32) (by decide) d_BM_plays_111 ?_
        refine a_goto (pc := 112) 116 (by decide) d_BM_plays_112 ?_
        refine a_sub (pc := 116) [2, 3, 0, 1] rfl ?_
        exact h
  · replace h := h.2 c0
    refine a_aload_n (pc := 75) 2 rfl rfl d_BM_plays_75 ?_
    refine a_getR (pc := 76) fg_BM_134 sx_151 rfl d_BM_plays_76 ?_
    refine a_iload_n (pc := 79) 0 rfl rfl d_BM_plays_79 ?_
    obtain ⟨hx, h⟩ := h
    refine a_zald (pc := 80) sx_191 hx d_BM_plays_80 ?_
    refine a_if_ne (pc := 81) 89 (by decide) d_BM_plays_81 ⟨fun c0 => ?_, fun c0 => ?_⟩
    · replace h := h.1 c0
      refine a_iconst (pc := 89) (1 : Int32) (by decide) d_BM_plays_89 ?_
      refine a_goto (pc := 90) 116 (by decide) d_BM_plays_90 ?_
      refine a_sub (pc := 116) [2, 3, 0, 1] rfl ?_
      exact h
    · replace h := h.2 c0
      refine a_iload (pc := 84) 1 rfl d_BM_plays_84 ?_
      refine a_if_eq (pc := 86) 93 (by decide) d_BM_plays_86 ⟨fun c0 => ?_, fun c0 => ?_⟩
      · replace h := h.1 c0
        refine a_iconst (pc := 93) (0 : Int32) (by decide) d_BM_plays_93 ?_
        refine a_goto (pc := 94) 116 (by decide) d_BM_plays_94 ?_
        refine a_sub (pc := 116) [2, 3, 0, 1] rfl ?_
        exact h
      · replace h := h.2 c0
        refine a_iconst (pc := 89) (1 : Int32) (by decide) d_BM_plays_89 ?_
        refine a_goto (pc := 90) 116 (by decide) d_BM_plays_90 ?_
        refine a_sub (pc := 116) [2, 3, 0, 1] rfl ?_
        exact h
theorem sg_BM_plays_116 {g : Gx} {Q : Int32 → St → Prop} {σ : St} {x1 : Int32} {x2 : Int32} {x4 : Int32} {z0 : Int32} {z1 : Int32}
    (h : vp_in z1 9 ∧ (∀ s1 : St, s1 = sai σ 191 (z1).toNatClampNeg (vp_nar .boolean z0) → (¬ x2 = 0 → S_BM_plays_144 g Q s1 x1 x2) ∧ (x2 = 0 → (x4 = 0 → S_BM_plays_144 g Q s1 x1 x2) ∧ (¬ x4 = 0 → (¬ (fi s1 151 65) = (-1 : Int32) → S_BM_plays_144 g Q s1 x1 x2) ∧ ((fi s1 151 65) = (-1 : Int32) → vp_in (0 : Int32) 9 ∧ (∀ s2 : St, s2 = sfi s1 151 65 (ai s1 190 ((0 : Int32)).toNatClampNeg) → vp_in x2 9 ∧ (vp_in x2 9 ∧ (∀ s3 : St, s3 = sai s2 190 (x2).toNatClampNeg ((ai s2 190 (x2).toNatClampNeg) + (1 : Int32)) → S_BM_plays_25 g Q s3 x1 x2 (0 : Int32))))))))) : S_BM_plays_116 g Q σ x1 x2 x4 z0 z1 := by
  show Ax g m_BM_plays 0 0 (ZI g Q) SH σ 0 0 116 [(0, .ref (gB g + 151)), (1, .int x1), (2, .int x2), (4, .int x4)] [.int z0, .int z1, .ref (gB g + 191)]
  obtain ⟨hx, h⟩ := h
  refine a_zast (pc := 116) sx_191 hx d_BM_plays_116 ?_
  refine a_nms (fun s1 hs1 => ?_)
  replace h := h s1 hs1
  refine a_aload_n (pc := 117) 0 rfl rfl d_BM_plays_117 ?_
  refine a_iload_n (pc := 118) 2 rfl rfl d_BM_plays_118 ?_
  refine a_if_ne (pc := 119) 144 (by decide) d_BM_plays_119 ⟨fun c0 => ?_, fun c0 => ?_⟩
  · replace h := h.1 c0
    refine a_sub (pc := 144) [0, 1, 2] rfl ?_
    exact h
  · replace h := h.2 c0
    refine a_iload (pc := 122) 3 rfl d_BM_plays_122 ?_
    refine a_if_eq (pc := 124) 144 (by decide) d_BM_plays_124 ⟨fun c0 => ?_, fun c0 => ?_⟩
    · replace h := h.1 c0
      refine a_sub (pc := 144) [0, 1, 2] rfl ?_
      exact h
    · replace h := h.2 c0
      refine a_aload_n (pc := 127) 0 rfl rfl d_BM_plays_127 ?_
      refine a_getI (pc := 128) fg_BM_508 sx_151 rfl d_BM_plays_128 ?_
      refine a_iconst (pc := 131) (-1 : Int32) (by decide) d_BM_plays_131 ?_
      refine a_icmp_ne (pc := 132) 144 (by decide) d_BM_plays_132 ⟨fun c0 => ?_, fun c0 => ?_⟩
      · replace h := h.1 c0
        refine a_sub (pc := 144) [0, 1, 2] rfl ?_
        exact h
      · replace h := h.2 c0
        refine a_aload_n (pc := 135) 0 rfl rfl d_BM_plays_135 ?_
        refine a_getR (pc := 136) fg_BM_131 sx_151 rfl d_BM_plays_136 ?_
        refine a_iconst (pc := 139) (0 : Int32) (by decide) d_BM_plays_139 ?_
        obtain ⟨hx, h⟩ := h
        refine a_iald (pc := 140) sx_190 hx d_BM_plays_140 ?_
        refine a_goto (pc := 141) 148 (by decide) d_BM_plays_141 ?_
        refine a_putI (pc := 148) fp_BM_508 sx_151 rfl d_BM_plays_148 ?_
        refine a_nms (fun s2 hs2 => ?_)
        replace h := h s2 hs2
        refine a_aload_n (pc := 151) 0 rfl rfl d_BM_plays_151 ?_
        refine a_getR (pc := 152) fg_BM_131 sx_151 rfl d_BM_plays_152 ?_
        refine a_iload_n (pc := 155) 2 rfl rfl d_BM_plays_155 ?_
        refine a_dup2_11 (pc := 156) rfl rfl d_BM_plays_156 ?_
        obtain ⟨hx, h⟩ := h
        refine a_iald (pc := 157) sx_190 hx d_BM_plays_157 ?_
        refine a_iconst (pc := 158) (1 : Int32) (by decide) d_BM_plays_158 ?_
        refine a_iadd (pc := 159) d_BM_plays_159 ?_
        obtain ⟨hx, h⟩ := h
        refine a_iast (pc := 160) sx_190 hx d_BM_plays_160 ?_
        refine a_nms (fun s3 hs3 => ?_)
        replace h := h s3 hs3
        refine a_iconst (pc := 161) (0 : Int32) (by decide) d_BM_plays_161 ?_
        refine a_istore_n (pc := 162) (lv' := [(3, .int (0 : Int32)), (0, .ref (gB g + 151)), (1, .int x1), (2, .int x2), (4, .int x4)]) rfl (Nat.le_of_ble_eq_true rfl) rfl d_BM_plays_162 ?_
        refine a_goto (pc := 163) 25 (by decide) d_BM_plays_163 ?_
        refine a_sub (pc := 25) [1, 2, 3, 0] rfl ?_
        exact h
theorem sg_BM_plays_144 {g : Gx} {Q : Int32 → St → Prop} {σ : St} {x1 : Int32} {x2 : Int32}
    (h : ∀ s1 : St, s1 = sfi σ 151 65 (fi σ 151 65) → vp_in x2 9 ∧ (vp_in x2 9 ∧ (∀ s2 : St, s2 = sai s1 190 (x2).toNatClampNeg ((ai s1 190 (x2).toNatClampNeg) + (1 : Int32)) → S_BM_plays_25 g Q s2 x1 x2 (0 : Int32)))) : S_BM_plays_144 g Q σ x1 x2 := by
  show Ax g m_BM_plays 0 0 (ZI g Q) SH σ 0 0 144 [(0, .ref (gB g + 151)), (1, .int x1), (2, .int x2)] [.ref (gB g + 151)]
  refine a_aload_n (pc := 144) 0 rfl rfl d_BM_plays_144 ?_
  refine a_getI (pc := 145) fg_BM_508 sx_151 rfl d_BM_plays_145 ?_
  refine a_putI (pc := 148) fp_BM_508 sx_151 rfl d_BM_plays_148 ?_
  refine a_nms (fun s1 hs1 => ?_)
  replace h := h s1 hs1
  refine a_aload_n (pc := 151) 0 rfl rfl d_BM_plays_151 ?_
  refine a_getR (pc := 152) fg_BM_131 sx_151 rfl d_BM_plays_152 ?_
  refine a_iload_n (pc := 155) 2 rfl rfl d_BM_plays_155 ?_
  refine a_dup2_11 (pc := 156) rfl rfl d_BM_plays_156 ?_
  obtain ⟨hx, h⟩ := h
  refine a_iald (pc := 157) sx_190 hx d_BM_plays_157 ?_
  refine a_iconst (pc := 158) (1 : Int32) (by decide) d_BM_plays_158 ?_
  refine a_iadd (pc := 159) d_BM_plays_159 ?_
  obtain ⟨hx, h⟩ := h
  refine a_iast (pc := 160) sx_190 hx d_BM_plays_160 ?_
  refine a_nms (fun s2 hs2 => ?_)
  replace h := h s2 hs2
  refine a_iconst (pc := 161) (0 : Int32) (by decide) d_BM_plays_161 ?_
  refine a_istore_n (pc := 162) (lv' := [(3, .int (0 : Int32)), (0, .ref (gB g + 151)), (1, .int x1), (2, .int x2)]) rfl (Nat.le_of_ble_eq_true rfl) rfl d_BM_plays_162 ?_
  refine a_goto (pc := 163) 25 (by decide) d_BM_plays_163 ?_
  refine a_sub (pc := 25) [1, 2, 3, 0] rfl ?_
  exact h
theorem ko_BM_plays {g : Gx}  {x1 : Int32} {σ : St} {Q : Int32 → St → Prop} (h : S_BM_plays_0 g Q σ x1) : K_BM_plays g x1 σ Q := KI.of (show plainName "BallBoxModel" = true by decide) (Nat.le_of_ble_eq_true rfl) h
theorem d_BM_game_0 : decode c_BM_game 0 = .ok (.aload_n 0, 1) := by decide +kernel
theorem d_BM_game_1 : decode c_BM_game 1 = .ok (.invokevirtual 391, 3) := by decide +kernel
theorem d_BM_game_4 : decode c_BM_game 4 = .ok (.ifCond .eq 25, 3) := by decide +kernel
theorem d_BM_game_7 : decode c_BM_game 7 = .ok (.iload_n 1, 1) := by decide +kernel
theorem d_BM_game_8 : decode c_BM_game 8 = .ok (.i2l, 1) := by decide +kernel
theorem d_BM_game_9 : decode c_BM_game 9 = .ok (.lconst 0, 1) := by decide +kernel
theorem d_BM_game_10 : decode c_BM_game 10 = .ok (.ldc2_w 520, 3) := by decide +kernel
theorem d_BM_game_13 : decode c_BM_game 13 = .ok (.invokestatic 162, 3) := by decide +kernel
theorem d_BM_game_16 : decode c_BM_game 16 = .ok (.ifCond .eq 13, 3) := by decide +kernel
theorem d_BM_game_19 : decode c_BM_game 19 = .ok (.iload_n 2, 1) := by decide +kernel
theorem d_BM_game_20 : decode c_BM_game 20 = .ok (.i2l, 1) := by decide +kernel
theorem d_BM_game_21 : decode c_BM_game 21 = .ok (.lconst 0, 1) := by decide +kernel
theorem d_BM_game_22 : decode c_BM_game 22 = .ok (.lconst 1, 1) := by decide +kernel
theorem d_BM_game_23 : decode c_BM_game 23 = .ok (.invokestatic 162, 3) := by decide +kernel
theorem d_BM_game_26 : decode c_BM_game 26 = .ok (.ifCond .ne 5, 3) := by decide +kernel
theorem d_BM_game_29 : decode c_BM_game 29 = .ok (.iconst (-1), 1) := by decide +kernel
theorem d_BM_game_30 : decode c_BM_game 30 = .ok (.ireturn, 1) := by decide +kernel
theorem d_BM_game_31 : decode c_BM_game 31 = .ok (.aload_n 0, 1) := by decide +kernel
theorem d_BM_game_32 : decode c_BM_game 32 = .ok (.invokevirtual 415, 3) := by decide +kernel
theorem d_BM_game_35 : decode c_BM_game 35 = .ok (.ifCond .eq 13, 3) := by decide +kernel
theorem d_BM_game_38 : decode c_BM_game 38 = .ok (.iload_n 2, 1) := by decide +kernel
theorem d_BM_game_39 : decode c_BM_game 39 = .ok (.ifCond .ne 7, 3) := by decide +kernel
theorem d_BM_game_42 : decode c_BM_game 42 = .ok (.iconst 1, 1) := by decide +kernel
theorem d_BM_game_43 : decode c_BM_game 43 = .ok (.goto 4, 3) := by decide +kernel
theorem d_BM_game_46 : decode c_BM_game 46 = .ok (.iconst (-1), 1) := by decide +kernel
theorem d_BM_game_47 : decode c_BM_game 47 = .ok (.ireturn, 1) := by decide +kernel
theorem d_BM_game_48 : decode c_BM_game 48 = .ok (.aload_n 0, 1) := by decide +kernel
theorem d_BM_game_49 : decode c_BM_game 49 = .ok (.iload_n 1, 1) := by decide +kernel
theorem d_BM_game_50 : decode c_BM_game 50 = .ok (.invokevirtual 522, 3) := by decide +kernel
theorem d_BM_game_53 : decode c_BM_game 53 = .ok (.istore_n 3, 1) := by decide +kernel
theorem d_BM_game_54 : decode c_BM_game 54 = .ok (.iload_n 2, 1) := by decide +kernel
theorem d_BM_game_55 : decode c_BM_game 55 = .ok (.ifCond .ne 15, 3) := by decide +kernel
theorem d_BM_game_58 : decode c_BM_game 58 = .ok (.iload_n 3, 1) := by decide +kernel
theorem d_BM_game_59 : decode c_BM_game 59 = .ok (.ifCond .eq 7, 3) := by decide +kernel
theorem d_BM_game_62 : decode c_BM_game 62 = .ok (.iconst 1, 1) := by decide +kernel
theorem d_BM_game_63 : decode c_BM_game 63 = .ok (.goto 20, 3) := by decide +kernel
theorem d_BM_game_66 : decode c_BM_game 66 = .ok (.iconst 0, 1) := by decide +kernel
theorem d_BM_game_67 : decode c_BM_game 67 = .ok (.goto 16, 3) := by decide +kernel
theorem d_BM_game_70 : decode c_BM_game 70 = .ok (.iload_n 3, 1) := by decide +kernel
theorem d_BM_game_71 : decode c_BM_game 71 = .ok (.ifCond .eq 10, 3) := by decide +kernel
theorem d_BM_game_74 : decode c_BM_game 74 = .ok (.aload_n 0, 1) := by decide +kernel
theorem d_BM_game_75 : decode c_BM_game 75 = .ok (.getfield 508, 3) := by decide +kernel
theorem d_BM_game_78 : decode c_BM_game 78 = .ok (.goto 5, 3) := by decide +kernel
theorem d_BM_game_81 : decode c_BM_game 81 = .ok (.bipush (-2), 2) := by decide +kernel
theorem d_BM_game_83 : decode c_BM_game 83 = .ok (.ireturn, 1) := by decide +kernel
def S_BM_game_0 (g : Gx) (Q : Int32 → St → Prop) (σ : St) (x1 : Int32) (x2 : Int32) : Prop := Ax g m_BM_game 0 0 (ZI g Q) SH σ 0 0 0 [(0, .ref (gB g + 151)), (1, .int x1), (2, .int x2)] []
theorem sg_BM_game_0 {g : Gx} {Q : Int32 → St → Prop} {σ : St} {x1 : Int32} {x2 : Int32}
    (h : K_BM_isBox g σ (fun (r2 : Int32) (s1 : St) => (r2 = 0 → Q (-1 : Int32) s1) ∧ (¬ r2 = 0 → K_BM_in g ((x1).toInt64) (0 : Int64) (8 : Int64) s1 (fun (r4 : Int32) (s3 : St) => (r4 = 0 → Q (-1 : Int32) s3) ∧ (¬ r4 = 0 → K_BM_in g ((x2).toInt64) (0 : Int64) (1 : Int64) s3 (fun (r6 : Int32) (s5 : St) => (¬ r6 = 0 → K_BM_areHome g s5 (fun (r8 : Int32) (s7 : St) => (r8 = 0 → K_BM_plays g x1 s7 (fun (r10 : Int32) (s9 : St) => (¬ x2 = 0 → (r10 = 0 → Q (-2 : Int32) s9) ∧ (¬ r10 = 0 → Q (fi s9 151 65) s9)) ∧ (x2 = 0 → (r10 = 0 → Q (0 : Int32) s9) ∧ (¬ r10 = 0 → Q (1 : Int32) s9)))) ∧ (¬ r8 = 0 → (¬ x2 = 0 → Q (-1 : Int32) s7) ∧ (x2 = 0 → Q (1 : Int32) s7)))) ∧ (r6 = 0 → Q (-1 : Int32) s5))))))) : S_BM_game_0 g Q σ x1 x2 := by
  show Ax g m_BM_game 0 0 (ZI g Q) SH σ 0 0 0 [(0, .ref (gB g + 151)), (1, .int x1), (2, .int x2)] []
  refine a_aload_n (pc := 0) 0 rfl rfl d_BM_game_0 ?_
  refine a_callV (pc := 1) (M' := m_BM_isBox) (As := []) (st := []) (mc' := 0) (ms' := 0) lk_BM_391 rfl sx_151 rfl (by decide) (by decide) rfl (Nat.le_of_ble_eq_true rfl) (Nat.le_refl 0) (Nat.le_refl 0) d_BM_game_1 h ?_
  rintro _ _ s1 ⟨r2, rfl, rfl, h⟩ -
  show Ax g m_BM_game 0 0 (ZI g Q) SH s1 0 0 4 [(0, .ref (gB g + 151)), (1, .int x1), (2, .int x2)] [.int r2]
  refine a_if_eq (pc := 4) 29 (by decide) d_BM_game_4 ⟨fun c0 => ?_, fun c0 => ?_⟩
  · replace h := h.1 c0
    refine a_iconst (pc := 29) (-1 : Int32) (by decide) d_BM_game_29 ?_
    exact b_iret (pc := 30) rfl d_BM_game_30 h
  · replace h := h.2 c0
    refine a_iload_n (pc := 7) 1 rfl rfl d_BM_game_7 ?_
    refine a_i2l (pc := 8) d_BM_game_8 ?_
    refine a_lconst (pc := 9) (0 : Int64) (by decide) d_BM_game_9 ?_
    refine a_ldc2 (pc := 10) tw1872 d_BM_game_10 ?_
    refine a_callS (pc := 13) (M' := m_BM_in) (As := [.long ((x1).toInt64), .long (0 : Int64), .long (8 : Int64)]) (st := []) (mc' := 0) (ms' := 0) lk_BM_162 rfl (by decide) (by decide) rfl (Nat.le_of_ble_eq_true rfl) (Nat.le_refl 0) (Nat.le_refl 0) d_BM_game_13 h ?_
    rintro _ _ s3 ⟨r4, rfl, rfl, h⟩ -
    show Ax g m_BM_game 0 0 (ZI g Q) SH s3 0 0 16 [(0, .ref (gB g + 151)), (1, .int x1), (2, .int x2)] [.int r4]
    refine a_if_eq (pc := 16) 29 (by decide) d_BM_game_16 ⟨fun c0 => ?_, fun c0 => ?_⟩
    · replace h := h.1 c0
      refine a_iconst (pc := 29) (-1 : Int32) (by decide) d_BM_game_29 ?_
      exact b_iret (pc := 30) rfl d_BM_game_30 h
    · replace h := h.2 c0
      refine a_iload_n (pc := 19) 2 rfl rfl d_BM_game_19 ?_
      refine a_i2l (pc := 20) d_BM_game_20 ?_
      refine a_lconst (pc := 21) (0 : Int64) (by decide) d_BM_game_21 ?_
      refine a_lconst (pc := 22) (1 : Int64) (by decide) d_BM_game_22 ?_
      refine a_callS (pc := 23) (M' := m_BM_in) (As := [.long ((x2).toInt64), .long (0 : Int64), .long (1 : Int64)]) (st := []) (mc' := 0) (ms' := 0) lk_BM_162 rfl (by decide) (by decide) rfl (Nat.le_of_ble_eq_true rfl) (Nat.le_refl 0) (Nat.le_refl 0) d_BM_game_23 h ?_
      rintro _ _ s5 ⟨r6, rfl, rfl, h⟩ -
      show Ax g m_BM_game 0 0 (ZI g Q) SH s5 0 0 26 [(0, .ref (gB g + 151)), (1, .int x1), (2, .int x2)] [.int r6]
      refine a_if_ne (pc := 26) 31 (by decide) d_BM_game_26 ⟨fun c0 => ?_, fun c0 => ?_⟩
      · replace h := h.1 c0
        refine a_aload_n (pc := 31) 0 rfl rfl d_BM_game_31 ?_
        refine a_callV (pc := 32) (M' := m_BM_areHome) (As := []) (st := []) (mc' := 0) (ms' := 0) lk_BM_415 rfl sx_151 rfl (by decide) (by decide) rfl (Nat.le_of_ble_eq_true rfl) (Nat.le_refl 0) (Nat.le_refl 0) d_BM_game_32 h ?_
        rintro _ _ s7 ⟨r8, rfl, rfl, h⟩ -
        show Ax g m_BM_game 0 0 (ZI g Q) SH s7 0 0 35 [(0, .ref (gB g + 151)), (1, .int x1), (2, .int x2)] [.int r8]
        refine a_if_eq (pc := 35) 48 (by decide) d_BM_game_35 ⟨fun c0 => ?_, fun c0 => ?_⟩
        · replace h := h.1 c0
          refine a_aload_n (pc := 48) 0 rfl rfl d_BM_game_48 ?_
          refine a_iload_n (pc := 49) 1 rfl rfl d_BM_game_49 ?_
          refine a_callV (pc := 50) (M' := m_BM_plays) (As := [.int x1]) (st := []) (mc' := 0) (ms' := 0) lk_BM_522 rfl sx_151 rfl (by decide) (by decide) rfl (Nat.le_of_ble_eq_true rfl) (Nat.le_refl 0) (Nat.le_refl 0) d_BM_game_50 h ?_
          rintro _ _ s9 ⟨r10, rfl, rfl, h⟩ -
          show Ax g m_BM_game 0 0 (ZI g Q) SH s9 0 0 53 [(0, .ref (gB g + 151)), (1, .int x1), (2, .int x2)] [.int r10]
          refine a_istore_n (pc := 53) (lv' := [(3, .int r10), (0, .ref (gB g + 151)), (1, .int x1), (2, .int x2)]) rfl (Nat.le_of_ble_eq_true rfl) rfl d_BM_game_53 ?_
          refine a_iload_n (pc := 54) 3 rfl rfl d_BM_game_54 ?_
          refine a_if_ne (pc := 55) 70 (by decide) d_BM_game_55 ⟨fun c0 => ?_, fun c0 => ?_⟩
          · replace h := h.1 c0
            refine a_iload_n (pc := 70) 0 rfl rfl d_BM_game_70 ?_
            refine a_if_eq (pc := 71) 81 (by decide) d_BM_game_71 ⟨fun c0 => ?_, fun c0 => ?_⟩
            · replace h := h.1 c0
              refine a_bipush (pc := 81) (-2 : Int32) (by decide) d_BM_game_81 ?_
              exact b_iret (pc := 83) rfl d_BM_game_83 h
            · replace h := h.2 c0
              refine a_aload_n (pc := 74) 1 rfl rfl d_BM_game_74 ?_
              refine a_getI (pc := 75) fg_BM_508 sx_151 rfl d_BM_game_75 ?_
              refine a_goto (pc := 78) 83 (by decide) d_BM_game_78 ?_
              exact b_iret (pc := 83) rfl d_BM_game_83 h
          · replace h := h.2 c0
            refine a_iload_n (pc := 58) 0 rfl rfl d_BM_game_58 ?_
            refine a_if_eq (pc := 59) 66 (by decide) d_BM_game_59 ⟨fun c0 => ?_, fun c0 => ?_⟩
            · replace h := h.1 c0
              refine a_iconst (pc := 66) (0 : Int32) (by decide) d_BM_game_66 ?_
              refine a_goto (pc := 67) 83 (by decide) d_BM_game_67 ?_
              exact b_iret (pc := 83) rfl d_BM_game_83 h
            · replace h := h.2 c0
              refine a_iconst (pc := 62) (1 : Int32) (by decide) d_BM_game_62 ?_
              refine a_goto (pc := 63) 83 (by decide) d_BM_game_63 ?_
              exact b_iret (pc := 83) rfl d_BM_game_83 h
        · replace h := h.2 c0
          refine a_iload_n (pc := 38) 2 rfl rfl d_BM_game_38 ?_
          refine a_if_ne (pc := 39) 46 (by decide) d_BM_game_39 ⟨fun c0 => ?_, fun c0 => ?_⟩
          · replace h := h.1 c0
            refine a_iconst (pc := 46) (-1 : Int32) (by decide) d_BM_game_46 ?_
            exact b_iret (pc := 47) rfl d_BM_game_47 h
          · replace h := h.2 c0
            refine a_iconst (pc := 42) (1 : Int32) (by decide) d_BM_game_42 ?_
            refine a_goto (pc := 43) 47 (by decide) d_BM_game_43 ?_
            exact b_iret (pc := 47) rfl d_BM_game_47 h
      · replace h := h.2 c0
        refine a_iconst (pc := 29) (-1 : Int32) (by decide) d_BM_game_29 ?_
        exact b_iret (pc := 30) rfl d_BM_game_30 h
theorem ko_BM_game {g : Gx}  {x1 : Int32} {x2 : Int32} {σ : St} {Q : Int32 → St → Prop} (h : S_BM_game_0 g Q σ x1 x2) : K_BM_game g x1 x2 σ Q := KI.of (show plainName "BallBoxModel" = true by decide) (Nat.le_of_ble_eq_true rfl) h
theorem d_BM_turned_0 : decode c_BM_turned 0 = .ok (.iload_n 1, 1) := by decide +kernel
theorem d_BM_turned_1 : decode c_BM_turned 1 = .ok (.bipush 6, 2) := by decide +kernel
theorem d_BM_turned_3 : decode c_BM_turned 3 = .ok (.irem, 1) := by decide +kernel
theorem d_BM_turned_4 : decode c_BM_turned 4 = .ok (.istore_n 3, 1) := by decide +kernel
theorem d_BM_turned_5 : decode c_BM_turned 5 = .ok (.iload_n 1, 1) := by decide +kernel
theorem d_BM_turned_6 : decode c_BM_turned 6 = .ok (.bipush 6, 2) := by decide +kernel
theorem d_BM_turned_8 : decode c_BM_turned 8 = .ok (.idiv, 1) := by decide +kernel
theorem d_BM_turned_9 : decode c_BM_turned 9 = .ok (.istore 4, 2) := by decide +kernel
theorem d_BM_turned_11 : decode c_BM_turned 11 = .ok (.iload_n 2, 1) := by decide +kernel
theorem d_BM_turned_12 : decode c_BM_turned 12 = .ok (.iconst 1, 1) := by decide +kernel
theorem d_BM_turned_13 : decode c_BM_turned 13 = .ok (.iand, 1) := by decide +kernel
theorem d_BM_turned_14 : decode c_BM_turned 14 = .ok (.iconst 1, 1) := by decide +kernel
theorem d_BM_turned_15 : decode c_BM_turned 15 = .ok (.if_icmp .ne 14, 3) := by decide +kernel
theorem d_BM_turned_18 : decode c_BM_turned 18 = .ok (.aload_n 0, 1) := by decide +kernel
theorem d_BM_turned_19 : decode c_BM_turned 19 = .ok (.getfield 9, 3) := by decide +kernel
theorem d_BM_turned_22 : decode c_BM_turned 22 = .ok (.iconst 0, 1) := by decide +kernel
theorem d_BM_turned_23 : decode c_BM_turned 23 = .ok (.iaload, 1) := by decide +kernel
theorem d_BM_turned_24 : decode c_BM_turned 24 = .ok (.iconst 1, 1) := by decide +kernel
theorem d_BM_turned_25 : decode c_BM_turned 25 = .ok (.isub, 1) := by decide +kernel
theorem d_BM_turned_26 : decode c_BM_turned 26 = .ok (.iload_n 3, 1) := by decide +kernel
theorem d_BM_turned_27 : decode c_BM_turned 27 = .ok (.isub, 1) := by decide +kernel
theorem d_BM_turned_28 : decode c_BM_turned 28 = .ok (.istore_n 3, 1) := by decide +kernel
theorem d_BM_turned_29 : decode c_BM_turned 29 = .ok (.iload_n 2, 1) := by decide +kernel
theorem d_BM_turned_30 : decode c_BM_turned 30 = .ok (.iconst 2, 1) := by decide +kernel
theorem d_BM_turned_31 : decode c_BM_turned 31 = .ok (.iand, 1) := by decide +kernel
theorem d_BM_turned_32 : decode c_BM_turned 32 = .ok (.iconst 2, 1) := by decide +kernel
theorem d_BM_turned_33 : decode c_BM_turned 33 = .ok (.if_icmp .ne 16, 3) := by decide +kernel
theorem d_BM_turned_36 : decode c_BM_turned 36 = .ok (.aload_n 0, 1) := by decide +kernel
theorem d_BM_turned_37 : decode c_BM_turned 37 = .ok (.getfield 9, 3) := by decide +kernel
theorem d_BM_turned_40 : decode c_BM_turned 40 = .ok (.iconst 1, 1) := by decide +kernel
theorem d_BM_turned_41 : decode c_BM_turned 41 = .ok (.iaload, 1) := by decide +kernel
theorem d_BM_turned_42 : decode c_BM_turned 42 = .ok (.iconst 1, 1) := by decide +kernel
theorem d_BM_turned_43 : decode c_BM_turned 43 = .ok (.isub, 1) := by decide +kernel
theorem d_BM_turned_44 : decode c_BM_turned 44 = .ok (.iload 4, 2) := by decide +kernel
theorem d_BM_turned_46 : decode c_BM_turned 46 = .ok (.isub, 1) := by decide +kernel
theorem d_BM_turned_47 : decode c_BM_turned 47 = .ok (.istore 4, 2) := by decide +kernel
theorem d_BM_turned_49 : decode c_BM_turned 49 = .ok (.iload_n 2, 1) := by decide +kernel
theorem d_BM_turned_50 : decode c_BM_turned 50 = .ok (.iconst 4, 1) := by decide +kernel
theorem d_BM_turned_51 : decode c_BM_turned 51 = .ok (.iand, 1) := by decide +kernel
theorem d_BM_turned_52 : decode c_BM_turned 52 = .ok (.iconst 4, 1) := by decide +kernel
theorem d_BM_turned_53 : decode c_BM_turned 53 = .ok (.if_icmp .ne 13, 3) := by decide +kernel
theorem d_BM_turned_56 : decode c_BM_turned 56 = .ok (.bipush 6, 2) := by decide +kernel
theorem d_BM_turned_58 : decode c_BM_turned 58 = .ok (.iload_n 3, 1) := by decide +kernel
theorem d_BM_turned_59 : decode c_BM_turned 59 = .ok (.imul, 1) := by decide +kernel
theorem d_BM_turned_60 : decode c_BM_turned 60 = .ok (.iload 4, 2) := by decide +kernel
theorem d_BM_turned_62 : decode c_BM_turned 62 = .ok (.iadd, 1) := by decide +kernel
theorem d_BM_turned_63 : decode c_BM_turned 63 = .ok (.goto 10, 3) := by decide +kernel
theorem d_BM_turned_66 : decode c_BM_turned 66 = .ok (.bipush 6, 2) := by decide +kernel
theorem d_BM_turned_68 : decode c_BM_turned 68 = .ok (.iload 4, 2) := by decide +kernel
theorem d_BM_turned_70 : decode c_BM_turned 70 = .ok (.imul, 1) := by decide +kernel
theorem d_BM_turned_71 : decode c_BM_turned 71 = .ok (.iload_n 3, 1) := by decide +kernel
theorem d_BM_turned_72 : decode c_BM_turned 72 = .ok (.iadd, 1) := by decide +kernel
theorem d_BM_turned_73 : decode c_BM_turned 73 = .ok (.ireturn, 1) := by decide +kernel
def S_BM_turned_0 (g : Gx) (Q : Int32 → St → Prop) (σ : St) (x1 : Int32) (x2 : Int32) : Prop := Ax g m_BM_turned 0 0 (ZI g Q) SH σ 0 0 0 [(0, .ref (gB g + 151)), (1, .int x1), (2, .int x2)] []
def S_BM_turned_29 (g : Gx) (Q : Int32 → St → Prop) (σ : St) (x2 : Int32) (x3 : Int32) (x4 : Int32) : Prop := Ax g m_BM_turned 0 0 (ZI g Q) SH σ 0 0 29 [(0, .ref (gB g + 151)), (2, .int x2), (3, .int x3), (4, .int x4)] []
def S_BM_turned_49 (g : Gx) (Q : Int32 → St → Prop) (σ : St) (x2 : Int32) (x3 : Int32) (x4 : Int32) : Prop := Ax g m_BM_turned 0 0 (ZI g Q) SH σ 0 0 49 [(2, .int x2), (3, .int x3), (4, .int x4)] []
theorem sg_BM_turned_0 {g : Gx} {Q : Int32 → St → Prop} {σ : St} {x1 : Int32} {x2 : Int32}
    (h : ∀ u1 : Int32, u1 = (x1 - x1 / (6 : Int32) * (6 : Int32)) → ∀ u2 : Int32, u2 = (x1 / (6 : Int32)) → (¬ (x2 &&& (1 : Int32)) = (1 : Int32) → S_BM_turned_29 g Q σ x2 u1 u2) ∧ ((x2 &&& (1 : Int32)) = (1 : Int32) → vp_in (0 : Int32) 8 ∧ (∀ u3 : Int32, u3 = (((ai σ 152 ((0 : Int32)).toNatClampNeg) - (1 : Int32)) - u1) → S_BM_turned_29 g Q σ x2 u3 u2))) : S_BM_turned_0 g Q σ x1 x2 := by
  show Ax g m_BM_turned 0 0 (ZI g Q) SH σ 0 0 0 [(0, .ref (gB g + 151)), (1, .int x1), (2, .int x2)] []
  refine a_iload_n (pc := 0) 1 rfl rfl d_BM_turned_0 ?_
  refine a_bipush (pc := 1) (6 : Int32) (by decide) d_BM_turned_1 ?_
  refine a_irem (pc := 3) (by decide) d_BM_turned_3 ?_
  refine a_nmi (pc := 4) (fun u1 hu1 => ?_)
  replace h := h u1 hu1
  refine a_istore_n (pc := 4) (lv' := [(3, .int u1), (0, .ref (gB g + 151)), (1, .int x1), (2, .int x2)]) rfl (Nat.le_of_ble_eq_true rfl) rfl d_BM_turned_4 ?_
  refine a_iload_n (pc := 5) 2 rfl rfl d_BM_turned_5 ?_
  refine a_bipush (pc := 6) (6 : Int32) (by decide) d_BM_turned_6 ?_
  refine a_idiv (pc := 8) (by decide) d_BM_turned_8 ?_
  refine a_nmi (pc := 9) (fun u2 hu2 => ?_)
  replace h := h u2 hu2
  refine a_istore (pc := 9) (lv' := [(4, .int u2), (3, .int u1), (0, .ref (gB g + 151)), (1, .int x1), (2, .int x2)]) (Nat.le_of_ble_eq_true rfl) rfl d_BM_turned_9 ?_
  refine a_iload_n (pc := 11) 4 rfl rfl d_BM_turned_11 ?_
  refine a_iconst (pc := 12) (1 : Int32) (by decide) d_BM_turned_12 ?_
  refine a_iand (pc := 13) d_BM_turned_13 ?_
  refine a_iconst (pc := 14) (1 : Int32) (by decide) d_BM_turned_14 ?_
  refine a_icmp_ne (pc := 15) 29 (by decide) d_BM_turned_15 ⟨fun c0 => ?_, fun c0 => ?_⟩
  · replace h := h.1 c0
    refine a_sub (pc := 29) [2, 4, 1, 0] rfl ?_
    exact h
  · replace h := h.2 c0
    refine a_aload_n (pc := 18) 2 rfl rfl d_BM_turned_18 ?_
    refine a_getR (pc := 19) fg_BM_9 sx_151 rfl d_BM_turned_19 ?_
    refine a_iconst (pc := 22) (0 : Int32) (by decide) d_BM_turned_22 ?_
    obtain ⟨hx, h⟩ := h
    refine a_iald (pc := 23) sx_152 hx d_BM_turned_23 ?_
    refine a_iconst (pc := 24) (1 : Int32) (by decide) d_BM_turned_24 ?_
    refine a_isub (pc := 25) d_BM_turned_25 ?_
    refine a_iload_n (pc := 26) 1 rfl rfl d_BM_turned_26 ?_
    refine a_isub (pc := 27) d_BM_turned_27 ?_
    refine a_nmi (pc := 28) (fun u3 hu3 => ?_)
    replace h := h u3 hu3
    refine a_istore_n (pc := 28) (lv' := [(3, .int u3), (4, .int u2), (0, .ref (gB g + 151)), (1, .int x1), (2, .int x2)]) rfl (Nat.le_of_ble_eq_true rfl) rfl d_BM_turned_28 ?_
    refine a_sub (pc := 29) [2, 4, 0, 1] rfl ?_
    exact h
theorem sg_BM_turned_29 {g : Gx} {Q : Int32 → St → Prop} {σ : St} {x2 : Int32} {x3 : Int32} {x4 : Int32}
    (h : (¬ (x2 &&& (2 : Int32)) = (2 : Int32) → S_BM_turned_49 g Q σ x2 x3 x4) ∧ ((x2 &&& (2 : Int32)) = (2 : Int32) → vp_in (1 : Int32) 8 ∧ (∀ u1 : Int32, u1 = (((ai σ 152 ((1 : Int32)).toNatClampNeg) - (1 : Int32)) - x4) → S_BM_turned_49 g Q σ x2 x3 u1))) : S_BM_turned_29 g Q σ x2 x3 x4 := by
  show Ax g m_BM_turned 0 0 (ZI g Q) SH σ 0 0 29 [(0, .ref (gB g + 151)), (2, .int x2), (3, .int x3), (4, .int x4)] []
  refine a_iload_n (pc := 29) 1 rfl rfl d_BM_turned_29 ?_
  refine a_iconst (pc := 30) (2 : Int32) (by decide) d_BM_turned_30 ?_
  refine a_iand (pc := 31) d_BM_turned_31 ?_
  refine a_iconst (pc := 32) (2 : Int32) (by decide) d_BM_turned_32 ?_
  refine a_icmp_ne (pc := 33) 49 (by decide) d_BM_turned_33 ⟨fun c0 => ?_, fun c0 => ?_⟩
  · replace h := h.1 c0
    refine a_sub (pc := 49) [1, 2, 3] rfl ?_
    exact h
  · replace h := h.2 c0
    refine a_aload_n (pc := 36) 0 rfl rfl d_BM_turned_36 ?_
    refine a_getR (pc := 37) fg_BM_9 sx_151 rfl d_BM_turned_37 ?_
    refine a_iconst (pc := 40) (1 : Int32) (by decide) d_BM_turned_40 ?_
    obtain ⟨hx, h⟩ := h
    refine a_iald (pc := 41) sx_152 hx d_BM_turned_41 ?_
    refine a_iconst (pc := 42) (1 : Int32) (by decide) d_BM_turned_42 ?_
    refine a_isub (pc := 43) d_BM_turned_43 ?_
    refine a_iload (pc := 44) 3 rfl d_BM_turned_44 ?_
    refine a_isub (pc := 46) d_BM_turned_46 ?_
    refine a_nmi (pc := 47) (fun u1 hu1 => ?_)
    replace h := h u1 hu1
    refine a_istore (pc := 47) (lv' := [(4, .int u1), (0, .ref (gB g + 151)), (2, .int x2), (3, .int x3)]) (Nat.le_of_ble_eq_true rfl) rfl d_BM_turned_47 ?_
    refine a_sub (pc := 49) [2, 3, 0] rfl ?_
    exact h
theorem sg_BM_turned_49 {g : Gx} {Q : Int32 → St → Prop} {σ : St} {x2 : Int32} {x3 : Int32} {x4 : Int32}
    (h : (¬ (x2 &&& (4 : Int32)) = (4 : Int32) → Q (((6 : Int32) * x4) + x3) σ) ∧ ((x2 &&& (4 : Int32)) = (4 : Int32) → Q (((6 : Int32) * x3) + x4) σ)) : S_BM_turned_49 g Q σ x2 x3 x4 := by
  show Ax g m_BM_turned 0 0 (ZI g Q) SH σ 0 0 49 [(2, .int x2), (3, .int x3), (4, .int x4)] []
  refine a_iload_n (pc := 49) 0 rfl rfl d_BM_turned_49 ?_
  refine a_iconst (pc := 50) (4 : Int32) (by decide) d_BM_turned_50 ?_
  refine a_iand (pc := 51) d_BM_turned_51 ?_
  refine a_iconst (pc := 52) (4 : Int32) (by decide) d_BM_turned_52 ?_
  refine a_icmp_ne (pc := 53) 66 (by decide) d_BM_turned_53 ⟨fun c0 => ?_, fun c0 => ?_⟩
  · replace h := h.1 c0
    refine a_bipush (pc := 66) (6 : Int32) (by decide) d_BM_turned_66 ?_
    refine a_iload (pc := 68) 2 rfl d_BM_turned_68 ?_
    refine a_imul (pc := 70) d_BM_turned_70 ?_
    refine a_iload_n (pc := 71) 1 rfl rfl d_BM_turned_71 ?_
    refine a_iadd (pc := 72) d_BM_turned_72 ?_
    exact b_iret (pc := 73) rfl d_BM_turned_73 h
  · replace h := h.2 c0
    refine a_bipush (pc := 56) (6 : Int32) (by decide) d_BM_turned_56 ?_
    refine a_iload_n (pc := 58) 1 rfl rfl d_BM_turned_58 ?_
    refine a_imul (pc := 59) d_BM_turned_59 ?_
    refine a_iload (pc := 60) 2 rfl d_BM_turned_60 ?_
    refine a_iadd (pc := 62) d_BM_turned_62 ?_
    refine a_goto (pc := 63) 73 (by decide) d_BM_turned_63 ?_
    exact b_iret (pc := 73) rfl d_BM_turned_73 h
theorem ko_BM_turned {g : Gx}  {x1 : Int32} {x2 : Int32} {σ : St} {Q : Int32 → St → Prop} (h : S_BM_turned_0 g Q σ x1 x2) : K_BM_turned g x1 x2 σ Q := KI.of (show plainName "BallBoxModel" = true by decide) (Nat.le_of_ble_eq_true rfl) h
theorem d_BM_lies_0 : decode c_BM_lies 0 = .ok (.iload_n 1, 1) := by decide +kernel
theorem d_BM_lies_1 : decode c_BM_lies 1 = .ok (.aload_n 0, 1) := by decide +kernel
theorem d_BM_lies_2 : decode c_BM_lies 2 = .ok (.getfield 9, 3) := by decide +kernel
theorem d_BM_lies_5 : decode c_BM_lies 5 = .ok (.iconst 2, 1) := by decide +kernel
theorem d_BM_lies_6 : decode c_BM_lies 6 = .ok (.iaload, 1) := by decide +kernel
theorem d_BM_lies_7 : decode c_BM_lies 7 = .ok (.if_icmp .ge 23, 3) := by decide +kernel
theorem d_BM_lies_10 : decode c_BM_lies 10 = .ok (.aload_n 0, 1) := by decide +kernel
theorem d_BM_lies_11 : decode c_BM_lies 11 = .ok (.getfield 16, 3) := by decide +kernel
theorem d_BM_lies_14 : decode c_BM_lies 14 = .ok (.iload_n 1, 1) := by decide +kernel
theorem d_BM_lies_15 : decode c_BM_lies 15 = .ok (.iaload, 1) := by decide +kernel
theorem d_BM_lies_16 : decode c_BM_lies 16 = .ok (.bipush 36, 2) := by decide +kernel
theorem d_BM_lies_18 : decode c_BM_lies 18 = .ok (.if_icmp .ge 12, 3) := by decide +kernel
theorem d_BM_lies_21 : decode c_BM_lies 21 = .ok (.aload_n 0, 1) := by decide +kernel
theorem d_BM_lies_22 : decode c_BM_lies 22 = .ok (.getfield 16, 3) := by decide +kernel
theorem d_BM_lies_25 : decode c_BM_lies 25 = .ok (.iload_n 1, 1) := by decide +kernel
theorem d_BM_lies_26 : decode c_BM_lies 26 = .ok (.iaload, 1) := by decide +kernel
theorem d_BM_lies_27 : decode c_BM_lies 27 = .ok (.goto 4, 3) := by decide +kernel
theorem d_BM_lies_30 : decode c_BM_lies 30 = .ok (.iconst (-1), 1) := by decide +kernel
theorem d_BM_lies_31 : decode c_BM_lies 31 = .ok (.ireturn, 1) := by decide +kernel
def S_BM_lies_0 (g : Gx) (Q : Int32 → St → Prop) (σ : St) (x1 : Int32) : Prop := Ax g m_BM_lies 0 0 (ZI g Q) SH σ 0 0 0 [(0, .ref (gB g + 151)), (1, .int x1)] []
theorem sg_BM_lies_0 {g : Gx} {Q : Int32 → St → Prop} {σ : St} {x1 : Int32}
    (h : vp_in (2 : Int32) 8 ∧ (((ai σ 152 ((2 : Int32)).toNatClampNeg) ≤ x1 → Q (-1 : Int32) σ) ∧ (¬ (ai σ 152 ((2 : Int32)).toNatClampNeg) ≤ x1 → vp_in x1 3 ∧ (((36 : Int32) ≤ (ai σ 154 (x1).toNatClampNeg) → Q (-1 : Int32) σ) ∧ (¬ (36 : Int32) ≤ (ai σ 154 (x1).toNatClampNeg) → vp_in x1 3 ∧ (Q (ai σ 154 (x1).toNatClampNeg) σ)))))) : S_BM_lies_0 g Q σ x1 := by
  show Ax g m_BM_lies 0 0 (ZI g Q) SH σ 0 0 0 [(0, .ref (gB g + 151)), (1, .int x1)] []
  refine a_iload_n (pc := 0) 1 rfl rfl d_BM_lies_0 ?_
  refine a_aload_n (pc := 1) 0 rfl rfl d_BM_lies_1 ?_
  refine a_getR (pc := 2) fg_BM_9 sx_151 rfl d_BM_lies_2 ?_
  refine a_iconst (pc := 5) (2 : Int32) (by decide) d_BM_lies_5 ?_
  obtain ⟨hx, h⟩ := h
  refine a_iald (pc := 6) sx_152 hx d_BM_lies_6 ?_
  refine a_icmp_ge (pc := 7) 30 (by decide) d_BM_lies_7 ⟨fun c0 => ?_, fun c0 => ?_⟩
  · replace h := h.1 c0
    refine a_iconst (pc := 30) (-1 : Int32) (by decide) d_BM_lies_30 ?_
    exact b_iret (pc := 31) rfl d_BM_lies_31 h
  · replace h := h.2 c0
    refine a_aload_n (pc := 10) 0 rfl rfl d_BM_lies_10 ?_
    refine a_getR (pc := 11) fg_BM_16 sx_151 rfl d_BM_lies_11 ?_
    refine a_iload_n (pc := 14) 1 rfl rfl d_BM_lies_14 ?_
    obtain ⟨hx, h⟩ := h
    refine a_iald (pc := 15) sx_154 hx d_BM_lies_15 ?_
    refine a_bipush (pc := 16) (36 : Int32) (by decide) d_BM_lies_16 ?_
    refine a_icmp_ge (pc := 18) 30 (by decide) d_BM_lies_18 ⟨fun c0 => ?_, fun c0 => ?_⟩
    · replace h := h.1 c0
      refine a_iconst (pc := 30) (-1 : Int32) (by decide) d_BM_lies_30 ?_
      exact b_iret (pc := 31) rfl d_BM_lies_31 h
    · replace h := h.2 c0
      refine a_aload_n (pc := 21) 0 rfl rfl d_BM_lies_21 ?_
      refine a_getR (pc := 22) fg_BM_16 sx_151 rfl d_BM_lies_22 ?_
      refine a_iload_n (pc := 25) 1 rfl rfl d_BM_lies_25 ?_
      obtain ⟨hx, h⟩ := h
      refine a_iald (pc := 26) sx_154 hx d_BM_lies_26 ?_
      refine a_goto (pc := 27) 31 (by decide) d_BM_lies_27 ?_
      exact b_iret (pc := 31) rfl d_BM_lies_31 h
theorem ko_BM_lies {g : Gx}  {x1 : Int32} {σ : St} {Q : Int32 → St → Prop} (h : S_BM_lies_0 g Q σ x1) : K_BM_lies g x1 σ Q := KI.of (show plainName "BallBoxModel" = true by decide) (Nat.le_of_ble_eq_true rfl) h
theorem d_BM_isAlike_0 : decode c_BM_isAlike 0 = .ok (.iload_n 2, 1) := by decide +kernel
theorem d_BM_isAlike_1 : decode c_BM_isAlike 1 = .ok (.iconst 4, 1) := by decide +kernel
theorem d_BM_isAlike_2 : decode c_BM_isAlike 2 = .ok (.iand, 1) := by decide +kernel
theorem d_BM_isAlike_3 : decode c_BM_isAlike 3 = .ok (.iconst 4, 1) := by decide +kernel
theorem d_BM_isAlike_4 : decode c_BM_isAlike 4 = .ok (.if_icmp .ne 7, 3) := by decide +kernel
theorem d_BM_isAlike_7 : decode c_BM_isAlike 7 = .ok (.iconst 1, 1) := by decide +kernel
theorem d_BM_isAlike_8 : decode c_BM_isAlike 8 = .ok (.goto 4, 3) := by decide +kernel
theorem d_BM_isAlike_11 : decode c_BM_isAlike 11 = .ok (.iconst 0, 1) := by decide +kernel
theorem d_BM_isAlike_12 : decode c_BM_isAlike 12 = .ok (.istore_n 3, 1) := by decide +kernel
theorem d_BM_isAlike_13 : decode c_BM_isAlike 13 = .ok (.aload_n 0, 1) := by decide +kernel
theorem d_BM_isAlike_14 : decode c_BM_isAlike 14 = .ok (.getfield 138, 3) := by decide +kernel
theorem d_BM_isAlike_17 : decode c_BM_isAlike 17 = .ok (.iload_n 1, 1) := by decide +kernel
theorem d_BM_isAlike_18 : decode c_BM_isAlike 18 = .ok (.iaload, 1) := by decide +kernel
theorem d_BM_isAlike_19 : decode c_BM_isAlike 19 = .ok (.aload_n 0, 1) := by decide +kernel
theorem d_BM_isAlike_20 : decode c_BM_isAlike 20 = .ok (.getfield 9, 3) := by decide +kernel
theorem d_BM_isAlike_23 : decode c_BM_isAlike 23 = .ok (.iload_n 3, 1) := by decide +kernel
theorem d_BM_isAlike_24 : decode c_BM_isAlike 24 = .ok (.ifCond .eq 7, 3) := by decide +kernel
theorem d_BM_isAlike_27 : decode c_BM_isAlike 27 = .ok (.iconst 1, 1) := by decide +kernel
theorem d_BM_isAlike_28 : decode c_BM_isAlike 28 = .ok (.goto 4, 3) := by decide +kernel
theorem d_BM_isAlike_31 : decode c_BM_isAlike 31 = .ok (.iconst 0, 1) := by decide +kernel
theorem d_BM_isAlike_32 : decode c_BM_isAlike 32 = .ok (.iaload, 1) := by decide +kernel
theorem d_BM_isAlike_33 : decode c_BM_isAlike 33 = .ok (.if_icmp .ne 30, 3) := by decide +kernel
theorem d_BM_isAlike_36 : decode c_BM_isAlike 36 = .ok (.aload_n 0, 1) := by decide +kernel
theorem d_BM_isAlike_37 : decode c_BM_isAlike 37 = .ok (.getfield 141, 3) := by decide +kernel
theorem d_BM_isAlike_40 : decode c_BM_isAlike 40 = .ok (.iload_n 1, 1) := by decide +kernel
theorem d_BM_isAlike_41 : decode c_BM_isAlike 41 = .ok (.iaload, 1) := by decide +kernel
theorem d_BM_isAlike_42 : decode c_BM_isAlike 42 = .ok (.aload_n 0, 1) := by decide +kernel
theorem d_BM_isAlike_43 : decode c_BM_isAlike 43 = .ok (.getfield 9, 3) := by decide +kernel
theorem d_BM_isAlike_46 : decode c_BM_isAlike 46 = .ok (.iload_n 3, 1) := by decide +kernel
theorem d_BM_isAlike_47 : decode c_BM_isAlike 47 = .ok (.ifCond .eq 7, 3) := by decide +kernel
theorem d_BM_isAlike_50 : decode c_BM_isAlike 50 = .ok (.iconst 0, 1) := by decide +kernel
theorem d_BM_isAlike_51 : decode c_BM_isAlike 51 = .ok (.goto 4, 3) := by decide +kernel
theorem d_BM_isAlike_54 : decode c_BM_isAlike 54 = .ok (.iconst 1, 1) := by decide +kernel
theorem d_BM_isAlike_55 : decode c_BM_isAlike 55 = .ok (.iaload, 1) := by decide +kernel
theorem d_BM_isAlike_56 : decode c_BM_isAlike 56 = .ok (.if_icmp .ne 7, 3) := by decide +kernel
theorem d_BM_isAlike_59 : decode c_BM_isAlike 59 = .ok (.iconst 1, 1) := by decide +kernel
theorem d_BM_isAlike_60 : decode c_BM_isAlike 60 = .ok (.goto 4, 3) := by decide +kernel
theorem d_BM_isAlike_63 : decode c_BM_isAlike 63 = .ok (.iconst 0, 1) := by decide +kernel
theorem d_BM_isAlike_64 : decode c_BM_isAlike 64 = .ok (.istore 4, 2) := by decide +kernel
theorem d_BM_isAlike_66 : decode c_BM_isAlike 66 = .ok (.iconst 0, 1) := by decide +kernel
theorem d_BM_isAlike_67 : decode c_BM_isAlike 67 = .ok (.istore 5, 2) := by decide +kernel
theorem d_BM_isAlike_69 : decode c_BM_isAlike 69 = .ok (.iload 5, 2) := by decide +kernel
theorem d_BM_isAlike_71 : decode c_BM_isAlike 71 = .ok (.bipush 36, 2) := by decide +kernel
theorem d_BM_isAlike_73 : decode c_BM_isAlike 73 = .ok (.if_icmp .ge 57, 3) := by decide +kernel
theorem d_BM_isAlike_76 : decode c_BM_isAlike 76 = .ok (.iload 4, 2) := by decide +kernel
theorem d_BM_isAlike_78 : decode c_BM_isAlike 78 = .ok (.ifCond .eq 52, 3) := by decide +kernel
theorem d_BM_isAlike_81 : decode c_BM_isAlike 81 = .ok (.aload_n 0, 1) := by decide +kernel
theorem d_BM_isAlike_82 : decode c_BM_isAlike 82 = .ok (.iload 5, 2) := by decide +kernel
theorem d_BM_isAlike_84 : decode c_BM_isAlike 84 = .ok (.invokevirtual 170, 3) := by decide +kernel
theorem d_BM_isAlike_87 : decode c_BM_isAlike 87 = .ok (.ifCond .eq 30, 3) := by decide +kernel
theorem d_BM_isAlike_90 : decode c_BM_isAlike 90 = .ok (.aload_n 0, 1) := by decide +kernel
theorem d_BM_isAlike_91 : decode c_BM_isAlike 91 = .ok (.getfield 144, 3) := by decide +kernel
theorem d_BM_isAlike_94 : decode c_BM_isAlike 94 = .ok (.bipush 36, 2) := by decide +kernel
theorem d_BM_isAlike_96 : decode c_BM_isAlike 96 = .ok (.iload_n 1, 1) := by decide +kernel
theorem d_BM_isAlike_97 : decode c_BM_isAlike 97 = .ok (.imul, 1) := by decide +kernel
theorem d_BM_isAlike_98 : decode c_BM_isAlike 98 = .ok (.aload_n 0, 1) := by decide +kernel
theorem d_BM_isAlike_99 : decode c_BM_isAlike 99 = .ok (.iload 5, 2) := by decide +kernel
theorem d_BM_isAlike_101 : decode c_BM_isAlike 101 = .ok (.iload_n 2, 1) := by decide +kernel
theorem d_BM_isAlike_102 : decode c_BM_isAlike 102 = .ok (.invokevirtual 525, 3) := by decide +kernel
theorem d_BM_isAlike_105 : decode c_BM_isAlike 105 = .ok (.iadd, 1) := by decide +kernel
theorem d_BM_isAlike_106 : decode c_BM_isAlike 106 = .ok (.iaload, 1) := by decide +kernel
theorem d_BM_isAlike_107 : decode c_BM_isAlike 107 = .ok (.aload_n 0, 1) := by decide +kernel
theorem d_BM_isAlike_108 : decode c_BM_isAlike 108 = .ok (.getfield 13, 3) := by decide +kernel
theorem d_BM_isAlike_111 : decode c_BM_isAlike 111 = .ok (.iload 5, 2) := by decide +kernel
theorem d_BM_isAlike_113 : decode c_BM_isAlike 113 = .ok (.iaload, 1) := by decide +kernel
theorem d_BM_isAlike_114 : decode c_BM_isAlike 114 = .ok (.if_icmp .ne 7, 3) := by decide +kernel
theorem d_BM_isAlike_117 : decode c_BM_isAlike 117 = .ok (.iconst 1, 1) := by decide +kernel
theorem d_BM_isAlike_118 : decode c_BM_isAlike 118 = .ok (.goto 4, 3) := by decide +kernel
theorem d_BM_isAlike_121 : decode c_BM_isAlike 121 = .ok (.iconst 0, 1) := by decide +kernel
theorem d_BM_isAlike_122 : decode c_BM_isAlike 122 = .ok (.istore 4, 2) := by decide +kernel
theorem d_BM_isAlike_124 : decode c_BM_isAlike 124 = .ok (.iinc 5 1, 3) := by decide +kernel
theorem d_BM_isAlike_127 : decode c_BM_isAlike 127 = .ok (.goto (-58), 3) := by decide +kernel
theorem d_BM_isAlike_130 : decode c_BM_isAlike 130 = .ok (.iconst 0, 1) := by decide +kernel
theorem d_BM_isAlike_131 : decode c_BM_isAlike 131 = .ok (.istore 5, 2) := by decide +kernel
theorem d_BM_isAlike_133 : decode c_BM_isAlike 133 = .ok (.iload 5, 2) := by decide +kernel
theorem d_BM_isAlike_135 : decode c_BM_isAlike 135 = .ok (.iconst 3, 1) := by decide +kernel
theorem d_BM_isAlike_136 : decode c_BM_isAlike 136 = .ok (.if_icmp .ge 64, 3) := by decide +kernel
theorem d_BM_isAlike_139 : decode c_BM_isAlike 139 = .ok (.iload 4, 2) := by decide +kernel
theorem d_BM_isAlike_141 : decode c_BM_isAlike 141 = .ok (.ifCond .eq 59, 3) := by decide +kernel
theorem d_BM_isAlike_144 : decode c_BM_isAlike 144 = .ok (.aload_n 0, 1) := by decide +kernel
theorem d_BM_isAlike_145 : decode c_BM_isAlike 145 = .ok (.iload 5, 2) := by decide +kernel
theorem d_BM_isAlike_147 : decode c_BM_isAlike 147 = .ok (.invokevirtual 528, 3) := by decide +kernel
theorem d_BM_isAlike_150 : decode c_BM_isAlike 150 = .ok (.iconst (-1), 1) := by decide +kernel
theorem d_BM_isAlike_151 : decode c_BM_isAlike 151 = .ok (.if_icmp .ne 7, 3) := by decide +kernel
theorem d_BM_isAlike_154 : decode c_BM_isAlike 154 = .ok (.iconst (-1), 1) := by decide +kernel
theorem d_BM_isAlike_155 : decode c_BM_isAlike 155 = .ok (.goto 14, 3) := by decide +kernel
theorem d_BM_isAlike_158 : decode c_BM_isAlike 158 = .ok (.aload_n 0, 1) := by decide +kernel
theorem d_BM_isAlike_159 : decode c_BM_isAlike 159 = .ok (.aload_n 0, 1) := by decide +kernel
theorem d_BM_isAlike_160 : decode c_BM_isAlike 160 = .ok (.iload 5, 2) := by decide +kernel
theorem d_BM_isAlike_162 : decode c_BM_isAlike 162 = .ok (.invokevirtual 528, 3) := by decide +kernel
theorem d_BM_isAlike_165 : decode c_BM_isAlike 165 = .ok (.iload_n 2, 1) := by decide +kernel
theorem d_BM_isAlike_166 : decode c_BM_isAlike 166 = .ok (.invokevirtual 525, 3) := by decide +kernel
theorem d_BM_isAlike_169 : decode c_BM_isAlike 169 = .ok (.istore 6, 2) := by decide +kernel
theorem d_BM_isAlike_171 : decode c_BM_isAlike 171 = .ok (.aload_n 0, 1) := by decide +kernel
theorem d_BM_isAlike_172 : decode c_BM_isAlike 172 = .ok (.getfield 147, 3) := by decide +kernel
theorem d_BM_isAlike_175 : decode c_BM_isAlike 175 = .ok (.iconst 3, 1) := by decide +kernel
theorem d_BM_isAlike_176 : decode c_BM_isAlike 176 = .ok (.iload_n 1, 1) := by decide +kernel
theorem d_BM_isAlike_177 : decode c_BM_isAlike 177 = .ok (.imul, 1) := by decide +kernel
theorem d_BM_isAlike_178 : decode c_BM_isAlike 178 = .ok (.iload 5, 2) := by decide +kernel
theorem d_BM_isAlike_180 : decode c_BM_isAlike 180 = .ok (.iadd, 1) := by decide +kernel
theorem d_BM_isAlike_181 : decode c_BM_isAlike 181 = .ok (.iaload, 1) := by decide +kernel
theorem d_BM_isAlike_182 : decode c_BM_isAlike 182 = .ok (.iload 6, 2) := by decide +kernel
theorem d_BM_isAlike_184 : decode c_BM_isAlike 184 = .ok (.if_icmp .ne 7, 3) := by decide +kernel
theorem d_BM_isAlike_187 : decode c_BM_isAlike 187 = .ok (.iconst 1, 1) := by decide +kernel
theorem d_BM_isAlike_188 : decode c_BM_isAlike 188 = .ok (.goto 4, 3) := by decide +kernel
theorem d_BM_isAlike_191 : decode c_BM_isAlike 191 = .ok (.iconst 0, 1) := by decide +kernel
theorem d_BM_isAlike_192 : decode c_BM_isAlike 192 = .ok (.istore 4, 2) := by decide +kernel
theorem d_BM_isAlike_194 : decode c_BM_isAlike 194 = .ok (.iinc 5 1, 3) := by decide +kernel
theorem d_BM_isAlike_197 : decode c_BM_isAlike 197 = .ok (.goto (-64), 3) := by decide +kernel
theorem d_BM_isAlike_200 : decode c_BM_isAlike 200 = .ok (.iload 4, 2) := by decide +kernel
theorem d_BM_isAlike_202 : decode c_BM_isAlike 202 = .ok (.ireturn, 1) := by decide +kernel
def S_BM_isAlike_0 (g : Gx) (Q : Int32 → St → Prop) (σ : St) (x1 : Int32) (x2 : Int32) : Prop := Ax g m_BM_isAlike 0 0 (ZI g Q) SH σ 0 0 0 [(0, .ref (gB g + 151)), (1, .int x1), (2, .int x2)] []
def S_BM_isAlike_32 (g : Gx) (Q : Int32 → St → Prop) (σ : St) (x1 : Int32) (x2 : Int32) (x3 : Int32) (z0 : Int32) (z2 : Int32) : Prop := Ax g m_BM_isAlike 0 0 (ZI g Q) SH σ 0 0 32 [(0, .ref (gB g + 151)), (1, .int x1), (2, .int x2), (3, .int x3)] [.int z0, .ref (gB g + 152), .int z2]
def S_BM_isAlike_69 (g : Gx) (Q : Int32 → St → Prop) (σ : St) (x1 : Int32) (x2 : Int32) (x4 : Int32) (x5 : Int32) : Prop := Ax g m_BM_isAlike 0 0 (ZI g Q) SH σ 0 0 69 [(0, .ref (gB g + 151)), (1, .int x1), (2, .int x2), (4, .int x4), (5, .int x5)] []
def S_BM_isAlike_133 (g : Gx) (Q : Int32 → St → Prop) (σ : St) (x1 : Int32) (x2 : Int32) (x4 : Int32) (x5 : Int32) : Prop := Ax g m_BM_isAlike 0 0 (ZI g Q) SH σ 0 0 133 [(0, .ref (gB g + 151)), (1, .int x1), (2, .int x2), (4, .int x4), (5, .int x5)] []
def S_BM_isAlike_169 (g : Gx) (Q : Int32 → St → Prop) (σ : St) (x1 : Int32) (x2 : Int32) (x5 : Int32) (z0 : Int32) : Prop := Ax g m_BM_isAlike 0 0 (ZI g Q) SH σ 0 0 169 [(0, .ref (gB g + 151)), (1, .int x1), (2, .int x2), (5, .int x5)] [.int z0]
theorem sg_BM_isAlike_0 {g : Gx} {Q : Int32 → St → Prop} {σ : St} {x1 : Int32} {x2 : Int32}
    (h : (¬ (x2 &&& (4 : Int32)) = (4 : Int32) → vp_in x1 8 ∧ (S_BM_isAlike_32 g Q σ x1 x2 (0 : Int32) (0 : Int32) (ai σ 192 (x1).toNatClampNeg))) ∧ ((x2 &&& (4 : Int32)) = (4 : Int32) → vp_in x1 8 ∧ (S_BM_isAlike_32 g Q σ x1 x2 (1 : Int32) (1 : Int32) (ai σ 192 (x1).toNatClampNeg)))) : S_BM_isAlike_0 g Q σ x1 x2 := by
  show Ax g m_BM_isAlike 0 0 (ZI g Q) SH σ 0 0 0 [(0, .ref (gB g + 151)), (1, .int x1), (2, .int x2)] []
  refine a_iload_n (pc := 0) 2 rfl rfl d_BM_isAlike_0 ?_
  refine a_iconst (pc := 1) (4 : Int32) (by decide) d_BM_isAlike_1 ?_
  refine a_iand (pc := 2) d_BM_isAlike_2 ?_
  refine a_iconst (pc := 3) (4 : Int32) (by decide) d_BM_isAlike_3 ?_
  refine a_icmp_ne (pc := 4) 11 (by decide) d_BM_isAlike_4 ⟨fun c0 => ?_, fun c0 => ?_⟩
  · replace h := h.1 c0
    refine a_iconst (pc := 11) (0 : Int32) (by decide) d_BM_isAlike_11 ?_
    refine a_istore_n (pc := 12) (lv' := [(3, .int (0 : Int32)), (0, .ref (gB g + 151)), (1, .int x1), (2, .int x2)]) rfl (Nat.le_of_ble_eq_true rfl) rfl d_BM_isAlike_12 ?_
    refine a_aload_n (pc := 13) 1 rfl rfl d_BM_isAlike_13 ?_
    refine a_getR (pc := 14) fg_BM_138 sx_151 rfl d_BM_isAlike_14 ?_
    refine a_iload_n (pc := 17) 2 rfl rfl d_BM_isAlike_17 ?_
    obtain ⟨hx, h⟩ := h
    refine a_iald (pc := 18) sx_192 hx d_BM_isAlike_18 ?_
    refine a_aload_n (pc := 19) 1 rfl rfl d_BM_isAlike_19 ?_
    refine a_getR (pc := 20) fg_BM_9 sx_151 rfl d_BM_isAlike_20 ?_
    refine a_iload_n (pc := 23) 0 rfl rfl d_BM_isAlike_23 ?_
    refine a_if_eq (pc := 24) 31 (by decide) d_BM_isAlike_24 ⟨fun _ => ?_, fun c0 => absurd c0 (by decide)⟩
    refine a_iconst (pc := 31) (0 : Int32) (by decide) d_BM_isAlike_31 ?_
    refine a_sub (pc := 32) [1, 2, 3, 0] rfl ?_
    exact h
  · replace h := h.2 c0
    refine a_iconst (pc := 7) (1 : Int32) (by decide) d_BM_isAlike_7 ?_
    refine a_goto (pc := 8) 12 (by decide) d_BM_isAlike_8 ?_
    refine a_istore_n (pc := 12) (lv' := [(3, .int (1 : Int32)), (0, .ref (gB g + 151)), (1, .int x1), (2, .int x2)]) rfl (Nat.le_of_ble_eq_true rfl) rfl d_BM_isAlike_12 ?_
    refine a_aload_n (pc := 13) 1 rfl rfl d_BM_isAlike_13 ?_
    refine a_getR (pc := 14) fg_BM_138 sx_151 rfl d_BM_isAlike_14 ?_
    refine a_iload_n (pc := 17) 2 rfl rfl d_BM_isAlike_17 ?_
    obtain ⟨hx, h⟩ := h
    refine a_iald (pc := 18) sx_192 hx d_BM_isAlike_18 ?_
    refine a_aload_n (pc := 19) 1 rfl rfl d_BM_isAlike_19 ?_
    refine a_getR (pc := 20) fg_BM_9 sx_151 rfl d_BM_isAlike_20 ?_
    refine a_iload_n (pc := 23) 0 rfl rfl d_BM_isAlike_23 ?_
    refine a_if_eq (pc := 24) 31 (by decide) d_BM_isAlike_24 ⟨fun c0 => absurd c0 (by decide), fun _ => ?_⟩
    refine a_iconst (pc := 27) (1 : Int32) (by decide) d_BM_isAlike_27 ?_
    refine a_goto (pc := 28) 32 (by decide) d_BM_isAlike_28 ?_
    refine a_sub (pc := 32) [1, 2, 3, 0] rfl ?_
    exact h
theorem sg_BM_isAlike_32 {g : Gx} {Q : Int32 → St → Prop} {σ : St} {x1 : Int32} {x2 : Int32} {x3 : Int32} {z0 : Int32} {z2 : Int32}
    (h : vp_in z0 8 ∧ ((¬ z2 = (ai σ 152 (z0).toNatClampNeg) → S_BM_isAlike_69 g Q σ x1 x2 (0 : Int32) (0 : Int32)) ∧ (z2 = (ai σ 152 (z0).toNatClampNeg) → vp_in x1 8 ∧ ((x3 = 0 → vp_in (1 : Int32) 8 ∧ ((¬ (ai σ 193 (x1).toNatClampNeg) = (ai σ 152 ((1 : Int32)).toNatClampNeg) → S_BM_isAlike_69 g Q σ x1 x2 (0 : Int32) (0 : Int32)) ∧ ((ai σ 193 (x1).toNatClampNeg) = (ai σ 152 ((1 : Int32)).toNatClampNeg) → S_BM_isAlike_69 g Q σ x1 x2 (1 : Int32) (0 : Int32)))) ∧ (¬ x3 = 0 → vp_in (0 : Int32) 8 ∧ ((¬ (ai σ 193 (x1).toNatClampNeg) = (ai σ 152 ((0 : Int32)).toNatClampNeg) → S_BM_isAlike_69 g Q σ x1 x2 (0 : Int32) (0 : Int32)) ∧ ((ai σ 193 (x1).toNatClampNeg) = (ai σ 152 ((0 : Int32)).toNatClampNeg) → S_BM_isAlike_69 g Q σ x1 x2 (1 : Int32) (0 : Int32)))))))) : S_BM_isAlike_32 g Q σ x1 x2 x3 z0 z2 := by
  show Ax g m_BM_isAlike 0 0 (ZI g Q) SH σ 0 0 32 [(0, .ref (gB g + 151)), (1, .int x1), (2, .int x2), (3, .int x3)] [.int z0, .ref (gB g + 152), .int z2]
  obtain ⟨hx, h⟩ := h
  refine a_iald (pc := 32) sx_152 hx d_BM_isAlike_32 ?_
  refine a_icmp_ne (pc := 33) 63 (by decide) d_BM_isAlike_33 ⟨fun c0 => ?_, fun c0 => ?_⟩
  · replace h := h.1 c0
    refine a_iconst (pc := 63) (0 : Int32) (by decide) d_BM_isAlike_63 ?_
    refine a_istore (pc := 64) (lv' := [(4, .int (0 : Int32)), (0, .ref (gB g + 151)), (1, .int x1), (2, .int x2), (3, .int x3)]) (Nat.le_of_ble_eq_true rfl) rfl d_BM_isAlike_64 ?_
    refine a_iconst (pc := 66) (0 : Int32) (by decide) d_BM_isAlike_66 ?_
    refine a_istore (pc := 67) (lv' := [(5, .int (0 : Int32)), (4, .int (0 : Int32)), (0, .ref (gB g + 151)), (1, .int x1), (2, .int x2), (3, .int x3)]) (Nat.le_of_ble_eq_true rfl) rfl d_BM_isAlike_67 ?_
    refine a_sub (pc := 69) [2, 3, 4, 1, 0] rfl ?_
    exact h
  · replace h := h.2 c0
    refine a_aload_n (pc := 36) 0 rfl rfl d_BM_isAlike_36 ?_
    refine a_getR (pc := 37) fg_BM_141 sx_151 rfl d_BM_isAlike_37 ?_
    refine a_iload_n (pc := 40) 1 rfl rfl d_BM_isAlike_40 ?_
    obtain ⟨hx, h⟩ := h
    refine a_iald (pc := 41) sx_193 hx d_BM_isAlike_41 ?_
    refine a_aload_n (pc := 42) 0 rfl rfl d_BM_isAlike_42 ?_
    refine a_getR (pc := 43) fg_BM_9 sx_151 rfl d_BM_isAlike_43 ?_
    refine a_iload_n (pc := 46) 3 rfl rfl d_BM_isAlike_46 ?_
    refine a_if_eq (pc := 47) 54 (by decide) d_BM_isAlike_47 ⟨fun c0 => ?_, fun c0 => ?_⟩
    · replace h := h.1 c0
      refine a_iconst (pc := 54) (1 : Int32) (by decide) d_BM_isAlike_54 ?_
      obtain ⟨hx, h⟩ := h
      refine a_iald (pc := 55) sx_152 hx d_BM_isAlike_55 ?_
      refine a_icmp_ne (pc := 56) 63 (by decide) d_BM_isAlike_56 ⟨fun c0 => ?_, fun c0 => ?_⟩
      · replace h := h.1 c0
        refine a_iconst (pc := 63) (0 : Int32) (by decide) d_BM_isAlike_63 ?_
        refine a_istore (pc := 64) (lv' := [(4, .int (0 : Int32)), (0, .ref (gB g + 151)), (1, .int x1), (2, .int x2), (3, .int x3)]) (Nat.le_of_ble_eq_true rfl) rfl d_BM_isAlike_64 ?_
        refine a_iconst (pc := 66) (0 : Int32) (by decide) d_BM_isAlike_66 ?_
        refine a_istore (pc := 67) (lv' := [(5, .int (0 : Int32)), (4, .int (0 : Int32)), (0, .ref (gB g + 151)), (1, .int x1), (2, .int x2), (3, .int x3)]) (Nat.le_of_ble_eq_true rfl) rfl d_BM_isAlike_67 ?_
        refine a_sub (pc := 69) [2, 3, 4, 1, 0] rfl ?_
        exact h
      · replace h := h.2 c0
        refine a_iconst (pc := 59) (1 : Int32) (by decide) d_BM_isAlike_59 ?_
        refine a_goto (pc := 60) 64 (by decide) d_BM_isAlike_60 ?_
        refine a_istore (pc := 64) (lv' := [(4, .int (1 : Int32)), (0, .ref (gB g + 151)), (1, .int x1), (2, .int x2), (3, .int x3)]) (Nat.le_of_ble_eq_true rfl) rfl d_BM_isAlike_64 ?_
        refine a_iconst (pc := 66) (0 : Int32) (by decide) d_BM_isAlike_66 ?_
        refine a_istore (pc := 67) (lv' := [(5, .int (0 : Int32)), (4, .int (1 : Int32)), (0, .ref (gB g + 151)), (1, .int x1), (2, .int x2), (3, .int x3)]) (Nat.le_of_ble_eq_true rfl) rfl d_BM_isAlike_67 ?_
        refine a_sub (pc := 69) [2, 3, 4, 1, 0] rfl ?_
        exact h
    · replace h := h.2 c0
      refine a_iconst (pc := 50) (0 : Int32) (by decide) d_BM_isAlike_50 ?_
      refine a_goto (pc := 51) 55 (by decide) d_BM_isAlike_51 ?_
      obtain ⟨hx, h⟩ := h
      refine a_iald (pc := 55) sx_152 hx d_BM_isAlike_55 ?_
      refine a_icmp_ne (pc := 56) 63 (by decide) d_BM_isAlike_56 ⟨fun c0 => ?_, fun c0 => ?_⟩
      · replace h := h.1 c0
        refine a_iconst (pc := 63) (0 : Int32) (by decide) d_BM_isAlike_63 ?_
        refine a_istore (pc := 64) (lv' := [(4, .int (0 : Int32)), (0, .ref (gB g + 151)), (1, .int x1), (2, .int x2), (3, .int x3)]) (Nat.le_of_ble_eq_true rfl) rfl d_BM_isAlike_64 ?_
        refine a_iconst (pc := 66) (0 : Int32) (by decide) d_BM_isAlike_66 ?_
        refine a_istore (pc := 67) (lv' := [(5, .int (0 : Int32)), (4, .int (0 : Int32)), (0, .ref (gB g + 151)), (1, .int x1), (2, .int x2), (3, .int x3)]) (Nat.le_of_ble_eq_true rfl) rfl d_BM_isAlike_67 ?_
        refine a_sub (pc := 69) [2, 3, 4, 1, 0] rfl ?_
        exact h
      · replace h := h.2 c0
        refine a_iconst (pc := 59) (1 : Int32) (by decide) d_BM_isAlike_59 ?_
        refine a_goto (pc := 60) 64 (by decide) d_BM_isAlike_60 ?_
        refine a_istore (pc := 64) (lv' := [(4, .int (1 : Int32)), (0, .ref (gB g + 151)), (1, .int x1), (2, .int x2), (3, .int x3)]) (Nat.le_of_ble_eq_true rfl) rfl d_BM_isAlike_64 ?_
        refine a_iconst (pc := 66) (0 : Int32) (by decide) d_BM_isAlike_66 ?_
        refine a_istore (pc := 67) (lv' := [(5, .int (0 : Int32)), (4, .int (1 : Int32)), (0, .ref (gB g + 151)), (1, .int x1), (2, .int x2), (3, .int x3)]) (Nat.le_of_ble_eq_true rfl) rfl d_BM_isAlike_67 ?_
        refine a_sub (pc := 69) [2, 3, 4, 1, 0] rfl ?_
        exact h
theorem sg_BM_isAlike_69 {g : Gx} {Q : Int32 → St → Prop} {σ : St} {x1 : Int32} {x2 : Int32} {x4 : Int32} {x5 : Int32}
    (h : ((36 : Int32) ≤ x5 → S_BM_isAlike_133 g Q σ x1 x2 x4 (0 : Int32)) ∧ (¬ (36 : Int32) ≤ x5 → (x4 = 0 → S_BM_isAlike_133 g Q σ x1 x2 x4 (0 : Int32)) ∧ (¬ x4 = 0 → K_BM_isThere g x5 σ (fun (r2 : Int32) (s1 : St) => (r2 = 0 → ∀ u3 : Int32, u3 = x5 + (1 : Int32) → S_BM_isAlike_69 g Q s1 x1 x2 (1 : Int32) u3) ∧ (¬ r2 = 0 → K_BM_turned g x5 x2 s1 (fun (r5 : Int32) (s4 : St) => vp_in (((36 : Int32) * x1) + r5) 288 ∧ (vp_in x5 36 ∧ ((¬ (ai s4 194 ((((36 : Int32) * x1) + r5)).toNatClampNeg) = (ai s4 153 (x5).toNatClampNeg) → ∀ u6 : Int32, u6 = x5 + (1 : Int32) → S_BM_isAlike_69 g Q s4 x1 x2 (0 : Int32) u6) ∧ ((ai s4 194 ((((36 : Int32) * x1) + r5)).toNatClampNeg) = (ai s4 153 (x5).toNatClampNeg) → ∀ u7 : Int32, u7 = x5 + (1 : Int32) → S_BM_isAlike_69 g Q s4 x1 x2 (1 : Int32) u7))))))))) : S_BM_isAlike_69 g Q σ x1 x2 x4 x5 := by
  show Ax g m_BM_isAlike 0 0 (ZI g Q) SH σ 0 0 69 [(0, .ref (gB g + 151)), (1, .int x1), (2, .int x2), (4, .int x4), (5, .int x5)] []
  refine a_iload (pc := 69) 4 rfl d_BM_isAlike_69 ?_
  refine a_bipush (pc := 71) (36 : Int32) (by decide) d_BM_isAlike_71 ?_
  refine a_icmp_ge (pc := 73) 130 (by decide) d_BM_isAlike_73 ⟨fun c0 => ?_, fun c0 => ?_⟩
  · replace h := h.1 c0
    refine a_iconst (pc := 130) (0 : Int32) (by decide) d_BM_isAlike_130 ?_
    refine a_istore (pc := 131) (lv' := [(5, .int (0 : Int32)), (0, .ref (gB g + 151)), (1, .int x1), (2, .int x2), (4, .int x4)]) (Nat.le_of_ble_eq_true rfl) rfl d_BM_isAlike_131 ?_
    refine a_sub (pc := 133) [1, 2, 3, 4, 0] rfl ?_
    exact h
  · replace h := h.2 c0
    refine a_iload (pc := 76) 3 rfl d_BM_isAlike_76 ?_
    refine a_if_eq (pc := 78) 130 (by decide) d_BM_isAlike_78 ⟨fun c0 => ?_, fun c0 => ?_⟩
    · replace h := h.1 c0
      refine a_iconst (pc := 130) (0 : Int32) (by decide) d_BM_isAlike_130 ?_
      refine a_istore (pc := 131) (lv' := [(5, .int (0 : Int32)), (0, .ref (gB g + 151)), (1, .int x1), (2, .int x2), (4, .int x4)]) (Nat.le_of_ble_eq_true rfl) rfl d_BM_isAlike_131 ?_
      refine a_sub (pc := 133) [1, 2, 3, 4, 0] rfl ?_
      exact h
    · replace h := h.2 c0
      refine a_aload_n (pc := 81) 0 rfl rfl d_BM_isAlike_81 ?_
      refine a_iload (pc := 82) 4 rfl d_BM_isAlike_82 ?_
      refine a_callV (pc := 84) (M' := m_BM_isThere) (As := [.int x5]) (st := []) (mc' := 0) (ms' := 0) lk_BM_170 rfl sx_151 rfl (by decide) (by decide) rfl (Nat.le_of_ble_eq_true rfl) (Nat.le_refl 0) (Nat.le_refl 0) d_BM_isAlike_84 h ?_
      rintro _ _ s1 ⟨r2, rfl, rfl, h⟩ -
      show Ax g m_BM_isAlike 0 0 (ZI g Q) SH s1 0 0 87 [(0, .ref (gB g + 151)), (1, .int x1), (2, .int x2), (4, .int x4), (5, .int x5)] [.int r2]
      refine a_if_eq (pc := 87) 117 (by decide) d_BM_isAlike_87 ⟨fun c0 => ?_, fun c0 => ?_⟩
      · replace h := h.1 c0
        refine a_iconst (pc := 117) (1 : Int32) (by decide) d_BM_isAlike_117 ?_
        refine a_goto (pc := 118) 122 (by decide) d_BM_isAlike_118 ?_
        refine a_istore (pc := 122) (lv' := [(4, .int (1 : Int32)), (0, .ref (gB g + 151)), (1, .int x1), (2, .int x2), (5, .int x5)]) (Nat.le_of_ble_eq_true rfl) rfl d_BM_isAlike_122 ?_
        obtain ⟨u3, hu3⟩ : ∃ y : Int32, y = x5 + (1 : Int32) := ⟨_, rfl⟩
        replace h := h u3 hu3
        refine a_iinc (pc := 124) (v := u3) (lv' := [(5, .int u3), (4, .int (1 : Int32)), (0, .ref (gB g + 151)), (1, .int x1), (2, .int x2)]) 4 rfl (by rw [hu3]; rfl) (Nat.le_of_ble_eq_true rfl) rfl d_BM_isAlike_124 ?_
        refine a_goto (pc := 127) 69 (by decide) d_BM_isAlike_127 ?_
        refine a_sub (pc := 69) [2, 3, 4, 1, 0] rfl ?_
        exact h
      · replace h := h.2 c0
        refine a_aload_n (pc := 90) 0 rfl rfl d_BM_isAlike_90 ?_
        refine a_getR (pc := 91) fg_BM_144 sx_151 rfl d_BM_isAlike_91 ?_
        refine a_bipush (pc := 94) (36 : Int32) (by decide) d_BM_isAlike_94 ?_
        refine a_iload_n (pc := 96) 1 rfl rfl d_BM_isAlike_96 ?_
        refine a_imul (pc := 97) d_BM_isAlike_97 ?_
        refine a_aload_n (pc := 98) 0 rfl rfl d_BM_isAlike_98 ?_
        refine a_iload (pc := 99) 4 rfl d_BM_isAlike_99 ?_
        refine a_iload_n (pc := 101) 2 rfl rfl d_BM_isAlike_101 ?_
        refine a_callV (pc := 102) (M' := m_BM_turned) (As := [.int x5, .int x2]) (st := [.int ((36 : Int32) * x1), .ref (gB g + 194)]) (mc' := 0) (ms' := 0) lk_BM_525 rfl sx_151 rfl (by decide) (by decide) rfl (Nat.le_of_ble_eq_true rfl) (Nat.le_refl 0) (Nat.le_refl 0) d_BM_isAlike_102 h ?_
        rintro _ _ s4 ⟨r5, rfl, rfl, h⟩ -
        show Ax g m_BM_isAlike 0 0 (ZI g Q) SH s4 0 0 105 [(0, .ref (gB g + 151)), (1, .int x1), (2, .int x2), (4, .int x4), (5, .int x5)] [.int r5, .int ((36 : Int32) * x1), .ref (gB g + 194)]
        refine a_iadd (pc := 105) d_BM_isAlike_105 ?_
        obtain ⟨hx, h⟩ := h
        refine a_iald (pc := 106) sx_194 hx d_BM_isAlike_106 ?_
        refine a_aload_n (pc := 107) 0 rfl rfl d_BM_isAlike_107 ?_
        refine a_getR (pc := 108) fg_BM_13 sx_151 rfl d_BM_isAlike_108 ?_
        refine a_iload (pc := 111) 4 rfl d_BM_isAlike_111 ?_
        obtain ⟨hx, h⟩ := h
        refine a_iald (pc := 113) sx_153 hx d_BM_isAlike_113 ?_
        refine a_icmp_ne (pc := 114) 121 (by decide) d_BM_isAlike_114 ⟨fun c0 => ?_, fun c0 => ?_⟩
        · replace h := h.1 c0
          refine a_iconst (pc := 121) (0 : Int32) (by decide) d_BM_isAlike_121 ?_
          refine a_istore (pc := 122) (lv' := [(4, .int (0 : Int32)), (0, .ref (gB g + 151)), (1, .int x1), (2, .int x2), (5, .int x5)]) (Nat.le_of_ble_eq_true rfl) rfl d_BM_isAlike_122 ?_
          obtain ⟨u6, hu6⟩ : ∃ y : Int32, y = x5 + (1 : Int32) := ⟨_, rfl⟩
          replace h := h u6 hu6
          refine a_iinc (pc := 124) (v := u6) (lv' := [(5, .int u6), (4, .int (0 : Int32)), (0, .ref (gB g + 151)), (1, .int x1), (2, .int x2)]) 4 rfl (by rw [hu6]; rfl) (Nat.le_of_ble_eq_true rfl) rfl d_BM_isAlike_124 ?_
          refine a_goto (pc := 127) 69 (by decide) d_BM_isAlike_127 ?_
          refine a_sub (pc := 69) [2, 3, 4, 1, 0] rfl ?_
          exact h
        · replace h := h.2 c0
          refine a_iconst (pc := 117) (1 : Int32) (by decide) d_BM_isAlike_117 ?_
          refine a_goto (pc := 118) 122 (by decide) d_BM_isAlike_118 ?_
          refine a_istore (pc := 122) (lv' := [(4, .int (1 : Int32)), (0, .ref (gB g + 151)), (1, .int x1), (2, .int x2), (5, .int x5)]) (Nat.le_of_ble_eq_true rfl) rfl d_BM_isAlike_122 ?_
          obtain ⟨u7, hu7⟩ : ∃ y : Int32, y = x5 + (1 : Int32) := ⟨_, rfl⟩
          replace h := h u7 hu7
          refine a_iinc (pc := 124) (v := u7) (lv' := [(5, .int u7), (4, .int (1 : Int32)), (0, .ref (gB g + 151)), (1, .int x1), (2, .int x2)]) 4 rfl (by rw [hu7]; rfl) (Nat.le_of_ble_eq_true rfl) rfl d_BM_isAlike_124 ?_
          refine a_goto (pc := 127) 69 (by decide) d_BM_isAlike_127 ?_
          refine a_sub (pc := 69) [2, 3, 4, 1, 0] rfl ?_
          exact h
theorem sg_BM_isAlike_133 {g : Gx} {Q : Int32 → St → Prop} {σ : St} {x1 : Int32} {x2 : Int32} {x4 : Int32} {x5 : Int32}
    (h : ((3 : Int32) ≤ x5 → (x4 = 0 ∨ x4 = 1) ∧ Q x4 σ) ∧ (¬ (3 : Int32) ≤ x5 → (x4 = 0 → (x4 = 0 ∨ x4 = 1) ∧ Q x4 σ) ∧ (¬ x4 = 0 → K_BM_lies g x5 σ (fun (r2 : Int32) (s1 : St) => (¬ r2 = (-1 : Int32) → K_BM_lies g x5 s1 (fun (r4 : Int32) (s3 : St) => K_BM_turned g r4 x2 s3 (fun (r6 : Int32) (s5 : St) => S_BM_isAlike_169 g Q s5 x1 x2 x5 r6))) ∧ (r2 = (-1 : Int32) → S_BM_isAlike_169 g Q s1 x1 x2 x5 (-1 : Int32)))))) : S_BM_isAlike_133 g Q σ x1 x2 x4 x5 := by
  show Ax g m_BM_isAlike 0 0 (ZI g Q) SH σ 0 0 133 [(0, .ref (gB g + 151)), (1, .int x1), (2, .int x2), (4, .int x4), (5, .int x5)] []
  refine a_iload (pc := 133) 4 rfl d_BM_isAlike_133 ?_
  refine a_iconst (pc := 135) (3 : Int32) (by decide) d_BM_isAlike_135 ?_
  refine a_icmp_ge (pc := 136) 200 (by decide) d_BM_isAlike_136 ⟨fun c0 => ?_, fun c0 => ?_⟩
  · replace h := h.1 c0
    refine a_iload (pc := 200) 3 rfl d_BM_isAlike_200 ?_
    exact b_zret (pc := 202) rfl h.1 d_BM_isAlike_202 h.2
  · replace h := h.2 c0
    refine a_iload (pc := 139) 3 rfl d_BM_isAlike_139 ?_
    refine a_if_eq (pc := 141) 200 (by decide) d_BM_isAlike_141 ⟨fun c0 => ?_, fun c0 => ?_⟩
    · replace h := h.1 c0
      refine a_iload (pc := 200) 3 rfl d_BM_isAlike_200 ?_
      exact b_zret (pc := 202) rfl h.1 d_BM_isAlike_202 h.2
    · replace h := h.2 c0
      refine a_aload_n (pc := 144) 0 rfl rfl d_BM_isAlike_144 ?_
      refine a_iload (pc := 145) 4 rfl d_BM_isAlike_145 ?_
      refine a_callV (pc := 147) (M' := m_BM_lies) (As := [.int x5]) (st := []) (mc' := 0) (ms' := 0) lk_BM_528 rfl sx_151 rfl (by decide) (by decide) rfl (Nat.le_of_ble_eq_true rfl) (Nat.le_refl 0) (Nat.le_refl 0) d_BM_isAlike_147 h ?_
      rintro _ _ s1 ⟨r2, rfl, rfl, h⟩ -
      show Ax g m_BM_isAlike 0 0 (ZI g Q) SH s1 0 0 150 [(0, .ref (gB g + 151)), (1, .int x1), (2, .int x2), (4, .int x4), (5, .int x5)] [.int r2]
      refine a_iconst (pc := 150) (-1 : Int32) (by decide) d_BM_isAlike_150 ?_
      refine a_icmp_ne (pc := 151) 158 (by decide) d_BM_isAlike_151 ⟨fun c0 => ?_, fun c0 => ?_⟩
      · replace h := h.1 c0
        refine a_aload_n (pc := 158) 0 rfl rfl d_BM_isAlike_158 ?_
        refine a_aload_n (pc := 159) 0 rfl rfl d_BM_isAlike_159 ?_
        refine a_iload (pc := 160) 4 rfl d_BM_isAlike_160 ?_
        refine a_callV (pc := 162) (M' := m_BM_lies) (As := [.int x5]) (st := [.ref (gB g + 151)]) (mc' := 0) (ms' := 0) lk_BM_528 rfl sx_151 rfl (by decide) (by decide) rfl (Nat.le_of_ble_eq_true rfl) (Nat.le_refl 0) (Nat.le_refl 0) d_BM_isAlike_162 h ?_
        rintro _ _ s3 ⟨r4, rfl, rfl, h⟩ -
        show Ax g m_BM_isAlike 0 0 (ZI g Q) SH s3 0 0 165 [(0, .ref (gB g + 151)), (1, .int x1), (2, .int x2), (4, .int x4), (5, .int x5)] [.int r4, .ref (gB g + 151)]
        refine a_iload_n (pc := 165) 2 rfl rfl d_BM_isAlike_165 ?_
        refine a_callV (pc := 166) (M' := m_BM_turned) (As := [.int r4, .int x2]) (st := []) (mc' := 0) (ms' := 0) lk_BM_525 rfl sx_151 rfl (by decide) (by decide) rfl (Nat.le_of_ble_eq_true rfl) (Nat.le_refl 0) (Nat.le_refl 0) d_BM_isAlike_166 h ?_
        rintro _ _ s5 ⟨r6, rfl, rfl, h⟩ -
        show Ax g m_BM_isAlike 0 0 (ZI g Q) SH s5 0 0 169 [(0, .ref (gB g + 151)), (1, .int x1), (2, .int x2), (4, .int x4), (5, .int x5)] [.int r6]
        refine a_sub (pc := 169) [0, 1, 2, 4] rfl ?_
        exact h
      · replace h := h.2 c0
        refine a_iconst (pc := 154) (-1 : Int32) (by decide) d_BM_isAlike_154 ?_
        refine a_goto (pc := 155) 169 (by decide) d_BM_isAlike_155 ?_
        refine a_sub (pc := 169) [0, 1, 2, 4] rfl ?_
        exact h
theorem sg_BM_isAlike_169 {g : Gx} {Q : Int32 → St → Prop} {σ : St} {x1 : Int32} {x2 : Int32} {x5 : Int32} {z0 : Int32}
    (h : vp_in (((3 : Int32) * x1) + x5) 24 ∧ ((¬ (ai σ 195 ((((3 : Int32) * x1) + x5)).toNatClampNeg) = z0 → ∀ u1 : Int32, u1 = x5 + (1 : Int32) → S_BM_isAlike_133 g Q σ x1 x2 (0 : Int32) u1) ∧ ((ai σ 195 ((((3 : Int32) * x1) + x5)).toNatClampNeg) = z0 → ∀ u2 : Int32, u2 = x5 + (1 : Int32) → S_BM_isAlike_133 g Q σ x1 x2 (1 : Int32) u2))) : S_BM_isAlike_169 g Q σ x1 x2 x5 z0 := by
  show Ax g m_BM_isAlike 0 0 (ZI g Q) SH σ 0 0 169 [(0, .ref (gB g + 151)), (1, .int x1), (2, .int x2), (5, .int x5)] [.int z0]
  refine a_istore (pc := 169) (lv' := [(6, .int z0), (0, .ref (gB g + 151)), (1, .int x1), (2, .int x2), (5, .int x5)]) (Nat.le_of_ble_eq_true rfl) rfl d_BM_isAlike_169 ?_
  refine a_aload_n (pc := 171) 1 rfl rfl d_BM_isAlike_171 ?_
  refine a_getR (pc := 172) fg_BM_147 sx_151 rfl d_BM_isAlike_172 ?_
  refine a_iconst (pc := 175) (3 : Int32) (by decide) d_BM_isAlike_175 ?_
  refine a_iload_n (pc := 176) 2 rfl rfl d_BM_isAlike_176 ?_
  refine a_imul (pc := 177) d_BM_isAlike_177 ?_
  refine a_iload (pc := 178) 4 rfl d_BM_isAlike_178 ?_
  refine a_iadd (pc := 180) d_BM_isAlike_180 ?_
  obtain ⟨hx, h⟩ := h
  refine a_iald (pc := 181) sx_195 hx d_BM_isAlike_181 ?_
  refine a_iload (pc := 182) 0 rfl d_BM_isAlike_182 ?_
  refine a_icmp_ne (pc := 184) 191 (by decide) d_BM_isAlike_184 ⟨fun c0 => ?_, fun c0 => ?_⟩
  · replace h := h.1 c0
    refine a_iconst (pc := 191) (0 : Int32) (by decide) d_BM_isAlike_191 ?_
    refine a_istore (pc := 192) (lv' := [(4, .int (0 : Int32)), (6, .int z0), (0, .ref (gB g + 151)), (1, .int x1), (2, .int x2), (5, .int x5)]) (Nat.le_of_ble_eq_true rfl) rfl d_BM_isAlike_192 ?_
    obtain ⟨u1, hu1⟩ : ∃ y : Int32, y = x5 + (1 : Int32) := ⟨_, rfl⟩
    replace h := h u1 hu1
    refine a_iinc (pc := 194) (v := u1) (lv' := [(5, .int u1), (4, .int (0 : Int32)), (6, .int z0), (0, .ref (gB g + 151)), (1, .int x1), (2, .int x2)]) 5 rfl (by rw [hu1]; rfl) (Nat.le_of_ble_eq_true rfl) rfl d_BM_isAlike_194 ?_
    refine a_goto (pc := 197) 133 (by decide) d_BM_isAlike_197 ?_
    refine a_sub (pc := 133) [3, 4, 5, 1, 0] rfl ?_
    exact h
  · replace h := h.2 c0
    refine a_iconst (pc := 187) (1 : Int32) (by decide) d_BM_isAlike_187 ?_
    refine a_goto (pc := 188) 192 (by decide) d_BM_isAlike_188 ?_
    refine a_istore (pc := 192) (lv' := [(4, .int (1 : Int32)), (6, .int z0), (0, .ref (gB g + 151)), (1, .int x1), (2, .int x2), (5, .int x5)]) (Nat.le_of_ble_eq_true rfl) rfl d_BM_isAlike_192 ?_
    obtain ⟨u2, hu2⟩ : ∃ y : Int32, y = x5 + (1 : Int32) := ⟨_, rfl⟩
    replace h := h u2 hu2
    refine a_iinc (pc := 194) (v := u2) (lv' := [(5, .int u2), (4, .int (1 : Int32)), (6, .int z0), (0, .ref (gB g + 151)), (1, .int x1), (2, .int x2)]) 5 rfl (by rw [hu2]; rfl) (Nat.le_of_ble_eq_true rfl) rfl d_BM_isAlike_194 ?_
    refine a_goto (pc := 197) 133 (by decide) d_BM_isAlike_197 ?_
    refine a_sub (pc := 133) [3, 4, 5, 1, 0] rfl ?_
    exact h
theorem ko_BM_isAlike {g : Gx}  {x1 : Int32} {x2 : Int32} {σ : St} {Q : Int32 → St → Prop} (h : S_BM_isAlike_0 g Q σ x1 x2) : K_BM_isAlike g x1 x2 σ Q := KI.of (show plainName "BallBoxModel" = true by decide) (Nat.le_of_ble_eq_true rfl) h
theorem d_BM_book_0 : decode c_BM_book 0 = .ok (.aload_n 0, 1) := by decide +kernel
theorem d_BM_book_1 : decode c_BM_book 1 = .ok (.invokevirtual 391, 3) := by decide +kernel
theorem d_BM_book_4 : decode c_BM_book 4 = .ok (.ifCond .ne 5, 3) := by decide +kernel
theorem d_BM_book_7 : decode c_BM_book 7 = .ok (.iconst (-1), 1) := by decide +kernel
theorem d_BM_book_8 : decode c_BM_book 8 = .ok (.ireturn, 1) := by decide +kernel
theorem d_BM_book_9 : decode c_BM_book 9 = .ok (.aload_n 0, 1) := by decide +kernel
theorem d_BM_book_10 : decode c_BM_book 10 = .ok (.getfield 531, 3) := by decide +kernel
theorem d_BM_book_13 : decode c_BM_book 13 = .ok (.bipush 8, 2) := by decide +kernel
theorem d_BM_book_15 : decode c_BM_book 15 = .ok (.if_icmp .ge 7, 3) := by decide +kernel
theorem d_BM_book_18 : decode c_BM_book 18 = .ok (.iconst 1, 1) := by decide +kernel
theorem d_BM_book_19 : decode c_BM_book 19 = .ok (.goto 4, 3) := by decide +kernel
theorem d_BM_book_22 : decode c_BM_book 22 = .ok (.iconst 0, 1) := by decide +kernel
theorem d_BM_book_23 : decode c_BM_book 23 = .ok (.istore_n 1, 1) := by decide +kernel
theorem d_BM_book_24 : decode c_BM_book 24 = .ok (.iconst 0, 1) := by decide +kernel
theorem d_BM_book_25 : decode c_BM_book 25 = .ok (.istore_n 2, 1) := by decide +kernel
theorem d_BM_book_26 : decode c_BM_book 26 = .ok (.iload_n 2, 1) := by decide +kernel
theorem d_BM_book_27 : decode c_BM_book 27 = .ok (.aload_n 0, 1) := by decide +kernel
theorem d_BM_book_28 : decode c_BM_book 28 = .ok (.getfield 531, 3) := by decide +kernel
theorem d_BM_book_31 : decode c_BM_book 31 = .ok (.if_icmp .ge 46, 3) := by decide +kernel
theorem d_BM_book_34 : decode c_BM_book 34 = .ok (.iload_n 1, 1) := by decide +kernel
theorem d_BM_book_35 : decode c_BM_book 35 = .ok (.ifCond .eq 42, 3) := by decide +kernel
theorem d_BM_book_38 : decode c_BM_book 38 = .ok (.iconst 0, 1) := by decide +kernel
theorem d_BM_book_39 : decode c_BM_book 39 = .ok (.istore_n 3, 1) := by decide +kernel
theorem d_BM_book_40 : decode c_BM_book 40 = .ok (.iload_n 3, 1) := by decide +kernel
theorem d_BM_book_41 : decode c_BM_book 41 = .ok (.bipush 8, 2) := by decide +kernel
theorem d_BM_book_43 : decode c_BM_book 43 = .ok (.if_icmp .ge 28, 3) := by decide +kernel
theorem d_BM_book_46 : decode c_BM_book 46 = .ok (.iload_n 1, 1) := by decide +kernel
theorem d_BM_book_47 : decode c_BM_book 47 = .ok (.ifCond .eq 24, 3) := by decide +kernel
theorem d_BM_book_50 : decode c_BM_book 50 = .ok (.aload_n 0, 1) := by decide +kernel
theorem d_BM_book_51 : decode c_BM_book 51 = .ok (.iload_n 2, 1) := by decide +kernel
theorem d_BM_book_52 : decode c_BM_book 52 = .ok (.iload_n 3, 1) := by decide +kernel
theorem d_BM_book_53 : decode c_BM_book 53 = .ok (.invokevirtual 534, 3) := by decide +kernel
theorem d_BM_book_56 : decode c_BM_book 56 = .ok (.ifCond .ne 7, 3) := by decide +kernel
theorem d_BM_book_59 : decode c_BM_book 59 = .ok (.iconst 1, 1) := by decide +kernel
theorem d_BM_book_60 : decode c_BM_book 60 = .ok (.goto 4, 3) := by decide +kernel
theorem d_BM_book_63 : decode c_BM_book 63 = .ok (.iconst 0, 1) := by decide +kernel
theorem d_BM_book_64 : decode c_BM_book 64 = .ok (.istore_n 1, 1) := by decide +kernel
theorem d_BM_book_65 : decode c_BM_book 65 = .ok (.iinc 3 1, 3) := by decide +kernel
theorem d_BM_book_68 : decode c_BM_book 68 = .ok (.goto (-28), 3) := by decide +kernel
theorem d_BM_book_71 : decode c_BM_book 71 = .ok (.iinc 2 1, 3) := by decide +kernel
theorem d_BM_book_74 : decode c_BM_book 74 = .ok (.goto (-48), 3) := by decide +kernel
theorem d_BM_book_77 : decode c_BM_book 77 = .ok (.iload_n 1, 1) := by decide +kernel
theorem d_BM_book_78 : decode c_BM_book 78 = .ok (.ifCond .ne 6, 3) := by decide +kernel
theorem d_BM_book_81 : decode c_BM_book 81 = .ok (.bipush (-2), 2) := by decide +kernel
theorem d_BM_book_83 : decode c_BM_book 83 = .ok (.ireturn, 1) := by decide +kernel
theorem d_BM_book_84 : decode c_BM_book 84 = .ok (.aload_n 0, 1) := by decide +kernel
theorem d_BM_book_85 : decode c_BM_book 85 = .ok (.getfield 531, 3) := by decide +kernel
theorem d_BM_book_88 : decode c_BM_book 88 = .ok (.istore_n 2, 1) := by decide +kernel
theorem d_BM_book_89 : decode c_BM_book 89 = .ok (.aload_n 0, 1) := by decide +kernel
theorem d_BM_book_90 : decode c_BM_book 90 = .ok (.getfield 138, 3) := by decide +kernel
theorem d_BM_book_93 : decode c_BM_book 93 = .ok (.iload_n 2, 1) := by decide +kernel
theorem d_BM_book_94 : decode c_BM_book 94 = .ok (.aload_n 0, 1) := by decide +kernel
theorem d_BM_book_95 : decode c_BM_book 95 = .ok (.getfield 9, 3) := by decide +kernel
theorem d_BM_book_98 : decode c_BM_book 98 = .ok (.iconst 0, 1) := by decide +kernel
theorem d_BM_book_99 : decode c_BM_book 99 = .ok (.iaload, 1) := by decide +kernel
theorem d_BM_book_100 : decode c_BM_book 100 = .ok (.iastore, 1) := by decide +kernel
theorem d_BM_book_101 : decode c_BM_book 101 = .ok (.aload_n 0, 1) := by decide +kernel
theorem d_BM_book_102 : decode c_BM_book 102 = .ok (.getfield 141, 3) := by decide +kernel
theorem d_BM_book_105 : decode c_BM_book 105 = .ok (.iload_n 2, 1) := by decide +kernel
theorem d_BM_book_106 : decode c_BM_book 106 = .ok (.aload_n 0, 1) := by decide +kernel
theorem d_BM_book_107 : decode c_BM_book 107 = .ok (.getfield 9, 3) := by decide +kernel
theorem d_BM_book_110 : decode c_BM_book 110 = .ok (.iconst 1, 1) := by decide +kernel
theorem d_BM_book_111 : decode c_BM_book 111 = .ok (.iaload, 1) := by decide +kernel
theorem d_BM_book_112 : decode c_BM_book 112 = .ok (.iastore, 1) := by decide +kernel
theorem d_BM_book_113 : decode c_BM_book 113 = .ok (.iconst 0, 1) := by decide +kernel
theorem d_BM_book_114 : decode c_BM_book 114 = .ok (.istore_n 3, 1) := by decide +kernel
theorem d_BM_book_115 : decode c_BM_book 115 = .ok (.iload_n 3, 1) := by decide +kernel
theorem d_BM_book_116 : decode c_BM_book 116 = .ok (.bipush 36, 2) := by decide +kernel
theorem d_BM_book_118 : decode c_BM_book 118 = .ok (.if_icmp .ge 26, 3) := by decide +kernel
theorem d_BM_book_121 : decode c_BM_book 121 = .ok (.aload_n 0, 1) := by decide +kernel
theorem d_BM_book_122 : decode c_BM_book 122 = .ok (.getfield 144, 3) := by decide +kernel
theorem d_BM_book_125 : decode c_BM_book 125 = .ok (.bipush 36, 2) := by decide +kernel
theorem d_BM_book_127 : decode c_BM_book 127 = .ok (.iload_n 2, 1) := by decide +kernel
theorem d_BM_book_128 : decode c_BM_book 128 = .ok (.imul, 1) := by decide +kernel
theorem d_BM_book_129 : decode c_BM_book 129 = .ok (.iload_n 3, 1) := by decide +kernel
theorem d_BM_book_130 : decode c_BM_book 130 = .ok (.iadd, 1) := by decide +kernel
theorem d_BM_book_131 : decode c_BM_book 131 = .ok (.aload_n 0, 1) := by decide +kernel
theorem d_BM_book_132 : decode c_BM_book 132 = .ok (.getfield 13, 3) := by decide +kernel
theorem d_BM_book_135 : decode c_BM_book 135 = .ok (.iload_n 3, 1) := by decide +kernel
theorem d_BM_book_136 : decode c_BM_book 136 = .ok (.iaload, 1) := by decide +kernel
theorem d_BM_book_137 : decode c_BM_book 137 = .ok (.iastore, 1) := by decide +kernel
theorem d_BM_book_138 : decode c_BM_book 138 = .ok (.iinc 3 1, 3) := by decide +kernel
theorem d_BM_book_141 : decode c_BM_book 141 = .ok (.goto (-26), 3) := by decide +kernel
theorem d_BM_book_144 : decode c_BM_book 144 = .ok (.iconst 0, 1) := by decide +kernel
theorem d_BM_book_145 : decode c_BM_book 145 = .ok (.istore_n 3, 1) := by decide +kernel
theorem d_BM_book_146 : decode c_BM_book 146 = .ok (.iload_n 3, 1) := by decide +kernel
theorem d_BM_book_147 : decode c_BM_book 147 = .ok (.iconst 3, 1) := by decide +kernel
theorem d_BM_book_148 : decode c_BM_book 148 = .ok (.if_icmp .ge 24, 3) := by decide +kernel
theorem d_BM_book_151 : decode c_BM_book 151 = .ok (.aload_n 0, 1) := by decide +kernel
theorem d_BM_book_152 : decode c_BM_book 152 = .ok (.getfield 147, 3) := by decide +kernel
theorem d_BM_book_155 : decode c_BM_book 155 = .ok (.iconst 3, 1) := by decide +kernel
theorem d_BM_book_156 : decode c_BM_book 156 = .ok (.iload_n 2, 1) := by decide +kernel
theorem d_BM_book_157 : decode c_BM_book 157 = .ok (.imul, 1) := by decide +kernel
theorem d_BM_book_158 : decode c_BM_book 158 = .ok (.iload_n 3, 1) := by decide +kernel
theorem d_BM_book_159 : decode c_BM_book 159 = .ok (.iadd, 1) := by decide +kernel
theorem d_BM_book_160 : decode c_BM_book 160 = .ok (.aload_n 0, 1) := by decide +kernel
theorem d_BM_book_161 : decode c_BM_book 161 = .ok (.iload_n 3, 1) := by decide +kernel
theorem d_BM_book_162 : decode c_BM_book 162 = .ok (.invokevirtual 528, 3) := by decide +kernel
theorem d_BM_book_165 : decode c_BM_book 165 = .ok (.iastore, 1) := by decide +kernel
theorem d_BM_book_166 : decode c_BM_book 166 = .ok (.iinc 3 1, 3) := by decide +kernel
theorem d_BM_book_169 : decode c_BM_book 169 = .ok (.goto (-23), 3) := by decide +kernel
theorem d_BM_book_172 : decode c_BM_book 172 = .ok (.aload_n 0, 1) := by decide +kernel
theorem d_BM_book_173 : decode c_BM_book 173 = .ok (.getfield 150, 3) := by decide +kernel
theorem d_BM_book_176 : decode c_BM_book 176 = .ok (.iload_n 2, 1) := by decide +kernel
theorem d_BM_book_177 : decode c_BM_book 177 = .ok (.aload_n 0, 1) := by decide +kernel
theorem d_BM_book_178 : decode c_BM_book 178 = .ok (.invokevirtual 440, 3) := by decide +kernel
theorem d_BM_book_181 : decode c_BM_book 181 = .ok (.iastore, 1) := by decide +kernel
theorem d_BM_book_182 : decode c_BM_book 182 = .ok (.aload_n 0, 1) := by decide +kernel
theorem d_BM_book_183 : decode c_BM_book 183 = .ok (.dup, 1) := by decide +kernel
theorem d_BM_book_184 : decode c_BM_book 184 = .ok (.getfield 531, 3) := by decide +kernel
theorem d_BM_book_187 : decode c_BM_book 187 = .ok (.iconst 1, 1) := by decide +kernel
theorem d_BM_book_188 : decode c_BM_book 188 = .ok (.iadd, 1) := by decide +kernel
theorem d_BM_book_189 : decode c_BM_book 189 = .ok (.putfield 531, 3) := by decide +kernel
theorem d_BM_book_192 : decode c_BM_book 192 = .ok (.iload_n 2, 1) := by decide +kernel
theorem d_BM_book_193 : decode c_BM_book 193 = .ok (.ireturn, 1) := by decide +kernel
def S_BM_book_0 (g : Gx) (Q : Int32 → St → Prop) (σ : St) : Prop := Ax g m_BM_book 0 0 (ZI g Q) SH σ 0 0 0 [(0, .ref (gB g + 151))] []
def S_BM_book_26 (g : Gx) (Q : Int32 → St → Prop) (σ : St) (x1 : Int32) (x2 : Int32) : Prop := Ax g m_BM_book 0 0 (ZI g Q) SH σ 0 0 26 [(0, .ref (gB g + 151)), (1, .int x1), (2, .int x2)] []
def S_BM_book_77 (g : Gx) (Q : Int32 → St → Prop) (σ : St) (x1 : Int32) : Prop := Ax g m_BM_book 0 0 (ZI g Q) SH σ 0 0 77 [(0, .ref (gB g + 151)), (1, .int x1)] []
def S_BM_book_40 (g : Gx) (Q : Int32 → St → Prop) (σ : St) (x1 : Int32) (x2 : Int32) (x3 : Int32) : Prop := Ax g m_BM_book 0 0 (ZI g Q) SH σ 0 0 40 [(0, .ref (gB g + 151)), (1, .int x1), (2, .int x2), (3, .int x3)] []
def S_BM_book_115 (g : Gx) (Q : Int32 → St → Prop) (σ : St) (x2 : Int32) (x3 : Int32) : Prop := Ax g m_BM_book 0 0 (ZI g Q) SH σ 0 0 115 [(0, .ref (gB g + 151)), (2, .int x2), (3, .int x3)] []
def S_BM_book_146 (g : Gx) (Q : Int32 → St → Prop) (σ : St) (x2 : Int32) (x3 : Int32) : Prop := Ax g m_BM_book 0 0 (ZI g Q) SH σ 0 0 146 [(0, .ref (gB g + 151)), (2, .int x2), (3, .int x3)] []
theorem sg_BM_book_0 {g : Gx} {Q : Int32 → St → Prop} {σ : St}
    (h : K_BM_isBox g σ (fun (r2 : Int32) (s1 : St) => (¬ r2 = 0 → ((8 : Int32) ≤ (fi s1 151 66) → S_BM_book_26 g Q s1 (0 : Int32) (0 : Int32)) ∧ (¬ (8 : Int32) ≤ (fi s1 151 66) → S_BM_book_26 g Q s1 (1 : Int32) (0 : Int32))) ∧ (r2 = 0 → Q (-1 : Int32) s1))) : S_BM_book_0 g Q σ := by
  show Ax g m_BM_book 0 0 (ZI g Q) SH σ 0 0 0 [(0, .ref (gB g + 151))] []
  refine a_aload_n (pc := 0) 0 rfl rfl d_BM_book_0 ?_
  refine a_callV (pc := 1) (M' := m_BM_isBox) (As := []) (st := []) (mc' := 0) (ms' := 0) lk_BM_391 rfl sx_151 rfl (by decide) (by decide) rfl (Nat.le_of_ble_eq_true rfl) (Nat.le_refl 0) (Nat.le_refl 0) d_BM_book_1 h ?_
  rintro _ _ s1 ⟨r2, rfl, rfl, h⟩ -
  show Ax g m_BM_book 0 0 (ZI g Q) SH s1 0 0 4 [(0, .ref (gB g + 151))] [.int r2]
  refine a_if_ne (pc := 4) 9 (by decide) d_BM_book_4 ⟨fun c0 => ?_, fun c0 => ?_⟩
  · replace h := h.1 c0
    refine a_aload_n (pc := 9) 0 rfl rfl d_BM_book_9 ?_
    refine a_getI (pc := 10) fg_BM_531 sx_151 rfl d_BM_book_10 ?_
    refine a_bipush (pc := 13) (8 : Int32) (by decide) d_BM_book_13 ?_
    refine a_icmp_ge (pc := 15) 22 (by decide) d_BM_book_15 ⟨fun c0 => ?_, fun c0 => ?_⟩
    · replace h := h.1 c0
      refine a_iconst (pc := 22) (0 : Int32) (by decide) d_BM_book_22 ?_
      refine a_istore_n (pc := 23) (lv' := [(1, .int (0 : Int32)), (0, .ref (gB g + 151))]) rfl (Nat.le_of_ble_eq_true rfl) rfl d_BM_book_23 ?_
      refine a_iconst (pc := 24) (0 : Int32) (by decide) d_BM_book_24 ?_
      refine a_istore_n (pc := 25) (lv' := [(2, .int (0 : Int32)), (1, .int (0 : Int32)), (0, .ref (gB g + 151))]) rfl (Nat.le_of_ble_eq_true rfl) rfl d_BM_book_25 ?_
      refine a_sub (pc := 26) [2, 1, 0] rfl ?_
      exact h
    · replace h := h.2 c0
      refine a_iconst (pc := 18) (1 : Int32) (by decide) d_BM_book_18 ?_
      refine a_goto (pc := 19) 23 (by decide) d_BM_book_19 ?_
      refine a_istore_n (pc := 23) (lv' := [(1, .int (1 : Int32)), (0, .ref (gB g + 151))]) rfl (Nat.le_of_ble_eq_true rfl) rfl d_BM_book_23 ?_
      refine a_iconst (pc := 24) (0 : Int32) (by decide) d_BM_book_24 ?_
      refine a_istore_n (pc := 25) (lv' := [(2, .int (0 : Int32)), (1, .int (1 : Int32)), (0, .ref (gB g + 151))]) rfl (Nat.le_of_ble_eq_true rfl) rfl d_BM_book_25 ?_
      refine a_sub (pc := 26) [2, 1, 0] rfl ?_
      exact h
  · replace h := h.2 c0
    refine a_iconst (pc := 7) (-1 : Int32) (by decide) d_BM_book_7 ?_
    exact b_iret (pc := 8) rfl d_BM_book_8 h
theorem sg_BM_book_26 {g : Gx} {Q : Int32 → St → Prop} {σ : St} {x1 : Int32} {x2 : Int32}
    (h : ((fi σ 151 66) ≤ x2 → S_BM_book_77 g Q σ x1) ∧ (¬ (fi σ 151 66) ≤ x2 → (x1 = 0 → S_BM_book_77 g Q σ x1) ∧ (¬ x1 = 0 → S_BM_book_40 g Q σ x1 x2 (0 : Int32)))) : S_BM_book_26 g Q σ x1 x2 := by
  show Ax g m_BM_book 0 0 (ZI g Q) SH σ 0 0 26 [(0, .ref (gB g + 151)), (1, .int x1), (2, .int x2)] []
  refine a_iload_n (pc := 26) 2 rfl rfl d_BM_book_26 ?_
  refine a_aload_n (pc := 27) 0 rfl rfl d_BM_book_27 ?_
  refine a_getI (pc := 28) fg_BM_531 sx_151 rfl d_BM_book_28 ?_
  refine a_icmp_ge (pc := 31) 77 (by decide) d_BM_book_31 ⟨fun c0 => ?_, fun c0 => ?_⟩
  · replace h := h.1 c0
    refine a_sub (pc := 77) [0, 1] rfl ?_
    exact h
  · replace h := h.2 c0
    refine a_iload_n (pc := 34) 1 rfl rfl d_BM_book_34 ?_
    refine a_if_eq (pc := 35) 77 (by decide) d_BM_book_35 ⟨fun c0 => ?_, fun c0 => ?_⟩
    · replace h := h.1 c0
      refine a_sub (pc := 77) [0, 1] rfl ?_
      exact h
    · replace h := h.2 c0
      refine a_iconst (pc := 38) (0 : Int32) (by decide) d_BM_book_38 ?_
      refine a_istore_n (pc := 39) (lv' := [(3, .int (0 : Int32)), (0, .ref (gB g + 151)), (1, .int x1), (2, .int x2)]) rfl (Nat.le_of_ble_eq_true rfl) rfl d_BM_book_39 ?_
      refine a_sub (pc := 40) [1, 2, 3, 0] rfl ?_
      exact h
theorem sg_BM_book_77 {g : Gx} {Q : Int32 → St → Prop} {σ : St} {x1 : Int32}
    (h : (¬ x1 = 0 → ∀ u1 : Int32, u1 = (fi σ 151 66) → vp_in (0 : Int32) 8 ∧ (vp_in u1 8 ∧ (∀ s2 : St, s2 = sai σ 192 (u1).toNatClampNeg (ai σ 152 ((0 : Int32)).toNatClampNeg) → vp_in (1 : Int32) 8 ∧ (vp_in u1 8 ∧ (∀ s3 : St, s3 = sai s2 193 (u1).toNatClampNeg (ai s2 152 ((1 : Int32)).toNatClampNeg) → S_BM_book_115 g Q s3 u1 (0 : Int32)))))) ∧ (x1 = 0 → Q (-2 : Int32) σ)) : S_BM_book_77 g Q σ x1 := by
  show Ax g m_BM_book 0 0 (ZI g Q) SH σ 0 0 77 [(0, .ref (gB g + 151)), (1, .int x1)] []
  refine a_iload_n (pc := 77) 1 rfl rfl d_BM_book_77 ?_
  refine a_if_ne (pc := 78) 84 (by decide) d_BM_book_78 ⟨fun c0 => ?_, fun c0 => ?_⟩
  · replace h := h.1 c0
    refine a_aload_n (pc := 84) 0 rfl rfl d_BM_book_84 ?_
    refine a_getI (pc := 85) fg_BM_531 sx_151 rfl d_BM_book_85 ?_
    refine a_nmi (pc := 88) (fun u1 hu1 => ?_)
    replace h := h u1 hu1
    refine a_istore_n (pc := 88) (lv' := [(2, .int u1), (0, .ref (gB g + 151)), (1, .int x1)]) rfl (Nat.le_of_ble_eq_true rfl) rfl d_BM_book_88 ?_
    refine a_aload_n (pc := 89) 1 rfl rfl d_BM_book_89 ?_
    refine a_getR (pc := 90) fg_BM_138 sx_151 rfl d_BM_book_90 ?_
    refine a_iload_n (pc := 93) 0 rfl rfl d_BM_book_93 ?_
    refine a_aload_n (pc := 94) 1 rfl rfl d_BM_book_94 ?_
    refine a_getR (pc := 95) fg_BM_9 sx_151 rfl d_BM_book_95 ?_
    refine a_iconst (pc := 98) (0 : Int32) (by decide) d_BM_book_98 ?_
    obtain ⟨hx, h⟩ := h
    refine a_iald (pc := 99) sx_152 hx d_BM_book_99 ?_
    obtain ⟨hx, h⟩ := h
    refine a_iast (pc := 100) sx_192 hx d_BM_book_100 ?_
    refine a_nms (fun s2 hs2 => ?_)
    replace h := h s2 hs2
    refine a_aload_n (pc := 101) 1 rfl rfl d_BM_book_101 ?_
    refine a_getR (pc := 102) fg_BM_141 sx_151 rfl d_BM_book_102 ?_
    refine a_iload_n (pc := 105) 0 rfl rfl d_BM_book_105 ?_
    refine a_aload_n (pc := 106) 1 rfl rfl d_BM_book_106 ?_
    refine a_getR (pc := 107) fg_BM_9 sx_151 rfl d_BM_book_107 ?_
    refine a_iconst (pc := 110) (1 : Int32) (by decide) d_BM_book_110 ?_
    obtain ⟨hx, h⟩ := h
    refine a_iald (pc := 111) sx_152 hx d_BM_book_111 ?_
    obtain ⟨hx, h⟩ := h
    refine a_iast (pc := 112) sx_193 hx d_BM_book_112 ?_
    refine a_nms (fun s3 hs3 => ?_)
    replace h := h s3 hs3
    refine a_iconst (pc := 113) (0 : Int32) (by decide) d_BM_book_113 ?_
    refine a_istore_n (pc := 114) (lv' := [(3, .int (0 : Int32)), (2, .int u1), (0, .ref (gB g + 151)), (1, .int x1)]) rfl (Nat.le_of_ble_eq_true rfl) rfl d_BM_book_114 ?_
    refine a_sub (pc := 115) [2, 1, 0] rfl ?_
    exact h
  · replace h := h.2 c0
    refine a_bipush (pc := 81) (-2 : Int32) (by decide) d_BM_book_81 ?_
    exact b_iret (pc := 83) rfl d_BM_book_83 h
theorem sg_BM_book_40 {g : Gx} {Q : Int32 → St → Prop} {σ : St} {x1 : Int32} {x2 : Int32} {x3 : Int32}
    (h : ((8 : Int32) ≤ x3 → ∀ u1 : Int32, u1 = x2 + (1 : Int32) → S_BM_book_26 g Q σ x1 u1) ∧ (¬ (8 : Int32) ≤ x3 → (x1 = 0 → ∀ u2 : Int32, u2 = x2 + (1 : Int32) → S_BM_book_26 g Q σ x1 u2) ∧ (¬ x1 = 0 → K_BM_isAlike g x2 x3 σ (fun (r4 : Int32) (s3 : St) => (¬ r4 = 0 → ∀ u5 : Int32, u5 = x3 + (1 : Int32) → S_BM_book_40 g Q s3 (0 : Int32) x2 u5) ∧ (r4 = 0 → ∀ u6 : Int32, u6 = x3 + (1 : Int32) → S_BM_book_40 g Q s3 (1 : Int32) x2 u6))))) : S_BM_book_40 g Q σ x1 x2 x3 := by
  show Ax g m_BM_book 0 0 (ZI g Q) SH σ 0 0 40 [(0, .ref (gB g + 151)), (1, .int x1), (2, .int x2), (3, .int x3)] []
  refine a_iload_n (pc := 40) 3 rfl rfl d_BM_book_40 ?_
  refine a_bipush (pc := 41) (8 : Int32) (by decide) d_BM_book_41 ?_
  refine a_icmp_ge (pc := 43) 71 (by decide) d_BM_book_43 ⟨fun c0 => ?_, fun c0 => ?_⟩
  · replace h := h.1 c0
    obtain ⟨u1, hu1⟩ : ∃ y : Int32, y = x2 + (1 : Int32) := ⟨_, rfl⟩
    replace h := h u1 hu1
    refine a_iinc (pc := 71) (v := u1) (lv' := [(2, .int u1), (0, .ref (gB g + 151)), (1, .int x1), (3, .int x3)]) 2 rfl (by rw [hu1]; rfl) (Nat.le_of_ble_eq_true rfl) rfl d_BM_book_71 ?_
    refine a_goto (pc := 74) 26 (by decide) d_BM_book_74 ?_
    refine a_sub (pc := 26) [1, 2, 0] rfl ?_
    exact h
  · replace h := h.2 c0
    refine a_iload_n (pc := 46) 1 rfl rfl d_BM_book_46 ?_
    refine a_if_eq (pc := 47) 71 (by decide) d_BM_book_47 ⟨fun c0 => ?_, fun c0 => ?_⟩
    · replace h := h.1 c0
      obtain ⟨u2, hu2⟩ : ∃ y : Int32, y = x2 + (1 : Int32) := ⟨_, rfl⟩
      replace h := h u2 hu2
      refine a_iinc (pc := 71) (v := u2) (lv' := [(2, .int u2), (0, .ref (gB g + 151)), (1, .int x1), (3, .int x3)]) 2 rfl (by rw [hu2]; rfl) (Nat.le_of_ble_eq_true rfl) rfl d_BM_book_71 ?_
      refine a_goto (pc := 74) 26 (by decide) d_BM_book_74 ?_
      refine a_sub (pc := 26) [1, 2, 0] rfl ?_
      exact h
    · replace h := h.2 c0
      refine a_aload_n (pc := 50) 0 rfl rfl d_BM_book_50 ?_
      refine a_iload_n (pc := 51) 2 rfl rfl d_BM_book_51 ?_
      refine a_iload_n (pc := 52) 3 rfl rfl d_BM_book_52 ?_
      refine a_callV (pc := 53) (M' := m_BM_isAlike) (As := [.int x2, .int x3]) (st := []) (mc' := 0) (ms' := 0) lk_BM_534 rfl sx_151 rfl (by decide) (by decide) rfl (Nat.le_of_ble_eq_true rfl) (Nat.le_refl 0) (Nat.le_refl 0) d_BM_book_53 h ?_
      rintro _ _ s3 ⟨r4, rfl, rfl, h⟩ -
      show Ax g m_BM_book 0 0 (ZI g Q) SH s3 0 0 56 [(0, .ref (gB g + 151)), (1, .int x1), (2, .int x2), (3, .int x3)] [.int r4]
      refine a_if_ne (pc := 56) 63 (by decide) d_BM_book_56 ⟨fun c0 => ?_, fun c0 => ?_⟩
      · replace h := h.1 c0
        refine a_iconst (pc := 63) (0 : Int32) (by decide) d_BM_book_63 ?_
        refine a_istore_n (pc := 64) (lv' := [(1, .int (0 : Int32)), (0, .ref (gB g + 151)), (2, .int x2), (3, .int x3)]) rfl (Nat.le_of_ble_eq_true rfl) rfl d_BM_book_64 ?_
        obtain ⟨u5, hu5⟩ : ∃ y : Int32, y = x3 + (1 : Int32) := ⟨_, rfl⟩
        replace h := h u5 hu5
        refine a_iinc (pc := 65) (v := u5) (lv' := [(3, .int u5), (1, .int (0 : Int32)), (0, .ref (gB g + 151)), (2, .int x2)]) 3 rfl (by rw [hu5]; rfl) (Nat.le_of_ble_eq_true rfl) rfl d_BM_book_65 ?_
        refine a_goto (pc := 68) 40 (by decide) d_BM_book_68 ?_
        refine a_sub (pc := 40) [2, 1, 3, 0] rfl ?_
        exact h
      · replace h := h.2 c0
        refine a_iconst (pc := 59) (1 : Int32) (by decide) d_BM_book_59 ?_
        refine a_goto (pc := 60) 64 (by decide) d_BM_book_60 ?_
        refine a_istore_n (pc := 64) (lv' := [(1, .int (1 : Int32)), (0, .ref (gB g + 151)), (2, .int x2), (3, .int x3)]) rfl (Nat.le_of_ble_eq_true rfl) rfl d_BM_book_64 ?_
        obtain ⟨u6, hu6⟩ : ∃ y : Int32, y = x3 + (1 : Int32) := ⟨_, rfl⟩
        replace h := h u6 hu6
        refine a_iinc (pc := 65) (v := u6) (lv' := [(3, .int u6), (1, .int (1 : Int32)), (0, .ref (gB g + 151)), (2, .int x2)]) 3 rfl (by rw [hu6]; rfl) (Nat.le_of_ble_eq_true rfl) rfl d_BM_book_65 ?_
        refine a_goto (pc := 68) 40 (by decide) d_BM_book_68 ?_
        refine a_sub (pc := 40) [2, 1, 3, 0] rfl ?_
        exact h
theorem sg_BM_book_115 {g : Gx} {Q : Int32 → St → Prop} {σ : St} {x2 : Int32} {x3 : Int32}
    (h : ((36 : Int32) ≤ x3 → S_BM_book_146 g Q σ x2 (0 : Int32)) ∧ (¬ (36 : Int32) ≤ x3 → vp_in x3 36 ∧ (vp_in (((36 : Int32) * x2) + x3) 288 ∧ (∀ s1 : St, s1 = sai σ 194 ((((36 : Int32) * x2) + x3)).toNatClampNeg (ai σ 153 (x3).toNatClampNeg) → ∀ u2 : Int32, u2 = x3 + (1 : Int32) → S_BM_book_115 g Q s1 x2 u2)))) : S_BM_book_115 g Q σ x2 x3 := by
  show Ax g m_BM_book 0 0 (ZI g Q) SH σ 0 0 115 [(0, .ref (gB g + 151)), (2, .int x2), (3, .int x3)] []
  refine a_iload_n (pc := 115) 2 rfl rfl d_BM_book_115 ?_
  refine a_bipush (pc := 116) (36 : Int32) (by decide) d_BM_book_116 ?_
  refine a_icmp_ge (pc := 118) 144 (by decide) d_BM_book_118 ⟨fun c0 => ?_, fun c0 => ?_⟩
  · replace h := h.1 c0
    refine a_iconst (pc := 144) (0 : Int32) (by decide) d_BM_book_144 ?_
    refine a_istore_n (pc := 145) (lv' := [(3, .int (0 : Int32)), (0, .ref (gB g + 151)), (2, .int x2)]) rfl (Nat.le_of_ble_eq_true rfl) rfl d_BM_book_145 ?_
    refine a_sub (pc := 146) [1, 2, 0] rfl ?_
    exact h
  · replace h := h.2 c0
    refine a_aload_n (pc := 121) 0 rfl rfl d_BM_book_121 ?_
    refine a_getR (pc := 122) fg_BM_144 sx_151 rfl d_BM_book_122 ?_
    refine a_bipush (pc := 125) (36 : Int32) (by decide) d_BM_book_125 ?_
    refine a_iload_n (pc := 127) 1 rfl rfl d_BM_book_127 ?_
    refine a_imul (pc := 128) d_BM_book_128 ?_
    refine a_iload_n (pc := 129) 2 rfl rfl d_BM_book_129 ?_
    refine a_iadd (pc := 130) d_BM_book_130 ?_
    refine a_aload_n (pc := 131) 0 rfl rfl d_BM_book_131 ?_
    refine a_getR (pc := 132) fg_BM_13 sx_151 rfl d_BM_book_132 ?_
    refine a_iload_n (pc := 135) 2 rfl rfl d_BM_book_135 ?_
    obtain ⟨hx, h⟩ := h
    refine a_iald (pc := 136) sx_153 hx d_BM_book_136 ?_
    obtain ⟨hx, h⟩ := h
    refine a_iast (pc := 137) sx_194 hx d_BM_book_137 ?_
    refine a_nms (fun s1 hs1 => ?_)
    replace h := h s1 hs1
    obtain ⟨u2, hu2⟩ : ∃ y : Int32, y = x3 + (1 : Int32) := ⟨_, rfl⟩
    replace h := h u2 hu2
    refine a_iinc (pc := 138) (v := u2) (lv' := [(3, .int u2), (0, .ref (gB g + 151)), (2, .int x2)]) 2 rfl (by rw [hu2]; rfl) (Nat.le_of_ble_eq_true rfl) rfl d_BM_book_138 ?_
    refine a_goto (pc := 141) 115 (by decide) d_BM_book_141 ?_
    refine a_sub (pc := 115) [1, 2, 0] rfl ?_
    exact h
theorem sg_BM_book_146 {g : Gx} {Q : Int32 → St → Prop} {σ : St} {x2 : Int32} {x3 : Int32}
    (h : ((3 : Int32) ≤ x3 → K_BM_finds g σ (fun (r2 : Int32) (s1 : St) => vp_in x2 8 ∧ (∀ s3 : St, s3 = sai s1 196 (x2).toNatClampNeg r2 → ∀ s4 : St, s4 = sfi s3 151 66 ((fi s3 151 66) + (1 : Int32)) → Q x2 s4))) ∧ (¬ (3 : Int32) ≤ x3 → K_BM_lies g x3 σ (fun (r6 : Int32) (s5 : St) => vp_in (((3 : Int32) * x2) + x3) 24 ∧ (∀ s7 : St, s7 = sai s5 195 ((((3 : Int32) * x2) + x3)).toNatClampNeg r6 → ∀ u8 : Int32, u8 = x3 + (1 : Int32) → S_BM_book_146 g Q s7 x2 u8)))) : S_BM_book_146 g Q σ x2 x3 := by
  show Ax g m_BM_book 0 0 (ZI g Q) SH σ 0 0 146 [(0, .ref (gB g + 151)), (2, .int x2), (3, .int x3)] []
  refine a_iload_n (pc := 146) 2 rfl rfl d_BM_book_146 ?_
  refine a_iconst (pc := 147) (3 : Int32) (by decide) d_BM_book_147 ?_
  refine a_icmp_ge (pc := 148) 172 (by decide) d_BM_book_148 ⟨fun c0 => ?_, fun c0 => ?_⟩
  · replace h := h.1 c0
    refine a_aload_n (pc := 172) 0 rfl rfl d_BM_book_172 ?_
    refine a_getR (pc := 173) fg_BM_150 sx_151 rfl d_BM_book_173 ?_
    refine a_iload_n (pc := 176) 1 rfl rfl d_BM_book_176 ?_
    refine a_aload_n (pc := 177) 0 rfl rfl d_BM_book_177 ?_
    refine a_callV (pc := 178) (M' := m_BM_finds) (As := []) (st := [.int x2, .ref (gB g + 196)]) (mc' := 0) (ms' := 0) lk_BM_440 rfl sx_151 rfl (by decide) (by decide) rfl (Nat.le_of_ble_eq_true rfl) (Nat.le_refl 0) (Nat.le_refl 0) d_BM_book_178 h ?_
    rintro _ _ s1 ⟨r2, rfl, rfl, h⟩ -
    show Ax g m_BM_book 0 0 (ZI g Q) SH s1 0 0 181 [(0, .ref (gB g + 151)), (2, .int x2), (3, .int x3)] [.int r2, .int x2, .ref (gB g + 196)]
    obtain ⟨hx, h⟩ := h
    refine a_iast (pc := 181) sx_196 hx d_BM_book_181 ?_
    refine a_nms (fun s3 hs3 => ?_)
    replace h := h s3 hs3
    refine a_aload_n (pc := 182) 0 rfl rfl d_BM_book_182 ?_
    refine a_dup (pc := 183) rfl d_BM_book_183 ?_
    refine a_getI (pc := 184) fg_BM_531 sx_151 rfl d_BM_book_184 ?_
    refine a_iconst (pc := 187) (1 : Int32) (by decide) d_BM_book_187 ?_
    refine a_iadd (pc := 188) d_BM_book_188 ?_
    refine a_putI (pc := 189) fp_BM_531 sx_151 rfl d_BM_book_189 ?_
    refine a_nms (fun s4 hs4 => ?_)
    replace h := h s4 hs4
    refine a_iload_n (pc := 192) 1 rfl rfl d_BM_book_192 ?_
    exact b_iret (pc := 193) rfl d_BM_book_193 h
  · replace h := h.2 c0
    refine a_aload_n (pc := 151) 0 rfl rfl d_BM_book_151 ?_
    refine a_getR (pc := 152) fg_BM_147 sx_151 rfl d_BM_book_152 ?_
    refine a_iconst (pc := 155) (3 : Int32) (by decide) d_BM_book_155 ?_
    refine a_iload_n (pc := 156) 1 rfl rfl d_BM_book_156 ?_
    refine a_imul (pc := 157) d_BM_book_157 ?_
    refine a_iload_n (pc := 158) 2 rfl rfl d_BM_book_158 ?_
    refine a_iadd (pc := 159) d_BM_book_159 ?_
    refine a_aload_n (pc := 160) 0 rfl rfl d_BM_book_160 ?_
    refine a_iload_n (pc := 161) 2 rfl rfl d_BM_book_161 ?_
    refine a_callV (pc := 162) (M' := m_BM_lies) (As := [.int x3]) (st := [.int (((3 : Int32) * x2) + x3), .ref (gB g + 195)]) (mc' := 0) (ms' := 0) lk_BM_528 rfl sx_151 rfl (by decide) (by decide) rfl (Nat.le_of_ble_eq_true rfl) (Nat.le_refl 0) (Nat.le_refl 0) d_BM_book_162 h ?_
    rintro _ _ s5 ⟨r6, rfl, rfl, h⟩ -
    show Ax g m_BM_book 0 0 (ZI g Q) SH s5 0 0 165 [(0, .ref (gB g + 151)), (2, .int x2), (3, .int x3)] [.int r6, .int (((3 : Int32) * x2) + x3), .ref (gB g + 195)]
    obtain ⟨hx, h⟩ := h
    refine a_iast (pc := 165) sx_195 hx d_BM_book_165 ?_
    refine a_nms (fun s7 hs7 => ?_)
    replace h := h s7 hs7
    obtain ⟨u8, hu8⟩ : ∃ y : Int32, y = x3 + (1 : Int32) := ⟨_, rfl⟩
    replace h := h u8 hu8
    refine a_iinc (pc := 166) (v := u8) (lv' := [(3, .int u8), (0, .ref (gB g + 151)), (2, .int x2)]) 2 rfl (by rw [hu8]; rfl) (Nat.le_of_ble_eq_true rfl) rfl d_BM_book_166 ?_
    refine a_goto (pc := 169) 146 (by decide) d_BM_book_169 ?_
    refine a_sub (pc := 146) [1, 2, 0] rfl ?_
    exact h
theorem ko_BM_book {g : Gx}  {σ : St} {Q : Int32 → St → Prop} (h : S_BM_book_0 g Q σ) : K_BM_book g  σ Q := KI.of (show plainName "BallBoxModel" = true by decide) (Nat.le_of_ble_eq_true rfl) h
theorem d_BM_pain_0 : decode c_BM_pain 0 = .ok (.iload_n 1, 1) := by decide +kernel
theorem d_BM_pain_1 : decode c_BM_pain 1 = .ok (.i2l, 1) := by decide +kernel
theorem d_BM_pain_2 : decode c_BM_pain 2 = .ok (.lconst 0, 1) := by decide +kernel
theorem d_BM_pain_3 : decode c_BM_pain 3 = .ok (.aload_n 0, 1) := by decide +kernel
theorem d_BM_pain_4 : decode c_BM_pain 4 = .ok (.getfield 531, 3) := by decide +kernel
theorem d_BM_pain_7 : decode c_BM_pain 7 = .ok (.iconst 1, 1) := by decide +kernel
theorem d_BM_pain_8 : decode c_BM_pain 8 = .ok (.isub, 1) := by decide +kernel
theorem d_BM_pain_9 : decode c_BM_pain 9 = .ok (.i2l, 1) := by decide +kernel
theorem d_BM_pain_10 : decode c_BM_pain 10 = .ok (.invokestatic 162, 3) := by decide +kernel
theorem d_BM_pain_13 : decode c_BM_pain 13 = .ok (.ifCond .eq 12, 3) := by decide +kernel
theorem d_BM_pain_16 : decode c_BM_pain 16 = .ok (.aload_n 0, 1) := by decide +kernel
theorem d_BM_pain_17 : decode c_BM_pain 17 = .ok (.getfield 150, 3) := by decide +kernel
theorem d_BM_pain_20 : decode c_BM_pain 20 = .ok (.iload_n 1, 1) := by decide +kernel
theorem d_BM_pain_21 : decode c_BM_pain 21 = .ok (.iaload, 1) := by decide +kernel
theorem d_BM_pain_22 : decode c_BM_pain 22 = .ok (.goto 4, 3) := by decide +kernel
theorem d_BM_pain_25 : decode c_BM_pain 25 = .ok (.iconst (-1), 1) := by decide +kernel
theorem d_BM_pain_26 : decode c_BM_pain 26 = .ok (.ireturn, 1) := by decide +kernel
def S_BM_pain_0 (g : Gx) (Q : Int32 → St → Prop) (σ : St) (x1 : Int32) : Prop := Ax g m_BM_pain 0 0 (ZI g Q) SH σ 0 0 0 [(0, .ref (gB g + 151)), (1, .int x1)] []
theorem sg_BM_pain_0 {g : Gx} {Q : Int32 → St → Prop} {σ : St} {x1 : Int32}
    (h : K_BM_in g ((x1).toInt64) (0 : Int64) ((((fi σ 151 66) - (1 : Int32))).toInt64) σ (fun (r2 : Int32) (s1 : St) => (r2 = 0 → Q (-1 : Int32) s1) ∧ (¬ r2 = 0 → vp_in x1 8 ∧ (Q (ai s1 196 (x1).toNatClampNeg) s1)))) : S_BM_pain_0 g Q σ x1 := by
  show Ax g m_BM_pain 0 0 (ZI g Q) SH σ 0 0 0 [(0, .ref (gB g + 151)), (1, .int x1)] []
  refine a_iload_n (pc := 0) 1 rfl rfl d_BM_pain_0 ?_
  refine a_i2l (pc := 1) d_BM_pain_1 ?_
  refine a_lconst (pc := 2) (0 : Int64) (by decide) d_BM_pain_2 ?_
  refine a_aload_n (pc := 3) 0 rfl rfl d_BM_pain_3 ?_
  refine a_getI (pc := 4) fg_BM_531 sx_151 rfl d_BM_pain_4 ?_
  refine a_iconst (pc := 7) (1 : Int32) (by decide) d_BM_pain_7 ?_
  refine a_isub (pc := 8) d_BM_pain_8 ?_
  refine a_i2l (pc := 9) d_BM_pain_9 ?_
  refine a_callS (pc := 10) (M' := m_BM_in) (As := [.long ((x1).toInt64), .long (0 : Int64), .long ((((fi σ 151 66) - (1 : Int32))).toInt64)]) (st := []) (mc' := 0) (ms' := 0) lk_BM_162 rfl (by decide) (by decide) rfl (Nat.le_of_ble_eq_true rfl) (Nat.le_refl 0) (Nat.le_refl 0) d_BM_pain_10 h ?_
  rintro _ _ s1 ⟨r2, rfl, rfl, h⟩ -
  show Ax g m_BM_pain 0 0 (ZI g Q) SH s1 0 0 13 [(0, .ref (gB g + 151)), (1, .int x1)] [.int r2]
  refine a_if_eq (pc := 13) 25 (by decide) d_BM_pain_13 ⟨fun c0 => ?_, fun c0 => ?_⟩
  · replace h := h.1 c0
    refine a_iconst (pc := 25) (-1 : Int32) (by decide) d_BM_pain_25 ?_
    exact b_iret (pc := 26) rfl d_BM_pain_26 h
  · replace h := h.2 c0
    refine a_aload_n (pc := 16) 0 rfl rfl d_BM_pain_16 ?_
    refine a_getR (pc := 17) fg_BM_150 sx_151 rfl d_BM_pain_17 ?_
    refine a_iload_n (pc := 20) 1 rfl rfl d_BM_pain_20 ?_
    obtain ⟨hx, h⟩ := h
    refine a_iald (pc := 21) sx_196 hx d_BM_pain_21 ?_
    refine a_goto (pc := 22) 26 (by decide) d_BM_pain_22 ?_
    exact b_iret (pc := 26) rfl d_BM_pain_26 h
theorem ko_BM_pain {g : Gx}  {x1 : Int32} {σ : St} {Q : Int32 → St → Prop} (h : S_BM_pain_0 g Q σ x1) : K_BM_pain g x1 σ Q := KI.of (show plainName "BallBoxModel" = true by decide) (Nat.le_of_ble_eq_true rfl) h
theorem d_BM_seed_0 : decode c_BM_seed 0 = .ok (.iload_n 1, 1) := by decide +kernel
theorem d_BM_seed_1 : decode c_BM_seed 1 = .ok (.ifCond .ge 5, 3) := by decide +kernel
theorem d_BM_seed_4 : decode c_BM_seed 4 = .ok (.iconst (-1), 1) := by decide +kernel
theorem d_BM_seed_5 : decode c_BM_seed 5 = .ok (.ireturn, 1) := by decide +kernel
theorem d_BM_seed_6 : decode c_BM_seed 6 = .ok (.aload_n 0, 1) := by decide +kernel
theorem d_BM_seed_7 : decode c_BM_seed 7 = .ok (.getfield 9, 3) := by decide +kernel
theorem d_BM_seed_10 : decode c_BM_seed 10 = .ok (.bipush 6, 2) := by decide +kernel
theorem d_BM_seed_12 : decode c_BM_seed 12 = .ok (.iaload, 1) := by decide +kernel
theorem d_BM_seed_13 : decode c_BM_seed 13 = .ok (.istore_n 2, 1) := by decide +kernel
theorem d_BM_seed_14 : decode c_BM_seed 14 = .ok (.aload_n 0, 1) := by decide +kernel
theorem d_BM_seed_15 : decode c_BM_seed 15 = .ok (.getfield 9, 3) := by decide +kernel
theorem d_BM_seed_18 : decode c_BM_seed 18 = .ok (.bipush 6, 2) := by decide +kernel
theorem d_BM_seed_20 : decode c_BM_seed 20 = .ok (.iload_n 1, 1) := by decide +kernel
theorem d_BM_seed_21 : decode c_BM_seed 21 = .ok (.iastore, 1) := by decide +kernel
theorem d_BM_seed_22 : decode c_BM_seed 22 = .ok (.iload_n 2, 1) := by decide +kernel
theorem d_BM_seed_23 : decode c_BM_seed 23 = .ok (.ireturn, 1) := by decide +kernel
def S_BM_seed_0 (g : Gx) (Q : Int32 → St → Prop) (σ : St) (x1 : Int32) : Prop := Ax g m_BM_seed 0 0 (ZI g Q) SH σ 0 0 0 [(0, .ref (gB g + 151)), (1, .int x1)] []
theorem sg_BM_seed_0 {g : Gx} {Q : Int32 → St → Prop} {σ : St} {x1 : Int32}
    (h : (0 ≤ x1 → vp_in (6 : Int32) 8 ∧ (∀ u1 : Int32, u1 = (ai σ 152 ((6 : Int32)).toNatClampNeg) → vp_in (6 : Int32) 8 ∧ (∀ s2 : St, s2 = sai σ 152 ((6 : Int32)).toNatClampNeg x1 → Q u1 s2))) ∧ (¬ 0 ≤ x1 → Q (-1 : Int32) σ)) : S_BM_seed_0 g Q σ x1 := by
  show Ax g m_BM_seed 0 0 (ZI g Q) SH σ 0 0 0 [(0, .ref (gB g + 151)), (1, .int x1)] []
  refine a_iload_n (pc := 0) 1 rfl rfl d_BM_seed_0 ?_
  refine a_if_ge (pc := 1) 6 (by decide) d_BM_seed_1 ⟨fun c0 => ?_, fun c0 => ?_⟩
  · replace h := h.1 c0
    refine a_aload_n (pc := 6) 0 rfl rfl d_BM_seed_6 ?_
    refine a_getR (pc := 7) fg_BM_9 sx_151 rfl d_BM_seed_7 ?_
    refine a_bipush (pc := 10) (6 : Int32) (by decide) d_BM_seed_10 ?_
    obtain ⟨hx, h⟩ := h
    refine a_iald (pc := 12) sx_152 hx d_BM_seed_12 ?_
    refine a_nmi (pc := 13) (fun u1 hu1 => ?_)
    replace h := h u1 hu1
    refine a_istore_n (pc := 13) (lv' := [(2, .int u1), (0, .ref (gB g + 151)), (1, .int x1)]) rfl (Nat.le_of_ble_eq_true rfl) rfl d_BM_seed_13 ?_
    refine a_aload_n (pc := 14) 1 rfl rfl d_BM_seed_14 ?_
    refine a_getR (pc := 15) fg_BM_9 sx_151 rfl d_BM_seed_15 ?_
    refine a_bipush (pc := 18) (6 : Int32) (by decide) d_BM_seed_18 ?_
    refine a_iload_n (pc := 20) 2 rfl rfl d_BM_seed_20 ?_
    obtain ⟨hx, h⟩ := h
    refine a_iast (pc := 21) sx_152 hx d_BM_seed_21 ?_
    refine a_nms (fun s2 hs2 => ?_)
    replace h := h s2 hs2
    refine a_iload_n (pc := 22) 0 rfl rfl d_BM_seed_22 ?_
    exact b_iret (pc := 23) rfl d_BM_seed_23 h
  · replace h := h.2 c0
    refine a_iconst (pc := 4) (-1 : Int32) (by decide) d_BM_seed_4 ?_
    exact b_iret (pc := 5) rfl d_BM_seed_5 h
theorem ko_BM_seed {g : Gx}  {x1 : Int32} {σ : St} {Q : Int32 → St → Prop} (h : S_BM_seed_0 g Q σ x1) : K_BM_seed g x1 σ Q := KI.of (show plainName "BallBoxModel" = true by decide) (Nat.le_of_ble_eq_true rfl) h
theorem d_BM_draws_0 : decode c_BM_draws 0 = .ok (.aload_n 0, 1) := by decide +kernel
theorem d_BM_draws_1 : decode c_BM_draws 1 = .ok (.getfield 9, 3) := by decide +kernel
theorem d_BM_draws_4 : decode c_BM_draws 4 = .ok (.bipush 6, 2) := by decide +kernel
theorem d_BM_draws_6 : decode c_BM_draws 6 = .ok (.aload_n 0, 1) := by decide +kernel
theorem d_BM_draws_7 : decode c_BM_draws 7 = .ok (.getfield 9, 3) := by decide +kernel
theorem d_BM_draws_10 : decode c_BM_draws 10 = .ok (.bipush 6, 2) := by decide +kernel
theorem d_BM_draws_12 : decode c_BM_draws 12 = .ok (.iaload, 1) := by decide +kernel
theorem d_BM_draws_13 : decode c_BM_draws 13 = .ok (.i2l, 1) := by decide +kernel
theorem d_BM_draws_14 : decode c_BM_draws 14 = .ok (.ldc2_w 537, 3) := by decide +kernel
theorem d_BM_draws_17 : decode c_BM_draws 17 = .ok (.lmul, 1) := by decide +kernel
theorem d_BM_draws_18 : decode c_BM_draws 18 = .ok (.ldc2_w 539, 3) := by decide +kernel
theorem d_BM_draws_21 : decode c_BM_draws 21 = .ok (.ladd, 1) := by decide +kernel
theorem d_BM_draws_22 : decode c_BM_draws 22 = .ok (.ldc2_w 541, 3) := by decide +kernel
theorem d_BM_draws_25 : decode c_BM_draws 25 = .ok (.lrem, 1) := by decide +kernel
theorem d_BM_draws_26 : decode c_BM_draws 26 = .ok (.l2i, 1) := by decide +kernel
theorem d_BM_draws_27 : decode c_BM_draws 27 = .ok (.iastore, 1) := by decide +kernel
theorem d_BM_draws_28 : decode c_BM_draws 28 = .ok (.aload_n 0, 1) := by decide +kernel
theorem d_BM_draws_29 : decode c_BM_draws 29 = .ok (.getfield 9, 3) := by decide +kernel
theorem d_BM_draws_32 : decode c_BM_draws 32 = .ok (.bipush 6, 2) := by decide +kernel
theorem d_BM_draws_34 : decode c_BM_draws 34 = .ok (.iaload, 1) := by decide +kernel
theorem d_BM_draws_35 : decode c_BM_draws 35 = .ok (.ldc_w 543, 3) := by decide +kernel
theorem d_BM_draws_38 : decode c_BM_draws 38 = .ok (.idiv, 1) := by decide +kernel
theorem d_BM_draws_39 : decode c_BM_draws 39 = .ok (.iload_n 1, 1) := by decide +kernel
theorem d_BM_draws_40 : decode c_BM_draws 40 = .ok (.irem, 1) := by decide +kernel
theorem d_BM_draws_41 : decode c_BM_draws 41 = .ok (.ireturn, 1) := by decide +kernel
def S_BM_draws_0 (g : Gx) (Q : Int32 → St → Prop) (σ : St) (x1 : Int32) : Prop := Ax g m_BM_draws 0 0 (ZI g Q) SH σ 0 0 0 [(0, .ref (gB g + 151)), (1, .int x1)] []
theorem sg_BM_draws_0 {g : Gx} {Q : Int32 → St → Prop} {σ : St} {x1 : Int32}
    (h : vp_in (6 : Int32) 8 ∧ (vp_in (6 : Int32) 8 ∧ (∀ s1 : St, s1 = sai σ 152 ((6 : Int32)).toNatClampNeg (((((((ai σ 152 ((6 : Int32)).toNatClampNeg)).toInt64 * (1103515245 : Int64)) + (12345 : Int64)) - ((((ai σ 152 ((6 : Int32)).toNatClampNeg)).toInt64 * (1103515245 : Int64)) + (12345 : Int64)) / (2147483648 : Int64) * (2147483648 : Int64))).toInt32) → vp_in (6 : Int32) 8 ∧ (¬ x1 = 0 ∧ (Q (((ai s1 152 ((6 : Int32)).toNatClampNeg) / (65536 : Int32)) - ((ai s1 152 ((6 : Int32)).toNatClampNeg) / (65536 : Int32)) / x1 * x1) s1))))) : S_BM_draws_0 g Q σ x1 := by
  show Ax g m_BM_draws 0 0 (ZI g Q) SH σ 0 0 0 [(0, .ref (gB g + 151)), (1, .int x1)] []
  refine a_aload_n (pc := 0) 0 rfl rfl d_BM_draws_0 ?_
  refine a_getR (pc := 1) fg_BM_9 sx_151 rfl d_BM_draws_1 ?_
  refine a_bipush (pc := 4) (6 : Int32) (by decide) d_BM_draws_4 ?_
  refine a_aload_n (pc := 6) 0 rfl rfl d_BM_draws_6 ?_
  refine a_getR (pc := 7) fg_BM_9 sx_151 rfl d_BM_draws_7 ?_
  refine a_bipush (pc := 10) (6 : Int32) (by decide) d_BM_draws_10 ?_
  obtain ⟨hx, h⟩ := h
  refine a_iald (pc := 12) sx_152 hx d_BM_draws_12 ?_
  refine a_i2l (pc := 13) d_BM_draws_13 ?_
  refine a_ldc2 (pc := 14) tw1927 d_BM_draws_14 ?_
  refine a_lmul (pc := 17) d_BM_draws_17 ?_
  refine a_ldc2 (pc := 18) tw1928 d_BM_draws_18 ?_
  refine a_ladd (pc := 21) d_BM_draws_21 ?_
  refine a_ldc2 (pc := 22) tw1929 d_BM_draws_22 ?_
  refine a_lrem (pc := 25) (by decide) d_BM_draws_25 ?_
  refine a_l2i (pc := 26) d_BM_draws_26 ?_
  obtain ⟨hx, h⟩ := h
  refine a_iast (pc := 27) sx_152 hx d_BM_draws_27 ?_
  refine a_nms (fun s1 hs1 => ?_)
  replace h := h s1 hs1
  refine a_aload_n (pc := 28) 0 rfl rfl d_BM_draws_28 ?_
  refine a_getR (pc := 29) fg_BM_9 sx_151 rfl d_BM_draws_29 ?_
  refine a_bipush (pc := 32) (6 : Int32) (by decide) d_BM_draws_32 ?_
  obtain ⟨hx, h⟩ := h
  refine a_iald (pc := 34) sx_152 hx d_BM_draws_34 ?_
  refine a_ldcw (pc := 35) tw1930 d_BM_draws_35 ?_
  refine a_idiv (pc := 38) (by decide) d_BM_draws_38 ?_
  refine a_iload_n (pc := 39) 1 rfl rfl d_BM_draws_39 ?_
  obtain ⟨hne, h⟩ := h
  refine a_irem (pc := 40) hne d_BM_draws_40 ?_
  exact b_iret (pc := 41) rfl d_BM_draws_41 h
theorem ko_BM_draws {g : Gx}  {x1 : Int32} {σ : St} {Q : Int32 → St → Prop} (h : S_BM_draws_0 g Q σ x1) : K_BM_draws g x1 σ Q := KI.of (show plainName "BallBoxModel" = true by decide) (Nat.le_of_ble_eq_true rfl) h
theorem d_BM_shaken_0 : decode c_BM_shaken 0 = .ok (.aload_n 0, 1) := by decide +kernel
theorem d_BM_shaken_1 : decode c_BM_shaken 1 = .ok (.invokevirtual 391, 3) := by decide +kernel
theorem d_BM_shaken_4 : decode c_BM_shaken 4 = .ok (.ifCond .eq 39, 3) := by decide +kernel
theorem d_BM_shaken_7 : decode c_BM_shaken 7 = .ok (.iload_n 1, 1) := by decide +kernel
theorem d_BM_shaken_8 : decode c_BM_shaken 8 = .ok (.i2l, 1) := by decide +kernel
theorem d_BM_shaken_9 : decode c_BM_shaken 9 = .ok (.lconst 1, 1) := by decide +kernel
theorem d_BM_shaken_10 : decode c_BM_shaken 10 = .ok (.ldc2_w 544, 3) := by decide +kernel
theorem d_BM_shaken_13 : decode c_BM_shaken 13 = .ok (.invokestatic 162, 3) := by decide +kernel
theorem d_BM_shaken_16 : decode c_BM_shaken 16 = .ok (.ifCond .eq 27, 3) := by decide +kernel
theorem d_BM_shaken_19 : decode c_BM_shaken 19 = .ok (.iload_n 2, 1) := by decide +kernel
theorem d_BM_shaken_20 : decode c_BM_shaken 20 = .ok (.i2l, 1) := by decide +kernel
theorem d_BM_shaken_21 : decode c_BM_shaken 21 = .ok (.lconst 1, 1) := by decide +kernel
theorem d_BM_shaken_22 : decode c_BM_shaken 22 = .ok (.ldc2_w 546, 3) := by decide +kernel
theorem d_BM_shaken_25 : decode c_BM_shaken 25 = .ok (.invokestatic 162, 3) := by decide +kernel
theorem d_BM_shaken_28 : decode c_BM_shaken 28 = .ok (.ifCond .eq 15, 3) := by decide +kernel
theorem d_BM_shaken_31 : decode c_BM_shaken 31 = .ok (.iload_n 3, 1) := by decide +kernel
theorem d_BM_shaken_32 : decode c_BM_shaken 32 = .ok (.i2l, 1) := by decide +kernel
theorem d_BM_shaken_33 : decode c_BM_shaken 33 = .ok (.lconst 0, 1) := by decide +kernel
theorem d_BM_shaken_34 : decode c_BM_shaken 34 = .ok (.ldc2_w 479, 3) := by decide +kernel
theorem d_BM_shaken_37 : decode c_BM_shaken 37 = .ok (.invokestatic 162, 3) := by decide +kernel
theorem d_BM_shaken_40 : decode c_BM_shaken 40 = .ok (.ifCond .ne 5, 3) := by decide +kernel
theorem d_BM_shaken_43 : decode c_BM_shaken 43 = .ok (.iconst (-1), 1) := by decide +kernel
theorem d_BM_shaken_44 : decode c_BM_shaken 44 = .ok (.ireturn, 1) := by decide +kernel
theorem d_BM_shaken_45 : decode c_BM_shaken 45 = .ok (.aload_n 0, 1) := by decide +kernel
theorem d_BM_shaken_46 : decode c_BM_shaken 46 = .ok (.getfield 9, 3) := by decide +kernel
theorem d_BM_shaken_49 : decode c_BM_shaken 49 = .ok (.bipush 6, 2) := by decide +kernel
theorem d_BM_shaken_51 : decode c_BM_shaken 51 = .ok (.iaload, 1) := by decide +kernel
theorem d_BM_shaken_52 : decode c_BM_shaken 52 = .ok (.istore 4, 2) := by decide +kernel
theorem d_BM_shaken_54 : decode c_BM_shaken 54 = .ok (.iconst 0, 1) := by decide +kernel
theorem d_BM_shaken_55 : decode c_BM_shaken 55 = .ok (.istore 5, 2) := by decide +kernel
theorem d_BM_shaken_57 : decode c_BM_shaken 57 = .ok (.aload_n 0, 1) := by decide +kernel
theorem d_BM_shaken_58 : decode c_BM_shaken 58 = .ok (.getfield 16, 3) := by decide +kernel
theorem d_BM_shaken_61 : decode c_BM_shaken 61 = .ok (.aload_n 0, 1) := by decide +kernel
theorem d_BM_shaken_62 : decode c_BM_shaken 62 = .ok (.getfield 82, 3) := by decide +kernel
theorem d_BM_shaken_65 : decode c_BM_shaken 65 = .ok (.invokestatic 333, 3) := by decide +kernel
theorem d_BM_shaken_68 : decode c_BM_shaken 68 = .ok (.iconst 0, 1) := by decide +kernel
theorem d_BM_shaken_69 : decode c_BM_shaken 69 = .ok (.istore 6, 2) := by decide +kernel
theorem d_BM_shaken_71 : decode c_BM_shaken 71 = .ok (.iload 6, 2) := by decide +kernel
theorem d_BM_shaken_73 : decode c_BM_shaken 73 = .ok (.iload_n 1, 1) := by decide +kernel
theorem d_BM_shaken_74 : decode c_BM_shaken 74 = .ok (.if_icmp .ge 97, 3) := by decide +kernel
theorem d_BM_shaken_77 : decode c_BM_shaken 77 = .ok (.iconst 0, 1) := by decide +kernel
theorem d_BM_shaken_78 : decode c_BM_shaken 78 = .ok (.istore 7, 2) := by decide +kernel
theorem d_BM_shaken_80 : decode c_BM_shaken 80 = .ok (.iload 7, 2) := by decide +kernel
theorem d_BM_shaken_82 : decode c_BM_shaken 82 = .ok (.iload_n 2, 1) := by decide +kernel
theorem d_BM_shaken_83 : decode c_BM_shaken 83 = .ok (.if_icmp .ge 36, 3) := by decide +kernel
theorem d_BM_shaken_86 : decode c_BM_shaken 86 = .ok (.aload_n 0, 1) := by decide +kernel
theorem d_BM_shaken_87 : decode c_BM_shaken 87 = .ok (.aload_n 0, 1) := by decide +kernel
theorem d_BM_shaken_88 : decode c_BM_shaken 88 = .ok (.iconst 4, 1) := by decide +kernel
theorem d_BM_shaken_89 : decode c_BM_shaken 89 = .ok (.invokevirtual 548, 3) := by decide +kernel
theorem d_BM_shaken_92 : decode c_BM_shaken 92 = .ok (.invokevirtual 396, 3) := by decide +kernel
theorem d_BM_shaken_95 : decode c_BM_shaken 95 = .ok (.iload 5, 2) := by decide +kernel
theorem d_BM_shaken_97 : decode c_BM_shaken 97 = .ok (.iload_n 3, 1) := by decide +kernel
theorem d_BM_shaken_98 : decode c_BM_shaken 98 = .ok (.iconst 2, 1) := by decide +kernel
theorem d_BM_shaken_99 : decode c_BM_shaken 99 = .ok (.if_icmp .ne 10, 3) := by decide +kernel
theorem d_BM_shaken_102 : decode c_BM_shaken 102 = .ok (.aload_n 0, 1) := by decide +kernel
theorem d_BM_shaken_103 : decode c_BM_shaken 103 = .ok (.getfield 385, 3) := by decide +kernel
theorem d_BM_shaken_106 : decode c_BM_shaken 106 = .ok (.goto 4, 3) := by decide +kernel
theorem d_BM_shaken_109 : decode c_BM_shaken 109 = .ok (.iconst 0, 1) := by decide +kernel
theorem d_BM_shaken_110 : decode c_BM_shaken 110 = .ok (.iadd, 1) := by decide +kernel
theorem d_BM_shaken_111 : decode c_BM_shaken 111 = .ok (.istore 5, 2) := by decide +kernel
theorem d_BM_shaken_113 : decode c_BM_shaken 113 = .ok (.iinc 7 1, 3) := by decide +kernel
theorem d_BM_shaken_116 : decode c_BM_shaken 116 = .ok (.goto (-36), 3) := by decide +kernel
theorem d_BM_shaken_119 : decode c_BM_shaken 119 = .ok (.iload 5, 2) := by decide +kernel
theorem d_BM_shaken_121 : decode c_BM_shaken 121 = .ok (.iload_n 3, 1) := by decide +kernel
theorem d_BM_shaken_122 : decode c_BM_shaken 122 = .ok (.ifCond .ne 14, 3) := by decide +kernel
theorem d_BM_shaken_125 : decode c_BM_shaken 125 = .ok (.aload_n 0, 1) := by decide +kernel
theorem d_BM_shaken_126 : decode c_BM_shaken 126 = .ok (.invokevirtual 415, 3) := by decide +kernel
theorem d_BM_shaken_129 : decode c_BM_shaken 129 = .ok (.ifCond .eq 7, 3) := by decide +kernel
theorem d_BM_shaken_132 : decode c_BM_shaken 132 = .ok (.iconst 1, 1) := by decide +kernel
theorem d_BM_shaken_133 : decode c_BM_shaken 133 = .ok (.goto 18, 3) := by decide +kernel
theorem d_BM_shaken_136 : decode c_BM_shaken 136 = .ok (.iload_n 3, 1) := by decide +kernel
theorem d_BM_shaken_137 : decode c_BM_shaken 137 = .ok (.iconst 1, 1) := by decide +kernel
theorem d_BM_shaken_138 : decode c_BM_shaken 138 = .ok (.if_icmp .ne 12, 3) := by decide +kernel
theorem d_BM_shaken_141 : decode c_BM_shaken 141 = .ok (.aload_n 0, 1) := by decide +kernel
theorem d_BM_shaken_142 : decode c_BM_shaken 142 = .ok (.bipush 37, 2) := by decide +kernel
theorem d_BM_shaken_144 : decode c_BM_shaken 144 = .ok (.invokevirtual 185, 3) := by decide +kernel
theorem d_BM_shaken_147 : decode c_BM_shaken 147 = .ok (.goto 4, 3) := by decide +kernel
theorem d_BM_shaken_150 : decode c_BM_shaken 150 = .ok (.iconst 0, 1) := by decide +kernel
theorem d_BM_shaken_151 : decode c_BM_shaken 151 = .ok (.iadd, 1) := by decide +kernel
theorem d_BM_shaken_152 : decode c_BM_shaken 152 = .ok (.istore 5, 2) := by decide +kernel
theorem d_BM_shaken_154 : decode c_BM_shaken 154 = .ok (.aload_n 0, 1) := by decide +kernel
theorem d_BM_shaken_155 : decode c_BM_shaken 155 = .ok (.getfield 82, 3) := by decide +kernel
theorem d_BM_shaken_158 : decode c_BM_shaken 158 = .ok (.aload_n 0, 1) := by decide +kernel
theorem d_BM_shaken_159 : decode c_BM_shaken 159 = .ok (.getfield 16, 3) := by decide +kernel
theorem d_BM_shaken_162 : decode c_BM_shaken 162 = .ok (.invokestatic 333, 3) := by decide +kernel
theorem d_BM_shaken_165 : decode c_BM_shaken 165 = .ok (.iinc 6 1, 3) := by decide +kernel
theorem d_BM_shaken_168 : decode c_BM_shaken 168 = .ok (.goto (-97), 3) := by decide +kernel
theorem d_BM_shaken_171 : decode c_BM_shaken 171 = .ok (.aload_n 0, 1) := by decide +kernel
theorem d_BM_shaken_172 : decode c_BM_shaken 172 = .ok (.getfield 9, 3) := by decide +kernel
theorem d_BM_shaken_175 : decode c_BM_shaken 175 = .ok (.bipush 6, 2) := by decide +kernel
theorem d_BM_shaken_177 : decode c_BM_shaken 177 = .ok (.iload 4, 2) := by decide +kernel
theorem d_BM_shaken_179 : decode c_BM_shaken 179 = .ok (.iastore, 1) := by decide +kernel
theorem d_BM_shaken_180 : decode c_BM_shaken 180 = .ok (.iload 5, 2) := by decide +kernel
theorem d_BM_shaken_182 : decode c_BM_shaken 182 = .ok (.ireturn, 1) := by decide +kernel
def S_BM_shaken_0 (g : Gx) (Q : Int32 → St → Prop) (σ : St) (x1 : Int32) (x2 : Int32) (x3 : Int32) : Prop := Ax g m_BM_shaken 0 0 (ZI g Q) SH σ 0 0 0 [(0, .ref (gB g + 151)), (1, .int x1), (2, .int x2), (3, .int x3)] []
def S_BM_shaken_71 (g : Gx) (Q : Int32 → St → Prop) (σ : St) (x1 : Int32) (x2 : Int32) (x3 : Int32) (x4 : Int32) (x5 : Int32) (x6 : Int32) : Prop := Ax g m_BM_shaken 0 0 (ZI g Q) SH σ 0 0 71 [(0, .ref (gB g + 151)), (1, .int x1), (2, .int x2), (3, .int x3), (4, .int x4), (5, .int x5), (6, .int x6)] []
def S_BM_shaken_80 (g : Gx) (Q : Int32 → St → Prop) (σ : St) (x1 : Int32) (x2 : Int32) (x3 : Int32) (x4 : Int32) (x5 : Int32) (x6 : Int32) (x7 : Int32) : Prop := Ax g m_BM_shaken 0 0 (ZI g Q) SH σ 0 0 80 [(0, .ref (gB g + 151)), (1, .int x1), (2, .int x2), (3, .int x3), (4, .int x4), (5, .int x5), (6, .int x6), (7, .int x7)] []
def S_BM_shaken_136 (g : Gx) (Q : Int32 → St → Prop) (σ : St) (x1 : Int32) (x2 : Int32) (x3 : Int32) (x4 : Int32) (x6 : Int32) (z0 : Int32) : Prop := Ax g m_BM_shaken 0 0 (ZI g Q) SH σ 0 0 136 [(0, .ref (gB g + 151)), (1, .int x1), (2, .int x2), (3, .int x3), (4, .int x4), (6, .int x6)] [.int z0]
theorem sg_BM_shaken_0 {g : Gx} {Q : Int32 → St → Prop} {σ : St} {x1 : Int32} {x2 : Int32} {x3 : Int32}
    (h : K_BM_isBox g σ (fun (r2 : Int32) (s1 : St) => (r2 = 0 → Q (-1 : Int32) s1) ∧ (¬ r2 = 0 → K_BM_in g ((x1).toInt64) (1 : Int64) (20 : Int64) s1 (fun (r4 : Int32) (s3 : St) => (r4 = 0 → Q (-1 : Int32) s3) ∧ (¬ r4 = 0 → K_BM_in g ((x2).toInt64) (1 : Int64) (60 : Int64) s3 (fun (r6 : Int32) (s5 : St) => (r6 = 0 → Q (-1 : Int32) s5) ∧ (¬ r6 = 0 → K_BM_in g ((x3).toInt64) (0 : Int64) (2 : Int64) s5 (fun (r8 : Int32) (s7 : St) => (¬ r8 = 0 → vp_in (6 : Int32) 8 ∧ (∀ u9 : Int32, u9 = (ai s7 152 ((6 : Int32)).toNatClampNeg) → K_BM_lay g 154 174 s7 (fun s10 : St => S_BM_shaken_71 g Q s10 x1 x2 x3 u9 (0 : Int32) (0 : Int32)))) ∧ (r8 = 0 → Q (-1 : Int32) s7))))))))) : S_BM_shaken_0 g Q σ x1 x2 x3 := by
  show Ax g m_BM_shaken 0 0 (ZI g Q) SH σ 0 0 0 [(0, .ref (gB g + 151)), (1, .int x1), (2, .int x2), (3, .int x3)] []
  refine a_aload_n (pc := 0) 0 rfl rfl d_BM_shaken_0 ?_
  refine a_callV (pc := 1) (M' := m_BM_isBox) (As := []) (st := []) (mc' := 0) (ms' := 0) lk_BM_391 rfl sx_151 rfl (by decide) (by decide) rfl (Nat.le_of_ble_eq_true rfl) (Nat.le_refl 0) (Nat.le_refl 0) d_BM_shaken_1 h ?_
  rintro _ _ s1 ⟨r2, rfl, rfl, h⟩ -
  show Ax g m_BM_shaken 0 0 (ZI g Q) SH s1 0 0 4 [(0, .ref (gB g + 151)), (1, .int x1), (2, .int x2), (3, .int x3)] [.int r2]
  refine a_if_eq (pc := 4) 43 (by decide) d_BM_shaken_4 ⟨fun c0 => ?_, fun c0 => ?_⟩
  · replace h := h.1 c0
    refine a_iconst (pc := 43) (-1 : Int32) (by decide) d_BM_shaken_43 ?_
    exact b_iret (pc := 44) rfl d_BM_shaken_44 h
  · replace h := h.2 c0
    refine a_iload_n (pc := 7) 1 rfl rfl d_BM_shaken_7 ?_
    refine a_i2l (pc := 8) d_BM_shaken_8 ?_
    refine a_lconst (pc := 9) (1 : Int64) (by decide) d_BM_shaken_9 ?_
    refine a_ldc2 (pc := 10) tw1921 d_BM_shaken_10 ?_
    refine a_callS (pc := 13) (M' := m_BM_in) (As := [.long ((x1).toInt64), .long (1 : Int64), .long (20 : Int64)]) (st := []) (mc' := 0) (ms' := 0) lk_BM_162 rfl (by decide) (by decide) rfl (Nat.le_of_ble_eq_true rfl) (Nat.le_refl 0) (Nat.le_refl 0) d_BM_shaken_13 h ?_
    rintro _ _ s3 ⟨r4, rfl, rfl, h⟩ -
    show Ax g m_BM_shaken 0 0 (ZI g Q) SH s3 0 0 16 [(0, .ref (gB g + 151)), (1, .int x1), (2, .int x2), (3, .int x3)] [.int r4]
    refine a_if_eq (pc := 16) 43 (by decide) d_BM_shaken_16 ⟨fun c0 => ?_, fun c0 => ?_⟩
    · replace h := h.1 c0
      refine a_iconst (pc := 43) (-1 : Int32) (by decide) d_BM_shaken_43 ?_
      exact b_iret (pc := 44) rfl d_BM_shaken_44 h
    · replace h := h.2 c0
      refine a_iload_n (pc := 19) 2 rfl rfl d_BM_shaken_19 ?_
      refine a_i2l (pc := 20) d_BM_shaken_20 ?_
      refine a_lconst (pc := 21) (1 : Int64) (by decide) d_BM_shaken_21 ?_
      refine a_ldc2 (pc := 22) tw1922 d_BM_shaken_22 ?_
      refine a_callS (pc := 25) (M' := m_BM_in) (As := [.long ((x2).toInt64), .long (1 : Int64), .long (60 : Int64)]) (st := []) (mc' := 0) (ms' := 0) lk_BM_162 rfl (by decide) (by decide) rfl (Nat.le_of_ble_eq_true rfl) (Nat.le_refl 0) (Nat.le_refl 0) d_BM_shaken_25 h ?_
      rintro _ _ s5 ⟨r6, rfl, rfl, h⟩ -
      show Ax g m_BM_shaken 0 0 (ZI g Q) SH s5 0 0 28 [(0, .ref (gB g + 151)), (1, .int x1), (2, .int x2), (3, .int x3)] [.int r6]
      refine a_if_eq (pc := 28) 43 (by decide) d_BM_shaken_28 ⟨fun c0 => ?_, fun c0 => ?_⟩
      · replace h := h.1 c0
        refine a_iconst (pc := 43) (-1 : Int32) (by decide) d_BM_shaken_43 ?_
        exact b_iret (pc := 44) rfl d_BM_shaken_44 h
      · replace h := h.2 c0
        refine a_iload_n (pc := 31) 3 rfl rfl d_BM_shaken_31 ?_
        refine a_i2l (pc := 32) d_BM_shaken_32 ?_
        refine a_lconst (pc := 33) (0 : Int64) (by decide) d_BM_shaken_33 ?_
        refine a_ldc2 (pc := 34) tw1815 d_BM_shaken_34 ?_
        refine a_callS (pc := 37) (M' := m_BM_in) (As := [.long ((x3).toInt64), .long (0 : Int64), .long (2 : Int64)]) (st := []) (mc' := 0) (ms' := 0) lk_BM_162 rfl (by decide) (by decide) rfl (Nat.le_of_ble_eq_true rfl) (Nat.le_refl 0) (Nat.le_refl 0) d_BM_shaken_37 h ?_
        rintro _ _ s7 ⟨r8, rfl, rfl, h⟩ -
        show Ax g m_BM_shaken 0 0 (ZI g Q) SH s7 0 0 40 [(0, .ref (gB g + 151)), (1, .int x1), (2, .int x2), (3, .int x3)] [.int r8]
        refine a_if_ne (pc := 40) 45 (by decide) d_BM_shaken_40 ⟨fun c0 => ?_, fun c0 => ?_⟩
        · replace h := h.1 c0
          refine a_aload_n (pc := 45) 0 rfl rfl d_BM_shaken_45 ?_
          refine a_getR (pc := 46) fg_BM_9 sx_151 rfl d_BM_shaken_46 ?_
          refine a_bipush (pc := 49) (6 : Int32) (by decide) d_BM_shaken_49 ?_
          obtain ⟨hx, h⟩ := h
          refine a_iald (pc := 51) sx_152 hx d_BM_shaken_51 ?_
          refine a_nmi (pc := 52) (fun u9 hu9 => ?_)
          replace h := h u9 hu9
          refine a_istore (pc := 52) (lv' := [(4, .int u9), (0, .ref (gB g + 151)), (1, .int x1), (2, .int x2), (3, .int x3)]) (Nat.le_of_ble_eq_true rfl) rfl d_BM_shaken_52 ?_
          refine a_iconst (pc := 54) (0 : Int32) (by decide) d_BM_shaken_54 ?_
          refine a_istore (pc := 55) (lv' := [(5, .int (0 : Int32)), (4, .int u9), (0, .ref (gB g + 151)), (1, .int x1), (2, .int x2), (3, .int x3)]) (Nat.le_of_ble_eq_true rfl) rfl d_BM_shaken_55 ?_
          refine a_aload_n (pc := 57) 2 rfl rfl d_BM_shaken_57 ?_
          refine a_getR (pc := 58) fg_BM_16 sx_151 rfl d_BM_shaken_58 ?_
          refine a_aload_n (pc := 61) 2 rfl rfl d_BM_shaken_61 ?_
          refine a_getR (pc := 62) fg_BM_82 sx_151 rfl d_BM_shaken_62 ?_
          refine a_callS (pc := 65) (M' := m_BM_lay) (As := [.ref (gB g + 154), .ref (gB g + 174)]) (st := []) (mc' := 0) (ms' := 0) lk_BM_333 rfl (by decide) (by decide) rfl (Nat.le_of_ble_eq_true rfl) (Nat.le_refl 0) (Nat.le_refl 0) d_BM_shaken_65 h ?_
          rintro _ _ s10 ⟨rfl, rfl, h⟩ -
          show Ax g m_BM_shaken 0 0 (ZI g Q) SH s10 0 0 68 [(5, .int (0 : Int32)), (4, .int u9), (0, .ref (gB g + 151)), (1, .int x1), (2, .int x2), (3, .int x3)] []
          refine a_iconst (pc := 68) (0 : Int32) (by decide) d_BM_shaken_68 ?_
          refine a_istore (pc := 69) (lv' := [(6, .int (0 : Int32)), (5, .int (0 : Int32)), (4, .int u9), (0, .ref (gB g + 151)), (1, .int x1), (2, .int x2), (3, .int x3)]) (Nat.le_of_ble_eq_true rfl) rfl d_BM_shaken_69 ?_
          refine a_sub (pc := 71) [3, 4, 5, 6, 2, 1, 0] rfl ?_
          exact h
        · replace h := h.2 c0
          refine a_iconst (pc := 43) (-1 : Int32) (by decide) d_BM_shaken_43 ?_
          exact b_iret (pc := 44) rfl d_BM_shaken_44 h
theorem sg_BM_shaken_71 {g : Gx} {Q : Int32 → St → Prop} {σ : St} {x1 : Int32} {x2 : Int32} {x3 : Int32} {x4 : Int32} {x5 : Int32} {x6 : Int32}
    (h : (x1 ≤ x6 → vp_in (6 : Int32) 8 ∧ (∀ s1 : St, s1 = sai σ 152 ((6 : Int32)).toNatClampNeg x4 → Q x5 s1)) ∧ (¬ x1 ≤ x6 → S_BM_shaken_80 g Q σ x1 x2 x3 x4 x5 x6 (0 : Int32))) : S_BM_shaken_71 g Q σ x1 x2 x3 x4 x5 x6 := by
  show Ax g m_BM_shaken 0 0 (ZI g Q) SH σ 0 0 71 [(0, .ref (gB g + 151)), (1, .int x1), (2, .int x2), (3, .int x3), (4, .int x4), (5, .int x5), (6, .int x6)] []
  refine a_iload (pc := 71) 6 rfl d_BM_shaken_71 ?_
  refine a_iload_n (pc := 73) 1 rfl rfl d_BM_shaken_73 ?_
  refine a_icmp_ge (pc := 74) 171 (by decide) d_BM_shaken_74 ⟨fun c0 => ?_, fun c0 => ?_⟩
  · replace h := h.1 c0
    refine a_aload_n (pc := 171) 0 rfl rfl d_BM_shaken_171 ?_
    refine a_getR (pc := 172) fg_BM_9 sx_151 rfl d_BM_shaken_172 ?_
    refine a_bipush (pc := 175) (6 : Int32) (by decide) d_BM_shaken_175 ?_
    refine a_iload (pc := 177) 4 rfl d_BM_shaken_177 ?_
    obtain ⟨hx, h⟩ := h
    refine a_iast (pc := 179) sx_152 hx d_BM_shaken_179 ?_
    refine a_nms (fun s1 hs1 => ?_)
    replace h := h s1 hs1
    refine a_iload (pc := 180) 5 rfl d_BM_shaken_180 ?_
    exact b_iret (pc := 182) rfl d_BM_shaken_182 h
  · replace h := h.2 c0
    refine a_iconst (pc := 77) (0 : Int32) (by decide) d_BM_shaken_77 ?_
    refine a_istore (pc := 78) (lv' := [(7, .int (0 : Int32)), (0, .ref (gB g + 151)), (1, .int x1), (2, .int x2), (3, .int x3), (4, .int x4), (5, .int x5), (6, .int x6)]) (Nat.le_of_ble_eq_true rfl) rfl d_BM_shaken_78 ?_
    refine a_sub (pc := 80) [1, 2, 3, 4, 5, 6, 7, 0] rfl ?_
    exact h
theorem sg_BM_shaken_80 {g : Gx} {Q : Int32 → St → Prop} {σ : St} {x1 : Int32} {x2 : Int32} {x3 : Int32} {x4 : Int32} {x5 : Int32} {x6 : Int32} {x7 : Int32}
    (h : (x2 ≤ x7 → (¬ x3 = 0 → S_BM_shaken_136 g Q σ x1 x2 x3 x4 x6 x5) ∧ (x3 = 0 → K_BM_areHome g σ (fun (r2 : Int32) (s1 : St) => (r2 = 0 → S_BM_shaken_136 g Q s1 x1 x2 x3 x4 x6 x5) ∧ (¬ r2 = 0 → ∀ u3 : Int32, u3 = (x5 + (1 : Int32)) → K_BM_lay g 174 154 s1 (fun s4 : St => ∀ u5 : Int32, u5 = x6 + (1 : Int32) → S_BM_shaken_71 g Q s4 x1 x2 x3 x4 u3 u5))))) ∧ (¬ x2 ≤ x7 → K_BM_draws g (4 : Int32) σ (fun (r7 : Int32) (s6 : St) => K_BM_tips g r7 s6 (fun s8 : St => (¬ x3 = (2 : Int32) → ∀ u9 : Int32, u9 = (x5 + (0 : Int32)) → ∀ u10 : Int32, u10 = x7 + (1 : Int32) → S_BM_shaken_80 g Q s8 x1 x2 x3 x4 u9 x6 u10) ∧ (x3 = (2 : Int32) → ∀ u11 : Int32, u11 = (x5 + (fi s8 151 35)) → ∀ u12 : Int32, u12 = x7 + (1 : Int32) → S_BM_shaken_80 g Q s8 x1 x2 x3 x4 u11 x6 u12))))) : S_BM_shaken_80 g Q σ x1 x2 x3 x4 x5 x6 x7 := by
  show Ax g m_BM_shaken 0 0 (ZI g Q) SH σ 0 0 80 [(0, .ref (gB g + 151)), (1, .int x1), (2, .int x2), (3, .int x3), (4, .int x4), (5, .int x5), (6, .int x6), (7, .int x7)] []
  refine a_iload (pc := 80) 7 rfl d_BM_shaken_80 ?_
  refine a_iload_n (pc := 82) 2 rfl rfl d_BM_shaken_82 ?_
  refine a_icmp_ge (pc := 83) 119 (by decide) d_BM_shaken_83 ⟨fun c0 => ?_, fun c0 => ?_⟩
  · replace h := h.1 c0
    refine a_iload (pc := 119) 5 rfl d_BM_shaken_119 ?_
    refine a_iload_n (pc := 121) 3 rfl rfl d_BM_shaken_121 ?_
    refine a_if_ne (pc := 122) 136 (by decide) d_BM_shaken_122 ⟨fun c0 => ?_, fun c0 => ?_⟩
    · replace h := h.1 c0
      refine a_sub (pc := 136) [0, 1, 2, 3, 4, 6] rfl ?_
      exact h
    · replace h := h.2 c0
      refine a_aload_n (pc := 125) 0 rfl rfl d_BM_shaken_125 ?_
      refine a_callV (pc := 126) (M' := m_BM_areHome) (As := []) (st := [.int x5]) (mc' := 0) (ms' := 0) lk_BM_415 rfl sx_151 rfl (by decide) (by decide) rfl (Nat.le_of_ble_eq_true rfl) (Nat.le_refl 0) (Nat.le_refl 0) d_BM_shaken_126 h ?_
      rintro _ _ s1 ⟨r2, rfl, rfl, h⟩ -
      show Ax g m_BM_shaken 0 0 (ZI g Q) SH s1 0 0 129 [(0, .ref (gB g + 151)), (1, .int x1), (2, .int x2), (3, .int x3), (4, .int x4), (5, .int x5), (6, .int x6), (7, .int x7)] [.int r2, .int x5]
      refine a_if_eq (pc := 129) 136 (by decide) d_BM_shaken_129 ⟨fun c0 => ?_, fun c0 => ?_⟩
      · replace h := h.1 c0
        refine a_sub (pc := 136) [0, 1, 2, 3, 4, 6] rfl ?_
        exact h
      · replace h := h.2 c0
        refine a_iconst (pc := 132) (1 : Int32) (by decide) d_BM_shaken_132 ?_
        refine a_goto (pc := 133) 151 (by decide) d_BM_shaken_133 ?_
        refine a_iadd (pc := 151) d_BM_shaken_151 ?_
        refine a_nmi (pc := 152) (fun u3 hu3 => ?_)
        replace h := h u3 hu3
        refine a_istore (pc := 152) (lv' := [(5, .int u3), (0, .ref (gB g + 151)), (1, .int x1), (2, .int x2), (3, .int x3), (4, .int x4), (6, .int x6), (7, .int x7)]) (Nat.le_of_ble_eq_true rfl) rfl d_BM_shaken_152 ?_
        refine a_aload_n (pc := 154) 1 rfl rfl d_BM_shaken_154 ?_
        refine a_getR (pc := 155) fg_BM_82 sx_151 rfl d_BM_shaken_155 ?_
        refine a_aload_n (pc := 158) 1 rfl rfl d_BM_shaken_158 ?_
        refine a_getR (pc := 159) fg_BM_16 sx_151 rfl d_BM_shaken_159 ?_
        refine a_callS (pc := 162) (M' := m_BM_lay) (As := [.ref (gB g + 174), .ref (gB g + 154)]) (st := []) (mc' := 0) (ms' := 0) lk_BM_333 rfl (by decide) (by decide) rfl (Nat.le_of_ble_eq_true rfl) (Nat.le_refl 0) (Nat.le_refl 0) d_BM_shaken_162 h ?_
        rintro _ _ s4 ⟨rfl, rfl, h⟩ -
        show Ax g m_BM_shaken 0 0 (ZI g Q) SH s4 0 0 165 [(5, .int u3), (0, .ref (gB g + 151)), (1, .int x1), (2, .int x2), (3, .int x3), (4, .int x4), (6, .int x6), (7, .int x7)] []
        obtain ⟨u5, hu5⟩ : ∃ y : Int32, y = x6 + (1 : Int32) := ⟨_, rfl⟩
        replace h := h u5 hu5
        refine a_iinc (pc := 165) (v := u5) (lv' := [(6, .int u5), (5, .int u3), (0, .ref (gB g + 151)), (1, .int x1), (2, .int x2), (3, .int x3), (4, .int x4), (7, .int x7)]) 6 rfl (by rw [hu5]; rfl) (Nat.le_of_ble_eq_true rfl) rfl d_BM_shaken_165 ?_
        refine a_goto (pc := 168) 71 (by decide) d_BM_shaken_168 ?_
        refine a_sub (pc := 71) [2, 3, 4, 5, 6, 1, 0] rfl ?_
        exact h
  · replace h := h.2 c0
    refine a_aload_n (pc := 86) 0 rfl rfl d_BM_shaken_86 ?_
    refine a_aload_n (pc := 87) 0 rfl rfl d_BM_shaken_87 ?_
    refine a_iconst (pc := 88) (4 : Int32) (by decide) d_BM_shaken_88 ?_
    refine a_callV (pc := 89) (M' := m_BM_draws) (As := [.int (4 : Int32)]) (st := [.ref (gB g + 151)]) (mc' := 0) (ms' := 0) lk_BM_548 rfl sx_151 rfl (by decide) (by decide) rfl (Nat.le_of_ble_eq_true rfl) (Nat.le_refl 0) (Nat.le_refl 0) d_BM_shaken_89 h ?_
    rintro _ _ s6 ⟨r7, rfl, rfl, h⟩ -
    show Ax g m_BM_shaken 0 0 (ZI g Q) SH s6 0 0 92 [(0, .ref (gB g + 151)), (1, .int x1), (2, .int x2), (3, .int x3), (4, .int x4), (5, .int x5), (6, .int x6), (7, .int x7)] [.int r7, .ref (gB g + 151)]
    refine a_callV (pc := 92) (M' := m_BM_tips) (As := [.int r7]) (st := []) (mc' := 0) (ms' := 0) lk_BM_396 rfl sx_151 rfl (by decide) (by decide) rfl (Nat.le_of_ble_eq_true rfl) (Nat.le_refl 0) (Nat.le_refl 0) d_BM_shaken_92 h ?_
    rintro _ _ s8 ⟨rfl, rfl, h⟩ -
    show Ax g m_BM_shaken 0 0 (ZI g Q) SH s8 0 0 95 [(0, .ref (gB g + 151)), (1, .int x1), (2, .int x2), (3, .int x3), (4, .int x4), (5, .int x5), (6, .int x6), (7, .int x7)] []
    refine a_iload (pc := 95) 5 rfl d_BM_shaken_95 ?_
    refine a_iload_n (pc := 97) 3 rfl rfl d_BM_shaken_97 ?_
    refine a_iconst (pc := 98) (2 : Int32) (by decide) d_BM_shaken_98 ?_
    refine a_icmp_ne (pc := 99) 109 (by decide) d_BM_shaken_99 ⟨fun c0 => ?_, fun c0 => ?_⟩
    · replace h := h.1 c0
      refine a_iconst (pc := 109) (0 : Int32) (by decide) d_BM_shaken_109 ?_
      refine a_iadd (pc := 110) d_BM_shaken_110 ?_
      refine a_nmi (pc := 111) (fun u9 hu9 => ?_)
      replace h := h u9 hu9
      refine a_istore (pc := 111) (lv' := [(5, .int u9), (0, .ref (gB g + 151)), (1, .int x1), (2, .int x2), (3, .int x3), (4, .int x4), (6, .int x6), (7, .int x7)]) (Nat.le_of_ble_eq_true rfl) rfl d_BM_shaken_111 ?_
      obtain ⟨u10, hu10⟩ : ∃ y : Int32, y = x7 + (1 : Int32) := ⟨_, rfl⟩
      replace h := h u10 hu10
      refine a_iinc (pc := 113) (v := u10) (lv' := [(7, .int u10), (5, .int u9), (0, .ref (gB g + 151)), (1, .int x1), (2, .int x2), (3, .int x3), (4, .int x4), (6, .int x6)]) 7 rfl (by rw [hu10]; rfl) (Nat.le_of_ble_eq_true rfl) rfl d_BM_shaken_113 ?_
      refine a_goto (pc := 116) 80 (by decide) d_BM_shaken_116 ?_
      refine a_sub (pc := 80) [2, 3, 4, 5, 6, 1, 7, 0] rfl ?_
      exact h
    · replace h := h.2 c0
      refine a_aload_n (pc := 102) 0 rfl rfl d_BM_shaken_102 ?_
      refine a_getI (pc := 103) fg_BM_385 sx_151 rfl d_BM_shaken_103 ?_
      refine a_goto (pc := 106) 110 (by decide) d_BM_shaken_106 ?_
      refine a_iadd (pc := 110) d_BM_shaken_110 ?_
      refine a_nmi (pc := 111) (fun u11 hu11 => ?_)
      replace h := h u11 hu11
      refine a_istore (pc := 111) (lv' := [(5, .int u11), (0, .ref (gB g + 151)), (1, .int x1), (2, .int x2), (3, .int x3), (4, .int x4), (6, .int x6), (7, .int x7)]) (Nat.le_of_ble_eq_true rfl) rfl d_BM_shaken_111 ?_
      obtain ⟨u12, hu12⟩ : ∃ y : Int32, y = x7 + (1 : Int32) := ⟨_, rfl⟩
      replace h := h u12 hu12
      refine a_iinc (pc := 113) (v := u12) (lv' := [(7, .int u12), (5, .int u11), (0, .ref (gB g + 151)), (1, .int x1), (2, .int x2), (3, .int x3), (4, .int x4), (6, .int x6)]) 7 rfl (by rw [hu12]; rfl) (Nat.le_of_ble_eq_true rfl) rfl d_BM_shaken_113 ?_
      refine a_goto (pc := 116) 80 (by decide) d_BM_shaken_116 ?_
      refine a_sub (pc := 80) [2, 3, 4, 5, 6, 1, 7, 0] rfl ?_
      exact h
theorem sg_BM_shaken_136 {g : Gx} {Q : Int32 → St → Prop} {σ : St} {x1 : Int32} {x2 : Int32} {x3 : Int32} {x4 : Int32} {x6 : Int32} {z0 : Int32}
    (h : (¬ x3 = (1 : Int32) → ∀ u1 : Int32, u1 = (z0 + (0 : Int32)) → K_BM_lay g 174 154 σ (fun s2 : St => ∀ u3 : Int32, u3 = x6 + (1 : Int32) → S_BM_shaken_71 g Q s2 x1 x2 x3 x4 u1 u3)) ∧ (x3 = (1 : Int32) → K_BM_fell g (37 : Int32) σ (fun (r5 : Int32) (s4 : St) => ∀ u6 : Int32, u6 = (z0 + r5) → K_BM_lay g 174 154 s4 (fun s7 : St => ∀ u8 : Int32, u8 = x6 + (1 : Int32) → S_BM_shaken_71 g Q s7 x1 x2 x3 x4 u6 u8)))) : S_BM_shaken_136 g Q σ x1 x2 x3 x4 x6 z0 := by
  show Ax g m_BM_shaken 0 0 (ZI g Q) SH σ 0 0 136 [(0, .ref (gB g + 151)), (1, .int x1), (2, .int x2), (3, .int x3), (4, .int x4), (6, .int x6)] [.int z0]
  refine a_iload_n (pc := 136) 3 rfl rfl d_BM_shaken_136 ?_
  refine a_iconst (pc := 137) (1 : Int32) (by decide) d_BM_shaken_137 ?_
  refine a_icmp_ne (pc := 138) 150 (by decide) d_BM_shaken_138 ⟨fun c0 => ?_, fun c0 => ?_⟩
  · replace h := h.1 c0
    refine a_iconst (pc := 150) (0 : Int32) (by decide) d_BM_shaken_150 ?_
    refine a_iadd (pc := 151) d_BM_shaken_151 ?_
    refine a_nmi (pc := 152) (fun u1 hu1 => ?_)
    replace h := h u1 hu1
    refine a_istore (pc := 152) (lv' := [(5, .int u1), (0, .ref (gB g + 151)), (1, .int x1), (2, .int x2), (3, .int x3), (4, .int x4), (6, .int x6)]) (Nat.le_of_ble_eq_true rfl) rfl d_BM_shaken_152 ?_
    refine a_aload_n (pc := 154) 1 rfl rfl d_BM_shaken_154 ?_
    refine a_getR (pc := 155) fg_BM_82 sx_151 rfl d_BM_shaken_155 ?_
    refine a_aload_n (pc := 158) 1 rfl rfl d_BM_shaken_158 ?_
    refine a_getR (pc := 159) fg_BM_16 sx_151 rfl d_BM_shaken_159 ?_
    refine a_callS (pc := 162) (M' := m_BM_lay) (As := [.ref (gB g + 174), .ref (gB g + 154)]) (st := []) (mc' := 0) (ms' := 0) lk_BM_333 rfl (by decide) (by decide) rfl (Nat.le_of_ble_eq_true rfl) (Nat.le_refl 0) (Nat.le_refl 0) d_BM_shaken_162 h ?_
    rintro _ _ s2 ⟨rfl, rfl, h⟩ -
    show Ax g m_BM_shaken 0 0 (ZI g Q) SH s2 0 0 165 [(5, .int u1), (0, .ref (gB g + 151)), (1, .int x1), (2, .int x2), (3, .int x3), (4, .int x4), (6, .int x6)] []
    obtain ⟨u3, hu3⟩ : ∃ y : Int32, y = x6 + (1 : Int32) := ⟨_, rfl⟩
    replace h := h u3 hu3
    refine a_iinc (pc := 165) (v := u3) (lv' := [(6, .int u3), (5, .int u1), (0, .ref (gB g + 151)), (1, .int x1), (2, .int x2), (3, .int x3), (4, .int x4)]) 6 rfl (by rw [hu3]; rfl) (Nat.le_of_ble_eq_true rfl) rfl d_BM_shaken_165 ?_
    refine a_goto (pc := 168) 71 (by decide) d_BM_shaken_168 ?_
    refine a_sub (pc := 71) [2, 3, 4, 5, 6, 1, 0] rfl ?_
    exact h
  · replace h := h.2 c0
    refine a_aload_n (pc := 141) 0 rfl rfl d_BM_shaken_141 ?_
    refine a_bipush (pc := 142) (37 : Int32) (by decide) d_BM_shaken_142 ?_
    refine a_callV (pc := 144) (M' := m_BM_fell) (As := [.int (37 : Int32)]) (st := [.int z0]) (mc' := 0) (ms' := 0) lk_BM_185 rfl sx_151 rfl (by decide) (by decide) rfl (Nat.le_of_ble_eq_true rfl) (Nat.le_refl 0) (Nat.le_refl 0) d_BM_shaken_144 h ?_
    rintro _ _ s4 ⟨r5, rfl, rfl, h⟩ -
    show Ax g m_BM_shaken 0 0 (ZI g Q) SH s4 0 0 147 [(0, .ref (gB g + 151)), (1, .int x1), (2, .int x2), (3, .int x3), (4, .int x4), (6, .int x6)] [.int r5, .int z0]
    refine a_goto (pc := 147) 151 (by decide) d_BM_shaken_147 ?_
    refine a_iadd (pc := 151) d_BM_shaken_151 ?_
    refine a_nmi (pc := 152) (fun u6 hu6 => ?_)
    replace h := h u6 hu6
    refine a_istore (pc := 152) (lv' := [(5, .int u6), (0, .ref (gB g + 151)), (1, .int x1), (2, .int x2), (3, .int x3), (4, .int x4), (6, .int x6)]) (Nat.le_of_ble_eq_true rfl) rfl d_BM_shaken_152 ?_
    refine a_aload_n (pc := 154) 1 rfl rfl d_BM_shaken_154 ?_
    refine a_getR (pc := 155) fg_BM_82 sx_151 rfl d_BM_shaken_155 ?_
    refine a_aload_n (pc := 158) 1 rfl rfl d_BM_shaken_158 ?_
    refine a_getR (pc := 159) fg_BM_16 sx_151 rfl d_BM_shaken_159 ?_
    refine a_callS (pc := 162) (M' := m_BM_lay) (As := [.ref (gB g + 174), .ref (gB g + 154)]) (st := []) (mc' := 0) (ms' := 0) lk_BM_333 rfl (by decide) (by decide) rfl (Nat.le_of_ble_eq_true rfl) (Nat.le_refl 0) (Nat.le_refl 0) d_BM_shaken_162 h ?_
    rintro _ _ s7 ⟨rfl, rfl, h⟩ -
    show Ax g m_BM_shaken 0 0 (ZI g Q) SH s7 0 0 165 [(5, .int u6), (0, .ref (gB g + 151)), (1, .int x1), (2, .int x2), (3, .int x3), (4, .int x4), (6, .int x6)] []
    obtain ⟨u8, hu8⟩ : ∃ y : Int32, y = x6 + (1 : Int32) := ⟨_, rfl⟩
    replace h := h u8 hu8
    refine a_iinc (pc := 165) (v := u8) (lv' := [(6, .int u8), (5, .int u6), (0, .ref (gB g + 151)), (1, .int x1), (2, .int x2), (3, .int x3), (4, .int x4)]) 6 rfl (by rw [hu8]; rfl) (Nat.le_of_ble_eq_true rfl) rfl d_BM_shaken_165 ?_
    refine a_goto (pc := 168) 71 (by decide) d_BM_shaken_168 ?_
    refine a_sub (pc := 71) [2, 3, 4, 5, 6, 1, 0] rfl ?_
    exact h
theorem ko_BM_shaken {g : Gx}  {x1 : Int32} {x2 : Int32} {x3 : Int32} {σ : St} {Q : Int32 → St → Prop} (h : S_BM_shaken_0 g Q σ x1 x2 x3) : K_BM_shaken g x1 x2 x3 σ Q := KI.of (show plainName "BallBoxModel" = true by decide) (Nat.le_of_ble_eq_true rfl) h
theorem d_BM_count_0 : decode c_BM_count 0 = .ok (.iconst 0, 1) := by decide +kernel
theorem d_BM_count_1 : decode c_BM_count 1 = .ok (.istore_n 2, 1) := by decide +kernel
theorem d_BM_count_2 : decode c_BM_count 2 = .ok (.iconst 0, 1) := by decide +kernel
theorem d_BM_count_3 : decode c_BM_count 3 = .ok (.istore_n 3, 1) := by decide +kernel
theorem d_BM_count_4 : decode c_BM_count 4 = .ok (.iload_n 3, 1) := by decide +kernel
theorem d_BM_count_5 : decode c_BM_count 5 = .ok (.bipush 36, 2) := by decide +kernel
theorem d_BM_count_7 : decode c_BM_count 7 = .ok (.if_icmp .ge 35, 3) := by decide +kernel
theorem d_BM_count_10 : decode c_BM_count 10 = .ok (.iload_n 2, 1) := by decide +kernel
theorem d_BM_count_11 : decode c_BM_count 11 = .ok (.aload_n 0, 1) := by decide +kernel
theorem d_BM_count_12 : decode c_BM_count 12 = .ok (.iload_n 3, 1) := by decide +kernel
theorem d_BM_count_13 : decode c_BM_count 13 = .ok (.invokevirtual 170, 3) := by decide +kernel
theorem d_BM_count_16 : decode c_BM_count 16 = .ok (.ifCond .eq 17, 3) := by decide +kernel
theorem d_BM_count_19 : decode c_BM_count 19 = .ok (.aload_n 0, 1) := by decide +kernel
theorem d_BM_count_20 : decode c_BM_count 20 = .ok (.getfield 13, 3) := by decide +kernel
theorem d_BM_count_23 : decode c_BM_count 23 = .ok (.iload_n 3, 1) := by decide +kernel
theorem d_BM_count_24 : decode c_BM_count 24 = .ok (.iaload, 1) := by decide +kernel
theorem d_BM_count_25 : decode c_BM_count 25 = .ok (.iconst 1, 1) := by decide +kernel
theorem d_BM_count_26 : decode c_BM_count 26 = .ok (.if_icmp .ne 7, 3) := by decide +kernel
theorem d_BM_count_29 : decode c_BM_count 29 = .ok (.iconst 1, 1) := by decide +kernel
theorem d_BM_count_30 : decode c_BM_count 30 = .ok (.goto 4, 3) := by decide +kernel
theorem d_BM_count_33 : decode c_BM_count 33 = .ok (.iconst 0, 1) := by decide +kernel
theorem d_BM_count_34 : decode c_BM_count 34 = .ok (.iadd, 1) := by decide +kernel
theorem d_BM_count_35 : decode c_BM_count 35 = .ok (.istore_n 2, 1) := by decide +kernel
theorem d_BM_count_36 : decode c_BM_count 36 = .ok (.iinc 3 1, 3) := by decide +kernel
theorem d_BM_count_39 : decode c_BM_count 39 = .ok (.goto (-35), 3) := by decide +kernel
theorem d_BM_count_42 : decode c_BM_count 42 = .ok (.iload_n 1, 1) := by decide +kernel
theorem d_BM_count_43 : decode c_BM_count 43 = .ok (.tableswitch 158 0 13 #[69, 76, 83, 90, 97, 104, 111, 116, 124, 131, 138, 143, 151, 156], 69) := by decide +kernel
theorem d_BM_count_112 : decode c_BM_count 112 = .ok (.aload_n 0, 1) := by decide +kernel
theorem d_BM_count_113 : decode c_BM_count 113 = .ok (.getfield 9, 3) := by decide +kernel
theorem d_BM_count_116 : decode c_BM_count 116 = .ok (.iconst 0, 1) := by decide +kernel
theorem d_BM_count_117 : decode c_BM_count 117 = .ok (.iaload, 1) := by decide +kernel
theorem d_BM_count_118 : decode c_BM_count 118 = .ok (.ireturn, 1) := by decide +kernel
theorem d_BM_count_119 : decode c_BM_count 119 = .ok (.aload_n 0, 1) := by decide +kernel
theorem d_BM_count_120 : decode c_BM_count 120 = .ok (.getfield 9, 3) := by decide +kernel
theorem d_BM_count_123 : decode c_BM_count 123 = .ok (.iconst 1, 1) := by decide +kernel
theorem d_BM_count_124 : decode c_BM_count 124 = .ok (.iaload, 1) := by decide +kernel
theorem d_BM_count_125 : decode c_BM_count 125 = .ok (.ireturn, 1) := by decide +kernel
theorem d_BM_count_126 : decode c_BM_count 126 = .ok (.aload_n 0, 1) := by decide +kernel
theorem d_BM_count_127 : decode c_BM_count 127 = .ok (.getfield 9, 3) := by decide +kernel
theorem d_BM_count_130 : decode c_BM_count 130 = .ok (.iconst 2, 1) := by decide +kernel
theorem d_BM_count_131 : decode c_BM_count 131 = .ok (.iaload, 1) := by decide +kernel
theorem d_BM_count_132 : decode c_BM_count 132 = .ok (.ireturn, 1) := by decide +kernel
theorem d_BM_count_133 : decode c_BM_count 133 = .ok (.aload_n 0, 1) := by decide +kernel
theorem d_BM_count_134 : decode c_BM_count 134 = .ok (.bipush 36, 2) := by decide +kernel
theorem d_BM_count_136 : decode c_BM_count 136 = .ok (.invokevirtual 185, 3) := by decide +kernel
theorem d_BM_count_139 : decode c_BM_count 139 = .ok (.ireturn, 1) := by decide +kernel
theorem d_BM_count_140 : decode c_BM_count 140 = .ok (.aload_n 0, 1) := by decide +kernel
theorem d_BM_count_141 : decode c_BM_count 141 = .ok (.bipush 37, 2) := by decide +kernel
theorem d_BM_count_143 : decode c_BM_count 143 = .ok (.invokevirtual 185, 3) := by decide +kernel
theorem d_BM_count_146 : decode c_BM_count 146 = .ok (.ireturn, 1) := by decide +kernel
theorem d_BM_count_147 : decode c_BM_count 147 = .ok (.aload_n 0, 1) := by decide +kernel
theorem d_BM_count_148 : decode c_BM_count 148 = .ok (.getfield 9, 3) := by decide +kernel
theorem d_BM_count_151 : decode c_BM_count 151 = .ok (.iconst 3, 1) := by decide +kernel
theorem d_BM_count_152 : decode c_BM_count 152 = .ok (.iaload, 1) := by decide +kernel
theorem d_BM_count_153 : decode c_BM_count 153 = .ok (.ireturn, 1) := by decide +kernel
theorem d_BM_count_154 : decode c_BM_count 154 = .ok (.aload_n 0, 1) := by decide +kernel
theorem d_BM_count_155 : decode c_BM_count 155 = .ok (.getfield 347, 3) := by decide +kernel
theorem d_BM_count_158 : decode c_BM_count 158 = .ok (.ireturn, 1) := by decide +kernel
theorem d_BM_count_159 : decode c_BM_count 159 = .ok (.aload_n 0, 1) := by decide +kernel
theorem d_BM_count_160 : decode c_BM_count 160 = .ok (.getfield 9, 3) := by decide +kernel
theorem d_BM_count_163 : decode c_BM_count 163 = .ok (.bipush 7, 2) := by decide +kernel
theorem d_BM_count_165 : decode c_BM_count 165 = .ok (.iaload, 1) := by decide +kernel
theorem d_BM_count_166 : decode c_BM_count 166 = .ok (.ireturn, 1) := by decide +kernel
theorem d_BM_count_167 : decode c_BM_count 167 = .ok (.aload_n 0, 1) := by decide +kernel
theorem d_BM_count_168 : decode c_BM_count 168 = .ok (.getfield 9, 3) := by decide +kernel
theorem d_BM_count_171 : decode c_BM_count 171 = .ok (.iconst 4, 1) := by decide +kernel
theorem d_BM_count_172 : decode c_BM_count 172 = .ok (.iaload, 1) := by decide +kernel
theorem d_BM_count_173 : decode c_BM_count 173 = .ok (.ireturn, 1) := by decide +kernel
theorem d_BM_count_174 : decode c_BM_count 174 = .ok (.aload_n 0, 1) := by decide +kernel
theorem d_BM_count_175 : decode c_BM_count 175 = .ok (.getfield 9, 3) := by decide +kernel
theorem d_BM_count_178 : decode c_BM_count 178 = .ok (.iconst 5, 1) := by decide +kernel
theorem d_BM_count_179 : decode c_BM_count 179 = .ok (.iaload, 1) := by decide +kernel
theorem d_BM_count_180 : decode c_BM_count 180 = .ok (.ireturn, 1) := by decide +kernel
theorem d_BM_count_181 : decode c_BM_count 181 = .ok (.aload_n 0, 1) := by decide +kernel
theorem d_BM_count_182 : decode c_BM_count 182 = .ok (.getfield 531, 3) := by decide +kernel
theorem d_BM_count_185 : decode c_BM_count 185 = .ok (.ireturn, 1) := by decide +kernel
theorem d_BM_count_186 : decode c_BM_count 186 = .ok (.aload_n 0, 1) := by decide +kernel
theorem d_BM_count_187 : decode c_BM_count 187 = .ok (.getfield 9, 3) := by decide +kernel
theorem d_BM_count_190 : decode c_BM_count 190 = .ok (.bipush 6, 2) := by decide +kernel
theorem d_BM_count_192 : decode c_BM_count 192 = .ok (.iaload, 1) := by decide +kernel
theorem d_BM_count_193 : decode c_BM_count 193 = .ok (.ireturn, 1) := by decide +kernel
theorem d_BM_count_194 : decode c_BM_count 194 = .ok (.aload_n 0, 1) := by decide +kernel
theorem d_BM_count_195 : decode c_BM_count 195 = .ok (.getfield 188, 3) := by decide +kernel
theorem d_BM_count_198 : decode c_BM_count 198 = .ok (.ireturn, 1) := by decide +kernel
theorem d_BM_count_199 : decode c_BM_count 199 = .ok (.iload_n 2, 1) := by decide +kernel
theorem d_BM_count_200 : decode c_BM_count 200 = .ok (.ireturn, 1) := by decide +kernel
theorem d_BM_count_201 : decode c_BM_count 201 = .ok (.iconst (-1), 1) := by decide +kernel
theorem d_BM_count_202 : decode c_BM_count 202 = .ok (.ireturn, 1) := by decide +kernel
def S_BM_count_0 (g : Gx) (Q : Int32 → St → Prop) (σ : St) (x1 : Int32) : Prop := Ax g m_BM_count 0 0 (ZI g Q) SH σ 0 0 0 [(0, .ref (gB g + 151)), (1, .int x1)] []
def S_BM_count_4 (g : Gx) (Q : Int32 → St → Prop) (σ : St) (x1 : Int32) (x2 : Int32) (x3 : Int32) : Prop := Ax g m_BM_count 0 0 (ZI g Q) SH σ 0 0 4 [(0, .ref (gB g + 151)), (1, .int x1), (2, .int x2), (3, .int x3)] []
theorem sg_BM_count_0 {g : Gx} {Q : Int32 → St → Prop} {σ : St} {x1 : Int32}
    (h : S_BM_count_4 g Q σ x1 (0 : Int32) (0 : Int32)) : S_BM_count_0 g Q σ x1 := by
  show Ax g m_BM_count 0 0 (ZI g Q) SH σ 0 0 0 [(0, .ref (gB g + 151)), (1, .int x1)] []
  refine a_iconst (pc := 0) (0 : Int32) (by decide) d_BM_count_0 ?_
  refine a_istore_n (pc := 1) (lv' := [(2, .int (0 : Int32)), (0, .ref (gB g + 151)), (1, .int x1)]) rfl (Nat.le_of_ble_eq_true rfl) rfl d_BM_count_1 ?_
  refine a_iconst (pc := 2) (0 : Int32) (by decide) d_BM_count_2 ?_
  refine a_istore_n (pc := 3) (lv' := [(3, .int (0 : Int32)), (2, .int (0 : Int32)), (0, .ref (gB g + 151)), (1, .int x1)]) rfl (Nat.le_of_ble_eq_true rfl) rfl d_BM_count_3 ?_
  refine a_sub (pc := 4) [2, 3, 1, 0] rfl ?_
  exact h
theorem sg_BM_count_4 {g : Gx} {Q : Int32 → St → Prop} {σ : St} {x1 : Int32} {x2 : Int32} {x3 : Int32}
    (h : ((36 : Int32) ≤ x3 → ((x1 = (0 : Int32) → vp_in (0 : Int32) 8 ∧ (Q (ai σ 152 ((0 : Int32)).toNatClampNeg) σ)) ∧ (x1 = (1 : Int32) → vp_in (1 : Int32) 8 ∧ (Q (ai σ 152 ((1 : Int32)).toNatClampNeg) σ)) ∧ (x1 = (2 : Int32) → vp_in (2 : Int32) 8 ∧ (Q (ai σ 152 ((2 : Int32)).toNatClampNeg) σ)) ∧ (x1 = (3 : Int32) → K_BM_fell g (36 : Int32) σ (fun (r2 : Int32) (s1 : St) => Q r2 s1)) ∧ (x1 = (4 : Int32) → K_BM_fell g (37 : Int32) σ (fun (r4 : Int32) (s3 : St) => Q r4 s3)) ∧ (x1 = (5 : Int32) → vp_in (3 : Int32) 8 ∧ (Q (ai σ 152 ((3 : Int32)).toNatClampNeg) σ)) ∧ (x1 = (6 : Int32) → Q (fi σ 151 15) σ) ∧ (x1 = (7 : Int32) → vp_in (7 : Int32) 8 ∧ (Q (ai σ 152 ((7 : Int32)).toNatClampNeg) σ)) ∧ (x1 = (8 : Int32) → vp_in (4 : Int32) 8 ∧ (Q (ai σ 152 ((4 : Int32)).toNatClampNeg) σ)) ∧ (x1 = (9 : Int32) → vp_in (5 : Int32) 8 ∧ (Q (ai σ 152 ((5 : Int32)).toNatClampNeg) σ)) ∧ (x1 = (10 : Int32) → Q (fi σ 151 66) σ) ∧ (x1 = (11 : Int32) → vp_in (6 : Int32) 8 ∧ (Q (ai σ 152 ((6 : Int32)).toNatClampNeg) σ)) ∧ (x1 = (12 : Int32) → Q (fi σ 151 11) σ) ∧ (x1 = (13 : Int32) → Q x2 σ) ∧ (¬ x1 = (0 : Int32) → ¬ x1 = (1 : Int32) → ¬ x1 = (2 : Int32) → ¬ x1 = (3 : Int32) → ¬ x1 = (4 : Int32) → ¬ x1 = (5 : Int32) → ¬ x1 = (6 : Int32) → ¬ x1 = (7 : Int32) → ¬ x1 = (8 : Int32) → ¬ x1 = (9 : Int32) → ¬ x1 = (10 : Int32) → ¬ x1 = (11 : Int32) → ¬ x1 = (12 : Int32) → ¬ x1 = (13 : Int32) → Q (-1 : Int32) σ))) ∧ (¬ (36 : Int32) ≤ x3 → K_BM_isThere g x3 σ (fun (r6 : Int32) (s5 : St) => (r6 = 0 → ∀ u7 : Int32, u7 = (x2 + (0 : Int32)) → ∀ u8 : Int32, u8 = x3 + (1 : Int32) → S_BM_count_4 g Q s5 x1 u7 u8) ∧ (¬ r6 = 0 → vp_in x3 36 ∧ ((¬ (ai s5 153 (x3).toNatClampNeg) = (1 : Int32) → ∀ u9 : Int32, u9 = (x2 + (0 : Int32)) → ∀ u10 : Int32, u10 = x3 + (1 : Int32) → S_BM_count_4 g Q s5 x1 u9 u10) ∧ ((ai s5 153 (x3).toNatClampNeg) = (1 : Int32) → ∀ u11 : Int32, u11 = (x2 + (1 : Int32)) → ∀ u12 : Int32, u12 = x3 + (1 : Int32) → S_BM_count_4 g Q s5 x1 u11 u12)))))) : S_BM_count_4 g Q σ x1 x2 x3 := by
  show Ax g m_BM_count 0 0 (ZI g Q) SH σ 0 0 4 [(0, .ref (gB g + 151)), (1, .int x1), (2, .int x2), (3, .int x3)] []
  refine a_iload_n (pc := 4) 3 rfl rfl d_BM_count_4 ?_
  refine a_bipush (pc := 5) (36 : Int32) (by decide) d_BM_count_5 ?_
  refine a_icmp_ge (pc := 7) 42 (by decide) d_BM_count_7 ⟨fun c0 => ?_, fun c0 => ?_⟩
  · replace h := h.1 c0
    refine a_iload_n (pc := 42) 1 rfl rfl d_BM_count_42 ?_
    by_cases c0 : x1 = (0 : Int32)
    · replace h := h.1 c0
      refine a_tableIn (pc := 43) 112 (off := 69) (by rw [c0]; decide) (by rw [c0]; decide) (by rw [c0]; rfl) (by decide) d_BM_count_43 ?_
      refine a_aload_n (pc := 112) 0 rfl rfl d_BM_count_112 ?_
      refine a_getR (pc := 113) fg_BM_9 sx_151 rfl d_BM_count_113 ?_
      refine a_iconst (pc := 116) (0 : Int32) (by decide) d_BM_count_116 ?_
      obtain ⟨hx, h⟩ := h
      refine a_iald (pc := 117) sx_152 hx d_BM_count_117 ?_
      exact b_iret (pc := 118) rfl d_BM_count_118 h
    replace h := h.2
    by_cases c1 : x1 = (1 : Int32)
    · replace h := h.1 c1
      refine a_tableIn (pc := 43) 119 (off := 76) (by rw [c1]; decide) (by rw [c1]; decide) (by rw [c1]; rfl) (by decide) d_BM_count_43 ?_
      refine a_aload_n (pc := 119) 0 rfl rfl d_BM_count_119 ?_
      refine a_getR (pc := 120) fg_BM_9 sx_151 rfl d_BM_count_120 ?_
      refine a_iconst (pc := 123) (1 : Int32) (by decide) d_BM_count_123 ?_
      obtain ⟨hx, h⟩ := h
      refine a_iald (pc := 124) sx_152 hx d_BM_count_124 ?_
      exact b_iret (pc := 125) rfl d_BM_count_125 h
    replace h := h.2
    by_cases c2 : x1 = (2 : Int32)
    · replace h := h.1 c2
      refine a_tableIn (pc := 43) 126 (off := 83) (by rw [c2]; decide) (by rw [c2]; decide) (by rw [c2]; rfl) (by decide) d_BM_count_43 ?_
      refine a_aload_n (pc := 126) 0 rfl rfl d_BM_count_126 ?_
      refine a_getR (pc := 127) fg_BM_9 sx_151 rfl d_BM_count_127 ?_
      refine a_iconst (pc := 130) (2 : Int32) (by decide) d_BM_count_130 ?_
      obtain ⟨hx, h⟩ := h
      refine a_iald (pc := 131) sx_152 hx d_BM_count_131 ?_
      exact b_iret (pc := 132) rfl d_BM_count_132 h
    replace h := h.2
    by_cases c3 : x1 = (3 : Int32)
    · replace h := h.1 c3
      refine a_tableIn (pc := 43) 133 (off := 90) (by rw [c3]; decide) (by rw [c3]; decide) (by rw [c3]; rfl) (by decide) d_BM_count_43 ?_
      refine a_aload_n (pc := 133) 0 rfl rfl d_BM_count_133 ?_
      refine a_bipush (pc := 134) (36 : Int32) (by decide) d_BM_count_134 ?_
      refine a_callV (pc := 136) (M' := m_BM_fell) (As := [.int (36 : Int32)]) (st := []) (mc' := 0) (ms' := 0) lk_BM_185 rfl sx_151 rfl (by decide) (by decide) rfl (Nat.le_of_ble_eq_true rfl) (Nat.le_refl 0) (Nat.le_refl 0) d_BM_count_136 h ?_
      rintro _ _ s1 ⟨r2, rfl, rfl, h⟩ -
      show Ax g m_BM_count 0 0 (ZI g Q) SH s1 0 0 139 [(0, .ref (gB g + 151)), (1, .int x1), (2, .int x2), (3, .int x3)] [.int r2]
      exact b_iret (pc := 139) rfl d_BM_count_139 h
    replace h := h.2
    by_cases c4 : x1 = (4 : Int32)
    · replace h := h.1 c4
      refine a_tableIn (pc := 43) 140 (off := 97) (by rw [c4]; decide) (by rw [c4]; decide) (by rw [c4]; rfl) (by decide) d_BM_count_43 ?_
      refine a_aload_n (pc := 140) 0 rfl rfl d_BM_count_140 ?_
      refine a_bipush (pc := 141) (37 : Int32) (by decide) d_BM_count_141 ?_
      refine a_callV (pc := 143) (M' := m_BM_fell) (As := [.int (37 : Int32)]) (st := []) (mc' := 0) (ms' := 0) lk_BM_185 rfl sx_151 rfl (by decide) (by decide) rfl (Nat.le_of_ble_eq_true rfl) (Nat.le_refl 0) (Nat.le_refl 0) d_BM_count_143 h ?_
      rintro _ _ s3 ⟨r4, rfl, rfl, h⟩ -
      show Ax g m_BM_count 0 0 (ZI g Q) SH s3 0 0 146 [(0, .ref (gB g + 151)), (1, .int x1), (2, .int x2), (3, .int x3)] [.int r4]
      exact b_iret (pc := 146) rfl d_BM_count_146 h
    replace h := h.2
    by_cases c5 : x1 = (5 : Int32)
    · replace h := h.1 c5
      refine a_tableIn (pc := 43) 147 (off := 104) (by rw [c5]; decide) (by rw [c5]; decide) (by rw [c5]; rfl) (by decide) d_BM_count_43 ?_
      refine a_aload_n (pc := 147) 0 rfl rfl d_BM_count_147 ?_
      refine a_getR (pc := 148) fg_BM_9 sx_151 rfl d_BM_count_148 ?_
      refine a_iconst (pc := 151) (3 : Int32) (by decide) d_BM_count_151 ?_
      obtain ⟨hx, h⟩ := h
      refine a_iald (pc := 152) sx_152 hx d_BM_count_152 ?_
      exact b_iret (pc := 153) rfl d_BM_count_153 h
    replace h := h.2
    by_cases c6 : x1 = (6 : Int32)
    · replace h := h.1 c6
      refine a_tableIn (pc := 43) 154 (off := 111) (by rw [c6]; decide) (by rw [c6]; decide) (by rw [c6]; rfl) (by decide) d_BM_count_43 ?_
      refine a_aload_n (pc := 154) 0 rfl rfl d_BM_count_154 ?_
      refine a_getI (pc := 155) fg_BM_347 sx_151 rfl d_BM_count_155 ?_
      exact b_iret (pc := 158) rfl d_BM_count_158 h
    replace h := h.2
    by_cases c7 : x1 = (7 : Int32)
    · replace h := h.1 c7
      refine a_tableIn (pc := 43) 159 (off := 116) (by rw [c7]; decide) (by rw [c7]; decide) (by rw [c7]; rfl) (by decide) d_BM_count_43 ?_
      refine a_aload_n (pc := 159) 0 rfl rfl d_BM_count_159 ?_
      refine a_getR (pc := 160) fg_BM_9 sx_151 rfl d_BM_count_160 ?_
      refine a_bipush (pc := 163) (7 : Int32) (by decide) d_BM_count_163 ?_
      obtain ⟨hx, h⟩ := h
      refine a_iald (pc := 165) sx_152 hx d_BM_count_165 ?_
      exact b_iret (pc := 166) rfl d_BM_count_166 h
    replace h := h.2
    by_cases c8 : x1 = (8 : Int32)
    · replace h := h.1 c8
      refine a_tableIn (pc := 43) 167 (off := 124) (by rw [c8]; decide) (by rw [c8]; decide) (by rw [c8]; rfl) (by decide) d_BM_count_43 ?_
      refine a_aload_n (pc := 167) 0 rfl rfl d_BM_count_167 ?_
      refine a_getR (pc := 168) fg_BM_9 sx_151 rfl d_BM_count_168 ?_
      refine a_iconst (pc := 171) (4 : Int32) (by decide) d_BM_count_171 ?_
      obtain ⟨hx, h⟩ := h
      refine a_iald (pc := 172) sx_152 hx d_BM_count_172 ?_
      exact b_iret (pc := 173) rfl d_BM_count_173 h
    replace h := h.2
    by_cases c9 : x1 = (9 : Int32)
    · replace h := h.1 c9
      refine a_tableIn (pc := 43) 174 (off := 131) (by rw [c9]; decide) (by rw [c9]; decide) (by rw [c9]; rfl) (by decide) d_BM_count_43 ?_
      refine a_aload_n (pc := 174) 0 rfl rfl d_BM_count_174 ?_
      refine a_getR (pc := 175) fg_BM_9 sx_151 rfl d_BM_count_175 ?_
      refine a_iconst (pc := 178) (5 : Int32) (by decide) d_BM_count_178 ?_
      obtain ⟨hx, h⟩ := h
      refine a_iald (pc := 179) sx_152 hx d_BM_count_179 ?_
      exact b_iret (pc := 180) rfl d_BM_count_180 h
    replace h := h.2
    by_cases c10 : x1 = (10 : Int32)
    · replace h := h.1 c10
      refine a_tableIn (pc := 43) 181 (off := 138) (by rw [c10]; decide) (by rw [c10]; decide) (by rw [c10]; rfl) (by decide) d_BM_count_43 ?_
      refine a_aload_n (pc := 181) 0 rfl rfl d_BM_count_181 ?_
      refine a_getI (pc := 182) fg_BM_531 sx_151 rfl d_BM_count_182 ?_
      exact b_iret (pc := 185) rfl d_BM_count_185 h
    replace h := h.2
    by_cases c11 : x1 = (11 : Int32)
    · replace h := h.1 c11
      refine a_tableIn (pc := 43) 186 (off := 143) (by rw [c11]; decide) (by rw [c11]; decide) (by rw [c11]; rfl) (by decide) d_BM_count_43 ?_
      refine a_aload_n (pc := 186) 0 rfl rfl d_BM_count_186 ?_
      refine a_getR (pc := 187) fg_BM_9 sx_151 rfl d_BM_count_187 ?_
      refine a_bipush (pc := 190) (6 : Int32) (by decide) d_BM_count_190 ?_
      obtain ⟨hx, h⟩ := h
      refine a_iald (pc := 192) sx_152 hx d_BM_count_192 ?_
      exact b_iret (pc := 193) rfl d_BM_count_193 h
    replace h := h.2
    by_cases c12 : x1 = (12 : Int32)
    · replace h := h.1 c12
      refine a_tableIn (pc := 43) 194 (off := 151) (by rw [c12]; decide) (by rw [c12]; decide) (by rw [c12]; rfl) (by decide) d_BM_count_43 ?_
      refine a_aload_n (pc := 194) 0 rfl rfl d_BM_count_194 ?_
      refine a_getI (pc := 195) fg_BM_188 sx_151 rfl d_BM_count_195 ?_
      exact b_iret (pc := 198) rfl d_BM_count_198 h
    replace h := h.2
    by_cases c13 : x1 = (13 : Int32)
    · replace h := h.1 c13
      refine a_tableIn (pc := 43) 199 (off := 156) (by rw [c13]; decide) (by rw [c13]; decide) (by rw [c13]; rfl) (by decide) d_BM_count_43 ?_
      refine a_iload_n (pc := 199) 2 rfl rfl d_BM_count_199 ?_
      exact b_iret (pc := 200) rfl d_BM_count_200 h
    replace h := h.2
    replace h := h c0 c1 c2 c3 c4 c5 c6 c7 c8 c9 c10 c11 c12 c13
    have e0 := lv_neT (a := 0) c0 rfl
    have e1 := lv_neT (a := 1) c1 rfl
    have e2 := lv_neT (a := 2) c2 rfl
    have e3 := lv_neT (a := 3) c3 rfl
    have e4 := lv_neT (a := 4) c4 rfl
    have e5 := lv_neT (a := 5) c5 rfl
    have e6 := lv_neT (a := 6) c6 rfl
    have e7 := lv_neT (a := 7) c7 rfl
    have e8 := lv_neT (a := 8) c8 rfl
    have e9 := lv_neT (a := 9) c9 rfl
    have e10 := lv_neT (a := 10) c10 rfl
    have e11 := lv_neT (a := 11) c11 rfl
    have e12 := lv_neT (a := 12) c12 rfl
    have e13 := lv_neT (a := 13) c13 rfl
    refine a_tableOut (pc := 43) 201 (by omega) (by decide) d_BM_count_43 ?_
    refine a_iconst (pc := 201) (-1 : Int32) (by decide) d_BM_count_201 ?_
    exact b_iret (pc := 202) rfl d_BM_count_202 h
  · replace h := h.2 c0
    refine a_iload_n (pc := 10) 2 rfl rfl d_BM_count_10 ?_
    refine a_aload_n (pc := 11) 0 rfl rfl d_BM_count_11 ?_
    refine a_iload_n (pc := 12) 3 rfl rfl d_BM_count_12 ?_
    refine a_callV (pc := 13) (M' := m_BM_isThere) (As := [.int x3]) (st := [.int x2]) (mc' := 0) (ms' := 0) lk_BM_170 rfl sx_151 rfl (by decide) (by decide) rfl (Nat.le_of_ble_eq_true rfl) (Nat.le_refl 0) (Nat.le_refl 0) d_BM_count_13 h ?_
    rintro _ _ s5 ⟨r6, rfl, rfl, h⟩ -
    show Ax g m_BM_count 0 0 (ZI g Q) SH s5 0 0 16 [(0, .ref (gB g + 151)), (1, .int x1), (2, .int x2), (3, .int x3)] [.int r6, .int x2]
    refine a_if_eq (pc := 16) 33 (by decide) d_BM_count_16 ⟨fun c0 => ?_, fun c0 => ?_⟩
    · replace h := h.1 c0
      refine a_iconst (pc := 33) (0 : Int32) (by decide) d_BM_count_33 ?_
      refine a_iadd (pc := 34) d_BM_count_34 ?_
      refine a_nmi (pc := 35) (fun u7 hu7 => ?_)
      replace h := h u7 hu7
      refine a_istore_n (pc := 35) (lv' := [(2, .int u7), (0, .ref (gB g + 151)), (1, .int x1), (3, .int x3)]) rfl (Nat.le_of_ble_eq_true rfl) rfl d_BM_count_35 ?_
      obtain ⟨u8, hu8⟩ : ∃ y : Int32, y = x3 + (1 : Int32) := ⟨_, rfl⟩
      replace h := h u8 hu8
      refine a_iinc (pc := 36) (v := u8) (lv' := [(3, .int u8), (2, .int u7), (0, .ref (gB g + 151)), (1, .int x1)]) 3 rfl (by rw [hu8]; rfl) (Nat.le_of_ble_eq_true rfl) rfl d_BM_count_36 ?_
      refine a_goto (pc := 39) 4 (by decide) d_BM_count_39 ?_
      refine a_sub (pc := 4) [2, 3, 1, 0] rfl ?_
      exact h
    · replace h := h.2 c0
      refine a_aload_n (pc := 19) 0 rfl rfl d_BM_count_19 ?_
      refine a_getR (pc := 20) fg_BM_13 sx_151 rfl d_BM_count_20 ?_
      refine a_iload_n (pc := 23) 3 rfl rfl d_BM_count_23 ?_
      obtain ⟨hx, h⟩ := h
      refine a_iald (pc := 24) sx_153 hx d_BM_count_24 ?_
      refine a_iconst (pc := 25) (1 : Int32) (by decide) d_BM_count_25 ?_
      refine a_icmp_ne (pc := 26) 33 (by decide) d_BM_count_26 ⟨fun c0 => ?_, fun c0 => ?_⟩
      · replace h := h.1 c0
        refine a_iconst (pc := 33) (0 : Int32) (by decide) d_BM_count_33 ?_
        refine a_iadd (pc := 34) d_BM_count_34 ?_
        refine a_nmi (pc := 35) (fun u9 hu9 => ?_)
        replace h := h u9 hu9
        refine a_istore_n (pc := 35) (lv' := [(2, .int u9), (0, .ref (gB g + 151)), (1, .int x1), (3, .int x3)]) rfl (Nat.le_of_ble_eq_true rfl) rfl d_BM_count_35 ?_
        obtain ⟨u10, hu10⟩ : ∃ y : Int32, y = x3 + (1 : Int32) := ⟨_, rfl⟩
        replace h := h u10 hu10
        refine a_iinc (pc := 36) (v := u10) (lv' := [(3, .int u10), (2, .int u9), (0, .ref (gB g + 151)), (1, .int x1)]) 3 rfl (by rw [hu10]; rfl) (Nat.le_of_ble_eq_true rfl) rfl d_BM_count_36 ?_
        refine a_goto (pc := 39) 4 (by decide) d_BM_count_39 ?_
        refine a_sub (pc := 4) [2, 3, 1, 0] rfl ?_
        exact h
      · replace h := h.2 c0
        refine a_iconst (pc := 29) (1 : Int32) (by decide) d_BM_count_29 ?_
        refine a_goto (pc := 30) 34 (by decide) d_BM_count_30 ?_
        refine a_iadd (pc := 34) d_BM_count_34 ?_
        refine a_nmi (pc := 35) (fun u11 hu11 => ?_)
        replace h := h u11 hu11
        refine a_istore_n (pc := 35) (lv' := [(2, .int u11), (0, .ref (gB g + 151)), (1, .int x1), (3, .int x3)]) rfl (Nat.le_of_ble_eq_true rfl) rfl d_BM_count_35 ?_
        obtain ⟨u12, hu12⟩ : ∃ y : Int32, y = x3 + (1 : Int32) := ⟨_, rfl⟩
        replace h := h u12 hu12
        refine a_iinc (pc := 36) (v := u12) (lv' := [(3, .int u12), (2, .int u11), (0, .ref (gB g + 151)), (1, .int x1)]) 3 rfl (by rw [hu12]; rfl) (Nat.le_of_ble_eq_true rfl) rfl d_BM_count_36 ?_
        refine a_goto (pc := 39) 4 (by decide) d_BM_count_39 ?_
        refine a_sub (pc := 4) [2, 3, 1, 0] rfl ?_
        exact h
theorem ko_BM_count {g : Gx}  {x1 : Int32} {σ : St} {Q : Int32 → St → Prop} (h : S_BM_count_0 g Q σ x1) : K_BM_count g x1 σ Q := KI.of (show plainName "BallBoxModel" = true by decide) (Nat.le_of_ble_eq_true rfl) h
theorem d_BM_carry_0 : decode c_BM_carry 0 = .ok (.iconst 0, 1) := by decide +kernel
theorem d_BM_carry_1 : decode c_BM_carry 1 = .ok (.istore_n 2, 1) := by decide +kernel
theorem d_BM_carry_2 : decode c_BM_carry 2 = .ok (.iload_n 2, 1) := by decide +kernel
theorem d_BM_carry_3 : decode c_BM_carry 3 = .ok (.aload_n 1, 1) := by decide +kernel
theorem d_BM_carry_4 : decode c_BM_carry 4 = .ok (.arraylength, 1) := by decide +kernel
theorem d_BM_carry_5 : decode c_BM_carry 5 = .ok (.if_icmp .ge 53, 3) := by decide +kernel
theorem d_BM_carry_8 : decode c_BM_carry 8 = .ok (.aload_n 0, 1) := by decide +kernel
theorem d_BM_carry_9 : decode c_BM_carry 9 = .ok (.getfield 551, 3) := by decide +kernel
theorem d_BM_carry_12 : decode c_BM_carry 12 = .ok (.ifCond .eq 18, 3) := by decide +kernel
theorem d_BM_carry_15 : decode c_BM_carry 15 = .ok (.aload_n 1, 1) := by decide +kernel
theorem d_BM_carry_16 : decode c_BM_carry 16 = .ok (.iload_n 2, 1) := by decide +kernel
theorem d_BM_carry_17 : decode c_BM_carry 17 = .ok (.aload_n 0, 1) := by decide +kernel
theorem d_BM_carry_18 : decode c_BM_carry 18 = .ok (.getfield 153, 3) := by decide +kernel
theorem d_BM_carry_21 : decode c_BM_carry 21 = .ok (.aload_n 0, 1) := by decide +kernel
theorem d_BM_carry_22 : decode c_BM_carry 22 = .ok (.getfield 555, 3) := by decide +kernel
theorem d_BM_carry_25 : decode c_BM_carry 25 = .ok (.iaload, 1) := by decide +kernel
theorem d_BM_carry_26 : decode c_BM_carry 26 = .ok (.iastore, 1) := by decide +kernel
theorem d_BM_carry_27 : decode c_BM_carry 27 = .ok (.goto 15, 3) := by decide +kernel
theorem d_BM_carry_30 : decode c_BM_carry 30 = .ok (.aload_n 0, 1) := by decide +kernel
theorem d_BM_carry_31 : decode c_BM_carry 31 = .ok (.getfield 153, 3) := by decide +kernel
theorem d_BM_carry_34 : decode c_BM_carry 34 = .ok (.aload_n 0, 1) := by decide +kernel
theorem d_BM_carry_35 : decode c_BM_carry 35 = .ok (.getfield 555, 3) := by decide +kernel
theorem d_BM_carry_38 : decode c_BM_carry 38 = .ok (.aload_n 1, 1) := by decide +kernel
theorem d_BM_carry_39 : decode c_BM_carry 39 = .ok (.iload_n 2, 1) := by decide +kernel
theorem d_BM_carry_40 : decode c_BM_carry 40 = .ok (.iaload, 1) := by decide +kernel
theorem d_BM_carry_41 : decode c_BM_carry 41 = .ok (.iastore, 1) := by decide +kernel
theorem d_BM_carry_42 : decode c_BM_carry 42 = .ok (.aload_n 0, 1) := by decide +kernel
theorem d_BM_carry_43 : decode c_BM_carry 43 = .ok (.dup, 1) := by decide +kernel
theorem d_BM_carry_44 : decode c_BM_carry 44 = .ok (.getfield 555, 3) := by decide +kernel
theorem d_BM_carry_47 : decode c_BM_carry 47 = .ok (.iconst 1, 1) := by decide +kernel
theorem d_BM_carry_48 : decode c_BM_carry 48 = .ok (.iadd, 1) := by decide +kernel
theorem d_BM_carry_49 : decode c_BM_carry 49 = .ok (.putfield 555, 3) := by decide +kernel
theorem d_BM_carry_52 : decode c_BM_carry 52 = .ok (.iinc 2 1, 3) := by decide +kernel
theorem d_BM_carry_55 : decode c_BM_carry 55 = .ok (.goto (-53), 3) := by decide +kernel
theorem d_BM_carry_58 : decode c_BM_carry 58 = .ok (.return_, 1) := by decide +kernel
def S_BM_carry_0 (g : Gx) (Q : St → Prop) (σ : St) (a1 : Nat) : Prop := Ax g m_BM_carry 0 0 (ZV g Q) SH σ 0 0 0 [(0, .ref (gB g + 151)), (1, .ref (gB g + a1))] []
def S_BM_carry_2 (g : Gx) (Q : St → Prop) (σ : St) (a1 : Nat) (x2 : Int32) : Prop := Ax g m_BM_carry 0 0 (ZV g Q) SH σ 0 0 2 [(0, .ref (gB g + 151)), (1, .ref (gB g + a1)), (2, .int x2)] []
theorem sg_BM_carry_0 {g : Gx} {Q : St → Prop} {σ : St} {a1 : Nat} {N1 : Nat} (ha1 : SH[a1]? = some (.inr (0, N1, [])))
    (h : S_BM_carry_2 g Q σ a1 (0 : Int32)) : S_BM_carry_0 g Q σ a1 := by
  show Ax g m_BM_carry 0 0 (ZV g Q) SH σ 0 0 0 [(0, .ref (gB g + 151)), (1, .ref (gB g + a1))] []
  refine a_iconst (pc := 0) (0 : Int32) (by decide) d_BM_carry_0 ?_
  refine a_istore_n (pc := 1) (lv' := [(2, .int (0 : Int32)), (0, .ref (gB g + 151)), (1, .ref (gB g + a1))]) rfl (Nat.le_of_ble_eq_true rfl) rfl d_BM_carry_1 ?_
  refine a_sub (pc := 2) [1, 2, 0] rfl ?_
  exact h
theorem sg_BM_carry_2 {g : Gx} {Q : St → Prop} {σ : St} {a1 : Nat} {N1 : Nat} {x2 : Int32} (ha1 : SH[a1]? = some (.inr (0, N1, [])))
    (h : ((Int32.ofNat N1) ≤ x2 → Q σ) ∧ (¬ (Int32.ofNat N1) ≤ x2 → ((fi σ 151 75) = 0 → vp_in x2 N1 ∧ (vp_in (fi σ 151 74) 360 ∧ (∀ s1 : St, s1 = sai σ 197 ((fi σ 151 74)).toNatClampNeg (ai σ a1 (x2).toNatClampNeg) → ∀ s2 : St, s2 = sfi s1 151 74 ((fi s1 151 74) + (1 : Int32)) → ∀ u3 : Int32, u3 = x2 + (1 : Int32) → S_BM_carry_2 g Q s2 a1 u3))) ∧ (¬ (fi σ 151 75) = 0 → vp_in (fi σ 151 74) 360 ∧ (vp_in x2 N1 ∧ (∀ s4 : St, s4 = sai σ a1 (x2).toNatClampNeg (ai σ 197 ((fi σ 151 74)).toNatClampNeg) → ∀ s5 : St, s5 = sfi s4 151 74 ((fi s4 151 74) + (1 : Int32)) → ∀ u6 : Int32, u6 = x2 + (1 : Int32) → S_BM_carry_2 g Q s5 a1 u6))))) : S_BM_carry_2 g Q σ a1 x2 := by
  show Ax g m_BM_carry 0 0 (ZV g Q) SH σ 0 0 2 [(0, .ref (gB g + 151)), (1, .ref (gB g + a1)), (2, .int x2)] []
  refine a_iload_n (pc := 2) 2 rfl rfl d_BM_carry_2 ?_
  refine a_aload_n (pc := 3) 1 rfl rfl d_BM_carry_3 ?_
  refine a_alen (pc := 4) (kd := 0) rfl ha1 d_BM_carry_4 ?_
  refine a_icmp_ge (pc := 5) 58 (by decide) d_BM_carry_5 ⟨fun c0 => ?_, fun c0 => ?_⟩
  · replace h := h.1 c0
    exact b_vret (pc := 58) rfl d_BM_carry_58 h
  · replace h := h.2 c0
    refine a_aload_n (pc := 8) 0 rfl rfl d_BM_carry_8 ?_
    refine a_getI (pc := 9) fg_BM_551 sx_151 rfl d_BM_carry_9 ?_
    refine a_if_eq (pc := 12) 30 (by decide) d_BM_carry_12 ⟨fun c0 => ?_, fun c0 => ?_⟩
    · replace h := h.1 c0
      refine a_aload_n (pc := 30) 0 rfl rfl d_BM_carry_30 ?_
      refine a_getR (pc := 31) fg_BM_153 sx_151 rfl d_BM_carry_31 ?_
      refine a_aload_n (pc := 34) 0 rfl rfl d_BM_carry_34 ?_
      refine a_getI (pc := 35) fg_BM_555 sx_151 rfl d_BM_carry_35 ?_
      refine a_aload_n (pc := 38) 1 rfl rfl d_BM_carry_38 ?_
      refine a_iload_n (pc := 39) 2 rfl rfl d_BM_carry_39 ?_
      obtain ⟨hx, h⟩ := h
      refine a_iald (pc := 40) ha1 hx d_BM_carry_40 ?_
      obtain ⟨hx, h⟩ := h
      refine a_iast (pc := 41) sx_197 hx d_BM_carry_41 ?_
      refine a_nms (fun s1 hs1 => ?_)
      replace h := h s1 hs1
      refine a_aload_n (pc := 42) 0 rfl rfl d_BM_carry_42 ?_
      refine a_dup (pc := 43) rfl d_BM_carry_43 ?_
      refine a_getI (pc := 44) fg_BM_555 sx_151 rfl d_BM_carry_44 ?_
      refine a_iconst (pc := 47) (1 : Int32) (by decide) d_BM_carry_47 ?_
      refine a_iadd (pc := 48) d_BM_carry_48 ?_
      refine a_putI (pc := 49) fp_BM_555 sx_151 rfl d_BM_carry_49 ?_
      refine a_nms (fun s2 hs2 => ?_)
      replace h := h s2 hs2
      obtain ⟨u3, hu3⟩ : ∃ y : Int32, y = x2 + (1 : Int32) := ⟨_, rfl⟩
      replace h := h u3 hu3
      refine a_iinc (pc := 52) (v := u3) (lv' := [(2, .int u3), (0, .ref (gB g + 151)), (1, .ref (gB g + a1))]) 2 rfl (by rw [hu3]; rfl) (Nat.le_of_ble_eq_true rfl) rfl d_BM_carry_52 ?_
      refine a_goto (pc := 55) 2 (by decide) d_BM_carry_55 ?_
      refine a_sub (pc := 2) [1, 2, 0] rfl ?_
      exact h
    · replace h := h.2 c0
      refine a_aload_n (pc := 15) 1 rfl rfl d_BM_carry_15 ?_
      refine a_iload_n (pc := 16) 2 rfl rfl d_BM_carry_16 ?_
      refine a_aload_n (pc := 17) 0 rfl rfl d_BM_carry_17 ?_
      refine a_getR (pc := 18) fg_BM_153 sx_151 rfl d_BM_carry_18 ?_
      refine a_aload_n (pc := 21) 0 rfl rfl d_BM_carry_21 ?_
      refine a_getI (pc := 22) fg_BM_555 sx_151 rfl d_BM_carry_22 ?_
      obtain ⟨hx, h⟩ := h
      refine a_iald (pc := 25) sx_197 hx d_BM_carry_25 ?_
      obtain ⟨hx, h⟩ := h
      refine a_iast (pc := 26) ha1 hx d_BM_carry_26 ?_
      refine a_nms (fun s4 hs4 => ?_)
      replace h := h s4 hs4
      refine a_goto (pc := 27) 42 (by decide) d_BM_carry_27 ?_
      refine a_aload_n (pc := 42) 0 rfl rfl d_BM_carry_42 ?_
      refine a_dup (pc := 43) rfl d_BM_carry_43 ?_
      refine a_getI (pc := 44) fg_BM_555 sx_151 rfl d_BM_carry_44 ?_
      refine a_iconst (pc := 47) (1 : Int32) (by decide) d_BM_carry_47 ?_
      refine a_iadd (pc := 48) d_BM_carry_48 ?_
      refine a_putI (pc := 49) fp_BM_555 sx_151 rfl d_BM_carry_49 ?_
      refine a_nms (fun s5 hs5 => ?_)
      replace h := h s5 hs5
      obtain ⟨u6, hu6⟩ : ∃ y : Int32, y = x2 + (1 : Int32) := ⟨_, rfl⟩
      replace h := h u6 hu6
      refine a_iinc (pc := 52) (v := u6) (lv' := [(2, .int u6), (0, .ref (gB g + 151)), (1, .ref (gB g + a1))]) 2 rfl (by rw [hu6]; rfl) (Nat.le_of_ble_eq_true rfl) rfl d_BM_carry_52 ?_
      refine a_goto (pc := 55) 2 (by decide) d_BM_carry_55 ?_
      refine a_sub (pc := 2) [1, 2, 0] rfl ?_
      exact h
theorem ko_BM_carry {g : Gx}  {a1 : Nat} {σ : St} {Q : St → Prop} (h : S_BM_carry_0 g Q σ a1) : K_BM_carry g a1 σ Q := KV.of (show plainName "BallBoxModel" = true by decide) (Nat.le_of_ble_eq_true rfl) h
theorem d_BM_carriesAll_0 : decode c_BM_carriesAll 0 = .ok (.aload_n 0, 1) := by decide +kernel
theorem d_BM_carriesAll_1 : decode c_BM_carriesAll 1 = .ok (.bipush 90, 2) := by decide +kernel
theorem d_BM_carriesAll_3 : decode c_BM_carriesAll 3 = .ok (.iload_n 1, 1) := by decide +kernel
theorem d_BM_carriesAll_4 : decode c_BM_carriesAll 4 = .ok (.imul, 1) := by decide +kernel
theorem d_BM_carriesAll_5 : decode c_BM_carriesAll 5 = .ok (.putfield 555, 3) := by decide +kernel
theorem d_BM_carriesAll_8 : decode c_BM_carriesAll 8 = .ok (.aload_n 0, 1) := by decide +kernel
theorem d_BM_carriesAll_9 : decode c_BM_carriesAll 9 = .ok (.iload_n 2, 1) := by decide +kernel
theorem d_BM_carriesAll_10 : decode c_BM_carriesAll 10 = .ok (.putfield 551, 3) := by decide +kernel
theorem d_BM_carriesAll_13 : decode c_BM_carriesAll 13 = .ok (.aload_n 0, 1) := by decide +kernel
theorem d_BM_carriesAll_14 : decode c_BM_carriesAll 14 = .ok (.aload_n 0, 1) := by decide +kernel
theorem d_BM_carriesAll_15 : decode c_BM_carriesAll 15 = .ok (.getfield 9, 3) := by decide +kernel
theorem d_BM_carriesAll_18 : decode c_BM_carriesAll 18 = .ok (.invokevirtual 558, 3) := by decide +kernel
theorem d_BM_carriesAll_21 : decode c_BM_carriesAll 21 = .ok (.aload_n 0, 1) := by decide +kernel
theorem d_BM_carriesAll_22 : decode c_BM_carriesAll 22 = .ok (.aload_n 0, 1) := by decide +kernel
theorem d_BM_carriesAll_23 : decode c_BM_carriesAll 23 = .ok (.getfield 13, 3) := by decide +kernel
theorem d_BM_carriesAll_26 : decode c_BM_carriesAll 26 = .ok (.invokevirtual 558, 3) := by decide +kernel
theorem d_BM_carriesAll_29 : decode c_BM_carriesAll 29 = .ok (.aload_n 0, 1) := by decide +kernel
theorem d_BM_carriesAll_30 : decode c_BM_carriesAll 30 = .ok (.aload_n 0, 1) := by decide +kernel
theorem d_BM_carriesAll_31 : decode c_BM_carriesAll 31 = .ok (.getfield 16, 3) := by decide +kernel
theorem d_BM_carriesAll_34 : decode c_BM_carriesAll 34 = .ok (.invokevirtual 558, 3) := by decide +kernel
theorem d_BM_carriesAll_37 : decode c_BM_carriesAll 37 = .ok (.aload_n 0, 1) := by decide +kernel
theorem d_BM_carriesAll_38 : decode c_BM_carriesAll 38 = .ok (.aload_n 0, 1) := by decide +kernel
theorem d_BM_carriesAll_39 : decode c_BM_carriesAll 39 = .ok (.getfield 19, 3) := by decide +kernel
theorem d_BM_carriesAll_42 : decode c_BM_carriesAll 42 = .ok (.invokevirtual 558, 3) := by decide +kernel
theorem d_BM_carriesAll_45 : decode c_BM_carriesAll 45 = .ok (.aload_n 0, 1) := by decide +kernel
theorem d_BM_carriesAll_46 : decode c_BM_carriesAll 46 = .ok (.aload_n 0, 1) := by decide +kernel
theorem d_BM_carriesAll_47 : decode c_BM_carriesAll 47 = .ok (.getfield 22, 3) := by decide +kernel
theorem d_BM_carriesAll_50 : decode c_BM_carriesAll 50 = .ok (.invokevirtual 558, 3) := by decide +kernel
theorem d_BM_carriesAll_53 : decode c_BM_carriesAll 53 = .ok (.aload_n 0, 1) := by decide +kernel
theorem d_BM_carriesAll_54 : decode c_BM_carriesAll 54 = .ok (.aload_n 0, 1) := by decide +kernel
theorem d_BM_carriesAll_55 : decode c_BM_carriesAll 55 = .ok (.getfield 25, 3) := by decide +kernel
theorem d_BM_carriesAll_58 : decode c_BM_carriesAll 58 = .ok (.invokevirtual 558, 3) := by decide +kernel
theorem d_BM_carriesAll_61 : decode c_BM_carriesAll 61 = .ok (.aload_n 0, 1) := by decide +kernel
theorem d_BM_carriesAll_62 : decode c_BM_carriesAll 62 = .ok (.aload_n 0, 1) := by decide +kernel
theorem d_BM_carriesAll_63 : decode c_BM_carriesAll 63 = .ok (.getfield 28, 3) := by decide +kernel
theorem d_BM_carriesAll_66 : decode c_BM_carriesAll 66 = .ok (.invokevirtual 558, 3) := by decide +kernel
theorem d_BM_carriesAll_69 : decode c_BM_carriesAll 69 = .ok (.return_, 1) := by decide +kernel
def S_BM_carriesAll_0 (g : Gx) (Q : St → Prop) (σ : St) (x1 : Int32) (x2 : Int32) : Prop := Ax g m_BM_carriesAll 0 0 (ZV g Q) SH σ 0 0 0 [(0, .ref (gB g + 151)), (1, .int x1), (2, .int x2)] []
theorem sg_BM_carriesAll_0 {g : Gx} {Q : St → Prop} {σ : St} {x1 : Int32} {x2 : Int32}
    (h : ∀ s1 : St, s1 = sfi σ 151 74 ((90 : Int32) * x1) → (x2 = 0 ∨ x2 = 1) ∧ (∀ s2 : St, s2 = sfi s1 151 75 x2 → K_BM_carry g 152 s2 (fun s3 : St => K_BM_carry g 153 s3 (fun s4 : St => K_BM_carry g 154 s4 (fun s5 : St => K_BM_carry g 155 s5 (fun s6 : St => K_BM_carry g 156 s6 (fun s7 : St => K_BM_carry g 157 s7 (fun s8 : St => K_BM_carry g 158 s8 (fun s9 : St => Q s9))))))))) : S_BM_carriesAll_0 g Q σ x1 x2 := by
  show Ax g m_BM_carriesAll 0 0 (ZV g Q) SH σ 0 0 0 [(0, .ref (gB g + 151)), (1, .int x1), (2, .int x2)] []
  refine a_aload_n (pc := 0) 0 rfl rfl d_BM_carriesAll_0 ?_
  refine a_bipush (pc := 1) (90 : Int32) (by decide) d_BM_carriesAll_1 ?_
  refine a_iload_n (pc := 3) 1 rfl rfl d_BM_carriesAll_3 ?_
  refine a_imul (pc := 4) d_BM_carriesAll_4 ?_
  refine a_putI (pc := 5) fp_BM_555 sx_151 rfl d_BM_carriesAll_5 ?_
  refine a_nms (fun s1 hs1 => ?_)
  replace h := h s1 hs1
  refine a_aload_n (pc := 8) 0 rfl rfl d_BM_carriesAll_8 ?_
  refine a_iload_n (pc := 9) 2 rfl rfl d_BM_carriesAll_9 ?_
  obtain ⟨hz, h⟩ := h
  refine a_putZ (pc := 10) fp_BM_551 sx_151 rfl hz d_BM_carriesAll_10 ?_
  refine a_nms (fun s2 hs2 => ?_)
  replace h := h s2 hs2
  refine a_aload_n (pc := 13) 0 rfl rfl d_BM_carriesAll_13 ?_
  refine a_aload_n (pc := 14) 0 rfl rfl d_BM_carriesAll_14 ?_
  refine a_getR (pc := 15) fg_BM_9 sx_151 rfl d_BM_carriesAll_15 ?_
  refine a_callV (pc := 18) (M' := m_BM_carry) (As := [.ref (gB g + 152)]) (st := []) (mc' := 0) (ms' := 0) lk_BM_558 rfl sx_151 rfl (by decide) (by decide) rfl (Nat.le_of_ble_eq_true rfl) (Nat.le_refl 0) (Nat.le_refl 0) d_BM_carriesAll_18 h ?_
  rintro _ _ s3 ⟨rfl, rfl, h⟩ -
  show Ax g m_BM_carriesAll 0 0 (ZV g Q) SH s3 0 0 21 [(0, .ref (gB g + 151)), (1, .int x1), (2, .int x2)] []
  refine a_aload_n (pc := 21) 0 rfl rfl d_BM_carriesAll_21 ?_
  refine a_aload_n (pc := 22) 0 rfl rfl d_BM_carriesAll_22 ?_
  refine a_getR (pc := 23) fg_BM_13 sx_151 rfl d_BM_carriesAll_23 ?_
  refine a_callV (pc := 26) (M' := m_BM_carry) (As := [.ref (gB g + 153)]) (st := []) (mc' := 0) (ms' := 0) lk_BM_558 rfl sx_151 rfl (by decide) (by decide) rfl (Nat.le_of_ble_eq_true rfl) (Nat.le_refl 0) (Nat.le_refl 0) d_BM_carriesAll_26 h ?_
  rintro _ _ s4 ⟨rfl, rfl, h⟩ -
  show Ax g m_BM_carriesAll 0 0 (ZV g Q) SH s4 0 0 29 [(0, .ref (gB g + 151)), (1, .int x1), (2, .int x2)] []
  refine a_aload_n (pc := 29) 0 rfl rfl d_BM_carriesAll_29 ?_
  refine a_aload_n (pc := 30) 0 rfl rfl d_BM_carriesAll_30 ?_
  refine a_getR (pc := 31) fg_BM_16 sx_151 rfl d_BM_carriesAll_31 ?_
  refine a_callV (pc := 34) (M' := m_BM_carry) (As := [.ref (gB g + 154)]) (st := []) (mc' := 0) (ms' := 0) lk_BM_558 rfl sx_151 rfl (by decide) (by decide) rfl (Nat.le_of_ble_eq_true rfl) (Nat.le_refl 0) (Nat.le_refl 0) d_BM_carriesAll_34 h ?_
  rintro _ _ s5 ⟨rfl, rfl, h⟩ -
  show Ax g m_BM_carriesAll 0 0 (ZV g Q) SH s5 0 0 37 [(0, .ref (gB g + 151)), (1, .int x1), (2, .int x2)] []
  refine a_aload_n (pc := 37) 0 rfl rfl d_BM_carriesAll_37 ?_
  refine a_aload_n (pc := 38) 0 rfl rfl d_BM_carriesAll_38 ?_
  refine a_getR (pc := 39) fg_BM_19 sx_151 rfl d_BM_carriesAll_39 ?_
  refine a_callV (pc := 42) (M' := m_BM_carry) (As := [.ref (gB g + 155)]) (st := []) (mc' := 0) (ms' := 0) lk_BM_558 rfl sx_151 rfl (by decide) (by decide) rfl (Nat.le_of_ble_eq_true rfl) (Nat.le_refl 0) (Nat.le_refl 0) d_BM_carriesAll_42 h ?_
  rintro _ _ s6 ⟨rfl, rfl, h⟩ -
  show Ax g m_BM_carriesAll 0 0 (ZV g Q) SH s6 0 0 45 [(0, .ref (gB g + 151)), (1, .int x1), (2, .int x2)] []
  refine a_aload_n (pc := 45) 0 rfl rfl d_BM_carriesAll_45 ?_
  refine a_aload_n (pc := 46) 0 rfl rfl d_BM_carriesAll_46 ?_
  refine a_getR (pc := 47) fg_BM_22 sx_151 rfl d_BM_carriesAll_47 ?_
  refine a_callV (pc := 50) (M' := m_BM_carry) (As := [.ref (gB g + 156)]) (st := []) (mc' := 0) (ms' := 0) lk_BM_558 rfl sx_151 rfl (by decide) (by decide) rfl (Nat.le_of_ble_eq_true rfl) (Nat.le_refl 0) (Nat.le_refl 0) d_BM_carriesAll_50 h ?_
  rintro _ _ s7 ⟨rfl, rfl, h⟩ -
  show Ax g m_BM_carriesAll 0 0 (ZV g Q) SH s7 0 0 53 [(0, .ref (gB g + 151)), (1, .int x1), (2, .int x2)] []
  refine a_aload_n (pc := 53) 0 rfl rfl d_BM_carriesAll_53 ?_
  refine a_aload_n (pc := 54) 0 rfl rfl d_BM_carriesAll_54 ?_
  refine a_getR (pc := 55) fg_BM_25 sx_151 rfl d_BM_carriesAll_55 ?_
  refine a_callV (pc := 58) (M' := m_BM_carry) (As := [.ref (gB g + 157)]) (st := []) (mc' := 0) (ms' := 0) lk_BM_558 rfl sx_151 rfl (by decide) (by decide) rfl (Nat.le_of_ble_eq_true rfl) (Nat.le_refl 0) (Nat.le_refl 0) d_BM_carriesAll_58 h ?_
  rintro _ _ s8 ⟨rfl, rfl, h⟩ -
  show Ax g m_BM_carriesAll 0 0 (ZV g Q) SH s8 0 0 61 [(0, .ref (gB g + 151)), (1, .int x1), (2, .int x2)] []
  refine a_aload_n (pc := 61) 0 rfl rfl d_BM_carriesAll_61 ?_
  refine a_aload_n (pc := 62) 0 rfl rfl d_BM_carriesAll_62 ?_
  refine a_getR (pc := 63) fg_BM_28 sx_151 rfl d_BM_carriesAll_63 ?_
  refine a_callV (pc := 66) (M' := m_BM_carry) (As := [.ref (gB g + 158)]) (st := []) (mc' := 0) (ms' := 0) lk_BM_558 rfl sx_151 rfl (by decide) (by decide) rfl (Nat.le_of_ble_eq_true rfl) (Nat.le_refl 0) (Nat.le_refl 0) d_BM_carriesAll_66 h ?_
  rintro _ _ s9 ⟨rfl, rfl, h⟩ -
  show Ax g m_BM_carriesAll 0 0 (ZV g Q) SH s9 0 0 69 [(0, .ref (gB g + 151)), (1, .int x1), (2, .int x2)] []
  exact b_vret (pc := 69) rfl d_BM_carriesAll_69 h
theorem ko_BM_carriesAll {g : Gx}  {x1 : Int32} {x2 : Int32} {σ : St} {Q : St → Prop} (h : S_BM_carriesAll_0 g Q σ x1 x2) : K_BM_carriesAll g x1 x2 σ Q := KV.of (show plainName "BallBoxModel" = true by decide) (Nat.le_of_ble_eq_true rfl) h
theorem d_BM_image_0 : decode c_BM_image 0 = .ok (.iload_n 1, 1) := by decide +kernel
theorem d_BM_image_1 : decode c_BM_image 1 = .ok (.i2l, 1) := by decide +kernel
theorem d_BM_image_2 : decode c_BM_image 2 = .ok (.lconst 0, 1) := by decide +kernel
theorem d_BM_image_3 : decode c_BM_image 3 = .ok (.ldc2_w 394, 3) := by decide +kernel
theorem d_BM_image_6 : decode c_BM_image 6 = .ok (.invokestatic 162, 3) := by decide +kernel
theorem d_BM_image_9 : decode c_BM_image 9 = .ok (.ifCond .ne 5, 3) := by decide +kernel
theorem d_BM_image_12 : decode c_BM_image 12 = .ok (.iconst (-1), 1) := by decide +kernel
theorem d_BM_image_13 : decode c_BM_image 13 = .ok (.ireturn, 1) := by decide +kernel
theorem d_BM_image_14 : decode c_BM_image 14 = .ok (.aload_n 0, 1) := by decide +kernel
theorem d_BM_image_15 : decode c_BM_image 15 = .ok (.getfield 156, 3) := by decide +kernel
theorem d_BM_image_18 : decode c_BM_image 18 = .ok (.iload_n 1, 1) := by decide +kernel
theorem d_BM_image_19 : decode c_BM_image 19 = .ok (.iconst 1, 1) := by decide +kernel
theorem d_BM_image_20 : decode c_BM_image 20 = .ok (.bastore, 1) := by decide +kernel
theorem d_BM_image_21 : decode c_BM_image 21 = .ok (.aload_n 0, 1) := by decide +kernel
theorem d_BM_image_22 : decode c_BM_image 22 = .ok (.iload_n 1, 1) := by decide +kernel
theorem d_BM_image_23 : decode c_BM_image 23 = .ok (.iconst 0, 1) := by decide +kernel
theorem d_BM_image_24 : decode c_BM_image 24 = .ok (.invokevirtual 562, 3) := by decide +kernel
theorem d_BM_image_27 : decode c_BM_image 27 = .ok (.aload_n 0, 1) := by decide +kernel
theorem d_BM_image_28 : decode c_BM_image 28 = .ok (.getfield 9, 3) := by decide +kernel
theorem d_BM_image_31 : decode c_BM_image 31 = .ok (.iconst 3, 1) := by decide +kernel
theorem d_BM_image_32 : decode c_BM_image 32 = .ok (.iaload, 1) := by decide +kernel
theorem d_BM_image_33 : decode c_BM_image 33 = .ok (.ireturn, 1) := by decide +kernel
def S_BM_image_0 (g : Gx) (Q : Int32 → St → Prop) (σ : St) (x1 : Int32) : Prop := Ax g m_BM_image 0 0 (ZI g Q) SH σ 0 0 0 [(0, .ref (gB g + 151)), (1, .int x1)] []
theorem sg_BM_image_0 {g : Gx} {Q : Int32 → St → Prop} {σ : St} {x1 : Int32}
    (h : K_BM_in g ((x1).toInt64) (0 : Int64) (3 : Int64) σ (fun (r2 : Int32) (s1 : St) => (¬ r2 = 0 → vp_in x1 4 ∧ (∀ s3 : St, s3 = sai s1 198 (x1).toNatClampNeg (vp_nar .boolean (1 : Int32)) → K_BM_carriesAll g x1 (0 : Int32) s3 (fun s4 : St => vp_in (3 : Int32) 8 ∧ (Q (ai s4 152 ((3 : Int32)).toNatClampNeg) s4)))) ∧ (r2 = 0 → Q (-1 : Int32) s1))) : S_BM_image_0 g Q σ x1 := by
  show Ax g m_BM_image 0 0 (ZI g Q) SH σ 0 0 0 [(0, .ref (gB g + 151)), (1, .int x1)] []
  refine a_iload_n (pc := 0) 1 rfl rfl d_BM_image_0 ?_
  refine a_i2l (pc := 1) d_BM_image_1 ?_
  refine a_lconst (pc := 2) (0 : Int64) (by decide) d_BM_image_2 ?_
  refine a_ldc2 (pc := 3) tw1644 d_BM_image_3 ?_
  refine a_callS (pc := 6) (M' := m_BM_in) (As := [.long ((x1).toInt64), .long (0 : Int64), .long (3 : Int64)]) (st := []) (mc' := 0) (ms' := 0) lk_BM_162 rfl (by decide) (by decide) rfl (Nat.le_of_ble_eq_true rfl) (Nat.le_refl 0) (Nat.le_refl 0) d_BM_image_6 h ?_
  rintro _ _ s1 ⟨r2, rfl, rfl, h⟩ -
  show Ax g m_BM_image 0 0 (ZI g Q) SH s1 0 0 9 [(0, .ref (gB g + 151)), (1, .int x1)] [.int r2]
  refine a_if_ne (pc := 9) 14 (by decide) d_BM_image_9 ⟨fun c0 => ?_, fun c0 => ?_⟩
  · replace h := h.1 c0
    refine a_aload_n (pc := 14) 0 rfl rfl d_BM_image_14 ?_
    refine a_getR (pc := 15) fg_BM_156 sx_151 rfl d_BM_image_15 ?_
    refine a_iload_n (pc := 18) 1 rfl rfl d_BM_image_18 ?_
    refine a_iconst (pc := 19) (1 : Int32) (by decide) d_BM_image_19 ?_
    obtain ⟨hx, h⟩ := h
    refine a_zast (pc := 20) sx_198 hx d_BM_image_20 ?_
    refine a_nms (fun s3 hs3 => ?_)
    replace h := h s3 hs3
    refine a_aload_n (pc := 21) 0 rfl rfl d_BM_image_21 ?_
    refine a_iload_n (pc := 22) 1 rfl rfl d_BM_image_22 ?_
    refine a_iconst (pc := 23) (0 : Int32) (by decide) d_BM_image_23 ?_
    refine a_callV (pc := 24) (M' := m_BM_carriesAll) (As := [.int x1, .int (0 : Int32)]) (st := []) (mc' := 0) (ms' := 0) lk_BM_562 rfl sx_151 rfl (by decide) (by decide) rfl (Nat.le_of_ble_eq_true rfl) (Nat.le_refl 0) (Nat.le_refl 0) d_BM_image_24 h ?_
    rintro _ _ s4 ⟨rfl, rfl, h⟩ -
    show Ax g m_BM_image 0 0 (ZI g Q) SH s4 0 0 27 [(0, .ref (gB g + 151)), (1, .int x1)] []
    refine a_aload_n (pc := 27) 0 rfl rfl d_BM_image_27 ?_
    refine a_getR (pc := 28) fg_BM_9 sx_151 rfl d_BM_image_28 ?_
    refine a_iconst (pc := 31) (3 : Int32) (by decide) d_BM_image_31 ?_
    obtain ⟨hx, h⟩ := h
    refine a_iald (pc := 32) sx_152 hx d_BM_image_32 ?_
    exact b_iret (pc := 33) rfl d_BM_image_33 h
  · replace h := h.2 c0
    refine a_iconst (pc := 12) (-1 : Int32) (by decide) d_BM_image_12 ?_
    exact b_iret (pc := 13) rfl d_BM_image_13 h
theorem ko_BM_image {g : Gx}  {x1 : Int32} {σ : St} {Q : Int32 → St → Prop} (h : S_BM_image_0 g Q σ x1) : K_BM_image g x1 σ Q := KI.of (show plainName "BallBoxModel" = true by decide) (Nat.le_of_ble_eq_true rfl) h
theorem d_BM_back_0 : decode c_BM_back 0 = .ok (.iload_n 1, 1) := by decide +kernel
theorem d_BM_back_1 : decode c_BM_back 1 = .ok (.i2l, 1) := by decide +kernel
theorem d_BM_back_2 : decode c_BM_back 2 = .ok (.lconst 0, 1) := by decide +kernel
theorem d_BM_back_3 : decode c_BM_back 3 = .ok (.ldc2_w 394, 3) := by decide +kernel
theorem d_BM_back_6 : decode c_BM_back 6 = .ok (.invokestatic 162, 3) := by decide +kernel
theorem d_BM_back_9 : decode c_BM_back 9 = .ok (.ifCond .eq 12, 3) := by decide +kernel
theorem d_BM_back_12 : decode c_BM_back 12 = .ok (.aload_n 0, 1) := by decide +kernel
theorem d_BM_back_13 : decode c_BM_back 13 = .ok (.getfield 156, 3) := by decide +kernel
theorem d_BM_back_16 : decode c_BM_back 16 = .ok (.iload_n 1, 1) := by decide +kernel
theorem d_BM_back_17 : decode c_BM_back 17 = .ok (.baload, 1) := by decide +kernel
theorem d_BM_back_18 : decode c_BM_back 18 = .ok (.ifCond .ne 5, 3) := by decide +kernel
theorem d_BM_back_21 : decode c_BM_back 21 = .ok (.iconst (-1), 1) := by decide +kernel
theorem d_BM_back_22 : decode c_BM_back 22 = .ok (.ireturn, 1) := by decide +kernel
theorem d_BM_back_23 : decode c_BM_back 23 = .ok (.aload_n 0, 1) := by decide +kernel
theorem d_BM_back_24 : decode c_BM_back 24 = .ok (.iload_n 1, 1) := by decide +kernel
theorem d_BM_back_25 : decode c_BM_back 25 = .ok (.iconst 1, 1) := by decide +kernel
theorem d_BM_back_26 : decode c_BM_back 26 = .ok (.invokevirtual 562, 3) := by decide +kernel
theorem d_BM_back_29 : decode c_BM_back 29 = .ok (.aload_n 0, 1) := by decide +kernel
theorem d_BM_back_30 : decode c_BM_back 30 = .ok (.getfield 9, 3) := by decide +kernel
theorem d_BM_back_33 : decode c_BM_back 33 = .ok (.iconst 3, 1) := by decide +kernel
theorem d_BM_back_34 : decode c_BM_back 34 = .ok (.iaload, 1) := by decide +kernel
theorem d_BM_back_35 : decode c_BM_back 35 = .ok (.ireturn, 1) := by decide +kernel
def S_BM_back_0 (g : Gx) (Q : Int32 → St → Prop) (σ : St) (x1 : Int32) : Prop := Ax g m_BM_back 0 0 (ZI g Q) SH σ 0 0 0 [(0, .ref (gB g + 151)), (1, .int x1)] []
theorem sg_BM_back_0 {g : Gx} {Q : Int32 → St → Prop} {σ : St} {x1 : Int32}
    (h : K_BM_in g ((x1).toInt64) (0 : Int64) (3 : Int64) σ (fun (r2 : Int32) (s1 : St) => (r2 = 0 → Q (-1 : Int32) s1) ∧ (¬ r2 = 0 → vp_in x1 4 ∧ ((¬ (ai s1 198 (x1).toNatClampNeg) = 0 → K_BM_carriesAll g x1 (1 : Int32) s1 (fun s3 : St => vp_in (3 : Int32) 8 ∧ (Q (ai s3 152 ((3 : Int32)).toNatClampNeg) s3))) ∧ ((ai s1 198 (x1).toNatClampNeg) = 0 → Q (-1 : Int32) s1))))) : S_BM_back_0 g Q σ x1 := by
  show Ax g m_BM_back 0 0 (ZI g Q) SH σ 0 0 0 [(0, .ref (gB g + 151)), (1, .int x1)] []
  refine a_iload_n (pc := 0) 1 rfl rfl d_BM_back_0 ?_
  refine a_i2l (pc := 1) d_BM_back_1 ?_
  refine a_lconst (pc := 2) (0 : Int64) (by decide) d_BM_back_2 ?_
  refine a_ldc2 (pc := 3) tw1644 d_BM_back_3 ?_
  refine a_callS (pc := 6) (M' := m_BM_in) (As := [.long ((x1).toInt64), .long (0 : Int64), .long (3 : Int64)]) (st := []) (mc' := 0) (ms' := 0) lk_BM_162 rfl (by decide) (by decide) rfl (Nat.le_of_ble_eq_true rfl) (Nat.le_refl 0) (Nat.le_refl 0) d_BM_back_6 h ?_
  rintro _ _ s1 ⟨r2, rfl, rfl, h⟩ -
  show Ax g m_BM_back 0 0 (ZI g Q) SH s1 0 0 9 [(0, .ref (gB g + 151)), (1, .int x1)] [.int r2]
  refine a_if_eq (pc := 9) 21 (by decide) d_BM_back_9 ⟨fun c0 => ?_, fun c0 => ?_⟩
  · replace h := h.1 c0
    refine a_iconst (pc := 21) (-1 : Int32) (by decide) d_BM_back_21 ?_
    exact b_iret (pc := 22) rfl d_BM_back_22 h
  · replace h := h.2 c0
    refine a_aload_n (pc := 12) 0 rfl rfl d_BM_back_12 ?_
    refine a_getR (pc := 13) fg_BM_156 sx_151 rfl d_BM_back_13 ?_
    refine a_iload_n (pc := 16) 1 rfl rfl d_BM_back_16 ?_
    obtain ⟨hx, h⟩ := h
    refine a_zald (pc := 17) sx_198 hx d_BM_back_17 ?_
    refine a_if_ne (pc := 18) 23 (by decide) d_BM_back_18 ⟨fun c0 => ?_, fun c0 => ?_⟩
    · replace h := h.1 c0
      refine a_aload_n (pc := 23) 0 rfl rfl d_BM_back_23 ?_
      refine a_iload_n (pc := 24) 1 rfl rfl d_BM_back_24 ?_
      refine a_iconst (pc := 25) (1 : Int32) (by decide) d_BM_back_25 ?_
      refine a_callV (pc := 26) (M' := m_BM_carriesAll) (As := [.int x1, .int (1 : Int32)]) (st := []) (mc' := 0) (ms' := 0) lk_BM_562 rfl sx_151 rfl (by decide) (by decide) rfl (Nat.le_of_ble_eq_true rfl) (Nat.le_refl 0) (Nat.le_refl 0) d_BM_back_26 h ?_
      rintro _ _ s3 ⟨rfl, rfl, h⟩ -
      show Ax g m_BM_back 0 0 (ZI g Q) SH s3 0 0 29 [(0, .ref (gB g + 151)), (1, .int x1)] []
      refine a_aload_n (pc := 29) 0 rfl rfl d_BM_back_29 ?_
      refine a_getR (pc := 30) fg_BM_9 sx_151 rfl d_BM_back_30 ?_
      refine a_iconst (pc := 33) (3 : Int32) (by decide) d_BM_back_33 ?_
      obtain ⟨hx, h⟩ := h
      refine a_iald (pc := 34) sx_152 hx d_BM_back_34 ?_
      exact b_iret (pc := 35) rfl d_BM_back_35 h
    · replace h := h.2 c0
      refine a_iconst (pc := 21) (-1 : Int32) (by decide) d_BM_back_21 ?_
      exact b_iret (pc := 22) rfl d_BM_back_22 h
theorem ko_BM_back {g : Gx}  {x1 : Int32} {σ : St} {Q : Int32 → St → Prop} (h : S_BM_back_0 g Q σ x1) : K_BM_back g x1 σ Q := KI.of (show plainName "BallBoxModel" = true by decide) (Nat.le_of_ble_eq_true rfl) h
