-- Arrays.fill over any shape
theorem rai_rai (σ : St) (i : Nat) (f h : Nat → Int32) : rai (rai σ i f) i h = rai σ i h := by
  simp only [rai, Prod.mk.injEq, true_and, and_true]
  funext a
  simp only [up1]
  split <;> rfl
theorem sai_rai (σ : St) (i k : Nat) (v : Int32) : sai σ i k v = rai σ i (upd (ai σ i) k v) := by
  simp only [sai, rai, Prod.mk.injEq, true_and, and_true]
  funext a b
  simp only [up1, up2, ai, upd]
  by_cases ha : a = i <;> by_cases hb : b = k <;> simp [ha, hb, upd]
theorem ai_rai (σ : St) (i : Nat) (f : Nat → Int32) : ai (rai σ i f) i = f := by simp [ai, rai, up1]
theorem rai_self (σ : St) (i : Nat) : rai σ i (ai σ i) = σ := by
  simp only [rai, ai]
  have : up1 σ.2.2.1 i (σ.2.2.1 i) = σ.2.2.1 := by funext a; simp only [up1]; split <;> simp_all
  rw [this]
theorem fill_loop {g : Gx} {sh : List Sh} {Q : Qt} {a N : Nat} {v : Int32} (hi : sh[a]? = some (.inr (0, N, []))) (hN : N < 2 ^ 31) : ∀ (d j : Nat) (σ : St), j + d = N → Q none sh (rai σ a (fun q => if j ≤ q ∧ q < N then v else ai σ a q)) → Ax g m_JA_fill 0 0 (Zx g sh.length 0 0 Q) sh σ 0 0 5 [(0, .ref (gB g + a)), (1, .int v), (2, .int (nI j)), (3, .int (nI N))] [] := by
  intro d
  induction d with
  | zero =>
    intro j σ hj h
    refine a_iload_n (pc := 5) 2 rfl rfl d_JA_fill_5 ?_
    refine a_iload_n (pc := 6) 3 rfl rfl d_JA_fill_6 ?_
    refine a_icmp_ge (pc := 7) 20 (by decide) d_JA_fill_7 ⟨fun _ => ?_, fun c => absurd (nI_le (by omega) (by omega)) c⟩
    refine a_vret (pc := 20) rfl rfl rfl (Nat.le_refl 0) d_JA_fill_20 ?_
    have e : (fun q => if j ≤ q ∧ q < N then v else ai σ a q) = ai σ a := by funext q; rw [if_neg (by omega)]
    rw [e, rai_self] at h
    exact h
  | succ d ih =>
    intro j σ hj h
    refine a_iload_n (pc := 5) 2 rfl rfl d_JA_fill_5 ?_
    refine a_iload_n (pc := 6) 3 rfl rfl d_JA_fill_6 ?_
    refine a_icmp_ge (pc := 7) 20 (by decide) d_JA_fill_7 ⟨fun c => absurd c (nI_ge (by omega) (by omega)), fun _ => ?_⟩
    refine a_aload_n (pc := 10) 0 rfl rfl d_JA_fill_10 ?_
    refine a_iload_n (pc := 11) 2 rfl rfl d_JA_fill_11 ?_
    refine a_iload_n (pc := 12) 1 rfl rfl d_JA_fill_12 ?_
    refine a_iast (pc := 13) hi (vp_in_nI (by omega) (by omega)) d_JA_fill_13 ?_
    refine a_iinc (pc := 14) (v := nI (j + 1)) (lv' := [(2, .int (nI (j + 1))), (0, .ref (gB g + a)), (1, .int v), (3, .int (nI N))]) 2 rfl (by rw [nI_succ]; rfl) (by decide) rfl d_JA_fill_14 ?_
    refine a_goto (pc := 17) 5 (by decide) d_JA_fill_17 ?_
    refine a_sub (pc := 5) [1, 2, 0, 3] rfl ?_
    rw [nI_clamp (by omega)]
    refine ih (j + 1) _ (by omega) ?_
    rw [sai_rai, rai_rai, ai_rai]
    have e : (fun q => if j + 1 ≤ q ∧ q < N then v else upd (ai σ a) j v q) = (fun q => if j ≤ q ∧ q < N then v else ai σ a q) := by
      funext q
      simp only [upd]
      by_cases h1 : q = j
      · subst h1
        rw [if_neg (by omega), if_pos rfl, if_pos (by omega)]
      · by_cases h2 : j + 1 ≤ q ∧ q < N
        · rw [if_pos h2, if_pos (by omega)]
        · rw [if_neg h2, if_neg h1, if_neg (by omega)]
    rw [e]
    exact h
theorem c_fill {g : Gx} {sh : List Sh} {σ : St} {a N : Nat} {v : Int32} (hi : sh[a]? = some (.inr (0, N, []))) (hN : N < 2 ^ 31) : Cx g m_JA_fill [.ref (gB g + a), .int v] sh σ 0 0 (fun r sh' σ' => r = none ∧ sh' = sh ∧ σ' = rai σ a (fun q => if q < N then v else ai σ a q)) := by
  refine Cx.of (show plainName "java/util/Arrays" = true by decide) (Nat.le_of_ble_eq_true rfl) ?_
  show Ax g m_JA_fill 0 0 (Zx g sh.length 0 0 _) sh σ 0 0 0 [(0, .ref (gB g + a)), (1, .int v)] []
  refine a_iconst (pc := 0) 0 (by decide) d_JA_fill_0 ?_
  refine a_istore_n (pc := 1) (lv' := [(2, .int 0), (0, .ref (gB g + a)), (1, .int v)]) rfl (by decide) rfl d_JA_fill_1 ?_
  refine a_aload_n (pc := 2) 1 rfl rfl d_JA_fill_2 ?_
  refine a_alen (pc := 3) (kd := 0) rfl hi d_JA_fill_3 ?_
  refine a_istore_n (pc := 4) (lv' := [(3, .int (nI N)), (2, .int 0), (0, .ref (gB g + a)), (1, .int v)]) rfl (by decide) rfl d_JA_fill_4 ?_
  refine a_sub (pc := 5) [2, 3, 1, 0] rfl ?_
  refine fill_loop hi hN N 0 σ (by omega) ⟨rfl, rfl, ?_⟩
  congr 1
  funext q
  by_cases h : q < N
  · rw [if_pos h, if_pos ⟨Nat.zero_le _, h⟩]
  · rw [if_neg h, if_neg (fun z => h z.2)]
theorem ap_g {α : Type} {P R : List α} {L j : Nat} {x : α} (hL : P.length = L) (h : R[j]? = some x) : (P ++ R)[L + j]? = some x := by subst hL; rw [app_get]; exact h
theorem ap_s {α : Type} {P R : List α} {L j : Nat} {x : α} (hL : P.length = L) : (P ++ R).set (L + j) x = P ++ R.set j x := by subst hL; exact app_set P R j x
theorem ap_n {α : Type} {P R : List α} {L : Nat} (hL : P.length = L) : (P ++ R).length = L + R.length := by subst hL; exact List.length_append
theorem d_TA_init_0 : decode c_TA_init 0 = .ok (.aload_n 0, 1) := by decide +kernel
theorem d_TA_init_1 : decode c_TA_init 1 = .ok (.invokespecial 3, 3) := by decide +kernel
theorem d_TA_init_4 : decode c_TA_init 4 = .ok (.aload_n 0, 1) := by decide +kernel
theorem d_TA_init_5 : decode c_TA_init 5 = .ok (.sipush 400, 3) := by decide +kernel
theorem d_TA_init_8 : decode c_TA_init 8 = .ok (.newarray .int, 2) := by decide +kernel
theorem d_TA_init_10 : decode c_TA_init 10 = .ok (.putfield 11, 3) := by decide +kernel
theorem d_TA_init_13 : decode c_TA_init 13 = .ok (.return_, 1) := by decide +kernel
def F_TA_init (σ : St) (L : Nat) : St := σ
theorem zf_TA_init {σ : St} {L j : Nat} (hj : L + 2 ≤ j) (h : zro σ j) : zro (F_TA_init σ L) j := h
set_option maxRecDepth 20000 in
set_option maxHeartbeats 2000000 in
theorem cc_TA_init {g : Gx} {P : List Sh} {L : Nat} {σ : St} (hL : P.length = L) (hz : ∀ i, L < i → zro σ i) : Cx g m_TA_init [.ref (gB g + L)] (P ++ [.inl (9, [(3, 0), (0, 0), (0, 0), (0, 0)])]) σ 1 400 (fun r sh σ' => r = none ∧ sh = P ++ [.inl (9, [(2, (L + 1)), (0, 0), (0, 0), (0, 0)]), .inr (0, 400, [])] ∧ σ' = F_TA_init σ L) := by
  refine Cx.of (show plainName "BallBox$Tape" = true by decide) (Nat.le_of_ble_eq_true rfl) ?_
  show Ax g m_TA_init 1 400 _ (P ++ [.inl (9, [(3, 0), (0, 0), (0, 0), (0, 0)])]) σ 0 0 0 [(0, .ref (gB g + L))] []
  refine a_aload_n (pc := 0) 0 rfl rfl d_TA_init_0 ?_
  refine a_objI (pc := 1) tw35 tw28 tw29 (by decide) (Nat.le_of_ble_eq_true rfl) d_TA_init_1 ?_
  refine a_aload_n (pc := 4) 0 rfl rfl d_TA_init_4 ?_
  refine a_sipush (pc := 5) (400 : Int32) (by decide) d_TA_init_5 ?_
  refine a_newi (pc := 8) (atype := .int) (kd := 0) (N := 400) rfl (Or.inl ⟨rfl, rfl⟩) tw54 (by rw [ap_n hL]; show zro _ (L + 1); exact (hz _ (by omega))) (by decide) (by decide) (by decide) (Nat.le_of_ble_eq_true rfl) (Nat.le_of_ble_eq_true rfl) d_TA_init_8 ?_
  rw [ap_n hL, List.append_assoc]
  show Ax g m_TA_init 1 400 _ (P ++ [.inl (9, [(3, 0), (0, 0), (0, 0), (0, 0)]), .inr (0, 400, [])]) (σ) 1 400 10 [(0, .ref (gB g + L))] [.ref (gB g + (L + 1)), .ref (gB g + L)]
  refine a_putF (pc := 10) (i := L + 0) (r := (L + 1)) fp_TA_11 (Or.inr ⟨_, rfl⟩) rfl rfl (ap_g hL rfl) rfl d_TA_init_10 ?_
  rw [ap_s hL]
  show Ax g m_TA_init 1 400 _ (P ++ [.inl (9, [(2, (L + 1)), (0, 0), (0, 0), (0, 0)]), .inr (0, 400, [])]) (σ) 1 400 13 [(0, .ref (gB g + L))] []
  exact a_vret (pc := 13) rfl (by simp [List.length_append] <;> omega) rfl (Nat.le_refl _) d_TA_init_13 ⟨rfl, rfl, rfl⟩
theorem d_SA_init_0 : decode c_SA_init 0 = .ok (.aload_n 0, 1) := by decide +kernel
theorem d_SA_init_1 : decode c_SA_init 1 = .ok (.invokespecial 3, 3) := by decide +kernel
theorem d_SA_init_4 : decode c_SA_init 4 = .ok (.aload_n 0, 1) := by decide +kernel
theorem d_SA_init_5 : decode c_SA_init 5 = .ok (.iconst (-1), 1) := by decide +kernel
theorem d_SA_init_6 : decode c_SA_init 6 = .ok (.putfield 9, 3) := by decide +kernel
theorem d_SA_init_9 : decode c_SA_init 9 = .ok (.aload_n 0, 1) := by decide +kernel
theorem d_SA_init_10 : decode c_SA_init 10 = .ok (.bipush 64, 2) := by decide +kernel
theorem d_SA_init_12 : decode c_SA_init 12 = .ok (.newarray .int, 2) := by decide +kernel
theorem d_SA_init_14 : decode c_SA_init 14 = .ok (.putfield 15, 3) := by decide +kernel
theorem d_SA_init_17 : decode c_SA_init 17 = .ok (.aload_n 0, 1) := by decide +kernel
theorem d_SA_init_18 : decode c_SA_init 18 = .ok (.iconst 3, 1) := by decide +kernel
theorem d_SA_init_19 : decode c_SA_init 19 = .ok (.newarray .int, 2) := by decide +kernel
theorem d_SA_init_21 : decode c_SA_init 21 = .ok (.putfield 19, 3) := by decide +kernel
theorem d_SA_init_24 : decode c_SA_init 24 = .ok (.aload_n 0, 1) := by decide +kernel
theorem d_SA_init_25 : decode c_SA_init 25 = .ok (.bipush 8, 2) := by decide +kernel
theorem d_SA_init_27 : decode c_SA_init 27 = .ok (.newarray .int, 2) := by decide +kernel
theorem d_SA_init_29 : decode c_SA_init 29 = .ok (.putfield 22, 3) := by decide +kernel
theorem d_SA_init_32 : decode c_SA_init 32 = .ok (.aload_n 0, 1) := by decide +kernel
theorem d_SA_init_33 : decode c_SA_init 33 = .ok (.bipush 8, 2) := by decide +kernel
theorem d_SA_init_35 : decode c_SA_init 35 = .ok (.newarray .int, 2) := by decide +kernel
theorem d_SA_init_37 : decode c_SA_init 37 = .ok (.putfield 25, 3) := by decide +kernel
theorem d_SA_init_40 : decode c_SA_init 40 = .ok (.aload_n 0, 1) := by decide +kernel
theorem d_SA_init_41 : decode c_SA_init 41 = .ok (.getfield 15, 3) := by decide +kernel
theorem d_SA_init_44 : decode c_SA_init 44 = .ok (.iconst (-1), 1) := by decide +kernel
theorem d_SA_init_45 : decode c_SA_init 45 = .ok (.invokestatic 28, 3) := by decide +kernel
theorem d_SA_init_48 : decode c_SA_init 48 = .ok (.return_, 1) := by decide +kernel
def F_SA_init (σ : St) (L : Nat) : St := rai (sfi (σ) L 9 (-1 : Int32)) (L + 1) (fun q => if q < 64 then (-1 : Int32) else ai (sfi (σ) L 9 (-1 : Int32)) (L + 1) q)
theorem zf_SA_init {σ : St} {L j : Nat} (hj : L + 5 ≤ j) (h : zro σ j) : zro (F_SA_init σ L) j := (zro_rai (by omega) (zro_sfi (by omega) h))
set_option maxRecDepth 20000 in
set_option maxHeartbeats 2000000 in
theorem cc_SA_init {g : Gx} {P : List Sh} {L : Nat} {σ : St} (hL : P.length = L) (hz : ∀ i, L < i → zro σ i) : Cx g m_SA_init [.ref (gB g + L)] (P ++ [.inl (8, [(0, 0), (0, 0), (0, 0), (0, 0), (0, 0), (0, 0), (0, 0), (0, 0), (0, 0), (0, 0), (0, 0), (3, 0), (3, 0), (3, 0), (3, 0)])]) σ 4 83 (fun r sh σ' => r = none ∧ sh = P ++ [.inl (8, [(0, 0), (0, 0), (0, 0), (0, 0), (0, 0), (0, 0), (0, 0), (0, 0), (0, 0), (0, 0), (0, 0), (2, (L + 1)), (2, (L + 2)), (2, (L + 3)), (2, (L + 4))]), .inr (0, 64, []), .inr (0, 3, []), .inr (0, 8, []), .inr (0, 8, [])] ∧ σ' = F_SA_init σ L) := by
  refine Cx.of (show plainName "BallBox$State" = true by decide) (Nat.le_of_ble_eq_true rfl) ?_
  show Ax g m_SA_init 4 83 _ (P ++ [.inl (8, [(0, 0), (0, 0), (0, 0), (0, 0), (0, 0), (0, 0), (0, 0), (0, 0), (0, 0), (0, 0), (0, 0), (3, 0), (3, 0), (3, 0), (3, 0)])]) σ 0 0 0 [(0, .ref (gB g + L))] []
  refine a_aload_n (pc := 0) 0 rfl rfl d_SA_init_0 ?_
  refine a_objI (pc := 1) tw66 tw28 tw29 (by decide) (Nat.le_of_ble_eq_true rfl) d_SA_init_1 ?_
  refine a_aload_n (pc := 4) 0 rfl rfl d_SA_init_4 ?_
  refine a_iconst (pc := 5) (-1 : Int32) (by decide) d_SA_init_5 ?_
  refine a_putI (pc := 6) (i := L + 0) fp_SA_9 (ap_g hL rfl) rfl d_SA_init_6 ?_
  show Ax g m_SA_init 4 83 _ (P ++ [.inl (8, [(0, 0), (0, 0), (0, 0), (0, 0), (0, 0), (0, 0), (0, 0), (0, 0), (0, 0), (0, 0), (0, 0), (3, 0), (3, 0), (3, 0), (3, 0)])]) (sfi (σ) L 9 (-1 : Int32)) 0 0 9 [(0, .ref (gB g + L))] []
  refine a_aload_n (pc := 9) 0 rfl rfl d_SA_init_9 ?_
  refine a_bipush (pc := 10) (64 : Int32) (by decide) d_SA_init_10 ?_
  refine a_newi (pc := 12) (atype := .int) (kd := 0) (N := 64) rfl (Or.inl ⟨rfl, rfl⟩) tw54 (by rw [ap_n hL]; show zro _ (L + 1); exact (zro_sfi (by omega) (hz _ (by omega)))) (by decide) (by decide) (by decide) (Nat.le_of_ble_eq_true rfl) (Nat.le_of_ble_eq_true rfl) d_SA_init_12 ?_
  rw [ap_n hL, List.append_assoc]
  show Ax g m_SA_init 4 83 _ (P ++ [.inl (8, [(0, 0), (0, 0), (0, 0), (0, 0), (0, 0), (0, 0), (0, 0), (0, 0), (0, 0), (0, 0), (0, 0), (3, 0), (3, 0), (3, 0), (3, 0)]), .inr (0, 64, [])]) (sfi (σ) L 9 (-1 : Int32)) 1 64 14 [(0, .ref (gB g + L))] [.ref (gB g + (L + 1)), .ref (gB g + L)]
  refine a_putF (pc := 14) (i := L + 0) (r := (L + 1)) fp_SA_15 (Or.inr ⟨_, rfl⟩) rfl rfl (ap_g hL rfl) rfl d_SA_init_14 ?_
  rw [ap_s hL]
  show Ax g m_SA_init 4 83 _ (P ++ [.inl (8, [(0, 0), (0, 0), (0, 0), (0, 0), (0, 0), (0, 0), (0, 0), (0, 0), (0, 0), (0, 0), (0, 0), (2, (L + 1)), (3, 0), (3, 0), (3, 0)]), .inr (0, 64, [])]) (sfi (σ) L 9 (-1 : Int32)) 1 64 17 [(0, .ref (gB g + L))] []
  refine a_aload_n (pc := 17) 0 rfl rfl d_SA_init_17 ?_
  refine a_iconst (pc := 18) (3 : Int32) (by decide) d_SA_init_18 ?_
  refine a_newi (pc := 19) (atype := .int) (kd := 0) (N := 3) rfl (Or.inl ⟨rfl, rfl⟩) tw54 (by rw [ap_n hL]; show zro _ (L + 2); exact (zro_sfi (by omega) (hz _ (by omega)))) (by decide) (by decide) (by decide) (Nat.le_of_ble_eq_true rfl) (Nat.le_of_ble_eq_true rfl) d_SA_init_19 ?_
  rw [ap_n hL, List.append_assoc]
  show Ax g m_SA_init 4 83 _ (P ++ [.inl (8, [(0, 0), (0, 0), (0, 0), (0, 0), (0, 0), (0, 0), (0, 0), (0, 0), (0, 0), (0, 0), (0, 0), (2, (L + 1)), (3, 0), (3, 0), (3, 0)]), .inr (0, 64, []), .inr (0, 3, [])]) (sfi (σ) L 9 (-1 : Int32)) 2 67 21 [(0, .ref (gB g + L))] [.ref (gB g + (L + 2)), .ref (gB g + L)]
  refine a_putF (pc := 21) (i := L + 0) (r := (L + 2)) fp_SA_19 (Or.inr ⟨_, rfl⟩) rfl rfl (ap_g hL rfl) rfl d_SA_init_21 ?_
  rw [ap_s hL]
  show Ax g m_SA_init 4 83 _ (P ++ [.inl (8, [(0, 0), (0, 0), (0, 0), (0, 0), (0, 0), (0, 0), (0, 0), (0, 0), (0, 0), (0, 0), (0, 0), (2, (L + 1)), (2, (L + 2)), (3, 0), (3, 0)]), .inr (0, 64, []), .inr (0, 3, [])]) (sfi (σ) L 9 (-1 : Int32)) 2 67 24 [(0, .ref (gB g + L))] []
  refine a_aload_n (pc := 24) 0 rfl rfl d_SA_init_24 ?_
  refine a_bipush (pc := 25) (8 : Int32) (by decide) d_SA_init_25 ?_
  refine a_newi (pc := 27) (atype := .int) (kd := 0) (N := 8) rfl (Or.inl ⟨rfl, rfl⟩) tw54 (by rw [ap_n hL]; show zro _ (L + 3); exact (zro_sfi (by omega) (hz _ (by omega)))) (by decide) (by decide) (by decide) (Nat.le_of_ble_eq_true rfl) (Nat.le_of_ble_eq_true rfl) d_SA_init_27 ?_
  rw [ap_n hL, List.append_assoc]
  show Ax g m_SA_init 4 83 _ (P ++ [.inl (8, [(0, 0), (0, 0), (0, 0), (0, 0), (0, 0), (0, 0), (0, 0), (0, 0), (0, 0), (0, 0), (0, 0), (2, (L + 1)), (2, (L + 2)), (3, 0), (3, 0)]), .inr (0, 64, []), .inr (0, 3, []), .inr (0, 8, [])]) (sfi (σ) L 9 (-1 : Int32)) 3 75 29 [(0, .ref (gB g + L))] [.ref (gB g + (L + 3)), .ref (gB g + L)]
  refine a_putF (pc := 29) (i := L + 0) (r := (L + 3)) fp_SA_22 (Or.inr ⟨_, rfl⟩) rfl rfl (ap_g hL rfl) rfl d_SA_init_29 ?_
  rw [ap_s hL]
  show Ax g m_SA_init 4 83 _ (P ++ [.inl (8, [(0, 0), (0, 0), (0, 0), (0, 0), (0, 0), (0, 0), (0, 0), (0, 0), (0, 0), (0, 0), (0, 0), (2, (L + 1)), (2, (L + 2)), (2, (L + 3)), (3, 0)]), .inr (0, 64, []), .inr (0, 3, []), .inr (0, 8, [])]) (sfi (σ) L 9 (-1 : Int32)) 3 75 32 [(0, .ref (gB g + L))] []
  refine a_aload_n (pc := 32) 0 rfl rfl d_SA_init_32 ?_
  refine a_bipush (pc := 33) (8 : Int32) (by decide) d_SA_init_33 ?_
  refine a_newi (pc := 35) (atype := .int) (kd := 0) (N := 8) rfl (Or.inl ⟨rfl, rfl⟩) tw54 (by rw [ap_n hL]; show zro _ (L + 4); exact (zro_sfi (by omega) (hz _ (by omega)))) (by decide) (by decide) (by decide) (Nat.le_of_ble_eq_true rfl) (Nat.le_of_ble_eq_true rfl) d_SA_init_35 ?_
  rw [ap_n hL, List.append_assoc]
  show Ax g m_SA_init 4 83 _ (P ++ [.inl (8, [(0, 0), (0, 0), (0, 0), (0, 0), (0, 0), (0, 0), (0, 0), (0, 0), (0, 0), (0, 0), (0, 0), (2, (L + 1)), (2, (L + 2)), (2, (L + 3)), (3, 0)]), .inr (0, 64, []), .inr (0, 3, []), .inr (0, 8, []), .inr (0, 8, [])]) (sfi (σ) L 9 (-1 : Int32)) 4 83 37 [(0, .ref (gB g + L))] [.ref (gB g + (L + 4)), .ref (gB g + L)]
  refine a_putF (pc := 37) (i := L + 0) (r := (L + 4)) fp_SA_25 (Or.inr ⟨_, rfl⟩) rfl rfl (ap_g hL rfl) rfl d_SA_init_37 ?_
  rw [ap_s hL]
  show Ax g m_SA_init 4 83 _ (P ++ [.inl (8, [(0, 0), (0, 0), (0, 0), (0, 0), (0, 0), (0, 0), (0, 0), (0, 0), (0, 0), (0, 0), (0, 0), (2, (L + 1)), (2, (L + 2)), (2, (L + 3)), (2, (L + 4))]), .inr (0, 64, []), .inr (0, 3, []), .inr (0, 8, []), .inr (0, 8, [])]) (sfi (σ) L 9 (-1 : Int32)) 4 83 40 [(0, .ref (gB g + L))] []
  refine a_aload_n (pc := 40) 0 rfl rfl d_SA_init_40 ?_
  refine a_getR (pc := 41) (i := L + 0) (r := (L + 1)) fg_SA_15 (ap_g hL rfl) rfl d_SA_init_41 ?_
  refine a_iconst (pc := 44) (-1 : Int32) (by decide) d_SA_init_44 ?_
  refine a_callS (pc := 45) (M' := m_JA_fill) (As := [.ref (gB g + (L + 1)), .int (-1 : Int32)]) (st := []) (mc' := 0) (ms' := 0) lk_SA_28 rfl (by decide) (by decide) rfl (Nat.le_of_ble_eq_true rfl) (Nat.le_of_ble_eq_true rfl) (Nat.le_of_ble_eq_true rfl) d_SA_init_45 (c_fill (N := 64) (ap_g hL rfl) (by decide)) ?_
  rintro _ _ s' ⟨rfl, rfl, hs⟩ -
  rw [hs]
  show Ax g m_SA_init 4 83 _ (P ++ [.inl (8, [(0, 0), (0, 0), (0, 0), (0, 0), (0, 0), (0, 0), (0, 0), (0, 0), (0, 0), (0, 0), (0, 0), (2, (L + 1)), (2, (L + 2)), (2, (L + 3)), (2, (L + 4))]), .inr (0, 64, []), .inr (0, 3, []), .inr (0, 8, []), .inr (0, 8, [])]) (rai (sfi (σ) L 9 (-1 : Int32)) (L + 1) (fun q => if q < 64 then (-1 : Int32) else ai (sfi (σ) L 9 (-1 : Int32)) (L + 1) q)) 4 83 48 [(0, .ref (gB g + L))] []
  exact a_vret (pc := 48) rfl (by simp [List.length_append] <;> omega) rfl (Nat.le_refl _) d_SA_init_48 ⟨rfl, rfl, rfl⟩
theorem d_BR_init_0 : decode c_BR_init 0 = .ok (.aload_n 0, 1) := by decide +kernel
theorem d_BR_init_1 : decode c_BR_init 1 = .ok (.invokespecial 3, 3) := by decide +kernel
theorem d_BR_init_4 : decode c_BR_init 4 = .ok (.aload_n 0, 1) := by decide +kernel
theorem d_BR_init_5 : decode c_BR_init 5 = .ok (.new 9, 3) := by decide +kernel
theorem d_BR_init_8 : decode c_BR_init 8 = .ok (.dup, 1) := by decide +kernel
theorem d_BR_init_9 : decode c_BR_init 9 = .ok (.invokespecial 11, 3) := by decide +kernel
theorem d_BR_init_12 : decode c_BR_init 12 = .ok (.putfield 12, 3) := by decide +kernel
theorem d_BR_init_15 : decode c_BR_init 15 = .ok (.return_, 1) := by decide +kernel
def F_BR_init (σ : St) (L : Nat) : St := F_SA_init (σ) (L + 1)
theorem zf_BR_init {σ : St} {L j : Nat} (hj : L + 6 ≤ j) (h : zro σ j) : zro (F_BR_init σ L) j := (zf_SA_init (by omega) h)
set_option maxRecDepth 20000 in
set_option maxHeartbeats 2000000 in
theorem cc_BR_init {g : Gx} {P : List Sh} {L : Nat} {σ : St} (hL : P.length = L) (hz : ∀ i, L < i → zro σ i) : Cx g m_BR_init [.ref (gB g + L)] (P ++ [.inl (0, [(3, 0)])]) σ 5 98 (fun r sh σ' => r = none ∧ sh = P ++ [.inl (0, [(2, (L + 1))]), .inl (8, [(0, 0), (0, 0), (0, 0), (0, 0), (0, 0), (0, 0), (0, 0), (0, 0), (0, 0), (0, 0), (0, 0), (2, (L + 2)), (2, (L + 3)), (2, (L + 4)), (2, (L + 5))]), .inr (0, 64, []), .inr (0, 3, []), .inr (0, 8, []), .inr (0, 8, [])] ∧ σ' = F_BR_init σ L) := by
  refine Cx.of (show plainName "BallBox$BoxReader" = true by decide) (Nat.le_of_ble_eq_true rfl) ?_
  show Ax g m_BR_init 5 98 _ (P ++ [.inl (0, [(3, 0)])]) σ 0 0 0 [(0, .ref (gB g + L))] []
  refine a_aload_n (pc := 0) 0 rfl rfl d_BR_init_0 ?_
  refine a_objI (pc := 1) tw60 tw28 tw29 (by decide) (Nat.le_of_ble_eq_true rfl) d_BR_init_1 ?_
  refine a_aload_n (pc := 4) 0 rfl rfl d_BR_init_4 ?_
  refine a_newo (pc := 5) (ci := 8) (N := 15) tyX8 rfl uw8 tyX8_ok (by decide) tw61 tw62 tw4 (by rw [ap_n hL]; show zro _ (L + 1); exact (hz _ (by omega))) (Nat.le_of_ble_eq_true rfl) (Nat.le_of_ble_eq_true rfl) d_BR_init_5 ?_
  rw [ap_n hL, List.append_assoc]
  show Ax g m_BR_init 5 98 _ (P ++ [.inl (0, [(3, 0)]), .inl (8, [(0, 0), (0, 0), (0, 0), (0, 0), (0, 0), (0, 0), (0, 0), (0, 0), (0, 0), (0, 0), (0, 0), (3, 0), (3, 0), (3, 0), (3, 0)])]) (σ) 1 15 8 [(0, .ref (gB g + L))] [.ref (gB g + (L + 1)), .ref (gB g + L)]
  refine a_dup (pc := 8) rfl d_BR_init_8 ?_
  refine a_callI (a := 0) (pc := 9) (M' := m_SA_init) (i := gB g + (L + 1)) (As := []) (st := [.ref (gB g + (L + 1)), .ref (gB g + L)]) (mc' := 4) (ms' := 83) tw63 tw64 tw4 tw65 rfl rfl (by decide +kernel) rfl (by decide) (by decide) rfl (Nat.le_of_ble_eq_true rfl) (Nat.le_of_ble_eq_true rfl) (Nat.le_of_ble_eq_true rfl) d_BR_init_9 (by have q := cc_SA_init (g := g) (P := P ++ [.inl (0, [(3, 0)])]) (L := L + 1) (σ := σ) (ap_n hL) (fun i hi => (hz _ (by omega))); rw [List.append_assoc] at q; exact q) ?_
  rintro _ _ s' ⟨rfl, rfl, hs⟩ -
  rw [hs]
  rw [List.append_assoc]
  show Ax g m_BR_init 5 98 _ (P ++ [.inl (0, [(3, 0)]), .inl (8, [(0, 0), (0, 0), (0, 0), (0, 0), (0, 0), (0, 0), (0, 0), (0, 0), (0, 0), (0, 0), (0, 0), (2, (L + 2)), (2, (L + 3)), (2, (L + 4)), (2, (L + 5))]), .inr (0, 64, []), .inr (0, 3, []), .inr (0, 8, []), .inr (0, 8, [])]) (F_SA_init (σ) (L + 1)) 5 98 12 [(0, .ref (gB g + L))] [.ref (gB g + (L + 1)), .ref (gB g + L)]
  refine a_putF (pc := 12) (i := L + 0) (r := (L + 1)) fp_BR_12 (Or.inl ⟨_, rfl⟩) rfl rfl (ap_g hL rfl) rfl d_BR_init_12 ?_
  rw [ap_s hL]
  show Ax g m_BR_init 5 98 _ (P ++ [.inl (0, [(2, (L + 1))]), .inl (8, [(0, 0), (0, 0), (0, 0), (0, 0), (0, 0), (0, 0), (0, 0), (0, 0), (0, 0), (0, 0), (0, 0), (2, (L + 2)), (2, (L + 3)), (2, (L + 4)), (2, (L + 5))]), .inr (0, 64, []), .inr (0, 3, []), .inr (0, 8, []), .inr (0, 8, [])]) (F_SA_init (σ) (L + 1)) 5 98 15 [(0, .ref (gB g + L))] []
  exact a_vret (pc := 15) rfl (by simp [List.length_append] <;> omega) rfl (Nat.le_refl _) d_BR_init_15 ⟨rfl, rfl, rfl⟩
theorem d_RU_init_0 : decode c_RU_init 0 = .ok (.aload_n 0, 1) := by decide +kernel
theorem d_RU_init_1 : decode c_RU_init 1 = .ok (.invokespecial 1, 3) := by decide +kernel
theorem d_RU_init_4 : decode c_RU_init 4 = .ok (.aload_n 0, 1) := by decide +kernel
theorem d_RU_init_5 : decode c_RU_init 5 = .ok (.sipush 400, 3) := by decide +kernel
theorem d_RU_init_8 : decode c_RU_init 8 = .ok (.newarray .int, 2) := by decide +kernel
theorem d_RU_init_10 : decode c_RU_init 10 = .ok (.putfield 9, 3) := by decide +kernel
theorem d_RU_init_13 : decode c_RU_init 13 = .ok (.aload_n 0, 1) := by decide +kernel
theorem d_RU_init_14 : decode c_RU_init 14 = .ok (.bipush 12, 2) := by decide +kernel
theorem d_RU_init_16 : decode c_RU_init 16 = .ok (.newarray .int, 2) := by decide +kernel
theorem d_RU_init_18 : decode c_RU_init 18 = .ok (.putfield 15, 3) := by decide +kernel
theorem d_RU_init_21 : decode c_RU_init 21 = .ok (.aload_n 0, 1) := by decide +kernel
theorem d_RU_init_22 : decode c_RU_init 22 = .ok (.bipush 12, 2) := by decide +kernel
theorem d_RU_init_24 : decode c_RU_init 24 = .ok (.newarray .int, 2) := by decide +kernel
theorem d_RU_init_26 : decode c_RU_init 26 = .ok (.putfield 18, 3) := by decide +kernel
theorem d_RU_init_29 : decode c_RU_init 29 = .ok (.aload_n 0, 1) := by decide +kernel
theorem d_RU_init_30 : decode c_RU_init 30 = .ok (.bipush 64, 2) := by decide +kernel
theorem d_RU_init_32 : decode c_RU_init 32 = .ok (.newarray .long, 2) := by decide +kernel
theorem d_RU_init_34 : decode c_RU_init 34 = .ok (.putfield 21, 3) := by decide +kernel
theorem d_RU_init_37 : decode c_RU_init 37 = .ok (.return_, 1) := by decide +kernel
def F_RU_init (σ : St) (L : Nat) : St := σ
theorem zf_RU_init {σ : St} {L j : Nat} (hj : L + 5 ≤ j) (h : zro σ j) : zro (F_RU_init σ L) j := h
set_option maxRecDepth 20000 in
set_option maxHeartbeats 2000000 in
theorem cc_RU_init {g : Gx} {P : List Sh} {L : Nat} {σ : St} (hL : P.length = L) (hz : ∀ i, L < i → zro σ i) : Cx g m_RU_init [.ref (gB g + L)] (P ++ [.inl (5, [(3, 0), (3, 0), (3, 0), (3, 0), (0, 0), (0, 0), (0, 0)])]) σ 4 488 (fun r sh σ' => r = none ∧ sh = P ++ [.inl (5, [(2, (L + 1)), (2, (L + 2)), (2, (L + 3)), (2, (L + 4)), (0, 0), (0, 0), (0, 0)]), .inr (0, 400, []), .inr (0, 12, []), .inr (0, 12, []), .inr (1, 64, [])] ∧ σ' = F_RU_init σ L) := by
  refine Cx.of (show plainName "BallBox$Rule" = true by decide) (Nat.le_of_ble_eq_true rfl) ?_
  show Ax g m_RU_init 4 488 _ (P ++ [.inl (5, [(3, 0), (3, 0), (3, 0), (3, 0), (0, 0), (0, 0), (0, 0)])]) σ 0 0 0 [(0, .ref (gB g + L))] []
  refine a_aload_n (pc := 0) 0 rfl rfl d_RU_init_0 ?_
  refine a_objI (pc := 1) tw163 tw28 tw29 (by decide) (Nat.le_of_ble_eq_true rfl) d_RU_init_1 ?_
  refine a_aload_n (pc := 4) 0 rfl rfl d_RU_init_4 ?_
  refine a_sipush (pc := 5) (400 : Int32) (by decide) d_RU_init_5 ?_
  refine a_newi (pc := 8) (atype := .int) (kd := 0) (N := 400) rfl (Or.inl ⟨rfl, rfl⟩) tw54 (by rw [ap_n hL]; show zro _ (L + 1); exact (hz _ (by omega))) (by decide) (by decide) (by decide) (Nat.le_of_ble_eq_true rfl) (Nat.le_of_ble_eq_true rfl) d_RU_init_8 ?_
  rw [ap_n hL, List.append_assoc]
  show Ax g m_RU_init 4 488 _ (P ++ [.inl (5, [(3, 0), (3, 0), (3, 0), (3, 0), (0, 0), (0, 0), (0, 0)]), .inr (0, 400, [])]) (σ) 1 400 10 [(0, .ref (gB g + L))] [.ref (gB g + (L + 1)), .ref (gB g + L)]
  refine a_putF (pc := 10) (i := L + 0) (r := (L + 1)) fp_RU_9 (Or.inr ⟨_, rfl⟩) rfl rfl (ap_g hL rfl) rfl d_RU_init_10 ?_
  rw [ap_s hL]
  show Ax g m_RU_init 4 488 _ (P ++ [.inl (5, [(2, (L + 1)), (3, 0), (3, 0), (3, 0), (0, 0), (0, 0), (0, 0)]), .inr (0, 400, [])]) (σ) 1 400 13 [(0, .ref (gB g + L))] []
  refine a_aload_n (pc := 13) 0 rfl rfl d_RU_init_13 ?_
  refine a_bipush (pc := 14) (12 : Int32) (by decide) d_RU_init_14 ?_
  refine a_newi (pc := 16) (atype := .int) (kd := 0) (N := 12) rfl (Or.inl ⟨rfl, rfl⟩) tw54 (by rw [ap_n hL]; show zro _ (L + 2); exact (hz _ (by omega))) (by decide) (by decide) (by decide) (Nat.le_of_ble_eq_true rfl) (Nat.le_of_ble_eq_true rfl) d_RU_init_16 ?_
  rw [ap_n hL, List.append_assoc]
  show Ax g m_RU_init 4 488 _ (P ++ [.inl (5, [(2, (L + 1)), (3, 0), (3, 0), (3, 0), (0, 0), (0, 0), (0, 0)]), .inr (0, 400, []), .inr (0, 12, [])]) (σ) 2 412 18 [(0, .ref (gB g + L))] [.ref (gB g + (L + 2)), .ref (gB g + L)]
  refine a_putF (pc := 18) (i := L + 0) (r := (L + 2)) fp_RU_15 (Or.inr ⟨_, rfl⟩) rfl rfl (ap_g hL rfl) rfl d_RU_init_18 ?_
  rw [ap_s hL]
  show Ax g m_RU_init 4 488 _ (P ++ [.inl (5, [(2, (L + 1)), (2, (L + 2)), (3, 0), (3, 0), (0, 0), (0, 0), (0, 0)]), .inr (0, 400, []), .inr (0, 12, [])]) (σ) 2 412 21 [(0, .ref (gB g + L))] []
  refine a_aload_n (pc := 21) 0 rfl rfl d_RU_init_21 ?_
  refine a_bipush (pc := 22) (12 : Int32) (by decide) d_RU_init_22 ?_
  refine a_newi (pc := 24) (atype := .int) (kd := 0) (N := 12) rfl (Or.inl ⟨rfl, rfl⟩) tw54 (by rw [ap_n hL]; show zro _ (L + 3); exact (hz _ (by omega))) (by decide) (by decide) (by decide) (Nat.le_of_ble_eq_true rfl) (Nat.le_of_ble_eq_true rfl) d_RU_init_24 ?_
  rw [ap_n hL, List.append_assoc]
  show Ax g m_RU_init 4 488 _ (P ++ [.inl (5, [(2, (L + 1)), (2, (L + 2)), (3, 0), (3, 0), (0, 0), (0, 0), (0, 0)]), .inr (0, 400, []), .inr (0, 12, []), .inr (0, 12, [])]) (σ) 3 424 26 [(0, .ref (gB g + L))] [.ref (gB g + (L + 3)), .ref (gB g + L)]
  refine a_putF (pc := 26) (i := L + 0) (r := (L + 3)) fp_RU_18 (Or.inr ⟨_, rfl⟩) rfl rfl (ap_g hL rfl) rfl d_RU_init_26 ?_
  rw [ap_s hL]
  show Ax g m_RU_init 4 488 _ (P ++ [.inl (5, [(2, (L + 1)), (2, (L + 2)), (2, (L + 3)), (3, 0), (0, 0), (0, 0), (0, 0)]), .inr (0, 400, []), .inr (0, 12, []), .inr (0, 12, [])]) (σ) 3 424 29 [(0, .ref (gB g + L))] []
  refine a_aload_n (pc := 29) 0 rfl rfl d_RU_init_29 ?_
  refine a_bipush (pc := 30) (64 : Int32) (by decide) d_RU_init_30 ?_
  refine a_newi (pc := 32) (atype := .long) (kd := 1) (N := 64) rfl (Or.inr (Or.inl ⟨rfl, rfl⟩)) tw186 (by rw [ap_n hL]; show zro _ (L + 4); exact (hz _ (by omega))) (by decide) (by decide) (by decide) (Nat.le_of_ble_eq_true rfl) (Nat.le_of_ble_eq_true rfl) d_RU_init_32 ?_
  rw [ap_n hL, List.append_assoc]
  show Ax g m_RU_init 4 488 _ (P ++ [.inl (5, [(2, (L + 1)), (2, (L + 2)), (2, (L + 3)), (3, 0), (0, 0), (0, 0), (0, 0)]), .inr (0, 400, []), .inr (0, 12, []), .inr (0, 12, []), .inr (1, 64, [])]) (σ) 4 488 34 [(0, .ref (gB g + L))] [.ref (gB g + (L + 4)), .ref (gB g + L)]
  refine a_putF (pc := 34) (i := L + 0) (r := (L + 4)) fp_RU_21 (Or.inr ⟨_, rfl⟩) rfl rfl (ap_g hL rfl) rfl d_RU_init_34 ?_
  rw [ap_s hL]
  show Ax g m_RU_init 4 488 _ (P ++ [.inl (5, [(2, (L + 1)), (2, (L + 2)), (2, (L + 3)), (2, (L + 4)), (0, 0), (0, 0), (0, 0)]), .inr (0, 400, []), .inr (0, 12, []), .inr (0, 12, []), .inr (1, 64, [])]) (σ) 4 488 37 [(0, .ref (gB g + L))] []
  exact a_vret (pc := 37) rfl (by simp [List.length_append] <;> omega) rfl (Nat.le_refl _) d_RU_init_37 ⟨rfl, rfl, rfl⟩
theorem d_RR_init_0 : decode c_RR_init 0 = .ok (.aload_n 0, 1) := by decide +kernel
theorem d_RR_init_1 : decode c_RR_init 1 = .ok (.invokespecial 3, 3) := by decide +kernel
theorem d_RR_init_4 : decode c_RR_init 4 = .ok (.aload_n 0, 1) := by decide +kernel
theorem d_RR_init_5 : decode c_RR_init 5 = .ok (.sipush 401, 3) := by decide +kernel
theorem d_RR_init_8 : decode c_RR_init 8 = .ok (.newarray .int, 2) := by decide +kernel
theorem d_RR_init_10 : decode c_RR_init 10 = .ok (.putfield 11, 3) := by decide +kernel
theorem d_RR_init_13 : decode c_RR_init 13 = .ok (.aload_n 0, 1) := by decide +kernel
theorem d_RR_init_14 : decode c_RR_init 14 = .ok (.sipush 401, 3) := by decide +kernel
theorem d_RR_init_17 : decode c_RR_init 17 = .ok (.newarray .int, 2) := by decide +kernel
theorem d_RR_init_19 : decode c_RR_init 19 = .ok (.putfield 15, 3) := by decide +kernel
theorem d_RR_init_22 : decode c_RR_init 22 = .ok (.aload_n 0, 1) := by decide +kernel
theorem d_RR_init_23 : decode c_RR_init 23 = .ok (.new 18, 3) := by decide +kernel
theorem d_RR_init_26 : decode c_RR_init 26 = .ok (.dup, 1) := by decide +kernel
theorem d_RR_init_27 : decode c_RR_init 27 = .ok (.invokespecial 20, 3) := by decide +kernel
theorem d_RR_init_30 : decode c_RR_init 30 = .ok (.putfield 21, 3) := by decide +kernel
theorem d_RR_init_33 : decode c_RR_init 33 = .ok (.return_, 1) := by decide +kernel
def F_RR_init (σ : St) (L : Nat) : St := F_RU_init (σ) (L + 3)
theorem zf_RR_init {σ : St} {L j : Nat} (hj : L + 8 ≤ j) (h : zro σ j) : zro (F_RR_init σ L) j := (zf_RU_init (by omega) h)
set_option maxRecDepth 20000 in
set_option maxHeartbeats 2000000 in
theorem cc_RR_init {g : Gx} {P : List Sh} {L : Nat} {σ : St} (hL : P.length = L) (hz : ∀ i, L < i → zro σ i) : Cx g m_RR_init [.ref (gB g + L)] (P ++ [.inl (6, [(3, 0), (3, 0), (0, 0), (0, 0), (0, 0), (0, 0), (3, 0)])]) σ 7 1297 (fun r sh σ' => r = none ∧ sh = P ++ [.inl (6, [(2, (L + 1)), (2, (L + 2)), (0, 0), (0, 0), (0, 0), (0, 0), (2, (L + 3))]), .inr (0, 401, []), .inr (0, 401, []), .inl (5, [(2, (L + 4)), (2, (L + 5)), (2, (L + 6)), (2, (L + 7)), (0, 0), (0, 0), (0, 0)]), .inr (0, 400, []), .inr (0, 12, []), .inr (0, 12, []), .inr (1, 64, [])] ∧ σ' = F_RR_init σ L) := by
  refine Cx.of (show plainName "BallBox$RuleReader" = true by decide) (Nat.le_of_ble_eq_true rfl) ?_
  show Ax g m_RR_init 7 1297 _ (P ++ [.inl (6, [(3, 0), (3, 0), (0, 0), (0, 0), (0, 0), (0, 0), (3, 0)])]) σ 0 0 0 [(0, .ref (gB g + L))] []
  refine a_aload_n (pc := 0) 0 rfl rfl d_RR_init_0 ?_
  refine a_objI (pc := 1) tw157 tw28 tw29 (by decide) (Nat.le_of_ble_eq_true rfl) d_RR_init_1 ?_
  refine a_aload_n (pc := 4) 0 rfl rfl d_RR_init_4 ?_
  refine a_sipush (pc := 5) (401 : Int32) (by decide) d_RR_init_5 ?_
  refine a_newi (pc := 8) (atype := .int) (kd := 0) (N := 401) rfl (Or.inl ⟨rfl, rfl⟩) tw54 (by rw [ap_n hL]; show zro _ (L + 1); exact (hz _ (by omega))) (by decide) (by decide) (by decide) (Nat.le_of_ble_eq_true rfl) (Nat.le_of_ble_eq_true rfl) d_RR_init_8 ?_
  rw [ap_n hL, List.append_assoc]
  show Ax g m_RR_init 7 1297 _ (P ++ [.inl (6, [(3, 0), (3, 0), (0, 0), (0, 0), (0, 0), (0, 0), (3, 0)]), .inr (0, 401, [])]) (σ) 1 401 10 [(0, .ref (gB g + L))] [.ref (gB g + (L + 1)), .ref (gB g + L)]
  refine a_putF (pc := 10) (i := L + 0) (r := (L + 1)) fp_RR_11 (Or.inr ⟨_, rfl⟩) rfl rfl (ap_g hL rfl) rfl d_RR_init_10 ?_
  rw [ap_s hL]
  show Ax g m_RR_init 7 1297 _ (P ++ [.inl (6, [(2, (L + 1)), (3, 0), (0, 0), (0, 0), (0, 0), (0, 0), (3, 0)]), .inr (0, 401, [])]) (σ) 1 401 13 [(0, .ref (gB g + L))] []
  refine a_aload_n (pc := 13) 0 rfl rfl d_RR_init_13 ?_
  refine a_sipush (pc := 14) (401 : Int32) (by decide) d_RR_init_14 ?_
  refine a_newi (pc := 17) (atype := .int) (kd := 0) (N := 401) rfl (Or.inl ⟨rfl, rfl⟩) tw54 (by rw [ap_n hL]; show zro _ (L + 2); exact (hz _ (by omega))) (by decide) (by decide) (by decide) (Nat.le_of_ble_eq_true rfl) (Nat.le_of_ble_eq_true rfl) d_RR_init_17 ?_
  rw [ap_n hL, List.append_assoc]
  show Ax g m_RR_init 7 1297 _ (P ++ [.inl (6, [(2, (L + 1)), (3, 0), (0, 0), (0, 0), (0, 0), (0, 0), (3, 0)]), .inr (0, 401, []), .inr (0, 401, [])]) (σ) 2 802 19 [(0, .ref (gB g + L))] [.ref (gB g + (L + 2)), .ref (gB g + L)]
  refine a_putF (pc := 19) (i := L + 0) (r := (L + 2)) fp_RR_15 (Or.inr ⟨_, rfl⟩) rfl rfl (ap_g hL rfl) rfl d_RR_init_19 ?_
  rw [ap_s hL]
  show Ax g m_RR_init 7 1297 _ (P ++ [.inl (6, [(2, (L + 1)), (2, (L + 2)), (0, 0), (0, 0), (0, 0), (0, 0), (3, 0)]), .inr (0, 401, []), .inr (0, 401, [])]) (σ) 2 802 22 [(0, .ref (gB g + L))] []
  refine a_aload_n (pc := 22) 0 rfl rfl d_RR_init_22 ?_
  refine a_newo (pc := 23) (ci := 5) (N := 7) tyX5 rfl uw5 tyX5_ok (by decide) tw158 tw159 tw7 (by rw [ap_n hL]; show zro _ (L + 3); exact (hz _ (by omega))) (Nat.le_of_ble_eq_true rfl) (Nat.le_of_ble_eq_true rfl) d_RR_init_23 ?_
  rw [ap_n hL, List.append_assoc]
  show Ax g m_RR_init 7 1297 _ (P ++ [.inl (6, [(2, (L + 1)), (2, (L + 2)), (0, 0), (0, 0), (0, 0), (0, 0), (3, 0)]), .inr (0, 401, []), .inr (0, 401, []), .inl (5, [(3, 0), (3, 0), (3, 0), (3, 0), (0, 0), (0, 0), (0, 0)])]) (σ) 3 809 26 [(0, .ref (gB g + L))] [.ref (gB g + (L + 3)), .ref (gB g + L)]
  refine a_dup (pc := 26) rfl d_RR_init_26 ?_
  refine a_callIN (a := 0) (pc := 27) (M' := m_RU_init) (i := gB g + (L + 3)) (As := []) (st := [.ref (gB g + (L + 3)), .ref (gB g + L)]) (mc' := 4) (ms' := 488) (host := "BallBox") (by simp [nests]) tw161 tw7 tw162 rfl rfl (by decide +kernel) rfl (by decide) (by decide) rfl (Nat.le_of_ble_eq_true rfl) (Nat.le_of_ble_eq_true rfl) (Nat.le_of_ble_eq_true rfl) d_RR_init_27 (by have q := cc_RU_init (g := g) (P := P ++ [.inl (6, [(2, (L + 1)), (2, (L + 2)), (0, 0), (0, 0), (0, 0), (0, 0), (3, 0)]), .inr (0, 401, []), .inr (0, 401, [])]) (L := L + 3) (σ := σ) (ap_n hL) (fun i hi => (hz _ (by omega))); rw [List.append_assoc] at q; exact q) ?_
  rintro _ _ s' ⟨rfl, rfl, hs⟩ -
  rw [hs]
  rw [List.append_assoc]
  show Ax g m_RR_init 7 1297 _ (P ++ [.inl (6, [(2, (L + 1)), (2, (L + 2)), (0, 0), (0, 0), (0, 0), (0, 0), (3, 0)]), .inr (0, 401, []), .inr (0, 401, []), .inl (5, [(2, (L + 4)), (2, (L + 5)), (2, (L + 6)), (2, (L + 7)), (0, 0), (0, 0), (0, 0)]), .inr (0, 400, []), .inr (0, 12, []), .inr (0, 12, []), .inr (1, 64, [])]) (F_RU_init (σ) (L + 3)) 7 1297 30 [(0, .ref (gB g + L))] [.ref (gB g + (L + 3)), .ref (gB g + L)]
  refine a_putF (pc := 30) (i := L + 0) (r := (L + 3)) fp_RR_21 (Or.inl ⟨_, rfl⟩) rfl rfl (ap_g hL rfl) rfl d_RR_init_30 ?_
  rw [ap_s hL]
  show Ax g m_RR_init 7 1297 _ (P ++ [.inl (6, [(2, (L + 1)), (2, (L + 2)), (0, 0), (0, 0), (0, 0), (0, 0), (2, (L + 3))]), .inr (0, 401, []), .inr (0, 401, []), .inl (5, [(2, (L + 4)), (2, (L + 5)), (2, (L + 6)), (2, (L + 7)), (0, 0), (0, 0), (0, 0)]), .inr (0, 400, []), .inr (0, 12, []), .inr (0, 12, []), .inr (1, 64, [])]) (F_RU_init (σ) (L + 3)) 7 1297 33 [(0, .ref (gB g + L))] []
  exact a_vret (pc := 33) rfl (by simp [List.length_append] <;> omega) rfl (Nat.le_refl _) d_RR_init_33 ⟨rfl, rfl, rfl⟩
theorem d_RO_init_0 : decode c_RO_init 0 = .ok (.aload_n 0, 1) := by decide +kernel
theorem d_RO_init_1 : decode c_RO_init 1 = .ok (.invokespecial 1, 3) := by decide +kernel
theorem d_RO_init_4 : decode c_RO_init 4 = .ok (.aload_n 0, 1) := by decide +kernel
theorem d_RO_init_5 : decode c_RO_init 5 = .ok (.bipush 6, 2) := by decide +kernel
theorem d_RO_init_7 : decode c_RO_init 7 = .ok (.anewarray 9, 3) := by decide +kernel
theorem d_RO_init_10 : decode c_RO_init 10 = .ok (.putfield 11, 3) := by decide +kernel
theorem d_RO_init_13 : decode c_RO_init 13 = .ok (.aload_n 0, 1) := by decide +kernel
theorem d_RO_init_14 : decode c_RO_init 14 = .ok (.bipush 8, 2) := by decide +kernel
theorem d_RO_init_16 : decode c_RO_init 16 = .ok (.newarray .long, 2) := by decide +kernel
theorem d_RO_init_18 : decode c_RO_init 18 = .ok (.putfield 15, 3) := by decide +kernel
theorem d_RO_init_21 : decode c_RO_init 21 = .ok (.aload_n 0, 1) := by decide +kernel
theorem d_RO_init_22 : decode c_RO_init 22 = .ok (.iconst 3, 1) := by decide +kernel
theorem d_RO_init_23 : decode c_RO_init 23 = .ok (.newarray .long, 2) := by decide +kernel
theorem d_RO_init_25 : decode c_RO_init 25 = .ok (.putfield 19, 3) := by decide +kernel
theorem d_RO_init_28 : decode c_RO_init 28 = .ok (.aload_n 0, 1) := by decide +kernel
theorem d_RO_init_29 : decode c_RO_init 29 = .ok (.iconst 3, 1) := by decide +kernel
theorem d_RO_init_30 : decode c_RO_init 30 = .ok (.newarray .int, 2) := by decide +kernel
theorem d_RO_init_32 : decode c_RO_init 32 = .ok (.putfield 22, 3) := by decide +kernel
theorem d_RO_init_35 : decode c_RO_init 35 = .ok (.iconst 0, 1) := by decide +kernel
theorem d_RO_init_36 : decode c_RO_init 36 = .ok (.istore_n 1, 1) := by decide +kernel
theorem d_RO_init_37 : decode c_RO_init 37 = .ok (.iload_n 1, 1) := by decide +kernel
theorem d_RO_init_38 : decode c_RO_init 38 = .ok (.bipush 6, 2) := by decide +kernel
theorem d_RO_init_40 : decode c_RO_init 40 = .ok (.if_icmp .ge 22, 3) := by decide +kernel
theorem d_RO_init_43 : decode c_RO_init 43 = .ok (.aload_n 0, 1) := by decide +kernel
theorem d_RO_init_44 : decode c_RO_init 44 = .ok (.getfield 11, 3) := by decide +kernel
theorem d_RO_init_47 : decode c_RO_init 47 = .ok (.iload_n 1, 1) := by decide +kernel
theorem d_RO_init_48 : decode c_RO_init 48 = .ok (.new 9, 3) := by decide +kernel
theorem d_RO_init_51 : decode c_RO_init 51 = .ok (.dup, 1) := by decide +kernel
theorem d_RO_init_52 : decode c_RO_init 52 = .ok (.invokespecial 26, 3) := by decide +kernel
theorem d_RO_init_55 : decode c_RO_init 55 = .ok (.aastore, 1) := by decide +kernel
theorem d_RO_init_56 : decode c_RO_init 56 = .ok (.iinc 1 1, 3) := by decide +kernel
theorem d_RO_init_59 : decode c_RO_init 59 = .ok (.goto (-22), 3) := by decide +kernel
theorem d_RO_init_62 : decode c_RO_init 62 = .ok (.return_, 1) := by decide +kernel
def F_RO_init (σ : St) (L : Nat) : St := F_RU_init (F_RU_init (F_RU_init (F_RU_init (F_RU_init (F_RU_init (σ) (L + 5)) (L + 10)) (L + 15)) (L + 20)) (L + 25)) (L + 30)
theorem zf_RO_init {σ : St} {L j : Nat} (hj : L + 35 ≤ j) (h : zro σ j) : zro (F_RO_init σ L) j := (zf_RU_init (by omega) (zf_RU_init (by omega) (zf_RU_init (by omega) (zf_RU_init (by omega) (zf_RU_init (by omega) (zf_RU_init (by omega) h))))))
set_option maxRecDepth 20000 in
set_option maxHeartbeats 2000000 in
theorem cc_RO_init {g : Gx} {P : List Sh} {L : Nat} {σ : St} (hL : P.length = L) (hz : ∀ i, L < i → zro σ i) : Cx g m_RO_init [.ref (gB g + L)] (P ++ [.inl (4, [(3, 0), (3, 0), (3, 0), (3, 0), (0, 0), (0, 0), (0, 0), (0, 0)])]) σ 34 2990 (fun r sh σ' => r = none ∧ sh = P ++ [.inl (4, [(2, (L + 1)), (2, (L + 2)), (2, (L + 3)), (2, (L + 4)), (0, 0), (0, 0), (0, 0), (0, 0)]), .inr (4, 6, [(L + 5) + 1, (L + 10) + 1, (L + 15) + 1, (L + 20) + 1, (L + 25) + 1, (L + 30) + 1]), .inr (1, 8, []), .inr (1, 3, []), .inr (0, 3, []), .inl (5, [(2, (L + 6)), (2, (L + 7)), (2, (L + 8)), (2, (L + 9)), (0, 0), (0, 0), (0, 0)]), .inr (0, 400, []), .inr (0, 12, []), .inr (0, 12, []), .inr (1, 64, []), .inl (5, [(2, (L + 11)), (2, (L + 12)), (2, (L + 13)), (2, (L + 14)), (0, 0), (0, 0), (0, 0)]), .inr (0, 400, []), .inr (0, 12, []), .inr (0, 12, []), .inr (1, 64, []), .inl (5, [(2, (L + 16)), (2, (L + 17)), (2, (L + 18)), (2, (L + 19)), (0, 0), (0, 0), (0, 0)]), .inr (0, 400, []), .inr (0, 12, []), .inr (0, 12, []), .inr (1, 64, []), .inl (5, [(2, (L + 21)), (2, (L + 22)), (2, (L + 23)), (2, (L + 24)), (0, 0), (0, 0), (0, 0)]), .inr (0, 400, []), .inr (0, 12, []), .inr (0, 12, []), .inr (1, 64, []), .inl (5, [(2, (L + 26)), (2, (L + 27)), (2, (L + 28)), (2, (L + 29)), (0, 0), (0, 0), (0, 0)]), .inr (0, 400, []), .inr (0, 12, []), .inr (0, 12, []), .inr (1, 64, []), .inl (5, [(2, (L + 31)), (2, (L + 32)), (2, (L + 33)), (2, (L + 34)), (0, 0), (0, 0), (0, 0)]), .inr (0, 400, []), .inr (0, 12, []), .inr (0, 12, []), .inr (1, 64, [])] ∧ σ' = F_RO_init σ L) := by
  refine Cx.of (show plainName "BallBox$Roller" = true by decide) (Nat.le_of_ble_eq_true rfl) ?_
  show Ax g m_RO_init 34 2990 _ (P ++ [.inl (4, [(3, 0), (3, 0), (3, 0), (3, 0), (0, 0), (0, 0), (0, 0), (0, 0)])]) σ 0 0 0 [(0, .ref (gB g + L))] []
  refine a_aload_n (pc := 0) 0 rfl rfl d_RO_init_0 ?_
  refine a_objI (pc := 1) tw215 tw28 tw29 (by decide) (Nat.le_of_ble_eq_true rfl) d_RO_init_1 ?_
  refine a_aload_n (pc := 4) 0 rfl rfl d_RO_init_4 ?_
  refine a_bipush (pc := 5) (6 : Int32) (by decide) d_RO_init_5 ?_
  refine a_newq (pc := 7) (kd := 4) (N := 6) (Or.inl ⟨rfl, rfl⟩) tw216 (by decide) (by decide) (by decide) (Nat.le_of_ble_eq_true rfl) (Nat.le_of_ble_eq_true rfl) d_RO_init_7 ?_
  rw [ap_n hL, List.append_assoc]
  show Ax g m_RO_init 34 2990 _ (P ++ [.inl (4, [(3, 0), (3, 0), (3, 0), (3, 0), (0, 0), (0, 0), (0, 0), (0, 0)]), .inr (4, 6, [0, 0, 0, 0, 0, 0])]) (σ) 1 6 10 [(0, .ref (gB g + L))] [.ref (gB g + (L + 1)), .ref (gB g + L)]
  refine a_putF (pc := 10) (i := L + 0) (r := (L + 1)) fp_RO_11 (Or.inr ⟨_, rfl⟩) rfl rfl (ap_g hL rfl) rfl d_RO_init_10 ?_
  rw [ap_s hL]
  show Ax g m_RO_init 34 2990 _ (P ++ [.inl (4, [(2, (L + 1)), (3, 0), (3, 0), (3, 0), (0, 0), (0, 0), (0, 0), (0, 0)]), .inr (4, 6, [0, 0, 0, 0, 0, 0])]) (σ) 1 6 13 [(0, .ref (gB g + L))] []
  refine a_aload_n (pc := 13) 0 rfl rfl d_RO_init_13 ?_
  refine a_bipush (pc := 14) (8 : Int32) (by decide) d_RO_init_14 ?_
  refine a_newi (pc := 16) (atype := .long) (kd := 1) (N := 8) rfl (Or.inr (Or.inl ⟨rfl, rfl⟩)) tw186 (by rw [ap_n hL]; show zro _ (L + 2); exact (hz _ (by omega))) (by decide) (by decide) (by decide) (Nat.le_of_ble_eq_true rfl) (Nat.le_of_ble_eq_true rfl) d_RO_init_16 ?_
  rw [ap_n hL, List.append_assoc]
  show Ax g m_RO_init 34 2990 _ (P ++ [.inl (4, [(2, (L + 1)), (3, 0), (3, 0), (3, 0), (0, 0), (0, 0), (0, 0), (0, 0)]), .inr (4, 6, [0, 0, 0, 0, 0, 0]), .inr (1, 8, [])]) (σ) 2 14 18 [(0, .ref (gB g + L))] [.ref (gB g + (L + 2)), .ref (gB g + L)]
  refine a_putF (pc := 18) (i := L + 0) (r := (L + 2)) fp_RO_15 (Or.inr ⟨_, rfl⟩) rfl rfl (ap_g hL rfl) rfl d_RO_init_18 ?_
  rw [ap_s hL]
  show Ax g m_RO_init 34 2990 _ (P ++ [.inl (4, [(2, (L + 1)), (2, (L + 2)), (3, 0), (3, 0), (0, 0), (0, 0), (0, 0), (0, 0)]), .inr (4, 6, [0, 0, 0, 0, 0, 0]), .inr (1, 8, [])]) (σ) 2 14 21 [(0, .ref (gB g + L))] []
  refine a_aload_n (pc := 21) 0 rfl rfl d_RO_init_21 ?_
  refine a_iconst (pc := 22) (3 : Int32) (by decide) d_RO_init_22 ?_
  refine a_newi (pc := 23) (atype := .long) (kd := 1) (N := 3) rfl (Or.inr (Or.inl ⟨rfl, rfl⟩)) tw186 (by rw [ap_n hL]; show zro _ (L + 3); exact (hz _ (by omega))) (by decide) (by decide) (by decide) (Nat.le_of_ble_eq_true rfl) (Nat.le_of_ble_eq_true rfl) d_RO_init_23 ?_
  rw [ap_n hL, List.append_assoc]
  show Ax g m_RO_init 34 2990 _ (P ++ [.inl (4, [(2, (L + 1)), (2, (L + 2)), (3, 0), (3, 0), (0, 0), (0, 0), (0, 0), (0, 0)]), .inr (4, 6, [0, 0, 0, 0, 0, 0]), .inr (1, 8, []), .inr (1, 3, [])]) (σ) 3 17 25 [(0, .ref (gB g + L))] [.ref (gB g + (L + 3)), .ref (gB g + L)]
  refine a_putF (pc := 25) (i := L + 0) (r := (L + 3)) fp_RO_19 (Or.inr ⟨_, rfl⟩) rfl rfl (ap_g hL rfl) rfl d_RO_init_25 ?_
  rw [ap_s hL]
  show Ax g m_RO_init 34 2990 _ (P ++ [.inl (4, [(2, (L + 1)), (2, (L + 2)), (2, (L + 3)), (3, 0), (0, 0), (0, 0), (0, 0), (0, 0)]), .inr (4, 6, [0, 0, 0, 0, 0, 0]), .inr (1, 8, []), .inr (1, 3, [])]) (σ) 3 17 28 [(0, .ref (gB g + L))] []
  refine a_aload_n (pc := 28) 0 rfl rfl d_RO_init_28 ?_
  refine a_iconst (pc := 29) (3 : Int32) (by decide) d_RO_init_29 ?_
  refine a_newi (pc := 30) (atype := .int) (kd := 0) (N := 3) rfl (Or.inl ⟨rfl, rfl⟩) tw54 (by rw [ap_n hL]; show zro _ (L + 4); exact (hz _ (by omega))) (by decide) (by decide) (by decide) (Nat.le_of_ble_eq_true rfl) (Nat.le_of_ble_eq_true rfl) d_RO_init_30 ?_
  rw [ap_n hL, List.append_assoc]
  show Ax g m_RO_init 34 2990 _ (P ++ [.inl (4, [(2, (L + 1)), (2, (L + 2)), (2, (L + 3)), (3, 0), (0, 0), (0, 0), (0, 0), (0, 0)]), .inr (4, 6, [0, 0, 0, 0, 0, 0]), .inr (1, 8, []), .inr (1, 3, []), .inr (0, 3, [])]) (σ) 4 20 32 [(0, .ref (gB g + L))] [.ref (gB g + (L + 4)), .ref (gB g + L)]
  refine a_putF (pc := 32) (i := L + 0) (r := (L + 4)) fp_RO_22 (Or.inr ⟨_, rfl⟩) rfl rfl (ap_g hL rfl) rfl d_RO_init_32 ?_
  rw [ap_s hL]
  show Ax g m_RO_init 34 2990 _ (P ++ [.inl (4, [(2, (L + 1)), (2, (L + 2)), (2, (L + 3)), (2, (L + 4)), (0, 0), (0, 0), (0, 0), (0, 0)]), .inr (4, 6, [0, 0, 0, 0, 0, 0]), .inr (1, 8, []), .inr (1, 3, []), .inr (0, 3, [])]) (σ) 4 20 35 [(0, .ref (gB g + L))] []
  refine a_iconst (pc := 35) (0 : Int32) (by decide) d_RO_init_35 ?_
  refine a_istore_n (pc := 36) (lv' := [(1, .int (0 : Int32)), (0, .ref (gB g + L))]) rfl (Nat.le_of_ble_eq_true rfl) rfl d_RO_init_36 ?_
  refine a_iload_n (pc := 37) 0 rfl rfl d_RO_init_37 ?_
  refine a_bipush (pc := 38) (6 : Int32) (by decide) d_RO_init_38 ?_
  refine a_icmp_ge (pc := 40) 62 (by decide) d_RO_init_40 ⟨fun c0 => absurd c0 (by decide), fun _ => ?_⟩
  refine a_aload_n (pc := 43) 1 rfl rfl d_RO_init_43 ?_
  refine a_getR (pc := 44) (i := L + 0) (r := (L + 1)) fg_RO_11 (ap_g hL rfl) rfl d_RO_init_44 ?_
  refine a_iload_n (pc := 47) 0 rfl rfl d_RO_init_47 ?_
  refine a_newo (pc := 48) (ci := 5) (N := 7) tyX5 rfl uw5 tyX5_ok (by decide) tw216 tw159 tw7 (by rw [ap_n hL]; show zro _ (L + 5); exact (hz _ (by omega))) (Nat.le_of_ble_eq_true rfl) (Nat.le_of_ble_eq_true rfl) d_RO_init_48 ?_
  rw [ap_n hL, List.append_assoc]
  show Ax g m_RO_init 34 2990 _ (P ++ [.inl (4, [(2, (L + 1)), (2, (L + 2)), (2, (L + 3)), (2, (L + 4)), (0, 0), (0, 0), (0, 0), (0, 0)]), .inr (4, 6, [0, 0, 0, 0, 0, 0]), .inr (1, 8, []), .inr (1, 3, []), .inr (0, 3, []), .inl (5, [(3, 0), (3, 0), (3, 0), (3, 0), (0, 0), (0, 0), (0, 0)])]) (σ) 5 27 51 [(1, .int (0 : Int32)), (0, .ref (gB g + L))] [.ref (gB g + (L + 5)), .int (0 : Int32), .ref (gB g + (L + 1))]
  refine a_dup (pc := 51) rfl d_RO_init_51 ?_
  refine a_callIN (a := 0) (pc := 52) (M' := m_RU_init) (i := gB g + (L + 5)) (As := []) (st := [.ref (gB g + (L + 5)), .int (0 : Int32), .ref (gB g + (L + 1))]) (mc' := 4) (ms' := 488) (host := "BallBox") (by simp [nests]) tw161 tw7 tw162 rfl rfl (by decide +kernel) rfl (by decide) (by decide) rfl (Nat.le_of_ble_eq_true rfl) (Nat.le_of_ble_eq_true rfl) (Nat.le_of_ble_eq_true rfl) d_RO_init_52 (by have q := cc_RU_init (g := g) (P := P ++ [.inl (4, [(2, (L + 1)), (2, (L + 2)), (2, (L + 3)), (2, (L + 4)), (0, 0), (0, 0), (0, 0), (0, 0)]), .inr (4, 6, [0, 0, 0, 0, 0, 0]), .inr (1, 8, []), .inr (1, 3, []), .inr (0, 3, [])]) (L := L + 5) (σ := σ) (ap_n hL) (fun i hi => (hz _ (by omega))); rw [List.append_assoc] at q; exact q) ?_
  rintro _ _ s' ⟨rfl, rfl, hs⟩ -
  rw [hs]
  rw [List.append_assoc]
  show Ax g m_RO_init 34 2990 _ (P ++ [.inl (4, [(2, (L + 1)), (2, (L + 2)), (2, (L + 3)), (2, (L + 4)), (0, 0), (0, 0), (0, 0), (0, 0)]), .inr (4, 6, [0, 0, 0, 0, 0, 0]), .inr (1, 8, []), .inr (1, 3, []), .inr (0, 3, []), .inl (5, [(2, (L + 6)), (2, (L + 7)), (2, (L + 8)), (2, (L + 9)), (0, 0), (0, 0), (0, 0)]), .inr (0, 400, []), .inr (0, 12, []), .inr (0, 12, []), .inr (1, 64, [])]) (F_RU_init (σ) (L + 5)) 9 515 55 [(1, .int (0 : Int32)), (0, .ref (gB g + L))] [.ref (gB g + (L + 5)), .int (0 : Int32), .ref (gB g + (L + 1))]
  refine a_astq (pc := 55) (i := L + 1) (r := L + 5) (q := vwCl[5]) (ap_g hL rfl) (ap_g hL rfl) rfl (Or.inl ⟨rfl, rfl⟩) (vp_in_nI (n := 0) (N := 6) (by decide) (by decide)) (Nat.le_of_ble_eq_true rfl) d_RO_init_55 ?_
  rw [ap_s hL]
  show Ax g m_RO_init 34 2990 _ (P ++ [.inl (4, [(2, (L + 1)), (2, (L + 2)), (2, (L + 3)), (2, (L + 4)), (0, 0), (0, 0), (0, 0), (0, 0)]), .inr (4, 6, [(L + 5) + 1, 0, 0, 0, 0, 0]), .inr (1, 8, []), .inr (1, 3, []), .inr (0, 3, []), .inl (5, [(2, (L + 6)), (2, (L + 7)), (2, (L + 8)), (2, (L + 9)), (0, 0), (0, 0), (0, 0)]), .inr (0, 400, []), .inr (0, 12, []), .inr (0, 12, []), .inr (1, 64, [])]) (F_RU_init (σ) (L + 5)) 9 515 56 [(1, .int (0 : Int32)), (0, .ref (gB g + L))] []
  refine a_iinc (pc := 56) (v := (1 : Int32)) (lv' := [(1, .int (1 : Int32)), (0, .ref (gB g + L))]) 0 rfl (by decide) (Nat.le_of_ble_eq_true rfl) rfl d_RO_init_56 ?_
  refine a_goto (pc := 59) 37 (by decide) d_RO_init_59 ?_
  refine a_iload_n (pc := 37) 0 rfl rfl d_RO_init_37 ?_
  refine a_bipush (pc := 38) (6 : Int32) (by decide) d_RO_init_38 ?_
  refine a_icmp_ge (pc := 40) 62 (by decide) d_RO_init_40 ⟨fun c0 => absurd c0 (by decide), fun _ => ?_⟩
  refine a_aload_n (pc := 43) 1 rfl rfl d_RO_init_43 ?_
  refine a_getR (pc := 44) (i := L + 0) (r := (L + 1)) fg_RO_11 (ap_g hL rfl) rfl d_RO_init_44 ?_
  refine a_iload_n (pc := 47) 0 rfl rfl d_RO_init_47 ?_
  refine a_newo (pc := 48) (ci := 5) (N := 7) tyX5 rfl uw5 tyX5_ok (by decide) tw216 tw159 tw7 (by rw [ap_n hL]; show zro _ (L + 10); exact (zf_RU_init (by omega) (hz _ (by omega)))) (Nat.le_of_ble_eq_true rfl) (Nat.le_of_ble_eq_true rfl) d_RO_init_48 ?_
  rw [ap_n hL, List.append_assoc]
  show Ax g m_RO_init 34 2990 _ (P ++ [.inl (4, [(2, (L + 1)), (2, (L + 2)), (2, (L + 3)), (2, (L + 4)), (0, 0), (0, 0), (0, 0), (0, 0)]), .inr (4, 6, [(L + 5) + 1, 0, 0, 0, 0, 0]), .inr (1, 8, []), .inr (1, 3, []), .inr (0, 3, []), .inl (5, [(2, (L + 6)), (2, (L + 7)), (2, (L + 8)), (2, (L + 9)), (0, 0), (0, 0), (0, 0)]), .inr (0, 400, []), .inr (0, 12, []), .inr (0, 12, []), .inr (1, 64, []), .inl (5, [(3, 0), (3, 0), (3, 0), (3, 0), (0, 0), (0, 0), (0, 0)])]) (F_RU_init (σ) (L + 5)) 10 522 51 [(1, .int (1 : Int32)), (0, .ref (gB g + L))] [.ref (gB g + (L + 10)), .int (1 : Int32), .ref (gB g + (L + 1))]
  refine a_dup (pc := 51) rfl d_RO_init_51 ?_
  refine a_callIN (a := 0) (pc := 52) (M' := m_RU_init) (i := gB g + (L + 10)) (As := []) (st := [.ref (gB g + (L + 10)), .int (1 : Int32), .ref (gB g + (L + 1))]) (mc' := 4) (ms' := 488) (host := "BallBox") (by simp [nests]) tw161 tw7 tw162 rfl rfl (by decide +kernel) rfl (by decide) (by decide) rfl (Nat.le_of_ble_eq_true rfl) (Nat.le_of_ble_eq_true rfl) (Nat.le_of_ble_eq_true rfl) d_RO_init_52 (by have q := cc_RU_init (g := g) (P := P ++ [.inl (4, [(2, (L + 1)), (2, (L + 2)), (2, (L + 3)), (2, (L + 4)), (0, 0), (0, 0), (0, 0), (0, 0)]), .inr (4, 6, [(L + 5) + 1, 0, 0, 0, 0, 0]), .inr (1, 8, []), .inr (1, 3, []), .inr (0, 3, []), .inl (5, [(2, (L + 6)), (2, (L + 7)), (2, (L + 8)), (2, (L + 9)), (0, 0), (0, 0), (0, 0)]), .inr (0, 400, []), .inr (0, 12, []), .inr (0, 12, []), .inr (1, 64, [])]) (L := L + 10) (σ := F_RU_init (σ) (L + 5)) (ap_n hL) (fun i hi => (zf_RU_init (by omega) (hz _ (by omega)))); rw [List.append_assoc] at q; exact q) ?_
  rintro _ _ s' ⟨rfl, rfl, hs⟩ -
  rw [hs]
  rw [List.append_assoc]
  show Ax g m_RO_init 34 2990 _ (P ++ [.inl (4, [(2, (L + 1)), (2, (L + 2)), (2, (L + 3)), (2, (L + 4)), (0, 0), (0, 0), (0, 0), (0, 0)]), .inr (4, 6, [(L + 5) + 1, 0, 0, 0, 0, 0]), .inr (1, 8, []), .inr (1, 3, []), .inr (0, 3, []), .inl (5, [(2, (L + 6)), (2, (L + 7)), (2, (L + 8)), (2, (L + 9)), (0, 0), (0, 0), (0, 0)]), .inr (0, 400, []), .inr (0, 12, []), .inr (0, 12, []), .inr (1, 64, []), .inl (5, [(2, (L + 11)), (2, (L + 12)), (2, (L + 13)), (2, (L + 14)), (0, 0), (0, 0), (0, 0)]), .inr (0, 400, []), .inr (0, 12, []), .inr (0, 12, []), .inr (1, 64, [])]) (F_RU_init (F_RU_init (σ) (L + 5)) (L + 10)) 14 1010 55 [(1, .int (1 : Int32)), (0, .ref (gB g + L))] [.ref (gB g + (L + 10)), .int (1 : Int32), .ref (gB g + (L + 1))]
  refine a_astq (pc := 55) (i := L + 1) (r := L + 10) (q := vwCl[5]) (ap_g hL rfl) (ap_g hL rfl) rfl (Or.inl ⟨rfl, rfl⟩) (vp_in_nI (n := 1) (N := 6) (by decide) (by decide)) (Nat.le_of_ble_eq_true rfl) d_RO_init_55 ?_
  rw [ap_s hL]
  show Ax g m_RO_init 34 2990 _ (P ++ [.inl (4, [(2, (L + 1)), (2, (L + 2)), (2, (L + 3)), (2, (L + 4)), (0, 0), (0, 0), (0, 0), (0, 0)]), .inr (4, 6, [(L + 5) + 1, (L + 10) + 1, 0, 0, 0, 0]), .inr (1, 8, []), .inr (1, 3, []), .inr (0, 3, []), .inl (5, [(2, (L + 6)), (2, (L + 7)), (2, (L + 8)), (2, (L + 9)), (0, 0), (0, 0), (0, 0)]), .inr (0, 400, []), .inr (0, 12, []), .inr (0, 12, []), .inr (1, 64, []), .inl (5, [(2, (L + 11)), (2, (L + 12)), (2, (L + 13)), (2, (L + 14)), (0, 0), (0, 0), (0, 0)]), .inr (0, 400, []), .inr (0, 12, []), .inr (0, 12, []), .inr (1, 64, [])]) (F_RU_init (F_RU_init (σ) (L + 5)) (L + 10)) 14 1010 56 [(1, .int (1 : Int32)), (0, .ref (gB g + L))] []
  refine a_iinc (pc := 56) (v := (2 : Int32)) (lv' := [(1, .int (2 : Int32)), (0, .ref (gB g + L))]) 0 rfl (by decide) (Nat.le_of_ble_eq_true rfl) rfl d_RO_init_56 ?_
  refine a_goto (pc := 59) 37 (by decide) d_RO_init_59 ?_
  refine a_iload_n (pc := 37) 0 rfl rfl d_RO_init_37 ?_
  refine a_bipush (pc := 38) (6 : Int32) (by decide) d_RO_init_38 ?_
  refine a_icmp_ge (pc := 40) 62 (by decide) d_RO_init_40 ⟨fun c0 => absurd c0 (by decide), fun _ => ?_⟩
  refine a_aload_n (pc := 43) 1 rfl rfl d_RO_init_43 ?_
  refine a_getR (pc := 44) (i := L + 0) (r := (L + 1)) fg_RO_11 (ap_g hL rfl) rfl d_RO_init_44 ?_
  refine a_iload_n (pc := 47) 0 rfl rfl d_RO_init_47 ?_
  refine a_newo (pc := 48) (ci := 5) (N := 7) tyX5 rfl uw5 tyX5_ok (by decide) tw216 tw159 tw7 (by rw [ap_n hL]; show zro _ (L + 15); exact (zf_RU_init (by omega) (zf_RU_init (by omega) (hz _ (by omega))))) (Nat.le_of_ble_eq_true rfl) (Nat.le_of_ble_eq_true rfl) d_RO_init_48 ?_
  rw [ap_n hL, List.append_assoc]
  show Ax g m_RO_init 34 2990 _ (P ++ [.inl (4, [(2, (L + 1)), (2, (L + 2)), (2, (L + 3)), (2, (L + 4)), (0, 0), (0, 0), (0, 0), (0, 0)]), .inr (4, 6, [(L + 5) + 1, (L + 10) + 1, 0, 0, 0, 0]), .inr (1, 8, []), .inr (1, 3, []), .inr (0, 3, []), .inl (5, [(2, (L + 6)), (2, (L + 7)), (2, (L + 8)), (2, (L + 9)), (0, 0), (0, 0), (0, 0)]), .inr (0, 400, []), .inr (0, 12, []), .inr (0, 12, []), .inr (1, 64, []), .inl (5, [(2, (L + 11)), (2, (L + 12)), (2, (L + 13)), (2, (L + 14)), (0, 0), (0, 0), (0, 0)]), .inr (0, 400, []), .inr (0, 12, []), .inr (0, 12, []), .inr (1, 64, []), .inl (5, [(3, 0), (3, 0), (3, 0), (3, 0), (0, 0), (0, 0), (0, 0)])]) (F_RU_init (F_RU_init (σ) (L + 5)) (L + 10)) 15 1017 51 [(1, .int (2 : Int32)), (0, .ref (gB g + L))] [.ref (gB g + (L + 15)), .int (2 : Int32), .ref (gB g + (L + 1))]
  refine a_dup (pc := 51) rfl d_RO_init_51 ?_
  refine a_callIN (a := 0) (pc := 52) (M' := m_RU_init) (i := gB g + (L + 15)) (As := []) (st := [.ref (gB g + (L + 15)), .int (2 : Int32), .ref (gB g + (L + 1))]) (mc' := 4) (ms' := 488) (host := "BallBox") (by simp [nests]) tw161 tw7 tw162 rfl rfl (by decide +kernel) rfl (by decide) (by decide) rfl (Nat.le_of_ble_eq_true rfl) (Nat.le_of_ble_eq_true rfl) (Nat.le_of_ble_eq_true rfl) d_RO_init_52 (by have q := cc_RU_init (g := g) (P := P ++ [.inl (4, [(2, (L + 1)), (2, (L + 2)), (2, (L + 3)), (2, (L + 4)), (0, 0), (0, 0), (0, 0), (0, 0)]), .inr (4, 6, [(L + 5) + 1, (L + 10) + 1, 0, 0, 0, 0]), .inr (1, 8, []), .inr (1, 3, []), .inr (0, 3, []), .inl (5, [(2, (L + 6)), (2, (L + 7)), (2, (L + 8)), (2, (L + 9)), (0, 0), (0, 0), (0, 0)]), .inr (0, 400, []), .inr (0, 12, []), .inr (0, 12, []), .inr (1, 64, []), .inl (5, [(2, (L + 11)), (2, (L + 12)), (2, (L + 13)), (2, (L + 14)), (0, 0), (0, 0), (0, 0)]), .inr (0, 400, []), .inr (0, 12, []), .inr (0, 12, []), .inr (1, 64, [])]) (L := L + 15) (σ := F_RU_init (F_RU_init (σ) (L + 5)) (L + 10)) (ap_n hL) (fun i hi => (zf_RU_init (by omega) (zf_RU_init (by omega) (hz _ (by omega))))); rw [List.append_assoc] at q; exact q) ?_
  rintro _ _ s' ⟨rfl, rfl, hs⟩ -
  rw [hs]
  rw [List.append_assoc]
  show Ax g m_RO_init 34 2990 _ (P ++ [.inl (4, [(2, (L + 1)), (2, (L + 2)), (2, (L + 3)), (2, (L + 4)), (0, 0), (0, 0), (0, 0), (0, 0)]), .inr (4, 6, [(L + 5) + 1, (L + 10) + 1, 0, 0, 0, 0]), .inr (1, 8, []), .inr (1, 3, []), .inr (0, 3, []), .inl (5, [(2, (L + 6)), (2, (L + 7)), (2, (L + 8)), (2, (L + 9)), (0, 0), (0, 0), (0, 0)]), .inr (0, 400, []), .inr (0, 12, []), .inr (0, 12, []), .inr (1, 64, []), .inl (5, [(2, (L + 11)), (2, (L + 12)), (2, (L + 13)), (2, (L + 14)), (0, 0), (0, 0), (0, 0)]), .inr (0, 400, []), .inr (0, 12, []), .inr (0, 12, []), .inr (1, 64, []), .inl (5, [(2, (L + 16)), (2, (L + 17)), (2, (L + 18)), (2, (L + 19)), (0, 0), (0, 0), (0, 0)]), .inr (0, 400, []), .inr (0, 12, []), .inr (0, 12, []), .inr (1, 64, [])]) (F_RU_init (F_RU_init (F_RU_init (σ) (L + 5)) (L + 10)) (L + 15)) 19 1505 55 [(1, .int (2 : Int32)), (0, .ref (gB g + L))] [.ref (gB g + (L + 15)), .int (2 : Int32), .ref (gB g + (L + 1))]
  refine a_astq (pc := 55) (i := L + 1) (r := L + 15) (q := vwCl[5]) (ap_g hL rfl) (ap_g hL rfl) rfl (Or.inl ⟨rfl, rfl⟩) (vp_in_nI (n := 2) (N := 6) (by decide) (by decide)) (Nat.le_of_ble_eq_true rfl) d_RO_init_55 ?_
  rw [ap_s hL]
  show Ax g m_RO_init 34 2990 _ (P ++ [.inl (4, [(2, (L + 1)), (2, (L + 2)), (2, (L + 3)), (2, (L + 4)), (0, 0), (0, 0), (0, 0), (0, 0)]), .inr (4, 6, [(L + 5) + 1, (L + 10) + 1, (L + 15) + 1, 0, 0, 0]), .inr (1, 8, []), .inr (1, 3, []), .inr (0, 3, []), .inl (5, [(2, (L + 6)), (2, (L + 7)), (2, (L + 8)), (2, (L + 9)), (0, 0), (0, 0), (0, 0)]), .inr (0, 400, []), .inr (0, 12, []), .inr (0, 12, []), .inr (1, 64, []), .inl (5, [(2, (L + 11)), (2, (L + 12)), (2, (L + 13)), (2, (L + 14)), (0, 0), (0, 0), (0, 0)]), .inr (0, 400, []), .inr (0, 12, []), .inr (0, 12, []), .inr (1, 64, []), .inl (5, [(2, (L + 16)), (2, (L + 17)), (2, (L + 18)), (2, (L + 19)), (0, 0), (0, 0), (0, 0)]), .inr (0, 400, []), .inr (0, 12, []), .inr (0, 12, []), .inr (1, 64, [])]) (F_RU_init (F_RU_init (F_RU_init (σ) (L + 5)) (L + 10)) (L + 15)) 19 1505 56 [(1, .int (2 : Int32)), (0, .ref (gB g + L))] []
  refine a_iinc (pc := 56) (v := (3 : Int32)) (lv' := [(1, .int (3 : Int32)), (0, .ref (gB g + L))]) 0 rfl (by decide) (Nat.le_of_ble_eq_true rfl) rfl d_RO_init_56 ?_
  refine a_goto (pc := 59) 37 (by decide) d_RO_init_59 ?_
  refine a_iload_n (pc := 37) 0 rfl rfl d_RO_init_37 ?_
  refine a_bipush (pc := 38) (6 : Int32) (by decide) d_RO_init_38 ?_
  refine a_icmp_ge (pc := 40) 62 (by decide) d_RO_init_40 ⟨fun c0 => absurd c0 (by decide), fun _ => ?_⟩
  refine a_aload_n (pc := 43) 1 rfl rfl d_RO_init_43 ?_
  refine a_getR (pc := 44) (i := L + 0) (r := (L + 1)) fg_RO_11 (ap_g hL rfl) rfl d_RO_init_44 ?_
  refine a_iload_n (pc := 47) 0 rfl rfl d_RO_init_47 ?_
  refine a_newo (pc := 48) (ci := 5) (N := 7) tyX5 rfl uw5 tyX5_ok (by decide) tw216 tw159 tw7 (by rw [ap_n hL]; show zro _ (L + 20); exact (zf_RU_init (by omega) (zf_RU_init (by omega) (zf_RU_init (by omega) (hz _ (by omega)))))) (Nat.le_of_ble_eq_true rfl) (Nat.le_of_ble_eq_true rfl) d_RO_init_48 ?_
  rw [ap_n hL, List.append_assoc]
  show Ax g m_RO_init 34 2990 _ (P ++ [.inl (4, [(2, (L + 1)), (2, (L + 2)), (2, (L + 3)), (2, (L + 4)), (0, 0), (0, 0), (0, 0), (0, 0)]), .inr (4, 6, [(L + 5) + 1, (L + 10) + 1, (L + 15) + 1, 0, 0, 0]), .inr (1, 8, []), .inr (1, 3, []), .inr (0, 3, []), .inl (5, [(2, (L + 6)), (2, (L + 7)), (2, (L + 8)), (2, (L + 9)), (0, 0), (0, 0), (0, 0)]), .inr (0, 400, []), .inr (0, 12, []), .inr (0, 12, []), .inr (1, 64, []), .inl (5, [(2, (L + 11)), (2, (L + 12)), (2, (L + 13)), (2, (L + 14)), (0, 0), (0, 0), (0, 0)]), .inr (0, 400, []), .inr (0, 12, []), .inr (0, 12, []), .inr (1, 64, []), .inl (5, [(2, (L + 16)), (2, (L + 17)), (2, (L + 18)), (2, (L + 19)), (0, 0), (0, 0), (0, 0)]), .inr (0, 400, []), .inr (0, 12, []), .inr (0, 12, []), .inr (1, 64, []), .inl (5, [(3, 0), (3, 0), (3, 0), (3, 0), (0, 0), (0, 0), (0, 0)])]) (F_RU_init (F_RU_init (F_RU_init (σ) (L + 5)) (L + 10)) (L + 15)) 20 1512 51 [(1, .int (3 : Int32)), (0, .ref (gB g + L))] [.ref (gB g + (L + 20)), .int (3 : Int32), .ref (gB g + (L + 1))]
  refine a_dup (pc := 51) rfl d_RO_init_51 ?_
  refine a_callIN (a := 0) (pc := 52) (M' := m_RU_init) (i := gB g + (L + 20)) (As := []) (st := [.ref (gB g + (L + 20)), .int (3 : Int32), .ref (gB g + (L + 1))]) (mc' := 4) (ms' := 488) (host := "BallBox") (by simp [nests]) tw161 tw7 tw162 rfl rfl (by decide +kernel) rfl (by decide) (by decide) rfl (Nat.le_of_ble_eq_true rfl) (Nat.le_of_ble_eq_true rfl) (Nat.le_of_ble_eq_true rfl) d_RO_init_52 (by have q := cc_RU_init (g := g) (P := P ++ [.inl (4, [(2, (L + 1)), (2, (L + 2)), (2, (L + 3)), (2, (L + 4)), (0, 0), (0, 0), (0, 0), (0, 0)]), .inr (4, 6, [(L + 5) + 1, (L + 10) + 1, (L + 15) + 1, 0, 0, 0]), .inr (1, 8, []), .inr (1, 3, []), .inr (0, 3, []), .inl (5, [(2, (L + 6)), (2, (L + 7)), (2, (L + 8)), (2, (L + 9)), (0, 0), (0, 0), (0, 0)]), .inr (0, 400, []), .inr (0, 12, []), .inr (0, 12, []), .inr (1, 64, []), .inl (5, [(2, (L + 11)), (2, (L + 12)), (2, (L + 13)), (2, (L + 14)), (0, 0), (0, 0), (0, 0)]), .inr (0, 400, []), .inr (0, 12, []), .inr (0, 12, []), .inr (1, 64, []), .inl (5, [(2, (L + 16)), (2, (L + 17)), (2, (L + 18)), (2, (L + 19)), (0, 0), (0, 0), (0, 0)]), .inr (0, 400, []), .inr (0, 12, []), .inr (0, 12, []), .inr (1, 64, [])]) (L := L + 20) (σ := F_RU_init (F_RU_init (F_RU_init (σ) (L + 5)) (L + 10)) (L + 15)) (ap_n hL) (fun i hi => (zf_RU_init (by omega) (zf_RU_init (by omega) (zf_RU_init (by omega) (hz _ (by omega)))))); rw [List.append_assoc] at q; exact q) ?_
  rintro _ _ s' ⟨rfl, rfl, hs⟩ -
  rw [hs]
  rw [List.append_assoc]
  show Ax g m_RO_init 34 2990 _ (P ++ [.inl (4, [(2, (L + 1)), (2, (L + 2)), (2, (L + 3)), (2, (L + 4)), (0, 0), (0, 0), (0, 0), (0, 0)]), .inr (4, 6, [(L + 5) + 1, (L + 10) + 1, (L + 15) + 1, 0, 0, 0]), .inr (1, 8, []), .inr (1, 3, []), .inr (0, 3, []), .inl (5, [(2, (L + 6)), (2, (L + 7)), (2, (L + 8)), (2, (L + 9)), (0, 0), (0, 0), (0, 0)]), .inr (0, 400, []), .inr (0, 12, []), .inr (0, 12, []), .inr (1, 64, []), .inl (5, [(2, (L + 11)), (2, (L + 12)), (2, (L + 13)), (2, (L + 14)), (0, 0), (0, 0), (0, 0)]), .inr (0, 400, []), .inr (0, 12, []), .inr (0, 12, []), .inr (1, 64, []), .inl (5, [(2, (L + 16)), (2, (L + 17)), (2, (L + 18)), (2, (L + 19)), (0, 0), (0, 0), (0, 0)]), .inr (0, 400, []), .inr (0, 12, []), .inr (0, 12, []), .inr (1, 64, []), .inl (5, [(2, (L + 21)), (2, (L + 22)), (2, (L + 23)), (2, (L + 24)), (0, 0), (0, 0), (0, 0)]), .inr (0, 400, []), .inr (0, 12, []), .inr (0, 12, []), .inr (1, 64, [])]) (F_RU_init (F_RU_init (F_RU_init (F_RU_init (σ) (L + 5)) (L + 10)) (L + 15)) (L + 20)) 24 2000 55 [(1, .int (3 : Int32)), (0, .ref (gB g + L))] [.ref (gB g + (L + 20)), .int (3 : Int32), .ref (gB g + (L + 1))]
  refine a_astq (pc := 55) (i := L + 1) (r := L + 20) (q := vwCl[5]) (ap_g hL rfl) (ap_g hL rfl) rfl (Or.inl ⟨rfl, rfl⟩) (vp_in_nI (n := 3) (N := 6) (by decide) (by decide)) (Nat.le_of_ble_eq_true rfl) d_RO_init_55 ?_
  rw [ap_s hL]
  show Ax g m_RO_init 34 2990 _ (P ++ [.inl (4, [(2, (L + 1)), (2, (L + 2)), (2, (L + 3)), (2, (L + 4)), (0, 0), (0, 0), (0, 0), (0, 0)]), .inr (4, 6, [(L + 5) + 1, (L + 10) + 1, (L + 15) + 1, (L + 20) + 1, 0, 0]), .inr (1, 8, []), .inr (1, 3, []), .inr (0, 3, []), .inl (5, [(2, (L + 6)), (2, (L + 7)), (2, (L + 8)), (2, (L + 9)), (0, 0), (0, 0), (0, 0)]), .inr (0, 400, []), .inr (0, 12, []), .inr (0, 12, []), .inr (1, 64, []), .inl (5, [(2, (L + 11)), (2, (L + 12)), (2, (L + 13)), (2, (L + 14)), (0, 0), (0, 0), (0, 0)]), .inr (0, 400, []), .inr (0, 12, []), .inr (0, 12, []), .inr (1, 64, []), .inl (5, [(2, (L + 16)), (2, (L + 17)), (2, (L + 18)), (2, (L + 19)), (0, 0), (0, 0), (0, 0)]), .inr (0, 400, []), .inr (0, 12, []), .inr (0, 12, []), .inr (1, 64, []), .inl (5, [(2, (L + 21)), (2, (L + 22)), (2, (L + 23)), (2, (L + 24)), (0, 0), (0, 0), (0, 0)]), .inr (0, 400, []), .inr (0, 12, []), .inr (0, 12, []), .inr (1, 64, [])]) (F_RU_init (F_RU_init (F_RU_init (F_RU_init (σ) (L + 5)) (L + 10)) (L + 15)) (L + 20)) 24 2000 56 [(1, .int (3 : Int32)), (0, .ref (gB g + L))] []
  refine a_iinc (pc := 56) (v := (4 : Int32)) (lv' := [(1, .int (4 : Int32)), (0, .ref (gB g + L))]) 0 rfl (by decide) (Nat.le_of_ble_eq_true rfl) rfl d_RO_init_56 ?_
  refine a_goto (pc := 59) 37 (by decide) d_RO_init_59 ?_
  refine a_iload_n (pc := 37) 0 rfl rfl d_RO_init_37 ?_
  refine a_bipush (pc := 38) (6 : Int32) (by decide) d_RO_init_38 ?_
  refine a_icmp_ge (pc := 40) 62 (by decide) d_RO_init_40 ⟨fun c0 => absurd c0 (by decide), fun _ => ?_⟩
  refine a_aload_n (pc := 43) 1 rfl rfl d_RO_init_43 ?_
  refine a_getR (pc := 44) (i := L + 0) (r := (L + 1)) fg_RO_11 (ap_g hL rfl) rfl d_RO_init_44 ?_
  refine a_iload_n (pc := 47) 0 rfl rfl d_RO_init_47 ?_
  refine a_newo (pc := 48) (ci := 5) (N := 7) tyX5 rfl uw5 tyX5_ok (by decide) tw216 tw159 tw7 (by rw [ap_n hL]; show zro _ (L + 25); exact (zf_RU_init (by omega) (zf_RU_init (by omega) (zf_RU_init (by omega) (zf_RU_init (by omega) (hz _ (by omega))))))) (Nat.le_of_ble_eq_true rfl) (Nat.le_of_ble_eq_true rfl) d_RO_init_48 ?_
  rw [ap_n hL, List.append_assoc]
  show Ax g m_RO_init 34 2990 _ (P ++ [.inl (4, [(2, (L + 1)), (2, (L + 2)), (2, (L + 3)), (2, (L + 4)), (0, 0), (0, 0), (0, 0), (0, 0)]), .inr (4, 6, [(L + 5) + 1, (L + 10) + 1, (L + 15) + 1, (L + 20) + 1, 0, 0]), .inr (1, 8, []), .inr (1, 3, []), .inr (0, 3, []), .inl (5, [(2, (L + 6)), (2, (L + 7)), (2, (L + 8)), (2, (L + 9)), (0, 0), (0, 0), (0, 0)]), .inr (0, 400, []), .inr (0, 12, []), .inr (0, 12, []), .inr (1, 64, []), .inl (5, [(2, (L + 11)), (2, (L + 12)), (2, (L + 13)), (2, (L + 14)), (0, 0), (0, 0), (0, 0)]), .inr (0, 400, []), .inr (0, 12, []), .inr (0, 12, []), .inr (1, 64, []), .inl (5, [(2, (L + 16)), (2, (L + 17)), (2, (L + 18)), (2, (L + 19)), (0, 0), (0, 0), (0, 0)]), .inr (0, 400, []), .inr (0, 12, []), .inr (0, 12, []), .inr (1, 64, []), .inl (5, [(2, (L + 21)), (2, (L + 22)), (2, (L + 23)), (2, (L + 24)), (0, 0), (0, 0), (0, 0)]), .inr (0, 400, []), .inr (0, 12, []), .inr (0, 12, []), .inr (1, 64, []), .inl (5, [(3, 0), (3, 0), (3, 0), (3, 0), (0, 0), (0, 0), (0, 0)])]) (F_RU_init (F_RU_init (F_RU_init (F_RU_init (σ) (L + 5)) (L + 10)) (L + 15)) (L + 20)) 25 2007 51 [(1, .int (4 : Int32)), (0, .ref (gB g + L))] [.ref (gB g + (L + 25)), .int (4 : Int32), .ref (gB g + (L + 1))]
  refine a_dup (pc := 51) rfl d_RO_init_51 ?_
  refine a_callIN (a := 0) (pc := 52) (M' := m_RU_init) (i := gB g + (L + 25)) (As := []) (st := [.ref (gB g + (L + 25)), .int (4 : Int32), .ref (gB g + (L + 1))]) (mc' := 4) (ms' := 488) (host := "BallBox") (by simp [nests]) tw161 tw7 tw162 rfl rfl (by decide +kernel) rfl (by decide) (by decide) rfl (Nat.le_of_ble_eq_true rfl) (Nat.le_of_ble_eq_true rfl) (Nat.le_of_ble_eq_true rfl) d_RO_init_52 (by have q := cc_RU_init (g := g) (P := P ++ [.inl (4, [(2, (L + 1)), (2, (L + 2)), (2, (L + 3)), (2, (L + 4)), (0, 0), (0, 0), (0, 0), (0, 0)]), .inr (4, 6, [(L + 5) + 1, (L + 10) + 1, (L + 15) + 1, (L + 20) + 1, 0, 0]), .inr (1, 8, []), .inr (1, 3, []), .inr (0, 3, []), .inl (5, [(2, (L + 6)), (2, (L + 7)), (2, (L + 8)), (2, (L + 9)), (0, 0), (0, 0), (0, 0)]), .inr (0, 400, []), .inr (0, 12, []), .inr (0, 12, []), .inr (1, 64, []), .inl (5, [(2, (L + 11)), (2, (L + 12)), (2, (L + 13)), (2, (L + 14)), (0, 0), (0, 0), (0, 0)]), .inr (0, 400, []), .inr (0, 12, []), .inr (0, 12, []), .inr (1, 64, []), .inl (5, [(2, (L + 16)), (2, (L + 17)), (2, (L + 18)), (2, (L + 19)), (0, 0), (0, 0), (0, 0)]), .inr (0, 400, []), .inr (0, 12, []), .inr (0, 12, []), .inr (1, 64, []), .inl (5, [(2, (L + 21)), (2, (L + 22)), (2, (L + 23)), (2, (L + 24)), (0, 0), (0, 0), (0, 0)]), .inr (0, 400, []), .inr (0, 12, []), .inr (0, 12, []), .inr (1, 64, [])]) (L := L + 25) (σ := F_RU_init (F_RU_init (F_RU_init (F_RU_init (σ) (L + 5)) (L + 10)) (L + 15)) (L + 20)) (ap_n hL) (fun i hi => (zf_RU_init (by omega) (zf_RU_init (by omega) (zf_RU_init (by omega) (zf_RU_init (by omega) (hz _ (by omega))))))); rw [List.append_assoc] at q; exact q) ?_
  rintro _ _ s' ⟨rfl, rfl, hs⟩ -
  rw [hs]
  rw [List.append_assoc]
  show Ax g m_RO_init 34 2990 _ (P ++ [.inl (4, [(2, (L + 1)), (2, (L + 2)), (2, (L + 3)), (2, (L + 4)), (0, 0), (0, 0), (0, 0), (0, 0)]), .inr (4, 6, [(L + 5) + 1, (L + 10) + 1, (L + 15) + 1, (L + 20) + 1, 0, 0]), .inr (1, 8, []), .inr (1, 3, []), .inr (0, 3, []), .inl (5, [(2, (L + 6)), (2, (L + 7)), (2, (L + 8)), (2, (L + 9)), (0, 0), (0, 0), (0, 0)]), .inr (0, 400, []), .inr (0, 12, []), .inr (0, 12, []), .inr (1, 64, []), .inl (5, [(2, (L + 11)), (2, (L + 12)), (2, (L + 13)), (2, (L + 14)), (0, 0), (0, 0), (0, 0)]), .inr (0, 400, []), .inr (0, 12, []), .inr (0, 12, []), .inr (1, 64, []), .inl (5, [(2, (L + 16)), (2, (L + 17)), (2, (L + 18)), (2, (L + 19)), (0, 0), (0, 0), (0, 0)]), .inr (0, 400, []), .inr (0, 12, []), .inr (0, 12, []), .inr (1, 64, []), .inl (5, [(2, (L + 21)), (2, (L + 22)), (2, (L + 23)), (2, (L + 24)), (0, 0), (0, 0), (0, 0)]), .inr (0, 400, []), .inr (0, 12, []), .inr (0, 12, []), .inr (1, 64, []), .inl (5, [(2, (L + 26)), (2, (L + 27)), (2, (L + 28)), (2, (L + 29)), (0, 0), (0, 0), (0, 0)]), .inr (0, 400, []), .inr (0, 12, []), .inr (0, 12, []), .inr (1, 64, [])]) (F_RU_init (F_RU_init (F_RU_init (F_RU_init (F_RU_init (σ) (L + 5)) (L + 10)) (L + 15)) (L + 20)) (L + 25)) 29 2495 55 [(1, .int (4 : Int32)), (0, .ref (gB g + L))] [.ref (gB g + (L + 25)), .int (4 : Int32), .ref (gB g + (L + 1))]
  refine a_astq (pc := 55) (i := L + 1) (r := L + 25) (q := vwCl[5]) (ap_g hL rfl) (ap_g hL rfl) rfl (Or.inl ⟨rfl, rfl⟩) (vp_in_nI (n := 4) (N := 6) (by decide) (by decide)) (Nat.le_of_ble_eq_true rfl) d_RO_init_55 ?_
  rw [ap_s hL]
  show Ax g m_RO_init 34 2990 _ (P ++ [.inl (4, [(2, (L + 1)), (2, (L + 2)), (2, (L + 3)), (2, (L + 4)), (0, 0), (0, 0), (0, 0), (0, 0)]), .inr (4, 6, [(L + 5) + 1, (L + 10) + 1, (L + 15) + 1, (L + 20) + 1, (L + 25) + 1, 0]), .inr (1, 8, []), .inr (1, 3, []), .inr (0, 3, []), .inl (5, [(2, (L + 6)), (2, (L + 7)), (2, (L + 8)), (2, (L + 9)), (0, 0), (0, 0), (0, 0)]), .inr (0, 400, []), .inr (0, 12, []), .inr (0, 12, []), .inr (1, 64, []), .inl (5, [(2, (L + 11)), (2, (L + 12)), (2, (L + 13)), (2, (L + 14)), (0, 0), (0, 0), (0, 0)]), .inr (0, 400, []), .inr (0, 12, []), .inr (0, 12, []), .inr (1, 64, []), .inl (5, [(2, (L + 16)), (2, (L + 17)), (2, (L + 18)), (2, (L + 19)), (0, 0), (0, 0), (0, 0)]), .inr (0, 400, []), .inr (0, 12, []), .inr (0, 12, []), .inr (1, 64, []), .inl (5, [(2, (L + 21)), (2, (L + 22)), (2, (L + 23)), (2, (L + 24)), (0, 0), (0, 0), (0, 0)]), .inr (0, 400, []), .inr (0, 12, []), .inr (0, 12, []), .inr (1, 64, []), .inl (5, [(2, (L + 26)), (2, (L + 27)), (2, (L + 28)), (2, (L + 29)), (0, 0), (0, 0), (0, 0)]), .inr (0, 400, []), .inr (0, 12, []), .inr (0, 12, []), .inr (1, 64, [])]) (F_RU_init (F_RU_init (F_RU_init (F_RU_init (F_RU_init (σ) (L + 5)) (L + 10)) (L + 15)) (L + 20)) (L + 25)) 29 2495 56 [(1, .int (4 : Int32)), (0, .ref (gB g + L))] []
  refine a_iinc (pc := 56) (v := (5 : Int32)) (lv' := [(1, .int (5 : Int32)), (0, .ref (gB g + L))]) 0 rfl (by decide) (Nat.le_of_ble_eq_true rfl) rfl d_RO_init_56 ?_
  refine a_goto (pc := 59) 37 (by decide) d_RO_init_59 ?_
  refine a_iload_n (pc := 37) 0 rfl rfl d_RO_init_37 ?_
  refine a_bipush (pc := 38) (6 : Int32) (by decide) d_RO_init_38 ?_
  refine a_icmp_ge (pc := 40) 62 (by decide) d_RO_init_40 ⟨fun c0 => absurd c0 (by decide), fun _ => ?_⟩
  refine a_aload_n (pc := 43) 1 rfl rfl d_RO_init_43 ?_
  refine a_getR (pc := 44) (i := L + 0) (r := (L + 1)) fg_RO_11 (ap_g hL rfl) rfl d_RO_init_44 ?_
  refine a_iload_n (pc := 47) 0 rfl rfl d_RO_init_47 ?_
  refine a_newo (pc := 48) (ci := 5) (N := 7) tyX5 rfl uw5 tyX5_ok (by decide) tw216 tw159 tw7 (by rw [ap_n hL]; show zro _ (L + 30); exact (zf_RU_init (by omega) (zf_RU_init (by omega) (zf_RU_init (by omega) (zf_RU_init (by omega) (zf_RU_init (by omega) (hz _ (by omega)))))))) (Nat.le_of_ble_eq_true rfl) (Nat.le_of_ble_eq_true rfl) d_RO_init_48 ?_
  rw [ap_n hL, List.append_assoc]
  show Ax g m_RO_init 34 2990 _ (P ++ [.inl (4, [(2, (L + 1)), (2, (L + 2)), (2, (L + 3)), (2, (L + 4)), (0, 0), (0, 0), (0, 0), (0, 0)]), .inr (4, 6, [(L + 5) + 1, (L + 10) + 1, (L + 15) + 1, (L + 20) + 1, (L + 25) + 1, 0]), .inr (1, 8, []), .inr (1, 3, []), .inr (0, 3, []), .inl (5, [(2, (L + 6)), (2, (L + 7)), (2, (L + 8)), (2, (L + 9)), (0, 0), (0, 0), (0, 0)]), .inr (0, 400, []), .inr (0, 12, []), .inr (0, 12, []), .inr (1, 64, []), .inl (5, [(2, (L + 11)), (2, (L + 12)), (2, (L + 13)), (2, (L + 14)), (0, 0), (0, 0), (0, 0)]), .inr (0, 400, []), .inr (0, 12, []), .inr (0, 12, []), .inr (1, 64, []), .inl (5, [(2, (L + 16)), (2, (L + 17)), (2, (L + 18)), (2, (L + 19)), (0, 0), (0, 0), (0, 0)]), .inr (0, 400, []), .inr (0, 12, []), .inr (0, 12, []), .inr (1, 64, []), .inl (5, [(2, (L + 21)), (2, (L + 22)), (2, (L + 23)), (2, (L + 24)), (0, 0), (0, 0), (0, 0)]), .inr (0, 400, []), .inr (0, 12, []), .inr (0, 12, []), .inr (1, 64, []), .inl (5, [(2, (L + 26)), (2, (L + 27)), (2, (L + 28)), (2, (L + 29)), (0, 0), (0, 0), (0, 0)]), .inr (0, 400, []), .inr (0, 12, []), .inr (0, 12, []), .inr (1, 64, []), .inl (5, [(3, 0), (3, 0), (3, 0), (3, 0), (0, 0), (0, 0), (0, 0)])]) (F_RU_init (F_RU_init (F_RU_init (F_RU_init (F_RU_init (σ) (L + 5)) (L + 10)) (L + 15)) (L + 20)) (L + 25)) 30 2502 51 [(1, .int (5 : Int32)), (0, .ref (gB g + L))] [.ref (gB g + (L + 30)), .int (5 : Int32), .ref (gB g + (L + 1))]
  refine a_dup (pc := 51) rfl d_RO_init_51 ?_
  refine a_callIN (a := 0) (pc := 52) (M' := m_RU_init) (i := gB g + (L + 30)) (As := []) (st := [.ref (gB g + (L + 30)), .int (5 : Int32), .ref (gB g + (L + 1))]) (mc' := 4) (ms' := 488) (host := "BallBox") (by simp [nests]) tw161 tw7 tw162 rfl rfl (by decide +kernel) rfl (by decide) (by decide) rfl (Nat.le_of_ble_eq_true rfl) (Nat.le_of_ble_eq_true rfl) (Nat.le_of_ble_eq_true rfl) d_RO_init_52 (by have q := cc_RU_init (g := g) (P := P ++ [.inl (4, [(2, (L + 1)), (2, (L + 2)), (2, (L + 3)), (2, (L + 4)), (0, 0), (0, 0), (0, 0), (0, 0)]), .inr (4, 6, [(L + 5) + 1, (L + 10) + 1, (L + 15) + 1, (L + 20) + 1, (L + 25) + 1, 0]), .inr (1, 8, []), .inr (1, 3, []), .inr (0, 3, []), .inl (5, [(2, (L + 6)), (2, (L + 7)), (2, (L + 8)), (2, (L + 9)), (0, 0), (0, 0), (0, 0)]), .inr (0, 400, []), .inr (0, 12, []), .inr (0, 12, []), .inr (1, 64, []), .inl (5, [(2, (L + 11)), (2, (L + 12)), (2, (L + 13)), (2, (L + 14)), (0, 0), (0, 0), (0, 0)]), .inr (0, 400, []), .inr (0, 12, []), .inr (0, 12, []), .inr (1, 64, []), .inl (5, [(2, (L + 16)), (2, (L + 17)), (2, (L + 18)), (2, (L + 19)), (0, 0), (0, 0), (0, 0)]), .inr (0, 400, []), .inr (0, 12, []), .inr (0, 12, []), .inr (1, 64, []), .inl (5, [(2, (L + 21)), (2, (L + 22)), (2, (L + 23)), (2, (L + 24)), (0, 0), (0, 0), (0, 0)]), .inr (0, 400, []), .inr (0, 12, []), .inr (0, 12, []), .inr (1, 64, []), .inl (5, [(2, (L + 26)), (2, (L + 27)), (2, (L + 28)), (2, (L + 29)), (0, 0), (0, 0), (0, 0)]), .inr (0, 400, []), .inr (0, 12, []), .inr (0, 12, []), .inr (1, 64, [])]) (L := L + 30) (σ := F_RU_init (F_RU_init (F_RU_init (F_RU_init (F_RU_init (σ) (L + 5)) (L + 10)) (L + 15)) (L + 20)) (L + 25)) (ap_n hL) (fun i hi => (zf_RU_init (by omega) (zf_RU_init (by omega) (zf_RU_init (by omega) (zf_RU_init (by omega) (zf_RU_init (by omega) (hz _ (by omega)))))))); rw [List.append_assoc] at q; exact q) ?_
  rintro _ _ s' ⟨rfl, rfl, hs⟩ -
  rw [hs]
  rw [List.append_assoc]
  show Ax g m_RO_init 34 2990 _ (P ++ [.inl (4, [(2, (L + 1)), (2, (L + 2)), (2, (L + 3)), (2, (L + 4)), (0, 0), (0, 0), (0, 0), (0, 0)]), .inr (4, 6, [(L + 5) + 1, (L + 10) + 1, (L + 15) + 1, (L + 20) + 1, (L + 25) + 1, 0]), .inr (1, 8, []), .inr (1, 3, []), .inr (0, 3, []), .inl (5, [(2, (L + 6)), (2, (L + 7)), (2, (L + 8)), (2, (L + 9)), (0, 0), (0, 0), (0, 0)]), .inr (0, 400, []), .inr (0, 12, []), .inr (0, 12, []), .inr (1, 64, []), .inl (5, [(2, (L + 11)), (2, (L + 12)), (2, (L + 13)), (2, (L + 14)), (0, 0), (0, 0), (0, 0)]), .inr (0, 400, []), .inr (0, 12, []), .inr (0, 12, []), .inr (1, 64, []), .inl (5, [(2, (L + 16)), (2, (L + 17)), (2, (L + 18)), (2, (L + 19)), (0, 0), (0, 0), (0, 0)]), .inr (0, 400, []), .inr (0, 12, []), .inr (0, 12, []), .inr (1, 64, []), .inl (5, [(2, (L + 21)), (2, (L + 22)), (2, (L + 23)), (2, (L + 24)), (0, 0), (0, 0), (0, 0)]), .inr (0, 400, []), .inr (0, 12, []), .inr (0, 12, []), .inr (1, 64, []), .inl (5, [(2, (L + 26)), (2, (L + 27)), (2, (L + 28)), (2, (L + 29)), (0, 0), (0, 0), (0, 0)]), .inr (0, 400, []), .inr (0, 12, []), .inr (0, 12, []), .inr (1, 64, []), .inl (5, [(2, (L + 31)), (2, (L + 32)), (2, (L + 33)), (2, (L + 34)), (0, 0), (0, 0), (0, 0)]), .inr (0, 400, []), .inr (0, 12, []), .inr (0, 12, []), .inr (1, 64, [])]) (F_RU_init (F_RU_init (F_RU_init (F_RU_init (F_RU_init (F_RU_init (σ) (L + 5)) (L + 10)) (L + 15)) (L + 20)) (L + 25)) (L + 30)) 34 2990 55 [(1, .int (5 : Int32)), (0, .ref (gB g + L))] [.ref (gB g + (L + 30)), .int (5 : Int32), .ref (gB g + (L + 1))]
  refine a_astq (pc := 55) (i := L + 1) (r := L + 30) (q := vwCl[5]) (ap_g hL rfl) (ap_g hL rfl) rfl (Or.inl ⟨rfl, rfl⟩) (vp_in_nI (n := 5) (N := 6) (by decide) (by decide)) (Nat.le_of_ble_eq_true rfl) d_RO_init_55 ?_
  rw [ap_s hL]
  show Ax g m_RO_init 34 2990 _ (P ++ [.inl (4, [(2, (L + 1)), (2, (L + 2)), (2, (L + 3)), (2, (L + 4)), (0, 0), (0, 0), (0, 0), (0, 0)]), .inr (4, 6, [(L + 5) + 1, (L + 10) + 1, (L + 15) + 1, (L + 20) + 1, (L + 25) + 1, (L + 30) + 1]), .inr (1, 8, []), .inr (1, 3, []), .inr (0, 3, []), .inl (5, [(2, (L + 6)), (2, (L + 7)), (2, (L + 8)), (2, (L + 9)), (0, 0), (0, 0), (0, 0)]), .inr (0, 400, []), .inr (0, 12, []), .inr (0, 12, []), .inr (1, 64, []), .inl (5, [(2, (L + 11)), (2, (L + 12)), (2, (L + 13)), (2, (L + 14)), (0, 0), (0, 0), (0, 0)]), .inr (0, 400, []), .inr (0, 12, []), .inr (0, 12, []), .inr (1, 64, []), .inl (5, [(2, (L + 16)), (2, (L + 17)), (2, (L + 18)), (2, (L + 19)), (0, 0), (0, 0), (0, 0)]), .inr (0, 400, []), .inr (0, 12, []), .inr (0, 12, []), .inr (1, 64, []), .inl (5, [(2, (L + 21)), (2, (L + 22)), (2, (L + 23)), (2, (L + 24)), (0, 0), (0, 0), (0, 0)]), .inr (0, 400, []), .inr (0, 12, []), .inr (0, 12, []), .inr (1, 64, []), .inl (5, [(2, (L + 26)), (2, (L + 27)), (2, (L + 28)), (2, (L + 29)), (0, 0), (0, 0), (0, 0)]), .inr (0, 400, []), .inr (0, 12, []), .inr (0, 12, []), .inr (1, 64, []), .inl (5, [(2, (L + 31)), (2, (L + 32)), (2, (L + 33)), (2, (L + 34)), (0, 0), (0, 0), (0, 0)]), .inr (0, 400, []), .inr (0, 12, []), .inr (0, 12, []), .inr (1, 64, [])]) (F_RU_init (F_RU_init (F_RU_init (F_RU_init (F_RU_init (F_RU_init (σ) (L + 5)) (L + 10)) (L + 15)) (L + 20)) (L + 25)) (L + 30)) 34 2990 56 [(1, .int (5 : Int32)), (0, .ref (gB g + L))] []
  refine a_iinc (pc := 56) (v := (6 : Int32)) (lv' := [(1, .int (6 : Int32)), (0, .ref (gB g + L))]) 0 rfl (by decide) (Nat.le_of_ble_eq_true rfl) rfl d_RO_init_56 ?_
  refine a_goto (pc := 59) 37 (by decide) d_RO_init_59 ?_
  refine a_iload_n (pc := 37) 0 rfl rfl d_RO_init_37 ?_
  refine a_bipush (pc := 38) (6 : Int32) (by decide) d_RO_init_38 ?_
  refine a_icmp_ge (pc := 40) 62 (by decide) d_RO_init_40 ⟨fun _ => ?_, fun c0 => absurd c0 (by decide)⟩
  exact a_vret (pc := 62) rfl (by simp [List.length_append] <;> omega) rfl (Nat.le_refl _) d_RO_init_62 ⟨rfl, rfl, rfl⟩
theorem d_SE_init_0 : decode c_SE_init 0 = .ok (.aload_n 0, 1) := by decide +kernel
theorem d_SE_init_1 : decode c_SE_init 1 = .ok (.invokespecial 3, 3) := by decide +kernel
theorem d_SE_init_4 : decode c_SE_init 4 = .ok (.aload_n 0, 1) := by decide +kernel
theorem d_SE_init_5 : decode c_SE_init 5 = .ok (.sipush 4000, 3) := by decide +kernel
theorem d_SE_init_8 : decode c_SE_init 8 = .ok (.newarray .int, 2) := by decide +kernel
theorem d_SE_init_10 : decode c_SE_init 10 = .ok (.putfield 11, 3) := by decide +kernel
theorem d_SE_init_13 : decode c_SE_init 13 = .ok (.aload_n 0, 1) := by decide +kernel
theorem d_SE_init_14 : decode c_SE_init 14 = .ok (.sipush 4000, 3) := by decide +kernel
theorem d_SE_init_17 : decode c_SE_init 17 = .ok (.newarray .int, 2) := by decide +kernel
theorem d_SE_init_19 : decode c_SE_init 19 = .ok (.putfield 15, 3) := by decide +kernel
theorem d_SE_init_22 : decode c_SE_init 22 = .ok (.aload_n 0, 1) := by decide +kernel
theorem d_SE_init_23 : decode c_SE_init 23 = .ok (.sipush 4096, 3) := by decide +kernel
theorem d_SE_init_26 : decode c_SE_init 26 = .ok (.newarray .long, 2) := by decide +kernel
theorem d_SE_init_28 : decode c_SE_init 28 = .ok (.putfield 18, 3) := by decide +kernel
theorem d_SE_init_31 : decode c_SE_init 31 = .ok (.aload_n 0, 1) := by decide +kernel
theorem d_SE_init_32 : decode c_SE_init 32 = .ok (.iconst (-1), 1) := by decide +kernel
theorem d_SE_init_33 : decode c_SE_init 33 = .ok (.putfield 22, 3) := by decide +kernel
theorem d_SE_init_36 : decode c_SE_init 36 = .ok (.aload_n 0, 1) := by decide +kernel
theorem d_SE_init_37 : decode c_SE_init 37 = .ok (.aload_n 1, 1) := by decide +kernel
theorem d_SE_init_38 : decode c_SE_init 38 = .ok (.putfield 26, 3) := by decide +kernel
theorem d_SE_init_41 : decode c_SE_init 41 = .ok (.return_, 1) := by decide +kernel
def F_SE_init (σ : St) (L : Nat) : St := sfi (σ) L 6 (-1 : Int32)
theorem zf_SE_init {σ : St} {L j : Nat} (hj : L + 4 ≤ j) (h : zro σ j) : zro (F_SE_init σ L) j := (zro_sfi (by omega) h)
set_option maxRecDepth 20000 in
set_option maxHeartbeats 2000000 in
theorem cc_SE_init {g : Gx} {P : List Sh} {L : Nat} {ro : Nat} {σ : St} (hL : P.length = L) (hz : ∀ i, L < i → zro σ i) : Cx g m_SE_init [.ref (gB g + L), .ref (gB g + ro)] (P ++ [.inl (7, [(3, 0), (3, 0), (3, 0), (3, 0), (0, 0), (0, 0), (0, 0), (0, 0)])]) σ 3 12096 (fun r sh σ' => r = none ∧ sh = P ++ [.inl (7, [(2, ro), (2, (L + 1)), (2, (L + 2)), (2, (L + 3)), (0, 0), (0, 0), (0, 0), (0, 0)]), .inr (0, 4000, []), .inr (0, 4000, []), .inr (1, 4096, [])] ∧ σ' = F_SE_init σ L) := by
  refine Cx.of (show plainName "BallBox$Search" = true by decide) (Nat.le_of_ble_eq_true rfl) ?_
  show Ax g m_SE_init 3 12096 _ (P ++ [.inl (7, [(3, 0), (3, 0), (3, 0), (3, 0), (0, 0), (0, 0), (0, 0), (0, 0)])]) σ 0 0 0 [(0, .ref (gB g + L)), (1, .ref (gB g + ro))] []
  refine a_aload_n (pc := 0) 0 rfl rfl d_SE_init_0 ?_
  refine a_objI (pc := 1) tw256 tw28 tw29 (by decide) (Nat.le_of_ble_eq_true rfl) d_SE_init_1 ?_
  refine a_aload_n (pc := 4) 0 rfl rfl d_SE_init_4 ?_
  refine a_sipush (pc := 5) (4000 : Int32) (by decide) d_SE_init_5 ?_
  refine a_newi (pc := 8) (atype := .int) (kd := 0) (N := 4000) rfl (Or.inl ⟨rfl, rfl⟩) tw54 (by rw [ap_n hL]; show zro _ (L + 1); exact (hz _ (by omega))) (by decide) (by decide) (by decide) (Nat.le_of_ble_eq_true rfl) (Nat.le_of_ble_eq_true rfl) d_SE_init_8 ?_
  rw [ap_n hL, List.append_assoc]
  show Ax g m_SE_init 3 12096 _ (P ++ [.inl (7, [(3, 0), (3, 0), (3, 0), (3, 0), (0, 0), (0, 0), (0, 0), (0, 0)]), .inr (0, 4000, [])]) (σ) 1 4000 10 [(0, .ref (gB g + L)), (1, .ref (gB g + ro))] [.ref (gB g + (L + 1)), .ref (gB g + L)]
  refine a_putF (pc := 10) (i := L + 0) (r := (L + 1)) fp_SE_11 (Or.inr ⟨_, rfl⟩) rfl rfl (ap_g hL rfl) rfl d_SE_init_10 ?_
  rw [ap_s hL]
  show Ax g m_SE_init 3 12096 _ (P ++ [.inl (7, [(3, 0), (2, (L + 1)), (3, 0), (3, 0), (0, 0), (0, 0), (0, 0), (0, 0)]), .inr (0, 4000, [])]) (σ) 1 4000 13 [(0, .ref (gB g + L)), (1, .ref (gB g + ro))] []
  refine a_aload_n (pc := 13) 0 rfl rfl d_SE_init_13 ?_
  refine a_sipush (pc := 14) (4000 : Int32) (by decide) d_SE_init_14 ?_
  refine a_newi (pc := 17) (atype := .int) (kd := 0) (N := 4000) rfl (Or.inl ⟨rfl, rfl⟩) tw54 (by rw [ap_n hL]; show zro _ (L + 2); exact (hz _ (by omega))) (by decide) (by decide) (by decide) (Nat.le_of_ble_eq_true rfl) (Nat.le_of_ble_eq_true rfl) d_SE_init_17 ?_
  rw [ap_n hL, List.append_assoc]
  show Ax g m_SE_init 3 12096 _ (P ++ [.inl (7, [(3, 0), (2, (L + 1)), (3, 0), (3, 0), (0, 0), (0, 0), (0, 0), (0, 0)]), .inr (0, 4000, []), .inr (0, 4000, [])]) (σ) 2 8000 19 [(0, .ref (gB g + L)), (1, .ref (gB g + ro))] [.ref (gB g + (L + 2)), .ref (gB g + L)]
  refine a_putF (pc := 19) (i := L + 0) (r := (L + 2)) fp_SE_15 (Or.inr ⟨_, rfl⟩) rfl rfl (ap_g hL rfl) rfl d_SE_init_19 ?_
  rw [ap_s hL]
  show Ax g m_SE_init 3 12096 _ (P ++ [.inl (7, [(3, 0), (2, (L + 1)), (2, (L + 2)), (3, 0), (0, 0), (0, 0), (0, 0), (0, 0)]), .inr (0, 4000, []), .inr (0, 4000, [])]) (σ) 2 8000 22 [(0, .ref (gB g + L)), (1, .ref (gB g + ro))] []
  refine a_aload_n (pc := 22) 0 rfl rfl d_SE_init_22 ?_
  refine a_sipush (pc := 23) (4096 : Int32) (by decide) d_SE_init_23 ?_
  refine a_newi (pc := 26) (atype := .long) (kd := 1) (N := 4096) rfl (Or.inr (Or.inl ⟨rfl, rfl⟩)) tw186 (by rw [ap_n hL]; show zro _ (L + 3); exact (hz _ (by omega))) (by decide) (by decide) (by decide) (Nat.le_of_ble_eq_true rfl) (Nat.le_of_ble_eq_true rfl) d_SE_init_26 ?_
  rw [ap_n hL, List.append_assoc]
  show Ax g m_SE_init 3 12096 _ (P ++ [.inl (7, [(3, 0), (2, (L + 1)), (2, (L + 2)), (3, 0), (0, 0), (0, 0), (0, 0), (0, 0)]), .inr (0, 4000, []), .inr (0, 4000, []), .inr (1, 4096, [])]) (σ) 3 12096 28 [(0, .ref (gB g + L)), (1, .ref (gB g + ro))] [.ref (gB g + (L + 3)), .ref (gB g + L)]
  refine a_putF (pc := 28) (i := L + 0) (r := (L + 3)) fp_SE_18 (Or.inr ⟨_, rfl⟩) rfl rfl (ap_g hL rfl) rfl d_SE_init_28 ?_
  rw [ap_s hL]
  show Ax g m_SE_init 3 12096 _ (P ++ [.inl (7, [(3, 0), (2, (L + 1)), (2, (L + 2)), (2, (L + 3)), (0, 0), (0, 0), (0, 0), (0, 0)]), .inr (0, 4000, []), .inr (0, 4000, []), .inr (1, 4096, [])]) (σ) 3 12096 31 [(0, .ref (gB g + L)), (1, .ref (gB g + ro))] []
  refine a_aload_n (pc := 31) 0 rfl rfl d_SE_init_31 ?_
  refine a_iconst (pc := 32) (-1 : Int32) (by decide) d_SE_init_32 ?_
  refine a_putI (pc := 33) (i := L + 0) fp_SE_22 (ap_g hL rfl) rfl d_SE_init_33 ?_
  show Ax g m_SE_init 3 12096 _ (P ++ [.inl (7, [(3, 0), (2, (L + 1)), (2, (L + 2)), (2, (L + 3)), (0, 0), (0, 0), (0, 0), (0, 0)]), .inr (0, 4000, []), .inr (0, 4000, []), .inr (1, 4096, [])]) (sfi (σ) L 6 (-1 : Int32)) 3 12096 36 [(0, .ref (gB g + L)), (1, .ref (gB g + ro))] []
  refine a_aload_n (pc := 36) 0 rfl rfl d_SE_init_36 ?_
  refine a_aload_n (pc := 37) 1 rfl rfl d_SE_init_37 ?_
  refine a_putF (pc := 38) (i := L + 0) (r := ro) fp_SE_26 (Or.inl ⟨_, rfl⟩) rfl rfl (ap_g hL rfl) rfl d_SE_init_38 ?_
  rw [ap_s hL]
  show Ax g m_SE_init 3 12096 _ (P ++ [.inl (7, [(2, ro), (2, (L + 1)), (2, (L + 2)), (2, (L + 3)), (0, 0), (0, 0), (0, 0), (0, 0)]), .inr (0, 4000, []), .inr (0, 4000, []), .inr (1, 4096, [])]) (sfi (σ) L 6 (-1 : Int32)) 3 12096 41 [(0, .ref (gB g + L)), (1, .ref (gB g + ro))] []
  exact a_vret (pc := 41) rfl (by simp [List.length_append] <;> omega) rfl (Nat.le_refl _) d_SE_init_41 ⟨rfl, rfl, rfl⟩
theorem d_CA_init_0 : decode c_CA_init 0 = .ok (.aload_n 0, 1) := by decide +kernel
theorem d_CA_init_1 : decode c_CA_init 1 = .ok (.invokespecial 3, 3) := by decide +kernel
theorem d_CA_init_4 : decode c_CA_init 4 = .ok (.aload_n 0, 1) := by decide +kernel
theorem d_CA_init_5 : decode c_CA_init 5 = .ok (.new 9, 3) := by decide +kernel
theorem d_CA_init_8 : decode c_CA_init 8 = .ok (.dup, 1) := by decide +kernel
theorem d_CA_init_9 : decode c_CA_init 9 = .ok (.invokespecial 11, 3) := by decide +kernel
theorem d_CA_init_12 : decode c_CA_init 12 = .ok (.putfield 12, 3) := by decide +kernel
theorem d_CA_init_15 : decode c_CA_init 15 = .ok (.aload_n 0, 1) := by decide +kernel
theorem d_CA_init_16 : decode c_CA_init 16 = .ok (.iconst 2, 1) := by decide +kernel
theorem d_CA_init_17 : decode c_CA_init 17 = .ok (.newarray .int, 2) := by decide +kernel
theorem d_CA_init_19 : decode c_CA_init 19 = .ok (.dup, 1) := by decide +kernel
theorem d_CA_init_20 : decode c_CA_init 20 = .ok (.iconst 0, 1) := by decide +kernel
theorem d_CA_init_21 : decode c_CA_init 21 = .ok (.iconst (-1), 1) := by decide +kernel
theorem d_CA_init_22 : decode c_CA_init 22 = .ok (.iastore, 1) := by decide +kernel
theorem d_CA_init_23 : decode c_CA_init 23 = .ok (.dup, 1) := by decide +kernel
theorem d_CA_init_24 : decode c_CA_init 24 = .ok (.iconst 1, 1) := by decide +kernel
theorem d_CA_init_25 : decode c_CA_init 25 = .ok (.iconst (-1), 1) := by decide +kernel
theorem d_CA_init_26 : decode c_CA_init 26 = .ok (.iastore, 1) := by decide +kernel
theorem d_CA_init_27 : decode c_CA_init 27 = .ok (.putfield 18, 3) := by decide +kernel
theorem d_CA_init_30 : decode c_CA_init 30 = .ok (.aload_n 0, 1) := by decide +kernel
theorem d_CA_init_31 : decode c_CA_init 31 = .ok (.iconst 2, 1) := by decide +kernel
theorem d_CA_init_32 : decode c_CA_init 32 = .ok (.newarray .int, 2) := by decide +kernel
theorem d_CA_init_34 : decode c_CA_init 34 = .ok (.putfield 22, 3) := by decide +kernel
theorem d_CA_init_37 : decode c_CA_init 37 = .ok (.aload_n 0, 1) := by decide +kernel
theorem d_CA_init_38 : decode c_CA_init 38 = .ok (.iconst 2, 1) := by decide +kernel
theorem d_CA_init_39 : decode c_CA_init 39 = .ok (.newarray .int, 2) := by decide +kernel
theorem d_CA_init_41 : decode c_CA_init 41 = .ok (.putfield 25, 3) := by decide +kernel
theorem d_CA_init_44 : decode c_CA_init 44 = .ok (.aload_n 0, 1) := by decide +kernel
theorem d_CA_init_45 : decode c_CA_init 45 = .ok (.new 28, 3) := by decide +kernel
theorem d_CA_init_48 : decode c_CA_init 48 = .ok (.dup, 1) := by decide +kernel
theorem d_CA_init_49 : decode c_CA_init 49 = .ok (.aload_n 1, 1) := by decide +kernel
theorem d_CA_init_50 : decode c_CA_init 50 = .ok (.invokespecial 30, 3) := by decide +kernel
theorem d_CA_init_53 : decode c_CA_init 53 = .ok (.putfield 33, 3) := by decide +kernel
theorem d_CA_init_56 : decode c_CA_init 56 = .ok (.return_, 1) := by decide +kernel
def F_CA_init (σ : St) (L : Nat) : St := F_SE_init (sai (sai (F_SA_init (σ) (L + 1)) (L + 6) 0 (-1 : Int32)) (L + 6) 1 (-1 : Int32)) (L + 9)
theorem zf_CA_init {σ : St} {L j : Nat} (hj : L + 13 ≤ j) (h : zro σ j) : zro (F_CA_init σ L) j := (zf_SE_init (by omega) (zro_sai (by omega) (zro_sai (by omega) (zf_SA_init (by omega) h))))
set_option maxRecDepth 20000 in
set_option maxHeartbeats 2000000 in
theorem cc_CA_init {g : Gx} {P : List Sh} {L : Nat} {ro : Nat} {σ : St} (hL : P.length = L) (hz : ∀ i, L < i → zro σ i) : Cx g m_CA_init [.ref (gB g + L), .ref (gB g + ro)] (P ++ [.inl (1, [(3, 0), (3, 0), (3, 0), (3, 0), (3, 0)])]) σ 12 12208 (fun r sh σ' => r = none ∧ sh = P ++ [.inl (1, [(2, (L + 9)), (2, (L + 1)), (2, (L + 6)), (2, (L + 7)), (2, (L + 8))]), .inl (8, [(0, 0), (0, 0), (0, 0), (0, 0), (0, 0), (0, 0), (0, 0), (0, 0), (0, 0), (0, 0), (0, 0), (2, (L + 2)), (2, (L + 3)), (2, (L + 4)), (2, (L + 5))]), .inr (0, 64, []), .inr (0, 3, []), .inr (0, 8, []), .inr (0, 8, []), .inr (0, 2, []), .inr (0, 2, []), .inr (0, 2, []), .inl (7, [(2, ro), (2, (L + 10)), (2, (L + 11)), (2, (L + 12)), (0, 0), (0, 0), (0, 0), (0, 0)]), .inr (0, 4000, []), .inr (0, 4000, []), .inr (1, 4096, [])] ∧ σ' = F_CA_init σ L) := by
  refine Cx.of (show plainName "BallBox$Carver" = true by decide) (Nat.le_of_ble_eq_true rfl) ?_
  show Ax g m_CA_init 12 12208 _ (P ++ [.inl (1, [(3, 0), (3, 0), (3, 0), (3, 0), (3, 0)])]) σ 0 0 0 [(0, .ref (gB g + L)), (1, .ref (gB g + ro))] []
  refine a_aload_n (pc := 0) 0 rfl rfl d_CA_init_0 ?_
  refine a_objI (pc := 1) tw288 tw28 tw29 (by decide) (Nat.le_of_ble_eq_true rfl) d_CA_init_1 ?_
  refine a_aload_n (pc := 4) 0 rfl rfl d_CA_init_4 ?_
  refine a_newo (pc := 5) (ci := 8) (N := 15) tyX8 rfl uw8 tyX8_ok (by decide) tw289 tw62 tw4 (by rw [ap_n hL]; show zro _ (L + 1); exact (hz _ (by omega))) (Nat.le_of_ble_eq_true rfl) (Nat.le_of_ble_eq_true rfl) d_CA_init_5 ?_
  rw [ap_n hL, List.append_assoc]
  show Ax g m_CA_init 12 12208 _ (P ++ [.inl (1, [(3, 0), (3, 0), (3, 0), (3, 0), (3, 0)]), .inl (8, [(0, 0), (0, 0), (0, 0), (0, 0), (0, 0), (0, 0), (0, 0), (0, 0), (0, 0), (0, 0), (0, 0), (3, 0), (3, 0), (3, 0), (3, 0)])]) (σ) 1 15 8 [(0, .ref (gB g + L)), (1, .ref (gB g + ro))] [.ref (gB g + (L + 1)), .ref (gB g + L)]
  refine a_dup (pc := 8) rfl d_CA_init_8 ?_
  refine a_callI (a := 0) (pc := 9) (M' := m_SA_init) (i := gB g + (L + 1)) (As := []) (st := [.ref (gB g + (L + 1)), .ref (gB g + L)]) (mc' := 4) (ms' := 83) tw290 tw64 tw4 tw65 rfl rfl (by decide +kernel) rfl (by decide) (by decide) rfl (Nat.le_of_ble_eq_true rfl) (Nat.le_of_ble_eq_true rfl) (Nat.le_of_ble_eq_true rfl) d_CA_init_9 (by have q := cc_SA_init (g := g) (P := P ++ [.inl (1, [(3, 0), (3, 0), (3, 0), (3, 0), (3, 0)])]) (L := L + 1) (σ := σ) (ap_n hL) (fun i hi => (hz _ (by omega))); rw [List.append_assoc] at q; exact q) ?_
  rintro _ _ s' ⟨rfl, rfl, hs⟩ -
  rw [hs]
  rw [List.append_assoc]
  show Ax g m_CA_init 12 12208 _ (P ++ [.inl (1, [(3, 0), (3, 0), (3, 0), (3, 0), (3, 0)]), .inl (8, [(0, 0), (0, 0), (0, 0), (0, 0), (0, 0), (0, 0), (0, 0), (0, 0), (0, 0), (0, 0), (0, 0), (2, (L + 2)), (2, (L + 3)), (2, (L + 4)), (2, (L + 5))]), .inr (0, 64, []), .inr (0, 3, []), .inr (0, 8, []), .inr (0, 8, [])]) (F_SA_init (σ) (L + 1)) 5 98 12 [(0, .ref (gB g + L)), (1, .ref (gB g + ro))] [.ref (gB g + (L + 1)), .ref (gB g + L)]
  refine a_putF (pc := 12) (i := L + 0) (r := (L + 1)) fp_CA_12 (Or.inl ⟨_, rfl⟩) rfl rfl (ap_g hL rfl) rfl d_CA_init_12 ?_
  rw [ap_s hL]
  show Ax g m_CA_init 12 12208 _ (P ++ [.inl (1, [(3, 0), (2, (L + 1)), (3, 0), (3, 0), (3, 0)]), .inl (8, [(0, 0), (0, 0), (0, 0), (0, 0), (0, 0), (0, 0), (0, 0), (0, 0), (0, 0), (0, 0), (0, 0), (2, (L + 2)), (2, (L + 3)), (2, (L + 4)), (2, (L + 5))]), .inr (0, 64, []), .inr (0, 3, []), .inr (0, 8, []), .inr (0, 8, [])]) (F_SA_init (σ) (L + 1)) 5 98 15 [(0, .ref (gB g + L)), (1, .ref (gB g + ro))] []
  refine a_aload_n (pc := 15) 0 rfl rfl d_CA_init_15 ?_
  refine a_iconst (pc := 16) (2 : Int32) (by decide) d_CA_init_16 ?_
  refine a_newi (pc := 17) (atype := .int) (kd := 0) (N := 2) rfl (Or.inl ⟨rfl, rfl⟩) tw54 (by rw [ap_n hL]; show zro _ (L + 6); exact (zf_SA_init (by omega) (hz _ (by omega)))) (by decide) (by decide) (by decide) (Nat.le_of_ble_eq_true rfl) (Nat.le_of_ble_eq_true rfl) d_CA_init_17 ?_
  rw [ap_n hL, List.append_assoc]
  show Ax g m_CA_init 12 12208 _ (P ++ [.inl (1, [(3, 0), (2, (L + 1)), (3, 0), (3, 0), (3, 0)]), .inl (8, [(0, 0), (0, 0), (0, 0), (0, 0), (0, 0), (0, 0), (0, 0), (0, 0), (0, 0), (0, 0), (0, 0), (2, (L + 2)), (2, (L + 3)), (2, (L + 4)), (2, (L + 5))]), .inr (0, 64, []), .inr (0, 3, []), .inr (0, 8, []), .inr (0, 8, []), .inr (0, 2, [])]) (F_SA_init (σ) (L + 1)) 6 100 19 [(0, .ref (gB g + L)), (1, .ref (gB g + ro))] [.ref (gB g + (L + 6)), .ref (gB g + L)]
  refine a_dup (pc := 19) rfl d_CA_init_19 ?_
  refine a_iconst (pc := 20) (0 : Int32) (by decide) d_CA_init_20 ?_
  refine a_iconst (pc := 21) (-1 : Int32) (by decide) d_CA_init_21 ?_
  refine a_iast (pc := 22) (i := L + 6) (ap_g hL rfl) (vp_in_nI (n := 0) (N := 2) (by decide) (by decide)) d_CA_init_22 ?_
  show Ax g m_CA_init 12 12208 _ (P ++ [.inl (1, [(3, 0), (2, (L + 1)), (3, 0), (3, 0), (3, 0)]), .inl (8, [(0, 0), (0, 0), (0, 0), (0, 0), (0, 0), (0, 0), (0, 0), (0, 0), (0, 0), (0, 0), (0, 0), (2, (L + 2)), (2, (L + 3)), (2, (L + 4)), (2, (L + 5))]), .inr (0, 64, []), .inr (0, 3, []), .inr (0, 8, []), .inr (0, 8, []), .inr (0, 2, [])]) (sai (F_SA_init (σ) (L + 1)) (L + 6) 0 (-1 : Int32)) 6 100 23 [(0, .ref (gB g + L)), (1, .ref (gB g + ro))] [.ref (gB g + (L + 6)), .ref (gB g + L)]
  refine a_dup (pc := 23) rfl d_CA_init_23 ?_
  refine a_iconst (pc := 24) (1 : Int32) (by decide) d_CA_init_24 ?_
  refine a_iconst (pc := 25) (-1 : Int32) (by decide) d_CA_init_25 ?_
  refine a_iast (pc := 26) (i := L + 6) (ap_g hL rfl) (vp_in_nI (n := 1) (N := 2) (by decide) (by decide)) d_CA_init_26 ?_
  show Ax g m_CA_init 12 12208 _ (P ++ [.inl (1, [(3, 0), (2, (L + 1)), (3, 0), (3, 0), (3, 0)]), .inl (8, [(0, 0), (0, 0), (0, 0), (0, 0), (0, 0), (0, 0), (0, 0), (0, 0), (0, 0), (0, 0), (0, 0), (2, (L + 2)), (2, (L + 3)), (2, (L + 4)), (2, (L + 5))]), .inr (0, 64, []), .inr (0, 3, []), .inr (0, 8, []), .inr (0, 8, []), .inr (0, 2, [])]) (sai (sai (F_SA_init (σ) (L + 1)) (L + 6) 0 (-1 : Int32)) (L + 6) 1 (-1 : Int32)) 6 100 27 [(0, .ref (gB g + L)), (1, .ref (gB g + ro))] [.ref (gB g + (L + 6)), .ref (gB g + L)]
  refine a_putF (pc := 27) (i := L + 0) (r := (L + 6)) fp_CA_18 (Or.inr ⟨_, rfl⟩) rfl rfl (ap_g hL rfl) rfl d_CA_init_27 ?_
  rw [ap_s hL]
  show Ax g m_CA_init 12 12208 _ (P ++ [.inl (1, [(3, 0), (2, (L + 1)), (2, (L + 6)), (3, 0), (3, 0)]), .inl (8, [(0, 0), (0, 0), (0, 0), (0, 0), (0, 0), (0, 0), (0, 0), (0, 0), (0, 0), (0, 0), (0, 0), (2, (L + 2)), (2, (L + 3)), (2, (L + 4)), (2, (L + 5))]), .inr (0, 64, []), .inr (0, 3, []), .inr (0, 8, []), .inr (0, 8, []), .inr (0, 2, [])]) (sai (sai (F_SA_init (σ) (L + 1)) (L + 6) 0 (-1 : Int32)) (L + 6) 1 (-1 : Int32)) 6 100 30 [(0, .ref (gB g + L)), (1, .ref (gB g + ro))] []
  refine a_aload_n (pc := 30) 0 rfl rfl d_CA_init_30 ?_
  refine a_iconst (pc := 31) (2 : Int32) (by decide) d_CA_init_31 ?_
  refine a_newi (pc := 32) (atype := .int) (kd := 0) (N := 2) rfl (Or.inl ⟨rfl, rfl⟩) tw54 (by rw [ap_n hL]; show zro _ (L + 7); exact (zro_sai (by omega) (zro_sai (by omega) (zf_SA_init (by omega) (hz _ (by omega)))))) (by decide) (by decide) (by decide) (Nat.le_of_ble_eq_true rfl) (Nat.le_of_ble_eq_true rfl) d_CA_init_32 ?_
  rw [ap_n hL, List.append_assoc]
  show Ax g m_CA_init 12 12208 _ (P ++ [.inl (1, [(3, 0), (2, (L + 1)), (2, (L + 6)), (3, 0), (3, 0)]), .inl (8, [(0, 0), (0, 0), (0, 0), (0, 0), (0, 0), (0, 0), (0, 0), (0, 0), (0, 0), (0, 0), (0, 0), (2, (L + 2)), (2, (L + 3)), (2, (L + 4)), (2, (L + 5))]), .inr (0, 64, []), .inr (0, 3, []), .inr (0, 8, []), .inr (0, 8, []), .inr (0, 2, []), .inr (0, 2, [])]) (sai (sai (F_SA_init (σ) (L + 1)) (L + 6) 0 (-1 : Int32)) (L + 6) 1 (-1 : Int32)) 7 102 34 [(0, .ref (gB g + L)), (1, .ref (gB g + ro))] [.ref (gB g + (L + 7)), .ref (gB g + L)]
  refine a_putF (pc := 34) (i := L + 0) (r := (L + 7)) fp_CA_22 (Or.inr ⟨_, rfl⟩) rfl rfl (ap_g hL rfl) rfl d_CA_init_34 ?_
  rw [ap_s hL]
  show Ax g m_CA_init 12 12208 _ (P ++ [.inl (1, [(3, 0), (2, (L + 1)), (2, (L + 6)), (2, (L + 7)), (3, 0)]), .inl (8, [(0, 0), (0, 0), (0, 0), (0, 0), (0, 0), (0, 0), (0, 0), (0, 0), (0, 0), (0, 0), (0, 0), (2, (L + 2)), (2, (L + 3)), (2, (L + 4)), (2, (L + 5))]), .inr (0, 64, []), .inr (0, 3, []), .inr (0, 8, []), .inr (0, 8, []), .inr (0, 2, []), .inr (0, 2, [])]) (sai (sai (F_SA_init (σ) (L + 1)) (L + 6) 0 (-1 : Int32)) (L + 6) 1 (-1 : Int32)) 7 102 37 [(0, .ref (gB g + L)), (1, .ref (gB g + ro))] []
  refine a_aload_n (pc := 37) 0 rfl rfl d_CA_init_37 ?_
  refine a_iconst (pc := 38) (2 : Int32) (by decide) d_CA_init_38 ?_
  refine a_newi (pc := 39) (atype := .int) (kd := 0) (N := 2) rfl (Or.inl ⟨rfl, rfl⟩) tw54 (by rw [ap_n hL]; show zro _ (L + 8); exact (zro_sai (by omega) (zro_sai (by omega) (zf_SA_init (by omega) (hz _ (by omega)))))) (by decide) (by decide) (by decide) (Nat.le_of_ble_eq_true rfl) (Nat.le_of_ble_eq_true rfl) d_CA_init_39 ?_
  rw [ap_n hL, List.append_assoc]
  show Ax g m_CA_init 12 12208 _ (P ++ [.inl (1, [(3, 0), (2, (L + 1)), (2, (L + 6)), (2, (L + 7)), (3, 0)]), .inl (8, [(0, 0), (0, 0), (0, 0), (0, 0), (0, 0), (0, 0), (0, 0), (0, 0), (0, 0), (0, 0), (0, 0), (2, (L + 2)), (2, (L + 3)), (2, (L + 4)), (2, (L + 5))]), .inr (0, 64, []), .inr (0, 3, []), .inr (0, 8, []), .inr (0, 8, []), .inr (0, 2, []), .inr (0, 2, []), .inr (0, 2, [])]) (sai (sai (F_SA_init (σ) (L + 1)) (L + 6) 0 (-1 : Int32)) (L + 6) 1 (-1 : Int32)) 8 104 41 [(0, .ref (gB g + L)), (1, .ref (gB g + ro))] [.ref (gB g + (L + 8)), .ref (gB g + L)]
  refine a_putF (pc := 41) (i := L + 0) (r := (L + 8)) fp_CA_25 (Or.inr ⟨_, rfl⟩) rfl rfl (ap_g hL rfl) rfl d_CA_init_41 ?_
  rw [ap_s hL]
  show Ax g m_CA_init 12 12208 _ (P ++ [.inl (1, [(3, 0), (2, (L + 1)), (2, (L + 6)), (2, (L + 7)), (2, (L + 8))]), .inl (8, [(0, 0), (0, 0), (0, 0), (0, 0), (0, 0), (0, 0), (0, 0), (0, 0), (0, 0), (0, 0), (0, 0), (2, (L + 2)), (2, (L + 3)), (2, (L + 4)), (2, (L + 5))]), .inr (0, 64, []), .inr (0, 3, []), .inr (0, 8, []), .inr (0, 8, []), .inr (0, 2, []), .inr (0, 2, []), .inr (0, 2, [])]) (sai (sai (F_SA_init (σ) (L + 1)) (L + 6) 0 (-1 : Int32)) (L + 6) 1 (-1 : Int32)) 8 104 44 [(0, .ref (gB g + L)), (1, .ref (gB g + ro))] []
  refine a_aload_n (pc := 44) 0 rfl rfl d_CA_init_44 ?_
  refine a_newo (pc := 45) (ci := 7) (N := 8) tyX7 rfl uw7 tyX7_ok (by decide) tw291 tw252 tw9 (by rw [ap_n hL]; show zro _ (L + 9); exact (zro_sai (by omega) (zro_sai (by omega) (zf_SA_init (by omega) (hz _ (by omega)))))) (Nat.le_of_ble_eq_true rfl) (Nat.le_of_ble_eq_true rfl) d_CA_init_45 ?_
  rw [ap_n hL, List.append_assoc]
  show Ax g m_CA_init 12 12208 _ (P ++ [.inl (1, [(3, 0), (2, (L + 1)), (2, (L + 6)), (2, (L + 7)), (2, (L + 8))]), .inl (8, [(0, 0), (0, 0), (0, 0), (0, 0), (0, 0), (0, 0), (0, 0), (0, 0), (0, 0), (0, 0), (0, 0), (2, (L + 2)), (2, (L + 3)), (2, (L + 4)), (2, (L + 5))]), .inr (0, 64, []), .inr (0, 3, []), .inr (0, 8, []), .inr (0, 8, []), .inr (0, 2, []), .inr (0, 2, []), .inr (0, 2, []), .inl (7, [(3, 0), (3, 0), (3, 0), (3, 0), (0, 0), (0, 0), (0, 0), (0, 0)])]) (sai (sai (F_SA_init (σ) (L + 1)) (L + 6) 0 (-1 : Int32)) (L + 6) 1 (-1 : Int32)) 9 112 48 [(0, .ref (gB g + L)), (1, .ref (gB g + ro))] [.ref (gB g + (L + 9)), .ref (gB g + L)]
  refine a_dup (pc := 48) rfl d_CA_init_48 ?_
  refine a_aload_n (pc := 49) 1 rfl rfl d_CA_init_49 ?_
  refine a_callI (a := 1) (pc := 50) (M' := m_SE_init) (i := gB g + (L + 9)) (As := [.ref (gB g + ro)]) (st := [.ref (gB g + (L + 9)), .ref (gB g + L)]) (mc' := 3) (ms' := 12096) tw292 tw254 tw9 tw255 rfl rfl (by decide +kernel) rfl (by decide) (by decide) rfl (Nat.le_of_ble_eq_true rfl) (Nat.le_of_ble_eq_true rfl) (Nat.le_of_ble_eq_true rfl) d_CA_init_50 (by have q := cc_SE_init (g := g) (P := P ++ [.inl (1, [(3, 0), (2, (L + 1)), (2, (L + 6)), (2, (L + 7)), (2, (L + 8))]), .inl (8, [(0, 0), (0, 0), (0, 0), (0, 0), (0, 0), (0, 0), (0, 0), (0, 0), (0, 0), (0, 0), (0, 0), (2, (L + 2)), (2, (L + 3)), (2, (L + 4)), (2, (L + 5))]), .inr (0, 64, []), .inr (0, 3, []), .inr (0, 8, []), .inr (0, 8, []), .inr (0, 2, []), .inr (0, 2, []), .inr (0, 2, [])]) (L := L + 9) (ro := ro) (σ := sai (sai (F_SA_init (σ) (L + 1)) (L + 6) 0 (-1 : Int32)) (L + 6) 1 (-1 : Int32)) (ap_n hL) (fun i hi => (zro_sai (by omega) (zro_sai (by omega) (zf_SA_init (by omega) (hz _ (by omega)))))); rw [List.append_assoc] at q; exact q) ?_
  rintro _ _ s' ⟨rfl, rfl, hs⟩ -
  rw [hs]
  rw [List.append_assoc]
  show Ax g m_CA_init 12 12208 _ (P ++ [.inl (1, [(3, 0), (2, (L + 1)), (2, (L + 6)), (2, (L + 7)), (2, (L + 8))]), .inl (8, [(0, 0), (0, 0), (0, 0), (0, 0), (0, 0), (0, 0), (0, 0), (0, 0), (0, 0), (0, 0), (0, 0), (2, (L + 2)), (2, (L + 3)), (2, (L + 4)), (2, (L + 5))]), .inr (0, 64, []), .inr (0, 3, []), .inr (0, 8, []), .inr (0, 8, []), .inr (0, 2, []), .inr (0, 2, []), .inr (0, 2, []), .inl (7, [(2, ro), (2, (L + 10)), (2, (L + 11)), (2, (L + 12)), (0, 0), (0, 0), (0, 0), (0, 0)]), .inr (0, 4000, []), .inr (0, 4000, []), .inr (1, 4096, [])]) (F_SE_init (sai (sai (F_SA_init (σ) (L + 1)) (L + 6) 0 (-1 : Int32)) (L + 6) 1 (-1 : Int32)) (L + 9)) 12 12208 53 [(0, .ref (gB g + L)), (1, .ref (gB g + ro))] [.ref (gB g + (L + 9)), .ref (gB g + L)]
  refine a_putF (pc := 53) (i := L + 0) (r := (L + 9)) fp_CA_33 (Or.inl ⟨_, rfl⟩) rfl rfl (ap_g hL rfl) rfl d_CA_init_53 ?_
  rw [ap_s hL]
  show Ax g m_CA_init 12 12208 _ (P ++ [.inl (1, [(2, (L + 9)), (2, (L + 1)), (2, (L + 6)), (2, (L + 7)), (2, (L + 8))]), .inl (8, [(0, 0), (0, 0), (0, 0), (0, 0), (0, 0), (0, 0), (0, 0), (0, 0), (0, 0), (0, 0), (0, 0), (2, (L + 2)), (2, (L + 3)), (2, (L + 4)), (2, (L + 5))]), .inr (0, 64, []), .inr (0, 3, []), .inr (0, 8, []), .inr (0, 8, []), .inr (0, 2, []), .inr (0, 2, []), .inr (0, 2, []), .inl (7, [(2, ro), (2, (L + 10)), (2, (L + 11)), (2, (L + 12)), (0, 0), (0, 0), (0, 0), (0, 0)]), .inr (0, 4000, []), .inr (0, 4000, []), .inr (1, 4096, [])]) (F_SE_init (sai (sai (F_SA_init (σ) (L + 1)) (L + 6) 0 (-1 : Int32)) (L + 6) 1 (-1 : Int32)) (L + 9)) 12 12208 56 [(0, .ref (gB g + L)), (1, .ref (gB g + ro))] []
  exact a_vret (pc := 56) rfl (by simp [List.length_append] <;> omega) rfl (Nat.le_refl _) d_CA_init_56 ⟨rfl, rfl, rfl⟩
theorem d_PA_init_0 : decode c_PA_init 0 = .ok (.aload_n 0, 1) := by decide +kernel
theorem d_PA_init_1 : decode c_PA_init 1 = .ok (.invokespecial 3, 3) := by decide +kernel
theorem d_PA_init_4 : decode c_PA_init 4 = .ok (.aload_n 0, 1) := by decide +kernel
theorem d_PA_init_5 : decode c_PA_init 5 = .ok (.bipush 36, 2) := by decide +kernel
theorem d_PA_init_7 : decode c_PA_init 7 = .ok (.newarray .int, 2) := by decide +kernel
theorem d_PA_init_9 : decode c_PA_init 9 = .ok (.putfield 11, 3) := by decide +kernel
theorem d_PA_init_12 : decode c_PA_init 12 = .ok (.aload_n 0, 1) := by decide +kernel
theorem d_PA_init_13 : decode c_PA_init 13 = .ok (.sipush 16384, 3) := by decide +kernel
theorem d_PA_init_16 : decode c_PA_init 16 = .ok (.newarray .int, 2) := by decide +kernel
theorem d_PA_init_18 : decode c_PA_init 18 = .ok (.putfield 17, 3) := by decide +kernel
theorem d_PA_init_21 : decode c_PA_init 21 = .ok (.aload_n 0, 1) := by decide +kernel
theorem d_PA_init_22 : decode c_PA_init 22 = .ok (.sipush 4096, 3) := by decide +kernel
theorem d_PA_init_25 : decode c_PA_init 25 = .ok (.newarray .int, 2) := by decide +kernel
theorem d_PA_init_27 : decode c_PA_init 27 = .ok (.putfield 20, 3) := by decide +kernel
theorem d_PA_init_30 : decode c_PA_init 30 = .ok (.aload_n 0, 1) := by decide +kernel
theorem d_PA_init_31 : decode c_PA_init 31 = .ok (.sipush 1369, 3) := by decide +kernel
theorem d_PA_init_34 : decode c_PA_init 34 = .ok (.newarray .int, 2) := by decide +kernel
theorem d_PA_init_36 : decode c_PA_init 36 = .ok (.putfield 23, 3) := by decide +kernel
theorem d_PA_init_39 : decode c_PA_init 39 = .ok (.aload_n 0, 1) := by decide +kernel
theorem d_PA_init_40 : decode c_PA_init 40 = .ok (.sipush 4096, 3) := by decide +kernel
theorem d_PA_init_43 : decode c_PA_init 43 = .ok (.newarray .int, 2) := by decide +kernel
theorem d_PA_init_45 : decode c_PA_init 45 = .ok (.putfield 26, 3) := by decide +kernel
theorem d_PA_init_48 : decode c_PA_init 48 = .ok (.aload_n 0, 1) := by decide +kernel
theorem d_PA_init_49 : decode c_PA_init 49 = .ok (.sipush 8820, 3) := by decide +kernel
theorem d_PA_init_52 : decode c_PA_init 52 = .ok (.newarray .int, 2) := by decide +kernel
theorem d_PA_init_54 : decode c_PA_init 54 = .ok (.putfield 29, 3) := by decide +kernel
theorem d_PA_init_57 : decode c_PA_init 57 = .ok (.aload_n 0, 1) := by decide +kernel
theorem d_PA_init_58 : decode c_PA_init 58 = .ok (.bipush 7, 2) := by decide +kernel
theorem d_PA_init_60 : decode c_PA_init 60 = .ok (.newarray .int, 2) := by decide +kernel
theorem d_PA_init_62 : decode c_PA_init 62 = .ok (.putfield 32, 3) := by decide +kernel
theorem d_PA_init_65 : decode c_PA_init 65 = .ok (.aload_n 0, 1) := by decide +kernel
theorem d_PA_init_66 : decode c_PA_init 66 = .ok (.bipush 7, 2) := by decide +kernel
theorem d_PA_init_68 : decode c_PA_init 68 = .ok (.newarray .int, 2) := by decide +kernel
theorem d_PA_init_70 : decode c_PA_init 70 = .ok (.putfield 35, 3) := by decide +kernel
theorem d_PA_init_73 : decode c_PA_init 73 = .ok (.aload_n 0, 1) := by decide +kernel
theorem d_PA_init_74 : decode c_PA_init 74 = .ok (.iconst (-1), 1) := by decide +kernel
theorem d_PA_init_75 : decode c_PA_init 75 = .ok (.putfield 38, 3) := by decide +kernel
theorem d_PA_init_78 : decode c_PA_init 78 = .ok (.aload_n 0, 1) := by decide +kernel
theorem d_PA_init_79 : decode c_PA_init 79 = .ok (.aload_n 1, 1) := by decide +kernel
theorem d_PA_init_80 : decode c_PA_init 80 = .ok (.putfield 42, 3) := by decide +kernel
theorem d_PA_init_83 : decode c_PA_init 83 = .ok (.return_, 1) := by decide +kernel
def F_PA_init (σ : St) (L : Nat) : St := sfi (σ) L 11 (-1 : Int32)
theorem zf_PA_init {σ : St} {L j : Nat} (hj : L + 9 ≤ j) (h : zro σ j) : zro (F_PA_init σ L) j := (zro_sfi (by omega) h)
set_option maxRecDepth 20000 in
set_option maxHeartbeats 2000000 in
theorem cc_PA_init {g : Gx} {P : List Sh} {L : Nat} {ro : Nat} {σ : St} (hL : P.length = L) (hz : ∀ i, L < i → zro σ i) : Cx g m_PA_init [.ref (gB g + L), .ref (gB g + ro)] (P ++ [.inl (3, [(3, 0), (3, 0), (3, 0), (3, 0), (3, 0), (3, 0), (3, 0), (3, 0), (3, 0), (0, 0), (0, 0), (0, 0), (0, 0), (0, 0), (0, 0), (0, 0)])]) σ 8 34815 (fun r sh σ' => r = none ∧ sh = P ++ [.inl (3, [(2, ro), (2, (L + 1)), (2, (L + 2)), (2, (L + 3)), (2, (L + 4)), (2, (L + 5)), (2, (L + 6)), (2, (L + 7)), (2, (L + 8)), (0, 0), (0, 0), (0, 0), (0, 0), (0, 0), (0, 0), (0, 0)]), .inr (0, 36, []), .inr (0, 16384, []), .inr (0, 4096, []), .inr (0, 1369, []), .inr (0, 4096, []), .inr (0, 8820, []), .inr (0, 7, []), .inr (0, 7, [])] ∧ σ' = F_PA_init σ L) := by
  refine Cx.of (show plainName "BallBox$Pairs" = true by decide) (Nat.le_of_ble_eq_true rfl) ?_
  show Ax g m_PA_init 8 34815 _ (P ++ [.inl (3, [(3, 0), (3, 0), (3, 0), (3, 0), (3, 0), (3, 0), (3, 0), (3, 0), (3, 0), (0, 0), (0, 0), (0, 0), (0, 0), (0, 0), (0, 0), (0, 0)])]) σ 0 0 0 [(0, .ref (gB g + L)), (1, .ref (gB g + ro))] []
  refine a_aload_n (pc := 0) 0 rfl rfl d_PA_init_0 ?_
  refine a_objI (pc := 1) tw314 tw28 tw29 (by decide) (Nat.le_of_ble_eq_true rfl) d_PA_init_1 ?_
  refine a_aload_n (pc := 4) 0 rfl rfl d_PA_init_4 ?_
  refine a_bipush (pc := 5) (36 : Int32) (by decide) d_PA_init_5 ?_
  refine a_newi (pc := 7) (atype := .int) (kd := 0) (N := 36) rfl (Or.inl ⟨rfl, rfl⟩) tw54 (by rw [ap_n hL]; show zro _ (L + 1); exact (hz _ (by omega))) (by decide) (by decide) (by decide) (Nat.le_of_ble_eq_true rfl) (Nat.le_of_ble_eq_true rfl) d_PA_init_7 ?_
  rw [ap_n hL, List.append_assoc]
  show Ax g m_PA_init 8 34815 _ (P ++ [.inl (3, [(3, 0), (3, 0), (3, 0), (3, 0), (3, 0), (3, 0), (3, 0), (3, 0), (3, 0), (0, 0), (0, 0), (0, 0), (0, 0), (0, 0), (0, 0), (0, 0)]), .inr (0, 36, [])]) (σ) 1 36 9 [(0, .ref (gB g + L)), (1, .ref (gB g + ro))] [.ref (gB g + (L + 1)), .ref (gB g + L)]
  refine a_putF (pc := 9) (i := L + 0) (r := (L + 1)) fp_PA_11 (Or.inr ⟨_, rfl⟩) rfl rfl (ap_g hL rfl) rfl d_PA_init_9 ?_
  rw [ap_s hL]
  show Ax g m_PA_init 8 34815 _ (P ++ [.inl (3, [(3, 0), (2, (L + 1)), (3, 0), (3, 0), (3, 0), (3, 0), (3, 0), (3, 0), (3, 0), (0, 0), (0, 0), (0, 0), (0, 0), (0, 0), (0, 0), (0, 0)]), .inr (0, 36, [])]) (σ) 1 36 12 [(0, .ref (gB g + L)), (1, .ref (gB g + ro))] []
  refine a_aload_n (pc := 12) 0 rfl rfl d_PA_init_12 ?_
  refine a_sipush (pc := 13) (16384 : Int32) (by decide) d_PA_init_13 ?_
  refine a_newi (pc := 16) (atype := .int) (kd := 0) (N := 16384) rfl (Or.inl ⟨rfl, rfl⟩) tw54 (by rw [ap_n hL]; show zro _ (L + 2); exact (hz _ (by omega))) (by decide) (by decide) (by decide) (Nat.le_of_ble_eq_true rfl) (Nat.le_of_ble_eq_true rfl) d_PA_init_16 ?_
  rw [ap_n hL, List.append_assoc]
  show Ax g m_PA_init 8 34815 _ (P ++ [.inl (3, [(3, 0), (2, (L + 1)), (3, 0), (3, 0), (3, 0), (3, 0), (3, 0), (3, 0), (3, 0), (0, 0), (0, 0), (0, 0), (0, 0), (0, 0), (0, 0), (0, 0)]), .inr (0, 36, []), .inr (0, 16384, [])]) (σ) 2 16420 18 [(0, .ref (gB g + L)), (1, .ref (gB g + ro))] [.ref (gB g + (L + 2)), .ref (gB g + L)]
  refine a_putF (pc := 18) (i := L + 0) (r := (L + 2)) fp_PA_17 (Or.inr ⟨_, rfl⟩) rfl rfl (ap_g hL rfl) rfl d_PA_init_18 ?_
  rw [ap_s hL]
  show Ax g m_PA_init 8 34815 _ (P ++ [.inl (3, [(3, 0), (2, (L + 1)), (2, (L + 2)), (3, 0), (3, 0), (3, 0), (3, 0), (3, 0), (3, 0), (0, 0), (0, 0), (0, 0), (0, 0), (0, 0), (0, 0), (0, 0)]), .inr (0, 36, []), .inr (0, 16384, [])]) (σ) 2 16420 21 [(0, .ref (gB g + L)), (1, .ref (gB g + ro))] []
  refine a_aload_n (pc := 21) 0 rfl rfl d_PA_init_21 ?_
  refine a_sipush (pc := 22) (4096 : Int32) (by decide) d_PA_init_22 ?_
  refine a_newi (pc := 25) (atype := .int) (kd := 0) (N := 4096) rfl (Or.inl ⟨rfl, rfl⟩) tw54 (by rw [ap_n hL]; show zro _ (L + 3); exact (hz _ (by omega))) (by decide) (by decide) (by decide) (Nat.le_of_ble_eq_true rfl) (Nat.le_of_ble_eq_true rfl) d_PA_init_25 ?_
  rw [ap_n hL, List.append_assoc]
  show Ax g m_PA_init 8 34815 _ (P ++ [.inl (3, [(3, 0), (2, (L + 1)), (2, (L + 2)), (3, 0), (3, 0), (3, 0), (3, 0), (3, 0), (3, 0), (0, 0), (0, 0), (0, 0), (0, 0), (0, 0), (0, 0), (0, 0)]), .inr (0, 36, []), .inr (0, 16384, []), .inr (0, 4096, [])]) (σ) 3 20516 27 [(0, .ref (gB g + L)), (1, .ref (gB g + ro))] [.ref (gB g + (L + 3)), .ref (gB g + L)]
  refine a_putF (pc := 27) (i := L + 0) (r := (L + 3)) fp_PA_20 (Or.inr ⟨_, rfl⟩) rfl rfl (ap_g hL rfl) rfl d_PA_init_27 ?_
  rw [ap_s hL]
  show Ax g m_PA_init 8 34815 _ (P ++ [.inl (3, [(3, 0), (2, (L + 1)), (2, (L + 2)), (2, (L + 3)), (3, 0), (3, 0), (3, 0), (3, 0), (3, 0), (0, 0), (0, 0), (0, 0), (0, 0), (0, 0), (0, 0), (0, 0)]), .inr (0, 36, []), .inr (0, 16384, []), .inr (0, 4096, [])]) (σ) 3 20516 30 [(0, .ref (gB g + L)), (1, .ref (gB g + ro))] []
  refine a_aload_n (pc := 30) 0 rfl rfl d_PA_init_30 ?_
  refine a_sipush (pc := 31) (1369 : Int32) (by decide) d_PA_init_31 ?_
  refine a_newi (pc := 34) (atype := .int) (kd := 0) (N := 1369) rfl (Or.inl ⟨rfl, rfl⟩) tw54 (by rw [ap_n hL]; show zro _ (L + 4); exact (hz _ (by omega))) (by decide) (by decide) (by decide) (Nat.le_of_ble_eq_true rfl) (Nat.le_of_ble_eq_true rfl) d_PA_init_34 ?_
  rw [ap_n hL, List.append_assoc]
  show Ax g m_PA_init 8 34815 _ (P ++ [.inl (3, [(3, 0), (2, (L + 1)), (2, (L + 2)), (2, (L + 3)), (3, 0), (3, 0), (3, 0), (3, 0), (3, 0), (0, 0), (0, 0), (0, 0), (0, 0), (0, 0), (0, 0), (0, 0)]), .inr (0, 36, []), .inr (0, 16384, []), .inr (0, 4096, []), .inr (0, 1369, [])]) (σ) 4 21885 36 [(0, .ref (gB g + L)), (1, .ref (gB g + ro))] [.ref (gB g + (L + 4)), .ref (gB g + L)]
  refine a_putF (pc := 36) (i := L + 0) (r := (L + 4)) fp_PA_23 (Or.inr ⟨_, rfl⟩) rfl rfl (ap_g hL rfl) rfl d_PA_init_36 ?_
  rw [ap_s hL]
  show Ax g m_PA_init 8 34815 _ (P ++ [.inl (3, [(3, 0), (2, (L + 1)), (2, (L + 2)), (2, (L + 3)), (2, (L + 4)), (3, 0), (3, 0), (3, 0), (3, 0), (0, 0), (0, 0), (0, 0), (0, 0), (0, 0), (0, 0), (0, 0)]), .inr (0, 36, []), .inr (0, 16384, []), .inr (0, 4096, []), .inr (0, 1369, [])]) (σ) 4 21885 39 [(0, .ref (gB g + L)), (1, .ref (gB g + ro))] []
  refine a_aload_n (pc := 39) 0 rfl rfl d_PA_init_39 ?_
  refine a_sipush (pc := 40) (4096 : Int32) (by decide) d_PA_init_40 ?_
  refine a_newi (pc := 43) (atype := .int) (kd := 0) (N := 4096) rfl (Or.inl ⟨rfl, rfl⟩) tw54 (by rw [ap_n hL]; show zro _ (L + 5); exact (hz _ (by omega))) (by decide) (by decide) (by decide) (Nat.le_of_ble_eq_true rfl) (Nat.le_of_ble_eq_true rfl) d_PA_init_43 ?_
  rw [ap_n hL, List.append_assoc]
  show Ax g m_PA_init 8 34815 _ (P ++ [.inl (3, [(3, 0), (2, (L + 1)), (2, (L + 2)), (2, (L + 3)), (2, (L + 4)), (3, 0), (3, 0), (3, 0), (3, 0), (0, 0), (0, 0), (0, 0), (0, 0), (0, 0), (0, 0), (0, 0)]), .inr (0, 36, []), .inr (0, 16384, []), .inr (0, 4096, []), .inr (0, 1369, []), .inr (0, 4096, [])]) (σ) 5 25981 45 [(0, .ref (gB g + L)), (1, .ref (gB g + ro))] [.ref (gB g + (L + 5)), .ref (gB g + L)]
  refine a_putF (pc := 45) (i := L + 0) (r := (L + 5)) fp_PA_26 (Or.inr ⟨_, rfl⟩) rfl rfl (ap_g hL rfl) rfl d_PA_init_45 ?_
  rw [ap_s hL]
  show Ax g m_PA_init 8 34815 _ (P ++ [.inl (3, [(3, 0), (2, (L + 1)), (2, (L + 2)), (2, (L + 3)), (2, (L + 4)), (2, (L + 5)), (3, 0), (3, 0), (3, 0), (0, 0), (0, 0), (0, 0), (0, 0), (0, 0), (0, 0), (0, 0)]), .inr (0, 36, []), .inr (0, 16384, []), .inr (0, 4096, []), .inr (0, 1369, []), .inr (0, 4096, [])]) (σ) 5 25981 48 [(0, .ref (gB g + L)), (1, .ref (gB g + ro))] []
  refine a_aload_n (pc := 48) 0 rfl rfl d_PA_init_48 ?_
  refine a_sipush (pc := 49) (8820 : Int32) (by decide) d_PA_init_49 ?_
  refine a_newi (pc := 52) (atype := .int) (kd := 0) (N := 8820) rfl (Or.inl ⟨rfl, rfl⟩) tw54 (by rw [ap_n hL]; show zro _ (L + 6); exact (hz _ (by omega))) (by decide) (by decide) (by decide) (Nat.le_of_ble_eq_true rfl) (Nat.le_of_ble_eq_true rfl) d_PA_init_52 ?_
  rw [ap_n hL, List.append_assoc]
  show Ax g m_PA_init 8 34815 _ (P ++ [.inl (3, [(3, 0), (2, (L + 1)), (2, (L + 2)), (2, (L + 3)), (2, (L + 4)), (2, (L + 5)), (3, 0), (3, 0), (3, 0), (0, 0), (0, 0), (0, 0), (0, 0), (0, 0), (0, 0), (0, 0)]), .inr (0, 36, []), .inr (0, 16384, []), .inr (0, 4096, []), .inr (0, 1369, []), .inr (0, 4096, []), .inr (0, 8820, [])]) (σ) 6 34801 54 [(0, .ref (gB g + L)), (1, .ref (gB g + ro))] [.ref (gB g + (L + 6)), .ref (gB g + L)]
  refine a_putF (pc := 54) (i := L + 0) (r := (L + 6)) fp_PA_29 (Or.inr ⟨_, rfl⟩) rfl rfl (ap_g hL rfl) rfl d_PA_init_54 ?_
  rw [ap_s hL]
  show Ax g m_PA_init 8 34815 _ (P ++ [.inl (3, [(3, 0), (2, (L + 1)), (2, (L + 2)), (2, (L + 3)), (2, (L + 4)), (2, (L + 5)), (2, (L + 6)), (3, 0), (3, 0), (0, 0), (0, 0), (0, 0), (0, 0), (0, 0), (0, 0), (0, 0)]), .inr (0, 36, []), .inr (0, 16384, []), .inr (0, 4096, []), .inr (0, 1369, []), .inr (0, 4096, []), .inr (0, 8820, [])]) (σ) 6 34801 57 [(0, .ref (gB g + L)), (1, .ref (gB g + ro))] []
  refine a_aload_n (pc := 57) 0 rfl rfl d_PA_init_57 ?_
  refine a_bipush (pc := 58) (7 : Int32) (by decide) d_PA_init_58 ?_
  refine a_newi (pc := 60) (atype := .int) (kd := 0) (N := 7) rfl (Or.inl ⟨rfl, rfl⟩) tw54 (by rw [ap_n hL]; show zro _ (L + 7); exact (hz _ (by omega))) (by decide) (by decide) (by decide) (Nat.le_of_ble_eq_true rfl) (Nat.le_of_ble_eq_true rfl) d_PA_init_60 ?_
  rw [ap_n hL, List.append_assoc]
  show Ax g m_PA_init 8 34815 _ (P ++ [.inl (3, [(3, 0), (2, (L + 1)), (2, (L + 2)), (2, (L + 3)), (2, (L + 4)), (2, (L + 5)), (2, (L + 6)), (3, 0), (3, 0), (0, 0), (0, 0), (0, 0), (0, 0), (0, 0), (0, 0), (0, 0)]), .inr (0, 36, []), .inr (0, 16384, []), .inr (0, 4096, []), .inr (0, 1369, []), .inr (0, 4096, []), .inr (0, 8820, []), .inr (0, 7, [])]) (σ) 7 34808 62 [(0, .ref (gB g + L)), (1, .ref (gB g + ro))] [.ref (gB g + (L + 7)), .ref (gB g + L)]
  refine a_putF (pc := 62) (i := L + 0) (r := (L + 7)) fp_PA_32 (Or.inr ⟨_, rfl⟩) rfl rfl (ap_g hL rfl) rfl d_PA_init_62 ?_
  rw [ap_s hL]
  show Ax g m_PA_init 8 34815 _ (P ++ [.inl (3, [(3, 0), (2, (L + 1)), (2, (L + 2)), (2, (L + 3)), (2, (L + 4)), (2, (L + 5)), (2, (L + 6)), (2, (L + 7)), (3, 0), (0, 0), (0, 0), (0, 0), (0, 0), (0, 0), (0, 0), (0, 0)]), .inr (0, 36, []), .inr (0, 16384, []), .inr (0, 4096, []), .inr (0, 1369, []), .inr (0, 4096, []), .inr (0, 8820, []), .inr (0, 7, [])]) (σ) 7 34808 65 [(0, .ref (gB g + L)), (1, .ref (gB g + ro))] []
  refine a_aload_n (pc := 65) 0 rfl rfl d_PA_init_65 ?_
  refine a_bipush (pc := 66) (7 : Int32) (by decide) d_PA_init_66 ?_
  refine a_newi (pc := 68) (atype := .int) (kd := 0) (N := 7) rfl (Or.inl ⟨rfl, rfl⟩) tw54 (by rw [ap_n hL]; show zro _ (L + 8); exact (hz _ (by omega))) (by decide) (by decide) (by decide) (Nat.le_of_ble_eq_true rfl) (Nat.le_of_ble_eq_true rfl) d_PA_init_68 ?_
  rw [ap_n hL, List.append_assoc]
  show Ax g m_PA_init 8 34815 _ (P ++ [.inl (3, [(3, 0), (2, (L + 1)), (2, (L + 2)), (2, (L + 3)), (2, (L + 4)), (2, (L + 5)), (2, (L + 6)), (2, (L + 7)), (3, 0), (0, 0), (0, 0), (0, 0), (0, 0), (0, 0), (0, 0), (0, 0)]), .inr (0, 36, []), .inr (0, 16384, []), .inr (0, 4096, []), .inr (0, 1369, []), .inr (0, 4096, []), .inr (0, 8820, []), .inr (0, 7, []), .inr (0, 7, [])]) (σ) 8 34815 70 [(0, .ref (gB g + L)), (1, .ref (gB g + ro))] [.ref (gB g + (L + 8)), .ref (gB g + L)]
  refine a_putF (pc := 70) (i := L + 0) (r := (L + 8)) fp_PA_35 (Or.inr ⟨_, rfl⟩) rfl rfl (ap_g hL rfl) rfl d_PA_init_70 ?_
  rw [ap_s hL]
  show Ax g m_PA_init 8 34815 _ (P ++ [.inl (3, [(3, 0), (2, (L + 1)), (2, (L + 2)), (2, (L + 3)), (2, (L + 4)), (2, (L + 5)), (2, (L + 6)), (2, (L + 7)), (2, (L + 8)), (0, 0), (0, 0), (0, 0), (0, 0), (0, 0), (0, 0), (0, 0)]), .inr (0, 36, []), .inr (0, 16384, []), .inr (0, 4096, []), .inr (0, 1369, []), .inr (0, 4096, []), .inr (0, 8820, []), .inr (0, 7, []), .inr (0, 7, [])]) (σ) 8 34815 73 [(0, .ref (gB g + L)), (1, .ref (gB g + ro))] []
  refine a_aload_n (pc := 73) 0 rfl rfl d_PA_init_73 ?_
  refine a_iconst (pc := 74) (-1 : Int32) (by decide) d_PA_init_74 ?_
  refine a_putI (pc := 75) (i := L + 0) fp_PA_38 (ap_g hL rfl) rfl d_PA_init_75 ?_
  show Ax g m_PA_init 8 34815 _ (P ++ [.inl (3, [(3, 0), (2, (L + 1)), (2, (L + 2)), (2, (L + 3)), (2, (L + 4)), (2, (L + 5)), (2, (L + 6)), (2, (L + 7)), (2, (L + 8)), (0, 0), (0, 0), (0, 0), (0, 0), (0, 0), (0, 0), (0, 0)]), .inr (0, 36, []), .inr (0, 16384, []), .inr (0, 4096, []), .inr (0, 1369, []), .inr (0, 4096, []), .inr (0, 8820, []), .inr (0, 7, []), .inr (0, 7, [])]) (sfi (σ) L 11 (-1 : Int32)) 8 34815 78 [(0, .ref (gB g + L)), (1, .ref (gB g + ro))] []
  refine a_aload_n (pc := 78) 0 rfl rfl d_PA_init_78 ?_
  refine a_aload_n (pc := 79) 1 rfl rfl d_PA_init_79 ?_
  refine a_putF (pc := 80) (i := L + 0) (r := ro) fp_PA_42 (Or.inl ⟨_, rfl⟩) rfl rfl (ap_g hL rfl) rfl d_PA_init_80 ?_
  rw [ap_s hL]
  show Ax g m_PA_init 8 34815 _ (P ++ [.inl (3, [(2, ro), (2, (L + 1)), (2, (L + 2)), (2, (L + 3)), (2, (L + 4)), (2, (L + 5)), (2, (L + 6)), (2, (L + 7)), (2, (L + 8)), (0, 0), (0, 0), (0, 0), (0, 0), (0, 0), (0, 0), (0, 0)]), .inr (0, 36, []), .inr (0, 16384, []), .inr (0, 4096, []), .inr (0, 1369, []), .inr (0, 4096, []), .inr (0, 8820, []), .inr (0, 7, []), .inr (0, 7, [])]) (sfi (σ) L 11 (-1 : Int32)) 8 34815 83 [(0, .ref (gB g + L)), (1, .ref (gB g + ro))] []
  exact a_vret (pc := 83) rfl (by simp [List.length_append] <;> omega) rfl (Nat.le_refl _) d_PA_init_83 ⟨rfl, rfl, rfl⟩
theorem d_LI_init_0 : decode c_LI_init 0 = .ok (.aload_n 0, 1) := by decide +kernel
theorem d_LI_init_1 : decode c_LI_init 1 = .ok (.invokespecial 3, 3) := by decide +kernel
theorem d_LI_init_4 : decode c_LI_init 4 = .ok (.aload_n 0, 1) := by decide +kernel
theorem d_LI_init_5 : decode c_LI_init 5 = .ok (.bipush 36, 2) := by decide +kernel
theorem d_LI_init_7 : decode c_LI_init 7 = .ok (.newarray .int, 2) := by decide +kernel
theorem d_LI_init_9 : decode c_LI_init 9 = .ok (.putfield 11, 3) := by decide +kernel
theorem d_LI_init_12 : decode c_LI_init 12 = .ok (.aload_n 0, 1) := by decide +kernel
theorem d_LI_init_13 : decode c_LI_init 13 = .ok (.iconst 3, 1) := by decide +kernel
theorem d_LI_init_14 : decode c_LI_init 14 = .ok (.newarray .long, 2) := by decide +kernel
theorem d_LI_init_16 : decode c_LI_init 16 = .ok (.putfield 17, 3) := by decide +kernel
theorem d_LI_init_19 : decode c_LI_init 19 = .ok (.aload_n 0, 1) := by decide +kernel
theorem d_LI_init_20 : decode c_LI_init 20 = .ok (.bipush 64, 2) := by decide +kernel
theorem d_LI_init_22 : decode c_LI_init 22 = .ok (.newarray .int, 2) := by decide +kernel
theorem d_LI_init_24 : decode c_LI_init 24 = .ok (.putfield 21, 3) := by decide +kernel
theorem d_LI_init_27 : decode c_LI_init 27 = .ok (.aload_n 0, 1) := by decide +kernel
theorem d_LI_init_28 : decode c_LI_init 28 = .ok (.iconst (-1), 1) := by decide +kernel
theorem d_LI_init_29 : decode c_LI_init 29 = .ok (.putfield 24, 3) := by decide +kernel
theorem d_LI_init_32 : decode c_LI_init 32 = .ok (.aload_n 0, 1) := by decide +kernel
theorem d_LI_init_33 : decode c_LI_init 33 = .ok (.aload_n 1, 1) := by decide +kernel
theorem d_LI_init_34 : decode c_LI_init 34 = .ok (.putfield 28, 3) := by decide +kernel
theorem d_LI_init_37 : decode c_LI_init 37 = .ok (.return_, 1) := by decide +kernel
def F_LI_init (σ : St) (L : Nat) : St := sfi (σ) L 4 (-1 : Int32)
theorem zf_LI_init {σ : St} {L j : Nat} (hj : L + 4 ≤ j) (h : zro σ j) : zro (F_LI_init σ L) j := (zro_sfi (by omega) h)
set_option maxRecDepth 20000 in
set_option maxHeartbeats 2000000 in
theorem cc_LI_init {g : Gx} {P : List Sh} {L : Nat} {ro : Nat} {σ : St} (hL : P.length = L) (hz : ∀ i, L < i → zro σ i) : Cx g m_LI_init [.ref (gB g + L), .ref (gB g + ro)] (P ++ [.inl (2, [(3, 0), (3, 0), (3, 0), (3, 0), (0, 0), (0, 0), (0, 0), (0, 0), (0, 0), (0, 0)])]) σ 3 103 (fun r sh σ' => r = none ∧ sh = P ++ [.inl (2, [(2, ro), (2, (L + 1)), (2, (L + 2)), (2, (L + 3)), (0, 0), (0, 0), (0, 0), (0, 0), (0, 0), (0, 0)]), .inr (0, 36, []), .inr (1, 3, []), .inr (0, 64, [])] ∧ σ' = F_LI_init σ L) := by
  refine Cx.of (show plainName "BallBox$Listener" = true by decide) (Nat.le_of_ble_eq_true rfl) ?_
  show Ax g m_LI_init 3 103 _ (P ++ [.inl (2, [(3, 0), (3, 0), (3, 0), (3, 0), (0, 0), (0, 0), (0, 0), (0, 0), (0, 0), (0, 0)])]) σ 0 0 0 [(0, .ref (gB g + L)), (1, .ref (gB g + ro))] []
  refine a_aload_n (pc := 0) 0 rfl rfl d_LI_init_0 ?_
  refine a_objI (pc := 1) tw371 tw28 tw29 (by decide) (Nat.le_of_ble_eq_true rfl) d_LI_init_1 ?_
  refine a_aload_n (pc := 4) 0 rfl rfl d_LI_init_4 ?_
  refine a_bipush (pc := 5) (36 : Int32) (by decide) d_LI_init_5 ?_
  refine a_newi (pc := 7) (atype := .int) (kd := 0) (N := 36) rfl (Or.inl ⟨rfl, rfl⟩) tw54 (by rw [ap_n hL]; show zro _ (L + 1); exact (hz _ (by omega))) (by decide) (by decide) (by decide) (Nat.le_of_ble_eq_true rfl) (Nat.le_of_ble_eq_true rfl) d_LI_init_7 ?_
  rw [ap_n hL, List.append_assoc]
  show Ax g m_LI_init 3 103 _ (P ++ [.inl (2, [(3, 0), (3, 0), (3, 0), (3, 0), (0, 0), (0, 0), (0, 0), (0, 0), (0, 0), (0, 0)]), .inr (0, 36, [])]) (σ) 1 36 9 [(0, .ref (gB g + L)), (1, .ref (gB g + ro))] [.ref (gB g + (L + 1)), .ref (gB g + L)]
  refine a_putF (pc := 9) (i := L + 0) (r := (L + 1)) fp_LI_11 (Or.inr ⟨_, rfl⟩) rfl rfl (ap_g hL rfl) rfl d_LI_init_9 ?_
  rw [ap_s hL]
  show Ax g m_LI_init 3 103 _ (P ++ [.inl (2, [(3, 0), (2, (L + 1)), (3, 0), (3, 0), (0, 0), (0, 0), (0, 0), (0, 0), (0, 0), (0, 0)]), .inr (0, 36, [])]) (σ) 1 36 12 [(0, .ref (gB g + L)), (1, .ref (gB g + ro))] []
  refine a_aload_n (pc := 12) 0 rfl rfl d_LI_init_12 ?_
  refine a_iconst (pc := 13) (3 : Int32) (by decide) d_LI_init_13 ?_
  refine a_newi (pc := 14) (atype := .long) (kd := 1) (N := 3) rfl (Or.inr (Or.inl ⟨rfl, rfl⟩)) tw186 (by rw [ap_n hL]; show zro _ (L + 2); exact (hz _ (by omega))) (by decide) (by decide) (by decide) (Nat.le_of_ble_eq_true rfl) (Nat.le_of_ble_eq_true rfl) d_LI_init_14 ?_
  rw [ap_n hL, List.append_assoc]
  show Ax g m_LI_init 3 103 _ (P ++ [.inl (2, [(3, 0), (2, (L + 1)), (3, 0), (3, 0), (0, 0), (0, 0), (0, 0), (0, 0), (0, 0), (0, 0)]), .inr (0, 36, []), .inr (1, 3, [])]) (σ) 2 39 16 [(0, .ref (gB g + L)), (1, .ref (gB g + ro))] [.ref (gB g + (L + 2)), .ref (gB g + L)]
  refine a_putF (pc := 16) (i := L + 0) (r := (L + 2)) fp_LI_17 (Or.inr ⟨_, rfl⟩) rfl rfl (ap_g hL rfl) rfl d_LI_init_16 ?_
  rw [ap_s hL]
  show Ax g m_LI_init 3 103 _ (P ++ [.inl (2, [(3, 0), (2, (L + 1)), (2, (L + 2)), (3, 0), (0, 0), (0, 0), (0, 0), (0, 0), (0, 0), (0, 0)]), .inr (0, 36, []), .inr (1, 3, [])]) (σ) 2 39 19 [(0, .ref (gB g + L)), (1, .ref (gB g + ro))] []
  refine a_aload_n (pc := 19) 0 rfl rfl d_LI_init_19 ?_
  refine a_bipush (pc := 20) (64 : Int32) (by decide) d_LI_init_20 ?_
  refine a_newi (pc := 22) (atype := .int) (kd := 0) (N := 64) rfl (Or.inl ⟨rfl, rfl⟩) tw54 (by rw [ap_n hL]; show zro _ (L + 3); exact (hz _ (by omega))) (by decide) (by decide) (by decide) (Nat.le_of_ble_eq_true rfl) (Nat.le_of_ble_eq_true rfl) d_LI_init_22 ?_
  rw [ap_n hL, List.append_assoc]
  show Ax g m_LI_init 3 103 _ (P ++ [.inl (2, [(3, 0), (2, (L + 1)), (2, (L + 2)), (3, 0), (0, 0), (0, 0), (0, 0), (0, 0), (0, 0), (0, 0)]), .inr (0, 36, []), .inr (1, 3, []), .inr (0, 64, [])]) (σ) 3 103 24 [(0, .ref (gB g + L)), (1, .ref (gB g + ro))] [.ref (gB g + (L + 3)), .ref (gB g + L)]
  refine a_putF (pc := 24) (i := L + 0) (r := (L + 3)) fp_LI_21 (Or.inr ⟨_, rfl⟩) rfl rfl (ap_g hL rfl) rfl d_LI_init_24 ?_
  rw [ap_s hL]
  show Ax g m_LI_init 3 103 _ (P ++ [.inl (2, [(3, 0), (2, (L + 1)), (2, (L + 2)), (2, (L + 3)), (0, 0), (0, 0), (0, 0), (0, 0), (0, 0), (0, 0)]), .inr (0, 36, []), .inr (1, 3, []), .inr (0, 64, [])]) (σ) 3 103 27 [(0, .ref (gB g + L)), (1, .ref (gB g + ro))] []
  refine a_aload_n (pc := 27) 0 rfl rfl d_LI_init_27 ?_
  refine a_iconst (pc := 28) (-1 : Int32) (by decide) d_LI_init_28 ?_
  refine a_putI (pc := 29) (i := L + 0) fp_LI_24 (ap_g hL rfl) rfl d_LI_init_29 ?_
  show Ax g m_LI_init 3 103 _ (P ++ [.inl (2, [(3, 0), (2, (L + 1)), (2, (L + 2)), (2, (L + 3)), (0, 0), (0, 0), (0, 0), (0, 0), (0, 0), (0, 0)]), .inr (0, 36, []), .inr (1, 3, []), .inr (0, 64, [])]) (sfi (σ) L 4 (-1 : Int32)) 3 103 32 [(0, .ref (gB g + L)), (1, .ref (gB g + ro))] []
  refine a_aload_n (pc := 32) 0 rfl rfl d_LI_init_32 ?_
  refine a_aload_n (pc := 33) 1 rfl rfl d_LI_init_33 ?_
  refine a_putF (pc := 34) (i := L + 0) (r := ro) fp_LI_28 (Or.inl ⟨_, rfl⟩) rfl rfl (ap_g hL rfl) rfl d_LI_init_34 ?_
  rw [ap_s hL]
  show Ax g m_LI_init 3 103 _ (P ++ [.inl (2, [(2, ro), (2, (L + 1)), (2, (L + 2)), (2, (L + 3)), (0, 0), (0, 0), (0, 0), (0, 0), (0, 0), (0, 0)]), .inr (0, 36, []), .inr (1, 3, []), .inr (0, 64, [])]) (sfi (σ) L 4 (-1 : Int32)) 3 103 37 [(0, .ref (gB g + L)), (1, .ref (gB g + ro))] []
  exact a_vret (pc := 37) rfl (by simp [List.length_append] <;> omega) rfl (Nat.le_refl _) d_LI_init_37 ⟨rfl, rfl, rfl⟩
theorem d_TR_init_0 : decode c_TR_init 0 = .ok (.aload_n 0, 1) := by decide +kernel
theorem d_TR_init_1 : decode c_TR_init 1 = .ok (.invokespecial 3, 3) := by decide +kernel
theorem d_TR_init_4 : decode c_TR_init 4 = .ok (.aload_n 0, 1) := by decide +kernel
theorem d_TR_init_5 : decode c_TR_init 5 = .ok (.aload_n 1, 1) := by decide +kernel
theorem d_TR_init_6 : decode c_TR_init 6 = .ok (.putfield 9, 3) := by decide +kernel
theorem d_TR_init_9 : decode c_TR_init 9 = .ok (.return_, 1) := by decide +kernel
def F_TR_init (σ : St) (L : Nat) : St := σ
theorem zf_TR_init {σ : St} {L j : Nat} (hj : L + 1 ≤ j) (h : zro σ j) : zro (F_TR_init σ L) j := h
set_option maxRecDepth 20000 in
set_option maxHeartbeats 2000000 in
theorem cc_TR_init {g : Gx} {P : List Sh} {L : Nat} {ro : Nat} {σ : St} (hL : P.length = L) (hz : ∀ i, L < i → zro σ i) : Cx g m_TR_init [.ref (gB g + L), .ref (gB g + ro)] (P ++ [.inl (10, [(3, 0), (0, 0), (0, 0), (0, 0), (1, 0), (1, 0), (0, 0), (0, 0)])]) σ 0 0 (fun r sh σ' => r = none ∧ sh = P ++ [.inl (10, [(2, ro), (0, 0), (0, 0), (0, 0), (1, 0), (1, 0), (0, 0), (0, 0)])] ∧ σ' = F_TR_init σ L) := by
  refine Cx.of (show plainName "BallBox$Trial" = true by decide) (Nat.le_of_ble_eq_true rfl) ?_
  show Ax g m_TR_init 0 0 _ (P ++ [.inl (10, [(3, 0), (0, 0), (0, 0), (0, 0), (1, 0), (1, 0), (0, 0), (0, 0)])]) σ 0 0 0 [(0, .ref (gB g + L)), (1, .ref (gB g + ro))] []
  refine a_aload_n (pc := 0) 0 rfl rfl d_TR_init_0 ?_
  refine a_objI (pc := 1) tw412 tw28 tw29 (by decide) (Nat.le_of_ble_eq_true rfl) d_TR_init_1 ?_
  refine a_aload_n (pc := 4) 0 rfl rfl d_TR_init_4 ?_
  refine a_aload_n (pc := 5) 1 rfl rfl d_TR_init_5 ?_
  refine a_putF (pc := 6) (i := L + 0) (r := ro) fp_TR_9 (Or.inl ⟨_, rfl⟩) rfl rfl (ap_g hL rfl) rfl d_TR_init_6 ?_
  rw [ap_s hL]
  show Ax g m_TR_init 0 0 _ (P ++ [.inl (10, [(2, ro), (0, 0), (0, 0), (0, 0), (1, 0), (1, 0), (0, 0), (0, 0)])]) (σ) 0 0 9 [(0, .ref (gB g + L)), (1, .ref (gB g + ro))] []
  exact a_vret (pc := 9) rfl (by simp [List.length_append] <;> omega) rfl (Nat.le_refl _) d_TR_init_9 ⟨rfl, rfl, rfl⟩
