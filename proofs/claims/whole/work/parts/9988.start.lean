-- the law's first words: the two that it holds against one another are made, and the loop begins
theorem bb_len : (RB_BB_init 0).length = 151 := by decide +kernel
theorem nul11 : nulF tyX11 15 = [(3, 0), (3, 0), (3, 0), (3, 0), (3, 0), (3, 0), (3, 0), (3, 0), (3, 0), (3, 0), (3, 0), (3, 0), (3, 0), (0, 0), (0, 0)] := by decide +kernel
theorem nul12 : nulF tyX12 76 = [(0, 0), (3, 0), (3, 0), (3, 0), (3, 0), (3, 0), (3, 0), (3, 0), (3, 0), (3, 0), (3, 0), (0, 0), (0, 0), (0, 0), (0, 0), (0, 0), (0, 0), (0, 0), (0, 0), (0, 0), (0, 0), (0, 0), (3, 0), (3, 0), (3, 0), (3, 0), (3, 0), (3, 0), (3, 0), (3, 0), (3, 0), (3, 0), (0, 0), (3, 0), (3, 0), (0, 0), (0, 0), (3, 0), (0, 0), (0, 0), (3, 0), (3, 0), (3, 0), (3, 0), (0, 0), (0, 0), (0, 0), (3, 0), (3, 0), (3, 0), (3, 0), (3, 0), (0, 0), (0, 0), (0, 0), (0, 0), (3, 0), (3, 0), (3, 0), (3, 0), (0, 0), (3, 0), (3, 0), (3, 0), (3, 0), (0, 0), (0, 0), (3, 0), (3, 0), (3, 0), (3, 0), (3, 0), (3, 0), (3, 0), (0, 0), (0, 0)] := by decide +kernel
theorem tag12 : ∀ j, j < 76 → tyTag (tyX12 j) ≠ 9 := by decide +kernel
section
variable {g : Gx} {P : List Sh} {σ : St}
theorem st_loop (hL : gXL g ≤ 3072) : Ax g m_LW_law 600000 7302250 lw_Z SH stZ 199 156995 15 [(1, .ref (gB g + 0)), (0, .ref (gXb g))] [.ref (gB g + 151)] := by
  refine a_astore_n (pc := 15) (lv' := [(2, .ref (gB g + 151)), (1, .ref (gB g + 0)), (0, .ref (gXb g))]) rfl (by decide) rfl d_LW_law_15 ?_
  refine a_iconst (pc := 16) (0 : Int32) rfl d_LW_law_16 ?_
  refine a_istore_n (pc := 17) (lv' := [(3, .int 0), (2, .ref (gB g + 151)), (1, .ref (gB g + 0)), (0, .ref (gXb g))]) rfl (by decide) rfl d_LW_law_17 ?_
  refine a_sub [3, 2, 1, 0] (lv' := [(0, .ref (gXb g)), (1, .ref (gB g + 0)), (2, .ref (gB g + 151)), (3, .int 0)]) rfl ?_
  have h := law_go (g := g) hL 513 0 stZ rfl (Nat.zero_le _) rel_z
  rw [show nI (6 * 0) = 0 by decide +kernel] at h
  exact h
theorem st_bm (hP : P.length = 151) (hz : ∀ i, 151 ≤ i → zro σ i) (h : Ax g m_LW_law 600000 7302250 lw_Z (P ++ RB_BM_init 151) (F_BM_init σ 151) 199 156995 15 [(1, .ref (gB g + 0)), (0, .ref (gXb g))] [.ref (gB g + 151)]) : Ax g m_LW_law 600000 7302250 lw_Z P σ 151 65383 8 [(1, .ref (gB g + 0)), (0, .ref (gXb g))] [] := by
  refine a_newo (pc := 8) (ci := 12) (N := 76) tyX12 rfl uw12 tyX12_ok tag12 tw1243 tw1244 tw14 (by rw [hP]; exact hz _ (Nat.le_refl _)) (Nat.le_of_ble_eq_true rfl) (Nat.le_of_ble_eq_true rfl) d_LW_law_8 ?_
  rw [hP, nul12]
  refine a_dup (pc := 11) rfl d_LW_law_11 ?_
  refine a_callI (a := 0) (pc := 12) (M' := m_BM_init) (i := gB g + 151) (As := []) (st := [.ref (gB g + 151)]) (mc' := 47) (ms' := 91536) tw1245 tw1246 tw14 tw1247 rfl rfl (by decide +kernel) rfl (by decide) (by decide) rfl (Nat.le_of_ble_eq_true rfl) (Nat.le_of_ble_eq_true rfl) (Nat.le_of_ble_eq_true rfl) d_LW_law_12 (cc_BM_init (g := g) (P := P) (L := 151) (σ := σ) hP (fun i hi => hz i (Nat.le_of_lt hi))) ?_
  rintro _ _ _ ⟨rfl, rfl, rfl⟩ -
  exact h
theorem st_bb (h : Ax g m_LW_law 600000 7302250 lw_Z ([] ++ RB_BB_init 0) (F_BB_init stO 0) 151 65383 7 [(0, .ref (gXb g))] [.ref (gB g + 0)]) : Ax g m_LW_law 600000 7302250 lw_Z [] stO 0 0 0 [(0, .ref (gXb g))] [] := by
  refine a_newo (pc := 0) (ci := 11) (N := 15) tyX11 rfl uw11 tyX11_ok (by decide) tw22 tw23 tw1 (zro_o _) (Nat.le_of_ble_eq_true rfl) (Nat.le_of_ble_eq_true rfl) d_LW_law_0 ?_
  rw [nul11, show ([] : List Sh).length = 0 from rfl]
  refine a_dup (pc := 3) rfl d_LW_law_3 ?_
  refine a_callI (a := 0) (pc := 4) (M' := m_BB_init) (i := gB g + 0) (As := []) (st := [.ref (gB g + 0)]) (mc' := 150) (ms' := 65368) tw24 tw25 tw1 tw26 rfl rfl (by decide +kernel) rfl (by decide) (by decide) rfl (Nat.le_of_ble_eq_true rfl) (Nat.le_of_ble_eq_true rfl) (Nat.le_of_ble_eq_true rfl) d_LW_law_4 (cc_BB_init (g := g) (P := []) (L := 0) (σ := stO) rfl (fun i _ => zro_o i)) ?_
  rintro _ _ _ ⟨rfl, rfl, rfl⟩ -
  exact h
theorem start_ax (hL : gXL g ≤ 3072) : Ax g m_LW_law 600000 7302250 lw_Z [] stO 0 0 0 [(0, .ref (gXb g))] [] := by
  refine st_bb ?_
  rw [List.nil_append]
  refine a_astore_n (pc := 7) (lv' := [(1, .ref (gB g + 0)), (0, .ref (gXb g))]) rfl (by decide) rfl d_LW_law_7 ?_
  refine st_bm bb_len zro_b ?_
  rw [sh_start]
  exact st_loop hL
end
/-- THE LAW, from its entry -/
theorem whole_start {p : Program} {e : Env} {s : State} {m : MethodId} {below : List Frame} {meth : Method} {c : Code} (l : Launch) {b L : Nat} {xs : Nat → Int32} (hL : L ≤ 3072) (hnm : meth.name = y_LW_law.name) (C0 : lw_At p s m meth c b L xs) : W p l e room_1 s m #[Value.ref b] below meth c s.heap [] 0 0 (lw_Z below #[Value.ref b] s) (entryFrame m ([Value.ref b] : List Value).toArray 4) := by
  obtain ⟨g, eL, eB, eb, eXL, hST, hK⟩ := start_g l C0
  obtain ⟨hx, hb, hr, hml, hown, hts, hX, hbl, hlocks, hgv⟩ := C0
  have hl : lv_has _ 4 [(0, Value.ref b)] := lv_entry ([.ref b]) (n := 4) (Nat.le_of_ble_eq_true rfl)
  rw [lg_entry_eq]
  have h := start_ax (g := g) (by rw [eXL]; exact hL) p e s m #[Value.ref b] below meth c s.heap [] _ ⟨hx, hb, hml, hr, hlocks, hown, fun w hw => hts w ((List.mem_filter.mp hw).1), hST, hnm⟩ ⟨fun k q hq => by simp [wsx] at hq, hK⟩ (by rw [eB]; rfl) va_S.rf (by rw [eb]; exact hl)
  rw [eL] at h
  exact h
