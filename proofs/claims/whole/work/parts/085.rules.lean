theorem a_ldcwS {g : Gx} {M : Mt} {mc ms : Nat} {Z : Zt} {sh : List Sh} {σ : St} {k n pc : Nat} {lv : List (Nat × Value)} {st : List Value} {own tx : String} {idx w : Nat} (hq : (own, idx, tx, w) ∈ strs) (ho : own = M.1.cls) (hd : decode M.2.1 pc = .ok (.ldc_w idx, 3)) (h : Ax g M mc ms Z sh σ k n (pc + 3) lv (.ref (gK g w) :: st)) : Ax g M mc ms Z sh σ k n pc lv st := by
  intro p e s m args below meth c H locs ls C hw hk hS hl T hT X
  subst ho
  have hZ := C.2.2.2.2.2.2.2.1.1 _ hq
  obtain ⟨t, a1, b1⟩ := h p e s m args below meth c H locs ls C hw hk hS hl T hT X
  exact ⟨t, X.ldcStringW C.1 C.2.2.2.2.2.1 (text := tx) (a := gK g w) hZ.1 hZ.2 (g := F0 m pc ls st) rfl (by rw [C.2.1]; exact hd) t a1, b1⟩
theorem a_callStr {g : Gx} {M M' : Mt} {mc ms : Nat} {Z : Zt} {sh : List Sh} {σ : St} {k n pc idx w : Nat} {lv : List (Nat × Value)} {st st0 As : List Value} {Q' : Qt} {a : Nat}
    (L : LkV M.1.cls idx M' a) (ha : As.length = a) (hcl : M'.1.cls = "java/lang/String") (hwn : w < 16) (hfr : M'.2.2.2.2.1 + 1 ≤ M.2.2.2.2.1) (hlo : 8 + (M'.2.2.1 + 11) + M'.2.2.2.2.2 ≤ M.2.2.2.2.2) (hst0 : st0 = As.reverse ++ .ref (gK g w) :: st) (hst : (st.map fun v => v.category).sum ≤ 8) (hmc : k + 0 ≤ mc) (hms : n + 0 ≤ ms)
    (hd : decode M.2.1 pc = .ok (.invokevirtual idx, 3)) (hC : Cx g M' (.ref (gK g w) :: As) sh σ 0 0 Q')
    (h : ∀ (r : Option Value) (sh' : List Sh) (σ' : St), Q' r sh' σ' → sh'.length = sh.length + 0 → Ax g M mc ms Z sh' σ' (k + 0) (n + 0) (pc + 3) lv (r.toList ++ st)) : Ax g M mc ms Z sh σ k n pc lv st0 := by
  obtain ⟨l1, l2, l3, l4, l5, l6⟩ := L
  refine a_run (as := (Value.ref (gK g w) :: As).toArray) rfl (fun p e s m args below meth c H locs ls C hw hk hS hl hz => ?_) h
  have hts := C.2.2.2.2.2.2.1
  have hrv := vk_recv C.2.2.2.2.2.2.2.1.2.1 hwn hS
  rw [← hcl] at hrv
  exact va_runV (Ts := TB) (own := M.1.cls) (C := M'.1.cls) (nL := M.2.2.1) (cc := M.2.1) (As := As) (b := gK g w) (n := a) (bytes := M'.2.1) (maxL := M'.2.2.1) (ret := M'.2.2.2.1) ⟨C.1, C.2.1, C.2.2.1, C.2.2.2.2.2.1, hts⟩ hC ⟨callB_of a hts (tb_in2 (Ts := TB) l5) rfl rfl rfl (hts _ l4) (hts _ l1) l6 ⟨hfr, hlo⟩, hts _ l2, hts _ l3⟩ ⟨WO.blind, hrv, fun U hU hW => ⟨rfl, WO.of C.2.2.2.2.2.2.2.1 hw hS hz hU hW⟩⟩ rfl ha hl.1 hst0 (lv_room hst) hd ⟨hmc, hms⟩
theorem a_lookup {g : Gx} {M : Mt} {mc ms : Nat} {Z : Zt} {sh : List Sh} {σ : St} {k n pc : Nat} {lv : List (Nat × Value)} {st : List Value} {dflt : Int} {ps : Array (Int × Int)} {len : Nat} {x : Int32} {off : Int} (tgt : Nat) (hp : (ps.toList.zip (ps.toList.drop 1)).all (fun (a, next) => a.1 < next.1) = true) (ho : Op.lookupswitch.offset ps.toList dflt x.toInt = off) (ht : (pc : Int) + off = (tgt : Int)) (hd : decode M.2.1 pc = .ok (.lookupswitch dflt ps, len)) (h : Ax g M mc ms Z sh σ k n tgt lv st) : Ax g M mc ms Z sh σ k n pc lv (.int x :: st) := by
  intro p e s m args below meth c H locs ls C hw hk hS hl
  exact lv_lookup C.1 C.2.1 hd hp ho ht (h p e s m args below meth c H locs ls C hw hk hS hl)
