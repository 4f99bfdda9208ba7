-- a rule's code worked out by the class
theorem qif {α : Type} {Q : α → St → Prop} {σ : St} {c : Prop} [Decidable c] {x y : α} (h : Q (if c then x else y) σ) : (c → Q x σ) ∧ (¬ c → Q y σ) := ⟨fun q => by rw [if_pos q] at h; exact h, fun q => by rw [if_neg q] at h; exact h⟩
section
variable {g : Gx} {σ : St}
theorem k_RU_joined {Q : Int64 → St → Prop} {x : Int32} {a b : Int64} (h : Q (opJ x a b) σ) : K_RU_joined g x a b σ Q := by
  refine ko_RU_joined (sg_RU_joined_0 ⟨?_, ?_, ?_, ?_, ?_, ?_, ?_, ?_, ?_, ?_, ?_, ?_, ?_, ?_, ?_, ?_, ?_, ?_⟩)
  · rintro rfl; rw [lg_cmp_lt]; exact qif h
  · rintro rfl; rw [lg_cmp_gt]; exact qif h
  · rintro rfl; exact h
  · rintro rfl; exact h
  · rintro rfl; exact h
  · rintro rfl; rw [lg_cmp_le]; exact qif h
  · rintro rfl; rw [lg_cmp_eq]; have h : Q (if a = b then 1 else 0) σ := h; exact (qif h).symm
  · rintro rfl; rw [lg_cmp_ge]; exact qif h
  · rintro rfl; rw [lg_cmp_eq]; have h : Q (if b = 0 then 0 else a - a / b * b) σ := h; exact ⟨fun q => ⟨q, (qif h).2 q⟩, (qif h).1⟩
  · rintro rfl; rw [lg_cmp_eq]; have h : Q (if b = 0 then 0 else a / b) σ := h; exact ⟨fun q => ⟨q, (qif h).2 q⟩, (qif h).1⟩
  · rintro rfl; exact h
  · rintro rfl; exact h
  · rintro rfl; exact h
  · rintro rfl; exact h
  · rintro rfl; exact h
  · rintro rfl; exact h
  · rintro rfl; exact h
  · intro h1 h2 h3 h4 h5 h6 h7 h8 h9 h10 h11 h12 h13 h14 h15 h16 h17
    unfold opJ at h
    rw [if_neg h13, if_neg h12, if_neg h11, if_neg h10, if_neg h9, if_neg h8, if_neg h2, if_neg h7, if_neg h1, if_neg h6, if_neg h17, if_neg h16] at h
    exact h
theorem ru_out {t : Nat} (h : isRU t) : t + 4 ≠ 19 ∧ t ≠ 17 := by
  simp only [isRU, List.mem_cons, List.not_mem_nil, or_false] at h
  rcases h with rfl | rfl | rfl | rfl | rfl | rfl | rfl <;> decide
theorem sh19 : SH[19]? = some (.inr (1, 8, [])) := by decide +kernel
theorem hoS_push {f : Nat → Int64} {st : List Int64} {v : Int64} {h : Nat → Int64} (hh : ∀ j, j < st.length → h j = f j) (hv : h st.length = v) (hs : hoS f st) : hoS h (v :: st) := ⟨hv, hoS_up (i := st.length) (v := v) hh (Nat.le_refl _) hs⟩
theorem word_in {x : Int32} (h0 : x < 0) (h8 : ¬ x < -8) : ∃ k, k < 8 ∧ -1 - x = nI k := by
  have a : (-1 - x).toInt = -1 - x.toInt := by
    rw [Int32.toInt_sub, Int.bmod_def]
    rw [Int32.lt_iff_toInt_lt] at h0 h8
    have e0 : (0 : Int32).toInt = 0 := by decide
    have e8 : (-8 : Int32).toInt = -8 := by decide
    have e1 : (-1 : Int32).toInt = -1 := by decide
    omega
  rw [Int32.lt_iff_toInt_lt] at h0 h8
  have e0 : (0 : Int32).toInt = 0 := by decide
  have e8 : (-8 : Int32).toInt = -8 := by decide
  have hn : ¬ (-1 - x) < 0 := by
    rw [Int32.lt_iff_toInt_lt, a, e0]; omega
  obtain ⟨j, hj, e⟩ := nI_of hn
  refine ⟨j, ?_, e⟩
  rw [e, nI_toInt hj] at a
  omega
theorem wo_loop {Q : Int64 → St → Prop} {t to : Nat} {W : Nat → Int64} {L : Nat → Int32} {q : Bool} (ht : isRU t) (hto : to ≤ 400) : ∀ (n i : Nat) (st : List Int64) (ts : List Bool) (σ : St), i + n = to → (∀ j, j < to → ai σ (t + 1) j = L j) → (∀ k, k < 8 → aj σ 19 k = W k) → hoS (aj σ (t + 4)) st → tyOK st ts → ts.length ≤ 60 → tyR L n i ts = some [q] → (∀ τ, fr [] [t + 4] σ τ → Q ((runF W L n i st).headD 0) τ) → S_RU_workedOut_6 g Q σ t 19 (nI to) (nI st.length) (nI i) := by
  intro n
  induction n with
  | zero =>
    intro i st ts σ hi hL hW hs ho hl hty h
    cases hty
    have e : i = to := by omega
    subst e
    refine sg_RU_workedOut_6 ht sh19 ⟨fun _ => ?_, fun c => absurd (nI_le (Nat.le_refl _) (by omega)) c⟩
    match st, ho with
    | [v], _ =>
      rw [show nI [v].length = nI (0 + 1) from rfl]
      refine ⟨fun c => absurd c (nI_nle (by omega) (by omega)), fun _ => ?_⟩
      rw [nI_pred, nI_clamp (by omega)]
      refine ⟨vp_in_nI (by decide) (by decide), ?_⟩
      have e : aj σ (t + 4) 0 = v := hs.1
      rw [e]
      exact h σ fr.rf
    | [], ho => exact ho.elim
    | _ :: _ :: _, ho => exact ho.2.elim
  | succ n ih =>
    intro i st ts σ hi hL hW hs ho hl hty h
    unfold tyR at hty
    cases hsx : tyS (L i) ts with
    | none => rw [hsx] at hty; cases hty
    | some t2 =>
      rw [hsx] at hty
      have hlen := tyOK_len ho
      have hstp := stp_ty (W := W) hsx ho
      have hl2 := ty_len60 hsx hl
      refine sg_RU_workedOut_6 ht sh19 ⟨fun c => absurd c (nI_ge (by omega) (by omega)), fun _ => ⟨vp_in_nI (by omega) (by decide), ?_⟩⟩
      rintro u rfl
      rw [nI_clamp (by omega), hL i (by omega)]
      have next : ∀ (v : Int64) (st' : List Int64) (j : Nat) (σ' : St), σ' = saj σ (t + 4) j v → stp W (L i) st = st' → hoS (aj σ' (t + 4)) st' → S_RU_workedOut_6 g Q σ' t 19 (nI to) (nI st'.length) (nI (i + 1)) := by
        intro v st' j σ' e est hs'
        have fσ : fr [] [t + 4] σ σ' := by rw [e]; exact fr_saj (by simp)
        have w19 : aj σ' 19 = aj σ 19 := (fσ.2 19 (by have := (ru_out ht).1; simp; omega)).2
        refine ih (i + 1) st' t2 σ' (by omega) (by rw [e]; exact hL) (by rw [w19]; exact hW) hs' (est ▸ hstp) hl2 hty (fun τ f1 => ?_)
        have := h τ (fσ.tr f1)
        unfold runF at this
        rw [est] at this
        exact this
      rcases tyS_cases hsx with ⟨h0, h1, e2⟩ | ⟨h0, h9, r, ets, e2⟩ | ⟨h0, h9, aa, r, ets, hh⟩
      · refine ⟨fun c => absurd c h0, fun _ => ⟨fun c => absurd c (nI_ge (b := 64) (by omega) (by decide)), fun _ => ⟨fun c => ?_, fun c => ?_⟩⟩⟩
        · obtain ⟨k, hk, ek⟩ := word_in c h0
          rw [ek]
          refine ⟨vp_in_nI hk (by decide), vp_in_nI (by omega) (by decide), ?_⟩
          rintro s rfl u rfl v rfl
          rw [nI_clamp (by omega), nI_clamp (by omega), hW k hk, nI_1, nI_1]
          refine next (W k) (W k :: st) st.length _ rfl ?_ ?_
          · unfold stp; rw [if_neg h0, if_pos c, ek, nI_clamp (by omega)]
          · exact hoS_push (f := aj σ (t + 4)) (fun j hj => by rw [aj_saj, if_neg (by omega)]) (by rw [aj_saj, if_pos ⟨rfl, rfl⟩]) hs
        · refine ⟨vp_in_nI (by omega) (by decide), ?_⟩
          rintro s rfl u rfl v rfl
          rw [nI_clamp (by omega), nI_1, nI_1]
          refine next (L i).toInt64 ((L i).toInt64 :: st) st.length _ rfl ?_ ?_
          · unfold stp; rw [if_neg h0, if_neg c]
          · exact hoS_push (f := aj σ (t + 4)) (fun j hj => by rw [aj_saj, if_neg (by omega)]) (by rw [aj_saj, if_pos ⟨rfl, rfl⟩]) hs
      · refine ⟨fun _ => ⟨fun c => absurd h9 c, fun _ => ?_⟩, fun c => absurd h0 c⟩
        subst ets
        match st, ho, hs, hlen, next with
        | v :: st, ho, hs, hlen, next =>
          simp only [List.length_cons] at hlen hl ⊢
          refine ⟨fun c => absurd c (nI_nle (by omega) (by omega)), fun _ => ?_⟩
          rw [nI_pred, nI_clamp (by omega)]
          refine ⟨vp_in_nI (by omega) (by decide), vp_in_nI (by omega) (by decide), ?_⟩
          rintro s rfl u rfl
          rw [nI_1, hs.1]
          refine next (1 - v) ((1 - v) :: st) st.length _ rfl ?_ ?_
          · unfold stp; rw [if_pos h0, if_pos h9]
          · exact hoS_push (f := aj σ (t + 4)) (fun j hj => by rw [aj_saj, if_neg (by omega)]) (by rw [aj_saj, if_pos ⟨rfl, rfl⟩]) hs.2
        | [], ho, _, _, _ => exact ho.elim
      · refine ⟨fun _ => ⟨fun _ => ?_, fun c => absurd c h9⟩, fun c => absurd h0 c⟩
        subst ets
        match st, ho, hs, hlen, next with
        | v :: v2 :: st, ho, hs, hlen, next =>
          simp only [List.length_cons] at hlen hl ⊢
          refine ⟨fun c => absurd c (nI_ge (a := 1) (by omega) (by omega)), fun _ => ?_⟩
          rintro u rfl
          rw [pk_m1, nI_pred, nI_clamp (by omega), nI_clamp (by omega)]
          refine ⟨vp_in_nI (by omega) (by decide), vp_in_nI (by omega) (by decide), ?_⟩
          have e1 : aj σ (t + 4) (st.length + 1) = v := hs.1
          have e2 : aj σ (t + 4) st.length = v2 := hs.2.1
          rw [e1, e2]
          refine k_RU_joined ⟨vp_in_nI (by omega) (by decide), ?_⟩
          rintro s rfl u rfl
          rw [nI_1]
          refine next (opJ (L i) v2 v) (opJ (L i) v2 v :: st) st.length _ rfl ?_ ?_
          · unfold stp; rw [if_pos h0, if_neg h9]
          · exact hoS_push (f := aj σ (t + 4)) (fun j hj => by rw [aj_saj, if_neg (by omega)]) (by rw [aj_saj, if_pos ⟨rfl, rfl⟩]) hs.2.2
        | [_], ho, _, _, _ => exact ho.2.elim
        | [], ho, _, _, _ => exact ho.elim
theorem k_RU_workedOut {Q : Int64 → St → Prop} {t a b : Nat} {W : Nat → Int64} {L : Nat → Int32} {q : Bool} (ht : isRU t) (hab : a ≤ b) (hb : b ≤ 400) (hL : ∀ j, j < b → ai σ (t + 1) j = L j) (hW : ∀ k, k < 8 → aj σ 19 k = W k) (hty : tyR L (b - a) a [] = some [q]) (h : ∀ τ, fr [] [t + 4] σ τ → Q (evalF W L a b) τ) : K_RU_workedOut g t (nI a) (nI b) 19 σ Q :=
  ko_RU_workedOut (sg_RU_workedOut_0 ht sh19 (wo_loop ht hb (b - a) a [] [] σ (by omega) hL hW trivial trivial (by decide) hty h))
/-- the rule r in the class's object t -/
def RuC (t : Nat) (σ : St) (r : RuleT) : Prop := (∀ j, j < r.2.1 → ai σ (t + 1) j = r.1 j) ∧ (∀ c, c < r.2.2.1 → ai σ (t + 2) c = nI (r.2.2.2.1 c) ∧ ai σ (t + 3) c = nI (r.2.2.2.2 c)) ∧ fi σ t 5 = nI r.2.2.1 ∧ ∀ j k, j < r.2.1 → k < 8 → -1 - r.1 j = nI k → r.1 j < 0 → ¬ r.1 j < -8 → ¬ (fi σ t 6 >>> (nI k &&& 31)) &&& 1 = 0
theorem RuC.fr {t : Nat} {τ : St} {r : RuleT} {F : List (Nat × Nat)} {M : List Nat} (h : RuC t σ r) (hf : fr F M σ τ) (h5 : (t, 5) ∉ F) (h6 : (t, 6) ∉ F) (h1 : t + 1 ∉ M) (h2 : t + 2 ∉ M) (h3 : t + 3 ∉ M) : RuC t τ r := by
  unfold RuC at h ⊢
  rw [(hf.1 _ _ h5).1, (hf.1 _ _ h6).1, (hf.2 _ h1).1, (hf.2 _ h2).1, (hf.2 _ h3).1]
  exact h
theorem k_RU_keyBy {Q : Int64 → St → Prop} {t : Nat} {W : Nat → Int64} {r : RuleT} (ht : isRU t) (hr : RuleWF r) (hc : RuC t σ r) (hW : ∀ k, k < 8 → aj σ 19 k = W k) (h : ∀ τ, fr [] [t + 4] σ τ → Q (keyR r W) τ) : K_RU_keyBy g t 19 σ Q := by
  obtain ⟨L, len, n, sE, tE⟩ := r
  obtain ⟨hlen, hn, hcl⟩ := hr
  dsimp only at hlen hn hcl
  have go : ∀ (m i : Nat) (τ : St), i + m = n → fr [] [t + 4] σ τ → (∀ υ, fr [] [t + 4] σ υ → Q (keyG W L sE tE m i (rBeg tE i)) υ) → S_RU_keyBy_4 g Q τ t 19 (nI (rBeg tE i)) (nI i) := by
    intro m
    induction m with
    | zero =>
      intro i τ hi hf hq
      have hcτ : RuC t τ (L, len, n, sE, tE) := hc.fr hf (by simp) (by simp) (by simp) (by simp) (by simp)
      refine sg_RU_keyBy_4 ht sh19 ?_
      rw [hcτ.2.2.1]
      exact ⟨fun _ => hq τ hf, fun c => absurd (nI_le (by simp; omega) (by omega)) c⟩
    | succ m ih =>
      intro i τ hi hf hq
      have hcτ : RuC t τ (L, len, n, sE, tE) := hc.fr hf (by simp) (by simp) (by simp) (by simp) (by simp)
      have hWτ : ∀ k, k < 8 → aj τ 19 k = W k := by rw [(hf.2 19 (by have := (ru_out ht).1; simp; omega)).2]; exact hW
      obtain ⟨h1, h2, h3, h4, h5⟩ := hcl i (by omega)
      obtain ⟨e1, e2⟩ := hcτ.2.1 i (by show i < n; omega)
      dsimp only at e1 e2
      refine sg_RU_keyBy_4 ht sh19 ?_
      rw [hcτ.2.2.1]
      dsimp only
      refine ⟨fun c => absurd c (nI_ge (by omega) (by omega)), fun _ => ⟨vp_in_nI (by omega) (by decide), vp_in_nI (by omega) (by decide), ?_⟩⟩
      rw [nI_clamp (by omega), e1, e2, nI_eq (by omega) (by omega)]
      have sumv : ∀ υ, fr [] [t + 4] σ υ → (∀ υ, fr [] [t + 4] σ υ → Q (evalF W L (rBeg tE i) (sE i)) υ) → K_RU_workedOut g t (nI (rBeg tE i)) (nI (sE i)) 19 υ Q := fun υ hυ hq => by
        have hcυ : RuC t υ (L, len, n, sE, tE) := hc.fr hυ (by simp) (by simp) (by simp) (by simp) (by simp)
        exact k_RU_workedOut ht h1 (by omega) (fun j hj => hcυ.1 j (by show j < len; omega)) (by rw [(hυ.2 19 (by have := (ru_out ht).1; simp; omega)).2]; exact hW) h4 (fun υ2 f2 => hq υ2 (hυ.tr f2))
      unfold keyG at hq
      refine ⟨fun c => ?_, fun c => ?_⟩
      · refine sg_RU_keyBy_32 ht sh19 ⟨fun q => absurd rfl q, fun _ => ⟨vp_in_nI (by omega) (by decide), vp_in_nI (by omega) (by decide), ?_⟩⟩
        rw [nI_clamp (by omega), e1, e2]
        rcases h5 with h5 | h5
        · exact absurd h5 c
        refine k_RU_workedOut ht h2 (by omega) (fun j hj => hcτ.1 j (by show j < len; omega)) hWτ h5 (fun υ hυ => ?_)
        have fυ : fr [] [t + 4] σ υ := hf.tr hυ
        have hcυ : RuC t υ (L, len, n, sE, tE) := hc.fr fυ (by simp) (by simp) (by simp) (by simp) (by simp)
        obtain ⟨e3, e4⟩ := hcυ.2.1 i (by show i < n; omega)
        dsimp only at e3 e4
        rw [lg_cmp_eq]
        refine ⟨fun z => ⟨vp_in_nI (by omega) (by decide), ?_⟩, fun z => ⟨vp_in_nI (by omega) (by decide), ?_⟩⟩
        · rintro u rfl u2 rfl
          rw [e4, nI_1]
          have e : rBeg tE (i + 1) = tE i := by unfold rBeg; simp
          rw [if_neg (fun y => y.elim c (fun y => y z)), ← e] at hq
          rw [← e]
          exact ih (i + 1) υ (by omega) fυ hq
        · rw [e3]
          rw [if_pos (Or.inr z)] at hq
          exact sumv υ fυ hq
      · refine sg_RU_keyBy_32 ht sh19 ⟨fun _ => ⟨vp_in_nI (by omega) (by decide), ?_⟩, fun q => absurd q (by decide)⟩
        rw [nI_clamp (by omega), e1]
        rw [if_pos (Or.inl c)] at hq
        exact sumv τ hf hq
  exact ko_RU_keyBy (sg_RU_keyBy_0 ht sh19 (go n 0 σ (Nat.zero_add _) fr.rf h))
end
