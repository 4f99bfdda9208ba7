-- a rule's code worked out by the reference
def opM (x : Int32) : Int32 := if x = -9 then 9 else if x = -10 then 10 else if x = -11 then 11 else if x = -14 then 2 else if x = -15 then 3 else if x = -16 then 13 else if x = -17 then 14 else if x = -18 then 15 else if x = -19 then 4 else if x = -20 then 6 else if x = -21 then 8 else if x = -25 then 5 else if x = -26 then 7 else 0
def tkM (x s v : Int32) : Prop := (¬ x < 0 ∧ s = 0 ∧ v = x) ∨ (x < 0 ∧ ¬ x < -8 ∧ s = 1 ∧ v = -1 - x) ∨ (x < -8 ∧ s = opM x)
section
variable {g : Gx} {σ : St}
theorem k_BM_truth0 {Q : Int64 → St → Prop} (h : Q 0 σ) : K_BM_truth g 0 σ Q := ko_BM_truth (sg_BM_truth_0 ⟨fun _ => h, fun c => absurd rfl c⟩)
theorem k_BM_truth1 {Q : Int64 → St → Prop} (h : Q 1 σ) : K_BM_truth g 1 σ Q := ko_BM_truth (sg_BM_truth_0 ⟨fun c => absurd c (by decide), fun _ => h⟩)
theorem k_BM_both {Q : Int64 → St → Prop} {x : Int32} {a b : Int64} (hx : (x = -10 ∨ x = -11) ∨ (x = -14 ∨ x = -15 ∨ x = -16 ∨ x = -17 ∨ x = -18) ∨ (x = -19 ∨ x = -20 ∨ x = -21 ∨ x = -25 ∨ x = -26)) (h : Q (opJ x a b) σ) : K_BM_both g (opM x) a b σ Q := by
  rcases hx with (rfl | rfl) | (rfl | rfl | rfl | rfl | rfl) | (rfl | rfl | rfl | rfl | rfl)
  all_goals refine ko_BM_both (sg_BM_both_0 ⟨?_, ?_, ?_, ?_, ?_, ?_, ?_, ?_, ?_, ?_, ?_, ?_, ?_, ?_, ?_⟩)
  all_goals first
    | (intro c; exact absurd c (by decide))
    | (intro c1 c2 c3 c4 c5 c6 c7 c8 c9 c10 c11 c12 c13 c14; exfalso; first | exact c1 rfl | exact c2 rfl | exact c3 rfl | exact c4 rfl | exact c5 rfl | exact c6 rfl | exact c7 rfl | exact c9 rfl | exact c10 rfl | exact c12 rfl | exact c13 rfl | exact c14 rfl)
    | (intro _; exact h)
    | skip
  · intro _; rw [lg_cmp_eq]; have h : Q (if b = 0 then 0 else a / b) σ := h; exact ⟨fun q => ⟨q, (qif h).2 q⟩, (qif h).1⟩
  · intro _; rw [lg_cmp_eq]; have h : Q (if b = 0 then 0 else a - a / b * b) σ := h; exact ⟨fun q => ⟨q, (qif h).2 q⟩, (qif h).1⟩
  · intro _; rw [lg_cmp_ge]; have h : Q (if b ≤ a then 0 else 1) σ := h; exact ⟨fun q => k_BM_truth0 ((qif h).1 q), fun q => k_BM_truth1 ((qif h).2 q)⟩
  · intro _; rw [lg_cmp_eq]; have h : Q (if a = b then 1 else 0) σ := h; exact ⟨fun q => k_BM_truth0 ((qif h).2 q), fun q => k_BM_truth1 ((qif h).1 q)⟩
  · intro _; rw [lg_cmp_le]; have h : Q (if a ≤ b then 0 else 1) σ := h; exact ⟨fun q => k_BM_truth0 ((qif h).1 q), fun q => k_BM_truth1 ((qif h).2 q)⟩
  · intro _; rw [lg_cmp_gt]; have h : Q (if b < a then 0 else 1) σ := h; exact ⟨fun q => k_BM_truth0 ((qif h).1 q), fun q => k_BM_truth1 ((qif h).2 q)⟩
  · intro _; rw [lg_cmp_lt]; have h : Q (if a < b then 0 else 1) σ := h; exact ⟨fun q => k_BM_truth0 ((qif h).1 q), fun q => k_BM_truth1 ((qif h).2 q)⟩
theorem an_loop {Q : Int64 → St → Prop} {s to : Nat} {W : Nat → Int64} {L : Nat → Int32} {q : Bool} (hs6 : s < 6) (hto : to ≤ 300) : ∀ (n i : Nat) (st : List Int64) (ts : List Bool) (σ : St), i + n = to → (∀ j, j < to → tkM (L j) (ai σ 163 (300 * s + j)) (ai σ 164 (300 * s + j))) → (∀ k, k < 8 → aj σ 170 k = W k) → hoS (aj σ 171) st → tyOK st ts → ts.length ≤ 60 → tyR L n i ts = some [q] → (∀ τ, fr [] [171] σ τ → Q ((runF W L n i st).headD 0) τ) → S_BM_answer_6 g Q σ (nI s) (nI to) (nI st.length) (nI i) := by
  intro n
  induction n with
  | zero =>
    intro i st ts σ hi hL hW hs ho hl hty h
    cases hty
    have e : i = to := by omega
    subst e
    refine sg_BM_answer_6 ⟨fun _ => ?_, fun c => absurd (nI_le (Nat.le_refl _) (by omega)) c⟩
    match st, ho with
    | [v], _ =>
      refine ⟨pk_in 0 300 (by decide), ?_⟩
      have e : aj σ 171 0 = v := hs.1
      rw [cl0, e]
      exact h σ fr.rf
    | [], ho => exact ho.elim
    | _ :: _ :: _, ho => exact ho.2.elim
  | succ n ih =>
    intro i st ts σ hi hL hW hs ho hl hty h
    unfold tyR at hty
    cases hsx : tyS (L i) ts with
    | none => rw [hsx] at hty; cases hty
    | some t2 =>
      rw [hsx] at hty
      have hlen := tyOK_len ho
      have hstp := stp_ty (W := W) hsx ho
      have hl2 := ty_len60 hsx hl
      have eix : (300 : Int32) * nI s + nI i = nI (300 * s + i) := by
        show nI 300 * nI s + nI i = _
        rw [pk_mul, nI_add]
      refine sg_BM_answer_6 ⟨fun c => absurd c (nI_ge (by omega) (by omega)), fun _ => ?_⟩
      rw [eix, nI_clamp (by omega)]
      refine ⟨vp_in_nI (by omega) (by decide), ?_⟩
      rintro u1 e1
      refine ⟨vp_in_nI (by omega) (by decide), ?_⟩
      rintro u2 e2
      have htk := hL i (by omega)
      rw [← e1, ← e2] at htk
      have next : ∀ (v : Int64) (st' : List Int64) (j : Nat) (σ' : St), σ' = saj σ 171 j v → stp W (L i) st = st' → hoS (aj σ' 171) st' → S_BM_answer_6 g Q σ' (nI s) (nI to) (nI st'.length) (nI (i + 1)) := by
        intro v st' j σ' e est hs'
        have fσ : fr [] [171] σ σ' := by rw [e]; exact fr_saj (by simp)
        have w19 : aj σ' 170 = aj σ 170 := (fσ.2 170 (by decide)).2
        refine ih (i + 1) st' t2 σ' (by omega) (by rw [e]; exact hL) (by rw [w19]; exact hW) hs' (est ▸ hstp) hl2 hty (fun τ f1 => ?_)
        have := h τ (fσ.tr f1)
        unfold runF at this
        rw [est] at this
        exact this
      rcases tyS_cases hsx with ⟨h0, h1, e2'⟩ | ⟨h0, h9, r, ets, e2'⟩ | ⟨h0, h9, aa, r, ets, hh⟩
      · rcases htk with ⟨c, k1, k2⟩ | ⟨c, -, k1, k2⟩ | ⟨c, -⟩
        · subst k1
          refine ⟨fun _ => ?_, fun z => absurd rfl z⟩
          refine sg_BM_answer_53 ⟨fun z => absurd rfl z, fun _ => ⟨vp_in_nI (by omega) (by decide), ?_⟩⟩
          rintro s1 rfl u rfl u' rfl
          rw [nI_clamp (by omega), nI_1, nI_1, k2]
          refine next (L i).toInt64 ((L i).toInt64 :: st) st.length _ rfl ?_ ?_
          · unfold stp; rw [if_neg h0, if_neg c]
          · exact hoS_push (f := aj σ 171) (fun j hj => by rw [aj_saj, if_neg (by omega)]) (by rw [aj_saj, if_pos ⟨rfl, rfl⟩]) hs
        · subst k1
          obtain ⟨k, hk, ek⟩ := word_in c h0
          refine ⟨fun z => absurd z (by decide), fun _ => ⟨fun z => absurd rfl z, fun _ => ?_⟩⟩
          refine sg_BM_answer_53 ⟨fun _ => ?_, fun z => absurd z (by decide)⟩
          rw [k2, ek]
          refine ⟨vp_in_nI hk (by decide), vp_in_nI (by omega) (by decide), ?_⟩
          rintro s1 rfl u rfl u' rfl
          rw [nI_clamp (by omega), nI_clamp (by omega), nI_1, nI_1, hW k hk]
          refine next (W k) (W k :: st) st.length _ rfl ?_ ?_
          · unfold stp; rw [if_neg h0, if_pos c, ek, nI_clamp (by omega)]
          · exact hoS_push (f := aj σ 171) (fun j hj => by rw [aj_saj, if_neg (by omega)]) (by rw [aj_saj, if_pos ⟨rfl, rfl⟩]) hs
        · exact absurd c h0
      · have k1 : u1 = 9 := by
          rcases htk with ⟨c, -⟩ | ⟨-, c, -⟩ | ⟨-, c⟩
          · rw [h9] at c; exact absurd (by decide) c
          · exact absurd h0 c
          · rw [c, h9]; rfl
        subst k1
        refine ⟨fun z => absurd z (by decide), fun _ => ⟨fun _ => ⟨fun z => absurd rfl z, fun _ => ?_⟩, fun z => absurd z (by decide)⟩⟩
        subst ets
        match st, ho, hs, hlen, next with
        | v :: st, ho, hs, hlen, next =>
          simp only [List.length_cons] at hlen hl ⊢
          rw [nI_pred, nI_clamp (by omega)]
          refine ⟨vp_in_nI (by omega) (by decide), vp_in_nI (by omega) (by decide), ?_⟩
          rintro s1 rfl u rfl
          rw [nI_1, hs.1]
          refine next (1 - v) ((1 - v) :: st) st.length _ rfl ?_ ?_
          · unfold stp; rw [if_pos h0, if_pos h9]
          · exact hoS_push (f := aj σ 171) (fun j hj => by rw [aj_saj, if_neg (by omega)]) (by rw [aj_saj, if_pos ⟨rfl, rfl⟩]) hs.2
        | [], ho, _, _, _ => exact ho.elim
      · have hxx : (L i = -10 ∨ L i = -11) ∨ (L i = -14 ∨ L i = -15 ∨ L i = -16 ∨ L i = -17 ∨ L i = -18) ∨ (L i = -19 ∨ L i = -20 ∨ L i = -21 ∨ L i = -25 ∨ L i = -26) := by
          rcases hh with ⟨-, hx, -⟩ | ⟨-, hx, -⟩ | ⟨-, hx, -⟩
          · exact Or.inl hx
          · exact Or.inr (Or.inl hx)
          · exact Or.inr (Or.inr hx)
        have k1 : u1 = opM (L i) := by
          rcases htk with ⟨c, -⟩ | ⟨-, c, -⟩ | ⟨-, c⟩
          · exact absurd (Int32.lt_trans h0 (by decide)) c
          · exact absurd h0 c
          · exact c
        have kk : ¬ u1 = 0 ∧ ¬ u1 = 1 ∧ ¬ u1 = 9 := by
          rw [k1]
          rcases hxx with (z | z) | (z | z | z | z | z) | (z | z | z | z | z) <;> rw [z] <;> decide
        refine ⟨fun z => absurd z kk.1, fun _ => ⟨fun _ => ⟨fun _ => ?_, fun z => absurd z kk.2.2⟩, fun z => absurd z kk.2.1⟩⟩
        subst ets
        match st, ho, hs, hlen, next with
        | v :: v2 :: st, ho, hs, hlen, next =>
          simp only [List.length_cons] at hlen hl ⊢
          rintro u rfl
          rw [pk_m1, nI_pred, nI_clamp (by omega), nI_clamp (by omega)]
          refine ⟨vp_in_nI (by omega) (by decide), vp_in_nI (by omega) (by decide), ?_⟩
          have e1 : aj σ 171 (st.length + 1) = v := hs.1
          have e2 : aj σ 171 st.length = v2 := hs.2.1
          rw [e1, e2, k1]
          refine k_BM_both hxx ⟨vp_in_nI (by omega) (by decide), ?_⟩
          rintro s1 rfl u rfl
          rw [nI_1]
          refine next (opJ (L i) v2 v) (opJ (L i) v2 v :: st) st.length _ rfl ?_ ?_
          · unfold stp; rw [if_pos h0, if_neg h9]
          · exact hoS_push (f := aj σ 171) (fun j hj => by rw [aj_saj, if_neg (by omega)]) (by rw [aj_saj, if_pos ⟨rfl, rfl⟩]) hs.2.2
        | [_], ho, _, _, _ => exact ho.2.elim
        | [], ho, _, _, _ => exact ho.elim
theorem k_BM_answer {Q : Int64 → St → Prop} {s a b : Nat} {W : Nat → Int64} {L : Nat → Int32} {q : Bool} (hs6 : s < 6) (hab : a ≤ b) (hb : b ≤ 300) (hL : ∀ j, j < b → tkM (L j) (ai σ 163 (300 * s + j)) (ai σ 164 (300 * s + j))) (hW : ∀ k, k < 8 → aj σ 170 k = W k) (hty : tyR L (b - a) a [] = some [q]) (h : ∀ τ, fr [] [171] σ τ → Q (evalF W L a b) τ) : K_BM_answer g (nI s) (nI a) (nI b) σ Q :=
  ko_BM_answer (sg_BM_answer_0 (an_loop hs6 hb (b - a) a [] [] σ (by omega) hL hW trivial trivial (by decide) hty h))
/-- the rule r in the reference's slot s -/
def RuM (s : Nat) (σ : St) (r : RuleT) : Prop := (∀ j, j < r.2.1 → tkM (r.1 j) (ai σ 163 (300 * s + j)) (ai σ 164 (300 * s + j))) ∧ (∀ c, c < r.2.2.1 → ai σ 166 (12 * s + c) = nI (rBeg r.2.2.2.2 c) ∧ ai σ 167 (12 * s + c) = nI (r.2.2.2.1 c) ∧ ai σ 168 (12 * s + c) = nI (r.2.2.2.2 c)) ∧ ai σ 165 s = nI r.2.2.1
theorem RuM.fr {s : Nat} {τ : St} {r : RuleT} {F : List (Nat × Nat)} {M : List Nat} (h : RuM s σ r) (hf : fr F M σ τ) (h3 : 163 ∉ M) (h4 : 164 ∉ M) (h5 : 165 ∉ M) (h6 : 166 ∉ M) (h7 : 167 ∉ M) (h8 : 168 ∉ M) : RuM s τ r := by
  unfold RuM at h ⊢
  rw [(hf.2 _ h3).1, (hf.2 _ h4).1, (hf.2 _ h5).1, (hf.2 _ h6).1, (hf.2 _ h7).1, (hf.2 _ h8).1]
  exact h
theorem sumOf120 {Q : Int64 → St → Prop} {s : Nat} {W : Nat → Int64} {r : RuleT} (hs6 : s < 6) (hr : RuleWF r) (hc : RuM s σ r) (hW : ∀ k, k < 8 → aj σ 170 k = W k) (h : ∀ τ, fr [] [171] σ τ → Q (keyR r W) τ) : S_BM_sumOf_120 g Q σ (nI s) (nI (12 * s)) := by
  obtain ⟨L, len, n, sE, tE⟩ := r
  obtain ⟨hlen, hn, hcl⟩ := hr
  dsimp only at hlen hn hcl
  have e12 : (12 : Int32) * nI s = nI (12 * s) := by show nI 12 * nI s = _; rw [pk_mul]
  have go : ∀ (m i : Nat) (τ : St), i + m = n → fr [] [171] σ τ → (∀ υ, fr [] [171] σ υ → Q (keyG W L sE tE m i (rBeg tE i)) υ) → S_BM_sumOf_120 g Q τ (nI s) (nI (12 * s + i)) := by
    intro m
    induction m with
    | zero =>
      intro i τ hi hf hq
      have hcτ : RuM s τ (L, len, n, sE, tE) := hc.fr hf (by decide) (by decide) (by decide) (by decide) (by decide) (by decide)
      refine sg_BM_sumOf_120 ⟨vp_in_nI (by omega) (by decide), ?_⟩
      rw [e12, nI_clamp (by omega), hcτ.2.2, nI_add]
      exact ⟨fun _ => hq τ hf, fun c => absurd (nI_le (by show 12 * s + n ≤ _; omega) (by omega)) c⟩
    | succ m ih =>
      intro i τ hi hf hq
      have hcτ : RuM s τ (L, len, n, sE, tE) := hc.fr hf (by decide) (by decide) (by decide) (by decide) (by decide) (by decide)
      have hWτ : ∀ k, k < 8 → aj τ 170 k = W k := by rw [(hf.2 170 (by decide)).2]; exact hW
      obtain ⟨h1, h2, h3, h4, h5⟩ := hcl i (by omega)
      obtain ⟨e0, e1, e2⟩ := hcτ.2.1 i (by show i < n; omega)
      dsimp only at e0 e1 e2
      refine sg_BM_sumOf_120 ⟨vp_in_nI (by omega) (by decide), ?_⟩
      rw [e12, nI_clamp (by omega), hcτ.2.2, nI_add]
      refine ⟨fun c => absurd c (nI_ge (by show _ < 12 * s + n; omega) (by show 12 * s + n < _; omega)), fun _ => ⟨vp_in_nI (by omega) (by decide), vp_in_nI (by omega) (by decide), ?_⟩⟩
      rw [nI_clamp (by omega), e0, e1, e2, nI_eq (by omega) (by omega)]
      have sumv : ∀ υ, fr [] [171] σ υ → (∀ υ, fr [] [171] σ υ → Q (evalF W L (rBeg tE i) (sE i)) υ) → K_BM_answer g (nI s) (nI (rBeg tE i)) (nI (sE i)) υ Q := fun υ hυ hq => by
        have hcυ : RuM s υ (L, len, n, sE, tE) := hc.fr hυ (by decide) (by decide) (by decide) (by decide) (by decide) (by decide)
        exact k_BM_answer hs6 h1 (by omega) (fun j hj => hcυ.1 j (by show j < len; omega)) (by rw [(hυ.2 170 (by decide)).2]; exact hW) h4 (fun υ2 f2 => hq υ2 (hυ.tr f2))
      unfold keyG at hq
      refine ⟨fun c => ⟨vp_in_nI (by omega) (by decide), vp_in_nI (by omega) (by decide), ?_⟩, fun c => ⟨vp_in_nI (by omega) (by decide), vp_in_nI (by omega) (by decide), ?_⟩⟩
      · rw [if_pos (Or.inl c)] at hq
        exact sumv τ hf hq
      · rcases h5 with h5 | h5
        · exact absurd h5 c
        have hev := eval_ty (W := W) h5
        refine k_BM_answer hs6 h2 (by omega) (fun j hj => hcτ.1 j (by show j < len; omega)) hWτ h5 (fun υ hυ => ?_)
        have fυ : fr [] [171] σ υ := hf.tr hυ
        have hcυ : RuM s υ (L, len, n, sE, tE) := hc.fr fυ (by decide) (by decide) (by decide) (by decide) (by decide) (by decide)
        obtain ⟨e3, e4, e5⟩ := hcυ.2.1 i (by show i < n; omega)
        dsimp only at e3 e4 e5
        rw [lg_cmp_eq]
        refine ⟨fun z => ?_, fun z => ⟨vp_in_nI (by omega) (by decide), vp_in_nI (by omega) (by decide), ?_⟩⟩
        · rintro u rfl
          rw [nI_1]
          have z0 : evalF W L (sE i) (tE i) = 0 := (hev.2 rfl).elim id (fun y => absurd y z)
          have e : rBeg tE (i + 1) = tE i := by unfold rBeg; simp
          rw [if_neg (fun y => y.elim c (fun y => y z0)), ← e] at hq
          exact ih (i + 1) υ (by omega) fυ hq
        · rw [e3, e4]
          have z0 : evalF W L (sE i) (tE i) ≠ 0 := by rw [z]; decide
          rw [if_pos (Or.inr z0)] at hq
          exact sumv υ fυ hq
  exact go n 0 σ (Nat.zero_add _) fr.rf h
end
