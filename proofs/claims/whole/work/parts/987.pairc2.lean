-- the class: what is reached, how far each is
abbrev lsP (N : Nat → Nat) : Prop := N 0 = 37 ∨ N 1 = 37 ∨ N 2 = 37
def rcI (B : Nat) (N : Nat → Nat) : Int32 := if lsP N then -1 else nI (sitP N B)
def RoR (σ : St) (c : Cfg) : Prop := ∀ P, Dom c P → ∀ w, w < 4 → ai σ 71 (4 * sitP P c.2.2.1 + w) = rcI c.2.2.1 (nxP c P w)
def FaR (σ : St) (c : Cfg) : Prop := ∀ P, Dom c P → ai σ 72 (sitP P c.2.2.1) = oT (farC c P) ∧ ∀ m, farC c P = some m → m < 4096
theorem dom_nx {c : Cfg} {P : Nat → Nat} {w : Nat} (hC : c.1 ≤ 6) (hR : c.2.1 ≤ 6) (hB : c.2.2.1 ≤ 2) (hw : w < 4) (h : Dom c P) (hn : ¬ lsP (nxP c P w)) : Dom c (nxP c P w) := by
  have ok := tipC_ok hC hR hw h.1
  refine ⟨ok, tipC_ds hC hR (by omega) hw h.1 h.2.1, fun b e => ?_⟩
  by_cases q : b < 3
  · rcases (show b = 0 ∨ b = 1 ∨ b = 2 by omega) with rfl | rfl | rfl
    · exact hn (Or.inl e)
    · exact hn (Or.inr (Or.inl e))
    · exact hn (Or.inr (Or.inr e))
  · have := ok.1.1 b (by omega)
    unfold nxP at e
    omega
theorem stk_dm {c : Cfg} {b : Nat} (hC : c.1 ≤ 6) (hR : c.2.1 ≤ 6) (hb : b < 3) (m : Nat) : ∀ N, okP c.1 c.2.1 c.2.2.1 c.2.2.2.1 N → stk c.1 c.2.1 c.2.2.2.1 b N → ¬ Dm (nxP c) allH m N := by
  induction m with
  | zero => exact fun N _ hs => stk_no hb hs
  | succ m ih =>
    rintro N ok hs ⟨w, hw, hd⟩
    exact ih _ (tipC_ok hC hR hw ok) (stk_tip hC hR hw ok hs) hd
theorem ls_dm {c : Cfg} {N : Nat → Nat} (hC : c.1 ≤ 6) (hR : c.2.1 ≤ 6) (ok : okP c.1 c.2.1 c.2.2.1 c.2.2.2.1 N) (h : lsP N) (m : Nat) : ¬ Dm (nxP c) allH m N := by
  rcases h with h | h | h
  · exact stk_dm (b := 0) hC hR (by decide) m N ok (Or.inl h)
  · exact stk_dm (b := 1) hC hR (by decide) m N ok (Or.inl h)
  · exact stk_dm (b := 2) hC hR (by decide) m N ok (Or.inl h)
section
variable {g : Gx} {σ : St} {c : Cfg}
theorem k_PA_rollAll {Q : St → Prop} (hc : ClsT 83 σ c) (hB : c.2.2.1 ≤ 2) (hl : LsR σ c) (h : ∀ τ, fr [(17, 4), (17, 6), (17, 7)] [19, 20, 21, 26, 31, 36, 41, 46, 51, 71] σ τ → RoR τ c → Q τ) : K_PA_rollAll g 83 σ Q := by
  have ht : isSA 83 := by simp [isSA]
  have hC := hc.1.2.1.1
  have hR := hc.1.2.1.2.1
  obtain ⟨k, hk, h9, h1, h2⟩ := hl
  have ck : ∀ τ, fr [(17, 4), (17, 6), (17, 7)] [19, 20, 21, 26, 31, 36, 41, 46, 51, 71] σ τ → ClsT 83 τ c := by
    intro τ hf
    refine ⟨hc.1.fr hf (by decide) (by decide) (by decide) (by decide) (by decide), by rw [(hf.1 83 6 (by decide)).1]; exact hc.2.1, ?_⟩
    have hfo := hc.2.2
    cases hq : c.2.2.2.2.2 with
    | none =>
      rw [hq] at hfo
      show fi τ 83 9 = -1
      rw [(hf.1 83 9 (by decide)).1]; exact hfo
    | some r =>
      rw [hq] at hfo
      obtain ⟨i, hi, ei, hlt, hwf, hru⟩ := hfo
      have hm : ∀ k, (22 + 5 * i, k) ∉ [(17, 4), (17, 6), (17, 7)] := fun k => by simp; omega
      have rr := ruR hi
      exact ⟨i, hi, by rw [(hf.1 83 9 (by decide)).1]; exact ei, by rw [(hf.1 17 5 (by decide)).1]; exact hlt, hwf, hru.fr hf (hm 5) (hm 6) (by simp; omega) (by simp; omega) (by simp; omega)⟩
  have e73 : ∀ τ, fr [(17, 4), (17, 6), (17, 7)] [19, 20, 21, 26, 31, 36, 41, 46, 51, 71] σ τ → ai τ 73 = ai σ 73 ∧ fi τ 69 9 = nI k := fun τ hf => ⟨(hf.2 73 (by decide)).1, by rw [(hf.1 69 9 (by decide)).1]; exact h9⟩
  have l12 : ∀ (i : Nat) (P : Nat → Nat), i < k → Dom c P → ai σ 73 i = nI (sitP P c.2.2.1) → (∀ τ, fr [(17, 4), (17, 6), (17, 7)] [19, 20, 21, 26, 31, 36, 41, 46, 51, 71] σ τ → (∀ N, Dom c N → ∀ w, w < 4 → (∃ j, j < i + 1 ∧ ai σ 73 j = nI (sitP N c.2.2.1)) → ai τ 71 (4 * sitP N c.2.2.1 + w) = rcI c.2.2.1 (nxP c N w)) → S_PA_rollAll_2 g Q τ 83 (nI (i + 1))) →
      ∀ (m w : Nat) (τ : St), w + m = 4 → fr [(17, 4), (17, 6), (17, 7)] [19, 20, 21, 26, 31, 36, 41, 46, 51, 71] σ τ → (∀ N, Dom c N → ∀ w', w' < 4 → ((∃ j, j < i ∧ ai σ 73 j = nI (sitP N c.2.2.1)) ∨ (N = P ∧ w' < w)) → ai τ 71 (4 * sitP N c.2.2.1 + w') = rcI c.2.2.1 (nxP c N w')) → S_PA_rollAll_12 g Q τ 83 (nI i) (nI w) := by
    intro i P hi hP ei hq m
    have hsl := sitP_lt2 (P := P) hB
    induction m with
    | zero =>
      intro w τ hw hf hv
      refine sg_PA_rollAll_12 ht ⟨fun _ => ?_, fun q => absurd (nI_le (a := 4) (by omega) (by omega)) q⟩
      rintro u rfl
      rw [nI_1]
      refine hq τ hf (fun N hN w' hw' ⟨j, hj, ej⟩ => ?_)
      by_cases e : j = i
      · rw [e, ei] at ej
        have := (nI_eq (by omega) (by have := sitP_lt2 (P := N) hB; omega)).mp ej
        have eN := sit_inj (by omega) hP.1.1 hN.1.1 this
        exact hv N hN w' hw' (Or.inr ⟨eN.symm, by omega⟩)
      · exact hv N hN w' hw' (Or.inl ⟨j, by omega, ej⟩)
    | succ m ih =>
      intro w τ hw hf hv
      have hw4 : w < 4 := by omega
      refine sg_PA_rollAll_12 ht ⟨fun q => absurd q (nI_ge (b := 4) (by omega) (by decide)), fun _ => ⟨vp_in_nI (by omega) (by decide), ?_⟩⟩
      rw [nI_clamp (by omega), (e73 τ hf).1, ei]
      refine k_rolled (P := P) ht hw4 (ck τ hf) hP.1 (fun υ fu _ _ => ?_)
      have Fu := hf.tr (fu.mo (F' := [(17, 4), (17, 6), (17, 7)]) (R' := [19, 20, 21, 26, 31, 36, 41, 46, 51, 71]) (by decide) (by decide))
      have okN := tipC_ok hC hR hw4 hP.1
      have sl2 := sitP_lt2 (P := (tipC c w P).1) hB
      have e4 : (4 : Int32) * nI (sitP P c.2.2.1) + nI w = nI (4 * sitP P c.2.2.1 + w) := by
        show nI 4 * nI _ + nI w = _
        rw [pk_mul, nI_add]
      have put : ∀ v : Int32, v = rcI c.2.2.1 (nxP c P w) → ∀ s3 : St, s3 = sai υ 71 ((4 : Int32) * nI (sitP P c.2.2.1) + nI w).toNatClampNeg v → ∀ u : Int32, u = nI w + 1 → S_PA_rollAll_12 g Q s3 83 (nI i) u := by
        rintro v ev s3 rfl u rfl
        rw [e4, nI_clamp (by omega), nI_1]
        refine ih (w + 1) _ (by omega) (Fu.tr (fr_sai (by decide))) (fun N hN w' hw' hor => ?_)
        rw [ai_sai]
        by_cases e : 4 * sitP N c.2.2.1 + w' = 4 * sitP P c.2.2.1 + w
        · rw [if_pos ⟨rfl, e⟩]
          have es : sitP N c.2.2.1 = sitP P c.2.2.1 := by omega
          have ew : w' = w := by omega
          rw [sit_inj (by omega) hN.1.1 hP.1.1 es, ew]; exact ev
        · rw [if_neg (fun q => e q.2), (fu.2 71 (by decide)).1]
          refine hv N hN w' hw' ?_
          rcases hor with q | ⟨q1, q2⟩
          · exact Or.inl q
          · refine Or.inr ⟨q1, ?_⟩
            rw [q1] at e
            omega
      have l55 : ∀ z : Int32, (z = 0 → ¬ lsP (nxP c P w)) → (¬ z = 0 → lsP (nxP c P w)) → S_PA_rollAll_55 g Q υ 83 (nI i) (nI w) (nI (sitP (tipC c w P).1 c.2.2.1)) z := by
        intro z z0 z1
        refine sg_PA_rollAll_55 ht ⟨vp_in_nI (by omega) (by decide), ?_⟩
        rw [nI_clamp (by omega), (e73 υ Fu).1, ei]
        refine ⟨fun q => ⟨by rw [e4]; exact vp_in_nI (by omega) (by decide), ?_⟩, fun q => ⟨by rw [e4]; exact vp_in_nI (by omega) (by decide), ?_⟩⟩
        · exact put _ (by unfold rcI; rw [if_neg (z0 q)]; rfl)
        · exact put _ (by unfold rcI; rw [if_pos (z1 q)])
      refine k_SA_hasLost okN.1 ?_
      by_cases q : lsP (nxP c P w)
      · have q' : (tipC c w P).1 0 = 37 ∨ (tipC c w P).1 1 = 37 ∨ (tipC c w P).1 2 = 37 := q
        rw [if_pos q']
        exact ⟨fun _ => l55 1 (fun z => absurd z (by decide)) (fun _ => q), fun z => absurd z (by decide)⟩
      · have q' : ¬ ((tipC c w P).1 0 = 37 ∨ (tipC c w P).1 1 = 37 ∨ (tipC c w P).1 2 = 37) := q
        rw [if_neg q']
        exact ⟨fun z => absurd rfl z, fun _ => ⟨fun _ => l55 0 (fun _ => q) (fun z => absurd rfl z), fun z => absurd (nI_lt (b := 4096) sl2 (by decide)) z⟩⟩
  have l2 : ∀ (m i : Nat) (τ : St), i + m = k → fr [(17, 4), (17, 6), (17, 7)] [19, 20, 21, 26, 31, 36, 41, 46, 51, 71] σ τ → (∀ N, Dom c N → ∀ w, w < 4 → (∃ j, j < i ∧ ai σ 73 j = nI (sitP N c.2.2.1)) → ai τ 71 (4 * sitP N c.2.2.1 + w) = rcI c.2.2.1 (nxP c N w)) → S_PA_rollAll_2 g Q τ 83 (nI i) := by
    intro m
    induction m with
    | zero =>
      intro i τ hi hf hv
      refine sg_PA_rollAll_2 ht ?_
      rw [(e73 τ hf).2]
      refine ⟨fun _ => h τ hf (fun P hP w hw => ?_), fun q => absurd (nI_le (by omega) (by omega)) q⟩
      obtain ⟨j, hj, ej⟩ := h2 P hP
      exact hv P hP w hw ⟨j, by omega, ej⟩
    | succ m ih =>
      intro i τ hi hf hv
      refine sg_PA_rollAll_2 ht ?_
      rw [(e73 τ hf).2]
      refine ⟨fun q => absurd q (nI_ge (by omega) (by omega)), fun _ => ?_⟩
      obtain ⟨P, hP, eP⟩ := h1 i (by omega)
      refine l12 i P (by omega) hP eP (fun υ fu vu => ih (i + 1) υ (by omega) fu vu) 4 0 τ (by omega) hf (fun N hN w' hw' hor => ?_)
      rcases hor with q | q
      · exact hv N hN w' hw' q
      · omega
  exact ko_PA_rollAll (sg_PA_rollAll_0 ht (l2 k 0 σ (by omega) fr.rf (fun N hN w hw ⟨j, hj, _⟩ => absurd hj (by omega))))
end
