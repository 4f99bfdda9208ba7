-- the class's search
theorem enc_inj {p q : Nat} (hp : p < 38) (hq : q < 38) (h : enc p = enc q) : p = q := by
  unfold enc spc at h
  split at h
  · split at h
    · omega
    · split at h <;> omega
  · split at h
    · split at h
      · omega
      · split at h <;> omega
    · split at h
      · omega
      · split at h <;> omega
theorem sit_inj {C R B : Nat} {P N : Nat → Nat} (hB : B ≤ 3) (hP : okW C R B P) (hN : okW C R B N) (h : sitP P B = sitP N B) : P = N := by
  have e : ∀ b, b < 3 → P b = N b := fun b hb => by
    have h1 := spo_sitP (P := P) (B := B) hb
    have h2 := spo_sitP (P := N) (B := B) hb
    rw [h, h2, enB_norm hP.1, enB_norm hN.1] at h1
    exact enc_inj (hP.2 b).1 (hN.2 b).1 h1.symm
  funext b
  by_cases q : b < 3
  · exact e b q
  · rw [hP.1 b (by omega), hN.1 b (by omega)]
/-- the Search t holds the queue q -/
def SeR (t : Nat) (σ : St) (B : Nat) (q : Qs) : Prop := SeQ t σ q.1 (fun i => sitP (q.2.1 i) B) ∧ ai σ (t + 2) 0 = -1 ∧ ∀ i, 0 < i → i < q.1 → ai σ (t + 2) i = nI (q.2.2.1 i)
theorem SeR.fr {t B : Nat} {σ τ : St} {q : Qs} {A : List (Nat × Nat)} {M : List Nat} (h : SeR t σ B q) (hf : fr A M σ τ) (h4 : (t, 4) ∉ A) (h1 : t + 1 ∉ M) (h2 : t + 2 ∉ M) (h3 : t + 3 ∉ M) : SeR t τ B q := ⟨h.1.fr hf h4 h1 h3, by rw [(hf.2 _ h2).1]; exact h.2.1, by rw [(hf.2 _ h2).1]; exact h.2.2⟩
section
variable {g : Gx} {σ : St} {t : Nat} {c : Cfg} {q : Qs}
theorem shr2 {n : Nat} (h : n < 2 ^ 31) : nI n >>> ((2 : Int32) &&& 31) = nI (n / 4) := pk_shrN h _ 2 (by decide)
theorem tb_loop {Q : Int32 → St → Prop} {B : Nat} (ht : isSE t) (hs : SeR t σ B q) (hq : okQ c q) (hqb : ∀ i, 0 < i → i < q.1 → q.2.2.1 i < 16000) : ∀ (i n : Nat), i < q.1 → n + q.2.2.2 i ≤ 4000 → Q (nI (n + q.2.2.2 i)) σ → S_SE_tipsBack_4 g Q σ t (nI n) (ai σ (t + 2) i) := by
  intro i
  induction i using Nat.strongRecOn with
  | _ i ih =>
    intro n hi hn h
    by_cases i0 : i = 0
    · subst i0
      rw [hs.2.1]
      refine sg_SE_tipsBack_4 ht ⟨fun _ => ?_, fun z => absurd (by decide) z⟩
      rw [hq.2.2.2.1, Nat.add_zero] at h
      exact h
    · obtain ⟨a1, a2⟩ := hq.2.2.2.2.1 i (by omega) hi
      have hb := hqb i (by omega) hi
      rw [hs.2.2 i (by omega) hi]
      refine sg_SE_tipsBack_4 ht ⟨fun z => absurd z (nI_pos (by omega)), fun _ => ⟨fun z => absurd z (nI_nlt (a := 4000) (b := n) (by omega) (by decide)), fun _ => ?_⟩⟩
      rintro u rfl
      rw [shr2 (by omega), nI_clamp (by omega), nI_1]
      refine ⟨vp_in_nI (by omega) (by decide), ?_⟩
      rintro u2 rfl
      refine ih (q.2.2.1 i / 4) a1 (n + 1) (by omega) (by omega) ?_
      rw [show n + 1 + q.2.2.2 (q.2.2.1 i / 4) = n + q.2.2.2 i by omega]
      exact h
theorem qb_lt (hq : okQ c q) : ∀ i, 0 < i → i < q.1 → q.2.2.1 i < 16000 := fun i h0 hi => by
  have := (hq.2.2.2.2.1 i h0 hi).1
  have h2 := hq.2.1
  omega
theorem k_SE_tipsBack {Q : Int32 → St → Prop} {B b : Nat} (ht : isSE t) (hs : SeR t σ B q) (hq : okQ c q) (hb : b / 4 < q.1) (h : Q (nI (q.2.2.2 (b / 4) + 1)) σ) : K_SE_tipsBack g t (nI b) σ Q := by
  have h4 := hq.2.1
  have hd := hq.2.2.2.2.2 (b / 4) hb
  refine ko_SE_tipsBack (sg_SE_tipsBack_0 ht ?_)
  refine sg_SE_tipsBack_4 ht ⟨fun z => absurd z (nI_pos (by omega)), fun _ => ⟨fun z => absurd z (by decide), fun _ => ?_⟩⟩
  rintro u rfl
  rw [shr2 (by omega), nI_clamp (by omega)]
  refine ⟨vp_in_nI (by omega) (by decide), ?_⟩
  rintro u2 rfl
  refine tb_loop (n := 1) ht hs hq (qb_lt hq) (b / 4) hb (by omega) ?_
  rw [Nat.add_comm]
  exact h
theorem and3 {n : Nat} (h : n < 2 ^ 32) : nI n &&& 3 = nI (n % 4) := pk_andN h (m := 3) 2 rfl
/-- back along the path -/
theorem wp_loop {Q : Int32 → St → Prop} {B k : Nat} (ht : isSE t) (hs : SeR t σ B q) (hq : okQ c q) (hk : k < 2 ^ 31) : ∀ (m b : Nat), b / 4 < q.1 → m ≤ q.2.2.2 (b / 4) → k + m < 2 ^ 31 → Q (nI (pbk q.2.2.1 m b % 4)) σ → S_SE_wayOfPath_35 g Q σ t (nI k) (nI b) (nI (k + m)) := by
  intro m
  induction m with
  | zero =>
    intro b hb _ hkm h
    have := hq.2.1
    refine sg_SE_wayOfPath_35 ht ⟨fun _ => ?_, fun z => absurd (nI_le (Nat.le_refl _) (by omega)) z⟩
    rw [and3 (by omega)]
    exact h
  | succ m ih =>
    intro b hb hm hkm h
    have h4 := hq.2.1
    refine sg_SE_wayOfPath_35 ht ⟨fun z => absurd z (nI_ge (by omega) (by omega)), fun _ => ⟨fun z => absurd z (nI_pos (by omega)), fun _ => ?_⟩⟩
    rw [shr2 (by omega), nI_clamp (by omega)]
    refine ⟨vp_in_nI (by omega) (by decide), ?_⟩
    rintro u rfl u2 rfl
    have b0 : 0 < b / 4 := Nat.pos_of_ne_zero (fun z => by rw [z, hq.2.2.2.1] at hm; omega)
    obtain ⟨a1, a2⟩ := hq.2.2.2.2.1 (b / 4) b0 hb
    rw [hs.2.2 (b / 4) b0 hb, show k + (m + 1) = (k + m) + 1 by omega, pk_m1]
    exact ih (q.2.2.1 (b / 4)) (by omega) (by omega) (by omega) h
/-- the frame of a search -/
theorem sa_se {t1 : Nat} (ht : isSE t) (h1 : isSA t1) : t1 ≠ t ∧ t1 + 1 ≠ t + 1 ∧ t1 + 1 ≠ t + 2 ∧ t1 + 1 ≠ t + 3 ∧ t1 + 2 ≠ t + 1 ∧ t1 + 2 ≠ t + 2 ∧ t1 + 2 ≠ t + 3 := by
  simp only [isSE, List.mem_cons, List.not_mem_nil, or_false] at ht
  simp only [isSA, List.mem_cons, List.not_mem_nil, or_false] at h1
  rcases ht with rfl | rfl <;> rcases h1 with rfl | rfl | rfl | rfl | rfl | rfl | rfl | rfl | rfl | rfl | rfl | rfl | rfl | rfl | rfl <;> decide
theorem clst_se {τ : St} {t1 : Nat} (ht : isSE t) (h1 : isSA t1) (hc : ClsT t1 σ c) (hf : fr [(t, 4), (t, 5), (17, 4), (17, 6), (17, 7)] [t + 1, t + 2, t + 3, 19, 20, 21, 26, 31, 36, 41, 46, 51] σ τ) : ClsT t1 τ c := by
  obtain ⟨e0, e1, e2, e3, e4, e5, e6⟩ := sa_se ht h1
  obtain ⟨o0, o1, o2, -, -⟩ := sa_out h1
  have hn : ∀ k, (t1, k) ∉ [(t, 4), (t, 5), (17, 4), (17, 6), (17, 7)] := fun k => by simp [o0, e0]
  have m1 : t1 + 1 ∉ [t + 1, t + 2, t + 3, 19, 20, 21, 26, 31, 36, 41, 46, 51] := by
    intro z
    simp only [List.mem_cons, List.not_mem_nil, or_false] at z
    rcases z with z | z | z | z
    · exact e1 z
    · exact e2 z
    · exact e3 z
    · exact o1 (by simpa using z)
  have m2 : t1 + 2 ∉ [t + 1, t + 2, t + 3, 19, 20, 21, 26, 31, 36, 41, 46, 51] := by
    intro z
    simp only [List.mem_cons, List.not_mem_nil, or_false] at z
    rcases z with z | z | z | z
    · exact e4 z
    · exact e5 z
    · exact e6 z
    · exact o2 (by simpa using z)
  refine ⟨hc.1.fr hf (hn 2) (hn 3) (hn 4) m1 m2, by rw [(hf.1 _ _ (hn 6)).1]; exact hc.2.1, ?_⟩
  have hh := hc.2.2
  unfold FoC at hh ⊢
  cases hq : c.2.2.2.2.2 with
  | none => rw [hq] at hh; dsimp only at hh ⊢; rw [(hf.1 _ _ (hn 9)).1]; exact hh
  | some r =>
    rw [hq] at hh
    obtain ⟨i, hi, ei, hlt, hwf, hru⟩ := hh
    have ht2 : t = 52 ∨ t = 65 := by simpa [isSE] using ht
    have hm : ∀ k, (22 + 5 * i, k) ∉ [(t, 4), (t, 5), (17, 4), (17, 6), (17, 7)] := fun k => by
      simp only [List.mem_cons, Prod.mk.injEq, List.not_mem_nil, or_false]
      omega
    have h175 : (17, 5) ∉ [(t, 4), (t, 5), (17, 4), (17, 6), (17, 7)] := by
      simp only [List.mem_cons, Prod.mk.injEq, List.not_mem_nil, or_false]
      omega
    have hr : ∀ j, j ∈ [1, 2, 3] → 22 + 5 * i + j ∉ [t + 1, t + 2, t + 3, 19, 20, 21, 26, 31, 36, 41, 46, 51] := by
      intro j hj
      simp only [List.mem_cons, List.not_mem_nil, or_false] at hj ⊢
      omega
    exact ⟨i, hi, by rw [(hf.1 _ _ (hn 9)).1]; exact ei, by rw [(hf.1 17 5 h175).1]; exact hlt, hwf, hru.fr hf (hm 5) (hm 6) (hr 1 (by simp)) (hr 2 (by simp)) (hr 3 (by simp))⟩
theorem se_loop {Q : Int32 → St → Prop} {t1 : Nat} (ht : isSE t) (h1 : isSA t1) : ∀ (f h w : Nat) (q : Qs) (σ : St), 20005 ≤ f + (5 * h + w) → w ≤ 4 → h < q.1 → okQ c q → SeR t σ c.2.2.1 q → ClsT t1 σ c → (∀ τ, fr [(t, 4), (t, 5), (17, 4), (17, 6), (17, 7)] [t + 1, t + 2, t + 3, 19, 20, 21, 26, 31, 36, 41, 46, 51] σ τ → SeR t τ c.2.2.1 (bfsF c f h w q).2.2 → ((bfsF c f h w q).1 = 1 → fi τ t 5 = nI (bfsF c f h w q).2.1) → Q (resV (bfsF c f h w q)) τ) → S_SE_reckoned_54 g Q σ t t1 (nI h) (nI w) := by
  intro f
  induction f with
  | zero => intro h w q σ hf hw hh hq; have := hq.2.1; omega
  | succ f ih =>
    intro h w q σ hf hw hh hq hs hc hQ
    have hq4 := hq.2.1
    obtain ⟨⟨-, -, -⟩, ⟨hC, hR, hB⟩, -⟩ := id hc.1
    obtain ⟨o0, o1, o2, o3⟩ := se_out ht
    have hs1 := hs.1
    by_cases h4 : 4 ≤ w
    · have e : w = 4 := by omega
      subst e
      refine sg_SE_reckoned_54 ht h1 ⟨fun _ => ?_, fun z => absurd (by decide) z⟩
      rintro u rfl
      rw [nI_1]
      rw [bfsF, if_pos h4] at hQ
      refine sg_SE_reckoned_37 ht h1 ?_
      rw [hs1.2.1]
      refine ⟨fun z => ?_, fun z => ?_⟩
      · have hle := (nI_leI (by omega) (by omega)).mp z
        rw [if_pos hle] at hQ
        exact hQ σ fr.rf hs (fun y => absurd (show (0 : Nat) = 1 from y) (by decide))
      · have hlt : ¬ q.1 ≤ h + 1 := fun y => z (nI_le y (by omega))
        rw [if_neg hlt] at hQ
        refine ⟨fun z4 => absurd z4 (nI_ge (b := 4000) (by omega) (by decide)), fun _ => ?_⟩
        exact ih (h + 1) 0 q σ (by omega) (by decide) (by omega) hq hs hc hQ
    · have hw4 : w < 4 := by omega
      obtain ⟨ph, pH⟩ := hq.2.2.1 h hh
      have hN := tipC_ok hC hR hw4 ph
      refine sg_SE_reckoned_54 ht h1 ⟨fun z => absurd z (nI_ge (b := 4) hw4 (by decide)), fun _ => ⟨vp_in_nI (by omega) (by decide), ?_⟩⟩
      rw [nI_clamp (by omega), (hs1.2.2.1 h hh).1]
      refine k_rolled h1 hw4 hc ph (fun τ hfr _ _ => ?_)
      have F1 : fr [(t, 4), (t, 5), (17, 4), (17, 6), (17, 7)] [t + 1, t + 2, t + 3, 19, 20, 21, 26, 31, 36, 41, 46, 51] σ τ := hfr.mo (by simp) (by simp)
      have sτ : SeR t τ c.2.2.1 q := hs.fr hfr (by simp [o0]) o1 o2 o3
      have cτ : ClsT t1 τ c := clst_roll h1 hc hfr
      rw [bfsF, if_neg h4] at hQ
      obtain ⟨N, hNe⟩ : ∃ N, N = (tipC c w (q.2.1 h)).1 := ⟨_, rfl⟩
      rw [← hNe] at hQ hN ⊢
      have hz : nI (sitP N c.2.2.1) = 0 ↔ allH N := by
        rw [← sit0 hN.1]
        exact nI_eq (b := 0) (Nat.lt_trans sitP_lt (by decide)) (by decide)
      have e4 : (4 : Int32) * nI h + nI w = nI (4 * h + w) := by
        show nI 4 * nI h + nI w = _
        rw [pk_mul, nI_add]
      rw [hz, e4]
      refine ⟨fun nH => ?_, fun yH => ?_⟩
      · rw [if_neg nH] at hQ
        refine k_SA_hasLost hN.1 ?_
        have go : (∀ τ', fr [(t, 4), (t, 5), (17, 4), (17, 6), (17, 7)] [t + 1, t + 2, t + 3, 19, 20, 21, 26, 31, 36, 41, 46, 51] σ τ' → SeR t τ' c.2.2.1 (bfsF c f h (w + 1) q).2.2 → ((bfsF c f h (w + 1) q).1 = 1 → fi τ' t 5 = nI (bfsF c f h (w + 1) q).2.1) → Q (resV (bfsF c f h (w + 1) q)) τ') → ∀ u6 : Int32, u6 = nI w + 1 → S_SE_reckoned_54 g Q τ t t1 (nI h) u6 := by
          rintro hQ' u rfl
          rw [nI_1]
          exact ih h (w + 1) q τ (by omega) (by omega) hh hq sτ cτ (fun τ' f' s' e' => hQ' τ' (F1.tr f') s' e')
        by_cases hl : losP N
        · rw [if_pos hl]
          rw [if_pos hl] at hQ
          exact ⟨fun _ => go hQ, fun z => absurd z (by decide)⟩
        · rw [if_neg hl]
          rw [if_neg hl] at hQ
          refine ⟨fun z => absurd rfl z, fun _ => ?_⟩
          have iq : (∃ i, i < q.1 ∧ sitP (q.2.1 i) c.2.2.1 = sitP N c.2.2.1) ↔ inQ q N := by
            constructor
            · rintro ⟨i, hi, e⟩
              exact ⟨i, hi, sit_inj hB (hq.2.2.1 i hi).1.1 hN.1 e⟩
            · rintro ⟨i, hi, e⟩
              exact ⟨i, hi, by rw [e]⟩
          refine k_SE_isSeen ht sτ.1 sitP_lt (fun y => ?_) (fun y => ?_)
          · rw [if_pos (iq.mp y)] at hQ
            exact ⟨fun _ => go hQ, fun z => absurd z (by decide)⟩
          · rw [if_neg (fun z => y (iq.mpr z))] at hQ
            refine ⟨fun z => absurd rfl z, fun _ => ?_⟩
            rw [sτ.1.2.1]
            have e40 : nI q.1 = 4000 ↔ q.1 = 4000 := nI_eq (b := 4000) (by omega) (by decide)
            rw [e40]
            refine ⟨fun z => ?_, fun z => ?_⟩
            · rw [if_neg z] at hQ
              refine k_SE_note ht sτ.1 (by omega) sitP_lt (fun υ fu su bu => ?_)
              rintro u rfl
              rw [nI_1]
              have F2 : fr [(t, 4), (t, 5), (17, 4), (17, 6), (17, 7)] [t + 1, t + 2, t + 3, 19, 20, 21, 26, 31, 36, 41, 46, 51] τ υ := fu.mo (by simp) (by simp)
              have hq' := okQ_psh hq hh hw4 (by omega) hN nH
              refine ih h (w + 1) _ υ (by omega) (by omega) (by show h < q.1 + 1; omega) hq' ⟨?_, ?_, fun i hi0 hi => ?_⟩ (clst_se ht h1 cτ F2) (fun τ' f' s' e' => hQ τ' (F1.tr (F2.tr f')) s' e')
              · have ef : (fun i => if i = q.1 then sitP N c.2.2.1 else sitP (q.2.1 i) c.2.2.1) = fun i => sitP ((psh q N (4 * h + w) (q.2.2.2 h + 1)).2.1 i) c.2.2.1 := by
                  funext i
                  show _ = sitP (if i = q.1 then N else q.2.1 i) c.2.2.1
                  split <;> rfl
                rw [ef] at su
                exact su
              · rw [bu, if_neg (by have := hq.1; omega)]; exact sτ.2.1
              · have hi : i < q.1 + 1 := hi
                rw [bu]
                show _ = nI (if i = q.1 then 4 * h + w else q.2.2.1 i)
                by_cases e : i = q.1
                · rw [if_pos e, if_pos e]
                · rw [if_neg e, if_neg e]; exact sτ.2.2 i hi0 (by omega)
            · rw [if_pos z] at hQ
              exact hQ τ F1 sτ (fun y => absurd (show (2 : Nat) = 1 from y) (by decide))
      · rw [if_pos yH] at hQ
        rintro s12 e12
        have f12 : fr [(t, 5)] [] τ s12 := by rw [e12]; exact fr_sfi (by simp)
        have e5 : fi s12 t 5 = nI (4 * h + w) := by rw [e12, fi_sfi, if_pos ⟨rfl, rfl⟩]
        have s12' : SeR t s12 c.2.2.1 q := sτ.fr f12 (by simp) (by simp) (by simp) (by simp)
        rw [e5]
        refine k_SE_tipsBack ht s12' hq (by omega) ?_
        exact hQ s12 (F1.tr (f12.mo (by simp) (by simp))) s12' (fun _ => e5)
theorem k_SE_reckoned {Q : Int32 → St → Prop} {t1 n : Nat} {F P : Nat → Nat} (ht : isSE t) (h1 : isSA t1) (hs : SeQ t σ n F) (hc : ClsT t1 σ c) (hp : okP c.1 c.2.1 c.2.2.1 c.2.2.2.1 P) (h5 : fi σ t1 5 = nI (sitP P c.2.2.1)) (h : ∀ τ, fr [(t, 4), (t, 5), (17, 4), (17, 6), (17, 7)] [t + 1, t + 2, t + 3, 19, 20, 21, 26, 31, 36, 41, 46, 51] σ τ → (∃ n F, SeQ t τ n F) → ((fndF c P).1 = 1 → ¬ allH P → SeR t τ c.2.2.1 (fndF c P).2.2 ∧ fi τ t 5 = nI (fndF c P).2.1) → Q (finV c P) τ) : K_SE_reckoned g t t1 σ Q := by
  obtain ⟨⟨-, -, -⟩, ⟨hC, hR, hB⟩, -⟩ := id hc.1
  obtain ⟨e0, -⟩ := sa_se ht h1
  have h17 := (sa_82 h1).2.1
  refine ko_SE_reckoned (sg_SE_reckoned_0 ht h1 (k_SE_forget ht hs (fun τ f1 s1 => ?_)))
  have F1 : fr [(t, 4), (t, 5), (17, 4), (17, 6), (17, 7)] [t + 1, t + 2, t + 3, 19, 20, 21, 26, 31, 36, 41, 46, 51] σ τ := f1.mo (by simp) (by simp)
  have c1 := clst_se ht h1 hc F1
  have e5 : fi τ t1 5 = nI (sitP P c.2.2.1) := by rw [(f1.1 t1 5 (by simp [e0])).1]; exact h5
  have hz : nI (sitP P c.2.2.1) = 0 ↔ allH P := by
    rw [← sit0 hp.1]
    exact nI_eq (b := 0) (Nat.lt_trans sitP_lt (by decide)) (by decide)
  rw [e5]
  refine k_SA_hasLost hp.1 ?_
  rw [e5, hz]
  by_cases hl : losP P
  · rw [if_pos hl]
    refine ⟨fun z => absurd z (by decide), fun _ => ?_⟩
    have nH : ¬ allH P := by rintro ⟨a0, a1, a2⟩; rcases hl with q | q | q <;> omega
    have f0 := fnd_lost hC hR hp hl
    have := h τ F1 ⟨0, F, s1⟩ (fun z => by rw [f0] at z; exact absurd z (by decide))
    unfold finV resV at this
    rw [if_neg nH, f0] at this
    exact this
  · rw [if_neg hl]
    refine ⟨fun _ => ⟨fun nH => ?_, fun yH => ?_⟩, fun z => absurd rfl z⟩
    · refine k_SE_note ht s1 (by decide) sitP_lt (fun υ f2 s2 b2 => ?_)
      have F2 : fr [(t, 4), (t, 5), (17, 4), (17, 6), (17, 7)] [t + 1, t + 2, t + 3, 19, 20, 21, 26, 31, 36, 41, 46, 51] τ υ := f2.mo (by simp) (by simp)
      refine sg_SE_reckoned_37 ht h1 ?_
      rw [s2.2.1]
      refine ⟨fun z => absurd z (by decide), fun _ => ⟨fun z => absurd z (by decide), fun _ => ?_⟩⟩
      have sr : SeR t υ c.2.2.1 (q0F P) := by
        refine ⟨⟨(show 1 ≤ 4000 by decide), s2.2.1, fun i hi => ?_, fun S hS => ?_⟩, by rw [b2, if_pos rfl], fun i hi0 hi => absurd hi (by show ¬ i < 1; omega)⟩
        · have hi : i < 1 := hi
          have e : i = 0 := by omega
          subst e
          exact s2.2.2.1 0 (by omega)
        · rw [s2.2.2.2 S hS]
          constructor
          · rintro ⟨i, hi, e⟩
            have ei : i = 0 := by omega
            subst ei
            exact ⟨0, by show 0 < 1; decide, e⟩
          · rintro ⟨i, hi, e⟩
            have hi : i < 1 := hi
            exact ⟨0, by omega, e⟩
      refine se_loop ht h1 20010 0 0 (q0F P) υ (by decide) (by decide) (show 0 < 1 by decide) (q0_ok hp nH) sr (clst_se ht h1 c1 F2) (fun ξ f3 s3 e3 => ?_)
      have := h ξ (F1.tr (F2.tr f3)) ⟨_, _, s3.1⟩ (fun z _ => ⟨s3, e3 z⟩)
      unfold finV at this
      rw [if_neg nH] at this
      exact this
    · have := h τ F1 ⟨0, F, s1⟩ (fun _ z => absurd yH z)
      unfold finV at this
      rw [if_pos yH] at this
      exact this
end
