-- the reference: fillsFar and hardest
theorem fold_okW {C R B w : Nat} {K : Nat → Nat} (hC : C ≤ 6) (hR : R ≤ 6) (hw : w < 4) : ∀ (l : List Nat) (st : (Nat → Nat) × Nat × Nat), (∀ b, b ∈ l → b < B ∧ st.1 b < 36) → l.Nodup → okW C R B st.1 → okW C R B (l.foldl (rol1 C R K w) st).1 := by
  intro l
  induction l with
  | nil => intro st _ _ h1; exact h1
  | cons b l ih =>
    intro st hl hnd h1
    obtain ⟨hb, h36⟩ := hl b List.mem_cons_self
    refine ih (rol1 C R K w st b) (fun x hx => ?_) (List.nodup_cons.mp hnd).2 (rol1_ok hC hR hw hb h1 h36)
    obtain ⟨a1, a2⟩ := hl x (List.mem_cons_of_mem _ hx)
    refine ⟨a1, ?_⟩
    rw [rol1_ne (x := x) (b := b) (fun e => (List.nodup_cons.mp hnd).1 (e ▸ hx))]
    exact a2
theorem tipC_okW {c : Cfg} {P : Nat → Nat} {w : Nat} (hC : c.1 ≤ 6) (hR : c.2.1 ≤ 6) (hw : w < 4) (hp : okW c.1 c.2.1 c.2.2.1 P) : okW c.1 c.2.1 c.2.2.1 (tipC c w P).1 := fold_okW hC hR hw (ordL (keyC c P w) P) (P, 0, 0) (ordL_in hp) (ordL_nodup _ _) hp
theorem nxS_l {c : Cfg} {s w : Nat} (hB : c.2.2.1 ≤ 2) (hC : c.1 ≤ 6) (hR : c.2.1 ≤ 6) (hw : w < 4) : nxS c s w < 1444 := nxS_lt hB hC hR hw (fun _ h => tipC_okW hC hR hw h)
def nxP (c : Cfg) (P : Nat → Nat) (w : Nat) : Nat → Nat := (tipC c w P).1
noncomputable def farC (c : Cfg) (P : Nat → Nat) : Option Nat := farO (nxP c) allH P
theorem farC_ref {c : Cfg} {P : Nat → Nat} (hB : c.2.2.1 ≤ 2) (hC : c.1 ≤ 6) (hR : c.2.1 ≤ 6) (hp : okW c.1 c.2.1 c.2.2.1 P) : farO (nxS c) (whS c.2.2.1) (smP P c.2.2.1) = farC c P := by
  refine (farO_map (fun m => dm_map (f := fun P => smP P c.2.2.1) (Dom := fun P => okW c.1 c.2.1 c.2.2.1 P) (fun s w hs hw => tipC_okW hC hR hw hs) (fun s hs => ?_) (fun s w hs hw => nxS_sm hB hs) m P hp)).symm
  unfold whS
  rw [sdP_smP hB hs]
section
variable {g : Gx} {σ : St} {c : Cfg} {P : Nat → Nat}
theorem k_BM_fillsFar {Q : St → Prop} (hx : RefX σ c) (hB : c.2.2.1 ≤ 2) (h : ∀ τ, fr [(151, 32), (151, 35), (151, 36)] [154, 170, 171, 172, 173, 180, 184] σ τ → FarM τ c → Q τ) : K_BM_fillsFar g σ Q := by
  have hC := hx.1.2.2.2.1
  have hR := hx.1.2.2.2.2.1
  refine ko_BM_fillsFar (sg_BM_fillsFar_0 (k_BM_fillsNext hx hB (fun τ1 f1 n1 => ?_)))
  have x1 : RefX τ1 c := hx.fr f1 (by decide) (by decide) (by decide) (by decide) (by decide) (by decide) (by decide) (by decide)
  have xk : ∀ τ, fr [] [184] τ1 τ → Dim τ c.1 c.2.1 c.2.2.1 ∧ ai τ 180 = ai τ1 180 := fun τ hf => ⟨(x1.fr hf (by decide) (by decide) (by decide) (by decide) (by decide) (by decide) (by decide) (by decide)).1, (hf.2 180 (by decide)).1⟩
  have hnl : ∀ s w, w < 4 → nxS c s w < 1444 := fun s w hw => nxS_l hB hC hR hw
  -- a round
  have l61 : ∀ (n s : Nat), n < 1444 → s < 1444 → ∀ (m w : Nat) (on : Bool) (τ : St), w + m = 4 → fr [] [184] τ1 τ → (∀ t, t < 1444 → t ≠ s → fcl (nxS c) (whS c.2.2.1) (if t < s then n + 1 else n) t (ai τ 184 t)) →
      ((on = true ↔ ∃ t, t < s ∧ Lst (nxS c) (whS c.2.2.1) (n + 1) t) ∧ fcl (nxS c) (whS c.2.2.1) n s (ai τ 184 s) ∧ (∀ w', w' < w → ai τ 184 s = -2 → ¬ Lst (nxS c) (whS c.2.2.1) n (nxS c s w'))) →
      (∀ υ on', fr [] [184] τ1 υ → (∀ t, t < 1444 → fcl (nxS c) (whS c.2.2.1) (if t < s + 1 then n + 1 else n) t (ai υ 184 t)) → (on' = true ↔ ∃ t, t < s + 1 ∧ Lst (nxS c) (whS c.2.2.1) (n + 1) t) → S_BM_fillsFar_51 g Q υ (bI on') (nI n) (nI (s + 1))) →
      S_BM_fillsFar_61 g Q τ (bI on) (nI n) (nI s) (nI w) := by
    intro n s hn hs m
    induction m with
    | zero =>
      intro w on τ hw hf hoth ⟨hon, hcl, hno⟩ hq
      have e : w = 4 := by omega
      refine sg_BM_fillsFar_61 ⟨fun _ => ?_, fun q => absurd (nI_le (a := 4) (by omega) (by omega)) q⟩
      rintro u rfl
      rw [nI_1]
      have hnew : fcl (nxS c) (whS c.2.2.1) (n + 1) s (ai τ 184 s) ∧ ¬ Lst (nxS c) (whS c.2.2.1) (n + 1) s := by
        by_cases q : ai τ 184 s = -2
        · have h2 := fcl_not ((fcl_2 hcl (by omega)).mp q) (fun w' hw' => hno w' (by omega) q)
          exact ⟨Or.inr ⟨h2, q⟩, fun z => h2 (n + 1) (Nat.le_refl _) z.1⟩
        · refine ⟨fcl_up hcl q, fun z => ?_⟩
          rcases hcl with ⟨m, hm, hL, _⟩ | ⟨_, e2⟩
          · have := lst_un hL z
            omega
          · exact q e2
      refine hq τ on hf (fun t ht => ?_) (hon.trans ⟨fun ⟨t, h1, h2⟩ => ⟨t, by omega, h2⟩, fun ⟨t, h1, h2⟩ => ⟨t, ?_, h2⟩⟩)
      · by_cases e : t = s
        · rw [e, if_pos (by omega)]; exact hnew.1
        · have := hoth t ht e
          by_cases q : t < s
          · rw [if_pos q] at this; rw [if_pos (by omega)]; exact this
          · rw [if_neg q] at this; rw [if_neg (by omega)]; exact this
      · by_cases e : t = s
        · exact absurd (e ▸ h2) hnew.2
        · omega
    | succ m ih =>
      intro w on τ hw hf hoth ⟨hon, hcl, hno⟩ hq
      refine sg_BM_fillsFar_61 ⟨fun q => absurd q (nI_ge (b := 4) (by omega) (by decide)), fun _ => ⟨vp_in_nI (by omega) (by decide), ?_⟩⟩
      rw [nI_clamp (by omega)]
      refine ⟨fun z => ?_, fun z => ?_⟩
      · -- known before
        rintro u rfl
        rw [nI_1]
        have hold : ¬ Lst (nxS c) (whS c.2.2.1) (n + 1) s := fun y => by
          rcases hcl with ⟨m, hm, hL, _⟩ | ⟨_, e2⟩
          · have := lst_un hL y
            omega
          · exact z e2
        refine hq τ on hf (fun t ht => ?_) (hon.trans ⟨fun ⟨t, h1, h2⟩ => ⟨t, by omega, h2⟩, fun ⟨t, h1, h2⟩ => ⟨t, ?_, h2⟩⟩)
        · by_cases e : t = s
          · rw [e, if_pos (by omega)]; exact fcl_up hcl z
          · have := hoth t ht e
            by_cases q : t < s
            · rw [if_pos q] at this; rw [if_pos (by omega)]; exact this
            · rw [if_neg q] at this; rw [if_neg (by omega)]; exact this
        · by_cases e : t = s
          · exact absurd (e ▸ h2) hold
          · omega
      · have hw4 : w < 4 := by omega
        have hlt := hnl s w hw4
        have e4 : (4 : Int32) * nI s + nI w = nI (4 * s + w) := by
          show nI 4 * nI s + nI w = _
          rw [pk_mul, nI_add]
        have hall : ∀ t, t < 1444 → (ai τ 184 t = nI n ↔ Lst (nxS c) (whS c.2.2.1) n t) := by
          intro t ht
          by_cases e : t = s
          · rw [e]; exact fcl_eq hcl (Nat.le_refl _) (by omega)
          · have := hoth t ht e
            split at this
            · exact fcl_eq this (by omega) (by omega)
            · exact fcl_eq this (by omega) (by omega)
        rw [e4, nI_clamp (by omega), (xk τ hf).2, n1 s w hs hw4, nI_clamp (by omega), hall _ hlt]
        refine ⟨vp_in_nI (by omega) (by decide), vp_in_nI (by omega) (by decide), fun zz => ?_, fun zz => ⟨vp_in_nI (by omega) (by decide), ?_⟩⟩
        · rintro u rfl
          rw [nI_1]
          refine ih (w + 1) on τ (by omega) hf hoth ⟨hon, hcl, fun w' hw' e2 => ?_⟩ hq
          by_cases e : w' = w
          · rw [e]; exact zz
          · exact hno w' (by omega) e2
        · rintro s4 e4 u rfl
          have fs : fr [] [184] τ s4 := by rw [e4]; exact fr_sai (by decide)
          have hnew := fcl_new ((fcl_2 hcl (by omega)).mp z) hw4 zz
          have vs : ai s4 184 s = nI (n + 1) := by rw [e4, ai_sai, if_pos ⟨rfl, rfl⟩, nI_1]
          have vt : ∀ t, t ≠ s → ai s4 184 t = ai τ 184 t := fun t ht => by rw [e4, ai_sai, if_neg (fun q => ht q.2)]
          -- it is left at once
          have leave : S_BM_fillsFar_51 g Q s4 1 (nI n) (nI (s + 1)) := by
            refine hq s4 true (hf.tr fs) (fun t ht => ?_) ⟨fun _ => ⟨s, by omega, hnew⟩, fun _ => rfl⟩
            by_cases e : t = s
            · rw [e, if_pos (by omega), vs]; exact Or.inl ⟨n + 1, Nat.le_refl _, hnew, rfl⟩
            · rw [vt t e]
              have := hoth t ht e
              by_cases q : t < s
              · rw [if_pos q] at this; rw [if_pos (by omega)]; exact this
              · rw [if_neg q] at this; rw [if_neg (by omega)]; exact this
          refine sg_BM_fillsFar_61 ⟨fun _ => ?_, fun _ => ⟨vp_in_nI (by omega) (by decide), ?_⟩⟩
          · rintro u rfl
            rw [nI_1]; exact leave
          · rw [nI_clamp (by omega), vs]
            refine ⟨fun _ => ?_, fun z => absurd z (nI_n2 (by omega))⟩
            rintro u rfl
            rw [nI_1]; exact leave
  have l51 : ∀ (n : Nat), n < 1444 → (∀ υ on', fr [] [184] τ1 υ → (∀ t, t < 1444 → fcl (nxS c) (whS c.2.2.1) (n + 1) t (ai υ 184 t)) → (on' = true ↔ ∃ t, t < 1444 ∧ Lst (nxS c) (whS c.2.2.1) (n + 1) t) → S_BM_fillsFar_43 g Q υ (bI on') (nI (n + 1))) → ∀ (m s : Nat) (on : Bool) (τ : St), s + m = 1444 → fr [] [184] τ1 τ → (∀ t, t < 1444 → fcl (nxS c) (whS c.2.2.1) (if t < s then n + 1 else n) t (ai τ 184 t)) → (on = true ↔ ∃ t, t < s ∧ Lst (nxS c) (whS c.2.2.1) (n + 1) t) → S_BM_fillsFar_51 g Q τ (bI on) (nI n) (nI s) := by
    intro n hn hq m
    induction m with
    | zero =>
      intro s on τ hs hf hcl hon
      have e : s = 1444 := by omega
      refine sg_BM_fillsFar_51 ⟨fun _ => ?_, fun q => absurd (nI_le (a := 1444) (by omega) (by omega)) q⟩
      rintro u rfl
      rw [nI_1]
      refine hq τ on hf (fun t ht => ?_) (e ▸ hon)
      have := hcl t ht
      rw [if_pos (by omega)] at this
      exact this
    | succ m ih =>
      intro s on τ hs hf hcl hon
      refine sg_BM_fillsFar_51 ⟨fun q => absurd q (nI_ge (b := 1444) (by omega) (by decide)), fun _ => ?_⟩
      refine l61 n s hn (by omega) 4 0 on τ (by omega) hf (fun t ht _ => hcl t ht) ⟨hon, ?_, fun w' hw' => absurd hw' (by omega)⟩ (fun υ on' fu cu ou => ih (s + 1) on' υ (by omega) fu cu ou)
      have := hcl s (by omega)
      rw [if_neg (by omega)] at this
      exact this
  -- all rounds
  have full : ∀ (n : Nat) (s : Nat), s < 1444 → Lst (nxS c) (whS c.2.2.1) n s → n < 1444 ∧ ∀ j, j ≤ n → ∃ t, t < 1444 ∧ Lst (nxS c) (whS c.2.2.1) j t := by
    intro n s hs hl
    have hd := lst_down (Dom := fun s => s < 1444) (fun s w _ hw _ => hnl s w hw) hs hl
    exact ⟨pig (Lv := fun a i => Lst (nxS c) (whS c.2.2.1) a i) (fun i a b h1 h2 => lst_un h1 h2) n hd, hd⟩
  have l43 : ∀ (m n : Nat) (τ : St) (on : Bool), n + m = 1445 → fr [] [184] τ1 τ → (∀ t, t < 1444 → fcl (nxS c) (whS c.2.2.1) n t (ai τ 184 t)) → (on = true → n = 0 ∨ ∃ t, t < 1444 ∧ Lst (nxS c) (whS c.2.2.1) n t) → (on = false → ¬ ∃ t, t < 1444 ∧ Lst (nxS c) (whS c.2.2.1) n t) → n ≤ 1444 → S_BM_fillsFar_43 g Q τ (bI on) (nI n) := by
    intro m
    induction m with
    | zero => intro n τ on h1 _ _ _ _ h2; omega
    | succ m ih =>
      intro n τ on hm hf hcl hon hoff hn
      refine sg_BM_fillsFar_43 ⟨fun z => ?_, fun z => ?_⟩
      · have eo := bI_0.mp z
        refine h τ ((f1.mo (by decide) (by decide)).tr (hf.mo (by simp) (by decide))) (fun s hs => ⟨?_, fun m hm => (full m s hs (farO_some.mp hm)).1⟩)
        rcases hcl s hs with ⟨m, hm, hL, hv⟩ | ⟨hN, hv⟩
        · rw [farO_some.mpr hL, hv]; rfl
        · have : farO (nxS c) (whS c.2.2.1) s = none := by
            rw [farO_none]
            intro k hk
            obtain ⟨j, hj, hl⟩ := lst_of hk
            by_cases q : j ≤ n
            · exact hN j q hl.1
            · exact hoff eo ((full j s hs hl).2 n (by omega))
          rw [this, hv]; rfl
      · have eo : on = true := by cases on <;> first | rfl | exact absurd rfl z
        have hn2 : n < 1444 := by
          rcases hon eo with rfl | ⟨t, ht, hl⟩
          · decide
          · exact (full n t ht hl).1
        refine l51 n hn2 (fun υ on' fu cu ou => ih (n + 1) υ on' (by omega) fu cu (fun q => Or.inr (ou.mp q)) (fun q z => by have := ou.mpr z; rw [q] at this; cases this) (by omega)) 1444 0 false τ (by omega) hf (fun t ht => by rw [if_neg (by omega)]; exact hcl t ht) ⟨fun q => (by cases q), fun ⟨t, ht, _⟩ => absurd ht (by omega)⟩
  have l6 : ∀ (m s : Nat) (τ : St), s + m = 1444 → fr [] [184] τ1 τ → (∀ t, t < s → fcl (nxS c) (whS c.2.2.1) 0 t (ai τ 184 t)) → S_BM_fillsFar_6 g Q τ (nI s) := by
    intro m
    induction m with
    | zero =>
      intro s τ hs hf hcl
      refine sg_BM_fillsFar_6 ⟨fun _ => ?_, fun q => absurd (nI_le (a := 1444) (by omega) (by omega)) q⟩
      exact l43 1445 0 τ true (by omega) hf (fun t ht => hcl t (by omega)) (fun _ => Or.inl rfl) (fun q => by cases q) (by omega)
    | succ m ih =>
      intro s τ hs hf hcl
      refine sg_BM_fillsFar_6 ⟨fun q => absurd q (nI_ge (b := 1444) (by omega) (by decide)), fun _ => k_BM_isWhole (xk τ hf).1 hB (by omega) ?_⟩
      have put : ∀ v : Int32, fcl (nxS c) (whS c.2.2.1) 0 s v → vp_in (nI s) 1444 ∧ (∀ s3 : St, s3 = sai τ 184 (nI s).toNatClampNeg v → ∀ u4 : Int32, u4 = nI s + 1 → S_BM_fillsFar_6 g Q s3 u4) := by
        intro v hv
        refine ⟨vp_in_nI (by omega) (by decide), ?_⟩
        rintro s3 rfl u rfl
        rw [nI_1, nI_clamp (by omega)]
        refine ih (s + 1) _ (by omega) (hf.tr (fr_sai (by decide))) (fun t ht => ?_)
        rw [ai_sai]
        by_cases e : t = s
        · rw [if_pos ⟨rfl, e⟩, e]; exact hv
        · rw [if_neg (fun q => e q.2)]; exact hcl t (by omega)
      by_cases q : allH (sdP c.2.2.1 s)
      · rw [if_pos q]
        exact ⟨fun z => absurd z (by decide), fun _ => put 0 (Or.inl ⟨0, Nat.le_refl _, ⟨q, fun j hj => absurd hj (by omega)⟩, rfl⟩)⟩
      · rw [if_neg q]
        exact ⟨fun _ => put (-2) (Or.inr ⟨fun m hm hd => by rw [show m = 0 by omega] at hd; exact q hd, rfl⟩), fun z => absurd rfl z⟩
  exact l6 1444 0 τ1 (by omega) fr.rf (fun t ht => absurd ht (by omega))
end
