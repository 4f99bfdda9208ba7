-- a box's text: the reference, its clauses
section
variable {g : Gx} {σ : St} {L p : Nat} {T : Nat → Nat}
theorem laid137 {Q : St → Prop} {B : Nat} {x : Int32} (h2 : ai σ 159 2 = nI B) (hB : B < 3) (h : ∀ τ, fr [] [159, 161] σ τ → (∀ k, ai τ 159 k = if k = 2 then nI (B + 1) else ai σ 159 k) → (∀ k, ai τ 161 k = if k = B then x else ai σ 161 k) → Q τ) : S_BM_laidBall_137 g Q σ x := by
  refine sg_BM_laidBall_137 ⟨pk_in 2 3 (by decide), ?_⟩
  rw [cl2, h2, nI_clamp (by omega)]
  refine ⟨vp_in_nI hB (by decide), ?_⟩
  rintro s1 e1
  refine ⟨pk_in 2 3 (by decide), pk_in 2 3 (by decide), ?_⟩
  rintro s2 e2
  have a2 : ai s1 159 2 = nI B := by rw [e1, ai_sai, if_neg (fun z => absurd z.1 (by decide))]; exact h2
  rw [a2, nI_1] at e2
  refine h s2 (by rw [e2, e1]; exact (fr_sai (by decide)).tr (fr_sai (by decide))) (fun k => ?_) (fun k => ?_)
  · rw [e2, ai_sai, e1, ai_sai, if_neg (c := 159 = 161 ∧ _) (fun z => absurd z.1 (by decide))]; simp only [true_and]
  · rw [e2, ai_sai, if_neg (fun z => absurd z.1 (by decide)), e1, ai_sai]; simp only [true_and]
theorem laid78F {Q : St → Prop} {B f : Nat} {x y : Int32} (h2 : ai σ 159 2 = nI B) (hB : B < 3) (hF : FlM σ f) (h : ∀ τ, fr [] [159, 161] σ τ → FlM τ f → Q τ) : ∀ n i, i + n = B → S_BM_laidBall_78 g Q σ x y 0 (nI i) := by
  intro n
  induction n with
  | zero =>
    intro i hi
    refine sg_BM_laidBall_78 ⟨pk_in 2 3 (by decide), ?_⟩
    rw [cl2, h2]
    refine ⟨fun _ => ⟨fun _ => laid137 h2 hB (fun τ hf _ _ => h τ hf (hF.fr hf (by decide) (by decide))), fun c => absurd c hF.ne⟩, fun c => absurd (nI_le (by omega) (by omega)) c⟩
  | succ n ih =>
    intro i hi
    refine sg_BM_laidBall_78 ⟨pk_in 2 3 (by decide), ?_⟩
    rw [cl2, h2]
    refine ⟨fun c => absurd c (nI_ge (by omega) (by omega)), fun _ => ⟨fun _ => ?_, fun c => absurd rfl c⟩⟩
    rintro u rfl
    rw [nI_1]
    exact ih (i + 1) (by omega)
theorem bad78 {Q : St → Prop} {B : Nat} {x y : Int32} (h13 : fi σ 151 13 = 0) (h2 : ai σ 159 2 = nI B) (hB : B < 3) (hbad : K_BM_fails g 5 x σ (fun s => S_BM_laidBall_137 g Q s y)) : ∀ n i, i + n = B → S_BM_laidBall_78 g Q σ x y 0 (nI i) := by
  intro n
  induction n with
  | zero =>
    intro i hi
    refine sg_BM_laidBall_78 ⟨pk_in 2 3 (by decide), ?_⟩
    rw [cl2, h2]
    exact ⟨fun _ => ⟨fun q => absurd h13 q, fun _ => ⟨fun q => absurd rfl q, fun _ => hbad⟩⟩, fun c => absurd (nI_le (by omega) (by omega)) c⟩
  | succ n ih =>
    intro i hi
    refine sg_BM_laidBall_78 ⟨pk_in 2 3 (by decide), ?_⟩
    rw [cl2, h2]
    refine ⟨fun c => absurd c (nI_ge (by omega) (by omega)), fun _ => ⟨fun _ => ?_, fun c => absurd rfl c⟩⟩
    rintro u rfl
    rw [nI_1]
    exact ih (i + 1) (by omega)
theorem good78 {Q : St → Prop} {B c : Nat} {P : Nat → Nat} {x : Int32} (h13 : fi σ 151 13 = 0) (h2 : ai σ 159 2 = nI B) (hB : B < 3) (hP : ∀ i, i < B → ai σ 161 i = nI (P i) ∧ P i < 64) (hc : c < 64) (hok : (∀ i, i < B → P i ≠ c) → S_BM_laidBall_137 g Q σ (nI c)) (hbad : ¬ (∀ i, i < B → P i ≠ c) → K_BM_fails g 5 x σ (fun s => S_BM_laidBall_137 g Q s (nI c))) : ∀ n i, i + n = B → (∀ j, j < i → P j ≠ c) → S_BM_laidBall_78 g Q σ x (nI c) 1 (nI i) := by
  intro n
  induction n with
  | zero =>
    intro i hi hj
    have e : i = B := by omega
    subst e
    refine sg_BM_laidBall_78 ⟨pk_in 2 3 (by decide), ?_⟩
    rw [cl2, h2]
    exact ⟨fun _ => ⟨fun q => absurd h13 q, fun _ => ⟨fun _ => hok hj, fun q => absurd q (by decide)⟩⟩, fun q => absurd (Int32.le_refl _) q⟩
  | succ n ih =>
    intro i hi hj
    obtain ⟨p1, p2⟩ := hP i (by omega)
    refine sg_BM_laidBall_78 ⟨pk_in 2 3 (by decide), ?_⟩
    rw [cl2, h2]
    refine ⟨fun q => absurd q (nI_ge (by omega) (by omega)), fun _ => ⟨fun q => absurd q (by decide), fun _ => ⟨vp_in_nI (by omega) (by decide), ?_⟩⟩⟩
    rw [nI_clamp (by omega), p1]
    refine pk_eq (P i) c (fun q => ?_) (fun q => ?_)
    · rintro u rfl
      rw [nI_1]
      exact bad78 h13 h2 hB (hbad (fun z => z i (by omega) q)) n (i + 1) (by omega)
    · rintro u rfl
      rw [nI_1]
      refine ih (i + 1) (by omega) (fun j hj2 => ?_)
      by_cases e : j = i
      · rw [e]; exact q
      · exact hj j (by omega)
theorem k_BM_laidBall {Q : St → Prop} {b : BxT} (hx : TxM σ L T) (hpL : p ≤ L) (h12 : fi σ 151 12 = nI p) (h13 : fi σ 151 13 = 0) (hb : BxM σ b) (ho : BxOk b) (hB : b.2.2.1 < 3) (hbad : ∀ e, balF L T b p = .inl e → ∀ τ, fr [(151, 12), (151, 13), (151, 21)] [159, 160, 161] σ τ → FlM τ e → Q τ) (hok : ∀ r, balF L T b p = .inr r → ∀ τ, fr [(151, 12), (151, 13), (151, 21)] [159, 160, 161] σ τ → fi τ 151 13 = 0 → fi τ 151 12 = nI r.2 → BxM τ r.1 → Q τ) : K_BM_laidBall g σ Q := by
  have hL := hx.2.1
  have sl : skF L T p ≤ L := skF_le hpL
  unfold balF at hbad hok
  refine ko_BM_laidBall (sg_BM_laidBall_0 (k_BM_blanks hx h12 (by omega) ?_))
  rintro u rfl
  rw [show fi (sfi σ 151 12 (nI (skF L T p))) 151 12 = nI (skF L T p) from rfl]
  have f0 : fr [(151, 12), (151, 13)] [] σ (sfi σ 151 12 (nI (skF L T p))) := fr_sfi (by decide)
  have endF : ∀ e (v : Int32) τ, fr [(151, 12), (151, 13)] [] σ τ → FlM τ e → (∀ τ, fr [(151, 12), (151, 13), (151, 21)] [159, 160, 161] σ τ → FlM τ e → Q τ) → S_BM_laidBall_78 g Q τ (nI (skF L T p)) v 0 0 := by
    intro e v τ hf hF hq
    refine laid78F (B := b.2.2.1) (by rw [(hf.2 159 (by decide)).1]; exact hb.1.2.2) hB hF (fun τ2 f2 hF2 => hq τ2 ((hf.mo (by decide) (by simp)).tr (f2.mo (by simp) (by decide))) hF2) b.2.2.1 0 (by omega)
  refine k_BM_amount (hx.at (by decide)) rfl sl h13 (fun f hf v τ ff hF => ?_) (fun x e1 hf => ?_)
  · rw [skF_skF] at hf
    rw [hf] at hbad
    have F : fr [(151, 12), (151, 13)] [] σ τ := f0.tr ff
    refine k_BM_amountF (hx.frm F (by decide) (by decide)) hF (fun τ2 f2 hF2 => ?_)
    rintro u7 rfl
    exact ⟨fun _ => endF f _ τ2 (F.tr f2) hF2 (hbad f rfl), fun c => absurd c hF2.ne⟩
  · rw [skF_skF] at hf
    rw [hf] at hbad hok
    dsimp only at hbad hok
    obtain ⟨x5, q1, q2⟩ := coF_ok sl hf
    have sl2 : skF L T e1 ≤ L := skF_le q2
    rw [sfi_sfi]
    refine k_BM_amount (hx.at (by decide)) (p := e1) rfl q2 h13 (fun f hf2 v τ ff hF => ?_) (fun y e2 hf2 => ?_)
    · rw [hf2] at hbad
      rintro u7 rfl
      exact ⟨fun _ => endF f _ τ ((fr_sfi (by decide)).tr ff) hF (hbad f rfl), fun c => absurd c hF.ne⟩
    · rw [hf2] at hbad hok
      dsimp only at hbad hok
      obtain ⟨y5, q3, q4⟩ := coF_ok sl2 hf2
      rw [sfi_sfi]
      obtain ⟨σ', hσ'⟩ : ∃ s, s = sfi σ 151 12 (nI e2) := ⟨_, rfl⟩
      rw [← hσ']
      have f1 : fr [(151, 12)] [] σ σ' := by rw [hσ']; exact fr_sfi (by decide)
      obtain ⟨⟨c0, c1, c2⟩, hK, hP, hH⟩ := hb.frm f1 (by decide) (by decide) (by decide) (by decide)
      have s13 : fi σ' 151 13 = 0 := by rw [hσ']; exact h13
      have s12 : fi σ' 151 12 = nI e2 := by rw [hσ']; rfl
      have b1 := ho.1
      rintro u7 rfl
      have e6 : (6 : Int32) * nI y + nI x = nI (6 * y + x) := by
        show nI 6 * nI y + nI x = _
        rw [pk_mul, nI_add]
      rw [e6]
      have fail : ¬ ((x < b.1 ∧ y < b.2.1) ∧ b.2.2.2.1 (6 * y + x) = 0 ∧ whoM b.2.2.2.2.1 b.2.2.1 (6 * y + x) = -1) → K_BM_fails g 5 (nI (skF L T p)) σ' (fun s => S_BM_laidBall_137 g Q s (nI (6 * y + x))) := by
        intro w
        rw [if_neg w] at hbad
        refine k_BM_failsF (c := 5) (fun τ hf => ?_)
        obtain ⟨a, b'⟩ := hf.of s13 s12 (by omega) (by decide) (by omega)
        refine laid137 (B := b.2.2.1) (by rw [(b'.2 159 (by decide)).1]; exact c2) hB (fun τ2 f2 _ _ => ?_)
        exact hbad _ rfl τ2 ((f1.mo (by decide) (by simp)).tr ((b'.mo (by decide) (by simp)).tr (f2.mo (by simp) (by decide)))) (a.fr f2 (by decide) (by decide))
      have no : ¬ ((x < b.1 ∧ y < b.2.1) ∧ b.2.2.2.1 (6 * y + x) = 0 ∧ whoM b.2.2.2.2.1 b.2.2.1 (6 * y + x) = -1) → S_BM_laidBall_78 g Q σ' (nI (skF L T p)) (nI (6 * y + x)) 0 0 := fun w => bad78 s13 c2 hB (fail w) b.2.2.1 0 (by omega)
      refine ⟨fun c => absurd s13 c, fun _ => ⟨pk_in 0 3 (by decide), ?_⟩⟩
      rw [cl0, cl1, c0]
      refine pk_le b.1 x (fun w => no (by omega)) (fun w => ⟨pk_in 1 3 (by decide), ?_⟩)
      rw [c1]
      refine pk_le b.2.1 y (fun w2 => no (by omega)) (fun w2 => ⟨vp_in_nI (by omega) (by decide), ?_⟩)
      have k4 := ho.2.1 (6 * y + x) (by omega)
      rw [nI_clamp (by omega), hK _ (by omega)]
      refine pk_eq (b.2.2.2.1 (6 * y + x)) 0 (fun w3 => ?_) (fun w3 => no (by omega)) |>.symm
      refine good78 s13 c2 hB (P := b.2.2.2.2.1) (fun i hi => ⟨hP i hi, by have := (ho.2.2.1.1.2 i).1; omega⟩) (by omega) (fun w4 => ?_) (fun w4 => fail (fun z => w4 (whoM_no z.2.2 b1.2.2.1))) b.2.2.1 0 (by omega) (fun j hj => absurd hj (Nat.not_lt_zero _))
      rw [if_pos ⟨⟨w, w2⟩, w3, who_of w4⟩] at hok
      refine laid137 (B := b.2.2.1) c2 hB (fun τ2 f2 a159 a161 => ?_)
      refine hok _ rfl τ2 ((f1.mo (by decide) (by simp)).tr (f2.mo (by simp) (by decide))) (by rw [(f2.1 151 13 (by decide)).1]; exact s13) (by rw [(f2.1 151 12 (by decide)).1]; exact s12) ⟨⟨?_, ?_, ?_⟩, ?_, fun i hi => ?_, ?_⟩
      · rw [a159, if_neg (by decide)]; exact c0
      · rw [a159, if_neg (by decide)]; exact c1
      · rw [a159, if_pos rfl]
      · rw [(f2.2 160 (by decide)).1]; exact hK
      · have hi : i < b.2.2.1 + 1 := hi
        rw [a161]
        show _ = nI (upP b.2.2.2.2.1 b.2.2.1 (6 * y + x) i)
        by_cases e : i = b.2.2.1
        · rw [if_pos e, e, upP_same]
        · rw [if_neg e, upP_ne e]; exact hP i (by omega)
      · rw [(f2.1 151 21 (by decide)).1]; exact hH
theorem k_BM_boxClause {Q : St → Prop} {b : BxT} {n : Nat} (hn : n ≤ 12) (hx : TxM σ L T) (hpL : p ≤ L) (h12 : fi σ 151 12 = nI p) (h13 : fi σ 151 13 = 0) (hb : BxM σ b) (ho : BxOk b) (hbad : ∀ e, bclF L T b p n = .inl e → ∀ τ, fr [(151, 12), (151, 13), (151, 21)] [159, 160, 161] σ τ → FlM τ e → Q τ) (hok : ∀ r, bclF L T b p n = .inr r → ∀ τ, fr [(151, 12), (151, 13), (151, 21)] [159, 160, 161] σ τ → fi τ 151 13 = 0 → fi τ 151 12 = nI r.2 → BxM τ r.1 → Q τ) : K_BM_boxClause g (nI n) σ Q := by
  have hL := hx.2.1
  have sl : skF L T p ≤ L := skF_le hpL
  obtain ⟨o1, -⟩ := id ho
  unfold bclF at hbad hok
  refine ko_BM_boxClause (sg_BM_boxClause_0 (k_BM_blanks hx h12 (by omega) ?_))
  rintro u rfl
  obtain ⟨σ', hσ'⟩ : ∃ s, s = sfi σ 151 12 (nI (skF L T p)) := ⟨_, rfl⟩
  rw [← hσ']
  have f1 : fr [(151, 12)] [] σ σ' := by rw [hσ']; exact fr_sfi (by decide)
  have f1' : fr [(151, 12), (151, 13), (151, 21)] [159, 160, 161] σ σ' := f1.mo (by decide) (by simp)
  have hb' : BxM σ' b := hb.frm f1 (by decide) (by decide) (by decide) (by decide)
  have s13 : fi σ' 151 13 = 0 := by rw [hσ']; exact h13
  have s12 : fi σ' 151 12 = nI (skF L T p) := by rw [hσ']; rfl
  have hx' : TxM σ' L T := by rw [hσ']; exact hx.at (by decide)
  rw [s12]
  have bl : ∀ c, c ≤ 5 → (∀ τ, fr [(151, 12), (151, 13), (151, 21)] [159, 160, 161] σ τ → FlM τ (flt (skF L T p) c) → Q τ) → K_BM_fails g (nI c) (nI (skF L T p)) σ' (fun s => Q s) := fun c hc hq =>
    k_BM_failsF (c := c) (fun τ hf => by
      obtain ⟨a, b'⟩ := hf.of s13 s12 (by omega) hc (by omega)
      exact hq τ (f1'.tr (b'.mo (by decide) (by simp))) a)
  have full : ∀ x3 z0 : Int32, (n = 12 ∨ ¬ z0 = 0) → (∀ τ, fr [(151, 12), (151, 13), (151, 21)] [159, 160, 161] σ τ → FlM τ (flt (skF L T p) 4) → Q τ) → S_BM_boxClause_93 g Q σ' (nI n) (nI (skF L T p)) x3 z0 := by
    intro x3 z0 hz hq
    refine sg_BM_boxClause_93 (pk_eq n 12 (fun q => bl 4 (by decide) hq) (fun q => ⟨fun z => ?_, fun z => bl 4 (by decide) hq⟩))
    exact absurd z (hz.resolve_left q)
  refine k_BM_stood (by decide) hx' s12 (by omega) (fun w => ⟨fun _ => ?_, fun c => absurd c (by decide)⟩) (fun w => ⟨fun c => absurd rfl c, fun _ => ?_⟩)
  · rw [if_pos (wdB_iff.mpr w)] at hbad hok
    have wl := wdIs_le sl w
    rw [sl0] at wl
    refine sg_BM_boxClause_37 ⟨fun c => absurd c (by decide), fun _ => ⟨pk_in 1 3 (by decide), ?_⟩⟩
    rw [cl1, cl2, hb'.1.2.1]
    refine pk_eq b.2.1 6 (fun q => ?_) (fun q => ⟨pk_in 2 3 (by decide), ?_⟩)
    · rw [if_pos (Or.inr (Or.inl q))] at hbad
      exact full 1 1 (Or.inr (by decide)) (hbad _ rfl)
    · rw [hb'.1.2.2]
      refine pk_le b.2.2.1 0 (fun q2 => ?_) (fun q2 => ?_)
      · by_cases n12 : n = 12
        · rw [if_pos (Or.inl n12)] at hbad
          exact full 1 0 (Or.inl n12) (hbad _ rfl)
        · rw [if_neg (fun z => by omega)] at hbad hok
          refine sg_BM_boxClause_93 ⟨fun c => absurd ((nI_eq (b := 12) (by omega) (by decide)).mp c) n12, fun _ => ⟨fun _ => ⟨fun c => absurd c (by decide), fun _ => ?_⟩, fun c => absurd rfl c⟩⟩
          rintro s5 rfl
          refine ⟨fun c => absurd c (by decide), fun _ => ?_⟩
          rw [s12, show nI (skF L T p) + 3 = nI (skF L T p + 3) from nI_add _ 3]
          refine k_BM_signs (hx'.at (by decide)) wl rfl s13 (hb'.frm (F := [(151, 12)]) (M := []) (fr_sfi (by decide)) (by decide) (by decide) (by decide) (by decide)) ho (by omega) (by omega) (fun e he τ hf hF => hbad e he τ (f1'.tr ((fr_sfi (by decide)).tr hf)) hF) (fun r he τ hf t3 t2 hc => hok r he τ (f1'.tr ((fr_sfi (by decide)).tr hf)) t3 t2 hc)
      · rw [if_pos (Or.inr (Or.inr q2))] at hbad
        exact full 1 1 (Or.inr (by decide)) (hbad _ rfl)
  · rw [if_neg (fun z => w (wdB_iff.mp z))] at hbad hok
    refine k_BM_stood (by decide) hx' s12 (by omega) (fun w => ⟨fun _ => ?_, fun c => absurd c (by decide)⟩) (fun w => ⟨fun c => absurd rfl c, fun _ => ?_⟩)
    · rw [if_pos (wdB_iff.mpr w)] at hbad hok
      have wl := wdIs_le sl w
      rw [sl1] at wl
      refine sg_BM_boxClause_37 ⟨fun _ => ⟨pk_in 1 3 (by decide), ?_⟩, fun c => absurd rfl c⟩
      rw [cl1, cl2, hb'.1.2.1]
      refine pk_eq b.2.1 0 (fun q => ?_) (fun q => ⟨pk_in 2 3 (by decide), ?_⟩)
      · rw [if_pos (Or.inr (Or.inl q))] at hbad
        exact full 0 1 (Or.inr (by decide)) (hbad _ rfl)
      · rw [hb'.1.2.2]
        refine pk_eq b.2.2.1 3 (fun q2 => ?_) (fun q2 => ?_) |>.symm
        · rw [if_pos (Or.inr (Or.inr q2))] at hbad
          exact full 0 1 (Or.inr (by decide)) (hbad _ rfl)
        · by_cases n12 : n = 12
          · rw [if_pos (Or.inl n12)] at hbad
            exact full 0 0 (Or.inl n12) (hbad _ rfl)
          · rw [if_neg (fun z => by omega)] at hbad hok
            refine sg_BM_boxClause_93 ⟨fun c => absurd ((nI_eq (b := 12) (by omega) (by decide)).mp c) n12, fun _ => ⟨fun _ => ⟨fun _ => ?_, fun c => absurd rfl c⟩, fun c => absurd rfl c⟩⟩
            rintro s5 rfl
            refine ⟨fun _ => ?_, fun c => absurd rfl c⟩
            rw [s12, show nI (skF L T p) + 4 = nI (skF L T p + 4) from nI_add _ 4]
            refine k_BM_laidBall (hx'.at (by decide)) wl rfl s13 (hb'.frm (F := [(151, 12)]) (M := []) (fr_sfi (by decide)) (by decide) (by decide) (by decide) (by decide)) ho (by omega) (fun e he τ hf hF => hbad e he τ (f1'.tr ((fr_sfi (by decide)).tr hf)) hF) (fun r he τ hf t3 t2 hc => hok r he τ (f1'.tr ((fr_sfi (by decide)).tr hf)) t3 t2 hc)
    · rw [if_neg (fun z => w (wdB_iff.mp z))] at hbad
      exact bl 0 (by decide) (hbad _ rfl)
theorem k_BM_goesOn {Q : Int32 → St → Prop} (hx : TxM σ L T) (hpL : p ≤ L) (h12 : fi σ 151 12 = nI p) (h13 : fi σ 151 13 = 0) (hend : L ≤ skF L T p → ∀ τ, fr [(151, 12)] [] σ τ → Q 0 τ) (hgo : skF L T p < L → T (skF L T p) = 59 → Q 1 (sfi σ 151 12 (nI (skF L T p + 1)))) (hbad : skF L T p < L → T (skF L T p) ≠ 59 → ∀ τ, fr [(151, 12), (151, 13)] [] σ τ → fi τ 151 13 = nI (flt (skF L T p) 0) → Q 0 τ) : K_BM_goesOn g σ Q := by
  have hL := hx.2.1
  have sl : skF L T p ≤ L := skF_le hpL
  refine ko_BM_goesOn (sg_BM_goesOn_0 (k_BM_blanks hx h12 (by omega) ?_))
  obtain ⟨σ', hσ'⟩ : ∃ s, s = sfi σ 151 12 (nI (skF L T p)) := ⟨_, rfl⟩
  rw [← hσ']
  have f1 : fr [(151, 12)] [] σ σ' := by rw [hσ']; exact fr_sfi (by decide)
  have s13 : fi σ' 151 13 = 0 := by rw [hσ']; exact h13
  have s12 : fi σ' 151 12 = nI (skF L T p) := by rw [hσ']; rfl
  have hx' : TxM σ' L T := by rw [hσ']; exact hx.at (by decide)
  refine ⟨fun c => absurd s13 c, fun _ => ?_⟩
  rw [hx'.1, s12]
  have stop : ∀ τ, fi τ 151 12 = nI (skF L T p) → fi τ 151 11 = nI L → (fi τ 151 13 ≠ 0 → ∀ s, s = sfi τ 151 12 (nI (skF L T p) + 1) → Q 0 s) → (fi τ 151 13 = 0 → L ≤ skF L T p → ∀ s, s = sfi τ 151 12 (nI (skF L T p) + 1) → Q 0 s) → (fi τ 151 13 = 0 → skF L T p < L → ∀ s, s = sfi τ 151 12 (nI (skF L T p) + 1) → Q 1 s) → S_BM_goesOn_40 g Q τ := by
    intro τ a1 a2 b1 b2 b3
    refine sg_BM_goesOn_40 ⟨fun c => ?_, fun c => ?_⟩
    · rw [a1]; exact b1 c
    · rw [a1, a2]
      exact pk_le L (skF L T p) (b2 c) (b3 c)
  refine pk_le L (skF L T p) (fun q => ?_) (fun q => ?_)
  · refine stop σ' s12 hx'.1 (fun c => absurd s13 c) (fun _ _ s e => hend q s ?_) (fun _ c => absurd c (by omega))
    rw [e]; exact f1.tr (fr_sfi (by decide))
  · refine k_BM_sign hx' s12 (by omega) ?_
    have sgn := sgI_eq (p := skF L T p) hx'.b (by decide : 59 < 256)
    refine ⟨fun z => ?_, fun z => ?_⟩
    · have z := sgn.mp z
      refine stop σ' s12 hx'.1 (fun c => absurd s13 c) (fun _ c => absurd c (by omega)) (fun _ _ s e => ?_)
      rw [e, nI_1, hσ', sfi_sfi]
      exact hgo q z.2
    · rw [s12]
      refine k_BM_failsF (c := 0) (fun τ hf => ?_)
      obtain ⟨a, b'⟩ := hf.of s13 s12 (by omega) (by decide) (by omega)
      have e : τ = sfi σ' 151 13 (nI (flt (skF L T p) 0)) := hf.elim (fun z => absurd s13 z.1) (fun z => z.2)
      refine stop τ (by rw [e]; exact s12) (by rw [e]; exact hx'.1) (fun _ s es => ?_) (fun c => absurd c a.ne) (fun c => absurd c a.ne)
      refine hbad q (fun w => z (sgn.mpr ⟨q, w⟩)) s ?_ ?_
      · rw [es]; exact (f1.mo (by decide) (by simp)).tr (b'.tr (fr_sfi (by decide)))
      · rw [es]; exact a.1
theorem k_BM_goesOnF {Q : Int32 → St → Prop} {f : Nat} (hx : TxM σ L T) (hF : FlM σ f) (h : ∀ τ, fr [(151, 12)] [] σ τ → Q 0 τ) : K_BM_goesOn g σ Q := by
  obtain ⟨p, hp5, hp⟩ := hF.2.2.2
  refine ko_BM_goesOn (sg_BM_goesOn_0 (k_BM_blanks hx hp hp5 ?_))
  have a := hF.at (skF_402 (T := T) hx.2.1 hp5)
  refine ⟨fun _ => sg_BM_goesOn_40 ⟨fun _ => ?_, fun c => absurd c a.ne⟩, fun c => absurd c a.ne⟩
  rintro s rfl
  exact h _ ((fr_sfi (by decide)).tr (fr_sfi (by decide)))
end
