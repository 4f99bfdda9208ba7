-- a box's text: the reference
def hbN (H : Nat → Bool) : Nat := (if H 2 = true then 4 else 0) + (if H 3 = true then 8 else 0) + (if H 4 = true then 16 else 0)
theorem hb_get {H : Nat → Bool} {k : Nat} (h2 : 2 ≤ k) (h4 : k ≤ 4) : ((nI (hbN H) >>> (nI k &&& 31)) &&& 1) = 1 ↔ H k = true := by
  unfold hbN
  rcases (show k = 2 ∨ k = 3 ∨ k = 4 by omega) with rfl | rfl | rfl <;> cases H 2 <;> cases H 3 <;> cases H 4 <;> decide
theorem hb_set {H : Nat → Bool} {k : Nat} (h2 : 2 ≤ k) (h4 : k ≤ 4) : nI (hbN H) ||| ((1 : Int32) <<< (nI k &&& 31)) = nI (hbN (upB H k)) := by
  unfold hbN upB
  rcases (show k = 2 ∨ k = 3 ∨ k = 4 by omega) with rfl | rfl | rfl <;> cases H 2 <;> cases H 3 <;> cases H 4 <;> decide
theorem hb_lo {H : Nat → Bool} {k : Nat} (h : k < 2) : upB H k = H := by
  funext j
  exact upB_lo (fun z => by omega)
theorem or_0 (x : Int32) : x ||| 0 = x := by
  apply b_ext
  intro i hi
  rw [b_or]
  have : bt 0 i = false := by
    have := bt_nI (n := 0) hi
    rw [show (0 : Int32) = nI 0 from rfl, this]; simp
  rw [this, Bool.or_false]
def BxM (σ : St) (b : BxT) : Prop := (ai σ 159 0 = nI b.1 ∧ ai σ 159 1 = nI b.2.1 ∧ ai σ 159 2 = nI b.2.2.1) ∧ (∀ c, c < 36 → ai σ 160 c = nI (b.2.2.2.1 c)) ∧ (∀ i, i < b.2.2.1 → ai σ 161 i = nI (b.2.2.2.2.1 i)) ∧ fi σ 151 21 = nI (hbN b.2.2.2.2.2)
theorem flt_b {p c : Nat} (hp : p ≤ 402) (hc : c ≤ 5) : 0 < flt p c ∧ flt p c < 4000 := by unfold flt; omega
theorem who_of {P : Nat → Nat} {B c : Nat} (h : ∀ i, i < B → P i ≠ c) : whoM P B c = -1 := by
  unfold whoM
  rw [if_neg (fun z => h 0 z.1 z.2), if_neg (fun z => h 1 z.1 z.2), if_neg (fun z => h 2 z.1 z.2)]
theorem rowL_adv {L R : Nat} {T : Nat → Nat} : ∀ {f p n : Nat} {K : Nat → Nat} {H : Nat → Bool} {r : Nat × Nat × (Nat → Nat) × (Nat → Bool)}, rowL L T R f p n K H = .inr r → r.1 + n = p + r.2.1
  | 0, p, n, K, H, r, h => by
    unfold rowL at h
    cases h
    dsimp only
  | f + 1, p, n, K, H, r, h => by
    unfold rowL at h
    cases hk : kdA L T p with
    | none => rw [hk] at h; cases h; dsimp only
    | some k =>
      rw [hk] at h
      dsimp only at h
      split at h
      · cases h
      · have := rowL_adv (f := f) h
        omega
section
variable {g : Gx} {σ : St} {L p : Nat} {T : Nat → Nat}
theorem BxM.frm {τ : St} {b : BxT} {F : List (Nat × Nat)} {M : List Nat} (h : BxM σ b) (hf : fr F M σ τ) (h1 : (151, 21) ∉ F) (m1 : 159 ∉ M) (m2 : 160 ∉ M) (m3 : 161 ∉ M) : BxM τ b := by
  unfold BxM
  rw [(hf.2 159 m1).1, (hf.2 160 m2).1, (hf.2 161 m3).1, (hf.1 151 21 h1).1]
  exact h
theorem k_BM_signKind {Q : Int32 → St → Prop} (h : TxM σ L T) (hp : fi σ 151 12 = nI p) (hp31 : p < 2 ^ 31) (hQ : Q (oI (kdA L T p)) σ) : K_BM_signKind g σ Q := by
  have hL := h.2.1
  refine ko_BM_signKind (sg_BM_signKind_0 ?_)
  rw [h.1, hp]
  unfold kdA kdO at hQ
  refine pk_lt p L (fun q => ⟨vp_in_nI (by omega) (by decide), ?_⟩) (fun q => ?_)
  · rw [if_pos q] at hQ
    obtain ⟨b1, b2⟩ := h.2.2 p q
    have lit : ∀ c, c < 128 → ((nI (T p)).toInt8.toInt32 = nI c ↔ T p = c) := fun c hc => tb_lit b2 hc
    rw [nI_clamp hp31, b1]
    refine ⟨fun z => ?_, fun z => ?_, fun z => ?_, fun z => ?_, fun z => ?_, fun z1 z2 z3 z4 z5 => ?_⟩
    · have z := (lit 35 (by decide)).mp z
      rw [if_neg (by omega), if_pos z] at hQ; exact hQ
    · have z := (lit 46 (by decide)).mp z
      rw [if_pos z] at hQ; exact hQ
    · have z := (lit 49 (by decide)).mp z
      rw [if_neg (by omega), if_neg (by omega), if_pos (by omega), z] at hQ; exact hQ
    · have z := (lit 50 (by decide)).mp z
      rw [if_neg (by omega), if_neg (by omega), if_pos (by omega), z] at hQ; exact hQ
    · have z := (lit 51 (by decide)).mp z
      rw [if_neg (by omega), if_neg (by omega), if_pos (by omega), z] at hQ; exact hQ
    · have y1 : T p ≠ 35 := fun w => z1 ((lit 35 (by decide)).mpr w)
      have y2 : T p ≠ 46 := fun w => z2 ((lit 46 (by decide)).mpr w)
      have y3 : T p ≠ 49 := fun w => z3 ((lit 49 (by decide)).mpr w)
      have y4 : T p ≠ 50 := fun w => z4 ((lit 50 (by decide)).mpr w)
      have y5 : T p ≠ 51 := fun w => z5 ((lit 51 (by decide)).mpr w)
      rw [if_neg y2, if_neg y1, if_neg (by omega)] at hQ; exact hQ
  · rw [if_neg (by omega)] at hQ; exact hQ
theorem signs_6F {Q : St → Prop} {f : Nat} {x : Int32} (hF : FlM σ f) (h : S_BM_signs_135 g Q σ x) : S_BM_signs_6 g Q σ x := sg_BM_signs_6 ⟨fun _ => ⟨fun _ => h, fun c => absurd c hF.ne⟩, fun c => absurd c hF.ne⟩
theorem row_loopM {Q : St → Prop} {R : Nat} (hR : R < 6) : ∀ (f p n : Nat) (K : Nat → Nat) (H : Nat → Bool) (σ : St), n + f = 7 → n ≤ 6 → p ≤ L → TxM σ L T → fi σ 151 12 = nI p → fi σ 151 13 = 0 → ai σ 159 1 = nI R → (∀ c, c < 36 → ai σ 160 c = nI (K c)) → fi σ 151 21 = nI (hbN H) → (∀ e, rowL L T R f p n K H = .inl e → ∀ x τ, fr [(151, 12), (151, 13), (151, 21)] [160] σ τ → FlM τ e → S_BM_signs_135 g Q τ x) → (∀ r, rowL L T R f p n K H = .inr r → ∀ τ, fr [(151, 12), (151, 21)] [160] σ τ → fi τ 151 12 = nI r.1 → (∀ c, c < 36 → ai τ 160 c = nI (r.2.2.1 c)) → fi τ 151 21 = nI (hbN r.2.2.2) → (¬ r.2.1 = 0 → S_BM_signs_135 g Q τ (nI r.2.1)) ∧ (r.2.1 = 0 → K_BM_fails g 0 (nI r.1) τ (fun s => S_BM_signs_135 g Q s (nI r.2.1)))) → S_BM_signs_6 g Q σ (nI n) := by
  intro f
  induction f with
  | zero => intro p n K H σ hn hn6; omega
  | succ f ih =>
    intro p n K H σ hn hn6 hpL hx h12 h13 h159 hK hH hbad hend
    have hL := hx.2.1
    unfold rowL at hbad hend
    refine sg_BM_signs_6 ⟨fun c => absurd h13 c, fun _ => k_BM_signKind hx h12 (by omega) ?_⟩
    cases hk : kdA L T p with
    | none =>
      rw [hk] at hend
      have := hend _ rfl σ fr.rf h12 hK hH
      refine ⟨fun _ => ⟨fun c => absurd h13 c, fun _ => ?_⟩, fun c => absurd rfl c⟩
      rw [h12]
      refine pk_eq n 0 (fun z => ?_) (fun z => ?_) |>.symm
      · exact this.2 z
      · exact this.1 z
    | some k =>
      rw [hk] at hbad hend
      obtain ⟨k4, hpl⟩ := kdA_le hk
      dsimp only at hbad hend
      refine ⟨fun c => absurd c.symm (m1_ne (n := k) (by omega)), fun _ => k_BM_signKind hx h12 (by omega) ?_⟩
      rw [hk, h12]
      have bl : (n = 6 ∨ 2 ≤ k ∧ H k = true) → K_BM_fails g 5 (nI p) σ (fun s => S_BM_signs_6 g Q s (nI n)) := fun w => by
        rw [if_pos w] at hbad
        refine k_BM_failsF (c := 5) (fun τ hf => ?_)
        obtain ⟨a, b⟩ := hf.of h13 h12 (by omega) (by decide) (by omega)
        exact signs_6F a (hbad _ rfl _ τ (b.mo (by decide) (by decide)) a)
      refine pk_eq n 6 (fun q6 => bl (Or.inl q6)) (fun q6 => ?_)
      have next : ¬ (2 ≤ k ∧ H k = true) → ∀ z0, nI (hbN H) ||| z0 = nI (hbN (upB H k)) → S_BM_signs_78 g Q σ (nI n) (nI k) z0 (fi σ 151 21) := by
        intro w z0 ez
        have nn : ¬ (n = 6 ∨ 2 ≤ k ∧ H k = true) := fun z => z.elim q6 w
        rw [if_neg nn] at hbad hend
        refine sg_BM_signs_78 ?_
        rintro s1 e1
        rw [hH, ez] at e1
        have a159 : ai s1 159 1 = nI R := by rw [e1]; exact h159
        have e6 : (6 : Int32) * nI R + nI n = nI (6 * R + n) := by
          show nI 6 * nI R + nI n = _
          rw [pk_mul, nI_add]
        rw [cl1, a159, e6, nI_clamp (by omega)]
        refine ⟨pk_in 1 3 (by decide), vp_in_nI (by omega) (by decide), ?_⟩
        rintro s2 e2 u3 rfl s4 e4
        have a12 : fi s2 151 12 = nI p := by rw [e2, e1]; exact h12
        rw [a12, nI_1] at e4
        have f4 : fr [(151, 12), (151, 21)] [160] σ s4 := by rw [e4, e2, e1]; exact ((fr_sfi (by decide)).tr (fr_sai (by decide))).tr (fr_sfi (by decide))
        rw [nI_1]
        refine ih (p + 1) (n + 1) (upP K (6 * R + n) k) (upB H k) s4 (by omega) (by omega) (by omega) (hx.frm f4 (by decide) (by decide)) (by rw [e4]; rfl) (by rw [(f4.1 151 13 (by decide)).1]; exact h13) (by rw [(f4.2 159 (by decide)).1]; exact h159) (fun c hc => ?_) (by rw [e4, e2, e1]; rfl) (fun e he x τ hf hF => ?_) (fun r he τ hf b1 b2 b3 => ?_)
        · rw [e4, ai_sfi, e2, ai_sai, e1, ai_sfi]
          by_cases z : c = 6 * R + n
          · rw [if_pos ⟨rfl, z⟩, z, upP_same]
          · rw [if_neg (fun y => z y.2), upP_ne z]; exact hK c hc
        · exact hbad e he x τ ((f4.mo (by decide) (by decide)).tr hf) hF
        · exact hend r he τ (f4.tr hf) b1 b2 b3
      refine pk_lt k 2 (fun q => ⟨fun _ => next (by omega) 0 (by rw [or_0, hb_lo q]), fun c => absurd (nI_lt (b := 2) q (by decide)) c⟩) (fun q => ?_)
      rw [hH]
      refine ⟨fun w => ⟨fun c => absurd c (nI_nlt (b := 2) q (by omega)), fun _ => ?_⟩, fun w => bl (Or.inr ⟨q, (hb_get q k4).mp w⟩)⟩
      have := next (fun z => w ((hb_get q k4).mpr z.2)) _ (hb_set q k4)
      rw [hH] at this; exact this
theorem signs_135F {Q : St → Prop} {f : Nat} {x : Int32} (hF : FlM σ f) (h : ∀ τ, fr [] [159] σ τ → FlM τ f → Q τ) : S_BM_signs_135 g Q σ x := by
  refine sg_BM_signs_135 ⟨fun _ => ⟨pk_in 0 3 (by decide), ?_⟩, fun c => absurd c hF.ne⟩
  rintro s1 e1
  refine ⟨pk_in 1 3 (by decide), pk_in 1 3 (by decide), ?_⟩
  rintro s2 e2
  have f2 : fr [] [159] σ s2 := by rw [e2, e1]; exact (fr_sai (by decide)).tr (fr_sai (by decide))
  exact h s2 f2 (hF.fr f2 (by decide) (by decide))
theorem k_BM_signs {Q : St → Prop} {b : BxT} (hx : TxM σ L T) (hpL : p ≤ L) (h12 : fi σ 151 12 = nI p) (h13 : fi σ 151 13 = 0) (hb : BxM σ b) (ho : BxOk b) (hB : b.2.2.1 = 0) (hR : b.2.1 < 6) (hbad : ∀ e, rowF L T b p = .inl e → ∀ τ, fr [(151, 12), (151, 13), (151, 21)] [159, 160, 161] σ τ → FlM τ e → Q τ) (hok : ∀ r, rowF L T b p = .inr r → ∀ τ, fr [(151, 12), (151, 13), (151, 21)] [159, 160, 161] σ τ → fi τ 151 13 = 0 → fi τ 151 12 = nI r.2 → BxM τ r.1 → Q τ) : K_BM_signs g σ Q := by
  have hL := hx.2.1
  have sl : skF L T p ≤ L := skF_le hpL
  obtain ⟨⟨c0, c1, c2⟩, hK, hP, hH⟩ := hb
  refine ko_BM_signs (sg_BM_signs_0 (k_BM_blanks hx h12 (by omega) ?_))
  have f0 : fr [(151, 12), (151, 13), (151, 21)] [159, 160, 161] σ (sfi σ 151 12 (nI (skF L T p))) := fr_sfi (by decide)
  refine row_loopM (R := b.2.1) hR 7 (skF L T p) 0 b.2.2.2.1 b.2.2.2.2.2 _ rfl (by decide) sl (hx.at (by decide)) rfl h13 c1 hK hH (fun e he x τ hf hF => ?_) (fun r he τ hf t12 tK tH => ?_)
  · refine signs_135F hF (fun τ2 f2 hF2 => hbad e (by unfold rowF; rw [he]) τ2 (f0.tr ((hf.mo (by decide) (by decide)).tr (f2.mo (by simp) (by decide)))) hF2)
  · have F := f0.tr (hf.mo (by decide) (by decide) : fr [(151, 12), (151, 13), (151, 21)] [159, 160, 161] _ τ)
    have t13 : fi τ 151 13 = 0 := by rw [(hf.1 151 13 (by decide)).1]; exact h13
    have t1 : ai τ 159 1 = nI b.2.1 := by rw [(hf.2 159 (by decide)).1]; exact c1
    have t0 : ai τ 159 0 = nI b.1 := by rw [(hf.2 159 (by decide)).1]; exact c0
    have ok := rowL_ok sl (by omega) ho.2.1 he
    have b6 := ho.1.1
    unfold rowF at hbad hok
    rw [he] at hbad hok
    dsimp only at hbad hok
    refine ⟨fun n0 => ?_, fun n0 => ?_⟩
    · rw [if_neg n0] at hbad hok
      have set : ¬ (0 < b.2.1 ∧ r.2.1 ≠ b.1) → ∀ s3, s3 = sai τ 159 0 (nI r.2.1) → ∀ s4, s4 = sai s3 159 1 (ai s3 159 1 + 1) → Q s4 := by
        intro nC s3 e3 s4 e4
        rw [if_neg nC] at hok
        have a1 : ai s3 159 1 = nI b.2.1 := by rw [e3, ai_sai, if_neg (by decide)]; exact t1
        rw [a1, nI_1] at e4
        have f4 : fr [] [159] τ s4 := by rw [e4, e3]; exact (fr_sai (by decide)).tr (fr_sai (by decide))
        refine hok _ rfl s4 (F.tr (f4.mo (by simp) (by decide))) (by rw [(f4.1 151 13 (by decide)).1]; exact t13) (by rw [(f4.1 151 12 (by decide)).1]; exact t12) ⟨⟨?_, ?_, ?_⟩, ?_, ?_, ?_⟩
        · rw [e4, ai_sai, if_neg (by decide), e3, ai_sai, if_pos ⟨rfl, rfl⟩]
        · rw [e4, ai_sai, if_pos ⟨rfl, rfl⟩]
        · rw [e4, ai_sai, if_neg (by decide), e3, ai_sai, if_neg (by decide), (hf.2 159 (by decide)).1]; exact c2
        · rw [(f4.2 160 (by decide)).1]; exact tK
        · intro i hi
          have hi : i < b.2.2.1 := hi
          omega
        · rw [(f4.1 151 21 (by decide)).1]; exact tH
      refine sg_BM_signs_135 ⟨fun c => absurd t13 c, fun _ => ⟨pk_in 1 3 (by decide), ?_⟩⟩
      rw [cl1, cl0, t1]
      refine pk_le b.2.1 0 (fun r0 => ⟨pk_in 0 3 (by decide), fun s3 e3 => ⟨pk_in 1 3 (by decide), pk_in 1 3 (by decide), set (by omega) s3 e3⟩⟩) (fun r0 => ⟨pk_in 0 3 (by decide), ?_⟩)
      rw [t0]
      refine pk_eq r.2.1 b.1 (fun w => ⟨pk_in 0 3 (by decide), fun s3 e3 => ⟨pk_in 1 3 (by decide), pk_in 1 3 (by decide), set (by omega) s3 e3⟩⟩) (fun w => ?_)
      rw [if_pos ⟨r0, w⟩] at hbad
      have adv := rowL_adv he
      rw [t12, nI_m1 (by omega)]
      refine k_BM_failsF (c := 5) (fun τ2 hf2 => ?_)
      obtain ⟨a, b'⟩ := hf2.of t13 t12 (by omega) (by decide) (by omega)
      refine ⟨pk_in 0 3 (by decide), ?_⟩
      rintro s8 e8
      refine ⟨pk_in 1 3 (by decide), pk_in 1 3 (by decide), ?_⟩
      rintro s9 e9
      have f9 : fr [] [159] τ2 s9 := by rw [e9, e8]; exact (fr_sai (by decide)).tr (fr_sai (by decide))
      exact hbad _ rfl s9 (F.tr ((b'.mo (by decide) (by decide)).tr (f9.mo (by simp) (by decide)))) (a.fr f9 (by decide) (by decide))
    · rw [if_pos n0] at hbad
      refine k_BM_failsF (c := 0) (fun τ2 hf2 => ?_)
      obtain ⟨a, b'⟩ := hf2.of t13 t12 (by omega) (by decide) (by omega)
      exact signs_135F a (fun τ3 f3 hF3 => hbad _ rfl τ3 (F.tr ((b'.mo (by decide) (by decide)).tr (f3.mo (by simp) (by decide)))) hF3)
end
