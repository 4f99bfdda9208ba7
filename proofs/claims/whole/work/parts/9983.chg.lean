-- the calls that change the box, joint
def pf83 : List (Nat × Nat) := (List.range 10).map (fun j => (83, j + 1))
def pr83 : List Nat := [84, 85, 86, 87]
def pfRu : List (Nat × Nat) := (17, 5) :: (List.range 6).flatMap (fun i => [(22 + 5 * i, 5), (22 + 5 * i, 6)])
def prRu : List Nat := (List.range 6).flatMap (fun i => [22 + 5 * i + 1, 22 + 5 * i + 2, 22 + 5 * i + 3])
def pfPg : List (Nat × Nat) := (0, 13) :: (List.range 8).flatMap (fun k => (List.range 10).map (fun j => (111 + 5 * k, j + 1)))
def prPg : List Nat := 90 :: (List.range 8).flatMap (fun k => (List.range 4).map (fun j => 111 + 5 * k + (j + 1)))
def pfIm : List (Nat × Nat) := (List.range 4).flatMap (fun k => (List.range 11).map (fun j => (91 + 5 * k, j)))
def prIm : List Nat := (List.range 4).flatMap (fun k => (List.range 4).map (fun j => 91 + 5 * k + (j + 1)))
theorem m83 : ∀ j, j < 10 → (83, j + 1) ∈ pf83 := by decide +kernel
theorem n83 : ∀ j, j < 4 → 83 + (j + 1) ∈ pr83 := by decide +kernel
theorem mRu : ∀ i, i < 6 → (22 + 5 * i, 5) ∈ pfRu ∧ (22 + 5 * i, 6) ∈ pfRu := by decide +kernel
theorem nRu : ∀ i, i < 6 → 22 + 5 * i + 1 ∈ prRu ∧ 22 + 5 * i + 2 ∈ prRu ∧ 22 + 5 * i + 3 ∈ prRu := by decide +kernel
theorem mPg : ∀ k, k < 8 → ∀ j, j < 10 → (111 + 5 * k, j + 1) ∈ pfPg := by decide +kernel
theorem nPg : ∀ k, k < 8 → ∀ j, j < 4 → 111 + 5 * k + (j + 1) ∈ prPg := by decide +kernel
theorem mIm : ∀ k, k < 4 → ∀ j, j < 11 → (91 + 5 * k, j) ∈ pfIm := by decide +kernel
theorem nIm : ∀ k, k < 4 → ∀ j, j < 4 → 91 + 5 * k + (j + 1) ∈ prIm := by decide +kernel
section
variable {σ τ : St} {X : GX} {F : List (Nat × Nat)} {M : List Nat} {ch mp mk : Nat} {d d' : Dat} {nr L' : Nat} {T' : Nat → Nat} {Ru : Nat → RuleT}
theorem clsS_fr {t : Nat} (h : ClsS t σ d) (hf : fr F M σ τ) (hF : ∀ j, j < 10 → (t, j + 1) ∉ F) (hM : ∀ j, j < 4 → t + (j + 1) ∉ M) : ClsS t τ d := by
  refine h.frm hf (fun k h1 h2 => ?_) (fun k h1 h2 => ?_)
  · have := hF (k - 1) (by omega)
    rw [show k - 1 + 1 = k by omega] at this; exact this
  · have := hM (k - 1) (by omega)
    rw [show k - 1 + 1 = k by omega] at this; exact this
theorem fr83 (h : ClsS 83 σ d) (hf : fr F M σ τ) (hF : ∀ q ∈ pf83, q ∉ F) (hM : ∀ q ∈ pr83, q ∉ M) : ClsS 83 τ d := clsS_fr h hf (fun j hj => hF _ (m83 j hj)) (fun j hj => hM _ (n83 j hj))
theorem frRu (h : RulC σ nr Ru) (hf : fr F M σ τ) (hF : ∀ q ∈ pfRu, q ∉ F) (hM : ∀ q ∈ prRu, q ∉ M) : RulC τ nr Ru := rulC_fr h hf (hF _ (by decide +kernel)) (fun i hi => ⟨hF _ (mRu i hi).1, hF _ (mRu i hi).2⟩) (fun i hi => ⟨hM _ (nRu i hi).1, hM _ (nRu i hi).2.1, hM _ (nRu i hi).2.2⟩)
def PgC (σ : St) (nb : Nat) (E : Nat → Dat) (pn : Nat → Int32) : Prop := fi σ 0 13 = nI nb ∧ nb ≤ 8 ∧ ∀ k, k < nb → ClsS (111 + 5 * k) σ (E k) ∧ ai σ 90 k = pn k
def ImC (σ : St) (Im : Nat → Prop) (D : Nat → Dat) : Prop := ∀ k, k < 4 → (fi σ (91 + 5 * k) 0 ≠ 0 ↔ Im k) ∧ (Im k → ClsS (91 + 5 * k) σ (D k))
theorem frPg {nb : Nat} {E : Nat → Dat} {pn : Nat → Int32} (h : PgC σ nb E pn) (hf : fr F M σ τ) (hF : ∀ q ∈ pfPg, q ∉ F) (hM : ∀ q ∈ prPg, q ∉ M) : PgC τ nb E pn := by
  obtain ⟨h1, h2, h3⟩ := h
  refine ⟨by rw [(hf.1 0 13 (hF _ (by decide +kernel))).1]; exact h1, h2, fun k hk => ⟨clsS_fr (h3 k hk).1 hf (fun j hj => hF _ (mPg k (by omega) j hj)) (fun j hj => hM _ (nPg k (by omega) j hj)), ?_⟩⟩
  rw [(hf.2 90 (hM _ (by decide +kernel))).1]; exact (h3 k hk).2
theorem frIm {Im : Nat → Prop} {D : Nat → Dat} (h : ImC σ Im D) (hf : fr F M σ τ) (hF : ∀ q ∈ pfIm, q ∉ F) (hM : ∀ q ∈ prIm, q ∉ M) : ImC τ Im D := by
  intro k hk
  refine ⟨by rw [(hf.1 (91 + 5 * k) 0 (hF _ (mIm k hk 0 (by decide)))).1]; exact (h k hk).1, fun q => clsS_fr ((h k hk).2 q) hf (fun j hj => hF _ (mIm k hk (j + 1) (by omega))) (fun j hj => hM _ (nIm k hk j hj))⟩
theorem txC0 (h : fi τ 1 1 = 0) : TxC τ 0 T' := ⟨h, by decide, fun k hk => absurd hk (Nat.not_lt_zero _)⟩
theorem txM0 (h : fi τ 151 11 = 0) : TxM τ 0 T' := ⟨h, by decide, fun k hk => absurd hk (Nat.not_lt_zero _)⟩
/-- the box has changed -/
theorem rc_chg (rc : RC σ X ch mp) (hf : fr F M σ τ) (hF : ∀ q ∈ pfRu ++ pfPg ++ pfIm ++ (pfS ++ pfC ++ pfL ++ pfP), q ∉ F) (hM : ∀ q ∈ prRu ++ prPg ++ prIm ++ (prS ++ prC ++ prL ++ prP), q ∉ M) (h14 : fi τ 0 14 = fi σ 0 14 + 1) (hc : ch ≤ 600) (hs : ClsS 83 τ d') (ht : TxC τ L' T') : RC τ (sX X d' L' T') (ch + 1) mp := by
  simp only [List.mem_append] at hF hM
  refine ⟨⟨hs, frRu rc.1.2.1 hf (fun q hq => hF q (by simp [hq])) (fun q hq => hM q (by simp [hq])), frPg rc.1.2.2.1 hf (fun q hq => hF q (by simp [hq])) (fun q hq => hM q (by simp [hq])), frIm rc.1.2.2.2.1 hf (fun q hq => hF q (by simp [hq])) (fun q hq => hM q (by simp [hq])), ht⟩, cch_up rc.2 hf (by omega) (by rw [h14]; exact i1_up rc.2.1) (fun q hq => hF q (Or.inr (by simp only [List.mem_append] at hq; exact hq))) (fun q hq => hM q (Or.inr (by simp only [List.mem_append] at hq; exact hq)))⟩
theorem rm_chg (rm : RM σ X mk) (hf : fr F M σ τ) (hF : ∀ q ∈ [(151, 15), (151, 20), (151, 44), (151, 66)], q ∉ F) (hM : ∀ q ∈ [163, 164, 165, 166, 167, 168, 175, 192, 193, 194, 195, 196, 197, 198], q ∉ M) (hc : CurM τ d') (ht : TxM τ L' T') : RM τ (sX X d' L' T') mk :=
  rm_fr2 rm hf (fun q hq => hF q (by revert q; decide)) (fun q hq => hM q (by revert q; decide)) (mrk_fr rm.2.2.2.2.2.1 hf (hF _ (by decide)) (hM _ (by decide))) hc ht
end
section
variable {g : Gx} {σ : St} {N : Nat}
theorem op_forceR {Q : Int32 → Int32 → St → Prop} {x : Int32} (hN : N ≤ 600) (hR : Rel N σ) (hQ : ∀ r τ, Rel (N + 1) τ → Q r r τ) : K_BB_force g x σ (fun r1 s1 => K_BM_force g x s1 (fun r2 s2 => Q r1 r2 s2)) := by
  obtain ⟨X, ch, mp, mk, rc, rm, ok, b1, b2, b3⟩ := hR
  have stay : Rel (N + 1) σ := ⟨X, ch, mp, mk, rc, rm, ok, by omega, by omega, by omega⟩
  have hn6 := rc.1.2.1.1
  refine kB_force rc.1.1 rc.1.2.1 (fun c => ?_) (fun f ef hfn => ?_)
  · exact kM_force rm.1 rm.2.1 (fun _ => hQ _ _ stay) (fun f ef hfn => (c f hfn ef).elim)
  · obtain ⟨τ, hτ⟩ : ∃ t, t = sfi (sfi σ 83 9 (oI f)) 0 14 (fi σ 0 14 + 1) := ⟨_, rfl⟩
    rw [← hτ]
    have hf : fr [(83, 9), (0, 14)] [] σ τ := by rw [hτ]; exact (fr_sfi (by decide)).tr (fr_sfi (by decide))
    have rm1 : RM τ X mk := rm_fr rm hf (by decide) (by decide)
    have cs : ClsS 83 τ (dF (xd X) f) := by
      obtain ⟨s1, s2, s3, s4, s5, s6, s7, s8, s9, s10⟩ := rc.1.1
      refine ⟨?_, s2.fr hf (by decide) (by decide) (by decide) (by decide) (by decide), ?_, ?_, ?_, fun i hi => ?_, ?_, fun i hi => ?_, ?_, ?_⟩
      · rw [(hf.1 83 1 (by decide)).1]; exact s1
      · rw [(hf.1 83 5 (by decide)).1]; exact s3
      · rw [(hf.1 83 6 (by decide)).1]; exact s4
      · rw [(hf.1 83 7 (by decide)).1]; exact s5
      · rw [(hf.2 (83 + 3) (by decide)).1]; exact s6 i hi
      · rw [(hf.1 83 8 (by decide)).1]; exact s7
      · rw [(hf.2 (83 + 4) (by decide)).1]; exact s8 i hi
      · rw [hτ]; rfl
      · rw [(hf.1 83 10 (by decide)).1]; exact s10
    have rc1 := rc_chg rc hf (by decide +kernel) (by decide +kernel) (by rw [hτ]; rfl) (by omega) cs (rc.1.2.2.2.2.frm hf (by decide) (by decide))
    refine kM_force rm1.1 rm1.2.1 (fun c => (c f hfn ef).elim) (fun f' ef' hfn' => ?_)
    have e3 : f' = f := (oI_inj (fun c hc => by have := hfn' c hc; omega) (fun c hc => by have := hfn c hc; omega)).mp (ef'.symm.trans ef)
    subst e3
    obtain ⟨υ, hυ⟩ : ∃ t, t = sai τ 152 7 (oI f') := ⟨_, rfl⟩
    rw [← hυ]
    have hf2 : fr [] [152] τ υ := by rw [hυ]; exact fr_sai (by decide)
    refine hQ _ _ ⟨_, ch + 1, mp, mk, rc_fr rc1 hf2 (by decide +kernel) (by decide +kernel), rm_chg rm1 hf2 (by decide) (by decide) ?_ (rm1.2.2.2.2.1.frm hf2 (by decide) (by decide)), okX_d ok ?_, by omega, by omega, by omega⟩
    · obtain ⟨⟨c0, c1, c2, c3, c4, c5, c6, c7⟩, a2, a3, a4, a5⟩ := rm1.1
      have o : ∀ k, k ≠ 7 → ai υ 152 k = ai τ 152 k := fun k hk => by rw [hυ, ai_sai, if_neg (fun z => hk z.2)]
      refine ⟨⟨?_, ?_, ?_, ?_, ?_, ?_, ?_, ?_⟩, ?_, ?_, ?_, ?_⟩
      · rw [o 0 (by decide)]; exact c0
      · rw [o 1 (by decide)]; exact c1
      · rw [o 2 (by decide)]; exact c2
      · rw [o 3 (by decide)]; exact c3
      · rw [o 4 (by decide)]; exact c4
      · rw [o 5 (by decide)]; exact c5
      · rw [o 6 (by decide)]; exact c6
      · rw [hυ, ai_sai, if_pos ⟨rfl, rfl⟩]
      · rw [(hf2.2 153 (by decide)).1]; exact a2
      · rw [(hf2.2 154 (by decide)).1]; exact a3
      · rw [(hf2.2 155 (by decide)).1]; exact a4
      · rw [(hf2.2 156 (by decide)).1, (hf2.2 157 (by decide)).1, (hf2.2 158 (by decide)).1]; exact a5
    · obtain ⟨o1, o2, o3, o4, o5, o6, o7, o8, o9, o10⟩ := ok.1
      exact ⟨o1, o2, o3, o4, o5, o6, o7, o8, o9, hfn'⟩
theorem op_putR {Q : Int32 → Int32 → St → Prop} {x y z : Int32} (hN : N ≤ 600) (hR : Rel N σ) (hQ : ∀ r τ, Rel (N + 1) τ → Q r r τ) : K_BB_put g x y z σ (fun r1 s1 => K_BM_put g x y z s1 (fun r2 s2 => Q r1 r2 s2)) := by
  obtain ⟨X, ch, mp, mk, rc, rm, ok, b1, b2, b3⟩ := hR
  have stay : Rel (N + 1) σ := ⟨X, ch, mp, mk, rc, rm, ok, by omega, by omega, by omega⟩
  have o1 := ok.1.1
  refine kB_put rc.1.1 ok.1 (fun c => ?_) (fun b u v hp e1 e2 e3 τ hf h14 cs => ?_)
  · exact kM_put rm.1 ok.1 (fun _ => hQ _ _ stay) (fun b u v hp e1 e2 e3 υ hf2 hc => (c b u v hp e1 e2 e3).elim)
  · have rm1 : RM τ X mk := rm_fr rm hf (by decide) (by decide)
    have rc1 := rc_chg rc hf (by decide +kernel) (by decide +kernel) h14 (by omega) cs (rc.1.2.2.2.2.frm hf (by decide) (by decide))
    refine kM_put rm1.1 ok.1 (fun c => (c b u v hp e1 e2 e3).elim) (fun b' u' v' hp' e1' e2' e3' υ hf2 hc => ?_)
    have q1 := hp.1
    have q2 := hp.2.1
    have q1' := hp'.1
    have q2' := hp'.2.1
    have a1 := rg_eq (by omega) (by omega) e1 e1'
    have a2 := rg_eq (by omega) (by omega) e2 e2'
    have a3 := rg_eq (by omega) (by omega) e3 e3'
    subst a1 a2 a3
    exact hQ _ _ ⟨_, ch + 1, mp, mk, rc_fr rc1 hf2 (by decide +kernel) (by decide +kernel), rm_chg rm1 hf2 (by decide) (by decide) hc (rm1.2.2.2.2.1.frm hf2 (by decide) (by decide)), okX_d ok (okD_put ok.1 hp), by omega, by omega, by omega⟩
theorem op_wallR {Q : Int32 → Int32 → St → Prop} {x y z : Int32} (hN : N ≤ 600) (hR : Rel N σ) (hQ : ∀ r τ, Rel (N + 1) τ → Q r r τ) : K_BB_wall g x y z σ (fun r1 s1 => K_BM_wall g x y z s1 (fun r2 s2 => Q r1 r2 s2)) := by
  obtain ⟨X, ch, mp, mk, rc, rm, ok, b1, b2, b3⟩ := hR
  have stay : Rel (N + 1) σ := ⟨X, ch, mp, mk, rc, rm, ok, by omega, by omega, by omega⟩
  have o1 := ok.1.1
  refine kB_wall rc.1.1 ok.1 (fun c => ?_) (fun u v hp e1 e2 τ hf h14 cs => ?_)
  · exact kM_wall rm.1 ok.1 (fun _ => hQ _ _ stay) (fun u v hp e1 e2 υ hf2 hc => (c u v hp e1 e2).elim)
  · have rm1 : RM τ X mk := rm_fr rm hf (by decide) (by decide)
    have rc1 := rc_chg rc hf (by decide +kernel) (by decide +kernel) h14 (by omega) cs (rc.1.2.2.2.2.frm hf (by decide) (by decide))
    refine kM_wall rm1.1 ok.1 (fun c => (c u v hp e1 e2).elim) (fun u' v' hp' e1' e2' υ hf2 hc => ?_)
    have q2 := hp.1
    have q2' := hp'.1
    have a1 := rg_eq (by omega) (by omega) e1 e1'
    have a2 := rg_eq (by omega) (by omega) e2 e2'
    subst a1 a2
    exact hQ _ _ ⟨_, ch + 1, mp, mk, rc_fr rc1 hf2 (by decide +kernel) (by decide +kernel), rm_chg rm1 hf2 (by decide) (by decide) hc (rm1.2.2.2.2.1.frm hf2 (by decide) (by decide)), okX_d ok (okD_wall ok.1 hp), by omega, by omega, by omega⟩
theorem op_soundR {Q : Int32 → Int32 → St → Prop} {x y z : Int32} (hN : N ≤ 600) (hR : Rel N σ) (hQ : ∀ r τ, Rel (N + 1) τ → Q r r τ) : K_BB_sound g x y z σ (fun r1 s1 => K_BM_sound g x y z s1 (fun r2 s2 => Q r1 r2 s2)) := by
  obtain ⟨X, ch, mp, mk, rc, rm, ok, b1, b2, b3⟩ := hR
  have stay : Rel (N + 1) σ := ⟨X, ch, mp, mk, rc, rm, ok, by omega, by omega, by omega⟩
  refine kB_sound rc.1.1 ok.1 (fun hx τ hf h14 cs => ?_) (fun hx c => ?_) (fun w a b hp e1 e2 e3 τ hf h14 cs => ?_)
  · have rm1 : RM τ X mk := rm_fr rm hf (by decide) (by decide)
    have rc1 := rc_chg rc hf (by decide +kernel) (by decide +kernel) h14 (by omega) cs (rc.1.2.2.2.2.frm hf (by decide) (by decide))
    refine kM_sound rm1.1 ok.1 (fun _ υ hf2 hc => ?_) (fun c => absurd hx c) (fun w a b hp e1 _ _ _ _ _ => absurd (hx.symm.trans e1) (m1_ne (by have := hp.1; omega)))
    exact hQ _ _ ⟨_, ch + 1, mp, mk, rc_fr rc1 hf2 (by decide +kernel) (by decide +kernel), rm_chg rm1 hf2 (by decide) (by decide) hc (rm1.2.2.2.2.1.frm hf2 (by decide) (by decide)), okX_d ok (okD_sound0 ok.1), by omega, by omega, by omega⟩
  · exact kM_sound rm.1 ok.1 (fun h => absurd h hx) (fun _ _ => hQ _ _ stay) (fun w a b hp e1 e2 e3 υ hf2 hc => (c w a b hp e1 e2 e3).elim)
  · have rm1 : RM τ X mk := rm_fr rm hf (by decide) (by decide)
    have rc1 := rc_chg rc hf (by decide +kernel) (by decide +kernel) h14 (by omega) cs (rc.1.2.2.2.2.frm hf (by decide) (by decide))
    refine kM_sound rm1.1 ok.1 (fun hx => absurd (hx.symm.trans e1) (m1_ne (by have := hp.1; omega))) (fun _ c => (c w a b hp e1 e2 e3).elim) (fun w' a' b' hp' e1' e2' e3' υ hf2 hc => ?_)
    have q1 := hp.1
    have q2 := hp.2.1
    have q3 := hp.2.2.1
    have q1' := hp'.1
    have q2' := hp'.2.1
    have q3' := hp'.2.2.1
    have d1 := rg_eq (by omega) (by omega) e1 e1'
    have d2 := rg_eq (by omega) (by omega) e2 e2'
    have d3 := rg_eq (by omega) (by omega) e3 e3'
    subst d1 d2 d3
    exact hQ _ _ ⟨_, ch + 1, mp, mk, rc_fr rc1 hf2 (by decide +kernel) (by decide +kernel), rm_chg rm1 hf2 (by decide) (by decide) hc (rm1.2.2.2.2.1.frm hf2 (by decide) (by decide)), okX_d ok (okD_sound ok.1 hp), by omega, by omega, by omega⟩
theorem op_tipR {Q : Int32 → Int32 → St → Prop} {x : Int32} (hN : N ≤ 600) (hR : Rel N σ) (hQ : ∀ r τ, Rel (N + 1) τ → Q r r τ) : K_BB_tip g x σ (fun r1 s1 => K_BM_tip g x s1 (fun r2 s2 => Q r1 r2 s2)) := by
  obtain ⟨X, ch, mp, mk, rc, rm, ok, b1, b2, b3⟩ := hR
  have stay : Rel (N + 1) σ := ⟨X, ch, mp, mk, rc, rm, ok, by omega, by omega, by omega⟩
  obtain ⟨o1, o2, o3, o4, o5, o6, o7, o8, o9, o10⟩ := id ok.1
  refine kB_tip rc.1.1 ok.1 rc.1.2.1 (fun c => ?_) (fun w hw e hC τ hf h14 h5 h6 => ?_)
  · exact kM_tip rm.1 ok.1 rm.2.1 (fun _ => hQ _ _ stay) (fun w2 hw2 e2 hC2 υ hf2 hp h152 => (c.elim hC2 (no_way hw2 e2)).elim)
  · have rm1 : RM τ X mk := rm_fr rm hf (by decide) (by decide)
    have cs : ClsS 83 τ (dPT (xd X) (tipC (cfg (xR X) (xd X)) w (vP (xd X))).1 (vT (xd X) + 1)) := by
      obtain ⟨s1, s2, s3, s4, s5, s6, s7, s8, s9, s10⟩ := rc.1.1
      refine ⟨?_, s2.fr hf (by decide) (by decide) (by decide) (by decide) (by decide), h5, h6, ?_, fun i hi => ?_, ?_, fun i hi => ?_, ?_, ?_⟩
      · rw [(hf.1 83 1 (by decide)).1]; exact s1
      · rw [(hf.1 83 7 (by decide)).1]; exact s5
      · rw [(hf.2 (83 + 3) (by decide)).1]; exact s6 i hi
      · rw [(hf.1 83 8 (by decide)).1]; exact s7
      · rw [(hf.2 (83 + 4) (by decide)).1]; exact s8 i hi
      · rw [(hf.1 83 9 (by decide)).1]; exact s9
      · rw [(hf.1 83 10 (by decide)).1]; exact s10
    have rc1 := rc_chg rc hf (by decide +kernel) (by decide +kernel) h14 (by omega) cs (rc.1.2.2.2.2.frm hf (by decide) (by decide))
    refine kM_tip rm1.1 ok.1 rm1.2.1 (fun c => (c.elim hC (no_way hw e)).elim) (fun w2 hw2 e2 hC2 υ hf2 hp h152 => ?_)
    have e3 := rg_eq (by omega) (by omega) e e2
    subst e3
    refine hQ _ _ ⟨_, ch + 1, mp, mk, rc_fr rc1 hf2 (by decide +kernel) (by decide +kernel), rm_chg rm1 hf2 (by decide) (by decide) ?_ (rm1.2.2.2.2.1.frm hf2 (by decide) (by decide)), okX_d ok ?_, by omega, by omega, by omega⟩
    · obtain ⟨⟨c0, c1, c2, c3, c4, c5, c6, c7⟩, a2, a3, a4, a5⟩ := rm1.1
      refine ⟨⟨?_, ?_, ?_, ?_, ?_, ?_, ?_, ?_⟩, ?_, hp, ?_, ?_⟩
      · rw [h152, if_neg (by decide)]; exact c0
      · rw [h152, if_neg (by decide)]; exact c1
      · rw [h152, if_neg (by decide)]; exact c2
      · rw [h152, if_pos rfl]
      · rw [h152, if_neg (by decide)]; exact c4
      · rw [h152, if_neg (by decide)]; exact c5
      · rw [h152, if_neg (by decide)]; exact c6
      · rw [h152, if_neg (by decide)]; exact c7
      · rw [(hf2.2 153 (by decide)).1]; exact a2
      · rw [(hf2.2 155 (by decide)).1]; exact a4
      · rw [(hf2.2 156 (by decide)).1, (hf2.2 157 (by decide)).1, (hf2.2 158 (by decide)).1]; exact a5
    · exact ⟨o1, o2, tipC_ok (c := cfg (xR X) (xd X)) o1.1 o1.2.1 hw2 o3, tipC_ds (c := cfg (xR X) (xd X)) o1.1 o1.2.1 o1.2.2.1 hw2 o3 o4, o5, o6, o7, o8, o9, o10⟩
theorem op_backR {Q : Int32 → Int32 → St → Prop} {x : Int32} (hN : N ≤ 600) (hR : Rel N σ) (hQ : ∀ r τ, Rel (N + 1) τ → Q r r τ) : K_BB_back g x σ (fun r1 s1 => K_BM_back g x s1 (fun r2 s2 => Q r1 r2 s2)) := by
  obtain ⟨X, ch, mp, mk, rc, rm, ok, b1, b2, b3⟩ := hR
  have stay : Rel (N + 1) σ := ⟨X, ch, mp, mk, rc, rm, ok, by omega, by omega, by omega⟩
  refine kB_back (nr := xn X) (D := xD X) (M := xI X) (fun k hk => (rc.1.2.2.2.1 k hk).1) (fun k hk h => ⟨(rc.1.2.2.2.1 k hk).2 h, ok.2.2 k hk h⟩) (fun c => ?_) (fun k hk e hm τ hf h14 cs => ?_)
  · exact kM_back (nr := xn X) (D := xD X) (M := xI X) (fun k hk => (rm.2.2.2.1 k hk).1) (fun k hk h => ⟨(rm.2.2.2.1 k hk).2 h, ok.2.2 k hk h⟩) (fun _ => hQ _ _ stay) (fun k hk e hm υ hf2 hc => (c k hk hm e).elim)
  · have rm1 : RM τ X mk := rm_fr rm hf (by decide) (by decide)
    have rc1 := rc_chg rc hf (by decide +kernel) (by decide +kernel) h14 (by omega) cs (rc.1.2.2.2.2.frm hf (by decide) (by decide))
    refine kM_back (nr := xn X) (D := xD X) (M := xI X) (fun k hk => (rm1.2.2.2.1 k hk).1) (fun k hk h => ⟨(rm1.2.2.2.1 k hk).2 h, ok.2.2 k hk h⟩) (fun c => (c k hk hm e).elim) (fun k' hk' e' hm' υ hf2 hc => ?_)
    have a1 := rg_eq (by omega) (by omega) e e'
    subst a1
    exact hQ _ _ ⟨_, ch + 1, mp, mk, rc_fr rc1 hf2 (by decide +kernel) (by decide +kernel), rm_chg rm1 hf2 (by decide) (by decide) hc (rm1.2.2.2.2.1.frm hf2 (by decide) (by decide)), okX_d ok (ok.2.2 _ hk hm), by omega, by omega, by omega⟩
theorem op_boxR {Q : Int32 → Int32 → St → Prop} (hN : N ≤ 600) (hR : Rel N σ) (hQ : ∀ r τ, Rel (N + 1) τ → Q r r τ) : K_BB_box g σ (fun r1 s1 => K_BM_box g s1 (fun r2 s2 => Q r1 r2 s2)) := by
  obtain ⟨X, ch, mp, mk, rc, rm, ok, b1, b2, b3⟩ := hR
  refine kB_boxing rc.1.2.2.2.2 rc.1.1 (fun e he τ hf h11 => ?_) (fun b he τ hf h11 h14 cs => ?_)
  · have rm1 : RM τ X mk := rm_fr rm hf (by decide) (by decide)
    have rc1 : RC τ (sX X (xd X) 0 (xT X)) ch mp := ⟨rcb_fr2 rc.1 hf (by decide +kernel) (by decide +kernel) (fr83 rc.1.1 hf (by decide +kernel) (by decide +kernel)) (txC0 h11), cch_fr rc.2 hf (by decide) (by decide +kernel) (by decide +kernel)⟩
    refine kM_boxing rm1.2.2.2.2.1 rm1.1 (fun e' he' υ hf2 k11 => ?_) (fun b he' => by rw [he] at he'; cases he')
    have ee : e' = e := by rw [he] at he'; cases he'; rfl
    subst ee
    exact hQ _ _ ⟨_, ch, mp, mk, rc_fr rc1 hf2 (by decide +kernel) (by decide +kernel), rm_chg rm1 hf2 (by decide) (by decide) (cur_fr rm1.1 hf2 (by decide) (by decide) (by decide) (by decide) (by decide) (by rw [(hf2.2 153 (by decide)).1]; exact rm1.1.2.1) (by rw [(hf2.2 154 (by decide)).1]; exact rm1.1.2.2.1)) (txM0 k11), okX_d ok ok.1, by omega, by omega, by omega⟩
  · have rm1 : RM τ X mk := rm_fr rm hf (by decide) (by decide)
    have rc1 := rc_chg (L' := 0) (T' := xT X) rc hf (by decide +kernel) (by decide +kernel) h14 (by omega) cs (txC0 h11)
    have hb := (bxL_ok bx0_ok (Nat.zero_le _) (by decide) (by decide) he).1
    refine kM_boxing rm1.2.2.2.2.1 rm1.1 (fun e' he' => by rw [he] at he'; cases he') (fun b' he' υ hf2 k11 hc => ?_)
    have ee : b' = b := by rw [he] at he'; cases he'; rfl
    subst ee
    exact hQ _ _ ⟨_, ch + 1, mp, mk, rc_fr rc1 hf2 (by decide +kernel) (by decide +kernel), rm_chg rm1 hf2 (by decide) (by decide) hc (txM0 k11), okX_d ok (okD_box ok.1 hb), by omega, by omega, by omega⟩
end
