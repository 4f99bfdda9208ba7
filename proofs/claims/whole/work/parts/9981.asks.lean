-- the calls that only ask, on both sides
theorem no_way {x : Int32} {w : Nat} (hw : w < 4) (e : x = nI w) : ¬ (x < 0 ∨ 3 < x) := by
  rw [e]
  intro z
  rcases z with z | z
  · exact nI_pos (by omega) z
  · exact nI_nlt (a := 3) (b := w) (by omega) (by decide) z
theorem rg_eq {x : Int32} {n m : Nat} (hn : n < 2 ^ 31) (hm : m < 2 ^ 31) (e1 : x = nI n) (e2 : x = nI m) : m = n := (nI_eq hm hn).mp (e2.symm.trans e1)
section
variable {g : Gx} {σ : St} {N : Nat}
theorem op_may {Q : Int32 → Int32 → St → Prop} {x : Int32} (hN : N ≤ 600) (hR : Rel N σ) (hQ : ∀ r τ, Rel (N + 1) τ → Q r r τ) : K_BB_may g x σ (fun r1 s1 => K_BM_may g x s1 (fun r2 s2 => Q r1 r2 s2)) := by
  obtain ⟨X, ch, mp, mk, rc, rm, ok, b1, b2, b3⟩ := hR
  have up : ∀ τ ch' mp' mk', ch' ≤ ch + 1 → mp' ≤ mp + 140000 → mk' ≤ mk + 37 → RC τ X ch' mp' → RM τ X mk' → Rel (N + 1) τ := fun τ ch' mp' mk' a1 a2 a3 a b => ⟨X, ch', mp', mk', a, b, ok, by omega, by omega, by omega⟩
  have stay : Rel (N + 1) σ := up σ ch mp mk (by omega) (by omega) (by omega) rc rm
  refine kB_may rc.1.1 ok.1 rc.1.2.1 (fun c => ?_) (fun w hw e hC τ hf => ?_)
  · exact kM_may rm.1 ok.1 rm.2.1 (fun _ => hQ _ _ stay) (fun w2 hw2 e2 hC2 υ hf2 hp => (c.elim hC2 (no_way hw2 e2)).elim)
  · have rc1 : RC τ X ch mp := rc_fr rc hf (by decide +kernel) (by decide +kernel)
    have rm1 : RM τ X mk := rm_fr rm hf (by decide) (by decide)
    refine kM_may rm1.1 ok.1 rm1.2.1 (fun c => (c.elim hC (no_way hw e)).elim) (fun w2 hw2 e2 hC2 υ hf2 hp => ?_)
    have e3 := rg_eq (by omega) (by omega) e e2
    subst e3
    exact hQ _ _ (up υ ch mp mk (by omega) (by omega) (by omega) (rc_fr rc1 hf2 (by decide +kernel) (by decide +kernel)) (rm_scr rm1 hf2 (by decide) (by decide) (mrk_fr rm1.2.2.2.2.2.1 hf2 (by decide) (by decide)) (by rw [(hf2.2 153 (by decide)).1]; exact rm1.1.2.1) hp))
theorem op_would {Q : Int32 → Int32 → St → Prop} {x : Int32} (hN : N ≤ 600) (hR : Rel N σ) (hQ : ∀ r τ, Rel (N + 1) τ → Q r r τ) : K_BB_would g x σ (fun r1 s1 => K_BM_would g x s1 (fun r2 s2 => Q r1 r2 s2)) := by
  obtain ⟨X, ch, mp, mk, rc, rm, ok, b1, b2, b3⟩ := hR
  have up : ∀ τ ch' mp' mk', ch' ≤ ch + 1 → mp' ≤ mp + 140000 → mk' ≤ mk + 37 → RC τ X ch' mp' → RM τ X mk' → Rel (N + 1) τ := fun τ ch' mp' mk' a1 a2 a3 a b => ⟨X, ch', mp', mk', a, b, ok, by omega, by omega, by omega⟩
  have stay : Rel (N + 1) σ := up σ ch mp mk (by omega) (by omega) (by omega) rc rm
  refine kB_would rc.1.1 ok.1 rc.1.2.1 (fun c => ?_) (fun w hw e hC τ hf => ?_)
  · exact kM_would rm.1 ok.1 rm.2.1 (fun _ => hQ _ _ stay) (fun w2 hw2 e2 hC2 υ hf2 hp => (c.elim hC2 (no_way hw2 e2)).elim)
  · have rc1 : RC τ X ch mp := rc_fr rc hf (by decide +kernel) (by decide +kernel)
    have rm1 : RM τ X mk := rm_fr rm hf (by decide) (by decide)
    refine kM_would rm1.1 ok.1 rm1.2.1 (fun c => (c.elim hC (no_way hw e)).elim) (fun w2 hw2 e2 hC2 υ hf2 hp => ?_)
    have e3 := rg_eq (by omega) (by omega) e e2
    subst e3
    exact hQ _ _ (up υ ch mp mk (by omega) (by omega) (by omega) (rc_fr rc1 hf2 (by decide +kernel) (by decide +kernel)) (rm_scr rm1 hf2 (by decide) (by decide) (mrk_fr rm1.2.2.2.2.2.1 hf2 (by decide) (by decide)) (by rw [(hf2.2 153 (by decide)).1]; exact rm1.1.2.1) hp))
theorem op_sure {Q : Int64 → Int64 → St → Prop} {x y : Int32} (hN : N ≤ 600) (hR : Rel N σ) (hQ : ∀ r τ, Rel (N + 1) τ → Q r r τ) : K_BB_sure g x y σ (fun r1 s1 => K_BM_sure g x y s1 (fun r2 s2 => Q r1 r2 s2)) := by
  obtain ⟨X, ch, mp, mk, rc, rm, ok, b1, b2, b3⟩ := hR
  have up : ∀ τ ch' mp' mk', ch' ≤ ch + 1 → mp' ≤ mp + 140000 → mk' ≤ mk + 37 → RC τ X ch' mp' → RM τ X mk' → Rel (N + 1) τ := fun τ ch' mp' mk' a1 a2 a3 a b => ⟨X, ch', mp', mk', a, b, ok, by omega, by omega, by omega⟩
  have stay : Rel (N + 1) σ := up σ ch mp mk (by omega) (by omega) (by omega) rc rm
  refine kB_sure rc.1.1 ok.1 rc.1.2.1 (fun c => ?_) (fun p k hp1 hk1 e e1 hC τ hf => ?_)
  · exact kM_sure rm.1 ok.1 rm.2.1 (fun _ => hQ _ _ stay) (fun p2 k2 hp2 hk2 e2 e3 hC2 υ hf2 hp => (c.elim hC2 (fun c => c.elim (fun c => c p2 hp2 e2) (fun c => c k2 hk2 e3))).elim)
  · have rc1 : RC τ X ch mp := rc_fr rc hf (by decide +kernel) (by decide +kernel)
    have rm1 : RM τ X mk := rm_fr rm hf (by decide) (by decide)
    refine kM_sure rm1.1 ok.1 rm1.2.1 (fun c => (c.elim hC (fun c => c.elim (fun c => c p hp1 e) (fun c => c k hk1 e1))).elim) (fun p2 k2 hp2 hk2 e2 e3 hC2 υ hf2 hp => ?_)
    have e4 := rg_eq (by omega) (by omega) e e2
    have e5 := rg_eq (by omega) (by omega) e1 e3
    subst e4 e5
    exact hQ _ _ (up υ ch mp mk (by omega) (by omega) (by omega) (rc_fr rc1 hf2 (by decide +kernel) (by decide +kernel)) (rm_scr rm1 hf2 (by decide) (by decide) (mrk_fr rm1.2.2.2.2.2.1 hf2 (by decide) (by decide)) (by rw [(hf2.2 153 (by decide)).1]; exact rm1.1.2.1) hp))
theorem op_game {Q : Int32 → Int32 → St → Prop} {x y : Int32} (hN : N ≤ 600) (hR : Rel N σ) (hQ : ∀ r τ, Rel (N + 1) τ → Q r r τ) : K_BB_game g x y σ (fun r1 s1 => K_BM_game g x y s1 (fun r2 s2 => Q r1 r2 s2)) := by
  obtain ⟨X, ch, mp, mk, rc, rm, ok, b1, b2, b3⟩ := hR
  have up : ∀ τ ch' mp' mk', ch' ≤ ch + 1 → mp' ≤ mp + 140000 → mk' ≤ mk + 37 → RC τ X ch' mp' → RM τ X mk' → Rel (N + 1) τ := fun τ ch' mp' mk' a1 a2 a3 a b => ⟨X, ch', mp', mk', a, b, ok, by omega, by omega, by omega⟩
  have stay : Rel (N + 1) σ := up σ ch mp mk (by omega) (by omega) (by omega) rc rm
  refine kB_game rc.1.1 ok.1 rc.1.2.1 (fun c => ?_) (fun p k hp1 hk1 e e1 hC τ hf => ?_)
  · exact kM_game rm.1 ok.1 rm.2.1 (fun _ => hQ _ _ stay) (fun p2 k2 hp2 hk2 e2 e3 hC2 υ hf2 hp => (c.elim hC2 (fun c => c.elim (fun c => c p2 hp2 e2) (fun c => c k2 hk2 e3))).elim)
  · have rc1 : RC τ X ch mp := rc_fr rc hf (by decide +kernel) (by decide +kernel)
    have rm1 : RM τ X mk := rm_fr rm hf (by decide) (by decide)
    refine kM_game rm1.1 ok.1 rm1.2.1 (fun c => (c.elim hC (fun c => c.elim (fun c => c p hp1 e) (fun c => c k hk1 e1))).elim) (fun p2 k2 hp2 hk2 e2 e3 hC2 υ hf2 hp => ?_)
    have e4 := rg_eq (by omega) (by omega) e e2
    have e5 := rg_eq (by omega) (by omega) e1 e3
    subst e4 e5
    exact hQ _ _ (up υ ch mp mk (by omega) (by omega) (by omega) (rc_fr rc1 hf2 (by decide +kernel) (by decide +kernel)) (rm_scr rm1 hf2 (by decide) (by decide) (mrk_fr rm1.2.2.2.2.2.1 hf2 (by decide) (by decide)) (by rw [(hf2.2 153 (by decide)).1]; exact rm1.1.2.1) hp))
theorem op_fewest {Q : Int32 → Int32 → St → Prop} (hN : N ≤ 600) (hR : Rel N σ) (hQ : ∀ r τ, Rel (N + 1) τ → Q r r τ) : K_BB_fewest g σ (fun r1 s1 => K_BM_fewest g s1 (fun r2 s2 => Q r1 r2 s2)) := by
  obtain ⟨X, ch, mp, mk, rc, rm, ok, b1, b2, b3⟩ := hR
  have up : ∀ τ ch' mp' mk', ch' ≤ ch + 1 → mp' ≤ mp + 140000 → mk' ≤ mk + 37 → RC τ X ch' mp' → RM τ X mk' → Rel (N + 1) τ := fun τ ch' mp' mk' a1 a2 a3 a b => ⟨X, ch', mp', mk', a, b, ok, by omega, by omega, by omega⟩
  have stay : Rel (N + 1) σ := up σ ch mp mk (by omega) (by omega) (by omega) rc rm
  refine kB_fewest rc.1.1 ok.1 rc.1.2.1 rc.2.2.1.1 (fun c => ?_) (fun hC τ hf hca has => ?_)
  · exact kM_fewest rm.1 ok.1 rm.2.1 rm.2.2.2.2.2.1 (by omega) (fun _ => hQ _ _ stay) (fun hC2 υ hf2 hp hm2 => (hC2 c).elim)
  · have rb1 : RCb τ X := rcb_fr rc.1 hf (by decide +kernel) (by decide +kernel)
    obtain ⟨c0, c1, c2, c3, c4⟩ := rc.2
    have d0 : fi τ 0 14 = nI ch := by rw [(hf.1 0 14 (by decide)).1]; exact c0
    have rc1 : RC τ X ch mp := ⟨rb1, d0, ⟨hca, c1.2.of has c0⟩, ccC_fr c2 hf (by decide) (by decide +kernel) (by decide +kernel), ccL_fr c3 hf (by decide) (by decide +kernel) (by decide +kernel), ccP_fr c4 hf (by decide) (by decide +kernel) (by decide +kernel)⟩
    have rm1 : RM τ X mk := rm_fr rm hf (by decide) (by decide)
    refine kM_fewest rm1.1 ok.1 rm1.2.1 rm1.2.2.2.2.2.1 (by omega) (fun c => (hC c).elim) (fun hC2 υ hf2 hp hm2 => ?_)
    exact hQ _ _ (up υ ch mp (mk + 1) (by omega) (by omega) (by omega) (rc_fr rc1 hf2 (by decide +kernel) (by decide +kernel)) (rm_scr rm1 hf2 (by decide) (by decide) hm2 (by rw [(hf2.2 153 (by decide)).1]; exact rm1.1.2.1) hp))
theorem op_path {Q : Int32 → Int32 → St → Prop} {x : Int32} (hN : N ≤ 600) (hR : Rel N σ) (hQ : ∀ r τ, Rel (N + 1) τ → Q r r τ) : K_BB_path g x σ (fun r1 s1 => K_BM_path g x s1 (fun r2 s2 => Q r1 r2 s2)) := by
  obtain ⟨X, ch, mp, mk, rc, rm, ok, b1, b2, b3⟩ := hR
  have up : ∀ τ ch' mp' mk', ch' ≤ ch + 1 → mp' ≤ mp + 140000 → mk' ≤ mk + 37 → RC τ X ch' mp' → RM τ X mk' → Rel (N + 1) τ := fun τ ch' mp' mk' a1 a2 a3 a b => ⟨X, ch', mp', mk', a, b, ok, by omega, by omega, by omega⟩
  have stay : Rel (N + 1) σ := up σ ch mp mk (by omega) (by omega) (by omega) rc rm
  refine kB_path rc.1.1 ok.1 rc.1.2.1 rc.2.2.1.1 (fun c => ?_) (fun k hk e hC τ hf hca has => ?_)
  · exact kM_path rm.1 ok.1 rm.2.1 rm.2.2.2.2.2.1 (by omega) (fun _ => hQ _ _ stay) (fun k2 hk2 e2 hC2 υ hf2 hp hm2 => (c.elim hC2 (fun z => nI_pos hk2 (by rw [← e2]; exact z))).elim)
  · have rb1 : RCb τ X := rcb_fr rc.1 hf (by decide +kernel) (by decide +kernel)
    obtain ⟨c0, c1, c2, c3, c4⟩ := rc.2
    have d0 : fi τ 0 14 = nI ch := by rw [(hf.1 0 14 (by decide)).1]; exact c0
    have rc1 : RC τ X ch mp := ⟨rb1, d0, ⟨hca, c1.2.of has c0⟩, ccC_fr c2 hf (by decide) (by decide +kernel) (by decide +kernel), ccL_fr c3 hf (by decide) (by decide +kernel) (by decide +kernel), ccP_fr c4 hf (by decide) (by decide +kernel) (by decide +kernel)⟩
    have rm1 : RM τ X mk := rm_fr rm hf (by decide) (by decide)
    refine kM_path rm1.1 ok.1 rm1.2.1 rm1.2.2.2.2.2.1 (by omega) (fun c => (c.elim hC (fun z => nI_pos hk (by rw [← e]; exact z))).elim) (fun k2 hk2 e2 hC2 υ hf2 hp hm2 => ?_)
    have e3 := rg_eq hk hk2 e e2
    subst e3
    exact hQ _ _ (up υ ch mp (mk + 1) (by omega) (by omega) (by omega) (rc_fr rc1 hf2 (by decide +kernel) (by decide +kernel)) (rm_scr rm1 hf2 (by decide) (by decide) hm2 (by rw [(hf2.2 153 (by decide)).1]; exact rm1.1.2.1) hp))
theorem op_chipped {Q : Int32 → Int32 → St → Prop} {x : Int32} (hN : N ≤ 600) (hR : Rel N σ) (hQ : ∀ r τ, Rel (N + 1) τ → Q r r τ) : K_BB_chipped g x σ (fun r1 s1 => K_BM_chipped g x s1 (fun r2 s2 => Q r1 r2 s2)) := by
  obtain ⟨X, ch, mp, mk, rc, rm, ok, b1, b2, b3⟩ := hR
  have up : ∀ τ ch' mp' mk', ch' ≤ ch + 1 → mp' ≤ mp + 140000 → mk' ≤ mk + 37 → RC τ X ch' mp' → RM τ X mk' → Rel (N + 1) τ := fun τ ch' mp' mk' a1 a2 a3 a b => ⟨X, ch', mp', mk', a, b, ok, by omega, by omega, by omega⟩
  have stay : Rel (N + 1) σ := up σ ch mp mk (by omega) (by omega) (by omega) rc rm
  refine kB_chipped rc.1.1 ok.1 rc.1.2.1 rc.2.2.2.1.1 (fun c => ?_) (fun w hw e hC τ hf hca has => ?_)
  · exact kM_chipped rm.1 ok.1 rm.2.1 rm.2.2.2.2.2.1 (by omega) (fun _ => hQ _ _ stay) (fun w2 hw2 e2 hC2 υ mk' hmk' hf2 rT hm2 => (c.elim hC2 (fun c => c w2 hw2 e2)).elim)
  · have rb1 : RCb τ X := rcb_fr rc.1 hf (by decide +kernel) (by decide +kernel)
    obtain ⟨c0, c1, c2, c3, c4⟩ := rc.2
    have d0 : fi τ 0 14 = nI ch := by rw [(hf.1 0 14 (by decide)).1]; exact c0
    have rc1 : RC τ X ch mp := ⟨rb1, d0, ccS_fr c1 hf (by decide) (by decide +kernel) (by decide +kernel), ⟨hca, fun m2 hm2 => (c2.2 m2 hm2).of (has m2 hm2) c0⟩, ccL_fr c3 hf (by decide) (by decide +kernel) (by decide +kernel), ccP_fr c4 hf (by decide) (by decide +kernel) (by decide +kernel)⟩
    have rm1 : RM τ X mk := rm_fr rm hf (by decide) (by decide)
    refine kM_chipped rm1.1 ok.1 rm1.2.1 rm1.2.2.2.2.2.1 (by omega) (fun c => (c.elim hC (fun c => c w hw e)).elim) (fun w2 hw2 e2 hC2 υ mk' hmk' hf2 rT hm2 => ?_)
    have e3 := rg_eq (by omega) (by omega) e e2
    subst e3
    exact hQ _ _ (up υ ch mp mk' (by omega) (by omega) (by omega) (rc_fr rc1 hf2 (by decide +kernel) (by decide +kernel)) (rm_scr rm1 hf2 (by decide) (by decide) hm2 (fun x hx => (rT.1.2.1 x hx).1) rT.1.2.2.1))
theorem op_walled {Q : Int32 → Int32 → St → Prop} {x : Int32} (hN : N ≤ 600) (hR : Rel N σ) (hQ : ∀ r τ, Rel (N + 1) τ → Q r r τ) : K_BB_walled g x σ (fun r1 s1 => K_BM_walled g x s1 (fun r2 s2 => Q r1 r2 s2)) := by
  obtain ⟨X, ch, mp, mk, rc, rm, ok, b1, b2, b3⟩ := hR
  have up : ∀ τ ch' mp' mk', ch' ≤ ch + 1 → mp' ≤ mp + 140000 → mk' ≤ mk + 37 → RC τ X ch' mp' → RM τ X mk' → Rel (N + 1) τ := fun τ ch' mp' mk' a1 a2 a3 a b => ⟨X, ch', mp', mk', a, b, ok, by omega, by omega, by omega⟩
  have stay : Rel (N + 1) σ := up σ ch mp mk (by omega) (by omega) (by omega) rc rm
  refine kB_walled rc.1.1 ok.1 rc.1.2.1 rc.2.2.2.1.1 (fun c => ?_) (fun w hw e hC τ hf hca has => ?_)
  · exact kM_walled rm.1 ok.1 rm.2.1 rm.2.2.2.2.2.1 (by omega) (fun _ => hQ _ _ stay) (fun w2 hw2 e2 hC2 υ mk' hmk' hf2 rT hm2 => (c.elim hC2 (fun c => c w2 hw2 e2)).elim)
  · have rb1 : RCb τ X := rcb_fr rc.1 hf (by decide +kernel) (by decide +kernel)
    obtain ⟨c0, c1, c2, c3, c4⟩ := rc.2
    have d0 : fi τ 0 14 = nI ch := by rw [(hf.1 0 14 (by decide)).1]; exact c0
    have rc1 : RC τ X ch mp := ⟨rb1, d0, ccS_fr c1 hf (by decide) (by decide +kernel) (by decide +kernel), ⟨hca, fun m2 hm2 => (c2.2 m2 hm2).of (has m2 hm2) c0⟩, ccL_fr c3 hf (by decide) (by decide +kernel) (by decide +kernel), ccP_fr c4 hf (by decide) (by decide +kernel) (by decide +kernel)⟩
    have rm1 : RM τ X mk := rm_fr rm hf (by decide) (by decide)
    refine kM_walled rm1.1 ok.1 rm1.2.1 rm1.2.2.2.2.2.1 (by omega) (fun c => (c.elim hC (fun c => c w hw e)).elim) (fun w2 hw2 e2 hC2 υ mk' hmk' hf2 rT hm2 => ?_)
    have e3 := rg_eq (by omega) (by omega) e e2
    subst e3
    exact hQ _ _ (up υ ch mp mk' (by omega) (by omega) (by omega) (rc_fr rc1 hf2 (by decide +kernel) (by decide +kernel)) (rm_scr rm1 hf2 (by decide) (by decide) hm2 (fun x hx => (rT.1.2.1 x hx).1) rT.1.2.2.1))
theorem op_fits {Q : Int32 → Int32 → St → Prop} {x : Int32} (hN : N ≤ 600) (hR : Rel N σ) (hQ : ∀ r τ, Rel (N + 1) τ → Q r r τ) : K_BB_fits g x σ (fun r1 s1 => K_BM_fits g x s1 (fun r2 s2 => Q r1 r2 s2)) := by
  obtain ⟨X, ch, mp, mk, rc, rm, ok, b1, b2, b3⟩ := hR
  have up : ∀ τ ch' mp' mk', ch' ≤ ch + 1 → mp' ≤ mp + 140000 → mk' ≤ mk + 37 → RC τ X ch' mp' → RM τ X mk' → Rel (N + 1) τ := fun τ ch' mp' mk' a1 a2 a3 a b => ⟨X, ch', mp', mk', a, b, ok, by omega, by omega, by omega⟩
  have stay : Rel (N + 1) σ := up σ ch mp mk (by omega) (by omega) (by omega) rc rm
  refine kB_fits rc.1.1 ok.1 rc.1.2.1 rc.2.2.2.2.1.1 (fun c => ?_) (fun w hw e hC τ hf hca has => ?_)
  · exact kM_fits rm.1 ok.1 rm.2.1 (fun _ => hQ _ _ stay) (fun w2 hw2 e2 hC2 υ hf2 rT => (c.elim hC2 (fun c => c w2 hw2 e2)).elim)
  · have rb1 : RCb τ X := rcb_fr rc.1 hf (by decide +kernel) (by decide +kernel)
    obtain ⟨c0, c1, c2, c3, c4⟩ := rc.2
    have d0 : fi τ 0 14 = nI ch := by rw [(hf.1 0 14 (by decide)).1]; exact c0
    have rc1 : RC τ X ch mp := ⟨rb1, d0, ccS_fr c1 hf (by decide) (by decide +kernel) (by decide +kernel), ccC_fr c2 hf (by decide) (by decide +kernel) (by decide +kernel), ⟨hca, c3.2.of has c0⟩, ccP_fr c4 hf (by decide) (by decide +kernel) (by decide +kernel)⟩
    have rm1 : RM τ X mk := rm_fr rm hf (by decide) (by decide)
    refine kM_fits rm1.1 ok.1 rm1.2.1 (fun c => (c.elim hC (fun c => c w hw e)).elim) (fun w2 hw2 e2 hC2 υ hf2 rT => ?_)
    have e3 := rg_eq (by omega) (by omega) e e2
    subst e3
    exact hQ _ _ (up υ ch mp mk (by omega) (by omega) (by omega) (rc_fr rc1 hf2 (by decide +kernel) (by decide +kernel)) (rm_scr rm1 hf2 (by decide) (by decide) (mrk_fr rm1.2.2.2.2.2.1 hf2 (by decide) (by decide)) (fun x hx => (rT.1.2.1 x hx).1) rT.1.2.2.1))
theorem op_tells {Q : Int32 → Int32 → St → Prop} {x : Int32} (hN : N ≤ 600) (hR : Rel N σ) (hQ : ∀ r τ, Rel (N + 1) τ → Q r r τ) : K_BB_tells g x σ (fun r1 s1 => K_BM_tells g x s1 (fun r2 s2 => Q r1 r2 s2)) := by
  obtain ⟨X, ch, mp, mk, rc, rm, ok, b1, b2, b3⟩ := hR
  have up : ∀ τ ch' mp' mk', ch' ≤ ch + 1 → mp' ≤ mp + 140000 → mk' ≤ mk + 37 → RC τ X ch' mp' → RM τ X mk' → Rel (N + 1) τ := fun τ ch' mp' mk' a1 a2 a3 a b => ⟨X, ch', mp', mk', a, b, ok, by omega, by omega, by omega⟩
  have stay : Rel (N + 1) σ := up σ ch mp mk (by omega) (by omega) (by omega) rc rm
  refine kB_tells rc.1.1 ok.1 rc.1.2.1 rc.2.2.2.2.1.1 (fun c => ?_) (fun w hw e hC τ hf hca has => ?_)
  · exact kM_tells rm.1 ok.1 rm.2.1 (fun _ => hQ _ _ stay) (fun w2 hw2 e2 hC2 υ hf2 rT => (c.elim hC2 (fun c => c w2 hw2 e2)).elim)
  · have rb1 : RCb τ X := rcb_fr rc.1 hf (by decide +kernel) (by decide +kernel)
    obtain ⟨c0, c1, c2, c3, c4⟩ := rc.2
    have d0 : fi τ 0 14 = nI ch := by rw [(hf.1 0 14 (by decide)).1]; exact c0
    have rc1 : RC τ X ch mp := ⟨rb1, d0, ccS_fr c1 hf (by decide) (by decide +kernel) (by decide +kernel), ccC_fr c2 hf (by decide) (by decide +kernel) (by decide +kernel), ⟨hca, c3.2.of has c0⟩, ccP_fr c4 hf (by decide) (by decide +kernel) (by decide +kernel)⟩
    have rm1 : RM τ X mk := rm_fr rm hf (by decide) (by decide)
    refine kM_tells rm1.1 ok.1 rm1.2.1 (fun c => (c.elim hC (fun c => c w hw e)).elim) (fun w2 hw2 e2 hC2 υ hf2 rT => ?_)
    have e3 := rg_eq (by omega) (by omega) e e2
    subst e3
    exact hQ _ _ (up υ ch mp mk (by omega) (by omega) (by omega) (rc_fr rc1 hf2 (by decide +kernel) (by decide +kernel)) (rm_scr rm1 hf2 (by decide) (by decide) (mrk_fr rm1.2.2.2.2.2.1 hf2 (by decide) (by decide)) (fun x hx => (rT.1.2.1 x hx).1) rT.1.2.2.1))
theorem op_hardest {Q : Int32 → Int32 → St → Prop} {x : Int32} (hN : N ≤ 600) (hR : Rel N σ) (hQ : ∀ r τ, Rel (N + 1) τ → Q r r τ) : K_BB_hardest g x σ (fun r1 s1 => K_BM_hardest g x s1 (fun r2 s2 => Q r1 r2 s2)) := by
  obtain ⟨X, ch, mp, mk, rc, rm, ok, b1, b2, b3⟩ := hR
  have up : ∀ τ ch' mp' mk', ch' ≤ ch + 1 → mp' ≤ mp + 140000 → mk' ≤ mk + 37 → RC τ X ch' mp' → RM τ X mk' → Rel (N + 1) τ := fun τ ch' mp' mk' a1 a2 a3 a b => ⟨X, ch', mp', mk', a, b, ok, by omega, by omega, by omega⟩
  have stay : Rel (N + 1) σ := up σ ch mp mk (by omega) (by omega) (by omega) rc rm
  refine kB_hardest rc.1.1 ok.1 rc.1.2.1 rc.2.2.2.2.2.1 (fun c => ?_) (fun w hw e hC hB τ hf hpa has => ?_)
  · exact kM_hardest rm.1 ok.1 rm.2.1 (fun _ => hQ _ _ stay) (fun w2 hw2 e2 hC2 hB2 υ hf2 rT => (c.elim hC2 (fun c => c.elim (fun c => by omega) (fun c => c w2 hw2 e2))).elim)
  · have rb1 : RCb τ X := rcb_fr rc.1 hf (by decide +kernel) (by decide +kernel)
    obtain ⟨c0, c1, c2, c3, c4⟩ := rc.2
    have d0 : fi τ 0 14 = nI ch := by rw [(hf.1 0 14 (by decide)).1]; exact c0
    have rc1 : RC τ X ch mp := ⟨rb1, d0, ccS_fr c1 hf (by decide) (by decide +kernel) (by decide +kernel), ccC_fr c2 hf (by decide) (by decide +kernel) (by decide +kernel), ccL_fr c3 hf (by decide) (by decide +kernel) (by decide +kernel), ⟨fun _ _ => hpa, c4.2.1.of has c0, ⟨by rw [(hf.1 69 10 (by decide)).1]; exact c4.2.2.1, by rw [(hf.2 74 (by decide)).1]; exact c4.2.2.2⟩⟩⟩
    have rm1 : RM τ X mk := rm_fr rm hf (by decide) (by decide)
    refine kM_hardest rm1.1 ok.1 rm1.2.1 (fun c => (c.elim hC (fun c => c.elim (fun c => by omega) (fun c => c w hw e))).elim) (fun w2 hw2 e2 hC2 hB2 υ hf2 rT => ?_)
    have e3 := rg_eq (by omega) (by omega) e e2
    subst e3
    exact hQ _ _ (up υ ch mp mk (by omega) (by omega) (by omega) (rc_fr rc1 hf2 (by decide +kernel) (by decide +kernel)) (rm_scr rm1 hf2 (by decide) (by decide) (mrk_fr rm1.2.2.2.2.2.1 hf2 (by decide) (by decide)) (fun x hx => (rT.1.2.1 x hx).1) rT.1.2.2.1))
theorem op_blind {Q : Int32 → Int32 → St → Prop} {x y : Int32} (hN : N ≤ 600) (hR : Rel N σ) (hQ : ∀ r τ, Rel (N + 1) τ → Q r r τ) : K_BB_blind g x y σ (fun r1 s1 => K_BM_blind g x y s1 (fun r2 s2 => Q r1 r2 s2)) := by
  obtain ⟨X, ch, mp, mk, rc, rm, ok, b1, b2, b3⟩ := hR
  have up : ∀ τ ch' mp' mk', ch' ≤ ch + 1 → mp' ≤ mp + 140000 → mk' ≤ mk + 37 → RC τ X ch' mp' → RM τ X mk' → Rel (N + 1) τ := fun τ ch' mp' mk' a1 a2 a3 a b => ⟨X, ch', mp', mk', a, b, ok, by omega, by omega, by omega⟩
  have stay : Rel (N + 1) σ := up σ ch mp mk (by omega) (by omega) (by omega) rc rm
  refine kB_blind rc.1.1 ok.1 rc.1.2.1 rc.2.2.2.2.2.1 rc.2.2.2.2.2.2.2 (by omega) (fun c => ?_) (fun n w hn hw e e1 hC hB τ mp' hmp hf hmk hpa has => ?_)
  · exact kM_blind rm.1 ok.1 rm.2.1 (fun _ => hQ _ _ stay) (fun n2 w2 hn2 hw2 e2 e3 hC2 hB2 υ hf2 rT => (c.elim hC2 (fun c => c.elim (fun c => by omega) (fun c => c.elim (fun c => c n2 hn2 e2) (fun c => c w2 hw2 e3)))).elim)
  · have rb1 : RCb τ X := rcb_fr rc.1 hf (by decide +kernel) (by decide +kernel)
    obtain ⟨c0, c1, c2, c3, c4⟩ := rc.2
    have d0 : fi τ 0 14 = nI ch := by rw [(hf.1 0 14 (by decide)).1]; exact c0
    have rc1 : RC τ X ch mp' := ⟨rb1, d0, ccS_fr c1 hf (by decide) (by decide +kernel) (by decide +kernel), ccC_fr c2 hf (by decide) (by decide +kernel) (by decide +kernel), ccL_fr c3 hf (by decide) (by decide +kernel) (by decide +kernel), ⟨fun _ _ => hpa, c4.2.1.of has c0, hmk⟩⟩
    have rm1 : RM τ X mk := rm_fr rm hf (by decide) (by decide)
    refine kM_blind rm1.1 ok.1 rm1.2.1 (fun c => (c.elim hC (fun c => c.elim (fun c => by omega) (fun c => c.elim (fun c => c n hn e) (fun c => c w hw e1)))).elim) (fun n2 w2 hn2 hw2 e2 e3 hC2 hB2 υ hf2 rT => ?_)
    have e4 := rg_eq (by omega) (by omega) e e2
    have e5 := rg_eq (by omega) (by omega) e1 e3
    subst e4 e5
    exact hQ _ _ (up υ ch mp' mk (by omega) (by omega) (by omega) (rc_fr rc1 hf2 (by decide +kernel) (by decide +kernel)) (rm_scr rm1 hf2 (by decide) (by decide) (mrk_fr rm1.2.2.2.2.2.1 hf2 (by decide) (by decide)) (fun x hx => (rT.1.2.1 x hx).1) rT.1.2.2.1))
theorem op_shaken {Q : Int32 → Int32 → St → Prop} {x y z : Int32} (hN : N ≤ 600) (hR : Rel N σ) (hQ : ∀ r τ, Rel (N + 1) τ → Q r r τ) : K_BB_shaken g x y z σ (fun r1 s1 => K_BM_shaken g x y z s1 (fun r2 s2 => Q r1 r2 s2)) := by
  obtain ⟨X, ch, mp, mk, rc, rm, ok, b1, b2, b3⟩ := hR
  have up : ∀ τ, RC τ X ch mp → RM τ X mk → Rel (N + 1) τ := fun τ a b => ⟨X, ch, mp, mk, a, b, ok, by omega, by omega, by omega⟩
  refine kB_shaken rc.1.1 ok.1 rc.1.2.1 (fun c => ?_) (fun m n w m1 m2 n1 n2 w2 e1 e2 e3 hC τ hf => ?_)
  · exact kM_shaken rm.1 ok.1 rm.2.1 (fun _ => hQ _ _ (up σ rc rm)) (fun m n w m1 m2 n1 n2 w2 e1 e2 e3 hC υ hf2 hp h152 => (c.elim hC (fun c => c.elim (fun c => c m m1 m2 e1) (fun c => c.elim (fun c => c n n1 n2 e2) (fun c => c w w2 e3)))).elim)
  · have rc1 : RC τ X ch mp := rc_fr rc hf (by decide +kernel) (by decide +kernel)
    have rm1 : RM τ X mk := rm_fr rm hf (by decide) (by decide)
    refine kM_shaken rm1.1 ok.1 rm1.2.1 (fun c => (c.elim hC (fun c => c.elim (fun c => c m m1 m2 e1) (fun c => c.elim (fun c => c n n1 n2 e2) (fun c => c w w2 e3)))).elim) (fun m' n' w' m1' m2' n1' n2' w2' e1' e2' e3' hC2 υ hf2 hp h152 => ?_)
    have a1 := rg_eq (by omega) (by omega) e1 e1'
    have a2 := rg_eq (by omega) (by omega) e2 e2'
    have a3 := rg_eq (by omega) (by omega) e3 e3'
    subst a1 a2 a3
    refine hQ _ _ (up υ (rc_fr rc1 hf2 (by decide +kernel) (by decide +kernel)) (rm_fr0 rm1 hf2 rfl (by decide) (by decide) (mrk_fr rm1.2.2.2.2.2.1 hf2 (by decide) (by decide)) ?_))
    obtain ⟨a1, a2, a3, a4, a5⟩ := rm1.1
    refine ⟨by rw [h152]; exact a1, by rw [(hf2.2 153 (by decide)).1]; exact a2, hp, by rw [(hf2.2 155 (by decide)).1]; exact a4, ?_⟩
    rw [(hf2.2 156 (by decide)).1, (hf2.2 157 (by decide)).1, (hf2.2 158 (by decide)).1]; exact a5
theorem op_where {Q : Int64 → Int64 → St → Prop} {x : Int32} (hN : N ≤ 600) (hR : Rel N σ) (hQ : ∀ r τ, Rel (N + 1) τ → Q r r τ) : K_BB_where g x σ (fun r1 s1 => K_BM_where g x s1 (fun r2 s2 => Q r1 r2 s2)) := by
  obtain ⟨X, ch, mp, mk, rc, rm, ok, b1, b2, b3⟩ := hR
  have up : ∀ τ, RC τ X ch mp → RM τ X mk → Rel (N + 1) τ := fun τ a b => ⟨X, ch, mp, mk, a, b, ok, by omega, by omega, by omega⟩
  have hB := ok.1.1.2.2.1
  refine kB_where rc.1.1 ok.1 rc.1.2.1 rc.2.2.2.2.1.1 (fun c => ?_) (fun b hb e τ r hf hca has hbits => ?_)
  · exact kM_where rm.1 ok.1 rm.2.1 (fun _ => hQ _ _ (up σ rc rm)) (fun b hb e υ r hf2 rT hbits => (c b hb e).elim)
  · have rb1 : RCb τ X := rcb_fr rc.1 hf (by decide +kernel) (by decide +kernel)
    obtain ⟨c0, c1, c2, c3, c4⟩ := rc.2
    have d0 : fi τ 0 14 = nI ch := by rw [(hf.1 0 14 (by decide)).1]; exact c0
    have rc1 : RC τ X ch mp := ⟨rb1, d0, ccS_fr c1 hf (by decide) (by decide +kernel) (by decide +kernel), ccC_fr c2 hf (by decide) (by decide +kernel) (by decide +kernel), ⟨hca, c3.2.of has c0⟩, ccP_fr c4 hf (by decide) (by decide +kernel) (by decide +kernel)⟩
    have rm1 : RM τ X mk := rm_fr rm hf (by decide) (by decide)
    refine kM_where rm1.1 ok.1 rm1.2.1 (fun c => (c b hb e).elim) (fun b' hb' e' υ r' hf2 rT hbits' => ?_)
    have e3 := rg_eq (by omega) (by omega) e e'
    subst e3
    have er : r = r' := sb_ext (fun k hk => by rw [hbits k hk, hbits' k hk])
    rw [er]
    exact hQ _ _ (up υ (rc_fr rc1 hf2 (by decide +kernel) (by decide +kernel)) (rm_scr rm1 hf2 (by decide) (by decide) (mrk_fr rm1.2.2.2.2.2.1 hf2 (by decide) (by decide)) (fun x hx => (rT.1.2.1 x hx).1) rT.1.2.2.1))
end
