-- a box's text: the class
abbrev inD (C R n c : Nat) : Prop := (c / 6 < R ∧ c % 6 < C) ∨ (c / 6 = R ∧ c % 6 < n)
def GrD (σ : St) (C R n : Nat) (K : Nat → Nat) : Prop := (∀ c, c < 36 → ai σ 5 (spc c) = if inD C R n c then nI (K c) else -1) ∧ ∀ p, p < 64 → (∀ c, c < 36 → p ≠ spc c) → ai σ 5 p = -1
def HoD (σ : St) (C R n : Nat) (K : Nat → Nat) (H : Nat → Bool) : Prop := ∀ k, k < 3 → (H (2 + k) = false → ai σ 6 k = 0) ∧ (H (2 + k) = true → ∃ c, c < 36 ∧ inD C R n c ∧ K c = 2 + k ∧ ai σ 6 k = nI (spc c)) ∧ ∀ c, c < 36 → inD C R n c → K c = 2 + k → H (2 + k) = true ∧ ai σ 6 k = nI (spc c)
def BxC (σ : St) (b : BxT) : Prop := (fi σ 4 2 = nI b.1 ∧ fi σ 4 3 = nI b.2.1 ∧ fi σ 4 4 = nI b.2.2.1) ∧ GrD σ b.1 b.2.1 0 b.2.2.2.1 ∧ HoD σ b.1 b.2.1 0 b.2.2.2.1 b.2.2.2.2.2 ∧ fi σ 4 5 = nI (sitP b.2.2.2.2.1 b.2.2.1)
theorem inD_0 {C R c : Nat} : inD C R 0 c ↔ c % 6 < C ∧ c / 6 < R := by unfold inD; omega
theorem BxC.cls {σ : St} {b : BxT} (h : BxC σ b) (ho : BxOk b) : ClsB 4 σ b.1 b.2.1 b.2.2.1 b.2.2.2.1 := by
  obtain ⟨h1, ⟨g1, g2⟩, h3, -⟩ := h
  obtain ⟨o1, o2, -⟩ := ho
  refine ⟨h1, ⟨o1.1, o1.2.1, o1.2.2.1⟩, ⟨fun c hx hy => ?_, fun p hp hn => ?_⟩, fun k hk => ⟨fun c hx hy e => ?_, fun hn => ?_⟩⟩
  · have h36 : c < 36 := by omega
    have := g1 c h36
    rw [if_pos (inD_0.mpr ⟨hx, hy⟩)] at this
    exact ⟨this, o2 c h36⟩
  · by_cases q : ∃ c, c < 36 ∧ p = spc c
    · obtain ⟨c, hc, e⟩ := q
      have := g1 c hc
      rw [if_neg (fun z => hn c (inD_0.mp z).1 (inD_0.mp z).2 e)] at this
      rw [e]; exact this
    · exact g2 p hp (fun c hc e => q ⟨c, hc, e⟩)
  · exact ((h3 k hk).2.2 c (by omega) (inD_0.mpr ⟨hx, hy⟩) e).2
  · refine (h3 k hk).1 ?_
    cases q : b.2.2.2.2.2 (2 + k) with
    | false => rfl
    | true =>
      obtain ⟨c, hc, hd, e, -⟩ := (h3 k hk).2.1 q
      exact absurd e (hn c (inD_0.mp hd).1 (inD_0.mp hd).2)
section
variable {g : Gx} {σ : St} {L p : Nat} {T : Nat → Nat}
theorem k_BR_kindOf {Q : Int32 → St → Prop} {t : Nat} (ht : t < 256) (h : Q (oI (kdO t)) σ) : K_BR_kindOf g (nI t) σ Q := by
  unfold kdO at h
  refine ko_BR_kindOf (sg_BR_kindOf_0 (pk_eq t 46 (fun q => ?_) (fun q => pk_eq t 35 (fun q2 => ?_) (fun q2 => pk_lt t 49 (fun q3 => ?_) (fun q3 => pk_lt 51 t (fun q4 => ?_) (fun q4 => ?_))) |>.symm) |>.symm))
  · rw [if_pos q] at h; exact h
  · rw [if_neg q, if_pos q2] at h; exact h
  · rw [if_neg q, if_neg q2, if_neg (by omega)] at h; exact h
  · rw [if_neg q, if_neg q2, if_neg (by omega)] at h; exact h
  · rw [if_neg q, if_neg q2, if_pos ⟨q3, q4⟩] at h
    have : (2 : Int32) + nI t - 49 = nI (t - 47) := by
      show nI 2 + nI t - nI 49 = _
      rw [nI_add, pk_sub (by omega), show 2 + t - 49 = t - 47 by omega]
    rw [this]; exact h
theorem k_hasHole4 {Q : Int32 → St → Prop} {C R n k : Nat} {K : Nat → Nat} {H : Nat → Bool} (hH : HoD σ C R n K H) (hk : k ≤ 4) (h1 : 2 ≤ k → H k = true → Q 1 σ) (h0 : ¬ (2 ≤ k ∧ H k = true) → Q 0 σ) : K_SA_hasHole g 4 (nI k) σ Q := by
  refine ko_SA_hasHole (sg_SA_hasHole_0 sa_4 (pk_lt k 2 (fun q => h0 (by omega)) (fun q => ?_)))
  have e : nI k - 2 = nI (k - 2) := pk_sub (b := 2) q
  rw [e]
  refine ⟨fun z => absurd z (nI_ge (b := 3) (by omega) (by decide)), fun _ => ⟨vp_in_nI (by omega) (by decide), ?_⟩⟩
  rw [nI_clamp (by omega)]
  have hh := hH (k - 2) (by omega)
  rw [show 2 + (k - 2) = k by omega] at hh
  cases qH : H k with
  | false =>
    have := hh.1 qH
    exact ⟨fun _ => h0 (fun z => by rw [qH] at z; exact absurd z.2 (by decide)), fun z => absurd this z⟩
  | true =>
    obtain ⟨c, hc, -, -, e⟩ := hh.2.1 qH
    have c9 := spc_lt hc
    refine ⟨fun z => ?_, fun _ => h1 q qH⟩
    rw [show ai σ (4 + 2) (k - 2) = nI (spc c) from e] at z
    exact absurd z (nI_ne0 (by unfold spc; omega) (by omega))
theorem k_makeKind4 {Q : St → Prop} {s k : Nat} (hs : s < 64) (hk : k ≤ 4) (h1 : k < 2 → Q (sai σ 5 s (nI k))) (h2 : 2 ≤ k → Q (sai (sai σ 5 s (nI k)) 6 (k - 2) (nI s))) : K_SA_makeKind g 4 (nI s) (nI k) σ Q := by
  refine ko_SA_makeKind (sg_SA_makeKind_0 sa_4 ⟨fun w => absurd w (nI_pos (by omega)), fun _ => ⟨fun _ => ⟨vp_in_nI hs (by decide), ?_⟩, fun w => absurd (nI_lt (b := 64) hs (by decide)) w⟩⟩)
  rintro s1 rfl
  rw [nI_clamp (by omega)]
  refine pk_lt k 2 (fun q => h1 q) (fun q => ?_)
  have e : nI k - 2 = nI (k - 2) := pk_sub (b := 2) q
  rw [e]
  refine ⟨fun z => absurd z (nI_ge (b := 3) (by omega) (by decide)), fun _ => ⟨vp_in_nI (by omega) (by decide), ?_⟩⟩
  rintro s2 rfl
  rw [nI_clamp (by omega)]
  exact h2 q
theorem inD_s {C R n c : Nat} (hn : n < 6) : inD C R (n + 1) c ↔ inD C R n c ∨ c = 6 * R + n := by unfold inD; omega
theorem grD_step {τ : St} {C R n k : Nat} {K : Nat → Nat} (hn : n < 6) (hR : R < 6) (h : GrD σ C R n K) (e : ∀ q, ai τ 5 q = if q = spc (6 * R + n) then nI k else ai σ 5 q) : GrD τ C R (n + 1) (upP K (6 * R + n) k) := by
  refine ⟨fun c hc => ?_, fun q hq hno => ?_⟩
  · rw [e]
    by_cases z : c = 6 * R + n
    · rw [if_pos (by rw [z]), if_pos ((inD_s hn).mpr (Or.inr z)), z, upP_same]
    · rw [if_neg (fun w => z (spc_inj w hc (by omega))), h.1 c hc, upP_ne z]
      by_cases w : inD C R n c
      · rw [if_pos w, if_pos ((inD_s hn).mpr (Or.inl w))]
      · rw [if_neg w, if_neg (fun y => ((inD_s hn).mp y).elim w z)]
  · rw [e, if_neg (hno _ (by omega))]; exact h.2 q hq hno
theorem upB_lo {H : Nat → Bool} {k j : Nat} (h : ¬ (2 ≤ k ∧ j = k)) : upB H k j = H j := if_neg h
theorem hoD_step {τ : St} {C R n k : Nat} {K : Nat → Nat} {H : Nat → Bool} (hn : n < 6) (hR : R < 6) (hk : k ≤ 4) (hno : ¬ (2 ≤ k ∧ H k = true)) (h : HoD σ C R n K H) (e : ∀ j, ai τ 6 j = if 2 ≤ k ∧ j = k - 2 then nI (spc (6 * R + n)) else ai σ 6 j) : HoD τ C R (n + 1) (upP K (6 * R + n) k) (upB H k) := by
  intro j hj
  obtain ⟨a1, a2, a3⟩ := h j hj
  have nD : ¬ inD C R n (6 * R + n) := by unfold inD; omega
  rw [e]
  by_cases q : 2 ≤ k ∧ j = k - 2
  · have ek : 2 + j = k := by omega
    have hH : upB H k (2 + j) = true := if_pos ⟨q.1, ek⟩
    have hF : H (2 + j) = false := by
      cases z : H (2 + j) with
      | false => rfl
      | true => rw [ek] at z; exact absurd ⟨q.1, z⟩ hno
    rw [if_pos q]
    refine ⟨fun z => absurd (hH.symm.trans z) (by decide), fun _ => ⟨6 * R + n, by omega, (inD_s hn).mpr (Or.inr rfl), by rw [upP_same]; exact ek.symm, rfl⟩, fun c hc hd hK => ⟨hH, ?_⟩⟩
    by_cases z : c = 6 * R + n
    · rw [z]
    · rw [upP_ne z] at hK
      have := (a3 c hc (((inD_s hn).mp hd).resolve_right z) hK).1
      rw [hF] at this; cases this
  · have hH : upB H k (2 + j) = H (2 + j) := upB_lo (fun z => q ⟨z.1, by omega⟩)
    rw [if_neg q, hH]
    refine ⟨a1, fun z => ?_, fun c hc hd hK => ?_⟩
    · obtain ⟨c, c1, c2, c3, c4⟩ := a2 z
      refine ⟨c, c1, (inD_s hn).mpr (Or.inl c2), ?_, c4⟩
      rw [upP_ne (show c ≠ 6 * R + n from fun w => nD (by rw [← w]; exact c2))]; exact c3
    · by_cases z : c = 6 * R + n
      · rw [z, upP_same] at hK
        exact absurd ⟨by omega, by omega⟩ q
      · rw [upP_ne z] at hK
        exact a3 c hc (((inD_s hn).mp hd).resolve_right z) hK
theorem row_loop {Q : Int32 → St → Prop} {C R p0 : Nat} (hR : R < 6) : ∀ (f p n : Nat) (K : Nat → Nat) (H : Nat → Bool) (σ : St), n + f = 7 → n ≤ 6 → p = p0 + n → p ≤ L → TxC σ L T → fi σ 1 2 = nI p → fi σ 1 3 = 0 → fi σ 4 3 = nI R → GrD σ C R n K → HoD σ C R n K H → (∀ e, rowL L T R f p n K H = .inl e → ∀ τ, fr [(1, 2), (1, 3)] [5, 6] σ τ → fi τ 1 3 = nI e → Q 0 τ) → (∀ r, rowL L T R f p n K H = .inr r → ∀ τ, fr [(1, 2)] [5, 6] σ τ → fi τ 1 2 = nI r.1 → r.1 = p0 + r.2.1 → GrD τ C R r.2.1 r.2.2.1 → HoD τ C R r.2.1 r.2.2.1 r.2.2.2 → S_BR_readRow_109 g Q τ (nI p0)) → S_BR_readRow_9 g Q σ (nI p0) := by
  intro f
  induction f with
  | zero => intro p n K H σ hn hn6; omega
  | succ f ih =>
    intro p n K H σ hn hn6 hpp hpL hx h2 h3 h43 hG hH hbad hend
    have hL := hx.2.1
    unfold rowL at hbad hend
    refine sg_BR_readRow_9 ?_
    rw [hx.1, h2]
    refine pk_le L p (fun q => ?_) (fun q => ?_)
    · have hk : kdA L T p = none := if_neg (by omega)
      rw [hk] at hend
      exact hend _ rfl σ fr.rf h2 hpp hG hH
    · refine k_TA_signAt hx (by omega) ?_
      rw [show sgI L T p = nI (T p) from if_pos q]
      have hb := hx.b p q
      refine k_BR_kindOf hb ?_
      have hk : kdA L T p = kdO (T p) := if_pos q
      rw [hk] at hbad hend
      cases hko : kdO (T p) with
      | none =>
        rw [hko] at hend
        exact ⟨fun c => absurd rfl c, fun _ => hend _ rfl σ fr.rf h2 hpp hG hH⟩
      | some k =>
        rw [hko] at hbad hend
        dsimp only at hbad hend
        have k4 := kdO_le hko
        refine ⟨fun _ => ?_, fun c => absurd c.symm (m1_ne (n := k) (by omega))⟩
        rintro u rfl
        rw [h2, pk_sub (by omega), show p - p0 = n by omega]
        have bl : (n = 6 ∨ 2 ≤ k ∧ H k = true) → K_TA_blame g (nI p) 5 σ (fun r s => (r = 0 ∨ r = 1) ∧ Q r s) := fun w => by
          rw [if_pos w] at hbad
          refine k_TA_blame (c := 5) (fun z => absurd h3 z) (fun _ => ⟨Or.inl rfl, hbad _ rfl _ (fr_sfi (by decide)) rfl⟩)
        refine pk_le 6 n (fun q6 => bl (Or.inl (by omega))) (fun q6 => ?_)
        refine k_hasHole4 hH k4 (fun w1 w2 => ⟨fun c => absurd c (by decide), fun _ => ?_⟩) (fun w => ⟨fun _ => ?_, fun c => absurd rfl c⟩)
        · rw [h2]; exact bl (Or.inr ⟨w1, w2⟩)
        · have nn : ¬ (n = 6 ∨ 2 ≤ k ∧ H k = true) := fun z => z.elim (by omega) w
          rw [if_neg nn] at hbad hend
          rw [h43]
          refine k_SA_spotOf (fun x y hx5 hy5 ex ey => ?_) (fun z => (z n R (by omega) (by omega) rfl rfl).elim)
          have e1 := (nI_eq (by omega) (by omega)).mp ex
          have e2 := (nI_eq (by omega) (by omega)).mp ey
          subst e1 e2
          have esp : 8 * R + n + 9 = spc (6 * R + n) := by unfold spc; omega
          rw [esp]
          have fin : ∀ τ, fr [(1, 2)] [5, 6] σ τ → fi τ 1 2 = nI (p + 1) → (∀ q, ai τ 5 q = if q = spc (6 * R + n) then nI k else ai σ 5 q) → (∀ j, ai τ 6 j = if 2 ≤ k ∧ j = k - 2 then nI (spc (6 * R + n)) else ai σ 6 j) → S_BR_readRow_9 g Q τ (nI p0) := by
            intro τ hf t2 a5 a6
            refine ih (p + 1) (n + 1) _ _ τ (by omega) (by omega) (by omega) (by omega) (hx.frm hf (by decide) (by decide)) t2 (by rw [(hf.1 1 3 (by decide)).1]; exact h3) (by rw [(hf.1 4 3 (by decide)).1]; exact h43) (grD_step (by omega) hR hG a5) (hoD_step (by omega) hR k4 w hH a6) (fun e he τ2 hf2 h13 => ?_) (fun r he τ2 hf2 b2 b3 b4 b5 => ?_)
            · exact hbad e he τ2 ((hf.mo (by decide) (by decide)).tr hf2) h13
            · exact hend r he τ2 (hf.tr hf2) b2 b3 b4 b5
          refine k_makeKind4 (spc_lt (by omega)) k4 (fun z => ?_) (fun z => ?_)
          · rintro s e
            have h12 : fi (sai σ 5 (spc (6 * R + n)) (nI k)) 1 2 = nI p := h2
            rw [h12, nI_1] at e
            refine fin s ?_ (by rw [e]; rfl) (fun q => ?_) (fun j => ?_)
            · rw [e]; exact (fr_sai (by decide)).tr (fr_sfi (by decide))
            · rw [e, ai_sfi, ai_sai]; simp only [true_and]
            · rw [e, ai_sfi, ai_sai, if_neg (fun w => absurd w.1 (by decide)), if_neg (fun w => by omega)]
          · rintro s e
            have h12 : fi (sai (sai σ 5 (spc (6 * R + n)) (nI k)) 6 (k - 2) (nI (spc (6 * R + n)))) 1 2 = nI p := h2
            rw [h12, nI_1] at e
            refine fin s ?_ (by rw [e]; rfl) (fun q => ?_) (fun j => ?_)
            · rw [e]; exact ((fr_sai (by decide)).tr (fr_sai (by decide))).tr (fr_sfi (by decide))
            · rw [e, ai_sfi, ai_sai, if_neg (fun w => absurd w.1 (by decide)), ai_sai]; simp only [true_and]
            · rw [e, ai_sfi, ai_sai]
              by_cases w : j = k - 2
              · rw [if_pos ⟨rfl, w⟩, if_pos ⟨z, w⟩]
              · rw [if_neg (fun y => w y.2), if_neg (fun y => w y.2), ai_sai, if_neg (fun y => absurd y.1 (by decide))]
theorem k_BR_readRow {Q : Int32 → St → Prop} {b : BxT} (hx : TxC σ L T) (hpL : p ≤ L) (h2 : fi σ 1 2 = nI p) (h3 : fi σ 1 3 = 0) (hb : BxC σ b) (ho : BxOk b) (hB : b.2.2.1 = 0) (hR : b.2.1 < 6) (hbad : ∀ e, rowF L T b p = .inl e → ∀ τ, fr [(1, 2), (1, 3), (4, 2), (4, 3), (4, 4), (4, 5)] [5, 6] σ τ → fi τ 1 3 = nI e → Q 0 τ) (hok : ∀ r, rowF L T b p = .inr r → ∀ τ, fr [(1, 2), (1, 3), (4, 2), (4, 3), (4, 4), (4, 5)] [5, 6] σ τ → fi τ 1 3 = 0 → fi τ 1 2 = nI r.2 → BxC τ r.1 → Q 1 τ) : K_BR_readRow g σ Q := by
  have hL := hx.2.1
  have sl : skF L T p ≤ L := skF_le hpL
  obtain ⟨⟨c2, c3, c4⟩, hG, hH, c5⟩ := hb
  refine ko_BR_readRow (sg_BR_readRow_0 (k_TA_skipBlanks hx h2 (by omega) ?_))
  rintro u rfl
  rw [show fi (sfi σ 1 2 (nI (skF L T p))) 1 2 = nI (skF L T p) from rfl]
  have f0 : fr [(1, 2), (1, 3), (4, 2), (4, 3), (4, 4), (4, 5)] [5, 6] σ (sfi σ 1 2 (nI (skF L T p))) := fr_sfi (by decide)
  refine row_loop (C := b.1) (R := b.2.1) hR 7 (skF L T p) 0 b.2.2.2.1 b.2.2.2.2.2 _ rfl (by decide) rfl sl (hx.at (by decide)) rfl h3 c3 hG hH (fun e he τ hf h13 => ?_) (fun r he τ hf t2 rp rG rH => ?_)
  · exact hbad e (by unfold rowF; rw [he]) τ (f0.tr (hf.mo (by decide) (by decide))) h13
  · have F := f0.tr (hf.mo (by decide) (by decide) : fr [(1, 2), (1, 3), (4, 2), (4, 3), (4, 4), (4, 5)] [5, 6] _ τ)
    have t3 : fi τ 1 3 = 0 := by rw [(hf.1 1 3 (by decide)).1]; exact h3
    have t42 : fi τ 4 2 = nI b.1 := by rw [(hf.1 4 2 (by decide)).1]; exact c2
    have t43 : fi τ 4 3 = nI b.2.1 := by rw [(hf.1 4 3 (by decide)).1]; exact c3
    have t44 : fi τ 4 4 = nI b.2.2.1 := by rw [(hf.1 4 4 (by decide)).1]; exact c4
    have t45 : fi τ 4 5 = nI (sitP b.2.2.2.2.1 b.2.2.1) := by rw [(hf.1 4 5 (by decide)).1]; exact c5
    have ok := rowL_ok sl (by omega) ho.2.1 he
    have b6 := ho.1.1
    unfold rowF at hbad hok
    rw [he] at hbad hok
    dsimp only at hbad hok
    refine sg_BR_readRow_109 ?_
    rintro u rfl
    rw [t2, pk_sub (by omega), show r.1 - skF L T p = r.2.1 by omega, t43]
    have set : ¬ r.2.1 = 0 → ¬ (0 < b.2.1 ∧ r.2.1 ≠ b.1) → ∀ s2, s2 = sfi τ 4 2 (nI r.2.1) → ∀ s3, s3 = sfi s2 4 3 (fi s2 4 3 + 1) → Q 1 s3 := by
      intro n0 nC s2 e2 s3 e3
      rw [if_neg n0, if_neg nC] at hok
      have a43 : fi s2 4 3 = nI b.2.1 := by rw [e2]; exact t43
      rw [a43, nI_1] at e3
      have f3 : fr [(4, 2), (4, 3)] [] τ s3 := by rw [e3, e2]; exact (fr_sfi (by decide)).tr (fr_sfi (by decide))
      have same : ∀ c, inD r.2.1 (b.2.1 + 1) 0 c ↔ inD b.1 b.2.1 r.2.1 c := by intro c; unfold inD; omega
      refine hok _ rfl s3 (F.tr (f3.mo (by decide) (by decide))) (by rw [(f3.1 1 3 (by decide)).1]; exact t3) (by rw [(f3.1 1 2 (by decide)).1]; exact t2) ⟨⟨by rw [e3, e2]; rfl, by rw [e3]; rfl, by rw [(f3.1 4 4 (by decide)).1]; exact t44⟩, ⟨fun c hc => ?_, ?_⟩, fun k hk => ?_, by rw [(f3.1 4 5 (by decide)).1]; exact t45⟩
      · rw [(f3.2 5 (by decide)).1, rG.1 c hc]
        by_cases w : inD b.1 b.2.1 r.2.1 c
        · rw [if_pos w, if_pos ((same c).mpr w)]
        · rw [if_neg w, if_neg (fun y => w ((same c).mp y))]
      · rw [(f3.2 5 (by decide)).1]; exact rG.2
      · rw [(f3.2 6 (by decide)).1]
        obtain ⟨a1, a2, a3⟩ := rH k hk
        refine ⟨a1, fun z => ?_, fun c hc hd hK => a3 c hc ((same c).mp hd) hK⟩
        obtain ⟨c, d1, d2, d3, d4⟩ := a2 z
        exact ⟨c, d1, (same c).mpr d2, d3, d4⟩
    refine pk_eq r.2.1 0 (fun n0 => ?_) (fun n0 => ?_) |>.symm
    · rw [if_pos n0] at hbad
      exact k_TA_blame (c := 0) (fun z => absurd t3 z) (fun _ => ⟨Or.inl rfl, hbad _ rfl _ (F.tr (fr_sfi (by decide))) rfl⟩)
    · refine pk_le b.2.1 0 (fun r0 => set n0 (by omega)) (fun r0 => ?_)
      rw [t42]
      refine pk_eq r.2.1 b.1 (fun w => set n0 (by omega)) (fun w => ?_)
      rw [nI_m1 (by omega)]
      rw [if_neg n0, if_pos ⟨r0, w⟩] at hbad
      exact k_TA_blame (c := 5) (fun z => absurd t3 z) (fun _ => ⟨Or.inl rfl, hbad _ rfl _ (F.tr (fr_sfi (by decide))) rfl⟩)
end
