-- the calls that change something, on both sides
def pfR : List (Nat × Nat) := [(0, 13), (17, 5)] ++ (List.range 6).flatMap (fun i => [(22 + 5 * i, 5), (22 + 5 * i, 6)]) ++ (List.range 4).flatMap (fun k => (List.range 11).map (fun j => (91 + 5 * k, j))) ++ (List.range 8).flatMap (fun k => (List.range 10).map (fun j => (111 + 5 * k, j + 1)))
def prR : List Nat := [90] ++ (List.range 6).flatMap (fun i => [23 + 5 * i, 24 + 5 * i, 25 + 5 * i]) ++ (List.range 4).flatMap (fun k => (List.range 4).map (fun j => 92 + 5 * k + j)) ++ (List.range 8).flatMap (fun k => (List.range 4).map (fun j => 112 + 5 * k + j))
theorem qb2 : ∀ i, i < 6 → (22 + 5 * i, 5) ∈ pfR ∧ (22 + 5 * i, 6) ∈ pfR := by decide +kernel
theorem qb3 : ∀ k, k < 4 → ∀ j, j ≤ 10 → (91 + 5 * k, j) ∈ pfR := by decide +kernel
theorem qb4' : ∀ k, k < 8 → ∀ j, j < 10 → (111 + 5 * k, j + 1) ∈ pfR := by decide +kernel
theorem qb4 : ∀ k, k < 8 → ∀ j, j ≤ 10 → 1 ≤ j → (111 + 5 * k, j) ∈ pfR := fun k hk j h1 h2 => by
  have := qb4' k hk (j - 1) (by omega)
  rw [show j - 1 + 1 = j by omega] at this
  exact this
theorem qr2 : ∀ i, i < 6 → 22 + 5 * i + 1 ∈ prR ∧ 22 + 5 * i + 2 ∈ prR ∧ 22 + 5 * i + 3 ∈ prR := by decide +kernel
theorem qr3 : ∀ k, k < 4 → ∀ j, j ≤ 4 → 1 ≤ j → 91 + 5 * k + j ∈ prR := by decide +kernel
theorem qr4 : ∀ k, k < 8 → ∀ j, j ≤ 4 → 1 ≤ j → 111 + 5 * k + j ∈ prR := by decide +kernel
def sX (X : GX) (d : Dat) (L : Nat) (T : Nat → Nat) : GX := (d, xn X, xR X, xb X, xE X, xI X, xD X, L, T, xp X)
section
variable {σ τ : St} {X : GX} {F : List (Nat × Nat)} {M : List Nat} {ch mp mk : Nat} {d' : Dat} {L' : Nat} {T' : Nat → Nat}
theorem rcb_fr2 (h : RCb σ X) (hf : fr F M σ τ) (hF : ∀ q ∈ pfR, q ∉ F) (hM : ∀ q ∈ prR, q ∉ M) (hs : ClsS 83 τ d') (ht : TxC τ L' T') : RCb τ (sX X d' L' T') := by
  obtain ⟨h1, h2, ⟨h3, h4, h5⟩, h6, h7⟩ := h
  refine ⟨hs, rulC_fr h2 hf (hF _ (by decide +kernel)) (fun i hi => ⟨hF _ (qb2 i hi).1, hF _ (qb2 i hi).2⟩) (fun i hi => ⟨hM _ (qr2 i hi).1, hM _ (qr2 i hi).2.1, hM _ (qr2 i hi).2.2⟩), ⟨by rw [(hf.1 0 13 (hF _ (by decide +kernel))).1]; exact h3, h4, fun k hk => ⟨?_, ?_⟩⟩, fun k hk => ⟨?_, fun q => ?_⟩, ht⟩
  · have hk : k < xb X := hk
    exact (h5 k hk).1.frm hf (fun j a b => hF _ (qb4 k (by omega) j a b)) (fun j a b => hM _ (qr4 k (by omega) j a b))
  · rw [(hf.2 90 (hM _ (by decide +kernel))).1]; exact (h5 k hk).2
  · rw [(hf.1 (91 + 5 * k) 0 (hF _ (qb3 k hk 0 (by decide)))).1]; exact (h6 k hk).1
  · exact ((h6 k hk).2 q).frm hf (fun j a b => hF _ (qb3 k hk j a)) (fun j a b => hM _ (qr3 k hk j a b))
theorem rm_fr2 (h : RM σ X mk) (hf : fr F M σ τ) (hF : ∀ q ∈ [(151, 15), (151, 20), (151, 66)], q ∉ F) (hM : ∀ q ∈ [163, 164, 165, 166, 167, 168, 192, 193, 194, 195, 196, 197, 198], q ∉ M) (hm : MrkM τ mk) (hc : CurM τ d') (ht : TxM τ L' T') : RM τ (sX X d' L' T') mk := by
  obtain ⟨h1, h2, ⟨h3, h4⟩, h5, h6, h7, h8⟩ := h
  refine ⟨hc, h2.fr hf (hF _ (by decide)) (hM _ (by decide)) (hM _ (by decide)) (hM _ (by decide)) (hM _ (by decide)) (hM _ (by decide)) (hM _ (by decide)), ⟨by rw [(hf.1 151 66 (hF _ (by decide))).1]; exact h3, fun k hk => ?_⟩, fun k hk => ?_, ht, hm, by rw [(hf.1 151 20 (hF _ (by decide))).1]; exact h8⟩
  · have := h4 k hk
    unfold PgM at this ⊢
    rw [(hf.2 192 (hM _ (by decide))).1, (hf.2 193 (hM _ (by decide))).1, (hf.2 194 (hM _ (by decide))).1, (hf.2 195 (hM _ (by decide))).1, (hf.2 196 (hM _ (by decide))).1]
    exact this
  · have := h5 k hk
    unfold ImM at this ⊢
    rw [(hf.2 197 (hM _ (by decide))).1, (hf.2 198 (hM _ (by decide))).1]
    exact this
theorem okX_d (h : OkX X) (hd : OkD (xn X) d') : OkX (sX X d' L' T') := ⟨hd, h.2⟩
theorem text_tape (h1 : TxC σ L' T') (h2 : TxM σ L' T') : TapeR σ := by
  refine ⟨L', h1.2.1, h1.1, h2.1, fun k hk => ⟨nI (T' k), (h2.2.2 k hk).1, ?_⟩⟩
  obtain ⟨a, b⟩ := h1.2.2 k hk
  rw [a, pk_andN (n := T' k) (by omega) (m := 255) 8 rfl, Nat.mod_eq_of_lt (show T' k < 2 ^ 8 by omega)]
theorem i1_up {a : Int32} {n : Nat} (h : a = nI n) : a + 1 = nI (n + 1) := by rw [h, nI_1]
end
section
variable {g : Gx} {σ : St} {N : Nat}
theorem op_cellR {Q : Int32 → Int32 → St → Prop} {x y z : Int32} (hN : N ≤ 600) (hR : Rel N σ) (hQ : ∀ r τ, Rel (N + 1) τ → Q r r τ) : K_BB_cell g x y z σ (fun r1 s1 => K_BM_cell g x y z s1 (fun r2 s2 => Q r1 r2 s2)) := by
  obtain ⟨X, ch, mp, mk, rc, rm, ok, b1, b2, b3⟩ := hR
  have stay : Rel (N + 1) σ := ⟨X, ch, mp, mk, rc, rm, ok, by omega, by omega, by omega⟩
  have hs := rc.1.1
  have hc := rm.1
  have ho := ok.1
  refine op_cell (C := vC (xd X)) (R := vR (xd X)) (B := vB (xd X)) (K := vK (xd X)) (P := vP (xd X)) ⟨⟨hs.2.1.1.1, hs.2.1.1.2.1, hs.2.1.1.2.2, hs.1⟩, ⟨hc.1.1, hc.1.2.1, hc.1.2.2.1⟩, ⟨ho.1.1, ho.1.2.1, ho.1.2.2.1, ho.1.2.2.2.1⟩, hs.2.1.2.2.1, fun c hc' => ⟨hc.2.1 c hc', ho.2.1 c hc'⟩, hs.2.2.1, fun b hb => ⟨hc.2.2.1 b hb, (ho.2.2.1.1.2 b).1, fun h36 => ⟨((ho.2.2.1.1.2 b).2 h36).1, ((ho.2.2.1.1.2 b).2 h36).2, ho.2.2.1.2 b h36⟩⟩⟩ (fun r => hQ r σ stay)
theorem op_ballR {Q : Int32 → Int32 → St → Prop} {x y : Int32} (hN : N ≤ 600) (hR : Rel N σ) (hQ : ∀ r τ, Rel (N + 1) τ → Q r r τ) : K_BB_ball g x y σ (fun r1 s1 => K_BM_ball g x y s1 (fun r2 s2 => Q r1 r2 s2)) := by
  obtain ⟨X, ch, mp, mk, rc, rm, ok, b1, b2, b3⟩ := hR
  have stay : Rel (N + 1) σ := ⟨X, ch, mp, mk, rc, rm, ok, by omega, by omega, by omega⟩
  have hB := ok.1.1.2.2.1
  refine kB_ball rc.1.1 ok.1 (fun c => ?_) (fun b k hb hk e e1 => ?_)
  · exact kM_ball rm.1 ok.1 rm.2.1 (fun _ => hQ _ _ stay) (fun b k hb hk e e1 => (c.elim (fun c => c b hb e) (fun c => c k hk e1)).elim)
  · refine kM_ball rm.1 ok.1 rm.2.1 (fun c => (c.elim (fun c => c b hb e) (fun c => c k hk e1)).elim) (fun b' k' hb' hk' e' e1' => ?_)
    have a1 := rg_eq (by omega) (by omega) e e'
    have a2 := rg_eq (by omega) (by omega) e1 e1'
    subst a1 a2
    exact hQ _ _ stay
theorem op_countR {Q : Int32 → Int32 → St → Prop} {x : Int32} (hN : N ≤ 600) (hR : Rel N σ) (hQ : ∀ r τ, Rel (N + 1) τ → Q r r τ) : K_BB_count g x σ (fun r1 s1 => K_BM_count g x s1 (fun r2 s2 => Q r1 r2 s2)) := by
  obtain ⟨X, ch, mp, mk, rc, rm, ok, b1, b2, b3⟩ := hR
  have stay : Rel (N + 1) σ := ⟨X, ch, mp, mk, rc, rm, ok, by omega, by omega, by omega⟩
  refine kB_count rc.1.1 ok.1 rc.1.2.1 rc.1.2.2.1.1 rc.1.2.2.2.2.1 (fun c => ?_) (fun k hk e => ?_)
  · exact kM_count rm.1 ok.1 rm.2.1 rm.2.2.1.1 rm.2.2.2.2.1.1 (fun _ => hQ _ _ stay) (fun k hk e => (c k hk e).elim)
  · refine kM_count rm.1 ok.1 rm.2.1 rm.2.2.1.1 rm.2.2.2.2.1.1 (fun c => (c k hk e).elim) (fun k' hk' e' => ?_)
    have a1 := rg_eq (by omega) (by omega) e e'
    subst a1
    exact hQ _ _ stay
theorem op_painR {Q : Int32 → Int32 → St → Prop} {x : Int32} (hN : N ≤ 600) (hR : Rel N σ) (hQ : ∀ r τ, Rel (N + 1) τ → Q r r τ) : K_BB_pain g x σ (fun r1 s1 => K_BM_pain g x s1 (fun r2 s2 => Q r1 r2 s2)) := by
  obtain ⟨X, ch, mp, mk, rc, rm, ok, b1, b2, b3⟩ := hR
  have stay : Rel (N + 1) σ := ⟨X, ch, mp, mk, rc, rm, ok, by omega, by omega, by omega⟩
  have h8 := rc.1.2.2.1.2.1
  refine kB_pain h8 rc.1.2.2.1.1 (fun c => ?_) (fun k hk e => ?_)
  · exact kM_pain h8 rm.2.2.1.1 (fun _ => hQ _ _ stay) (fun k hk e => (c k hk e).elim)
  · refine kM_pain h8 rm.2.2.1.1 (fun c => (c k hk e).elim) (fun k' hk' e' => ?_)
    have a1 := rg_eq (by omega) (by omega) e e'
    subst a1
    rw [(rc.1.2.2.1.2.2 _ hk).2, (rm.2.2.1.2 _ hk).2]
    exact hQ _ _ stay
theorem tape_op {τ : St} {X : GX} {ch mp mk : Nat} (rc : RC σ X ch mp) (rm : RM σ X mk) (ok : OkX X) (hN : ch ≤ N ∧ mp ≤ 140000 * N ∧ mk ≤ 37 * N) (ht : TapeR τ) (hf : fr [(1, 1), (151, 11)] [2, 162] σ τ) : Rel (N + 1) τ := by
  obtain ⟨L, T, t1, t2⟩ := tape_text ht
  refine ⟨sX X (xd X) L T, ch, mp, mk, ⟨rcb_fr2 rc.1 hf (by decide +kernel) (by decide +kernel) (rc.1.1.frm hf (fun k _ _ => by simp) (fun k _ _ => by simp <;> omega)) t1, ?_⟩, rm_fr2 rm hf (by decide) (by decide) (mrk_fr rm.2.2.2.2.2.1 hf (by decide) (by decide)) (cur_fr rm.1 hf (by decide) (by decide) (by decide) (by decide) (by decide) (by rw [(hf.2 153 (by decide)).1]; exact rm.1.2.1) (by rw [(hf.2 154 (by decide)).1]; exact rm.1.2.2.1)) t2, okX_d ok ok.1, by omega, by omega, by omega⟩
  exact cch_fr rc.2 hf (by decide) (by decide +kernel) (by decide +kernel)
theorem op_feedR {Q : Int32 → Int32 → St → Prop} {a b c d e : Int32} (hN : N ≤ 600) (hR : Rel N σ) (hQ : ∀ r τ, Rel (N + 1) τ → Q r r τ) : K_BB_feed g a b c d e σ (fun r1 s1 => K_BM_feed g a b c d e s1 (fun r2 s2 => Q r1 r2 s2)) := by
  obtain ⟨X, ch, mp, mk, rc, rm, ok, b1, b2, b3⟩ := hR
  exact op_feed (text_tape rc.1.2.2.2.2 rm.2.2.2.2.1) (fun r τ ht hf => hQ r τ (tape_op rc rm ok ⟨b1, b2, b3⟩ ht hf))
theorem op_endR {Q : Int32 → Int32 → St → Prop} {x : Int32} (hN : N ≤ 600) (hR : Rel N σ) (hQ : ∀ r τ, Rel (N + 1) τ → Q r r τ) : K_BB_end g x σ (fun r1 s1 => K_BM_end g x s1 (fun r2 s2 => Q r1 r2 s2)) := by
  obtain ⟨X, ch, mp, mk, rc, rm, ok, b1, b2, b3⟩ := hR
  exact op_end (text_tape rc.1.2.2.2.2 rm.2.2.2.2.1) (fun r τ ht hf => hQ r τ (tape_op rc rm ok ⟨b1, b2, b3⟩ ht hf))
theorem op_seedR {Q : Int32 → Int32 → St → Prop} {x : Int32} (hN : N ≤ 600) (hR : Rel N σ) (hQ : ∀ r τ, Rel (N + 1) τ → Q r r τ) : K_BB_seed g x σ (fun r1 s1 => K_BM_seed g x s1 (fun r2 s2 => Q r1 r2 s2)) := by
  obtain ⟨X, ch, mp, mk, rc, rm, ok, b1, b2, b3⟩ := hR
  have stay : Rel (N + 1) σ := ⟨X, ch, mp, mk, rc, rm, ok, by omega, by omega, by omega⟩
  refine op_seed (rc.1.1.2.2.2.2.2.2.2.2.2.trans rm.1.1.2.2.2.2.2.2.1.symm) (fun r τ h => ?_)
  rcases h with ⟨-, e⟩ | ⟨h0, e⟩
  · rw [e]; exact hQ r σ stay
  · have hx : ¬ x < 0 := fun z => by
      have := Int32.lt_iff_toInt_lt.mp z
      have := Int32.le_iff_toInt_le.mp h0
      omega
    obtain ⟨j, hj, rfl⟩ := nI_of hx
    have hf : fr [(83, 10)] [152] σ τ := by rw [e]; exact (fr_sfi (by decide)).tr (fr_sai (by decide))
    refine hQ r τ ⟨sX X (dX (xd X) j) (xL X) (xT X), ch, mp, mk, ⟨rcb_fr2 rc.1 hf (by decide +kernel) (by decide +kernel) ?_ (rc.1.2.2.2.2.frm hf (by decide) (by decide)), cch_fr rc.2 hf (by decide) (by decide +kernel) (by decide +kernel)⟩, rm_fr2 rm hf (by decide) (by decide) (mrk_fr rm.2.2.2.2.2.1 hf (by decide) (by decide)) ?_ (rm.2.2.2.2.1.frm hf (by decide) (by decide)), okX_d ok ?_, by omega, by omega, by omega⟩
    · obtain ⟨s1, s2, s3, s4, s5, s6, s7, s8, s9, s10⟩ := rc.1.1
      refine ⟨?_, s2.fr hf (by decide) (by decide) (by decide) (by decide) (by decide), ?_, ?_, ?_, fun i hi => ?_, ?_, fun i hi => ?_, ?_, ?_⟩
      · rw [(hf.1 83 1 (by decide)).1]; exact s1
      · rw [(hf.1 83 5 (by decide)).1]; exact s3
      · rw [(hf.1 83 6 (by decide)).1]; exact s4
      · rw [(hf.1 83 7 (by decide)).1]; exact s5
      · rw [(hf.2 (83 + 3) (by decide)).1]; exact s6 i hi
      · rw [(hf.1 83 8 (by decide)).1]; exact s7
      · rw [(hf.2 (83 + 4) (by decide)).1]; exact s8 i hi
      · rw [(hf.1 83 9 (by decide)).1]; exact s9
      · rw [e]; rfl
    · obtain ⟨⟨c0, c1, c2, c3, c4, c5, c6, c7⟩, a2, a3, a4, a5⟩ := rm.1
      have o : ∀ k, k ≠ 6 → ai τ 152 k = ai σ 152 k := fun k hk => by rw [e, ai_sai, if_neg (fun z => hk z.2)]; rfl
      refine ⟨⟨?_, ?_, ?_, ?_, ?_, ?_, ?_, ?_⟩, ?_, ?_, ?_, ?_⟩
      · rw [o 0 (by decide)]; exact c0
      · rw [o 1 (by decide)]; exact c1
      · rw [o 2 (by decide)]; exact c2
      · rw [o 3 (by decide)]; exact c3
      · rw [o 4 (by decide)]; exact c4
      · rw [o 5 (by decide)]; exact c5
      · rw [e, ai_sai, if_pos ⟨rfl, rfl⟩]
      · rw [o 7 (by decide)]; exact c7
      · rw [(hf.2 153 (by decide)).1]; exact a2
      · rw [(hf.2 154 (by decide)).1]; exact a3
      · rw [(hf.2 155 (by decide)).1]; exact a4
      · rw [(hf.2 156 (by decide)).1, (hf.2 157 (by decide)).1, (hf.2 158 (by decide)).1]; exact a5
    · obtain ⟨o1, o2, o3, o4, o5, o6, o7, o8, o9, o10⟩ := ok.1
      exact ⟨o1, o2, o3, o4, o5, o6, o7, o8, hj, o10⟩
theorem op_pressR {Q : Int32 → Int32 → St → Prop} {x : Int32} (hN : N ≤ 600) (hR : Rel N σ) (hQ : ∀ r τ, Rel (N + 1) τ → Q r r τ) : K_BB_press g x σ (fun r1 s1 => K_BM_press g x s1 (fun r2 s2 => Q r1 r2 s2)) := by
  obtain ⟨X, ch, mp, mk, rc, rm, ok, b1, b2, b3⟩ := hR
  obtain ⟨o1, o2, o3, o4, o5, o6, o7, o8, o9, o10⟩ := id ok.1
  obtain ⟨s1, s2, s3, s4, s5, s6, s7, s8, s9, s10⟩ := id rc.1.1
  obtain ⟨⟨c0, c1, c2, c3, c4, c5, c6, c7⟩, a2, a3, a4, a5⟩ := id rm.1
  refine op_press (C := vC (xd X)) o1.1 s1 c0 ⟨vn (xd X), o5, s5, c4, fun k hk => ⟨vrw (xd X) k, o6 k hk, s6 k hk, a4 k hk⟩⟩ (fun r τ hrow hf o => ?_)
  obtain ⟨n, hn8, e7, e4, hrw⟩ := hrow
  have rw' : ∀ k, k < n → (ai τ 86 k).toNatClampNeg < 4 ∧ ai τ 86 k = nI (ai τ 86 k).toNatClampNeg ∧ ai τ 155 k = nI (ai τ 86 k).toNatClampNeg := fun k hk => by
    obtain ⟨w, hw, w1, w2⟩ := hrw k hk
    have e : (ai τ 86 k).toNatClampNeg = w := by rw [w1, nI_clamp (by omega)]
    rw [e]; exact ⟨hw, w1, w2⟩
  refine hQ r τ ⟨sX X (dN (xd X) n (fun k => (ai τ 86 k).toNatClampNeg)) (xL X) (xT X), ch, mp, mk, ⟨rcb_fr2 rc.1 hf (by decide +kernel) (by decide +kernel) ?_ (rc.1.2.2.2.2.frm hf (by decide) (by decide)), cch_fr rc.2 hf (by decide) (by decide +kernel) (by decide +kernel)⟩, rm_fr2 rm hf (by decide) (by decide) (mrk_fr rm.2.2.2.2.2.1 hf (by decide) (by decide)) ?_ (rm.2.2.2.2.1.frm hf (by decide) (by decide)), okX_d ok ⟨o1, o2, o3, o4, hn8, fun k hk => (rw' k hk).1, o7, o8, o9, o10⟩, by omega, by omega, by omega⟩
  · refine ⟨?_, s2.fr hf (by decide) (by decide) (by decide) (by decide) (by decide), ?_, ?_, e7, fun i hi => (rw' i hi).2.1, ?_, fun i hi => ?_, ?_, ?_⟩
    · rw [(hf.1 83 1 (by decide)).1]; exact s1
    · rw [(hf.1 83 5 (by decide)).1]; exact s3
    · rw [(hf.1 83 6 (by decide)).1]; exact s4
    · rw [(hf.1 83 8 (by decide)).1]; exact s7
    · rw [(hf.2 (83 + 4) (by decide)).1]; exact s8 i hi
    · rw [(hf.1 83 9 (by decide)).1]; exact s9
    · rw [(hf.1 83 10 (by decide)).1]; exact s10
  · refine ⟨⟨?_, ?_, ?_, ?_, e4, ?_, ?_, ?_⟩, ?_, ?_, fun k hk => (rw' k hk).2.2, ?_⟩
    · rw [o 0 (by decide)]; exact c0
    · rw [o 1 (by decide)]; exact c1
    · rw [o 2 (by decide)]; exact c2
    · rw [o 3 (by decide)]; exact c3
    · rw [o 5 (by decide)]; exact c5
    · rw [o 6 (by decide)]; exact c6
    · rw [o 7 (by decide)]; exact c7
    · rw [(hf.2 153 (by decide)).1]; exact a2
    · rw [(hf.2 154 (by decide)).1]; exact a3
    · rw [(hf.2 156 (by decide)).1, (hf.2 157 (by decide)).1, (hf.2 158 (by decide)).1]; exact a5
end
