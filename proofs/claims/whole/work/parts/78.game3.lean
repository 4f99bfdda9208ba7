-- game: the reference
/-- the first way that was found so far -/
def fst4 (f : Nat → Bool) : Nat → Int32
  | 0 => -1
  | w + 1 => if fst4 f w = -1 ∧ f w = true then nI w else fst4 f w
theorem fst4_prt {f : Nat → Bool} : ∀ w, w ≤ 4 → (prt f true w = false → fst4 f w = -1) ∧ (prt f true w = true → fst4 f w = fwF f)
  | 0, _ => ⟨fun _ => rfl, fun h => by simp [prt] at h⟩
  | w + 1, hw => by
    obtain ⟨ih1, ih2⟩ := fst4_prt (f := f) w (by omega)
    have ep : prt f true (w + 1) = (prt f true w || f w) := rfl
    have ef : fst4 f (w + 1) = if fst4 f w = -1 ∧ f w = true then nI w else fst4 f w := rfl
    have hlow : ∀ v, v ≤ 4 → prt f true v = false → ∀ x, x < v → f x = false := by
      intro v
      induction v with
      | zero => intro _ _ x hx; exact absurd hx (by omega)
      | succ v ihv =>
        intro hv h x hx
        have e : prt f true (v + 1) = (prt f true v || f v) := rfl
        rw [e, Bool.or_eq_false_iff] at h
        by_cases q : x = v
        · rw [q]; exact h.2
        · exact ihv (by omega) h.1 x (by omega)
    have fne : fwF f ≠ -1 := by
      unfold fwF
      split
      · decide
      · split
        · decide
        · split
          · decide
          · split <;> decide
    rw [ep, ef]
    constructor
    · intro h
      rw [Bool.or_eq_false_iff] at h
      rw [if_neg (fun z => by rw [h.2] at z; exact absurd z.2 (by decide))]
      exact ih1 h.1
    · intro h
      by_cases q : prt f true w = true
      · rw [ih2 q, if_neg (fun z => fne z.1)]
      · have q0 : prt f true w = false := by simpa using q
        rw [q0, Bool.false_or] at h
        rw [ih1 q0, if_pos ⟨rfl, h⟩]
        have lo := hlow w (by omega) q0
        rcases (show w = 0 ∨ w = 1 ∨ w = 2 ∨ w = 3 by omega) with rfl | rfl | rfl | rfl
        · exact (fw0 h).symm
        · exact (fw1 (lo 0 (by decide)) h).symm
        · exact (fw2 (lo 0 (by decide)) (lo 1 (by decide)) h).symm
        · exact (fw3 (lo 0 (by decide)) (lo 1 (by decide)) (lo 2 (by decide)) h).symm
theorem fst4_cut {f : Nat → Bool} {w : Nat} (hw : w ≤ 4) (h : prt f true w = true) : fst4 f w = fwF f := (fst4_prt w hw).2 h
section
variable {g : Gx} {σ : St} {c : Cfg} {P : Nat → Nat} {n : Nat}
theorem k_BM_plays {Q : Int32 → St → Prop} (hn : n ≤ 8) (hr : RefT σ c P) (hp : okP c.1 c.2.1 c.2.2.1 c.2.2.2.1 P) (hh : ¬ allH P) (h : ∀ τ, fr [(151, 32), (151, 35), (151, 36), (151, 65)] [154, 170, 171, 172, 173, 179, 189, 190, 191] σ τ → RefT τ c P → (winF c n P true = true → fi τ 151 65 = wayF c n P) → Q (bI (winF c n P true)) τ) : K_BM_plays g (nI n) σ Q := by
  have hC := hr.1.1.2.2.2.1
  have hR := hr.1.1.2.2.2.2.1
  have hB := hr.1.1.2.2.2.2.2
  refine ko_BM_plays (sg_BM_plays_0 ?_)
  refine lay_to sh179 (by decide) hB hr.1.2.2.1 (fun τ1 f1 p1 => ?_)
  rintro s2 es2
  have f2 : fr [(151, 65)] [] τ1 s2 := by rw [es2]; exact fr_sfi (by decide)
  have c65 : fi s2 151 65 = -1 := by rw [es2]; rfl
  have r1 : RefT τ1 c P := hr.fr f1 (by decide) (by decide) (by decide) (by decide) (by decide) (by decide) (by decide) (by decide) (by decide)
  have r2 : RefT s2 c P := r1.fr f2 (by simp) (by simp) (by simp) (by simp) (by simp) (by simp) (by simp) (by simp) (by simp)
  have fin : ∀ (τ : St) (P' : Nat → Nat) (v : Bool), fr [(151, 32), (151, 35), (151, 36), (151, 65)] [154, 170, 171, 172, 173, 179, 189, 190, 191] σ τ → RefT τ c P' → (∀ b, b < c.2.2.1 → ai τ 179 b = nI (P b)) → ai τ 191 0 = bI v → winF c n P true = v → (v = true → fi τ 151 65 = wayF c n P) → K_BM_lay g 179 154 τ (fun s1 : St => vp_in (0 : Int32) 9 ∧ (((ai s1 191 ((0 : Int32)).toNatClampNeg) = 0 ∨ (ai s1 191 ((0 : Int32)).toNatClampNeg) = 1) ∧ Q (ai s1 191 ((0 : Int32)).toNatClampNeg) s1)) := by
    intro τ P' v hf hr' hk e191 hv h65
    refine lay_back (P := P) sh179 (by decide) hr' hk hp.1 (fun τ3 f3 r3 => ⟨pk_in 0 9 (by decide), ?_⟩)
    rw [cl0, (f3.2 191 (by decide)).1, e191]
    refine ⟨by cases v <;> decide, ?_⟩
    rw [← hv]
    exact h τ3 (hf.tr (f3.mo (by simp) (by decide))) r3 (fun q => by rw [(f3.1 151 65 (by simp)).1]; exact h65 (by rw [← hv]; exact q))
  refine k_BM_isTold (L := 0) r2 (Nat.zero_le _) hn (fun τ3 f3 r3 b3 l3 => ?_)
  have F3 : fr [(151, 32), (151, 35), (151, 36), (151, 65)] [154, 170, 171, 172, 173, 179, 189, 190, 191] σ τ3 := (f1.mo (by simp) (by decide)).tr ((f2.mo (by decide) (by simp)).tr (f3.mo (by simp) (by decide)))
  have k3 : ∀ b, b < c.2.2.1 → ai τ3 179 b = nI (P b) := fun b hb => by rw [(f3.2 179 (by decide)).1, (f2.2 179 (by simp)).1]; exact p1 b hb
  have c3 : fi τ3 151 65 = -1 := by rw [(f3.1 151 65 (by simp)).1]; exact c65
  have edh : decide (allH P) = false := decide_eq_false hh
  have ev0 : evL 0 = true := rfl
  cases n with
  | zero =>
    refine sg_BM_plays_25 ⟨fun q => absurd q (by decide), fun _ => ⟨fun _ => ?_, fun q => ?_⟩⟩
    · refine fin τ3 P false F3 r3 k3 ?_ edh (fun q => absurd q (by decide))
      rw [l3.2.2, edh]
      rfl
    · rw [edh] at q; exact absurd q (by decide)
  | succ k =>
    rw [edh, decide_eq_false (show ¬ 0 = k + 1 by omega)]
    rw [edh, ev0] at l3
    have hE : gmE g Q c (k + 1) k 1 := gm_eval hn hC hR k 1 (by omega) (Nat.le_refl _)
    obtain ⟨f, hf⟩ : ∃ f : Nat → Bool, f = fun w => winF c k (tipC c w P).1 false := ⟨_, rfl⟩
    have hwin : winF c (k + 1) P true = prt f true 4 := by rw [hf]; exact (prt_4 hh).symm
    have hway : wayF c (k + 1) P = fwF f := by unfold wayF; rw [if_neg hh, hf]
    have loop : ∀ (m w : Nat) (τ : St) (P0 : Nat → Nat), w + m = 4 → fr [(151, 32), (151, 35), (151, 36), (151, 65)] [154, 170, 171, 172, 173, 179, 189, 190, 191] σ τ → RefT τ c P0 → (∀ b, b < c.2.2.1 → ai τ 179 b = nI (P b)) → fi τ 151 65 = fst4 f w → lvl τ c.2.2.1 0 P w (prt f true w) → S_BM_plays_25 g Q τ (nI (k + 1)) (nI 0) 0 := by
      intro m
      induction m with
      | zero =>
        intro w τ P0 hw hfr hr0 hk0 e65 hl0
        have e : w = 4 := by omega
        subst e
        refine sg_BM_plays_25 ⟨fun q => absurd q (by decide), fun _ => ⟨fun q => absurd rfl q, fun _ => ?_⟩⟩
        refine k_BM_isOver (L := 0) (by omega) (by omega) hl0 ?_
        rw [if_pos (Or.inl rfl)]
        refine ⟨fun _ => fin τ P0 (prt f true 4) hfr hr0 hk0 hl0.2.2 hwin (fun q => ?_), fun q => absurd q (by decide)⟩
        rw [e65, hway]; exact fst4_cut (Nat.le_refl _) q
      | succ m ihm =>
        intro w τ P0 hw hfr hr0 hk0 e65 hl0
        by_cases ov : prt f true w = true ∧ 0 < w
        · refine sg_BM_plays_25 ⟨fun q => absurd q (by decide), fun _ => ⟨fun q => absurd rfl q, fun _ => ?_⟩⟩
          refine k_BM_isOver (L := 0) (by omega) (by omega) hl0 ?_
          rw [ev0, if_pos (Or.inr ov)]
          have e4 := prt_cut ov.1 (4 - w)
          rw [show w + (4 - w) = 4 by omega] at e4
          refine ⟨fun _ => fin τ P0 true hfr hr0 hk0 (by rw [hl0.2.2, ov.1]) (by rw [hwin, e4]) (fun _ => ?_), fun q => absurd q (by decide)⟩
          rw [e65, hway]; exact fst4_cut (by omega) ov.1
        · refine sg_BM_plays_25 ⟨fun q => absurd q (by decide), fun _ => ⟨fun q => absurd rfl q, fun _ => ?_⟩⟩
          refine k_BM_isOver (L := 0) (by omega) (by omega) hl0 ?_
          rw [ev0, if_neg (fun q => q.elim (fun q => by omega) ov)]
          refine ⟨fun q => absurd rfl q, fun _ => ?_⟩
          rw [hf] at hl0 ov
          refine gm_step (L := 0) (k := k) hn (by omega) hC hR hE hr0 hp (by omega) hl0 ov (fun τ2 P2 f2 b2 r2' l2 e2 => ?_)
          refine ihm (w + 1) τ2 P2 (by omega) (hfr.tr (f2.mo (by decide) (by decide))) r2' (fun b hb => by rw [(f2.2 179 (by decide)).1]; exact hk0 b hb) ?_ (by rw [hf]; exact l2)
          rw [e2, e65]
          have : fst4 f (w + 1) = if fst4 f w = -1 ∧ f w = true then nI w else fst4 f w := rfl
          rw [this, hf]
          have ew : winF c k (tipC c w P).1 (!evL 0) = winF c k (tipC c w P).1 false := rfl
          rw [ew]
          by_cases q : fst4 (fun w => winF c k (tipC c w P).1 false) w = -1 ∧ winF c k (tipC c w P).1 false = true
          · rw [if_pos ⟨rfl, q.2, q.1⟩, if_pos q]
          · rw [if_neg (fun z => q ⟨z.2.2, z.2.1⟩), if_neg q]
    refine loop 4 0 τ3 P (by omega) F3 r3 k3 c3 ?_
    have e : (false || (decide (0 < k + 1) && !true)) = prt f true 0 := by rw [decide_eq_true (show 0 < k + 1 by omega)]; rfl
    rw [e] at l3
    exact l3
end
section
variable {g : Gx} {σ : St} {d : Dat} {nr : Nat} {Ru : Nat → RuleT}
theorem way_win {c : Cfg} {n : Nat} {P : Nat → Nat} (hh : ¬ allH P) : (winF c n P true = false → wayF c n P = -2) ∧ (winF c n P true = true → wayF c n P ≠ -2) := by
  unfold wayF
  rw [if_neg hh]
  cases n with
  | zero =>
    have : winF c 0 P true = false := decide_eq_false hh
    exact ⟨fun _ => rfl, fun q => by rw [this] at q; exact absurd q (by decide)⟩
  | succ n =>
    dsimp only
    rw [winF_s, if_neg hh]
    simp only [if_true]
    constructor
    · intro q
      simp only [Bool.or_eq_false_iff] at q
      exact fwn q.1 q.2.1 q.2.2.1 q.2.2.2
    · intro q e
      unfold fwF at e
      split at e
      · exact absurd e (by decide)
      · split at e
        · exact absurd e (by decide)
        · split at e
          · exact absurd e (by decide)
          · split at e
            · exact absurd e (by decide)
            · simp_all
theorem kM_game {Q : Int32 → St → Prop} {x y : Int32} (hs : CurM σ d) (ho : OkD nr d) (hr : RulM σ nr Ru) (h0 : (vC d = 0 ∨ (∀ n, n ≤ 8 → x ≠ nI n) ∨ (∀ n, n ≤ 1 → y ≠ nI n)) → Q (-1) σ) (h1 : ∀ n k, n ≤ 8 → k ≤ 1 → x = nI n → y = nI k → vC d ≠ 0 → ∀ τ, fr [(151, 32), (151, 35), (151, 36), (151, 65)] [154, 170, 171, 172, 173, 179, 189, 190, 191] σ τ → (∀ b, b < vB d → ai τ 154 b = nI (vP d b)) → Q (gamV (cfg Ru d) n (vP d) k) τ) : K_BM_game g x y σ Q := by
  have hT := hs.toT ho hr
  refine ko_BM_game (sg_BM_game_0 (kM_box hs ho (fun q => ⟨fun _ => h0 (Or.inl q), fun z => absurd rfl z⟩) (fun hC0 => ⟨fun z => absurd z (by decide), fun _ => ?_⟩)))
  refine k_BM_inR 0 8 (by decide) (by decide) (by decide) (fun n _ hn en => ⟨fun z => absurd z (by decide), fun _ => ?_⟩) (fun q => ⟨fun _ => h0 (Or.inr (Or.inl (fun n hn => q n (Nat.zero_le _) hn))), fun z => absurd rfl z⟩)
  refine k_BM_inR 0 1 (by decide) (by decide) (by decide) (fun k _ hk ek => ⟨fun _ => ?_, fun z => absurd z (by decide)⟩) (fun q => ⟨fun z => absurd rfl z, fun _ => h0 (Or.inr (Or.inr (fun n hn => q n (Nat.zero_le _) hn)))⟩)
  subst en ek
  have h1 := h1 n k hn hk rfl rfl hC0
  refine k_areH hT ?_
  by_cases hh : allH (vP d)
  · rw [if_pos hh]
    refine ⟨fun z => absurd z (by decide), fun _ => ?_⟩
    have h1 := h1 σ fr.rf hs.2.2.1
    have ew : wayF (cfg Ru d) n (vP d) = -1 := if_pos hh
    unfold gamV at h1
    rw [ew] at h1
    rcases (show k = 0 ∨ k = 1 by omega) with rfl | rfl
    · exact ⟨fun z => absurd rfl z, fun _ => h1⟩
    · exact ⟨fun _ => h1, fun z => absurd z (by decide)⟩
  · rw [if_neg hh]
    refine ⟨fun _ => ?_, fun z => absurd rfl z⟩
    refine k_BM_plays (c := cfg Ru d) hn hT ho.2.2.1 hh (fun τ hf r e65 => ?_)
    have h1 := h1 τ hf r.1.2.2.1
    obtain ⟨w1, w2⟩ := way_win (c := cfg Ru d) (n := n) hh
    rw [bI_0]
    unfold gamV at h1
    rcases (show k = 0 ∨ k = 1 by omega) with rfl | rfl
    · rw [if_neg (by decide)] at h1
      refine ⟨fun z => absurd rfl z, fun _ => ⟨fun q => ?_, fun q => ?_⟩⟩
      · rw [if_pos (w1 q)] at h1; exact h1
      · rw [if_neg (w2 (by simpa using q))] at h1; exact h1
    · rw [if_pos rfl] at h1
      refine ⟨fun _ => ⟨fun q => ?_, fun q => ?_⟩, fun z => absurd z (by decide)⟩
      · rw [w1 q] at h1; exact h1
      · rw [e65 (by simpa using q)]; exact h1
end
