-- where balls began, by what was heard: by numbers
/-- behind the first i sounds, if all were so -/
def sndF (c : Cfg) (sd : Nat → Nat) (P : Nat → Nat) : Nat → Option (Nat → Nat)
  | 0 => some P
  | i + 1 => match sndF c sd P i with
    | none => none
    | some Q => if (tipC c (sd i / 16) Q).2.1 = sd i % 4 ∧ (tipC c (sd i / 16) Q).2.2 = sd i / 4 % 4 then some (tipC c (sd i / 16) Q).1 else none
abbrev LSt : Type := Nat × (Nat → Nat) × (Nat → Nat → Bool) × (Nat → Nat)
def ixG (c : Cfg) (Q : Nat → Nat) (w : Nat) : Nat := 16 * w + (tipC c w Q).2.1 + 4 * (tipC c w Q).2.2
def grS (c : Cfg) (Q : Nat → Nat) (gr : Nat → Nat) (w : Nat) : Nat → Nat := fun k => if k = ixG c Q w then gr k + 1 else gr k
def lisS (c : Cfg) (sd : Nat → Nat) (m : Nat) (st : LSt) (P : Nat → Nat) : LSt := match sndF c sd P m with
  | none => st
  | some Q => (st.1 + 1, if st.1 = 0 then P else st.2.1, fun b x => st.2.2.1 b x || decide (P b = x), grS c Q (grS c Q (grS c Q (grS c Q st.2.2.2 0) 1) 2) 3)
def ls0 : LSt := (0, fun _ => 36, fun _ _ => false, fun _ => 0)
def lisF (c : Cfg) (sd : Nat → Nat) (m : Nat) : LSt := (begL c).foldl (lisS c sd m) ls0
def mxG (f : Nat → Nat) : Nat → Nat
  | 0 => 0
  | i + 1 => if mxG f i < f i then f i else mxG f i
/-- the way, and how many are alike at the most -/
def chG (f : Nat → Nat → Nat) : Nat → Nat × Nat
  | 0 => (0, mxG (f 0) 16)
  | w + 1 => if mxG (f (w + 1)) 16 < (chG f w).2 then (w + 1, mxG (f (w + 1)) 16) else chG f w
theorem mxG_ge {f : Nat → Nat} : ∀ {n i : Nat}, i < n → f i ≤ mxG f n
  | 0, i, h => absurd h (by omega)
  | n + 1, i, h => by
    unfold mxG
    by_cases e : i = n
    · subst e; split <;> omega
    · have := mxG_ge (f := f) (n := n) (i := i) (by omega)
      split <;> omega
theorem mxG_le {f : Nat → Nat} {m : Nat} : ∀ {n : Nat}, (∀ i, i < n → f i ≤ m) → mxG f n ≤ m
  | 0, _ => Nat.zero_le _
  | n + 1, h => by
    unfold mxG
    have h1 := h n (by omega)
    have h2 := mxG_le (f := f) (m := m) (n := n) (fun i hi => h i (by omega))
    split <;> omega
theorem mxG_perm {f h : Nat → Nat} {π : Nat → Nat} {n : Nat} (hπ : ∀ i, i < n → π i < n ∧ π (π i) = i) (hf : ∀ i, i < n → h i = f (π i)) : mxG h n = mxG f n := by
  apply Nat.le_antisymm
  · exact mxG_le (fun i hi => by rw [hf i hi]; exact mxG_ge (hπ i hi).1)
  · refine mxG_le (fun i hi => ?_)
    have := hf (π i) (hπ i hi).1
    rw [(hπ i hi).2] at this
    rw [← this]
    exact mxG_ge (hπ i hi).1
/-- bounds -/
def lsB (st : LSt) (k : Nat) : Prop := st.1 ≤ k ∧ ∀ i, st.2.2.2 i ≤ 4 * k
theorem grS_le {c : Cfg} {Q : Nat → Nat} {gr : Nat → Nat} {w k m : Nat} (h : ∀ i, gr i ≤ m) : grS c Q gr w k ≤ m + 1 := by
  unfold grS
  have := h k
  split <;> omega
theorem lisS_b {c : Cfg} {sd : Nat → Nat} {m k : Nat} {st : LSt} {P : Nat → Nat} (h : lsB st k) : lsB (lisS c sd m st P) (k + 1) := by
  unfold lisS
  split
  · exact ⟨Nat.le_succ_of_le h.1, fun i => Nat.le_trans (h.2 i) (by omega)⟩
  · refine ⟨Nat.succ_le_succ h.1, fun i => ?_⟩
    have := grS_le (k := i) (w := 3) (c := c) (Q := ‹Nat → Nat›) (gr := grS c ‹Nat → Nat› (grS c ‹Nat → Nat› (grS c ‹Nat → Nat› st.2.2.2 0) 1) 2) (m := 4 * k + 3) (fun j => grS_le (fun j => grS_le (fun j => grS_le h.2)))
    exact Nat.le_trans this (by omega)
theorem sndF_ok {c : Cfg} {sd : Nat → Nat} {P : Nat → Nat} (hC : c.1 ≤ 6) (hR : c.2.1 ≤ 6) (hp : okP c.1 c.2.1 c.2.2.1 c.2.2.2.1 P) : ∀ {i : Nat} {Q : Nat → Nat}, (∀ k, k < i → sd k < 64) → sndF c sd P i = some Q → okP c.1 c.2.1 c.2.2.1 c.2.2.2.1 Q
  | 0, Q, _, h => by cases h; exact hp
  | i + 1, Q, hs, h => by
    unfold sndF at h
    cases hq : sndF c sd P i with
    | none => rw [hq] at h; cases h
    | some R =>
      rw [hq] at h
      have ih := sndF_ok hC hR hp (i := i) (fun k hk => hs k (by omega)) hq
      have := hs i (by omega)
      dsimp only at h
      split at h
      · cases h; exact tipC_ok hC hR (by omega) ih
      · cases h
/-- what the Listener holds -/
def LiR (σ : St) (B : Nat) (tl : Bool) (st : LSt) : Prop := fi σ 78 6 = nI st.1 ∧ (st.1 ≠ 0 → fi σ 78 7 = nI (sitP st.2.1 B)) ∧ (∀ b x, b < B → x < 36 → sbit (aj σ 80 b) (spc x) = st.2.2.1 b x) ∧ (tl = true → ∀ k, k < 64 → ai σ 81 k = nI (st.2.2.2 k))
theorem LiR.fr {σ τ : St} {B : Nat} {tl : Bool} {st : LSt} {F : List (Nat × Nat)} {M : List Nat} (h : LiR σ B tl st) (hf : fr F M σ τ) (h6 : (78, 6) ∉ F) (h7 : (78, 7) ∉ F) (m1 : 80 ∉ M) (m2 : 81 ∉ M) : LiR τ B tl st := by
  unfold LiR at h ⊢
  rw [(hf.1 _ _ h6).1, (hf.1 _ _ h7).1, (hf.2 _ m1).2, (hf.2 _ m2).1]
  exact h
section
variable {g : Gx} {σ : St} {c : Cfg} {P : Nat → Nat}
theorem heard_eq {a b : Nat} (ha : a ≤ 3) (hb : b ≤ 3) : (nI a &&& 3) + (4 * (nI b &&& 3)) = nI (a + 4 * b) := by
  rw [and3 (by omega), and3 (by omega), Nat.mod_eq_of_lt (by omega), Nat.mod_eq_of_lt (by omega)]
  show nI a + nI 4 * nI b = _
  rw [pk_mul, nI_add]
theorem k_LI_behindSounds {Q : Int32 → St → Prop} {t m : Nat} {sd : Nat → Nat} (ht : isSA t) (hc : ClsT t σ c) (hp : okP c.1 c.2.1 c.2.2.1 c.2.2.2.1 P) (h8 : fi σ t 8 = nI m) (hm : m ≤ 8) (hsd : ∀ k, k < m → ai σ (t + 4) k = nI (sd k) ∧ sd k < 64)
    (h1 : ∀ N, sndF c sd P m = some N → ∀ τ, fr [(17, 4), (17, 6), (17, 7)] [19, 20, 21, 26, 31, 36, 41, 46, 51] σ τ → Q (nI (sitP N c.2.2.1)) τ) (h0 : sndF c sd P m = none → ∀ τ, fr [(17, 4), (17, 6), (17, 7)] [19, 20, 21, 26, 31, 36, 41, 46, 51] σ τ → Q (-1) τ) : K_LI_behindSounds g t (nI (sitP P c.2.2.1)) σ Q := by
  have h17 := (sa_82 ht).2.1
  have h4 := (sa_out ht).2.2.2.2
  have hC := hc.1.2.1.1
  have hR := hc.1.2.1.2.1
  have none_all : ∀ j i, sndF c sd P i = none → sndF c sd P (i + j) = none := by
    intro j
    induction j with
    | zero => intro i h; exact h
    | succ j ih => intro i h; show (match sndF c sd P (i + j) with | none => none | some Q => _) = none; rw [ih i h]
  have go : ∀ (k i : Nat) (N : Nat → Nat) (τ : St), i + k = m → sndF c sd P i = some N → fr [(17, 4), (17, 6), (17, 7)] [19, 20, 21, 26, 31, 36, 41, 46, 51] σ τ → S_LI_behindSounds_5 g Q τ t (nI (sitP N c.2.2.1)) (nI i) := by
    intro k
    induction k with
    | zero =>
      intro i N τ hi hN hf
      have e : i = m := by omega
      subst e
      refine sg_LI_behindSounds_5 ht ?_
      rw [(hf.1 t 8 (by simp [h17])).1, h8]
      exact ⟨fun _ => h1 N hN τ hf, fun q => absurd (nI_le (Nat.le_refl _) (by omega)) q⟩
    | succ k ih =>
      intro i N τ hi hN hf
      obtain ⟨d1, d2⟩ := hsd i (by omega)
      have hNo := sndF_ok hC hR hp (fun k hk => (hsd k (by omega)).2) hN
      refine sg_LI_behindSounds_5 ht ?_
      rw [(hf.1 t 8 (by simp [h17])).1, h8]
      refine ⟨fun q => absurd q (nI_ge (by omega) (by omega)), fun _ => ⟨vp_in_nI (by omega) (by decide), ?_⟩⟩
      rintro u rfl
      rw [nI_clamp (by omega), (hf.2 (t + 4) h4).1, d1]
      have e16 : nI (sd i) / 16 = nI (sd i / 16) := pk_div (d := 16) (by omega) (by decide) (by decide)
      have r16 : nI (sd i) - nI (sd i) / 16 * 16 = nI (sd i % 16) := pk_rem (d := 16) (by omega) (by decide) (by decide)
      rw [r16, e16]
      refine k_rolled ht (by omega) (clst_roll ht hc hf) hNo (fun υ hu e6 e7 => k_LI_heard ?_)
      have hcnt := tipC_cnt (c := c) (w := sd i / 16) (P := N)
      rw [e6, e7, heard_eq (by omega) (by omega), nI_eq (by omega) (by omega)]
      have es : sndF c sd P (i + 1) = if (tipC c (sd i / 16) N).2.1 = sd i % 4 ∧ (tipC c (sd i / 16) N).2.2 = sd i / 4 % 4 then some (tipC c (sd i / 16) N).1 else none := by
        show (match sndF c sd P i with | none => none | some Q => _) = _
        rw [hN]
      refine ⟨fun q => ?_, fun q => ?_⟩
      · rintro u rfl
        rw [nI_1]
        rw [if_pos (by omega)] at es
        exact ih (i + 1) _ υ (by omega) es (hf.tr hu)
      · rw [if_neg (by omega)] at es
        have := none_all (m - (i + 1)) (i + 1) es
        rw [show i + 1 + (m - (i + 1)) = m by omega] at this
        exact h0 this υ (hf.tr hu)
  exact ko_LI_behindSounds (sg_LI_behindSounds_0 ht (go m 0 P σ (Nat.zero_add _) rfl fr.rf))
/-- the first half of a fit: how many, the first, where they were -/
theorem k_LI_noteFit {Q : St → Prop} {tl : Bool} {st : LSt} {k : Nat} (hB : c.2.2.1 ≤ 3) (hp : okP c.1 c.2.1 c.2.2.1 c.2.2.2.1 P) (hP : ∀ b, b < c.2.2.1 → P b < 36) (hl : LiR σ c.2.2.1 tl st) (hb : lsB st k) (hk : k < 2 ^ 30) (h : ∀ τ, fr [(78, 6), (78, 7)] [80] σ τ → LiR τ c.2.2.1 tl (st.1 + 1, if st.1 = 0 then P else st.2.1, fun b x => st.2.2.1 b x || decide (P b = x), st.2.2.2) → Q τ) : K_LI_noteFit g (nI c.2.2.1) (nI (sitP P c.2.2.1)) σ Q := by
  obtain ⟨l1, l2, l3, l4⟩ := id hl
  have hS : sitP P c.2.2.1 < 262144 := sitP_lt
  have hz : nI st.1 = 0 ↔ st.1 = 0 := nI_eq (b := 0) (by have := hb.1; omega) (by decide)
  -- the spots
  have loop : ∀ (m b : Nat) (τ : St), b + m = c.2.2.1 → fr [(78, 6), (78, 7)] [80] σ τ → fi τ 78 6 = nI (st.1 + 1) → fi τ 78 7 = nI (sitP (if st.1 = 0 then P else st.2.1) c.2.2.1) → (∀ b' x, b' < c.2.2.1 → x < 36 → sbit (aj τ 80 b') (spc x) = if b' < b then (st.2.2.1 b' x || decide (P b' = x)) else st.2.2.1 b' x) → S_LI_noteFit_24 g Q τ (nI c.2.2.1) (nI (sitP P c.2.2.1)) (nI b) := by
    intro m
    induction m with
    | zero =>
      intro b τ hbm hf e6 e7 hs
      have e : b = c.2.2.1 := by omega
      refine sg_LI_noteFit_24 ⟨fun _ => h τ hf ⟨e6, fun _ => e7, fun b' x hb' hx => ?_, fun ht k hk => ?_⟩, fun q => absurd (nI_le (by omega) (by omega)) q⟩
      · rw [hs b' x hb' hx, if_pos (by omega)]
      · rw [(hf.2 81 (by decide)).1]; exact l4 ht k hk
    | succ m ih =>
      intro b τ hbm hf e6 e7 hs
      refine sg_LI_noteFit_24 ⟨fun q => absurd q (nI_ge (by omega) (by omega)), fun _ => ⟨vp_in_nI (by omega) (by decide), k_SA_spotIn (by omega) (by omega) ⟨vp_in_nI (by omega) (by decide), ?_⟩⟩⟩
      rw [spo_sitP (by omega), enB_norm hp.1.1, enc_c (hP b (by omega)), nI_clamp (by omega)]
      rintro s3 e3 u rfl
      rw [nI_1]
      refine ih (b + 1) s3 (by omega) (by rw [e3]; exact hf.tr (fr_saj (by decide))) (by rw [e3]; exact e6) (by rw [e3]; exact e7) (fun b' x hb' hx => ?_)
      rw [e3, aj_saj]
      by_cases z : b' = b
      · rw [if_pos ⟨rfl, z⟩, z, sb_set (spc_lt hx) (spc_lt (hP b (by omega))), hs b x (by omega) hx, if_neg (by omega), if_pos (by omega)]
        congr 1
        rw [decide_eq_decide]
        exact ⟨fun q => (spc_inj q hx (hP b (by omega))).symm, fun q => by rw [q]⟩
      · rw [if_neg (fun y => z y.2), hs b' x hb' hx]
        by_cases y : b' < b
        · rw [if_pos y, if_pos (by omega)]
        · rw [if_neg y, if_neg (by omega)]
  refine ko_LI_noteFit (sg_LI_noteFit_0 ?_)
  rw [l1, hz]
  refine ⟨fun q => ?_, fun q => ?_⟩
  · rintro s1 e1
    rw [nI_1] at e1
    refine loop c.2.2.1 0 s1 (Nat.zero_add _) (by rw [e1]; exact fr_sfi (by decide)) (by rw [e1]; rfl) (by rw [e1, fi_sfi, if_neg (by decide), if_neg q]; exact l2 q) (fun b' x hb' hx => ?_)
    rw [if_neg (by omega), e1]; exact l3 b' x hb' hx
  · rintro s2 rfl s3 e3
    have e6 : fi (sfi σ 78 7 (nI (sitP P c.2.2.1))) 78 6 = nI st.1 := l1
    rw [e6, nI_1] at e3
    refine loop c.2.2.1 0 s3 (Nat.zero_add _) (by rw [e3]; exact (fr_sfi (by decide)).tr (fr_sfi (by decide))) (by rw [e3]; rfl) (by rw [e3, fi_sfi, if_neg (by decide), fi_sfi, if_pos ⟨rfl, rfl⟩, if_pos q]) (fun b' x hb' hx => ?_)
    rw [if_neg (by omega), e3]; exact l3 b' x hb' hx
/-- what would be heard next -/
theorem k_LI_listenOn {Q : St → Prop} {t : Nat} {N gr : Nat → Nat} (ht : isSA t) (hc : ClsT t σ c) (hN : okP c.1 c.2.1 c.2.2.1 c.2.2.2.1 N) (ht81 : t + 1 ≠ 81 ∧ t + 2 ≠ 81) (hg : ∀ k, k < 64 → ai σ 81 k = nI (gr k)) (h : ∀ τ, fr [(17, 4), (17, 6), (17, 7)] [81, 19, 20, 21, 26, 31, 36, 41, 46, 51] σ τ → (∀ k, k < 64 → ai τ 81 k = nI (grS c N (grS c N (grS c N (grS c N gr 0) 1) 2) 3 k)) → Q τ) : K_LI_listenOn g t (nI (sitP N c.2.2.1)) σ Q := by
  have ck : ∀ τ, fr [(17, 4), (17, 6), (17, 7)] [81, 19, 20, 21, 26, 31, 36, 41, 46, 51] σ τ → ClsT t τ c := by
    intro τ hf
    have h17 := (sa_82 ht).2.1
    have hn : ∀ k, (t, k) ∉ [(17, 4), (17, 6), (17, 7)] := fun k => by simp [h17]
    obtain ⟨-, o1, o2, -, -⟩ := sa_out ht
    refine ⟨hc.1.fr hf (hn 2) (hn 3) (hn 4) (fun z => ?_) (fun z => ?_), by rw [(hf.1 _ _ (hn 6)).1]; exact hc.2.1, ?_⟩
    · rcases List.mem_cons.mp z with z | z
      · exact ht81.1 z
      · exact o1 z
    · rcases List.mem_cons.mp z with z | z
      · exact ht81.2 z
      · exact o2 z
    · have hh := hc.2.2
      unfold FoC at hh ⊢
      cases hq : c.2.2.2.2.2 with
      | none => rw [hq] at hh; dsimp only at hh ⊢; rw [(hf.1 _ _ (hn 9)).1]; exact hh
      | some r =>
        rw [hq] at hh
        obtain ⟨i, hi, ei, hlt, hwf, hru⟩ := hh
        have hm : ∀ k, (22 + 5 * i, k) ∉ [(17, 4), (17, 6), (17, 7)] := fun k => by simp; omega
        have hr : ∀ j, j ∈ [1, 2, 3] → 22 + 5 * i + j ∉ [81, 19, 20, 21, 26, 31, 36, 41, 46, 51] := by
          intro j hj
          simp only [List.mem_cons, List.not_mem_nil, or_false] at hj ⊢
          omega
        exact ⟨i, hi, by rw [(hf.1 _ _ (hn 9)).1]; exact ei, by rw [(hf.1 17 5 (by decide)).1]; exact hlt, hwf, hru.fr hf (hm 5) (hm 6) (hr 1 (by simp)) (hr 2 (by simp)) (hr 3 (by simp))⟩
  have step : ∀ (w : Nat) (τ : St) (gr : Nat → Nat), w < 4 → fr [(17, 4), (17, 6), (17, 7)] [81, 19, 20, 21, 26, 31, 36, 41, 46, 51] σ τ → (∀ k, k < 64 → ai τ 81 k = nI (gr k)) → (∀ υ, fr [(17, 4), (17, 6), (17, 7)] [81, 19, 20, 21, 26, 31, 36, 41, 46, 51] σ υ → (∀ k, k < 64 → ai υ 81 k = nI (grS c N gr w k)) → S_LI_listenOn_2 g Q υ t (nI (sitP N c.2.2.1)) (nI (w + 1))) → S_LI_listenOn_2 g Q τ t (nI (sitP N c.2.2.1)) (nI w) := by
    intro w τ gr hw hf hg hq
    have hcnt := tipC_cnt (c := c) (w := w) (P := N)
    refine sg_LI_listenOn_2 ht ⟨fun q => absurd q (nI_ge (b := 4) hw (by decide)), fun _ => ?_⟩
    refine k_rolled ht hw (ck τ hf) hN (fun υ hu e6 e7 => k_LI_packed ?_)
    rw [e6, e7, heard_eq (by omega) (by omega)]
    have ei : (16 : Int32) * nI w + nI ((tipC c w N).2.1 + 4 * (tipC c w N).2.2) = nI (ixG c N w) := by
      show nI 16 * nI w + _ = _
      rw [pk_mul, nI_add]
      unfold ixG
      congr 1
      omega
    have hix : ixG c N w < 64 := by unfold ixG; omega
    rw [ei, nI_clamp (by omega)]
    refine ⟨vp_in_nI hix (by decide), vp_in_nI hix (by decide), ?_⟩
    rintro s5 e5 u rfl
    rw [nI_1]
    refine hq s5 (by rw [e5]; exact hf.tr ((hu.mo (by decide) (by decide)).tr (fr_sai (by decide)))) (fun k hk => ?_)
    rw [e5, ai_sai, (hu.2 81 (by decide)).1]
    unfold grS
    by_cases z : k = ixG c N w
    · rw [if_pos ⟨rfl, z⟩, if_pos z, hg _ hix, nI_1, z]
    · rw [if_neg (fun y => z y.2), if_neg z]; exact hg k hk
  refine ko_LI_listenOn (sg_LI_listenOn_0 ht ?_)
  refine step 0 σ gr (by decide) fr.rf hg (fun υ0 f0 g0 => step 1 υ0 _ (by decide) f0 g0 (fun υ1 f1 g1 => step 2 υ1 _ (by decide) f1 g1 (fun υ2 f2 g2 => step 3 υ2 _ (by decide) f2 g2 (fun υ3 f3 g3 => ?_))))
  exact sg_LI_listenOn_2 ht ⟨fun _ => h υ3 f3 g3, fun q => absurd (by decide) q⟩
end
