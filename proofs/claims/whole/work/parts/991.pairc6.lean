-- the class: findsRow
def Sn (c : Cfg) (d p : Nat) : (Nat → Nat) → Prop := fun N => ∃ P, P ∈ begL c ∧ N = rnP c (dgR d p) d P
def NdR (σ : St) (c : Cfg) (d p : Nat) : Prop := (∀ j, j ≤ d → SetR σ c.2.2.1 j (Sn c j (p / 4 ^ (d - j)))) ∧ ∀ j, j < d → ai σ 77 j = nI (dgR d p j + 1)
def cst : Nat → Nat
  | 0 => 0
  | e + 1 => 5 + 4 * cst e
theorem dg_sub {L d k i : Nat} (hd : d ≤ L) (hi : i < d) : dgR L k i = dgR d (k / 4 ^ (L - d)) i := by
  unfold dgR
  rw [Nat.div_div_eq_div_mul, ← Nat.pow_add, show L - d + (d - 1 - i) = L - 1 - i by omega]
theorem dg_last {d p t : Nat} (ht : t < 4) : dgR (d + 1) (4 * p + t) d = t := by
  unfold dgR
  rw [show d + 1 - 1 - d = 0 by omega, Nat.pow_zero, Nat.div_one]
  omega
theorem div_child {d p t j : Nat} (ht : t < 4) (hj : j ≤ d) : (4 * p + t) / 4 ^ (d + 1 - j) = p / 4 ^ (d - j) := by
  rw [show d + 1 - j = d - j + 1 by omega, Nat.pow_succ, Nat.mul_comm (4 ^ (d - j)) 4, ← Nat.div_div_eq_div_mul, show (4 * p + t) / 4 = p by omega]
theorem rn_child {c : Cfg} {d p t : Nat} {P : Nat → Nat} (ht : t < 4) : rnP c (dgR (d + 1) (4 * p + t)) (d + 1) P = nxP c (rnP c (dgR d p) d P) t := by
  rw [rnP_s, dg_last ht]
  have : rnP c (dgR (d + 1) (4 * p + t)) d P = rnP c (dgR d p) d P := by
    refine rnP_congr (fun i hi => ?_)
    rw [dg_sub (d := d) (by omega) hi, show d + 1 - d = 1 by omega, Nat.pow_one, show (4 * p + t) / 4 = p by omega]
  rw [this]
  rfl
theorem sn_child {c : Cfg} {d p t : Nat} (ht : t < 4) : Sn c (d + 1) (4 * p + t) = fun N => ∃ P, Sn c d p P ∧ N = nxP c P t := by
  funext N
  apply propext
  constructor
  · rintro ⟨P, hP, e⟩
    exact ⟨_, ⟨P, hP, rfl⟩, by rw [e, rn_child ht]⟩
  · rintro ⟨M, ⟨P, hP, rfl⟩, e⟩
    exact ⟨P, hP, by rw [e, rn_child ht]⟩
theorem NdR.down {σ : St} {c : Cfg} {d p t : Nat} (ht : t < 4) (h : NdR σ c (d + 1) (4 * p + t)) : NdR σ c d p ∧ ai σ 77 d = nI (t + 1) := by
  refine ⟨⟨fun j hj => ?_, fun j hj => ?_⟩, ?_⟩
  · have := h.1 j (by omega)
    rw [div_child ht hj] at this
    exact this
  · have := h.2 j (by omega)
    rw [dg_sub (d := d) (by omega) hj, show d + 1 - d = 1 by omega, Nat.pow_one, show (4 * p + t) / 4 = p by omega] at this
    exact this
  · have := h.2 d (by omega)
    rw [dg_last ht] at this
    exact this
theorem NdR.up {σ τ : St} {c : Cfg} {d p t : Nat} (ht : t < 4) (h : NdR σ c d p) (h5 : ∀ x, x < 1260 * (d + 1) → ai τ 75 x = ai σ 75 x) (h6 : ∀ j, j ≤ d → ai τ 76 j = ai σ 76 j) (h7 : ∀ j, j < d → ai τ 77 j = ai σ 77 j) (hd : ai τ 77 d = nI (t + 1)) (hs : SetR τ c.2.2.1 (d + 1) (Sn c (d + 1) (4 * p + t))) : NdR τ c (d + 1) (4 * p + t) := by
  refine ⟨fun j hj => ?_, fun j hj => ?_⟩
  · by_cases e : j = d + 1
    · rw [e, Nat.sub_self, Nat.pow_zero, Nat.div_one]; exact hs
    · rw [div_child ht (by omega)]
      exact (h.1 j (by omega)).eq (h6 j (by omega)) (fun x hx => h5 x (by omega))
  · by_cases e : j = d
    · rw [e, dg_last ht]; exact hd
    · rw [dg_sub (d := d) (by omega) (by omega), show d + 1 - d = 1 by omega, Nat.pow_one, show (4 * p + t) / 4 = p by omega, h7 j (by omega)]
      exact h.2 j (by omega)
theorem NdR.same {σ τ : St} {c : Cfg} {d p : Nat} (h : NdR σ c d p) (h5 : ∀ x, x < 1260 * (d + 1) → ai τ 75 x = ai σ 75 x) (h6 : ∀ j, j ≤ d → ai τ 76 j = ai σ 76 j) (h7 : ∀ j, j < d → ai τ 77 j = ai σ 77 j) : NdR τ c d p := by
  refine ⟨fun j hj => ?_, fun j hj => by rw [h7 j hj]; exact h.2 j hj⟩
  exact (h.1 j hj).eq (h6 j hj) (fun x hx => h5 x (by
    have : 1260 * (j + 1) ≤ 1260 * (d + 1) := Nat.mul_le_mul_left _ (by omega)
    omega))
theorem rn_dm {c : Cfg} {r : Nat → Nat} {P : Nat → Nat} (hr : ∀ i, r i < 4) : ∀ e d, allH (rnP c r (d + e) P) → Dm (nxP c) allH e (rnP c r d P)
  | 0, d, h => h
  | e + 1, d, h => ⟨r d, hr d, rn_dm hr e (d + 1) (by rw [show d + 1 + e = d + (e + 1) by omega]; exact h)⟩
theorem no_bld {c : Cfg} {d p t e k : Nat} {P : Nat → Nat} (ht : t < 4) (hP : Sn c d p P) (hn : ¬ Dm (nxP c) allH e (nxP c P t)) (h1 : (4 * p + t) * 4 ^ e ≤ k) (h2 : k < (4 * p + t + 1) * 4 ^ e) : ¬ Bld c (d + 1 + e) k := by
  intro hb
  obtain ⟨P0, hP0, eP⟩ := hP
  have hq : k / 4 ^ e = 4 * p + t := Nat.div_eq_of_lt_le h1 h2
  have := rn_dm (c := c) (r := dgR (d + 1 + e) k) (fun i => dgR_lt) e (d + 1) (hb P0 hP0)
  have e2 : rnP c (dgR (d + 1 + e) k) (d + 1) P0 = rnP c (dgR (d + 1) (4 * p + t)) (d + 1) P0 := by
    refine rnP_congr (fun i hi => ?_)
    rw [dg_sub (d := d + 1) (by omega) hi, show d + 1 + e - (d + 1) = e by omega, hq]
  rw [e2, rn_child ht, ← eP] at this
  exact hn this
section
variable {g : Gx} {σ : St} {c : Cfg}
theorem dfs {Q : Int32 → St → Prop} {L M : Nat} (hC : c.1 ≤ 6) (hR : c.2.1 ≤ 6) (hB : c.2.2.1 ≤ 2) (hL : L ≤ 6) (hM : M + 20000 < 2 ^ 31) (hro : RoR σ c) (hfa : FaR σ c)
    (hfound : ∀ k τ mk, k < 4 ^ L → Bld c L k → (∀ k', k' < k → ¬ Bld c L k') → fr [(69, 10)] [74, 75, 76, 77] σ τ → MkR τ mk → mk ≤ M + 20000 → NdR τ c L k → Q 1 τ) :
    ∀ (e d p i : Nat) (τ : St) (mk : Nat), d + e = L → p < 4 ^ d → fr [(69, 10)] [74, 75, 76, 77] σ τ → NdR τ c d p → (∀ N, Sn c d p N → Dom c N ∧ ∃ m, m ≤ e ∧ farC c N = some m) → MkR τ mk → mk ≤ M + i → i + cst e < 20000 → (∀ k, k < p * 4 ^ e → ¬ Bld c L k) → ai τ 77 d = nI 0 →
      (∀ (τ' : St) (i' mk' : Nat), fr [(69, 10)] [74, 75, 76, 77] σ τ' → NdR τ' c d p → MkR τ' mk' → mk' ≤ M + i' → i' ≤ i + cst e → (∀ k, k < (p + 1) * 4 ^ e → ¬ Bld c L k) → S_PA_findsRow_27 g Q τ' (nI L) (jI d) (nI i')) →
      S_PA_findsRow_27 g Q τ (nI L) (nI d) (nI i) := by
  intro e
  induction e with
  | zero =>
    intro d p i τ mk hd hp hf hn hS hm hmk hi hlow _ _
    have ed : d = L := by omega
    subst ed
    refine sg_PA_findsRow_27 ⟨fun q => absurd q (nI_ge (b := 20000) (by omega) (by decide)), fun _ => ⟨fun q => absurd q (nI_pos (by omega)), fun _ => ⟨fun q => absurd rfl q, fun _ => ?_⟩⟩⟩
    refine hfound p τ mk hp (fun P hP => ?_) (fun k' hk' => hlow k' (by rw [Nat.pow_zero, Nat.mul_one]; exact hk')) hf hm (by omega) hn
    obtain ⟨-, m, hm0, hfar⟩ := hS _ ⟨P, hP, rfl⟩
    have := (farO_some.mp hfar).1
    rw [show m = 0 by omega] at this
    exact this
  | succ e ih =>
    intro d p i τ mk hd hp hf hn hS hm hmk hi hlow h77 hnot
    have hc1 : cst (e + 1) = 5 + 4 * cst e := rfl
    have inner : ∀ (m t i2 : Nat) (τ : St) (mk : Nat), t + m = 4 → fr [(69, 10)] [74, 75, 76, 77] σ τ → NdR τ c d p → MkR τ mk → mk ≤ M + i2 → i2 + m * (1 + cst e) + 1 ≤ i + cst (e + 1) → (∀ k, k < (4 * p + t) * 4 ^ e → ¬ Bld c L k) → ai τ 77 d = nI t → S_PA_findsRow_27 g Q τ (nI L) (nI d) (nI i2) := by
      intro m
      induction m with
      | zero =>
        intro t i2 τ mk ht hf hn hm hmk hi2 hlow h77
        have et : t = 4 := by omega
        refine sg_PA_findsRow_27 ⟨fun q => absurd q (nI_ge (b := 20000) (by omega) (by decide)), fun _ => ⟨fun q => absurd q (nI_pos (by omega)), fun _ => ⟨fun _ => ⟨vp_in_nI (by omega) (by decide), ?_⟩, fun q => absurd ((nI_eq (by omega) (by omega)).mp q) (by omega)⟩⟩⟩
        rw [nI_clamp (by omega), h77, et]
        refine ⟨fun q => absurd rfl q, fun _ => ?_⟩
        rintro u rfl u2 rfl
        have e1 : nI d + (-1) = jI d := by unfold jI; rw [Int32.sub_eq_add_neg]
        rw [e1, nI_1]
        refine hnot τ (i2 + 1) mk hf hn hm (by omega) (by omega) (fun k hk => hlow k ?_)
        rw [et]
        have : (p + 1) * 4 ^ (e + 1) = (4 * p + 4) * 4 ^ e := by rw [Nat.pow_succ, ← Nat.mul_assoc, Nat.mul_right_comm, show (p + 1) * 4 = 4 * p + 4 by omega]
        omega
      | succ m ihm =>
        intro t i2 τ mk ht hf hn hm hmk hi2 hlow h77
        have ht4 : t < 4 := by omega
        have hmul : (m + 1) * (1 + cst e) = m * (1 + cst e) + (1 + cst e) := Nat.succ_mul _ _
        refine sg_PA_findsRow_27 ⟨fun q => absurd q (nI_ge (b := 20000) (by omega) (by decide)), fun _ => ⟨fun q => absurd q (nI_pos (by omega)), fun _ => ⟨fun _ => ⟨vp_in_nI (by omega) (by decide), ?_⟩, fun q => absurd ((nI_eq (by omega) (by omega)).mp q) (by omega)⟩⟩⟩
        rw [nI_clamp (by omega), h77]
        refine ⟨fun _ => ⟨vp_in_nI (by omega) (by decide), vp_in_nI (by omega) (by decide), ?_⟩, fun q => absurd ((nI_eq (b := 4) (by omega) (by decide)).mp q) (by omega)⟩
        rintro s1 e1
        rw [nI_1] at e1
        have f1 : fr [(69, 10)] [74, 75, 76, 77] τ s1 := by rw [e1]; exact fr_sai (by decide)
        have v1 : ai s1 77 d = nI (t + 1) := by rw [e1, ai_sai, if_pos ⟨rfl, rfl⟩]
        have w1 : ∀ j, j < d → ai s1 77 j = ai τ 77 j := fun j hj => by rw [e1, ai_sai, if_neg (by omega)]
        have a5 : ∀ x, ai s1 75 x = ai τ 75 x := fun x => by rw [e1, ai_sai, if_neg (by omega)]
        have a6 : ∀ x, ai s1 76 x = ai τ 76 x := fun x => by rw [e1, ai_sai, if_neg (by omega)]
        have a4 : ∀ x, ai s1 74 x = ai τ 74 x := fun x => by rw [e1, ai_sai, if_neg (by omega)]
        have n1 : NdR s1 c d p := hn.same (fun x _ => a5 x) (fun j _ => a6 j) w1
        have m1 : MkR s1 mk := ⟨by rw [e1, fi_sai]; exact hm.1, fun s hs => by rw [a4]; exact hm.2 s hs⟩
        have F1 := hf.tr f1
        refine ⟨vp_in_nI (by omega) (by decide), ?_⟩
        rw [v1]
        have et1 : nI (t + 1) - 1 = nI t := jI_s
        have el : nI L - nI d - 1 = nI e := by
          have : nI L = nI (e + 1) + nI d := by rw [nI_add]; congr 1; omega
          rw [this, Int32.add_sub_cancel]
          exact jI_s
        rw [et1, el]
        have sd := n1.1 d (Nat.le_refl _)
        rw [Nat.sub_self, Nat.pow_zero, Nat.div_one] at sd
        refine k_PA_goesOn (S := Sn c d p) (dp := d) hC hR hB (by omega) ht4 (by omega) (by omega) sd (fun P hP => (hS P hP).1) (by unfold RoR; rw [(F1.2 71 (by decide)).1]; exact hro) (by unfold FaR; rw [(F1.2 72 (by decide)).1]; exact hfa) m1 (fun hall τ2 f2 m2 s2 g5 g6 => ⟨fun q => absurd q (by decide), fun _ => ?_⟩) (fun P hP hno τ2 f2 m2 g5 g6 => ⟨fun _ => ?_, fun q => absurd rfl q⟩)
        · rintro u rfl
          rw [nI_1]
          refine ⟨vp_in_nI (by omega) (by decide), ?_⟩
          rintro s6 e6 u rfl
          rw [nI_clamp (by omega)] at e6
          rw [nI_1]
          have f6 : fr [(69, 10)] [74, 75, 76, 77] τ2 s6 := by rw [e6]; exact fr_sai (by decide)
          have c7 : ∀ j, j ≤ d → ai s6 77 j = ai s1 77 j := fun j hj => by rw [e6, ai_sai, if_neg (by omega), (f2.2 77 (by decide)).1]
          have c5 : ∀ x, ai s6 75 x = ai τ2 75 x := fun x => by rw [e6, ai_sai, if_neg (by omega)]
          have c6 : ∀ x, ai s6 76 x = ai τ2 76 x := fun x => by rw [e6, ai_sai, if_neg (by omega)]
          have c4 : ∀ x, ai s6 74 x = ai τ2 74 x := fun x => by rw [e6, ai_sai, if_neg (by omega)]
          have F6 := (F1.tr (f2.mo (fun _ z => z) (by decide))).tr f6
          have n6 : NdR s6 c (d + 1) (4 * p + t) := by
            refine n1.up ht4 (fun x hx => by rw [c5]; exact g5 x hx) (fun j hj => by rw [c6]; exact g6 j hj) (fun j hj => c7 j (by omega)) (by rw [c7 d (Nat.le_refl _)]; exact v1) ?_
            rw [sn_child ht4]
            exact s2.eq (c6 _) (fun x _ => c5 x)
          have hp4 : 4 * p + t < 4 ^ (d + 1) := by rw [Nat.pow_succ]; omega
          refine ih (d + 1) (4 * p + t) (i2 + 1) s6 (mk + 1) (by omega) hp4 F6 n6 (fun N hN => ?_) ⟨by rw [e6, fi_sai]; exact m2.1, fun s hs => by rw [c4]; exact m2.2 s hs⟩ (by omega) (by omega) hlow (by rw [e6, ai_sai, if_pos ⟨rfl, rfl⟩]; rfl) (fun τ' i' mk' f' n' m' b' l' low' => ?_)
          · rw [sn_child ht4] at hN
            obtain ⟨P, hP, rfl⟩ := hN
            exact hall P hP
          · rw [jI_s]
            obtain ⟨nd, v7⟩ := n'.down ht4
            exact ihm (t + 1) i' τ' mk' (by omega) f' nd m' b' (by omega) (by rw [show 4 * p + (t + 1) = 4 * p + t + 1 by omega]; exact low') v7
        · rintro u rfl
          rw [nI_1]
          refine ihm (t + 1) (i2 + 1) τ2 (mk + 1) (by omega) (F1.tr (f2.mo (fun _ z => z) (by decide))) (n1.same g5 g6 (fun j _ => by rw [(f2.2 77 (by decide)).1])) m2 (by omega) (by omega) (fun k hk => ?_) (by rw [(f2.2 77 (by decide)).1]; exact v1)
          by_cases q : k < (4 * p + t) * 4 ^ e
          · exact hlow k q
          · have := no_bld (k := k) ht4 hP hno (Nat.not_lt.mp q) hk
            rw [show d + 1 + e = L by omega] at this
            exact this
    refine inner 4 0 i τ mk (by omega) hf hn hm hmk (by omega) (fun k hk => hlow k ?_) h77
    have : p * 4 ^ (e + 1) = (4 * p + 0) * 4 ^ e := by rw [Nat.pow_succ, Nat.add_zero, Nat.mul_comm 4 p, Nat.mul_assoc, Nat.mul_comm 4 (4 ^ e)]
    omega
end
