-- hardest: the reference
noncomputable def hrdS (c : Cfg) (st : Option ((Nat → Nat) × Nat)) (P : Nat → Nat) : Option ((Nat → Nat) × Nat) :=
  match farC c P, st with
  | none, st => st
  | some m, none => some (P, m)
  | some m, some q => if q.2 < m then some (P, m) else some q
theorem hrdS_n {c : Cfg} {st : Option ((Nat → Nat) × Nat)} {P : Nat → Nat} (h : farC c P = none) : hrdS c st P = st := by
  unfold hrdS; rw [h]
theorem hrdS_0 {c : Cfg} {P : Nat → Nat} {m : Nat} (h : farC c P = some m) : hrdS c none P = some (P, m) := by
  unfold hrdS; rw [h]
theorem hrdS_s {c : Cfg} {P : Nat → Nat} {m : Nat} {q : (Nat → Nat) × Nat} (h : farC c P = some m) : hrdS c (some q) P = if q.2 < m then some (P, m) else some q := by
  unfold hrdS; rw [h]
noncomputable def hrdF (c : Cfg) : Option ((Nat → Nat) × Nat) := (begL c).foldl (hrdS c) none
noncomputable def hrdV (c : Cfg) (w : Nat) : Int32 :=
  match hrdF c with
  | none => -2
  | some q => if w = 0 then nI q.2 else if c.2.2.1 < w then -2 else nI (q.1 (w - 1))
theorem hrdV_n {c : Cfg} {w : Nat} (h : hrdF c = none) : hrdV c w = -2 := by unfold hrdV; rw [h]
theorem hrdV_s {c : Cfg} {w : Nat} {q : (Nat → Nat) × Nat} (h : hrdF c = some q) : hrdV c w = if w = 0 then nI q.2 else if c.2.2.1 < w then -2 else nI (q.1 (w - 1)) := by unfold hrdV; rw [h]
theorem hrd_inv {c : Cfg} : ∀ (l : List (Nat → Nat)) (st : Option ((Nat → Nat) × Nat)), (∀ P, P ∈ l → P ∈ begL c) → (∀ q, st = some q → q.1 ∈ begL c ∧ farC c q.1 = some q.2) → ∀ q, l.foldl (hrdS c) st = some q → q.1 ∈ begL c ∧ farC c q.1 = some q.2
  | [], st, _, h1 => h1
  | P :: l, st, hl, h1 => by
    refine hrd_inv l (hrdS c st P) (fun N hN => hl N (List.mem_cons_of_mem _ hN)) (fun q hq => ?_)
    have hP := hl P List.mem_cons_self
    cases hf : farC c P with
    | none => rw [hrdS_n hf] at hq; exact h1 q hq
    | some m =>
      cases st with
      | none =>
        rw [hrdS_0 hf] at hq
        cases hq
        exact ⟨hP, hf⟩
      | some r =>
        rw [hrdS_s hf] at hq
        split at hq
        · cases hq
          exact ⟨hP, hf⟩
        · exact h1 q hq
theorem hrd_take {c : Cfg} {i : Nat} {N : Nat → Nat} (h : (begL c)[i]? = some N) : ((begL c).take (i + 1)).foldl (hrdS c) none = hrdS c (((begL c).take i).foldl (hrdS c) none) N := by
  rw [List.take_add_one, h, List.foldl_append]
  rfl
def hrI (B : Nat) : Option ((Nat → Nat) × Nat) → Int32
  | none => -2
  | some q => nI (smP q.1 B)
section
variable {g : Gx} {σ : St} {d : Dat} {nr : Nat} {Ru : Nat → RuleT}
theorem kM_hardest {Q : Int32 → St → Prop} {x : Int32} (hs : CurM σ d) (ho : OkD nr d) (hr : RulM σ nr Ru) (h0 : (vC d = 0 ∨ 2 < vB d ∨ (∀ n, n ≤ 2 → x ≠ nI n)) → Q (-1) σ) (h1 : ∀ w, w ≤ 2 → x = nI w → vC d ≠ 0 → vB d ≤ 2 → ∀ τ, fr [(151, 32), (151, 35), (151, 36)] [154, 170, 171, 172, 173, 179, 180, 181, 184] σ τ → RefT τ (cfg Ru d) (vP d) → Q (hrdV (cfg Ru d) w) τ) : K_BM_hardest g x σ Q := by
  have hB3 := ho.1.2.2.1
  refine ko_BM_hardest (sg_BM_hardest_0 (kM_box hs ho (fun q => ⟨fun _ => h0 (Or.inl q), fun z => absurd rfl z⟩) (fun q => ⟨fun z => absurd z (by decide), fun _ => ⟨pk_in 2 8 (by decide), ?_⟩⟩)))
  rw [cl2, hs.1.2.2.1]
  refine ⟨fun z => h0 (Or.inr (Or.inl (Nat.not_le.mp (fun y => nI_nlt (a := 2) (b := vB d) y (by decide) z)))), fun z => ?_⟩
  have hB2 : vB d ≤ 2 := Nat.not_lt.mp (fun y => z (nI_lt (a := 2) y (by omega)))
  refine k_BM_inR 0 2 (by decide) (by decide) (by decide) (fun w _ hw ew => ⟨fun _ => ?_, fun z => absurd z (by decide)⟩) (fun q2 => ⟨fun z => absurd rfl z, fun _ => h0 (Or.inr (Or.inr (fun n hn => q2 n (Nat.zero_le _) hn)))⟩)
  subst ew
  have hrt := hs.toT ho hr
  have h1 := h1 w hw rfl q hB2
  obtain ⟨c, hc⟩ : ∃ c, c = cfg Ru d := ⟨_, rfl⟩
  obtain ⟨P, hP⟩ : ∃ P, P = vP d := ⟨_, rfl⟩
  have hB : c.2.2.1 ≤ 2 := by rw [hc]; exact hB2
  rw [← hc, ← hP] at hrt h1
  clear hc hP h0
  have hp := hrt.1.2.2.2
  have hC := hrt.1.1.2.2.2.1
  have hR := hrt.1.1.2.2.2.2.1
  refine lay_to sh179 (by decide) (by omega) hrt.1.2.2.1 (fun τ1 f1 p1 => ?_)
  have r1 : RefT τ1 c P := hrt.fr f1 (by decide) (by decide) (by decide) (by decide) (by decide) (by decide) (by decide) (by decide) (by decide)
  refine k_BM_fillsFar r1.x hB (fun τ2 f2 n2 => ?_)
  have x2 : RefX τ2 c := r1.x.fr f2 (by decide) (by decide) (by decide) (by decide) (by decide) (by decide) (by decide) (by decide)
  refine k_BM_fillsBegun x2 hB (fun τ3 f3 b3 hlen => ?_)
  have x3 : RefX τ3 c := x2.fr f3 (by decide) (by decide) (by decide) (by decide) (by decide) (by decide) (by decide) (by decide)
  refine lay_backX (P := P) sh179 (by decide) x3 (fun b hb => by rw [(f3.2 179 (by decide)).1, (f2.2 179 (by decide)).1]; exact p1 b hb) hp (fun τ f4 r4 => ?_)
  have hfm : FarM τ c := by
    unfold FarM
    rw [(f4.2 184 (by decide)).1, (f3.2 184 (by decide)).1]; exact n2
  have hbg : BgR τ c := by
    unfold BgR
    rw [(f4.2 181 (by decide)).1]; exact b3
  have h1 := h1 τ (((f1.mo (by simp) (by decide)).tr (f2.mo (by decide) (by decide))).tr ((f3.mo (by simp) (by decide)).tr (f4.mo (by simp) (by decide)))) r4
  clear f1 f2 f3 f4 x2 x3 r1 n2 b3 p1
  have far : ∀ N, N ∈ begL c → smP N c.2.2.1 < 1444 ∧ ai τ 184 (smP N c.2.2.1) = oT (farC c N) ∧ ∀ m, farC c N = some m → m < 1444 := by
    intro N hN
    have ok := (begL_ok (by omega) hN).1.1
    have hl := smP_lt2 hB (fun b => (ok.2 b).1)
    have := hfm _ hl
    rw [farC_ref hB hC hR ok] at this
    exact ⟨hl, this⟩
  have inv : ∀ i q, ((begL c).take i).foldl (hrdS c) none = some q → q.1 ∈ begL c ∧ farC c q.1 = some q.2 := fun i => hrd_inv _ _ (fun P hP => List.mem_of_mem_take hP) (fun q hq => by cases hq)
  have go : ∀ (m i : Nat), i + m = (begL c).length → S_BM_hardest_68 g Q τ (nI w) (nI (begL c).length) (hrI c.2.2.1 (((begL c).take i).foldl (hrdS c) none)) (nI i) := by
    intro m
    induction m with
    | zero =>
      intro i hi
      have e : i = (begL c).length := by omega
      have hinv := inv i
      rw [e, List.take_length] at hinv ⊢
      refine sg_BM_hardest_68 ⟨fun _ => ?_, fun q => absurd (nI_le (Nat.le_refl _) (by omega)) q⟩
      cases hst : (begL c).foldl (hrdS c) none with
      | none =>
        rw [hrdV_n hst] at h1
        exact ⟨fun _ => ⟨fun z => absurd rfl z, fun _ => h1⟩, fun z => absurd rfl z⟩
      | some q =>
        rw [hrdV_s hst] at h1
        obtain ⟨hm, hfq⟩ := hinv q hst
        obtain ⟨hl, hv, hb⟩ := far q.1 hm
        obtain ⟨okp, -, h36⟩ := begL_ok (c := c) (by omega) hm
        have d0 := dg_lt okp.1 0
        have d1 := dg_lt okp.1 1
        have e2 : dg q.1 c.2.2.1 2 = 0 := if_neg (by omega)
        show ((nI (smP q.1 c.2.2.1) = -2 → _) ∧ _)
        have hne : nI (smP q.1 c.2.2.1) ≠ -2 := nI_n2 (by omega)
        rw [hfq] at hv
        have hvq : ai τ 184 (nI (smP q.1 c.2.2.1)).toNatClampNeg = nI q.2 := by rw [nI_clamp (by omega)]; exact hv
        refine ⟨fun z => absurd z hne, fun _ => ⟨fun z => ⟨pk_in 2 8 (by decide), ?_⟩, fun z => ⟨fun _ => ⟨vp_in_nI (by omega) (by decide), ?_⟩, fun z => absurd z hne⟩⟩⟩
        · have hwz : w ≠ 0 := fun e => z (by rw [e]; rfl)
          rw [if_neg hwz] at h1
          rw [cl2, r4.1.1.2.2.1]
          have m0 : nI (smP q.1 c.2.2.1) - nI (smP q.1 c.2.2.1) / 38 * 38 = nI (smP q.1 c.2.2.1 % 38) := pk_rem (d := 38) (by omega) (by decide) (by decide)
          have m1 : nI (smP q.1 c.2.2.1) / 38 = nI (smP q.1 c.2.2.1 / 38) := pk_div (d := 38) (by omega) (by decide) (by decide)
          have m2 : nI (smP q.1 c.2.2.1 / 38) - nI (smP q.1 c.2.2.1 / 38) / 38 * 38 = nI (smP q.1 c.2.2.1 / 38 % 38) := pk_rem (d := 38) (by omega) (by decide) (by decide)
          refine ⟨fun zl => ⟨fun z1 => ?_, fun z1 => ?_⟩, fun zl => ?_⟩
          · have hwB : w ≤ c.2.2.1 := (nI_leI (by omega) (by omega)).mp zl
            have hw1 : w ≠ 1 := fun e => z1 (by rw [e]; rfl)
            rw [if_neg (by omega)] at h1
            have ew : w = 2 := by omega
            have ed : dg q.1 c.2.2.1 1 = q.1 1 := if_pos (by omega)
            have es : smP q.1 c.2.2.1 / 38 % 38 = q.1 (w - 1) := by
              rw [ew, show (2 : Nat) - 1 = 1 from rfl, ← ed]; unfold smP; omega
            show Q (nI (smP q.1 c.2.2.1) / 38 - nI (smP q.1 c.2.2.1) / 38 / 38 * 38) τ
            rw [m1, m2, es]
            exact h1
          · have hwB : w ≤ c.2.2.1 := (nI_leI (by omega) (by omega)).mp zl
            have hw1 : w = 1 := (nI_eq (b := 1) (by omega) (by decide)).mp z1
            rw [if_neg (by omega)] at h1
            have ed : dg q.1 c.2.2.1 0 = q.1 0 := if_pos (by omega)
            have es : smP q.1 c.2.2.1 % 38 = q.1 (w - 1) := by
              rw [hw1, show (1 : Nat) - 1 = 0 from rfl, ← ed]; unfold smP; omega
            show Q (nI (smP q.1 c.2.2.1) - nI (smP q.1 c.2.2.1) / 38 * 38) τ
            rw [m0, es]
            exact h1
          · have hwB : c.2.2.1 < w := Nat.not_le.mp (fun y => zl (nI_le y (by omega)))
            rw [if_pos hwB] at h1
            exact h1
        · have hwz : w = 0 := (nI_eq (b := 0) (by omega) (by decide)).mp z
          rw [if_pos hwz] at h1
          show Q (ai τ 184 (nI (smP q.1 c.2.2.1)).toNatClampNeg) τ
          rw [hvq]; exact h1
    | succ m ih =>
      intro i hi
      have hil : i < (begL c).length := by omega
      obtain ⟨N, hN⟩ : ∃ N, (begL c)[i]? = some N := ⟨_, List.getElem?_eq_getElem hil⟩
      have hmN := List.mem_of_getElem? hN
      obtain ⟨hl, hv, hb⟩ := far N hmN
      have ih := ih (i + 1) (by omega)
      rw [hrd_take hN] at ih
      have hinv := inv i
      refine sg_BM_hardest_68 ⟨fun q => absurd q (nI_ge hil (by omega)), fun _ => ⟨vp_in_nI (by omega) (by decide), ?_⟩⟩
      rw [nI_clamp (by omega), hbg i N hN, nI_clamp (by omega), hv]
      refine ⟨vp_in_nI (by omega) (by decide), ?_⟩
      cases hf : farC c N with
      | none =>
        rw [hrdS_n hf] at ih
        refine ⟨fun _ => ?_, fun z => absurd rfl z⟩
        rintro u rfl
        rw [nI_1]; exact ih
      | some k =>
        have hk := hb k hf
        refine ⟨fun z => absurd z (nI_n2 (by omega)), fun _ => ?_⟩
        cases hst : ((begL c).take i).foldl (hrdS c) none with
        | none =>
          rw [hst, hrdS_0 hf] at ih
          refine ⟨fun _ => ⟨vp_in_nI (by omega) (by decide), ?_⟩, fun z => absurd rfl z⟩
          rintro u rfl u2 rfl
          rw [nI_1]; exact ih
        | some q =>
          rw [hst, hrdS_s hf] at ih
          obtain ⟨hm, hfq⟩ := hinv q hst
          obtain ⟨hl2, hv2, hb2⟩ := far q.1 hm
          rw [hfq] at hv2
          have hq2 := hb2 q.2 hfq
          have hne : nI (smP q.1 c.2.2.1) ≠ -2 := nI_n2 (by omega)
          show ((nI (smP q.1 c.2.2.1) = -2 → _) ∧ _)
          refine ⟨fun z => absurd z hne, fun _ => ⟨vp_in_nI (by omega) (by decide), vp_in_nI (by omega) (by decide), vp_in_nI (by omega) (by decide), fun z => ?_, fun z => ⟨vp_in_nI (by omega) (by decide), ?_⟩⟩⟩
          · have z : nI k ≤ ai τ 184 (nI (smP q.1 c.2.2.1)).toNatClampNeg := z
            rw [nI_clamp (by omega), hv2] at z
            have hle : k ≤ q.2 := (nI_leI (by omega) (by omega)).mp z
            rw [if_neg (by omega)] at ih
            rintro u rfl
            rw [nI_1]; exact ih
          · have z : ¬ nI k ≤ ai τ 184 (nI (smP q.1 c.2.2.1)).toNatClampNeg := z
            rw [nI_clamp (by omega), hv2] at z
            have hle : q.2 < k := Nat.not_le.mp (fun y => z (nI_le y (by omega)))
            rw [if_pos hle] at ih
            rintro u rfl u2 rfl
            rw [nI_1]; exact ih
  exact go (begL c).length 0 (by omega)
end
