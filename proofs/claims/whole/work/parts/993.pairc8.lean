-- the class: keepUp of the pairs, blind, hardest
section
variable {g : Gx} {σ : St} {d : Dat} {nr : Nat} {Ru : Nat → RuleT}
theorem k_PA_keepUp {Q : St → Prop} (hs : ClsS 83 σ d) (ho : OkD nr d) (hr : RulC σ nr Ru) (hB : vB d ≤ 2) (hca : PaCa σ (cfg Ru d))
    (h : ∀ τ, fr [(69, 9), (69, 11), (69, 12), (69, 13), (69, 14), (69, 15), (17, 4), (17, 6), (17, 7)] [70, 71, 72, 73, 75, 76, 19, 20, 21, 26, 31, 36, 41, 46, 51] σ τ → PaF τ (cfg Ru d) → (fi τ 69 11 = fi σ 69 11 ∨ fi τ 69 11 = fi σ 0 14) → Q τ) : K_PA_keepUp g 83 (fi σ 0 14) σ Q := by
  refine ko_PA_keepUp (sg_PA_keepUp_0 sa_83 ⟨fun _ => ?_, fun q => h σ fr.rf (hca q hB) (Or.inl rfl)⟩)
  rintro s1 e1
  have f1 : fr [(69, 9), (69, 11), (69, 12), (69, 13), (69, 14), (69, 15), (17, 4), (17, 6), (17, 7)] [70, 71, 72, 73, 75, 76, 19, 20, 21, 26, 31, 36, 41, 46, 51] σ s1 := by rw [e1]; exact fr_sfi (by decide)
  have hC := ho.1.1
  have hR := ho.1.2.1
  have cs : ∀ τ, fr [(69, 9), (69, 11), (69, 12), (69, 13), (69, 14), (69, 15), (17, 4), (17, 6), (17, 7)] [70, 71, 72, 73, 75, 76, 19, 20, 21, 26, 31, 36, 41, 46, 51] σ τ → ClsS 83 τ d := fun τ hf => li_roll hs hf (fun k => by simp) (by decide) (by decide) (by decide) (by decide)
  have rs : ∀ τ, fr [(69, 9), (69, 11), (69, 12), (69, 13), (69, 14), (69, 15), (17, 4), (17, 6), (17, 7)] [70, 71, 72, 73, 75, 76, 19, 20, 21, 26, 31, 36, 41, 46, 51] σ τ → RulC τ nr Ru := fun τ hf => rulC_fr hr hf (by decide) (fun i hi => by simp; omega) (fun i hi => by simp; omega)
  have eB : ∀ τ, fr [(69, 9), (69, 11), (69, 12), (69, 13), (69, 14), (69, 15), (17, 4), (17, 6), (17, 7)] [70, 71, 72, 73, 75, 76, 19, 20, 21, 26, 31, 36, 41, 46, 51] σ τ → fi τ 83 4 = nI (vB d) := fun τ hf => (cs τ hf).2.1.1.2.2
  refine k_SA_listPlain (c := cfg Ru d) sa_83 sh70 (by decide) (cs s1 f1).2.1 (fun s2 f2 p2 => ?_)
  have F2 := f1.tr (f2.mo (F' := [(69, 9), (69, 11), (69, 12), (69, 13), (69, 14), (69, 15), (17, 4), (17, 6), (17, 7)]) (R' := [70, 71, 72, 73, 75, 76, 19, 20, 21, 26, 31, 36, 41, 46, 51]) (by simp) (by decide))
  rw [eB s2 F2]
  refine k_PA_listSituations (c := cfg Ru d) hB p2 (fun s4 f4 l4 => ?_)
  have F4 := F2.tr (f4.mo (F' := [(69, 9), (69, 11), (69, 12), (69, 13), (69, 14), (69, 15), (17, 4), (17, 6), (17, 7)]) (R' := [70, 71, 72, 73, 75, 76, 19, 20, 21, 26, 31, 36, 41, 46, 51]) (by decide) (by decide))
  refine k_PA_rollAll (c := cfg Ru d) (clsS_toT (cs s4 F4) ho (rs s4 F4)) hB l4 (fun s5 f5 r5 => ?_)
  have F5 := F4.tr (f5.mo (F' := [(69, 9), (69, 11), (69, 12), (69, 13), (69, 14), (69, 15), (17, 4), (17, 6), (17, 7)]) (R' := [70, 71, 72, 73, 75, 76, 19, 20, 21, 26, 31, 36, 41, 46, 51]) (by decide) (by decide))
  have l5 : LsR s5 (cfg Ru d) := by
    unfold LsR
    rw [(f5.1 69 9 (by decide)).1, (f5.2 73 (by decide)).1]; exact l4
  refine k_PA_reckonFar (c := cfg Ru d) hC hR hB l5 r5 (fun s6 f6 a6 => ?_)
  have F6 := F5.tr (f6.mo (F' := [(69, 9), (69, 11), (69, 12), (69, 13), (69, 14), (69, 15), (17, 4), (17, 6), (17, 7)]) (R' := [70, 71, 72, 73, 75, 76, 19, 20, 21, 26, 31, 36, 41, 46, 51]) (by simp) (by decide))
  rw [eB s6 F6]
  have p6 : ∀ k, k < (plnL (cfg Ru d)).length → ai s6 70 k = nI (spc ((plnL (cfg Ru d)).getD k 0)) := fun k hk => by
    rw [(f6.2 70 (by decide)).1, (f5.2 70 (by decide)).1, (f4.2 70 (by decide)).1]; exact p2 k hk
  refine k_PA_listBeginnings (c := cfg Ru d) hB p6 a6 (fun s7 f7 b7 h7 => ?_)
  rintro s8 e8 s9 e9
  have f9 : fr [(69, 12), (69, 13)] [] s7 s9 := by rw [e9, e8]; exact (fr_sfi (by decide)).tr (fr_sfi (by decide))
  refine h s9 (F6.tr ((f7.mo (by decide) (by decide)).tr (f9.mo (by decide) (by simp)))) ⟨?_, ?_, ?_, ?_, 0, by decide, ?_, Or.inl ⟨?_, fun L hL => absurd hL (by omega)⟩⟩ (Or.inr (by rw [(f9.1 69 11 (by decide)).1, (f7.1 69 11 (by decide)).1, (f6.1 69 11 (by simp)).1, (f5.1 69 11 (by decide)).1, (f4.1 69 11 (by decide)).1, (f2.1 69 11 (by simp)).1, e1, fi_sfi, if_pos ⟨rfl, rfl⟩]))
  · unfold RoR; rw [(f9.2 71 (by simp)).1, (f7.2 71 (by decide)).1, (f6.2 71 (by decide)).1]; exact r5
  · unfold FaR; rw [(f9.2 72 (by simp)).1, (f7.2 72 (by decide)).1]; exact a6
  · exact (b7.set hB).eq (by rw [(f9.2 76 (by simp)).1]) (fun x _ => by rw [(f9.2 75 (by simp)).1])
  · exact h7.eq (f9.1 69 14 (by decide)).1 (f9.1 69 15 (by decide)).1
  · rw [e9, fi_sfi, if_neg (by decide), e8, fi_sfi, if_pos ⟨rfl, rfl⟩]; rfl
  · rw [e9, fi_sfi, if_pos ⟨rfl, rfl⟩]
theorem kB_blind {Q : Int32 → St → Prop} {x y : Int32} {M : Nat} (hs : ClsS 83 σ d) (ho : OkD nr d) (hr : RulC σ nr Ru) (hca : PaCa σ (cfg Ru d)) (hm : MkR σ M) (hM : M + 140000 < 2 ^ 31) (h0 : (vC d = 0 ∨ 2 < vB d ∨ (∀ n, n ≤ 6 → x ≠ nI n) ∨ (∀ n, n ≤ 6 → y ≠ nI n)) → Q (-1) σ)
    (h1 : ∀ n w, n ≤ 6 → w ≤ 6 → x = nI n → y = nI w → vC d ≠ 0 → vB d ≤ 2 → ∀ τ mk, mk ≤ M + 140000 → fr [(69, 9), (69, 10), (69, 11), (69, 12), (69, 13), (69, 14), (69, 15), (17, 4), (17, 6), (17, 7)] [70, 71, 72, 73, 74, 75, 76, 77, 19, 20, 21, 26, 31, 36, 41, 46, 51] σ τ → MkR τ mk → PaF τ (cfg Ru d) → (fi τ 69 11 = fi σ 69 11 ∨ fi τ 69 11 = fi σ 0 14) → Q (blV (cfg Ru d) n w) τ) : K_BB_blind g x y σ Q := by
  have e4 : fi σ 83 4 = nI (vB d) := hs.2.1.1.2.2
  have hB3 := ho.1.2.2.1
  have bad : ((∀ n, n ≤ 6 → x ≠ nI n) ∨ (∀ n, n ≤ 6 → y ≠ nI n)) → S_BB_blind_25 g Q σ x y 0 := by
    intro hq
    have hQ := h0 (Or.inr (Or.inr hq))
    exact sg_BB_blind_25 ⟨fun _ => hQ, fun _ => ⟨fun _ => hQ, fun _ => ⟨fun z => absurd rfl z, fun _ => hQ⟩⟩⟩
  refine ko_BB_blind (sg_BB_blind_0 ⟨fun q => bad (Or.inl (fun n hn => rg_neg q (by omega))), fun q1 => ⟨fun q => bad (Or.inl (fun n hn => rg_big (hi := 6) q (by decide) hn)), fun q2 => ⟨fun q => bad (Or.inr (fun n hn => rg_neg q (by omega))), fun q3 => ⟨fun q => bad (Or.inr (fun n hn => rg_big (hi := 6) q (by decide) hn)), fun q4 => ?_⟩⟩⟩⟩)
  obtain ⟨n, hn, rfl⟩ := rg_of (hi := 6) q1 q2
  obtain ⟨w, hw, rfl⟩ := rg_of (hi := 6) q3 q4
  refine sg_BB_blind_25 ⟨fun q => h0 (Or.inl (hs.box.mp q)), fun q => ?_⟩
  rw [e4]
  refine ⟨fun z => h0 (Or.inr (Or.inl (Nat.not_le.mp (fun y => nI_nlt (a := 2) (b := vB d) y (by decide) z)))), fun z => ⟨fun _ => ?_, fun z => absurd z (by decide)⟩⟩
  have hB2 : vB d ≤ 2 := Nat.not_lt.mp (fun y => z (nI_lt (a := 2) y (by omega)))
  have hbox : vC d ≠ 0 := fun y => q (hs.box.mpr y)
  refine k_PA_keepUp hs ho hr hB2 hca (fun s1 f1 p1 has => ?_)
  have m1 : MkR s1 M := ⟨by rw [(f1.1 69 10 (by decide)).1]; exact hm.1, fun s hs => by rw [(f1.2 74 (by decide)).1]; exact hm.2 s hs⟩
  refine k_PA_blindLength (c := cfg Ru d) ho.1.1 ho.1.2.1 hB2 hn hM p1 m1 (fun r s2 mk f2 m2 b2 p2 hres => ?_)
  have h1 := h1 n w hn hw rfl rfl hbox hB2 s2 mk b2 ((f1.mo (by decide) (by decide)).tr (f2.mo (by decide) (by decide))) m2 p2 (by rw [(f2.1 69 11 (by decide)).1]; exact has)
  rcases hres with ⟨hno, rfl⟩ | ⟨L, k, hL, hF, rfl, h13, h77⟩
  · rw [blV_none hno] at h1
    exact ⟨fun z => absurd z (by decide), fun _ => h1⟩
  · rw [blV_some hF hL] at h1
    have hkl := hF.1
    refine ⟨fun _ => ⟨fun z => ?_, fun z => ?_⟩, fun z => absurd (nI_le (a := 0) (Nat.zero_le L) (by omega)) z⟩
    · have hwz : w ≠ 0 := fun e => z (by rw [e]; rfl)
      rw [if_neg hwz] at h1
      have ew : nI w - 1 = nI (w - 1) := jI_p (by omega)
      rw [ew]
      refine ko_PA_wayOfBlind (sg_PA_wayOfBlind_0 ⟨fun q => absurd q (nI_pos (by omega)), fun _ => ?_⟩)
      rw [h13]
      refine ⟨fun ql => ⟨vp_in_nI (by omega) (by decide), ?_⟩, fun ql => ?_⟩
      · have hlt : w - 1 < L := Nat.not_le.mp (fun y => nI_nlt (a := w - 1) (b := L) y (by omega) ql)
        rw [if_neg (by omega)] at h1
        rw [nI_clamp (by omega), h77 (w - 1) hlt]
        have e2 : nI (dgR L k (w - 1) + 1) - 1 = nI (dgR L k (w - 1)) := jI_s
        rw [e2]
        unfold dgR
        rw [show L - 1 - (w - 1) = L - w by omega]
        exact h1
      · have hlt : ¬ w - 1 < L := fun y => ql (nI_lt y (by omega))
        rw [if_pos (by omega)] at h1
        exact h1
    · have hwz : w = 0 := (nI_eq (b := 0) (by omega) (by decide)).mp z
      rw [if_pos hwz] at h1
      exact h1
theorem kB_hardest {Q : Int32 → St → Prop} {x : Int32} (hs : ClsS 83 σ d) (ho : OkD nr d) (hr : RulC σ nr Ru) (hca : PaCa σ (cfg Ru d)) (h0 : (vC d = 0 ∨ 2 < vB d ∨ (∀ n, n ≤ 2 → x ≠ nI n)) → Q (-1) σ)
    (h1 : ∀ w, w ≤ 2 → x = nI w → vC d ≠ 0 → vB d ≤ 2 → ∀ τ, fr [(69, 9), (69, 11), (69, 12), (69, 13), (69, 14), (69, 15), (17, 4), (17, 6), (17, 7)] [70, 71, 72, 73, 75, 76, 19, 20, 21, 26, 31, 36, 41, 46, 51] σ τ → PaF τ (cfg Ru d) → (fi τ 69 11 = fi σ 69 11 ∨ fi τ 69 11 = fi σ 0 14) → Q (hrdV (cfg Ru d) w) τ) : K_BB_hardest g x σ Q := by
  have e4 : fi σ 83 4 = nI (vB d) := hs.2.1.1.2.2
  have hB3 := ho.1.2.2.1
  refine ko_BB_hardest (sg_BB_hardest_0 ⟨fun q => h0 (Or.inl (hs.box.mp q)), fun q => ?_⟩)
  rw [e4]
  refine ⟨fun z => h0 (Or.inr (Or.inl (Nat.not_le.mp (fun y => nI_nlt (a := 2) (b := vB d) y (by decide) z)))), fun z => ⟨fun q1 => h0 (Or.inr (Or.inr (fun n hn => rg_neg q1 (by omega)))), fun q1 => ⟨fun q2 => ?_, fun q2 => h0 (Or.inr (Or.inr (fun n hn e => q2 (by rw [e]; exact nI_le (b := 2) hn (by decide)))))⟩⟩⟩
  have hB2 : vB d ≤ 2 := Nat.not_lt.mp (fun y => z (nI_lt (a := 2) y (by omega)))
  have hbox : vC d ≠ 0 := fun y => q (hs.box.mpr y)
  obtain ⟨w, hw, rfl⟩ : ∃ k, k ≤ 2 ∧ x = nI k := by
    obtain ⟨j, hj, rfl⟩ := nI_of q1
    exact ⟨j, (nI_leI (b := 2) hj (by decide)).mp q2, rfl⟩
  refine k_PA_keepUp hs ho hr hB2 hca (fun s1 f1 p1 has => ?_)
  have h1 := h1 w hw rfl hbox hB2 s1 f1 p1 has
  have v4 : fi s1 83 4 = nI (vB d) := by rw [(f1.1 83 4 (by decide)).1]; exact e4
  have hha := p1.2.2.2.1
  rw [v4]
  cases hq : hrdF (cfg Ru d) with
  | none =>
    rw [hq] at hha
    have hha : fi s1 69 14 = -2 := hha
    rw [hrdV_n hq] at h1
    rw [hha]
    exact ⟨fun _ => h1, fun _ => ⟨fun z => absurd z (by decide), fun _ => h1⟩⟩
  | some r =>
    rw [hq] at hha
    obtain ⟨a14, a15⟩ := hha
    rw [hrdV_s hq] at h1
    obtain ⟨rm, rf⟩ := hrd_inv (c := cfg Ru d) (begL (cfg Ru d)) none (fun P hP => hP) (fun q hq => by cases hq) r hq
    have hD := beg_dom (c := cfg Ru d) hB2 rm
    have hr4 := (p1.2.1 r.1 hD).2 _ rf
    obtain ⟨okp, -, h36⟩ := begL_ok (c := cfg Ru d) hB3 rm
    rw [a14, a15]
    refine ⟨fun z => ?_, fun z => ⟨fun _ => ⟨fun zl => ?_, fun zl => ?_⟩, fun z => absurd (nI_le (a := 0) (Nat.zero_le r.2) (by omega)) z⟩⟩
    · have hwz : w = 0 := (nI_eq (b := 0) (by omega) (by decide)).mp z
      rw [if_pos hwz] at h1
      exact h1
    · have hwz : w ≠ 0 := fun e => z (by rw [e]; rfl)
      have hwB : w ≤ vB d := (nI_leI (by omega) (by omega)).mp zl
      rw [if_neg hwz, if_neg (by show ¬ vB d < w; omega)] at h1
      have ew : nI w - 1 = nI (w - 1) := jI_p (by omega)
      rw [ew]
      exact k_SA_numberIn okp.1.1 (by omega) (h36 (w - 1) (by show w - 1 < vB d; omega)) h1
    · have hwz : w ≠ 0 := fun e => z (by rw [e]; rfl)
      have hwB : vB d < w := Nat.not_le.mp (fun y => zl (nI_le y (by omega)))
      rw [if_neg hwz, if_pos (show (cfg Ru d).2.2.1 < w from hwB)] at h1
      exact h1
end
