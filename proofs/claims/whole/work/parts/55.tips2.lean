-- the reference's tip: rolling
def okW (C R B : Nat) (P : Nat → Nat) : Prop := (∀ b, B ≤ b → P b = 36) ∧ ∀ b, P b < 38 ∧ (P b < 36 → P b % 6 < C ∧ P b / 6 < R)
def RefB (σ : St) (C R B : Nat) (K P : Nat → Nat) : Prop := Dim σ C R B ∧ (∀ c, c < 36 → ai σ 153 c = nI (K c) ∧ K c ≤ 4) ∧ (∀ b, b < B → ai σ 154 b = nI (P b)) ∧ okW C R B P
theorem whoM_oc {P : Nat → Nat} {B d : Nat} (hN : ∀ b, B ≤ b → P b = 36) (hd : d < 36) : whoM P B d ≠ -1 ↔ (P 0 = d ∨ P 1 = d ∨ P 2 = d) := by
  have nb : ∀ b, P b = d → b < B := fun b e => Nat.not_le.mp (fun q => by have := hN b q; omega)
  unfold whoM
  by_cases h0 : P 0 = d
  · rw [if_pos ⟨nb 0 h0, h0⟩]; exact ⟨fun _ => Or.inl h0, fun _ => by decide⟩
  · rw [if_neg (fun q => h0 q.2)]
    by_cases h1 : P 1 = d
    · rw [if_pos ⟨nb 1 h1, h1⟩]; exact ⟨fun _ => Or.inr (Or.inl h1), fun _ => by decide⟩
    · rw [if_neg (fun q => h1 q.2)]
      by_cases h2 : P 2 = d
      · rw [if_pos ⟨nb 2 h2, h2⟩]; exact ⟨fun _ => Or.inr (Or.inr h2), fun _ => by decide⟩
      · rw [if_neg (fun q => h2 q.2)]
        exact ⟨fun q => absurd rfl q, fun q => q.elim (fun q => absurd q h0) (fun q => q.elim (fun q => absurd q h1) (fun q => absurd q h2))⟩
section
variable {g : Gx} {C R B : Nat} {K P : Nat → Nat}
theorem RefB.fr {σ τ : St} {F : List (Nat × Nat)} {L : List Nat} (h : RefB σ C R B K P) (hf : fr F L σ τ) (h1 : 152 ∉ L) (h2 : 153 ∉ L) (h3 : 154 ∉ L) : RefB τ C R B K P := by
  unfold RefB Dim at h ⊢
  rw [(hf.2 152 h1).1, (hf.2 153 h2).1, (hf.2 154 h3).1]
  exact h
theorem RefB.up {σ : St} {b v : Nat} (h : RefB σ C R B K P) (hb : b < B) (hv : v < 38) (hv2 : v < 36 → v % 6 < C ∧ v / 6 < R) : RefB (sai σ 154 b (nI v)) C R B K (upP P b v) := by
  obtain ⟨h1, h2, h3, h4, h5⟩ := h
  refine ⟨h1, h2, fun x hx => ?_, fun x hx => ?_, fun x => ?_⟩
  · rw [ai_sai]
    unfold upP
    by_cases e : x = b
    · rw [if_pos ⟨rfl, e⟩, if_pos e]
    · rw [if_neg (fun q => e q.2), if_neg e]; exact h3 x hx
  · unfold upP
    rw [if_neg (by omega)]
    exact h4 x hx
  · unfold upP
    split
    · exact ⟨hv, hv2⟩
    · exact h5 x
theorem k_BM_rolF {Q : Int32 → St → Prop} {b w : Nat} {σ : St} (hr : RefB σ C R B K P) (hw : w < 4) (hb : b < B) (hx : P b < 36) (h : Q (nI (rolF C R K P w b).1) (sfi σ 151 32 (nI (rolF C R K P w b).2))) : K_BM_rolls g (nI b) (nI w) σ Q := by
  obtain ⟨hd, hK, hp, hN, hP⟩ := hr
  have e : rollN C R K (fun d => whoM P B d ≠ -1) w 6 (P b) = rolF C R K P w b := by
    unfold rolF
    exact rollN_congr (L := fun d => d < 36) (fun a d ha hn => nxt36 hd.2.2.2.1 hd.2.2.2.2.1 hw ha hn) (fun d hd36 => whoM_oc hN hd36) 6 (P b) hx
  refine k_BM_rolls hw hb hd (fun x hx => ⟨hp x hx, by have := (hP x).1; omega⟩) hK ((hP b).2 hx).1 ((hP b).2 hx).2 ?_
  rw [e]
  exact h
theorem rolF_in {w b : Nat} (hC : C ≤ 6) (hR : R ≤ 6) (hw : w < 4) (hb : P b % 6 < C ∧ P b / 6 < R) : (rolF C R K P w b).2 % 6 < C ∧ (rolF C R K P w b).2 / 6 < R :=
  rollN_in (L := fun d => d % 6 < C ∧ d / 6 < R) (fun a d ha hn => ⟨(nxt_some ha.1 ha.2 hC hw hn).1, (nxt_some ha.1 ha.2 hC hw hn).2.1⟩) 6 (P b) hb
/-- one ball rolls -/
theorem rol1_ok {w b : Nat} {st : (Nat → Nat) × Nat × Nat} (hC : C ≤ 6) (hR : R ≤ 6) (hw : w < 4) (hb : b < B) (h : okW C R B st.1) (hb36 : st.1 b < 36) : okW C R B (rol1 C R K w st b).1 := by
  have hin := rolF_in (K := K) (P := st.1) hC hR hw ((h.2 b).2 hb36)
  unfold rol1
  split
  · refine ⟨fun x hx => ?_, fun x => ?_⟩
    · show upP _ _ _ x = 36
      unfold upP; rw [if_neg (by omega)]; exact h.1 x hx
    · dsimp only
      unfold upP
      split
      · split <;> exact ⟨by decide, fun q => absurd q (by decide)⟩
      · exact h.2 x
  · refine ⟨fun x hx => ?_, fun x => ?_⟩
    · show upP _ _ _ x = 36
      unfold upP; rw [if_neg (by omega)]; exact h.1 x hx
    · dsimp only
      unfold upP
      split
      · exact ⟨by omega, fun _ => hin⟩
      · exact h.2 x
theorem rol1_ne {w b x : Nat} {st : (Nat → Nat) × Nat × Nat} (h : x ≠ b) : (rol1 C R K w st b).1 x = st.1 x := by
  unfold rol1
  split <;> simp [upP, h]
theorem tips120 {Q : St → Prop} {w n : Nat} (hw : w < 4) (hn : n ≤ 3) : ∀ (l : List Nat) (i : Nat) (σ : St) (st : (Nat → Nat) × Nat × Nat), hoA (ai σ 172) i l → (∀ b, b ∈ l → b < B ∧ st.1 b < 36) → l.Nodup → RefB σ C R B K st.1 → fi σ 151 35 = nI st.2.1 → fi σ 151 36 = nI st.2.2 → i + l.length = n →
    (∀ τ, fr [(151, 32), (151, 35), (151, 36)] [154] σ τ → RefB τ C R B K (l.foldl (rol1 C R K w) st).1 → fi τ 151 35 = nI (l.foldl (rol1 C R K w) st).2.1 → fi τ 151 36 = nI (l.foldl (rol1 C R K w) st).2.2 → Q τ) → S_BM_tips_120 g Q σ (nI w) (nI n) (nI i) := by
  intro l
  induction l with
  | nil =>
    intro i σ st _ _ _ hr h1 h2 hi h
    have e : i = n := by simpa using hi
    subst e
    exact sg_BM_tips_120 ⟨fun _ => h σ fr.rf hr h1 h2, fun c => absurd (nI_le (Nat.le_refl _) (by omega)) c⟩
  | cons b l ih =>
    intro i σ st hl hb hnd hr h1 h2 hi h
    obtain ⟨hbB, hb36⟩ := hb b List.mem_cons_self
    have hil : i < n := by simp at hi; omega
    have hB3 := hr.1.2.2.2.2.2
    have hC := hr.1.2.2.2.1
    have hR := hr.1.2.2.2.2.1
    refine sg_BM_tips_120 ⟨fun c => absurd c (nI_ge hil (by omega)), fun _ => ⟨vp_in_nI (by omega) (by decide), ?_⟩⟩
    rintro u rfl
    rw [nI_clamp (by omega), hl.1]
    refine k_BM_rolF hr hw hbB hb36 ?_
    rintro u4 rfl
    obtain ⟨at', hat⟩ : ∃ x, x = (rolF C R K st.1 w b).2 := ⟨_, rfl⟩
    obtain ⟨far, hfar⟩ : ∃ x, x = (rolF C R K st.1 w b).1 := ⟨_, rfl⟩
    have hfar6 : far ≤ 6 := by rw [hfar]; exact rollN_le 6 _
    obtain ⟨hin1, hin2⟩ := rolF_in (K := K) (P := st.1) hC hR hw ((hr.2.2.2.2 b).2 hb36)
    rw [← hat] at hin1 hin2
    rw [← hat, ← hfar]
    have hat36 : at' < 36 := by omega
    have ef : fi (sfi σ 151 32 (nI at')) 151 32 = nI at' := rfl
    rw [ef, nI_clamp (by omega)]
    obtain ⟨s, hs⟩ : ∃ s, s = sfi σ 151 32 (nI at') := ⟨_, rfl⟩
    rw [← hs]
    have fs : fr [(151, 32), (151, 35), (151, 36)] [154] σ s := by rw [hs]; exact fr_sfi (by decide)
    have hrs : RefB s C R B K st.1 := by rw [hs]; exact hr
    have s1 : fi s 151 35 = nI st.2.1 := by rw [hs]; exact h1
    have s2 : fi s 151 36 = nI st.2.2 := by rw [hs]; exact h2
    have s172 : ai s 172 = ai σ 172 := by rw [hs]; rfl
    obtain ⟨k1, k2⟩ := hrs.2.1 at' hat36
    rw [k1]
    have next : ∀ (τ : St) (v hh ff : Nat), rol1 C R K w st b = (upP st.1 b v, hh, ff) → fr [(151, 32), (151, 35), (151, 36)] [154] σ τ → RefB τ C R B K (upP st.1 b v) → fi τ 151 35 = nI hh → fi τ 151 36 = nI ff → S_BM_tips_120 g Q τ (nI w) (nI n) (nI (i + 1)) := by
      intro τ v hh ff e f1 r1 e1 e2
      refine ih (i + 1) τ (rol1 C R K w st b) ?_ (fun x hx => ?_) (List.nodup_cons.mp hnd).2 (by rw [e]; exact r1) (by rw [e]; exact e1) (by rw [e]; exact e2) (by simp at hi; omega) (fun υ g1 g2 g3 g4 => h υ (f1.tr g1) g2 g3 g4)
      · rw [(f1.2 172 (by decide)).1]; exact hl.2
      · obtain ⟨a1, a2⟩ := hb x (List.mem_cons_of_mem _ hx)
        refine ⟨a1, ?_⟩
        rw [rol1_ne (x := x) (b := b) (fun e => (List.nodup_cons.mp hnd).1 (e ▸ hx))]
        exact a2
    refine ⟨vp_in_nI hat36 (by decide), fun c => ?_, fun c => ?_⟩
    · have hk : ¬ 2 ≤ K at' := fun q => nI_nlt (a := K at') (b := 2) q (by omega) c
      refine sg_BM_tips_164 ⟨fun q => absurd rfl q, fun _ => ⟨vp_in_nI (by omega) (by decide), ?_⟩⟩
      rintro t rfl
      rw [nI_clamp (by omega)]
      refine ⟨fun _ => ?_, fun q => absurd rfl q⟩
      refine sg_BM_tips_219 ?_
      rintro t2 rfl
      refine ⟨fun q => absurd rfl q, fun _ => ⟨fun q => ?_, fun q => ?_⟩⟩
      · rintro t3 rfl u rfl
        rw [nI_1]
        have f0 : far = 0 := by
          have := (nI_leI (b := 0) (by omega) (by decide)).mp q
          omega
        refine next _ at' st.2.1 st.2.2 ?_ (fs.tr (((fr_sai (by decide)).tr (fr_sfi (by decide))).tr (fr_sfi (by decide)))) ?_ ?_ ?_
        · unfold rol1
          rw [← hat, ← hfar, if_neg hk, if_neg (by omega)]
        · exact RefB.up (σ := s) hrs hbB (by omega) (fun _ => ⟨hin1, hin2⟩)
        · show fi s 151 35 + 0 = _
          rw [s1, Int32.add_zero]
        · show fi s 151 36 + 0 = _
          rw [s2, Int32.add_zero]
      · rintro t3 rfl u rfl
        rw [nI_1]
        have f0 : 0 < far := Nat.pos_of_ne_zero (fun z => q (by rw [z]; decide))
        refine next _ at' (st.2.1 + 1) st.2.2 ?_ (fs.tr (((fr_sai (by decide)).tr (fr_sfi (by decide))).tr (fr_sfi (by decide)))) ?_ ?_ ?_
        · unfold rol1
          rw [← hat, ← hfar, if_neg hk, if_pos f0]
        · exact RefB.up (σ := s) hrs hbB (by omega) (fun _ => ⟨hin1, hin2⟩)
        · show fi s 151 35 + 1 = _
          rw [s1, nI_1]
        · show fi s 151 36 + 0 = _
          rw [s2, Int32.add_zero]
    · have hk : 2 ≤ K at' := Nat.not_lt.mp (fun q => c (nI_lt q (by decide)))
      have e2b : (2 : Int32) + nI b = nI (2 + b) := nI_add 2 b
      refine sg_BM_tips_164 ⟨fun _ => ⟨vp_in_nI hat36 (by decide), ?_⟩, fun q => absurd q (by decide)⟩
      rw [nI_clamp (by omega), k1, e2b, nI_eq (by omega) (by omega), nI_clamp (by omega)]
      refine ⟨fun q => ⟨vp_in_nI (by omega) (by decide), ?_⟩, fun q => ⟨vp_in_nI (by omega) (by decide), ?_⟩⟩
      · rintro t rfl
        refine ⟨fun q => absurd q (by decide), fun _ => ?_⟩
        refine sg_BM_tips_219 ?_
        rintro t2 rfl
        refine ⟨fun _ => ?_, fun q => absurd q (by decide)⟩
        rintro t3 rfl u rfl
        rw [nI_1]
        refine next _ 37 st.2.1 (st.2.2 + 1) ?_ (fs.tr (((fr_sai (by decide)).tr (fr_sfi (by decide))).tr (fr_sfi (by decide)))) ?_ ?_ ?_
        · unfold rol1
          rw [← hat, if_pos hk, if_neg q]
        · exact RefB.up (σ := s) (v := 37) hrs hbB (by omega) (fun z => absurd z (by decide))
        · show fi s 151 35 + 0 = _
          rw [s1, Int32.add_zero]
        · show fi s 151 36 + 1 = _
          rw [s2, nI_1]
      · rintro t rfl
        refine ⟨fun q => absurd q (by decide), fun _ => ?_⟩
        refine sg_BM_tips_219 ?_
        rintro t2 rfl
        refine ⟨fun _ => ?_, fun q => absurd q (by decide)⟩
        rintro t3 rfl u rfl
        rw [nI_1]
        refine next _ 36 st.2.1 (st.2.2 + 1) ?_ (fs.tr (((fr_sai (by decide)).tr (fr_sfi (by decide))).tr (fr_sfi (by decide)))) ?_ ?_ ?_
        · unfold rol1
          rw [← hat, if_pos hk, if_pos q]
        · exact RefB.up (σ := s) (v := 36) hrs hbB (by omega) (fun z => absurd z (by decide))
        · show fi s 151 35 + 0 = _
          rw [s1, Int32.add_zero]
        · show fi s 151 36 + 1 = _
          rw [s2, nI_1]
end
