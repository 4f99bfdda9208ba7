-- the class's tip: one ball rolls
def HoR (t : Nat) (σ : St) (C R : Nat) (K : Nat → Nat) : Prop := ∀ k, k < 3 → (∀ c, c % 6 < C → c / 6 < R → K c = 2 + k → ai σ (t + 2) k = nI (spc c)) ∧ ((∀ c, c % 6 < C → c / 6 < R → K c ≠ 2 + k) → ai σ (t + 2) k = 0)
def ClsB (t : Nat) (σ : St) (C R B : Nat) (K : Nat → Nat) : Prop := (fi σ t 2 = nI C ∧ fi σ t 3 = nI R ∧ fi σ t 4 = nI B) ∧ (C ≤ 6 ∧ R ≤ 6 ∧ B ≤ 3) ∧ GrR t σ C R K ∧ HoR t σ C R K
def okP (C R B : Nat) (K P : Nat → Nat) : Prop := okW C R B P ∧ ∀ b, P b < 36 → K (P b) = 0
theorem ClsB.fr {t : Nat} {σ τ : St} {C R B : Nat} {K : Nat → Nat} {F : List (Nat × Nat)} {L : List Nat} (h : ClsB t σ C R B K) (hf : fr F L σ τ) (h2 : (t, 2) ∉ F) (h3 : (t, 3) ∉ F) (h4 : (t, 4) ∉ F) (h5 : t + 1 ∉ L) (h6 : t + 2 ∉ L) : ClsB t τ C R B K := by
  unfold ClsB GrR HoR at h ⊢
  rw [(hf.1 _ _ h2).1, (hf.1 _ _ h3).1, (hf.1 _ _ h4).1, (hf.2 _ h5).1, (hf.2 _ h6).1]
  exact h
theorem enB_norm {P : Nat → Nat} {B b : Nat} (hN : ∀ b, B ≤ b → P b = 36) : enB P B b = enc (P b) := by
  unfold enB
  split
  · rfl
  · rename_i q
    rw [hN b (Nat.not_lt.mp q)]
    rfl
theorem enc_36 : enc 36 = 0 := rfl
theorem enc_37 : enc 37 = 7 := rfl
theorem enc_c {c : Nat} (h : c < 36) : enc c = spc c := if_pos h
theorem upP_same {P : Nat → Nat} {b v : Nat} : upP P b v b = v := if_pos rfl
theorem upP_ne {P : Nat → Nat} {b v x : Nat} (h : x ≠ b) : upP P b v x = P x := if_neg h
theorem lay_sitP {P : Nat → Nat} {B b v : Nat} (hB : B ≤ 3) (hb : b < B) : lay (sitP P B) b (enc v) = sitP (upP P b v) B := by
  unfold sitP
  rw [lay_sit enB_lt enB_lt enB_lt (by omega) enc_lt]
  have e : ∀ i, enB (upP P b v) B i = if b = i then enc v else enB P B i := by
    intro i
    unfold enB upP
    by_cases q : b = i
    · subst q; simp [hb]
    · simp [q, Ne.symm q]
  rw [e, e, e]
theorem roll_far {C R : Nat} {K : Nat → Nat} {o : Nat → Prop} [DecidablePred o] {w : Nat} (hC : C ≤ 6) (hw : w < 4) : ∀ (f a : Nat), a % 6 < C → a / 6 < R → nI (spc a) + nI (rollN C R K o w f a).1 * stepsL.getD w 0 = nI (spc (rollN C R K o w f a).2) := by
  intro f
  induction f with
  | zero => intro a _ _; show nI (spc a) + nI 0 * _ = nI (spc a); rw [nI_0, Int32.zero_mul, Int32.add_zero]
  | succ f ih =>
    intro a hx hy
    have z : nI (spc a) + nI 0 * stepsL.getD w 0 = nI (spc a) := by rw [nI_0, Int32.zero_mul, Int32.add_zero]
    rw [rollN]
    cases hn : nxt C R a w with
    | none => exact z
    | some d =>
      obtain ⟨dx, dy, -⟩ := nxt_some hx hy hC hw hn
      have st := step_some hx hy hC hw hn
      simp only
      split
      · exact z
      · split
        · show nI (spc a) + nI 1 * _ = nI (spc d)
          rw [show nI 1 = 1 from rfl, Int32.one_mul]
          exact st
        · show nI (spc a) + nI ((rollN C R K o w f d).1 + 1) * _ = nI (spc (rollN C R K o w f d).2)
          rw [← ih d dx dy, ← st, nI_succ, Int32.add_mul, Int32.one_mul]
          ac_rfl
section
variable {g : Gx} {C R B : Nat} {K P : Nat → Nat} {t w : Nat}
theorem reach_rolF {Q : Int32 → St → Prop} {σ : St} {b : Nat} (ht : isSA t) (hw : w < 4) (hc : ClsB t σ C R B K) (hp : okW C R B P) (hb : P b < 36) (h : Q (nI (rolF C R K P w b).1) σ) : K_RO_reach g t (nI (sitP P B)) (nI (spc (P b))) (stepsL.getD w 0) σ Q := by
  refine k_RO_reach ht hw hc.2.1.1 hc.2.1.2.1 hc.2.2.1 sitP_lt ((hp.2 b).2 hb).1 ((hp.2 b).2 hb).2 ?_
  have e : rollN C R K (fun d => spc d = spo (sitP P B) 0 ∨ spc d = spo (sitP P B) 1 ∨ spc d = spo (sitP P B) 2) w 6 (P b) = rolF C R K P w b := by
    unfold rolF
    refine rollN_congr (L := fun d => d < 36) (fun a d ha hn => nxt36 hc.2.1.1 hc.2.1.2.1 hw ha hn) (fun d hd36 => ?_) 6 (P b) hb
    have k : ∀ i, i < 3 → (spc d = spo (sitP P B) i ↔ P i = d) := by
      intro i hi
      rw [spo_sitP hi, eq_comm, enB_spc (fun _ => (hp.2 i).1) hd36]
      refine ⟨fun q => q.2, fun q => ⟨Nat.not_le.mp (fun z => ?_), q⟩⟩
      have := hp.1 i z
      omega
    rw [k 0 (by decide), k 1 (by decide), k 2 (by decide)]
  rw [e]
  exact h
theorem k_RO_rollOne {Q : Int32 → St → Prop} {σ : St} {b : Nat} {hh ff : Nat} (ht : isSA t) (hw : w < 4) (hc : ClsB t σ C R B K) (hp : okP C R B K P) (hbB : b < B) (hb : P b < 36) (h6 : fi σ 17 6 = nI hh) (h7 : fi σ 17 7 = nI ff)
    (h : ∀ τ, fr [(17, 6), (17, 7)] [] σ τ → fi τ 17 6 = nI (rol1 C R K w (P, hh, ff) b).2.1 → fi τ 17 7 = nI (rol1 C R K w (P, hh, ff) b).2.2 → Q (nI (sitP (rol1 C R K w (P, hh, ff) b).1 B)) τ) : K_RO_rollOne g t (nI (sitP P B)) (nI b) (stepsL.getD w 0) σ Q := by
  obtain ⟨-, ⟨hC, hR, hB⟩, hG, -⟩ := id hc
  have hS : sitP P B < 262144 := sitP_lt
  obtain ⟨hx, hy⟩ := (hp.1.2 b).2 hb
  have hsp : spo (sitP P B) b = spc (P b) := by rw [spo_sitP (by omega), enB_norm hp.1.1, enc_c hb]
  refine ko_RO_rollOne (sg_RO_rollOne_0 ht (k_SA_spotIn (by omega) (by omega) ?_))
  rw [hsp]
  refine reach_rolF ht hw hc hp.1 hb ?_
  have hto := rollN_to (C := C) (R := R) (K := K) (o1 := fun d => P 0 = d ∨ P 1 = d ∨ P 2 = d) (w := w) 6 (P b)
  have hle := rollN_le (C := C) (R := R) (K := K) (o1 := fun d => P 0 = d ∨ P 1 = d ∨ P 2 = d) (w := w) 6 (P b)
  have hfar := roll_far (K := K) (o := fun d => P 0 = d ∨ P 1 = d ∨ P 2 = d) hC hw 6 (P b) hx hy
  have hin := rolF_in (K := K) (P := P) (b := b) hC hR hw ⟨hx, hy⟩
  change rolF C R K P w b = (0, P b) ∨ (0 < (rolF C R K P w b).1 ∧ K (rolF C R K P w b).2 ≠ 1 ∧ _) at hto
  change (rolF C R K P w b).1 ≤ 6 at hle
  change nI (spc (P b)) + nI (rolF C R K P w b).1 * stepsL.getD w 0 = nI (spc (rolF C R K P w b).2) at hfar
  have h36 : (rolF C R K P w b).2 < 36 := by omega
  unfold rol1 at h
  dsimp only at h
  generalize hr : rolF C R K P w b = r at *
  obtain ⟨far, at'⟩ := r
  dsimp only at *
  refine ⟨fun c => ?_, fun c => ?_⟩
  · have f0 : 0 < far := Nat.pos_of_ne_zero (fun z => c (by rw [z]; rfl))
    rintro u rfl
    rw [hfar]
    obtain ⟨k1, k2⟩ := hG.1 at' hin.1 hin.2
    refine k_SA_kindAt ht (spc_lt h36) ?_
    rw [k1]
    refine ⟨fun q => ?_, fun q => ?_⟩
    · have hk : 2 ≤ K at' := (nI_leI (a := 2) (by decide) (by omega)).mp q
      rintro s rfl
      have e2 : nI (K at') - 2 = nI b ↔ K at' = 2 + b := by
        obtain ⟨j, hj⟩ : ∃ j, K at' = 2 + j := ⟨K at' - 2, by omega⟩
        have e : nI (K at') - 2 = nI j := by
          rw [hj, ← nI_add, show nI 2 = (2 : Int32) from rfl, Int32.add_comm, Int32.add_sub_cancel]
        rw [e, nI_eq (by omega) (by omega), hj]
        omega
      rw [if_pos hk] at h
      rw [e2]
      refine ⟨fun q2 => ?_, fun q2 => ?_⟩
      · rw [if_neg q2] at h
        refine k_SA_laid (v := 7) (by omega) (by decide) ?_
        rw [← enc_37, lay_sitP hB hbB]
        exact h _ (fr_sfi (by decide)) h6 (by show fi σ 17 7 + 1 = _; rw [h7, nI_1])
      · rw [if_pos q2] at h
        refine k_SA_laid (v := 0) (by omega) (by decide) ?_
        rw [← enc_36, lay_sitP hB hbB]
        exact h _ (fr_sfi (by decide)) h6 (by show fi σ 17 7 + 1 = _; rw [h7, nI_1])
    · have hk : ¬ 2 ≤ K at' := fun z => q (nI_le z (by omega))
      rintro s rfl
      rw [if_neg hk, if_pos f0] at h
      refine k_SA_laid (by omega) (spc_lt h36) ?_
      rw [← enc_c h36, lay_sitP hB hbB]
      exact h _ (fr_sfi (by decide)) (by show fi σ 17 6 + 1 = _; rw [h6, nI_1]) h7
  · have f0 : far = 0 := (nI_eq (b := 0) (by omega) (by decide)).mp c
    have hat : at' = P b := by
      rcases hto with e | e
      · exact (Prod.mk.inj e).2
      · omega
    have hk : ¬ 2 ≤ K at' := by rw [hat, hp.2 b hb]; decide
    rw [if_neg hk, if_neg (by omega)] at h
    have eP : upP P b at' = P := by
      funext x
      unfold upP
      split
      · rename_i e; rw [e, hat]
      · rfl
    rw [eP] at h
    exact h σ fr.rf h6 h7
end
