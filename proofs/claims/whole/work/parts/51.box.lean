-- the box: the State t of the class against rows of the reference
def enc (p : Nat) : Nat := if p < 36 then spc p else if p = 36 then 0 else 7
def enB (P : Nat → Nat) (B b : Nat) : Nat := if b < B then enc (P b) else 0
def sitP (P : Nat → Nat) (B : Nat) : Nat := sit (enB P B 0) (enB P B 1) (enB P B 2)
theorem enc_lt {p : Nat} : enc p < 64 := by
  unfold enc spc
  split
  · omega
  · split <;> omega
theorem enB_lt {P : Nat → Nat} {B b : Nat} : enB P B b < 64 := by
  unfold enB
  split
  · exact enc_lt
  · omega
theorem sitP_lt {P : Nat → Nat} {B : Nat} : sitP P B < 262144 := sit_lt enB_lt enB_lt enB_lt
theorem spo_sitP {P : Nat → Nat} {B b : Nat} (hb : b < 3) : spo (sitP P B) b = enB P B b := by
  rcases (show b = 0 ∨ b = 1 ∨ b = 2 by omega) with rfl | rfl | rfl
  · exact spo_0 enB_lt
  · exact spo_1 enB_lt enB_lt
  · exact spo_2 enB_lt enB_lt enB_lt
theorem enB_spc {P : Nat → Nat} {B b c : Nat} (hP : b < B → P b < 38) (hc : c < 36) : enB P B b = spc c ↔ b < B ∧ P b = c := by
  unfold enB enc
  by_cases h : b < B
  · rw [if_pos h]
    by_cases h2 : P b < 36
    · rw [if_pos h2]
      exact ⟨fun q => ⟨h, spc_inj q h2 hc⟩, fun q => by rw [q.2]⟩
    · rw [if_neg h2]
      refine ⟨fun q => ?_, fun q => absurd q.2 (by omega)⟩
      unfold spc at q
      split at q <;> omega
  · rw [if_neg h]
    refine ⟨fun q => ?_, fun q => absurd q.1 h⟩
    unfold spc at q
    omega
theorem who_whoM {P : Nat → Nat} {B c : Nat} (hP : ∀ b, b < B → P b < 38) (hc : c < 36) : who (sitP P B) (spc c) = whoM P B c := by
  unfold who whoM
  rw [spo_sitP (by decide), spo_sitP (by decide), spo_sitP (by decide)]
  simp only [enB_spc (hP 0) hc, enB_spc (hP 1) hc, enB_spc (hP 2) hc]
/-- columns, rows, balls, kinds, places on both sides -/
def BoxR (t : Nat) (σ : St) (sc kd pl : Nat → Int32) (C R B : Nat) (K P : Nat → Nat) : Prop :=
  (fi σ t 2 = nI C ∧ fi σ t 3 = nI R ∧ fi σ t 4 = nI B ∧ fi σ t 1 = (if C = 0 then 0 else 1)) ∧ (sc 0 = nI C ∧ sc 1 = nI R ∧ sc 2 = nI B) ∧ (C ≤ 6 ∧ R ≤ 6 ∧ B ≤ 3 ∧ (C = 0 ↔ R = 0)) ∧ GrR t σ C R K ∧ (∀ c, c < 36 → kd c = nI (K c) ∧ K c ≤ 4) ∧ fi σ t 5 = nI (sitP P B) ∧ ∀ b, b < B → pl b = nI (P b) ∧ P b < 38 ∧ (P b < 36 → P b % 6 < C ∧ P b / 6 < R ∧ K (P b) = 0)
section
variable {g : Gx} {σ : St} {C R B : Nat} {K P : Nat → Nat}
theorem BoxR.dim (h : BoxR 83 σ (ai σ 152) (ai σ 153) (ai σ 154) C R B K P) : Dim σ C R B := ⟨h.2.1.1, h.2.1.2.1, h.2.1.2.2, h.2.2.1.1, h.2.2.1.2.1, h.2.2.1.2.2.1⟩
theorem op_cell {Q : Int32 → Int32 → St → Prop} {x y z : Int32} (hB : BoxR 83 σ (ai σ 152) (ai σ 153) (ai σ 154) C R B K P) (h : ∀ r, Q r r σ) : K_BB_cell g x y z σ (fun r1 s1 => K_BM_cell g x y z s1 (fun r2 s2 => Q r1 r2 s2)) := by
  obtain ⟨b1, b2, ⟨hC, hR, hB3, -⟩, hG, hK, hS, hP⟩ := id hB
  have hd := hB.dim
  have hP38 : ∀ b, b < B → P b < 38 := fun b hb => (hP b hb).2.1
  have hPm : ∀ b, b < B → ai σ 154 b = nI (P b) ∧ P b < 64 := fun b hb => ⟨(hP b hb).1, by have := hP38 b hb; omega⟩
  have out : (∀ u v, u < C → v < R → x = nI u → y = nI v → False) → K_BM_cell g x y z σ (fun r2 s2 => Q (-1) r2 s2) := fun ho =>
    ko_BM_cell (sg_BM_cell_0 (k_BM_isCell hd (fun u v hu hv eu ev => (ho u v hu hv eu ev).elim) (fun _ => ⟨fun _ => h _, fun c => absurd rfl c⟩)))
  refine ko_BB_cell (sg_BB_cell_0 (k_SA_spotOf (fun u v hu hv eu ev => ?_) (fun ho => ?_)))
  · subst eu ev
    have e6 : (6 : Int32) * nI v + nI u = nI (6 * v + u) := by
      show nI 6 * nI v + nI u = _
      rw [pk_mul, nI_add]
    have hc36 : 6 * v + u < 36 := by omega
    have esp : 8 * v + u + 9 = spc (6 * v + u) := by unfold spc; omega
    rw [esp]
    refine k_SA_kindAt sa_83 (spc_lt hc36) ?_
    by_cases hin : u < C ∧ v < R
    · obtain ⟨k1, k2⟩ := hG.1 (6 * v + u) (by omega) (by omega)
      rw [k1]
      refine ⟨fun q => absurd q.symm (m1_ne (by omega)), fun _ => ?_⟩
      have go : ∀ r, (¬ ((0 : Int64) ≤ z.toInt64 ∧ z.toInt64 ≤ 1) → Q r (-1) σ) → ((0 : Int64) ≤ z.toInt64 ∧ z.toInt64 ≤ 1 → ¬ z = 0 → Q r (whoM P B (6 * v + u)) σ) → (z = 0 → Q r (nI (K (6 * v + u))) σ) → K_BM_cell g (nI u) (nI v) z σ (fun r2 s2 => Q r r2 s2) := by
        intro r h1 h2 h3
        refine ko_BM_cell (sg_BM_cell_0 (k_BM_isCell hd (fun _ _ _ _ _ _ => ⟨fun c => absurd c (by decide), fun _ => ?_⟩) (fun ho => (ho u v hin.1 hin.2 rfl rfl).elim)))
        refine k_BM_in ⟨fun c => ⟨fun c2 => ?_, fun c2 => ?_⟩, fun c => h1 (fun q => by rw [if_pos q] at c; exact absurd c (by decide))⟩
        · rw [e6]
          refine k_BM_whoAt hd hPm (by omega) (h2 ?_ c2)
          by_cases q : (0 : Int64) ≤ z.toInt64 ∧ z.toInt64 ≤ 1
          · exact q
          · rw [if_neg q] at c; exact absurd rfl c
        · rw [e6, nI_clamp (by omega), (hK _ hc36).1]
          exact ⟨vp_in_nI hc36 (by decide), h3 c2⟩
      have zin : ((0 : Int64) ≤ z.toInt64 ∧ z.toInt64 ≤ 1) ↔ ¬ z < 0 ∧ z ≤ 1 := by
        rw [Int64.le_iff_toInt_le, Int64.le_iff_toInt_le, Int32.toInt_toInt64, Int32.lt_iff_toInt_lt, Int32.le_iff_toInt_le]
        have a1 : (0 : Int64).toInt = 0 := by decide
        have a2 : (1 : Int64).toInt = 1 := by decide
        have a3 : (0 : Int32).toInt = 0 := by decide
        have a4 : (1 : Int32).toInt = 1 := by decide
        rw [a1, a2, a3, a4]
        omega
      refine ⟨fun q => ?_, fun q => ⟨fun q2 => ⟨fun q3 => ?_, fun q3 => ?_⟩, fun q2 => ?_⟩⟩
      · exact go _ (fun _ => h _) (fun y _ => absurd q (zin.mp y).1) (fun y => absurd q (by rw [y]; decide))
      · rw [hS]
        refine k_SA_whoLies (Nat.lt_trans sitP_lt (by decide)) (spc_lt hc36) ?_
        rw [who_whoM hP38 hc36]
        exact go _ (fun y => absurd (zin.mpr ⟨q, q2⟩) y) (fun _ _ => h _) (fun y => absurd y q3)
      · exact go _ (fun y => absurd (zin.mpr ⟨q, q2⟩) y) (fun _ y => absurd q3 y) (fun _ => h _)
      · exact go _ (fun _ => h _) (fun y _ => absurd (zin.mp y).2 q2) (fun y => absurd (by rw [y]; decide) q2)
    · have hno : ∀ c, c % 6 < C → c / 6 < R → spc (6 * v + u) ≠ spc c := fun c h1 h2 e => by
        have := spc_inj e hc36 (by omega)
        exact hin (by omega)
      rw [hG.2 _ (spc_lt hc36) hno]
      refine ⟨fun _ => out (fun u' v' hu' hv' eu ev => ?_), fun q => absurd rfl q⟩
      have e1 := (nI_eq (by omega) (by omega)).mp eu
      have e2 := (nI_eq (by omega) (by omega)).mp ev
      exact hin (by omega)
  · refine k_SA_kindAt_out sa_83 ⟨fun _ => out (fun u v hu hv eu ev => ho u v (by omega) (by omega) eu ev), fun q => absurd rfl q⟩
end
