-- the start: nothing stands in the box yet, nothing has been asked
def stO : St := (fun _ _ => 0, fun _ _ => 0, fun _ _ => 0, fun _ _ => 0)
theorem zro_o (i : Nat) : zro stO i := ⟨fun _ => rfl, fun _ => rfl, fun _ => rfl, fun _ => rfl⟩
theorem zro_b (i : Nat) (hi : 151 ≤ i) : zro (F_BB_init stO 0) i := by
  unfold F_BB_init
  exact zf_SA_init (by omega) (zf_SA_init (by omega) (zf_SA_init (by omega) (zf_SA_init (by omega) (zf_SA_init (by omega) (zf_SA_init (by omega) (zf_SA_init (by omega) (zf_SA_init (by omega) (zf_SA_init (by omega) (zf_SA_init (by omega) (zf_SA_init (by omega) (zf_SA_init (by omega) (zf_SA_init (by omega) (zf_TR_init (by omega) (zf_LI_init (by omega) (zf_PA_init (by omega) (zf_CA_init (by omega) (zf_SE_init (by omega) (zf_RO_init (by omega) (zf_RR_init (by omega) (zf_BR_init (by omega) (zf_TA_init (by omega) (zro_o i))))))))))))))))))))))
def datZ : Dat := (0, 0, 0, fun _ => 0, fun _ => 36, 0, 0, fun _ => 0, 0, fun _ => 0, 0, none)
def gxZ : GX := (datZ, 0, fun _ => (fun _ => 0, 0, 0, fun _ => 0, fun _ => 0), 0, fun _ => datZ, fun _ => False, fun _ => datZ, 0, fun _ => 0, fun _ => 0)
def stZ : St := F_BM_init (F_BB_init stO 0) 151
theorem ok_z : OkD 0 datZ := by
  refine ⟨⟨by decide, by decide, by decide, ⟨fun _ => rfl, fun _ => rfl⟩, fun _ => rfl⟩, fun _ _ => Nat.zero_le _, ⟨⟨fun _ _ => rfl, fun _ => ⟨?_, fun h => ?_⟩⟩, fun _ h => ?_⟩, fun a b _ _ _ h => ?_, Nat.zero_le _, fun k hk => absurd hk (Nat.not_lt_zero k), Nat.zero_le _, fun k hk => absurd hk (Nat.not_lt_zero k), ?_, fun i h => ?_⟩
  · show 36 < 38; decide
  · exact absurd (show 36 < 36 from h) (by decide)
  · exact absurd (show 36 < 36 from h) (by decide)
  · exact absurd (show 36 < 36 from h) (by decide)
  · show 0 < 2 ^ 31; decide
  · have h : (none : Option Nat) = some i := h
    cases h
theorem gr_z : ∀ p, p < 64 → ai stZ 84 p = -1 := by decide +kernel
theorem ho_z : ∀ k, k < 3 → ai stZ 85 k = 0 := by decide +kernel
theorem cls_z : ClsS 83 stZ datZ := by
  refine ⟨by decide +kernel, ⟨⟨by decide +kernel, by decide +kernel, by decide +kernel⟩, ⟨by decide, by decide, by decide⟩, ⟨fun c h => absurd h (Nat.not_lt_zero _), fun p hp _ => gr_z p hp⟩, fun k hk => ⟨fun c h => absurd h (Nat.not_lt_zero _), fun _ => ho_z k hk⟩⟩, by decide +kernel, by decide +kernel, by decide +kernel, fun k hk => absurd hk (Nat.not_lt_zero k), by decide +kernel, fun k hk => absurd hk (Nat.not_lt_zero k), by decide +kernel, by decide +kernel⟩
theorem seq_z52 : SeQ 52 stZ 0 (fun _ => 0) := by
  refine ⟨by decide, by decide +kernel, fun i h => absurd h (Nat.not_lt_zero i), fun S _ => ?_⟩
  rw [show aj stZ (52 + 3) (S / 64) = 0 from rfl, sb_0]
  simp
theorem seq_z65 : SeQ 65 stZ 0 (fun _ => 0) := by
  refine ⟨by decide, by decide +kernel, fun i h => absurd h (Nat.not_lt_zero i), fun S _ => ?_⟩
  rw [show aj stZ (65 + 3) (S / 64) = 0 from rfl, sb_0]
  simp
theorem im_z : ∀ k, k < 4 → fi stZ (91 + 5 * k) 0 = 0 := by decide +kernel
theorem ca_z : ∀ k, k < 2 → ai stZ 62 k = -1 := by decide +kernel
theorem ne_z {x : Int32} (h : x = -1) : x ≠ fi stZ 0 14 := by rw [h]; decide +kernel
theorem s6_z : fi stZ 52 6 = -1 := by decide +kernel
theorem l4_z : fi stZ 78 4 = -1 := by decide +kernel
theorem p11_z : fi stZ 69 11 = -1 := by decide +kernel
theorem cch_z : Cch stZ gxZ 0 0 := by
  refine ⟨by decide +kernel, ⟨⟨⟨0, _, seq_z52⟩, fun e => absurd e (ne_z s6_z)⟩, Or.inl s6_z⟩, ⟨⟨⟨0, _, seq_z65⟩, fun m hm e => absurd e (ne_z (ca_z m (by omega)))⟩, fun m hm => Or.inl (ca_z m (by omega))⟩, ⟨⟨Or.inl (by decide +kernel), fun e => absurd e (ne_z l4_z)⟩, Or.inl l4_z⟩, fun e => absurd e (ne_z p11_z), Or.inl p11_z, by decide +kernel, fun s _ => ⟨0, Nat.le_refl _, rfl⟩⟩
theorem kd_z : ∀ c, c < 36 → ai stZ 153 c = 0 := by decide +kernel
theorem imm_z : ∀ k, k < 4 → ai stZ 198 k = 0 := by decide +kernel
theorem rm_z : RM stZ gxZ 0 := by
  refine ⟨⟨⟨by decide +kernel, by decide +kernel, by decide +kernel, by decide +kernel, by decide +kernel, by decide +kernel, by decide +kernel, by decide +kernel⟩, fun c hc => kd_z c hc, fun k hk => absurd hk (Nat.not_lt_zero k), fun k hk => absurd hk (Nat.not_lt_zero k), fun k hk => absurd hk (Nat.not_lt_zero k)⟩, ⟨by decide, by decide +kernel, fun k hk => absurd hk (Nat.not_lt_zero k)⟩, ⟨by decide +kernel, fun k hk => absurd hk (Nat.not_lt_zero k)⟩, fun k hk => ⟨⟨fun h => absurd (imm_z k hk) h, fun h => h.elim⟩, fun h => h.elim⟩, ⟨by decide +kernel, by decide, fun k hk => absurd hk (Nat.not_lt_zero k)⟩, ⟨by decide +kernel, fun s _ => ⟨0, rfl, Nat.le_refl _⟩⟩, by decide +kernel⟩
theorem rc_z : RC stZ gxZ 0 0 := by
  refine ⟨⟨cls_z, ⟨by decide, by decide +kernel, fun k hk => absurd hk (Nat.not_lt_zero k)⟩, ⟨by decide +kernel, by decide, fun k hk => absurd hk (Nat.not_lt_zero k)⟩, fun k hk => ⟨⟨fun h => absurd (im_z k hk) h, fun h => h.elim⟩, fun h => h.elim⟩, ⟨by decide +kernel, by decide, fun k hk => absurd hk (Nat.not_lt_zero k)⟩⟩, cch_z⟩
theorem rel_z : Rel 0 stZ := ⟨gxZ, 0, 0, 0, rc_z, rm_z, ⟨ok_z, fun k hk => absurd hk (Nat.not_lt_zero k), fun k _ h => h.elim⟩, Nat.le_refl _, Nat.le_refl _, Nat.le_refl _⟩
