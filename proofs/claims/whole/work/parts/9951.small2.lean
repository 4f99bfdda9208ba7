-- put, wall, sound, pain
theorem whoM_no {P : Nat → Nat} {B c : Nat} (h : whoM P B c = -1) (hB : B ≤ 3) : ∀ b, b < B → P b ≠ c := by
  intro b hb e
  unfold whoM at h
  by_cases q0 : 0 < B ∧ P 0 = c
  · rw [if_pos q0] at h; exact absurd h (by decide)
  rw [if_neg q0] at h
  by_cases q1 : 1 < B ∧ P 1 = c
  · rw [if_pos q1] at h; exact absurd h (by decide)
  rw [if_neg q1] at h
  by_cases q2 : 2 < B ∧ P 2 = c
  · rw [if_pos q2] at h; exact absurd h (by decide)
  rcases (show b = 0 ∨ b = 1 ∨ b = 2 by omega) with rfl | rfl | rfl
  · exact q0 ⟨hb, e⟩
  · exact q1 ⟨hb, e⟩
  · exact q2 ⟨hb, e⟩
section
variable {g : Gx} {σ : St} {d : Dat} {nr : Nat} {Ru : Nat → RuleT}
def putOk (d : Dat) (b u v : Nat) : Prop := b < vB d ∧ (u < vC d ∧ v < vR d) ∧ vK d (6 * v + u) = 0 ∧ whoM (vP d) (vB d) (6 * v + u) = -1
theorem okD_put {b u v : Nat} (ho : OkD nr d) (h : putOk d b u v) : OkD nr (dP d (upP (vP d) b (6 * v + u))) := by
  obtain ⟨o1, o2, o3, o4, o5⟩ := id ho
  obtain ⟨hb, ⟨hu, hv⟩, hk, hw⟩ := h
  have hB := o1.2.2.1
  have hC := o1.1
  have hR := o1.2.1
  refine ⟨o1, o2, ⟨⟨fun i hi => ?_, fun i => ?_⟩, fun i => ?_⟩, ?_, o5⟩
  · show upP (vP d) b (6 * v + u) i = 36
    have hi : vB d ≤ i := hi
    rw [upP_ne (by omega)]; exact o3.1.1 i hi
  · show upP (vP d) b (6 * v + u) i < 38 ∧ (upP (vP d) b (6 * v + u) i < 36 → upP (vP d) b (6 * v + u) i % 6 < vC d ∧ upP (vP d) b (6 * v + u) i / 6 < vR d)
    by_cases e : i = b
    · subst e
      rw [upP_same]
      refine ⟨by omega, fun _ => ?_⟩
      omega
    · rw [upP_ne e]
      exact o3.1.2 i
  · show upP (vP d) b (6 * v + u) i < 36 → vK d (upP (vP d) b (6 * v + u) i) = 0
    by_cases e : i = b
    · subst e
      rw [upP_same]
      exact fun _ => hk
    · rw [upP_ne e]
      exact o3.2 i
  · intro i j hi hj hij
    show upP (vP d) b (6 * v + u) i < 36 → upP (vP d) b (6 * v + u) i ≠ upP (vP d) b (6 * v + u) j
    by_cases e : i = b
    · subst e
      rw [upP_same, upP_ne (fun z => hij z.symm)]
      intro _ z
      by_cases hjB : j < vB d
      · exact whoM_no hw hB j hjB z.symm
      · have := o3.1.1 j (by omega)
        omega
    · by_cases e2 : j = b
      · subst e2
        rw [upP_ne e, upP_same]
        intro h36 z
        by_cases hiB : i < vB d
        · exact whoM_no hw hB i hiB z
        · have := o3.1.1 i (by omega)
          omega
      · rw [upP_ne e, upP_ne e2]
        exact o4 i j hi hj hij
theorem kB_put {Q : Int32 → St → Prop} {x y z : Int32} (hs : ClsS 83 σ d) (ho : OkD nr d) (h0 : (∀ b u v, putOk d b u v → x = nI b → y = nI u → z = nI v → False) → Q 0 σ) (h1 : ∀ b u v, putOk d b u v → x = nI b → y = nI u → z = nI v → ∀ τ, fr [(0, 14), (83, 5)] [] σ τ → fi τ 0 14 = fi σ 0 14 + 1 → ClsS 83 τ (dP d (upP (vP d) b (6 * v + u))) → Q 1 τ) : K_BB_put g x y z σ Q := by
  have hB := ho.1.2.2.1
  have hC := ho.1.1
  have hR := ho.1.2.1
  have e4 : fi σ 83 4 = nI (vB d) := hs.2.1.1.2.2
  have neg : x < 0 → ∀ b u v, putOk d b u v → x = nI b → y = nI u → z = nI v → False := fun q b u v hp e _ _ => rg_neg q (n := b) (by have := hp.1; omega) e
  have big : fi σ 83 4 ≤ x → ∀ b u v, putOk d b u v → x = nI b → y = nI u → z = nI v → False := fun q b u v hp e _ _ => by
    rw [e, e4] at q
    exact absurd q (nI_ge hp.1 (by omega))
  refine ko_BB_put (sg_BB_put_0 (k_SA_spotOf (fun u v hu hv eu ev => ?_) (fun hn => ?_)))
  · refine ⟨fun q => h0 (neg q), fun q => ⟨fun q2 => h0 (big q2), fun q2 => ?_⟩⟩
    obtain ⟨b, hb31, rfl⟩ := nI_of q
    have hb : b < vB d := Nat.not_le.mp (fun w => q2 (by rw [e4]; exact nI_le w hb31))
    subst eu ev
    have esp : 8 * v + u + 9 = spc (6 * v + u) := by unfold spc; omega
    rw [esp]
    refine k_SA_bare (P := vP d) sa_83 hs.2.1 hs.2.2.1 ho.2.1 (fun i _ => (ho.2.2.1.1.2 i).1) (by omega) ?_
    have em : (6 * v + u) % 6 = u := by omega
    have ed : (6 * v + u) / 6 = v := by omega
    rw [em, ed]
    by_cases ok : (u < vC d ∧ v < vR d) ∧ vK d (6 * v + u) = 0 ∧ whoM (vP d) (vB d) (6 * v + u) = -1
    · rw [if_pos ok]
      refine ⟨fun _ => ?_, fun w => absurd w (by decide)⟩
      rw [hs.2.2.1]
      refine k_SA_laid (by omega) (spc_lt (by omega)) ?_
      have el : lay (sitP (vP d) (vB d)) b (spc (6 * v + u)) = sitP (upP (vP d) b (6 * v + u)) (vB d) := by
        rw [← lay_sitP hB hb, enc_c (by omega)]
      rw [el]
      rintro s7 rfl s8 e8
      have f8 : fr [(0, 14), (83, 5)] [] σ s8 := by
        rw [e8]; exact (fr_sfi (by decide)).tr (fr_sfi (by decide))
      refine h1 b u v ⟨hb, ok⟩ rfl rfl rfl s8 f8 ?_ ?_
      · rw [e8]; rfl
      · obtain ⟨s1, s2, s3, s4, s5, s6, s7, s8', s9, s10⟩ := hs
        refine ⟨?_, s2.fr f8 (by decide) (by decide) (by decide) (by decide) (by decide), by rw [e8]; rfl, ?_, ?_, fun k hk => ?_, ?_, fun k hk => ?_, ?_, ?_⟩
        · rw [(f8.1 83 1 (by decide)).1]; exact s1
        · rw [(f8.1 83 6 (by decide)).1]; exact s4
        · rw [(f8.1 83 7 (by decide)).1]; exact s5
        · rw [(f8.2 86 (by decide)).1]; exact s6 k hk
        · rw [(f8.1 83 8 (by decide)).1]; exact s7
        · rw [(f8.2 87 (by decide)).1]; exact s8' k hk
        · rw [(f8.1 83 9 (by decide)).1]; exact s9
        · rw [(f8.1 83 10 (by decide)).1]; exact s10
    · rw [if_neg ok]
      refine ⟨fun w => absurd rfl w, fun _ => h0 (fun b' u' v' hp eb eu ev => ok ?_)⟩
      have hp' := hp.2.1
      have e1 := (nI_eq (by omega) (by omega)).mp eu
      have e2 := (nI_eq (by omega) (by omega)).mp ev
      subst e1 e2
      exact hp.2
  · refine ⟨fun q => h0 (neg q), fun q => ⟨fun q2 => h0 (big q2), fun q2 => ?_⟩⟩
    refine k_SA_bare_out sa_83 ⟨fun w => absurd rfl w, fun _ => h0 (fun b u v hp _ eu ev => hn u v ?_ ?_ eu ev)⟩
    · have := hp.2.1; omega
    · have := hp.2.1; omega
theorem kM_put {Q : Int32 → St → Prop} {x y z : Int32} (hs : CurM σ d) (ho : OkD nr d) (h0 : (∀ b u v, putOk d b u v → x = nI b → y = nI u → z = nI v → False) → Q 0 σ) (h1 : ∀ b u v, putOk d b u v → x = nI b → y = nI u → z = nI v → ∀ τ, fr [] [154] σ τ → CurM τ (dP d (upP (vP d) b (6 * v + u))) → Q 1 τ) : K_BM_put g x y z σ Q := by
  have hB := ho.1.2.2.1
  have hC := ho.1.1
  have hR := ho.1.2.1
  have no : (∀ b u v, putOk d b u v → x = nI b → y = nI u → z = nI v → False) → S_BM_put_35 g Q σ x y z 0 := fun hn => sg_BM_put_35 ⟨fun _ => ⟨Or.inl rfl, h0 hn⟩, fun w => absurd rfl w⟩
  refine ko_BM_put (sg_BM_put_0 (kM_isBall hs ho (fun b hb eb => ⟨fun w => absurd w (by decide), fun _ => ?_⟩) (fun q => ⟨fun _ => no (fun b u v hp e _ _ => q b hp.1 e), fun w => absurd rfl w⟩)))
  refine kM_isCell hs ho (fun u v hu hv eu ev => ⟨fun w => absurd w (by decide), fun _ => ?_⟩) (fun q => ⟨fun _ => no (fun b u v hp _ eu ev => q u v hp.2.1.1 hp.2.1.2 eu ev), fun w => absurd rfl w⟩)
  subst eb eu ev
  have e6 : (6 : Int32) * nI v + nI u = nI (6 * v + u) := by
    show nI 6 * nI v + nI u = _
    rw [pk_mul, nI_add]
  rw [e6]
  refine kM_free hs ho (by omega) ?_
  have em : (6 * v + u) % 6 = u := by omega
  have ed : (6 * v + u) / 6 = v := by omega
  rw [em, ed]
  by_cases ok : (u < vC d ∧ v < vR d) ∧ vK d (6 * v + u) = 0 ∧ whoM (vP d) (vB d) (6 * v + u) = -1
  · rw [if_pos ok]
    refine ⟨fun w => absurd w (by decide), fun _ => sg_BM_put_35 ⟨fun w => absurd w (by decide), fun _ => ⟨vp_in_nI (by omega) (by decide), ?_⟩⟩⟩
    rintro s1 e1
    rw [e6, nI_clamp (by omega)] at e1
    have f1 : fr [] [154] σ s1 := by rw [e1]; exact fr_sai (by decide)
    refine ⟨Or.inr rfl, h1 b u v ⟨hb, ok⟩ rfl rfl rfl s1 f1 ?_⟩
    obtain ⟨a1, a2, a3, a4, a5⟩ := hs
    refine ⟨?_, ?_, fun i hi => ?_, ?_, ?_⟩
    · rw [(f1.2 152 (by decide)).1]; exact a1
    · rw [(f1.2 153 (by decide)).1]; exact a2
    · show ai s1 154 i = nI (upP (vP d) b (6 * v + u) i)
      rw [e1, ai_sai]
      by_cases e : i = b
      · rw [if_pos ⟨rfl, e⟩, e, upP_same]
      · rw [if_neg (fun w => e w.2), upP_ne e]; exact a3 i hi
    · rw [(f1.2 155 (by decide)).1]; exact a4
    · rw [(f1.2 156 (by decide)).1, (f1.2 157 (by decide)).1, (f1.2 158 (by decide)).1]; exact a5
  · rw [if_neg ok]
    refine ⟨fun _ => no (fun b' u' v' hp eb eu ev => ok ?_), fun w => absurd rfl w⟩
    have hp' := hp.2.1
    have e1 := (nI_eq (by omega) (by omega)).mp eu
    have e2 := (nI_eq (by omega) (by omega)).mp ev
    subst e1 e2
    exact hp.2
-- wall
def walOk (d : Dat) (e : Int32) (u v : Nat) : Prop := (u < vC d ∧ v < vR d) ∧ (e = 0 → vK d (6 * v + u) = 1) ∧ (¬ e = 0 → vK d (6 * v + u) = 0 ∧ whoM (vP d) (vB d) (6 * v + u) = -1)
def walK (d : Dat) (e : Int32) (u v : Nat) : Nat → Nat := upP (vK d) (6 * v + u) (if e = 0 then 0 else 1)
theorem okD_wall {e : Int32} {u v : Nat} (ho : OkD nr d) (h : walOk d e u v) : OkD nr (dK d (walK d e u v)) := by
  obtain ⟨o1, o2, o3, o4⟩ := id ho
  refine ⟨o1, fun c hc => ?_, ⟨o3.1, fun i hi => ?_⟩, o4⟩
  · show walK d e u v c ≤ 4
    unfold walK upP
    split
    · split <;> omega
    · exact o2 c hc
  · show walK d e u v (vP d i) = 0
    have hi : vP d i < 36 := hi
    unfold walK
    by_cases q : vP d i = 6 * v + u
    · rw [q, upP_same]
      by_cases e0 : e = 0
      · rw [if_pos e0]
      · exfalso
        refine whoM_no (h.2.2 e0).2 o1.2.2.1 i (Nat.not_le.mp (fun w => ?_)) q
        have := o3.1.1 i w
        omega
    · rw [upP_ne q]; exact o3.2 i hi
theorem kB_wall {Q : Int32 → St → Prop} {x y e : Int32} (hs : ClsS 83 σ d) (ho : OkD nr d) (h0 : (∀ u v, walOk d e u v → x = nI u → y = nI v → False) → Q 0 σ) (h1 : ∀ u v, walOk d e u v → x = nI u → y = nI v → ∀ τ, fr [(0, 14)] [84] σ τ → fi τ 0 14 = fi σ 0 14 + 1 → ClsS 83 τ (dK d (walK d e u v)) → Q 1 τ) : K_BB_wall g x y e σ Q := by
  have hB := ho.1.2.2.1
  have hC := ho.1.1
  have hR := ho.1.2.1
  have no : ∀ sp, (∀ u v, walOk d e u v → x = nI u → y = nI v → False) → S_BB_wall_41 g Q σ e sp 0 := fun sp hn => sg_BB_wall_41 ⟨fun w => absurd rfl w, fun _ => h0 hn⟩
  refine ko_BB_wall (sg_BB_wall_0 (k_SA_spotOf (fun u v hu hv eu ev => ?_) (fun hn => ?_)))
  · subst eu ev
    have esp : 8 * v + u + 9 = spc (6 * v + u) := by unfold spc; omega
    rw [esp]
    have em : (6 * v + u) % 6 = u := by omega
    have ed : (6 * v + u) / 6 = v := by omega
    have uq : ∀ u' v', walOk d e u' v' → nI u = nI u' → nI v = nI v' → walOk d e u v := by
      intro u' v' hw eu ev
      have hp' := hw.1
      have e1 := (nI_eq (by omega) (by omega)).mp eu
      have e2 := (nI_eq (by omega) (by omega)).mp ev
      subst e1 e2
      exact hw
    have c64 : spc (6 * v + u) < 64 := spc_lt (by omega)
    have yes : walOk d e u v → S_BB_wall_41 g Q σ e (nI (spc (6 * v + u))) 1 := by
      intro ok
      have fin : ∀ k s, k ≤ 1 → k = (if e = 0 then 0 else 1) → s = sfi (sai σ 84 (spc (6 * v + u)) (nI k)) 0 14 (fi σ 0 14 + 1) → Q 1 s := by
        intro k s hk ek es
        have f8 : fr [(0, 14)] [84] σ s := by rw [es]; exact (fr_sai (by decide)).tr (fr_sfi (by decide))
        refine h1 u v ok rfl rfl s f8 (by rw [es]; rfl) ?_
        obtain ⟨s1, s2, s3, s4, s5, s6, s7, s8', s9, s10⟩ := hs
        have b1 : ClsB 83 (sai σ 84 (spc (6 * v + u)) (nI k)) (vC d) (vR d) (vB d) (upP (vK d) (6 * v + u) k) := clsB_set s2 (by rw [em]; exact ok.1.1) (by rw [ed]; exact ok.1.2) (by
          by_cases e0 : e = 0
          · rw [ok.2.1 e0]; omega
          · rw [(ok.2.2 e0).1]; omega) hk
        have b2 : ClsB 83 s (vC d) (vR d) (vB d) (upP (vK d) (6 * v + u) k) := by
          rw [es]
          exact b1.fr (F := [(0, 14)]) (L := []) (fr_sfi (by decide)) (by decide) (by decide) (by decide) (by decide) (by decide)
        refine ⟨?_, ?_, ?_, ?_, ?_, fun k hk => ?_, ?_, fun k hk => ?_, ?_, ?_⟩
        · rw [(f8.1 83 1 (by decide)).1]; exact s1
        · show ClsB 83 s (vC d) (vR d) (vB d) (walK d e u v)
          unfold walK; rw [← ek]; exact b2
        · rw [(f8.1 83 5 (by decide)).1]; exact s3
        · rw [(f8.1 83 6 (by decide)).1]; exact s4
        · rw [(f8.1 83 7 (by decide)).1]; exact s5
        · rw [(f8.2 86 (by decide)).1]; exact s6 k hk
        · rw [(f8.1 83 8 (by decide)).1]; exact s7
        · rw [(f8.2 87 (by decide)).1]; exact s8' k hk
        · rw [(f8.1 83 9 (by decide)).1]; exact s9
        · rw [(f8.1 83 10 (by decide)).1]; exact s10
      refine sg_BB_wall_41 ⟨fun _ => ⟨fun e0 => ?_, fun e0 => ?_⟩, fun w => absurd w (by decide)⟩
      · refine ko_SA_makeKind (sg_SA_makeKind_0 sa_83 ⟨fun w => absurd w (nI_pos (by omega)), fun _ => ⟨fun _ => ⟨vp_in_nI c64 (by decide), ?_⟩, fun w => absurd (nI_lt (b := 64) c64 (by decide)) w⟩⟩)
        rintro s1 e1
        refine ⟨fun _ => ?_, fun w => absurd (by decide) w⟩
        rintro s2 e2
        rw [nI_clamp (by omega)] at e1
        refine fin 0 s2 (by decide) (by rw [if_pos e0]) ?_
        rw [e2, e1]; rfl
      · refine ko_SA_makeKind (sg_SA_makeKind_0 sa_83 ⟨fun w => absurd w (nI_pos (by omega)), fun _ => ⟨fun _ => ⟨vp_in_nI c64 (by decide), ?_⟩, fun w => absurd (nI_lt (b := 64) c64 (by decide)) w⟩⟩)
        rintro s1 e1
        refine ⟨fun _ => ?_, fun w => absurd (by decide) w⟩
        rintro s2 e2
        rw [nI_clamp (by omega)] at e1
        refine fin 1 s2 (by decide) (by rw [if_neg e0]) ?_
        rw [e2, e1]; rfl
    refine ⟨fun e0 => ?_, fun e0 => ?_⟩
    · refine k_SA_kindAt sa_83 c64 ?_
      rw [gr_kind hs.2.1.2.2.1 (by omega), em, ed]
      by_cases ins : u < vC d ∧ v < vR d
      · rw [if_pos ins, (n_kind (ho.2.1 _ (by omega))).2.1]
        exact ⟨fun w => no _ (fun u' v' hw eu ev => w ((uq u' v' hw eu ev).2.1 e0)), fun w => yes ⟨ins, fun _ => w, fun z => absurd e0 z⟩⟩
      · rw [if_neg ins]
        exact ⟨fun _ => no _ (fun u' v' hw eu ev => ins (uq u' v' hw eu ev).1), fun w => absurd w (by decide)⟩
    · refine k_SA_bare (P := vP d) sa_83 hs.2.1 hs.2.2.1 ho.2.1 (fun i _ => (ho.2.2.1.1.2 i).1) (by omega) ?_
      rw [em, ed]
      by_cases ok : (u < vC d ∧ v < vR d) ∧ vK d (6 * v + u) = 0 ∧ whoM (vP d) (vB d) (6 * v + u) = -1
      · rw [if_pos ok]; exact yes ⟨ok.1, fun z => absurd z e0, fun _ => ok.2⟩
      · rw [if_neg ok]; exact no _ (fun u' v' hw eu ev => ok ⟨(uq u' v' hw eu ev).1, (uq u' v' hw eu ev).2.2 e0⟩)
  · have ne : ∀ u v, walOk d e u v → x = nI u → y = nI v → False := fun u v hw eu ev => hn u v (by have := hw.1; omega) (by have := hw.1; omega) eu ev
    exact ⟨fun _ => k_SA_kindAt_out sa_83 ⟨fun _ => no _ ne, fun w => absurd w (by decide)⟩, fun _ => k_SA_bare_out sa_83 (no _ ne)⟩
theorem kM_wall {Q : Int32 → St → Prop} {x y e : Int32} (hs : CurM σ d) (ho : OkD nr d) (h0 : (∀ u v, walOk d e u v → x = nI u → y = nI v → False) → Q 0 σ) (h1 : ∀ u v, walOk d e u v → x = nI u → y = nI v → ∀ τ, fr [] [153] σ τ → CurM τ (dK d (walK d e u v)) → Q 1 τ) : K_BM_wall g x y e σ Q := by
  have hC := ho.1.1
  have hR := ho.1.2.1
  have no : ∀ c, (∀ u v, walOk d e u v → x = nI u → y = nI v → False) → S_BM_wall_49 g Q σ e c 0 := fun c hn => sg_BM_wall_49 ⟨fun _ => ⟨Or.inl rfl, h0 hn⟩, fun w => absurd rfl w⟩
  refine ko_BM_wall (sg_BM_wall_0 ?_)
  rintro c rfl
  refine kM_isCell hs ho (fun u v hu hv eu ev => ⟨fun w => absurd w (by decide), fun _ => ?_⟩) (fun q => ⟨fun _ => no _ (fun u v hp eu ev => q u v hp.1.1 hp.1.2 eu ev), fun w => absurd rfl w⟩)
  subst eu ev
  have e6 : (6 : Int32) * nI v + nI u = nI (6 * v + u) := by
    show nI 6 * nI v + nI u = _
    rw [pk_mul, nI_add]
  rw [e6]
  have em : (6 * v + u) % 6 = u := by omega
  have ed : (6 * v + u) / 6 = v := by omega
  have uq : ∀ u' v', walOk d e u' v' → nI u = nI u' → nI v = nI v' → walOk d e u v := by
    intro u' v' hw eu ev
    have hp' := hw.1
    have e1 := (nI_eq (by omega) (by omega)).mp eu
    have e2 := (nI_eq (by omega) (by omega)).mp ev
    subst e1 e2
    exact hw
  have yes : walOk d e u v → S_BM_wall_49 g Q σ e (nI (6 * v + u)) 1 := by
    intro ok
    have fin : ∀ k s, k = (if e = 0 then 0 else 1) → s = sai σ 153 (6 * v + u) (nI k) → Q 1 s := by
      intro k s ek es
      have f1 : fr [] [153] σ s := by rw [es]; exact fr_sai (by decide)
      refine h1 u v ok rfl rfl s f1 ?_
      obtain ⟨a1, a2, a3, a4, a5⟩ := hs
      refine ⟨?_, fun c hc => ?_, ?_, ?_, ?_⟩
      · rw [(f1.2 152 (by decide)).1]; exact a1
      · show ai s 153 c = nI (walK d e u v c)
        unfold walK
        rw [← ek, es, ai_sai]
        by_cases q : c = 6 * v + u
        · rw [if_pos ⟨rfl, q⟩, q, upP_same]
        · rw [if_neg (fun w => q w.2), upP_ne q]; exact a2 c hc
      · rw [(f1.2 154 (by decide)).1]; exact a3
      · rw [(f1.2 155 (by decide)).1]; exact a4
      · rw [(f1.2 156 (by decide)).1, (f1.2 157 (by decide)).1, (f1.2 158 (by decide)).1]; exact a5
    refine sg_BM_wall_49 ⟨fun w => absurd w (by decide), fun _ => ⟨fun e0 => ⟨vp_in_nI (by omega) (by decide), ?_⟩, fun e0 => ⟨vp_in_nI (by omega) (by decide), ?_⟩⟩⟩
    · rintro s e1
      rw [nI_clamp (by omega)] at e1
      exact ⟨Or.inr rfl, fin 0 s (by rw [if_pos e0]) e1⟩
    · rintro s e1
      rw [nI_clamp (by omega)] at e1
      exact ⟨Or.inr rfl, fin 1 s (by rw [if_neg e0]) e1⟩
  refine ⟨fun e0 => ⟨vp_in_nI (by omega) (by decide), ?_⟩, fun e0 => ?_⟩
  · rw [nI_clamp (by omega), hs.2.1 _ (by omega), (n_kind (ho.2.1 _ (by omega))).2.1]
    exact ⟨fun w => no _ (fun u' v' hw eu ev => w ((uq u' v' hw eu ev).2.1 e0)), fun w => yes ⟨⟨hu, hv⟩, fun _ => w, fun z => absurd e0 z⟩⟩
  · refine kM_free hs ho (by omega) ?_
    rw [em, ed]
    by_cases ok : (u < vC d ∧ v < vR d) ∧ vK d (6 * v + u) = 0 ∧ whoM (vP d) (vB d) (6 * v + u) = -1
    · rw [if_pos ok]; exact ⟨fun w => absurd w (by decide), fun _ => yes ⟨ok.1, fun z => absurd z e0, fun _ => ok.2⟩⟩
    · rw [if_neg ok]; exact ⟨fun _ => no _ (fun u' v' hw eu ev => ok ⟨(uq u' v' hw eu ev).1, (uq u' v' hw eu ev).2.2 e0⟩), fun w => absurd rfl w⟩
end
