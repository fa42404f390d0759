/-! The reference's part in each call, the rest. -/
theorem y_run_ck {r : q_R} {σ : dx_V} {v : Int32} (h : y_run r σ) : y_run (q_sCk r v) (dx_u σ 0 30 v) := by
  obtain ⟨h1, h2, h3, h4, h5, h6, h7, h8, h9, h10, h11⟩ := h
  exact ⟨by rw [dx_us]; rfl, by rw [dx_uk (by decide)]; exact h2, by rw [dx_uk (by decide)]; exact h3, fun q => by rw [dx_uk (by decide)]; exact h4 q, h5, h6, h7, ⟨by rw [dx_uk (by decide)]; exact h8.1, h8.2⟩, ⟨by rw [dx_uk (by decide)]; exact h9.1, h9.2⟩, ⟨by rw [dx_uk (by decide)]; exact h10.1, h10.2⟩, ⟨by rw [dx_uk (by decide)]; exact h11.1, h11.2⟩⟩
section MCM
variable {E : dx_E} {d : Nat} {po : dx_P} {c : q_C} {r : q_R} {σ : dx_V}
theorem t_action {w o a b : Int32} (H : mm c r σ) (hp : ∀ σ', mm (cl_action c r w o a b).2.1 (cl_action c r w o a b).2.2 σ' → po (some (cl_action c r w o a b).1) σ') : m_MM_action E (d + 1) w o a b σ po := by
  have ok := H.1
  have h15 := ok.1
  have h20 := ok.2.1
  have h32 := ok.2.2.1
  have T := H.2.1
  have T2 := H.2.2.1
  have T3 := H.2.2.2.1
  unfold cl_action at hp
  have bad : ¬ (q_out r = 0 ∧ q_own c w ∧ q_mayD o a b ∧ q_na c ≠ 32) → po (some 0) σ := fun z => by
    rw [q_if_f z] at hp; exact hp σ H
  have g132 : ∀ w5 w0 : Int32, w5 = q_z (q_own c w) → (0 ≤ o.toInt → o.toInt ≤ 3 → w0 = q_z (q_mayD o a b)) → g_MM_action_132 E (d + 1) po w o a b w5 w0 σ := by
    intro w5 w0 h5 h0
    refine r_MM_action_132 ?_
    have e32 : σ 0 12 = 32 ↔ q_na c = 32 := by rw [T3.1, i_eq, i_n (by omega), i_32]; omega
    rw [mm_0 H, h5, e32]
    simp only [i_lt, i_0, i_3]
    refine ⟨fun q => bad (fun z => q z.1), fun q => q_zb (fun q2 => bad (fun z => q2 z.2.1)) (fun q2 => ⟨fun q3 => bad (fun z => by have := z.2.2.1; unfold q_mayD at this; omega), fun q3 => ⟨fun q4 => bad (fun z => by have := z.2.2.1; unfold q_mayD at this; omega), fun q4 => ?_⟩⟩)⟩
    rw [h0 (by omega) (by omega)]
    refine q_zb (fun q5 => bad (fun z => q5 z.2.2.1)) (fun q5 => ⟨fun q6 => ?_, fun q6 => bad (fun z => z.2.2.2 q6)⟩)
    rw [q_if_t ⟨q, q2, q5, q6⟩] at hp
    obtain ⟨g1, g2⟩ := i_ix (x := o) (by omega)
    have ha : o.toNatClampNeg ≤ 1 → ∃ v, v ≤ 3 ∧ a = nI v := by
      intro z
      have ha : 0 ≤ a.toInt ∧ a.toInt ≤ 3 := by unfold q_mayD at q5; omega
      obtain ⟨g3, g4⟩ := i_ix (x := a) (by omega)
      exact ⟨_, by omega, g3⟩
    generalize o.toNatClampNeg = on at g1 g2 hp ha
    subst g1
    have in1 : vp_in (nI (q_na c)) 32 := i_in (by omega) (by omega)
    rw [T3.1, i_cl (n := q_na c) (by omega), i_inc]
    refine ⟨in1, in1, in1, in1, hp _ ⟨ok_addA ok (by omega) (by omega) ha, T, T2, ⟨rfl, fun i hi => ?_⟩, H.2.2.2.2.1, H.2.2.2.2.2.1, fun z => absurd q z⟩⟩
    have hi : i < q_na c + 1 := hi
    show dx_u _ 11 _ _ 11 i = (if i = q_na c then w else q_ow c i) ∧ dx_u _ 12 _ _ 12 i = nI (if i = q_na c then on else q_op c i) ∧ dx_u _ 13 _ _ 13 i = (if i = q_na c then a else q_a c i) ∧ dx_u _ 14 _ _ 14 i = (if i = q_na c then b else q_b c i)
    by_cases ei : i = q_na c
    · subst ei
      rw [if_pos rfl, if_pos rfl, if_pos rfl, if_pos rfl, dx_us, dx_us, dx_us, dx_us]
      exact ⟨rfl, rfl, rfl, rfl⟩
    · rw [if_neg ei, if_neg ei, if_neg ei, if_neg ei, dx_uk ei, dx_uk ei, dx_uk ei, dx_uk ei]
      exact T3.2 i (by omega)
  have g67 : ∀ w5 : Int32, w5 = q_z (q_own c w) → g_MM_action_67 E (d + 1) po w o a b w5 σ := by
    intro w5 h5
    have e0 : o = 0 ↔ o.toInt = 0 := by rw [i_eq, i_0]
    have e1 : o = 1 ↔ o.toInt = 1 := by rw [i_eq, i_1]
    have e2 : o = 2 ↔ o.toInt = 2 := by rw [i_eq, i_2]
    have eb : b = 0 ↔ b.toInt = 0 := by rw [i_eq, i_0]
    have g78 : (o.toInt = 0 ∨ o.toInt = 1) → g_MM_action_78 E (d + 1) po w o a b w5 σ := by
      intro z
      refine r_MM_action_78 ?_
      simp only [i_lt, i_0, i_3]
      exact ⟨fun y => r_MM_action_91 (g132 w5 0 h5 (fun _ _ => (q_z_f (fun x => by unfold q_mayD at x; omega)).symm)), fun y => ⟨fun y2 => r_MM_action_91 (g132 w5 0 h5 (fun _ _ => (q_z_f (fun x => by unfold q_mayD at x; omega)).symm)), fun y2 => g132 w5 1 h5 (fun _ _ => (q_z_t (by unfold q_mayD; omega)).symm)⟩⟩
    have no : (o.toInt ≠ 0 ∧ o.toInt ≠ 1 ∧ (a.toInt < 1 ∨ 20 < a.toInt ∨ b.toInt < 0 ∨ (o.toInt = 2 ∧ 0 < b.toInt) ∨ (o.toInt ≠ 2 ∧ 50 < b.toInt))) → g_MM_action_132 E (d + 1) po w o a b w5 0 σ := fun z => g132 w5 0 h5 (fun _ _ => (q_z_f (fun x => by unfold q_mayD at x; rw [eb] at x; omega)).symm)
    have yes : (1 ≤ a.toInt ∧ a.toInt ≤ 20 ∧ 0 ≤ b.toInt ∧ ((o.toInt = 2 ∧ b.toInt ≤ 0) ∨ (o.toInt ≠ 0 ∧ o.toInt ≠ 1 ∧ o.toInt ≠ 2 ∧ b.toInt ≤ 50))) → g_MM_action_132 E (d + 1) po w o a b w5 1 σ := fun z => g132 w5 1 h5 (fun _ _ => (q_z_t (by unfold q_mayD; rw [eb]; omega)).symm)
    refine r_MM_action_67 ?_
    rw [e0, e1, e2]
    simp only [i_lt, i_0, i_1, i_20]
    refine ⟨fun q => g78 (Or.inl q), fun q => ⟨fun q2 => ⟨fun q3 => no (by omega), fun q3 => ⟨fun q4 => no (by omega), fun q4 => ⟨fun q5 => no (by omega), fun q5 => ⟨fun q6 => r_MM_action_124 ?_, fun q6 => r_MM_action_124 ?_⟩⟩⟩⟩, fun q2 => g78 (Or.inr q2)⟩⟩
    · simp only [i_lt, i_50]
      exact ⟨fun y => no (by omega), fun y => yes (by omega)⟩
    · simp only [i_lt, i_0]
      exact ⟨fun y => no (by omega), fun y => yes (by omega)⟩
  have g62 : q_own c w → g_MM_action_62 E (d + 1) po w o a b σ := fun z => r_MM_action_62 (g67 1 (q_z_t z).symm)
  have g36 : ¬ (0 ≤ w.toInt ∧ w.toInt < q_nt c) → ¬ (∃ s : Nat, w.toInt = 100 + s ∧ q_st c s) → g_MM_action_36 E (d + 1) po w o a b σ := by
    intro n1 n2
    have no : (¬ ∃ s : Nat, w.toInt = 200 + s ∧ q_st c s) → g_MM_action_67 E (d + 1) po w o a b 0 σ := fun n3 => g67 0 (q_z_f (fun z => z.elim n1 (fun z => z.elim n2 n3))).symm
    refine r_MM_action_36 ?_
    simp only [i_le, i_200, i_300]
    refine ⟨fun q => no ?_, fun q => ⟨fun q2 => no ?_, fun q2 => dx_ci1 _ _ (fun po hp => t_is ok T hp) (q_zb (fun q3 => no ?_) (fun q3 => g62 (Or.inr (Or.inr ?_))))⟩⟩
    · rintro ⟨s, y1, y2⟩; have := y2.1; omega
    · rintro ⟨s, y1, y2⟩; have := y2.2.1; omega
    · rintro ⟨s, y1, y2⟩; have := y2.2.1; exact q3 ⟨s, (i_sub200 (by omega)).mpr y1, y2⟩
    · obtain ⟨s, y1, y2⟩ := q3; have := y2.2.1; exact ⟨s, (i_sub200 (by omega)).mp y1, y2⟩
  have g12 : ¬ (0 ≤ w.toInt ∧ w.toInt < q_nt c) → g_MM_action_12 E (d + 1) po w o a b σ := by
    intro n1
    refine r_MM_action_12 ?_
    simp only [i_le, i_100, i_200]
    refine ⟨fun q => g36 n1 ?_, fun q => ⟨fun q2 => g36 n1 ?_, fun q2 => dx_ci1 _ _ (fun po hp => t_is ok T hp) (q_zc (fun q3 => g62 (Or.inr (Or.inl ?_))) (fun q3 => g36 n1 ?_))⟩⟩
    · rintro ⟨s, y1, y2⟩; have := y2.1; omega
    · rintro ⟨s, y1, y2⟩; have := y2.2.1; omega
    · obtain ⟨s, y1, y2⟩ := q3; have := y2.2.1; exact ⟨s, (i_sub100 (by omega)).mp y1, y2⟩
    · rintro ⟨s, y1, y2⟩; have := y2.2.1; exact q3 ⟨s, (i_sub100 (by omega)).mpr y1, y2⟩
  refine r_MM_action ?_
  rw [T2.1]
  simp only [i_lt, i_0, i_n (show q_nt c ≤ 100000 by omega)]
  exact ⟨fun q => g12 (by omega), fun q => ⟨fun q2 => g62 (Or.inl (by omega)), fun q2 => g12 (by omega)⟩⟩
theorem t_b49 (H : mm c r σ) (ho : q_out r = 0) (hw : q_whole c) (hp : ∀ σ' : dx_V, y_run (q_begin c) σ' → y_fr y_Z y_T σ σ' → po (some (nI (q_mi (q_begin c)))) σ') : ∀ (f i : Nat) (τ : dx_V), f + i = 4 → y_fr y_Z y_T σ τ → (∀ x, x < 16 → τ 15 x = 0 ∧ τ 16 x = 0) → (∀ x, x < i → τ 17 x = 0) → g_MM_begin_49 E (d + 8) po (nI i) τ := by
  have ok := H.1
  intro f
  induction f with
  | zero =>
    intro i τ hi fr h1 h2
    refine r_MM_begin_49 ?_
    simp only [i_le, i_4, i_n (show i ≤ 100000 by omega)]
    refine ⟨fun _ => ?_, fun q => absurd (by omega) q⟩
    generalize h8 : dx_u (dx_u (dx_u (dx_u (dx_u (dx_u (dx_u (dx_u τ 0 23 0) 0 25 0) 0 27 0) 0 30 0) 0 31 0) 0 19 0) 0 18 0) 0 17 1 = τ8
    have fr8 : y_fr y_Z y_T σ τ8 := by
      rw [← h8]
      exact y_fr_s (y_fr_s (y_fr_s (y_fr_s (y_fr_s (y_fr_s (y_fr_s (y_fr_s fr (by decide)) (by decide)) (by decide)) (by decide)) (by decide)) (by decide)) (by decide)) (by decide)
    have yr : y_run q_r0 τ8 := by
      rw [← h8]
      refine ⟨?_, ?_, ?_, fun _ => ?_, fun x hx => ?_, fun x hx => ?_, fun x hx => ?_, ⟨?_, fun i v h => ?_⟩, ⟨?_, fun i v h => ?_⟩, ⟨?_, fun i v h => ?_⟩, ⟨?_, fun i v h => ?_⟩⟩
      · rw [dx_uk (by decide), dx_uk (by decide), dx_uk (by decide), dx_uk (by decide), dx_us]; rfl
      · rw [dx_uk (by decide), dx_uk (by decide), dx_us]; rfl
      · rw [dx_us]; rfl
      · rw [dx_uk (by decide), dx_us]; exact (q_z_f (fun z => z)).symm
      · rw [dx_un (by decide), dx_un (by decide), dx_un (by decide), dx_un (by decide), dx_un (by decide), dx_un (by decide), dx_un (by decide), dx_un (by decide)]; exact (h1 x hx).2
      · rw [dx_un (by decide), dx_un (by decide), dx_un (by decide), dx_un (by decide), dx_un (by decide), dx_un (by decide), dx_un (by decide), dx_un (by decide)]; exact h2 x (by omega)
      · rw [dx_un (by decide), dx_un (by decide), dx_un (by decide), dx_un (by decide), dx_un (by decide), dx_un (by decide), dx_un (by decide), dx_un (by decide), (h1 x hx).1]; exact (q_z_f (fun z => z)).symm
      · rw [dx_uk (by decide), dx_uk (by decide), dx_uk (by decide), dx_uk (by decide), dx_uk (by decide), dx_uk (by decide), dx_uk (by decide), dx_us]; rfl
      · cases h
      · rw [dx_uk (by decide), dx_uk (by decide), dx_uk (by decide), dx_uk (by decide), dx_uk (by decide), dx_uk (by decide), dx_us]; rfl
      · cases h
      · rw [dx_uk (by decide), dx_uk (by decide), dx_uk (by decide), dx_us]; rfl
      · cases h
      · rw [dx_uk (by decide), dx_uk (by decide), dx_uk (by decide), dx_uk (by decide), dx_uk (by decide), dx_us]; rfl
      · cases h
    clear h8
    have X8 : y_all c q_r0 τ8 := ⟨y_tree_fr H.2.1 fr8 (by decide) (by decide), y_tr_fr H.2.2.1 fr8 (by decide) (by decide), y_ac_fr H.2.2.2.1 fr8 (by decide) (by decide), yr⟩
    refine dx_cuR (fun σ1 => y_ent (fun _ => False) σ1 ∧ y_fr [26] [] τ8 σ1) (fun po hpo => t_none (fun σ' z1 z2 => hpo σ' ⟨z1, z2⟩)) ?_
    rintro σ1 ⟨a1, a2⟩
    have f1 := y_fr_t fr8 (y_ze a2)
    have X1 := y_all_z X8 (y_ze a2) (y_run_fr X8.2.2.2 a2 (by decide) (by decide))
    have hch := q_ini_ch ok hw.1
    refine dx_ci1 _ _ (fun po hp => t_initialOf (s := 0) ok X1.1 hw.1 hp) ?_
    refine dx_cuR (fun σ2 => y_ent (fun u => u = q_ini c 0) σ2 ∧ y_fr [26] [] σ1 σ2) (fun po hpo => t_want (dm := 0) ok X1.1 (Nat.zero_le _) hch.1.2.1 (q_bl_root ok _ hch.1.1 hch.1.2.1) a1 (fun σ' z1 z2 => hpo σ' ⟨y_ent_eq z1 (fun s => ?_), z2⟩)) ?_
    · constructor
      · rintro (z | ⟨z | z, z2⟩)
        · exact z.elim
        · exact z
        · have z3 := (q_bl_s ok hch.1.1 hch.1.2.1).mp z
          rw [hch.2] at z3
          rcases z3 with z3 | z3
          · rw [← z3] at z2; exact absurd z2 q_bl_0
          · exact absurd z3 q_bl_0
      · intro z
        exact Or.inr ⟨Or.inl z, by rw [z]; exact q_bl_root ok _ hch.1.1 hch.1.2.1⟩
    · rintro σ2 ⟨b1, b2⟩
      have f2 := y_fr_t f1 (y_ze b2)
      have X2 := y_all_z X1 (y_ze b2) (y_run_fr X1.2.2.2 b2 (by decide) (by decide))
      have V0 : q_inv c q_r0 := v_r0 hw
      have hN : ∀ x, q_full c (fun u => u = q_ini c 0) x → q_st c x := q_full_st (fun x e => by rw [e]; exact hch.1)
      have V1 : q_inv c (q_enter c (q_full c (fun u => u = q_ini c 0)) q_r0) := v_enter hN V0
      refine dx_cuR (fun σ3 => y_run (q_enter c (q_full c (fun u => u = q_ini c 0)) q_r0) σ3 ∧ y_fr y_Z y_T σ2 σ3) (fun po hpo => t_enterAll ok X2 V0 (Or.inl rfl) (fun x e => by rw [e]; exact hch.1) b1 (fun σ' z1 z2 => hpo σ' ⟨z1, z2⟩)) ?_
      rintro σ3 ⟨c1, c2⟩
      have f3 := y_fr_t f2 c2
      have X3 := y_all_z X2 c2 c1
      refine dx_cuR (fun σ4 => y_run (q_begin c) σ4 ∧ y_fr y_Z y_T σ3 σ4) (fun po hpo => t_macrostep ok X3 V1 (fun σ' z1 z2 => hpo σ' ⟨z1, z2⟩)) ?_
      rintro σ4 ⟨d1, d2⟩
      rw [d1.2.1]
      exact hp σ4 d1 (y_fr_t f3 d2)
  | succ f ih =>
    intro i τ hi fr h1 h2
    refine r_MM_begin_49 ?_
    rw [i_cl (n := i) (by omega), i_inc i]
    simp only [i_le, i_4, i_n (show i ≤ 100000 by omega)]
    refine ⟨fun q => absurd q (by omega), fun _ => ⟨i_in (by omega) (by omega), ?_⟩⟩
    refine ih (i + 1) _ (by omega) (y_fr_a fr (by decide) (by decide)) (fun x hx => by rw [dx_un (by decide), dx_un (by decide)]; exact h1 x hx) (fun x hx => ?_)
    by_cases e : x = i
    · rw [e, dx_us]
    · rw [dx_uk e]; exact h2 x (by omega)
theorem t_b21 (H : mm c r σ) (ho : q_out r = 0) (hw : q_whole c) (hp : ∀ σ' : dx_V, y_run (q_begin c) σ' → y_fr y_Z y_T σ σ' → po (some (nI (q_mi (q_begin c)))) σ') : ∀ (f i : Nat) (τ : dx_V), f + i = 16 → y_fr y_Z y_T σ τ → (∀ x, x < i → τ 15 x = 0 ∧ τ 16 x = 0) → g_MM_begin_21 E (d + 8) po (nI i) τ := by
  intro f
  induction f with
  | zero =>
    intro i τ hi fr h1
    refine r_MM_begin_21 ?_
    simp only [i_le, i_16, i_n (show i ≤ 100000 by omega)]
    exact ⟨fun _ => t_b49 H ho hw hp 4 0 τ (by omega) fr (fun x hx => h1 x (by omega)) (fun x hx => absurd hx (by omega)), fun q => absurd (by omega) q⟩
  | succ f ih =>
    intro i τ hi fr h1
    refine r_MM_begin_21 ?_
    rw [i_cl (n := i) (by omega), i_inc i, nar0]
    simp only [i_le, i_16, i_n (show i ≤ 100000 by omega)]
    have in1 : vp_in (nI i) 16 := i_in (by omega) (by omega)
    refine ⟨fun q => absurd q (by omega), fun _ => ⟨in1, in1, ?_⟩⟩
    refine ih (i + 1) _ (by omega) (y_fr_a (y_fr_a fr (by decide) (by decide)) (by decide) (by decide)) (fun x hx => ?_)
    by_cases e : x = i
    · rw [e, dx_us, dx_un (by decide), dx_us]; exact ⟨rfl, rfl⟩
    · exact ⟨by rw [dx_un (by decide), dx_uk e]; exact (h1 x (by omega)).1, by rw [dx_uk e, dx_un (by decide)]; exact (h1 x (by omega)).2⟩
theorem t_begin (H : mm c r σ) (hp : ∀ σ', mm (cl_begin c r).2.1 (cl_begin c r).2.2 σ' → po (some (cl_begin c r).1) σ') : m_MM_begin E (d + 8) σ po := by
  have ok := H.1
  unfold cl_begin at hp
  refine r_MM_begin ?_
  rw [mm_0 H]
  refine ⟨fun q => dx_ci1 _ _ (fun po hp => t_ill ok H.2.1 hp) (q_zb (fun q2 => ?_) (fun q2 => ?_)), fun q => ?_⟩
  · have hw : q_whole c := Classical.byContradiction q2
    rw [if_neg (fun z => z q), q_if_t hw] at hp
    have hch := q_ini_ch ok hw.1
    have hN : ∀ x, q_full c (fun u => u = q_ini c 0) x → q_st c x := q_full_st (fun x e => by rw [e]; exact hch.1)
    exact t_b21 H q hw (fun σ' z1 z2 => hp σ' (mm_run H z2 z1 (v_macro ok 31 _ (v_enter hN (v_r0 hw))))) 16 0 σ (by omega) y_fr_rf (fun x hx => absurd hx (by omega))
  · rw [if_neg (fun z => z q), q_if_f q2] at hp
    exact hp σ H
  · rw [if_pos q] at hp
    exact hp σ H
theorem t_post {e : Int32} (H : mm c r σ) (hp : ∀ σ', mm (cl_post c r e).2.1 (cl_post c r e).2.2 σ' → po (some (cl_post c r e).1) σ') : m_MM_post E (d + 1) e σ po := by
  unfold cl_post at hp
  refine r_MM_post ?_
  rw [mm_1 H]
  simp only [i_lt, i_1, i_20]
  have bad : ¬ (q_out r = 1 ∧ (1 ≤ e.toInt ∧ e.toInt ≤ 20) ∧ (q_ex r).length < 16) → po (some 0) σ := fun z => by
    rw [q_if_f z] at hp; exact hp σ H
  refine ⟨fun q => bad (fun z => q z.1), fun q => ⟨fun q2 => bad (fun z => by omega), fun q2 => ⟨fun q3 => bad (fun z => by omega), fun q3 => ?_⟩⟩⟩
  obtain ⟨V, xr⟩ := H.2.2.2.2.2.2 (by omega)
  refine dx_ciR (fun v σ1 => ((q_ex r).length = 16 ∧ v = 0 ∧ σ1 = σ) ∨ ((q_ex r).length < 16 ∧ v = 1 ∧ y_run (q_sEx r (q_ex r ++ [e])) σ1 ∧ y_fr [19] [25] σ σ1)) (fun po hpo => t_queue xr V.1 (fun q => hpo 0 σ (Or.inl ⟨q, rfl, rfl⟩)) (fun q σ' q1 q2 => hpo 1 σ' (Or.inr ⟨q, rfl, q1, q2⟩))) ?_
  rintro v σ1 (⟨q1, rfl, rfl⟩ | ⟨q1, rfl, z2, z3⟩)
  · exact ⟨fun _ => bad (fun z => by omega), fun z => absurd rfl z⟩
  · rw [q_if_t ⟨q, by omega, q1⟩] at hp
    refine ⟨fun z => absurd z (by decide), fun _ => hp σ1 (mm_run H (y_fr_w z3 (by decide) (by decide)) z2 ⟨⟨V.1.1, V.1.2.1, ?_, V.1.2.2.2⟩, V.2⟩)⟩
    show (q_ex r ++ [e]).length ≤ 16
    rw [List.length_append, List.length_singleton]; omega
theorem t_reset (H : mm c r σ) (hp : ∀ σ', mm (cl_reset c r).2.1 (cl_reset c r).2.2 σ' → po none σ') : m_MM_reset E d σ po :=
  r_MM_reset (hp _ ⟨H.1, H.2.1, H.2.2.1, H.2.2.2.1, rfl, Nat.zero_le _, fun z => absurd rfl z⟩)
theorem t_outcome (H : mm c r σ) (hp : ∀ σ', mm (cl_outcome c r).2.1 (cl_outcome c r).2.2 σ' → po (some (cl_outcome c r).1) σ') : m_MM_outcome E d σ po := by
  refine r_MM_outcome ?_
  rw [H.2.2.2.2.1]
  exact hp σ H
theorem t_remembered {h : Int32} (H : mm c r σ) (hp : ∀ σ', mm (cl_remembered c r h).2.1 (cl_remembered c r h).2.2 σ' → po (some (cl_remembered c r h).1) σ') : m_MM_remembered E d h σ po := by
  have h15 := H.1.1
  have hp := hp σ H
  unfold cl_remembered at hp
  refine r_MM_remembered ?_
  rw [mm_0 H, H.2.1.1]
  simp only [i_lt, i_1, i_n (show q_n c ≤ 100000 by omega)]
  refine ⟨fun q => ?_, fun q => ⟨fun q2 => ?_, fun q2 => ⟨fun q3 => ?_, fun q3 => ?_⟩⟩⟩
  · rw [if_neg (fun z => z.1 q)] at hp; exact hp
  · rw [if_neg (fun z => by omega)] at hp; exact hp
  · rw [if_neg (fun z => by omega)] at hp; exact hp
  · rw [if_pos ⟨q, by omega, by omega⟩] at hp
    obtain ⟨V, xr⟩ := H.2.2.2.2.2.2 q
    obtain ⟨f1, f2⟩ := i_ix (x := h) (by omega)
    rw [xr.2.2.2.2.1 _ (by omega)]
    exact ⟨i_in2 (by omega) (by omega), hp⟩
theorem t_variable {v : Int32} (H : mm c r σ) (hp : ∀ σ', mm (cl_variable c r v).2.1 (cl_variable c r v).2.2 σ' → po (some (cl_variable c r v).1) σ') : m_MM_variable E d v σ po := by
  have hp := hp σ H
  unfold cl_variable at hp
  refine r_MM_variable ?_
  rw [mm_0 H]
  simp only [i_lt, i_0, i_3]
  refine ⟨fun q => ?_, fun q => ⟨fun q2 => ?_, fun q2 => ⟨fun q3 => ?_, fun q3 => ?_⟩⟩⟩
  · rw [if_neg (fun z => z.1 q)] at hp; exact hp
  · rw [if_neg (fun z => by omega)] at hp; exact hp
  · rw [if_neg (fun z => by omega)] at hp; exact hp
  · rw [if_pos ⟨q, by omega, by omega⟩] at hp
    obtain ⟨V, xr⟩ := H.2.2.2.2.2.2 q
    obtain ⟨f1, f2⟩ := i_ix (x := v) (by omega)
    rw [xr.2.2.2.2.2.1 _ (by omega)]
    exact ⟨i_in2 (by omega) (by omega), hp⟩
theorem t_listed {i : Int32} (H : mm c r σ) (hp : ∀ σ', mm (cl_listed c r i).2.1 (cl_listed c r i).2.2 σ' → po (some (cl_listed c r i).1) σ') : m_MM_listed E d i σ po := by
  have hp := hp σ H
  unfold cl_listed at hp
  refine r_MM_listed ?_
  rw [mm_0 H]
  refine ⟨fun q => ?_, fun q => ?_⟩
  · rw [if_neg (fun z => z.1 q)] at hp; exact hp
  · obtain ⟨V, xr⟩ := H.2.2.2.2.2.2 q
    have h200 := V.1.2.2.2.1
    have xl := xr.2.2.2.2.2.2.2.2.2.1
    rw [xl.1]
    simp only [i_lt, i_le, i_0, i_n (show (q_rc r).length ≤ 100000 by omega)]
    refine ⟨fun z => ?_, fun z => ⟨fun z2 => ?_, fun z2 => ⟨i_in2 (by omega) (by omega), ?_⟩⟩⟩
    · rw [if_neg (by omega)] at hp; exact hp
    · rw [if_neg (by omega)] at hp; exact hp
    · rw [if_pos ⟨q, by omega, by omega⟩] at hp
      obtain ⟨f1, f2⟩ := i_ix (x := i) (by omega)
      have hl : i.toNatClampNeg < (q_rc r).length := by omega
      rw [xl.2 i.toNatClampNeg _ (List.getElem?_eq_getElem hl)]
      rw [List.getD_eq_getElem?_getD, List.getElem?_eq_getElem hl] at hp
      exact hp
theorem t_waiting {w : Int32} (H : mm c r σ) (hp : ∀ σ', mm (cl_waiting c r w).2.1 (cl_waiting c r w).2.2 σ' → po (some (cl_waiting c r w).1) σ') : m_MM_waiting E d w σ po := by
  have hp := hp σ H
  have e0 : w = 0 ↔ w.toInt = 0 := by rw [i_eq, i_0]
  have e1 : w = 1 ↔ w.toInt = 1 := by rw [i_eq, i_1]
  unfold cl_waiting at hp
  refine r_MM_waiting ?_
  rw [mm_0 H, e0, e1]
  simp only [i_lt, i_le, i_0, i_2]
  refine ⟨fun z => ?_, fun z => ⟨fun z2 => ⟨fun q => ?_, fun q => ?_⟩, fun z2 => ?_⟩⟩
  · rw [if_pos (by omega)] at hp; exact hp
  · rw [if_neg (by omega), if_neg q] at hp
    obtain ⟨V, xr⟩ := H.2.2.2.2.2.2 q
    rw [xr.2.2.2.2.2.2.2.1.1, xr.2.2.2.2.2.2.2.2.1.1, xr.2.2.2.2.2.2.2.2.2.2.1]
    refine ⟨fun y => ⟨fun y2 => ?_, fun y2 => ?_⟩, fun y => ?_⟩
    · rw [if_neg y, if_neg y2] at hp; exact hp
    · rw [if_neg y, if_pos y2] at hp; exact hp
    · rw [if_pos y] at hp; exact hp
  · rw [if_neg (by omega), if_pos q] at hp; exact hp
  · rw [if_pos (by omega)] at hp; exact hp
theorem t_act4 (H : mm c r σ) (q : q_out r ≠ 0) (hp : po (some (q_mask (q_on r) (q_n c))) σ) : ∀ (f i : Nat), f + i = q_n c → g_MM_active_4 E d po (q_mask (q_on r) i) (nI (i + 1)) σ := by
  have h15 := H.1.1
  obtain ⟨V, xr⟩ := H.2.2.2.2.2.2 q
  intro f
  induction f with
  | zero =>
    intro i hi
    refine r_MM_active_4 ?_
    rw [H.2.1.1]
    simp only [i_lt, i_n (show q_n c ≤ 100000 by omega), i_n (show i + 1 ≤ 100000 by omega)]
    rw [show i = q_n c by omega]
    exact ⟨fun _ => hp, fun q => absurd (by omega) q⟩
  | succ f ih =>
    intro i hi
    have := ih (i + 1) (by omega)
    refine r_MM_active_4 ?_
    rw [H.2.1.1, i_cl (n := i + 1) (by omega), xr.2.2.2.2.2.2.1 (i + 1) (by omega), i_inc (i + 1), mm_0 H]
    simp only [i_lt, i_n (show q_n c ≤ 100000 by omega), i_n (show i + 1 ≤ 100000 by omega)]
    unfold q_mask at this
    refine ⟨fun z => absurd z (by omega), fun _ => ⟨fun z => absurd z q, fun _ => ⟨i_in (by omega) (by omega), q_zb (fun z => ?_) (fun z => ?_)⟩⟩⟩
    · rw [q_if_f z] at this; exact this
    · rw [q_if_t z] at this; exact this
theorem t_active (H : mm c r σ) (hp : ∀ σ', mm (cl_active c r).2.1 (cl_active c r).2.2 σ' → po (some (cl_active c r).1) σ') : m_MM_active E d σ po := by
  have h15 := H.1.1
  have hp := hp σ H
  unfold cl_active at hp
  refine r_MM_active ?_
  by_cases q : q_out r = 0
  · rw [if_pos q] at hp
    refine r_MM_active_4 ?_
    rw [mm_0 H]
    exact ⟨fun _ => hp, fun _ => ⟨fun _ => hp, fun z => absurd q z⟩⟩
  · rw [if_neg q] at hp
    obtain ⟨V, xr⟩ := H.2.2.2.2.2.2 q
    have e : q_mask (q_on r) 15 = q_mask (q_on r) (q_n c) := b_ext (fun i _ => by
      have e1 := q_mask_bt (P := q_on r) (q_n c) i (by omega)
      have e2 := q_mask_bt (P := q_on r) 15 i (by omega)
      have e3 : bt (q_mask (q_on r) 15) i = true ↔ bt (q_mask (q_on r) (q_n c)) i = true := by
        rw [e1, e2]
        constructor
        · intro z; have := V.1.1 i z.2.2; exact ⟨z.1, this.2.1, z.2.2⟩
        · intro z; exact ⟨z.1, by omega, z.2.2⟩
      cases h9 : bt (q_mask (q_on r) 15) i <;> cases h8 : bt (q_mask (q_on r) (q_n c)) i <;> simp_all)
    have hp : po (some (q_mask (q_on r) 15)) σ := hp
    rw [e] at hp
    exact t_act4 H q hp (q_n c) 0 (by omega)
end MCM
