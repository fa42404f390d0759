def g_SE_leastEnabled_2 (E : dx_E) (d : Nat) (po : dx_P) (v1 v2 v3 : Int32) (σ : dx_V) : Prop := dx_G tX E d RSE cSE_leastEnabled 4 (some .int) po 2 [some (.inr 6), some (.inl v1), some (.inl v2), some (.inl v3)] [] σ
set_option maxRecDepth 100000 in
set_option maxHeartbeats 4000000 in
theorem r_SE_leastEnabled {E : dx_E} {d : Nat} {a1 a2 : Int32} {σ : dx_V} {po : dx_P} (h : g_SE_leastEnabled_2 E (d + 1) po a1 a2 0 σ) : m_SE_leastEnabled E (d + 1) a1 a2 σ po := by
  refine dx_entry (by decide) (Nat.le_of_ble_eq_true rfl) ?_
  show dx_G tX E (d + 1) RSE cSE_leastEnabled 4 (some .int) po 0 [some (.inr 6), some (.inl a1), some (.inl a2), none] [] σ
  refine dx_iconst (v := 0) dSE_leastEnabled_0 (by decide) ?_
  refine dx_istore_n (L' := [some (.inr 6), some (.inl a1), some (.inl a2), some (.inl 0)]) dSE_leastEnabled_1 (Nat.le_of_ble_eq_true rfl) rfl ?_
  exact dx_less (L' := [some (.inr 6), some (.inl a1), some (.inl a2), some (.inl 0)]) ⟨rfl, rfl, rfl, rfl, trivial⟩ h
set_option maxRecDepth 100000 in
set_option maxHeartbeats 4000000 in
theorem r_SE_leastEnabled_2 {E : dx_E} {d : Nat} {po : dx_P} {v1 v2 v3 : Int32} {σ : dx_V} (h : ((σ 2 7) ≤ v3 → po (some (-1)) σ) ∧ (¬ (σ 2 7) ≤ v3 → vp_in v3 20 ∧ ((¬ (σ 17 v3.toNatClampNeg) = v1 → g_SE_leastEnabled_2 E (d + 1) po v1 v2 (v3 + 1) σ) ∧ ((σ 17 v3.toNatClampNeg) = v1 → vp_in v3 20 ∧ ((¬ (σ 18 v3.toNatClampNeg) = v2 → g_SE_leastEnabled_2 E (d + 1) po v1 v2 (v3 + 1) σ) ∧ ((σ 18 v3.toNatClampNeg) = v2 → dx_ci (m_SI_satisfies E d v3 σ) (fun x2 σ1 => (x2 = 0 → g_SE_leastEnabled_2 E (d + 1) po v1 v2 (v3 + 1) σ1) ∧ (¬ x2 = 0 → po (some v3) σ1)))))))) : g_SE_leastEnabled_2 E (d + 1) po v1 v2 v3 σ := by
  show dx_G tX E (d + 1) RSE cSE_leastEnabled 4 (some .int) po 2 [some (.inr 6), some (.inl v1), some (.inl v2), some (.inl v3)] [] σ
  refine dx_iload_n dSE_leastEnabled_2 rfl ?_
  refine dx_aload_n dSE_leastEnabled_3 rfl ?_
  refine dx_getr dSE_leastEnabled_4 flSE_22 rfl rfl ?_
  refine dx_geti dSE_leastEnabled_7 flSE_72 rfl rfl ?_
  refine dx_icmp_ge 62 dSE_leastEnabled_10 (by decide) (fun q => ?_) (fun q => ?_)
  · have h := h.1 q
    refine dx_iconst (v := (-1)) dSE_leastEnabled_62 (by decide) ?_
    exact dx_ret dSE_leastEnabled_63 rfl rfl h
  · have h := h.2 q
    refine dx_aload_n dSE_leastEnabled_13 rfl ?_
    refine dx_getr dSE_leastEnabled_14 flSE_22 rfl rfl ?_
    refine dx_getr dSE_leastEnabled_17 flSE_75 rfl rfl ?_
    refine dx_iload_n dSE_leastEnabled_20 rfl ?_
    obtain ⟨hi, h⟩ := h
    refine dx_iaload dSE_leastEnabled_21 rfl hi ?_
    refine dx_iload_n dSE_leastEnabled_22 rfl ?_
    refine dx_icmp_ne 56 dSE_leastEnabled_23 (by decide) (fun q => ?_) (fun q => ?_)
    · have h := h.1 q
      refine dx_iinc (v := v3 + 1) (L' := [some (.inr 6), some (.inl v1), some (.inl v2), some (.inl (v3 + 1))]) dSE_leastEnabled_56 rfl rfl rfl ?_
      refine dx_goto 2 dSE_leastEnabled_59 (by decide) ?_
      exact dx_less (L' := [some (.inr 6), some (.inl v1), some (.inl v2), some (.inl (v3 + 1))]) ⟨rfl, rfl, rfl, rfl, trivial⟩ h
    · have h := h.2 q
      refine dx_aload_n dSE_leastEnabled_26 rfl ?_
      refine dx_getr dSE_leastEnabled_27 flSE_22 rfl rfl ?_
      refine dx_getr dSE_leastEnabled_30 flSE_78 rfl rfl ?_
      refine dx_iload_n dSE_leastEnabled_33 rfl ?_
      obtain ⟨hi, h⟩ := h
      refine dx_iaload dSE_leastEnabled_34 rfl hi ?_
      refine dx_iload_n dSE_leastEnabled_35 rfl ?_
      refine dx_icmp_ne 56 dSE_leastEnabled_36 (by decide) (fun q => ?_) (fun q => ?_)
      · have h := h.1 q
        refine dx_iinc (v := v3 + 1) (L' := [some (.inr 6), some (.inl v1), some (.inl v2), some (.inl (v3 + 1))]) dSE_leastEnabled_56 rfl rfl rfl ?_
        refine dx_goto 2 dSE_leastEnabled_59 (by decide) ?_
        exact dx_less (L' := [some (.inr 6), some (.inl v1), some (.inl v2), some (.inl (v3 + 1))]) ⟨rfl, rfl, rfl, rfl, trivial⟩ h
      · have h := h.2 q
        refine dx_aload_n dSE_leastEnabled_39 rfl ?_
        refine dx_getr dSE_leastEnabled_40 flSE_26 rfl rfl ?_
        refine dx_aload_n dSE_leastEnabled_43 rfl ?_
        refine dx_getr dSE_leastEnabled_44 flSE_22 rfl rfl ?_
        refine dx_iload_n dSE_leastEnabled_47 rfl ?_
        obtain ⟨pp, hm, hk⟩ := h
        refine dx_callvi [.inr 2, .inl v3] [] dSE_leastEnabled_48 cvSE_81 rfl (Nat.le_of_ble_eq_true rfl) rfl hm (fun x2 σ1 hp => ?_)
        have h := hk x2 σ1 hp
        refine dx_if_eq 56 dSE_leastEnabled_51 (by decide) (fun q => ?_) (fun q => ?_)
        · have h := h.1 q
          refine dx_iinc (v := v3 + 1) (L' := [some (.inr 6), some (.inl v1), some (.inl v2), some (.inl (v3 + 1))]) dSE_leastEnabled_56 rfl rfl rfl ?_
          refine dx_goto 2 dSE_leastEnabled_59 (by decide) ?_
          exact dx_less (L' := [some (.inr 6), some (.inl v1), some (.inl v2), some (.inl (v3 + 1))]) ⟨rfl, rfl, rfl, rfl, trivial⟩ h
        · have h := h.2 q
          refine dx_iload_n dSE_leastEnabled_54 rfl ?_
          exact dx_ret dSE_leastEnabled_55 rfl rfl h
def g_SE_keepIfAllowed_2 (E : dx_E) (d : Nat) (po : dx_P) (v1 v2 : Int32) (σ : dx_V) : Prop := dx_G tX E d RSE cSE_keepIfAllowed 4 none po 2 [some (.inr 6), some (.inl v1), some (.inl v2), none] [] σ
def g_SE_keepIfAllowed_49 (E : dx_E) (d : Nat) (po : dx_P) (v1 v2 v3 : Int32) (σ : dx_V) : Prop := dx_G tX E d RSE cSE_keepIfAllowed 4 none po 49 [some (.inr 6), some (.inl v1), some (.inl v2), some (.inl v3)] [] σ
set_option maxRecDepth 100000 in
set_option maxHeartbeats 4000000 in
theorem r_SE_keepIfAllowed {E : dx_E} {d : Nat} {a1 : Int32} {σ : dx_V} {po : dx_P} (h : g_SE_keepIfAllowed_2 E (d + 1) po a1 0 σ) : m_SE_keepIfAllowed E (d + 1) a1 σ po := by
  refine dx_entry (by decide) (Nat.le_of_ble_eq_true rfl) ?_
  show dx_G tX E (d + 1) RSE cSE_keepIfAllowed 4 none po 0 [some (.inr 6), some (.inl a1), none, none] [] σ
  refine dx_iconst (v := 0) dSE_keepIfAllowed_0 (by decide) ?_
  refine dx_istore_n (L' := [some (.inr 6), some (.inl a1), some (.inl 0), none]) dSE_keepIfAllowed_1 (Nat.le_of_ble_eq_true rfl) rfl ?_
  exact dx_less (L' := [some (.inr 6), some (.inl a1), some (.inl 0), none]) ⟨rfl, rfl, rfl, trivial⟩ h
set_option maxRecDepth 100000 in
set_option maxHeartbeats 4000000 in
theorem r_SE_keepIfAllowed_2 {E : dx_E} {d : Nat} {po : dx_P} {v1 v2 : Int32} {σ : dx_V} (h : ((σ 6 6) ≤ v2 → g_SE_keepIfAllowed_49 E (d + 1) po v1 0 0 σ) ∧ (¬ (σ 6 6) ≤ v2 → vp_in v2 20 ∧ (dx_ci (m_SE_conflict E d v1 (σ 31 v2.toNatClampNeg) σ) (fun x2 σ1 => (x2 = 0 → g_SE_keepIfAllowed_2 E (d + 1) po v1 (v2 + 1) σ1) ∧ (¬ x2 = 0 → vp_in v2 20 ∧ (dx_ci (m_SE_outranks E d v1 (σ1 31 v2.toNatClampNeg) σ1) (fun x4 σ3 => (¬ x4 = 0 → g_SE_keepIfAllowed_2 E (d + 1) po v1 (v2 + 1) σ3) ∧ (x4 = 0 → po none σ3)))))))) : g_SE_keepIfAllowed_2 E (d + 1) po v1 v2 σ := by
  show dx_G tX E (d + 1) RSE cSE_keepIfAllowed 4 none po 2 [some (.inr 6), some (.inl v1), some (.inl v2), none] [] σ
  refine dx_iload_n dSE_keepIfAllowed_2 rfl ?_
  refine dx_aload_n dSE_keepIfAllowed_3 rfl ?_
  refine dx_geti dSE_keepIfAllowed_4 flSE_34 rfl rfl ?_
  refine dx_icmp_ge 45 dSE_keepIfAllowed_7 (by decide) (fun q => ?_) (fun q => ?_)
  · have h := h.1 q
    refine dx_iconst (v := 0) dSE_keepIfAllowed_45 (by decide) ?_
    refine dx_istore_n (L' := [some (.inr 6), some (.inl v1), some (.inl 0), none]) dSE_keepIfAllowed_46 (Nat.le_of_ble_eq_true rfl) rfl ?_
    refine dx_iconst (v := 0) dSE_keepIfAllowed_47 (by decide) ?_
    refine dx_istore_n (L' := [some (.inr 6), some (.inl v1), some (.inl 0), some (.inl 0)]) dSE_keepIfAllowed_48 (Nat.le_of_ble_eq_true rfl) rfl ?_
    exact dx_less (L' := [some (.inr 6), some (.inl v1), some (.inl 0), some (.inl 0)]) ⟨rfl, rfl, rfl, rfl, trivial⟩ h
  · have h := h.2 q
    refine dx_aload_n dSE_keepIfAllowed_10 rfl ?_
    refine dx_iload_n dSE_keepIfAllowed_11 rfl ?_
    refine dx_aload_n dSE_keepIfAllowed_12 rfl ?_
    refine dx_getr dSE_keepIfAllowed_13 flSE_15 rfl rfl ?_
    refine dx_iload_n dSE_keepIfAllowed_16 rfl ?_
    obtain ⟨hi, h⟩ := h
    refine dx_iaload dSE_keepIfAllowed_17 rfl hi ?_
    obtain ⟨pp, hm, hk⟩ := h
    refine dx_callvi [.inl v1, .inl (σ 31 v2.toNatClampNeg)] [] dSE_keepIfAllowed_18 cvSE_85 rfl (Nat.le_of_ble_eq_true rfl) rfl hm (fun x2 σ1 hp => ?_)
    have h := hk x2 σ1 hp
    refine dx_if_eq 39 dSE_keepIfAllowed_21 (by decide) (fun q => ?_) (fun q => ?_)
    · have h := h.1 q
      refine dx_iinc (v := v2 + 1) (L' := [some (.inr 6), some (.inl v1), some (.inl (v2 + 1)), none]) dSE_keepIfAllowed_39 rfl rfl rfl ?_
      refine dx_goto 2 dSE_keepIfAllowed_42 (by decide) ?_
      exact dx_less (L' := [some (.inr 6), some (.inl v1), some (.inl (v2 + 1)), none]) ⟨rfl, rfl, rfl, trivial⟩ h
    · have h := h.2 q
      refine dx_aload_n dSE_keepIfAllowed_24 rfl ?_
      refine dx_iload_n dSE_keepIfAllowed_25 rfl ?_
      refine dx_aload_n dSE_keepIfAllowed_26 rfl ?_
      refine dx_getr dSE_keepIfAllowed_27 flSE_15 rfl rfl ?_
      refine dx_iload_n dSE_keepIfAllowed_30 rfl ?_
      obtain ⟨hi, h⟩ := h
      refine dx_iaload dSE_keepIfAllowed_31 rfl hi ?_
      obtain ⟨pp, hm, hk⟩ := h
      refine dx_callvi [.inl v1, .inl (σ1 31 v2.toNatClampNeg)] [] dSE_keepIfAllowed_32 cvSE_88 rfl (Nat.le_of_ble_eq_true rfl) rfl hm (fun x4 σ3 hp => ?_)
      have h := hk x4 σ3 hp
      refine dx_if_ne 39 dSE_keepIfAllowed_35 (by decide) (fun q => ?_) (fun q => ?_)
      · have h := h.1 q
        refine dx_iinc (v := v2 + 1) (L' := [some (.inr 6), some (.inl v1), some (.inl (v2 + 1)), none]) dSE_keepIfAllowed_39 rfl rfl rfl ?_
        refine dx_goto 2 dSE_keepIfAllowed_42 (by decide) ?_
        exact dx_less (L' := [some (.inr 6), some (.inl v1), some (.inl (v2 + 1)), none]) ⟨rfl, rfl, rfl, trivial⟩ h
      · have h := h.2 q
        exact dx_vret dSE_keepIfAllowed_38 rfl h
set_option maxRecDepth 100000 in
set_option maxHeartbeats 4000000 in
theorem r_SE_keepIfAllowed_49 {E : dx_E} {d : Nat} {po : dx_P} {v1 v2 v3 : Int32} {σ : dx_V} (h : ((σ 6 6) ≤ v3 → vp_in v2 20 ∧ (po none (dx_u (dx_u σ 31 v2.toNatClampNeg v1) 6 6 (v2 + 1)))) ∧ (¬ (σ 6 6) ≤ v3 → vp_in v3 20 ∧ (dx_ci (m_SE_conflict E d v1 (σ 31 v3.toNatClampNeg) σ) (fun x2 σ1 => (¬ x2 = 0 → g_SE_keepIfAllowed_49 E (d + 1) po v1 v2 (v3 + 1) σ1) ∧ (x2 = 0 → vp_in v3 20 ∧ (vp_in v2 20 ∧ (g_SE_keepIfAllowed_49 E (d + 1) po v1 (v2 + 1) (v3 + 1) (dx_u σ1 31 v2.toNatClampNeg (σ1 31 v3.toNatClampNeg))))))))) : g_SE_keepIfAllowed_49 E (d + 1) po v1 v2 v3 σ := by
  show dx_G tX E (d + 1) RSE cSE_keepIfAllowed 4 none po 49 [some (.inr 6), some (.inl v1), some (.inl v2), some (.inl v3)] [] σ
  refine dx_iload_n dSE_keepIfAllowed_49 rfl ?_
  refine dx_aload_n dSE_keepIfAllowed_50 rfl ?_
  refine dx_geti dSE_keepIfAllowed_51 flSE_34 rfl rfl ?_
  refine dx_icmp_ge 92 dSE_keepIfAllowed_54 (by decide) (fun q => ?_) (fun q => ?_)
  · have h := h.1 q
    refine dx_aload_n dSE_keepIfAllowed_92 rfl ?_
    refine dx_getr dSE_keepIfAllowed_93 flSE_15 rfl rfl ?_
    refine dx_iload_n dSE_keepIfAllowed_96 rfl ?_
    refine dx_iload_n dSE_keepIfAllowed_97 rfl ?_
    obtain ⟨hi, h⟩ := h
    refine dx_iastore dSE_keepIfAllowed_98 rfl hi ?_
    refine dx_aload_n dSE_keepIfAllowed_99 rfl ?_
    refine dx_iload_n dSE_keepIfAllowed_100 rfl ?_
    refine dx_iconst (v := 1) dSE_keepIfAllowed_101 (by decide) ?_
    refine dx_iadd dSE_keepIfAllowed_102 ?_
    refine dx_put dSE_keepIfAllowed_103 fpSE_34 rfl rfl (Or.inl rfl) ?_
    exact dx_vret dSE_keepIfAllowed_106 rfl h
  · have h := h.2 q
    refine dx_aload_n dSE_keepIfAllowed_57 rfl ?_
    refine dx_iload_n dSE_keepIfAllowed_58 rfl ?_
    refine dx_aload_n dSE_keepIfAllowed_59 rfl ?_
    refine dx_getr dSE_keepIfAllowed_60 flSE_15 rfl rfl ?_
    refine dx_iload_n dSE_keepIfAllowed_63 rfl ?_
    obtain ⟨hi, h⟩ := h
    refine dx_iaload dSE_keepIfAllowed_64 rfl hi ?_
    obtain ⟨pp, hm, hk⟩ := h
    refine dx_callvi [.inl v1, .inl (σ 31 v3.toNatClampNeg)] [] dSE_keepIfAllowed_65 cvSE_85 rfl (Nat.le_of_ble_eq_true rfl) rfl hm (fun x2 σ1 hp => ?_)
    have h := hk x2 σ1 hp
    refine dx_if_ne 86 dSE_keepIfAllowed_68 (by decide) (fun q => ?_) (fun q => ?_)
    · have h := h.1 q
      refine dx_iinc (v := v3 + 1) (L' := [some (.inr 6), some (.inl v1), some (.inl v2), some (.inl (v3 + 1))]) dSE_keepIfAllowed_86 rfl rfl rfl ?_
      refine dx_goto 49 dSE_keepIfAllowed_89 (by decide) ?_
      exact dx_less (L' := [some (.inr 6), some (.inl v1), some (.inl v2), some (.inl (v3 + 1))]) ⟨rfl, rfl, rfl, rfl, trivial⟩ h
    · have h := h.2 q
      refine dx_aload_n dSE_keepIfAllowed_71 rfl ?_
      refine dx_getr dSE_keepIfAllowed_72 flSE_15 rfl rfl ?_
      refine dx_iload_n dSE_keepIfAllowed_75 rfl ?_
      refine dx_aload_n dSE_keepIfAllowed_76 rfl ?_
      refine dx_getr dSE_keepIfAllowed_77 flSE_15 rfl rfl ?_
      refine dx_iload_n dSE_keepIfAllowed_80 rfl ?_
      obtain ⟨hi, h⟩ := h
      refine dx_iaload dSE_keepIfAllowed_81 rfl hi ?_
      obtain ⟨hi, h⟩ := h
      refine dx_iastore dSE_keepIfAllowed_82 rfl hi ?_
      refine dx_iinc (v := v2 + 1) (L' := [some (.inr 6), some (.inl v1), some (.inl (v2 + 1)), some (.inl v3)]) dSE_keepIfAllowed_83 rfl rfl rfl ?_
      refine dx_iinc (v := v3 + 1) (L' := [some (.inr 6), some (.inl v1), some (.inl (v2 + 1)), some (.inl (v3 + 1))]) dSE_keepIfAllowed_86 rfl rfl rfl ?_
      refine dx_goto 49 dSE_keepIfAllowed_89 (by decide) ?_
      exact dx_less (L' := [some (.inr 6), some (.inl v1), some (.inl (v2 + 1)), some (.inl (v3 + 1))]) ⟨rfl, rfl, rfl, rfl, trivial⟩ h
set_option maxRecDepth 100000 in
set_option maxHeartbeats 4000000 in
theorem r_SE_conflict {E : dx_E} {d : Nat} {a1 a2 : Int32} {σ : dx_V} {po : dx_P} (h : dx_ci (m_SE_exitSet E d a1 σ) (fun x2 σ1 => dx_ci (m_SE_exitSet E d a2 σ1) (fun x4 σ3 => ((x2 &&& x4) = 0 → po (some 0) σ3) ∧ (¬ (x2 &&& x4) = 0 → po (some 1) σ3)))) : m_SE_conflict E (d + 1) a1 a2 σ po := by
  refine dx_entry (by decide) (Nat.le_of_ble_eq_true rfl) ?_
  show dx_G tX E (d + 1) RSE cSE_conflict 3 (some .boolean) po 0 [some (.inr 6), some (.inl a1), some (.inl a2)] [] σ
  refine dx_aload_n dSE_conflict_0 rfl ?_
  refine dx_iload_n dSE_conflict_1 rfl ?_
  obtain ⟨pp, hm, hk⟩ := h
  refine dx_callvi [.inl a1] [] dSE_conflict_2 cvSE_91 rfl (Nat.le_of_ble_eq_true rfl) rfl hm (fun x2 σ1 hp => ?_)
  have h := hk x2 σ1 hp
  refine dx_aload_n dSE_conflict_5 rfl ?_
  refine dx_iload_n dSE_conflict_6 rfl ?_
  obtain ⟨pp, hm, hk⟩ := h
  refine dx_callvi [.inl a2] [.inl x2] dSE_conflict_7 cvSE_91 rfl (Nat.le_of_ble_eq_true rfl) rfl hm (fun x4 σ3 hp => ?_)
  have h := hk x4 σ3 hp
  refine dx_iand dSE_conflict_10 ?_
  refine dx_if_eq 18 dSE_conflict_11 (by decide) (fun q => ?_) (fun q => ?_)
  · have h := h.1 q
    refine dx_iconst (v := 0) dSE_conflict_18 (by decide) ?_
    exact dx_ret dSE_conflict_19 rfl rfl h
  · have h := h.2 q
    refine dx_iconst (v := 1) dSE_conflict_14 (by decide) ?_
    refine dx_goto 19 dSE_conflict_15 (by decide) ?_
    exact dx_ret dSE_conflict_19 rfl rfl h
set_option maxRecDepth 100000 in
set_option maxHeartbeats 4000000 in
theorem r_SE_outranks {E : dx_E} {d : Nat} {a1 a2 : Int32} {σ : dx_V} {po : dx_P} (h : vp_in a2 20 ∧ (vp_in a1 20 ∧ (vp_in (σ 17 a1.toNatClampNeg) 16 ∧ (dx_ci (m_MC_isIn E d (σ 17 a2.toNatClampNeg) (σ 15 (σ 17 a1.toNatClampNeg).toNatClampNeg) σ) (fun x2 σ1 => (x2 = 0 ∨ x2 = 1) ∧ po (some x2) σ1))))) : m_SE_outranks E (d + 1) a1 a2 σ po := by
  refine dx_entry (by decide) (Nat.le_of_ble_eq_true rfl) ?_
  show dx_G tX E (d + 1) RSE cSE_outranks 3 (some .boolean) po 0 [some (.inr 6), some (.inl a1), some (.inl a2)] [] σ
  refine dx_aload_n dSE_outranks_0 rfl ?_
  refine dx_getr dSE_outranks_1 flSE_22 rfl rfl ?_
  refine dx_getr dSE_outranks_4 flSE_75 rfl rfl ?_
  refine dx_iload_n dSE_outranks_7 rfl ?_
  obtain ⟨hi, h⟩ := h
  refine dx_iaload dSE_outranks_8 rfl hi ?_
  refine dx_aload_n dSE_outranks_9 rfl ?_
  refine dx_getr dSE_outranks_10 flSE_18 rfl rfl ?_
  refine dx_getr dSE_outranks_13 flSE_66 rfl rfl ?_
  refine dx_aload_n dSE_outranks_16 rfl ?_
  refine dx_getr dSE_outranks_17 flSE_22 rfl rfl ?_
  refine dx_getr dSE_outranks_20 flSE_75 rfl rfl ?_
  refine dx_iload_n dSE_outranks_23 rfl ?_
  obtain ⟨hi, h⟩ := h
  refine dx_iaload dSE_outranks_24 rfl hi ?_
  obtain ⟨hi, h⟩ := h
  refine dx_iaload dSE_outranks_25 rfl hi ?_
  obtain ⟨pp, hm, hk⟩ := h
  refine dx_callsi [.inl (σ 17 a2.toNatClampNeg), .inl (σ 15 (σ 17 a1.toNatClampNeg).toNatClampNeg)] [] dSE_outranks_26 csSE_47 (Nat.le_of_ble_eq_true rfl) rfl hm (fun x2 σ1 hp => ?_)
  have h := hk x2 σ1 hp
  exact dx_ret dSE_outranks_29 rfl (dx_nz h.1) h.2
set_option maxRecDepth 100000 in
set_option maxHeartbeats 4000000 in
theorem r_SE_exitSet {E : dx_E} {d : Nat} {a1 : Int32} {σ : dx_V} {po : dx_P} (h : vp_in a1 20 ∧ ((¬ (σ 19 a1.toNatClampNeg) = (-1) → vp_in a1 20 ∧ (vp_in (σ 20 a1.toNatClampNeg) 16 ∧ (po (some ((σ 5 1) &&& (σ 16 (σ 20 a1.toNatClampNeg).toNatClampNeg))) σ))) ∧ ((σ 19 a1.toNatClampNeg) = (-1) → po (some 0) σ))) : m_SE_exitSet E d a1 σ po := by
  refine dx_entry (by decide) (Nat.le_of_ble_eq_true rfl) ?_
  show dx_G tX E d RSE cSE_exitSet 2 (some .int) po 0 [some (.inr 6), some (.inl a1)] [] σ
  refine dx_aload_n dSE_exitSet_0 rfl ?_
  refine dx_getr dSE_exitSet_1 flSE_22 rfl rfl ?_
  refine dx_getr dSE_exitSet_4 flSE_95 rfl rfl ?_
  refine dx_iload_n dSE_exitSet_7 rfl ?_
  obtain ⟨hi, h⟩ := h
  refine dx_iaload dSE_exitSet_8 rfl hi ?_
  refine dx_iconst (v := (-1)) dSE_exitSet_9 (by decide) ?_
  refine dx_icmp_ne 17 dSE_exitSet_10 (by decide) (fun q => ?_) (fun q => ?_)
  · have h := h.1 q
    refine dx_aload_n dSE_exitSet_17 rfl ?_
    refine dx_getr dSE_exitSet_18 flSE_26 rfl rfl ?_
    refine dx_geti dSE_exitSet_21 flSE_42 rfl rfl ?_
    refine dx_aload_n dSE_exitSet_24 rfl ?_
    refine dx_getr dSE_exitSet_25 flSE_18 rfl rfl ?_
    refine dx_getr dSE_exitSet_28 flSE_98 rfl rfl ?_
    refine dx_aload_n dSE_exitSet_31 rfl ?_
    refine dx_getr dSE_exitSet_32 flSE_22 rfl rfl ?_
    refine dx_getr dSE_exitSet_35 flSE_101 rfl rfl ?_
    refine dx_iload_n dSE_exitSet_38 rfl ?_
    obtain ⟨hi, h⟩ := h
    refine dx_iaload dSE_exitSet_39 rfl hi ?_
    obtain ⟨hi, h⟩ := h
    refine dx_iaload dSE_exitSet_40 rfl hi ?_
    refine dx_iand dSE_exitSet_41 ?_
    exact dx_ret dSE_exitSet_42 rfl rfl h
  · have h := h.2 q
    refine dx_iconst (v := 0) dSE_exitSet_13 (by decide) ?_
    refine dx_goto 42 dSE_exitSet_14 (by decide) ?_
    exact dx_ret dSE_exitSet_42 rfl rfl h
def g_SE_allExits_4 (E : dx_E) (d : Nat) (po : dx_P) (v1 v2 : Int32) (σ : dx_V) : Prop := dx_G tX E d RSE cSE_allExits 3 (some .int) po 4 [some (.inr 6), some (.inl v1), some (.inl v2)] [] σ
set_option maxRecDepth 100000 in
set_option maxHeartbeats 4000000 in
theorem r_SE_allExits {E : dx_E} {d : Nat} {σ : dx_V} {po : dx_P} (h : g_SE_allExits_4 E (d + 1) po 0 0 σ) : m_SE_allExits E (d + 1) σ po := by
  refine dx_entry (by decide) (Nat.le_of_ble_eq_true rfl) ?_
  show dx_G tX E (d + 1) RSE cSE_allExits 3 (some .int) po 0 [some (.inr 6), none, none] [] σ
  refine dx_iconst (v := 0) dSE_allExits_0 (by decide) ?_
  refine dx_istore_n (L' := [some (.inr 6), some (.inl 0), none]) dSE_allExits_1 (Nat.le_of_ble_eq_true rfl) rfl ?_
  refine dx_iconst (v := 0) dSE_allExits_2 (by decide) ?_
  refine dx_istore_n (L' := [some (.inr 6), some (.inl 0), some (.inl 0)]) dSE_allExits_3 (Nat.le_of_ble_eq_true rfl) rfl ?_
  exact dx_less (L' := [some (.inr 6), some (.inl 0), some (.inl 0)]) ⟨rfl, rfl, rfl, trivial⟩ h
set_option maxRecDepth 100000 in
set_option maxHeartbeats 4000000 in
theorem r_SE_allExits_4 {E : dx_E} {d : Nat} {po : dx_P} {v1 v2 : Int32} {σ : dx_V} (h : ((σ 6 6) ≤ v2 → po (some v1) σ) ∧ (¬ (σ 6 6) ≤ v2 → vp_in v2 20 ∧ (dx_ci (m_SE_exitSet E d (σ 31 v2.toNatClampNeg) σ) (fun x2 σ1 => g_SE_allExits_4 E (d + 1) po (v1 ||| x2) (v2 + 1) σ1)))) : g_SE_allExits_4 E (d + 1) po v1 v2 σ := by
  show dx_G tX E (d + 1) RSE cSE_allExits 3 (some .int) po 4 [some (.inr 6), some (.inl v1), some (.inl v2)] [] σ
  refine dx_iload_n dSE_allExits_4 rfl ?_
  refine dx_aload_n dSE_allExits_5 rfl ?_
  refine dx_geti dSE_allExits_6 flSE_34 rfl rfl ?_
  refine dx_icmp_ge 31 dSE_allExits_9 (by decide) (fun q => ?_) (fun q => ?_)
  · have h := h.1 q
    refine dx_iload_n dSE_allExits_31 rfl ?_
    exact dx_ret dSE_allExits_32 rfl rfl h
  · have h := h.2 q
    refine dx_iload_n dSE_allExits_12 rfl ?_
    refine dx_aload_n dSE_allExits_13 rfl ?_
    refine dx_aload_n dSE_allExits_14 rfl ?_
    refine dx_getr dSE_allExits_15 flSE_15 rfl rfl ?_
    refine dx_iload_n dSE_allExits_18 rfl ?_
    obtain ⟨hi, h⟩ := h
    refine dx_iaload dSE_allExits_19 rfl hi ?_
    obtain ⟨pp, hm, hk⟩ := h
    refine dx_callvi [.inl (σ 31 v2.toNatClampNeg)] [.inl v1] dSE_allExits_20 cvSE_91 rfl (Nat.le_of_ble_eq_true rfl) rfl hm (fun x2 σ1 hp => ?_)
    have h := hk x2 σ1 hp
    refine dx_ior dSE_allExits_23 ?_
    refine dx_istore_n (L' := [some (.inr 6), some (.inl (v1 ||| x2)), some (.inl v2)]) dSE_allExits_24 (Nat.le_of_ble_eq_true rfl) rfl ?_
    refine dx_iinc (v := v2 + 1) (L' := [some (.inr 6), some (.inl (v1 ||| x2)), some (.inl (v2 + 1))]) dSE_allExits_25 rfl rfl rfl ?_
    refine dx_goto 4 dSE_allExits_28 (by decide) ?_
    exact dx_less (L' := [some (.inr 6), some (.inl (v1 ||| x2)), some (.inl (v2 + 1))]) ⟨rfl, rfl, rfl, trivial⟩ h
set_option maxRecDepth 100000 in
set_option maxHeartbeats 4000000 in
theorem r_SV_put {E : dx_E} {d : Nat} {a1 a2 : Int32} {σ : dx_V} {po : dx_P} (h : (¬ (σ 10 2) = 12 → vp_in (σ 10 2) 12 ∧ (vp_in (σ 10 2) 12 ∧ (po (some 1) (dx_u (dx_u (dx_u σ 35 (σ 10 2).toNatClampNeg a1) 36 (σ 10 2).toNatClampNeg a2) 10 2 ((σ 10 2) + 1))))) ∧ ((σ 10 2) = 12 → po (some 0) σ)) : m_SV_put E d a1 a2 σ po := by
  refine dx_entry (by decide) (Nat.le_of_ble_eq_true rfl) ?_
  show dx_G tX E d RSV cSV_put 3 (some .boolean) po 0 [some (.inr 10), some (.inl a1), some (.inl a2)] [] σ
  refine dx_aload_n dSV_put_0 rfl ?_
  refine dx_geti dSV_put_1 flSV_18 rfl rfl ?_
  refine dx_bipush (v := 12) dSV_put_4 (by decide) ?_
  refine dx_icmp_ne 11 dSV_put_6 (by decide) (fun q => ?_) (fun q => ?_)
  · have h := h.1 q
    refine dx_aload_n dSV_put_11 rfl ?_
    refine dx_getr dSV_put_12 flSV_9 rfl rfl ?_
    refine dx_aload_n dSV_put_15 rfl ?_
    refine dx_geti dSV_put_16 flSV_18 rfl rfl ?_
    refine dx_iload_n dSV_put_19 rfl ?_
    obtain ⟨hi, h⟩ := h
    refine dx_iastore dSV_put_20 rfl hi ?_
    refine dx_aload_n dSV_put_21 rfl ?_
    refine dx_getr dSV_put_22 flSV_15 rfl rfl ?_
    refine dx_aload_n dSV_put_25 rfl ?_
    refine dx_geti dSV_put_26 flSV_18 rfl rfl ?_
    refine dx_iload_n dSV_put_29 rfl ?_
    obtain ⟨hi, h⟩ := h
    refine dx_iastore dSV_put_30 rfl hi ?_
    refine dx_aload_n dSV_put_31 rfl ?_
    refine dx_dup dSV_put_32 ?_
    refine dx_geti dSV_put_33 flSV_18 rfl rfl ?_
    refine dx_iconst (v := 1) dSV_put_36 (by decide) ?_
    refine dx_iadd dSV_put_37 ?_
    refine dx_put dSV_put_38 fpSV_18 rfl rfl (Or.inl rfl) ?_
    refine dx_iconst (v := 1) dSV_put_41 (by decide) ?_
    exact dx_ret dSV_put_42 rfl rfl h
  · have h := h.2 q
    refine dx_iconst (v := 0) dSV_put_9 (by decide) ?_
    exact dx_ret dSV_put_10 rfl rfl h
def g_SV_placeOfEarliest_4 (E : dx_E) (d : Nat) (po : dx_P) (v1 v2 v3 : Int32) (σ : dx_V) : Prop := dx_G tX E d RSV cSV_placeOfEarliest 4 (some .int) po 4 [some (.inr 10), some (.inl v1), some (.inl v2), some (.inl v3)] [] σ
set_option maxRecDepth 100000 in
set_option maxHeartbeats 4000000 in
theorem r_SV_placeOfEarliest {E : dx_E} {d : Nat} {a1 : Int32} {σ : dx_V} {po : dx_P} (h : g_SV_placeOfEarliest_4 E d po a1 (-1) 0 σ) : m_SV_placeOfEarliest E d a1 σ po := by
  refine dx_entry (by decide) (Nat.le_of_ble_eq_true rfl) ?_
  show dx_G tX E d RSV cSV_placeOfEarliest 4 (some .int) po 0 [some (.inr 10), some (.inl a1), none, none] [] σ
  refine dx_iconst (v := (-1)) dSV_placeOfEarliest_0 (by decide) ?_
  refine dx_istore_n (L' := [some (.inr 10), some (.inl a1), some (.inl (-1)), none]) dSV_placeOfEarliest_1 (Nat.le_of_ble_eq_true rfl) rfl ?_
  refine dx_iconst (v := 0) dSV_placeOfEarliest_2 (by decide) ?_
  refine dx_istore_n (L' := [some (.inr 10), some (.inl a1), some (.inl (-1)), some (.inl 0)]) dSV_placeOfEarliest_3 (Nat.le_of_ble_eq_true rfl) rfl ?_
  exact dx_less (L' := [some (.inr 10), some (.inl a1), some (.inl (-1)), some (.inl 0)]) ⟨rfl, rfl, rfl, rfl, trivial⟩ h
set_option maxRecDepth 100000 in
set_option maxHeartbeats 4000000 in
theorem r_SV_placeOfEarliest_4 {E : dx_E} {d : Nat} {po : dx_P} {v1 v2 v3 : Int32} {σ : dx_V} (h : ((σ 10 2) ≤ v3 → po (some v2) σ) ∧ (¬ (σ 10 2) ≤ v3 → vp_in v3 12 ∧ ((v1 < (σ 36 v3.toNatClampNeg) → g_SV_placeOfEarliest_4 E d po v1 v2 (v3 + 1) σ) ∧ (¬ v1 < (σ 36 v3.toNatClampNeg) → (v2 = (-1) → g_SV_placeOfEarliest_4 E d po v1 v3 (v3 + 1) σ) ∧ (¬ v2 = (-1) → vp_in v3 12 ∧ (vp_in v2 12 ∧ (((σ 36 v2.toNatClampNeg) ≤ (σ 36 v3.toNatClampNeg) → g_SV_placeOfEarliest_4 E d po v1 v2 (v3 + 1) σ) ∧ (¬ (σ 36 v2.toNatClampNeg) ≤ (σ 36 v3.toNatClampNeg) → g_SV_placeOfEarliest_4 E d po v1 v3 (v3 + 1) σ)))))))) : g_SV_placeOfEarliest_4 E d po v1 v2 v3 σ := by
  show dx_G tX E d RSV cSV_placeOfEarliest 4 (some .int) po 4 [some (.inr 10), some (.inl v1), some (.inl v2), some (.inl v3)] [] σ
  refine dx_iload_n dSV_placeOfEarliest_4 rfl ?_
  refine dx_aload_n dSV_placeOfEarliest_5 rfl ?_
  refine dx_geti dSV_placeOfEarliest_6 flSV_18 rfl rfl ?_
  refine dx_icmp_ge 50 dSV_placeOfEarliest_9 (by decide) (fun q => ?_) (fun q => ?_)
  · have h := h.1 q
    refine dx_iload_n dSV_placeOfEarliest_50 rfl ?_
    exact dx_ret dSV_placeOfEarliest_51 rfl rfl h
  · have h := h.2 q
    refine dx_aload_n dSV_placeOfEarliest_12 rfl ?_
    refine dx_getr dSV_placeOfEarliest_13 flSV_15 rfl rfl ?_
    refine dx_iload_n dSV_placeOfEarliest_16 rfl ?_
    obtain ⟨hi, h⟩ := h
    refine dx_iaload dSV_placeOfEarliest_17 rfl hi ?_
    refine dx_iload_n dSV_placeOfEarliest_18 rfl ?_
    refine dx_icmp_gt 44 dSV_placeOfEarliest_19 (by decide) (fun q => ?_) (fun q => ?_)
    · have h := h.1 q
      refine dx_iinc (v := v3 + 1) (L' := [some (.inr 10), some (.inl v1), some (.inl v2), some (.inl (v3 + 1))]) dSV_placeOfEarliest_44 rfl rfl rfl ?_
      refine dx_goto 4 dSV_placeOfEarliest_47 (by decide) ?_
      exact dx_less (L' := [some (.inr 10), some (.inl v1), some (.inl v2), some (.inl (v3 + 1))]) ⟨rfl, rfl, rfl, rfl, trivial⟩ h
    · have h := h.2 q
      refine dx_iload_n dSV_placeOfEarliest_22 rfl ?_
      refine dx_iconst (v := (-1)) dSV_placeOfEarliest_23 (by decide) ?_
      refine dx_icmp_eq 42 dSV_placeOfEarliest_24 (by decide) (fun q => ?_) (fun q => ?_)
      · have h := h.1 q
        refine dx_iload_n dSV_placeOfEarliest_42 rfl ?_
        refine dx_istore_n (L' := [some (.inr 10), some (.inl v1), some (.inl v3), some (.inl v3)]) dSV_placeOfEarliest_43 (Nat.le_of_ble_eq_true rfl) rfl ?_
        refine dx_iinc (v := v3 + 1) (L' := [some (.inr 10), some (.inl v1), some (.inl v3), some (.inl (v3 + 1))]) dSV_placeOfEarliest_44 rfl rfl rfl ?_
        refine dx_goto 4 dSV_placeOfEarliest_47 (by decide) ?_
        exact dx_less (L' := [some (.inr 10), some (.inl v1), some (.inl v3), some (.inl (v3 + 1))]) ⟨rfl, rfl, rfl, rfl, trivial⟩ h
      · have h := h.2 q
        refine dx_aload_n dSV_placeOfEarliest_27 rfl ?_
        refine dx_getr dSV_placeOfEarliest_28 flSV_15 rfl rfl ?_
        refine dx_iload_n dSV_placeOfEarliest_31 rfl ?_
        obtain ⟨hi, h⟩ := h
        refine dx_iaload dSV_placeOfEarliest_32 rfl hi ?_
        refine dx_aload_n dSV_placeOfEarliest_33 rfl ?_
        refine dx_getr dSV_placeOfEarliest_34 flSV_15 rfl rfl ?_
        refine dx_iload_n dSV_placeOfEarliest_37 rfl ?_
        obtain ⟨hi, h⟩ := h
        refine dx_iaload dSV_placeOfEarliest_38 rfl hi ?_
        refine dx_icmp_ge 44 dSV_placeOfEarliest_39 (by decide) (fun q => ?_) (fun q => ?_)
        · have h := h.1 q
          refine dx_iinc (v := v3 + 1) (L' := [some (.inr 10), some (.inl v1), some (.inl v2), some (.inl (v3 + 1))]) dSV_placeOfEarliest_44 rfl rfl rfl ?_
          refine dx_goto 4 dSV_placeOfEarliest_47 (by decide) ?_
          exact dx_less (L' := [some (.inr 10), some (.inl v1), some (.inl v2), some (.inl (v3 + 1))]) ⟨rfl, rfl, rfl, rfl, trivial⟩ h
        · have h := h.2 q
          refine dx_iload_n dSV_placeOfEarliest_42 rfl ?_
          refine dx_istore_n (L' := [some (.inr 10), some (.inl v1), some (.inl v3), some (.inl v3)]) dSV_placeOfEarliest_43 (Nat.le_of_ble_eq_true rfl) rfl ?_
          refine dx_iinc (v := v3 + 1) (L' := [some (.inr 10), some (.inl v1), some (.inl v3), some (.inl (v3 + 1))]) dSV_placeOfEarliest_44 rfl rfl rfl ?_
          refine dx_goto 4 dSV_placeOfEarliest_47 (by decide) ?_
          exact dx_less (L' := [some (.inr 10), some (.inl v1), some (.inl v3), some (.inl (v3 + 1))]) ⟨rfl, rfl, rfl, rfl, trivial⟩ h
def g_SV_drop_25 (E : dx_E) (d : Nat) (po : dx_P) (v2 : Int32) (σ : dx_V) : Prop := dx_G tX E d RSV cSV_drop 3 none po 25 [some (.inr 10), none, some (.inl v2)] [] σ
set_option maxRecDepth 100000 in
set_option maxHeartbeats 4000000 in
theorem r_SV_drop {E : dx_E} {d : Nat} {a1 : Int32} {σ : dx_V} {po : dx_P} (h : (a1 < 0 → po none σ) ∧ (¬ a1 < 0 → (a1 < (σ 10 2) → g_SV_drop_25 E d po a1 (dx_u σ 10 2 ((σ 10 2) - 1))) ∧ (¬ a1 < (σ 10 2) → po none σ))) : m_SV_drop E d a1 σ po := by
  refine dx_entry (by decide) (Nat.le_of_ble_eq_true rfl) ?_
  show dx_G tX E d RSV cSV_drop 3 none po 0 [some (.inr 10), some (.inl a1), none] [] σ
  refine dx_iload_n dSV_drop_0 rfl ?_
  refine dx_if_lt 12 dSV_drop_1 (by decide) (fun q => ?_) (fun q => ?_)
  · have h := h.1 q
    exact dx_vret dSV_drop_12 rfl h
  · have h := h.2 q
    refine dx_iload_n dSV_drop_4 rfl ?_
    refine dx_aload_n dSV_drop_5 rfl ?_
    refine dx_geti dSV_drop_6 flSV_18 rfl rfl ?_
    refine dx_icmp_lt 13 dSV_drop_9 (by decide) (fun q => ?_) (fun q => ?_)
    · have h := h.1 q
      refine dx_aload_n dSV_drop_13 rfl ?_
      refine dx_dup dSV_drop_14 ?_
      refine dx_geti dSV_drop_15 flSV_18 rfl rfl ?_
      refine dx_iconst (v := 1) dSV_drop_18 (by decide) ?_
      refine dx_isub dSV_drop_19 ?_
      refine dx_put dSV_drop_20 fpSV_18 rfl rfl (Or.inl rfl) ?_
      refine dx_iload_n dSV_drop_23 rfl ?_
      refine dx_istore_n (L' := [some (.inr 10), some (.inl a1), some (.inl a1)]) dSV_drop_24 (Nat.le_of_ble_eq_true rfl) rfl ?_
      exact dx_less (L' := [some (.inr 10), none, some (.inl a1)]) ⟨rfl, rfl, trivial⟩ h
    · have h := h.2 q
      exact dx_vret dSV_drop_12 rfl h
set_option maxRecDepth 100000 in
set_option maxHeartbeats 4000000 in
theorem r_SV_drop_25 {E : dx_E} {d : Nat} {po : dx_P} {v2 : Int32} {σ : dx_V} (h : ((σ 10 2) ≤ v2 → po none σ) ∧ (¬ (σ 10 2) ≤ v2 → vp_in (v2 + 1) 12 ∧ (vp_in v2 12 ∧ (vp_in (v2 + 1) 12 ∧ (vp_in v2 12 ∧ (g_SV_drop_25 E d po (v2 + 1) (dx_u (dx_u σ 35 v2.toNatClampNeg (σ 35 (v2 + 1).toNatClampNeg)) 36 v2.toNatClampNeg (σ 36 (v2 + 1).toNatClampNeg)))))))) : g_SV_drop_25 E d po v2 σ := by
  show dx_G tX E d RSV cSV_drop 3 none po 25 [some (.inr 10), none, some (.inl v2)] [] σ
  refine dx_iload_n dSV_drop_25 rfl ?_
  refine dx_aload_n dSV_drop_26 rfl ?_
  refine dx_geti dSV_drop_27 flSV_18 rfl rfl ?_
  refine dx_icmp_ge 67 dSV_drop_30 (by decide) (fun q => ?_) (fun q => ?_)
  · have h := h.1 q
    exact dx_vret dSV_drop_67 rfl h
  · have h := h.2 q
    refine dx_aload_n dSV_drop_33 rfl ?_
    refine dx_getr dSV_drop_34 flSV_9 rfl rfl ?_
    refine dx_iload_n dSV_drop_37 rfl ?_
    refine dx_aload_n dSV_drop_38 rfl ?_
    refine dx_getr dSV_drop_39 flSV_9 rfl rfl ?_
    refine dx_iload_n dSV_drop_42 rfl ?_
    refine dx_iconst (v := 1) dSV_drop_43 (by decide) ?_
    refine dx_iadd dSV_drop_44 ?_
    obtain ⟨hi, h⟩ := h
    refine dx_iaload dSV_drop_45 rfl hi ?_
    obtain ⟨hi, h⟩ := h
    refine dx_iastore dSV_drop_46 rfl hi ?_
    refine dx_aload_n dSV_drop_47 rfl ?_
    refine dx_getr dSV_drop_48 flSV_15 rfl rfl ?_
    refine dx_iload_n dSV_drop_51 rfl ?_
    refine dx_aload_n dSV_drop_52 rfl ?_
    refine dx_getr dSV_drop_53 flSV_15 rfl rfl ?_
    refine dx_iload_n dSV_drop_56 rfl ?_
    refine dx_iconst (v := 1) dSV_drop_57 (by decide) ?_
    refine dx_iadd dSV_drop_58 ?_
    obtain ⟨hi, h⟩ := h
    refine dx_iaload dSV_drop_59 rfl hi ?_
    obtain ⟨hi, h⟩ := h
    refine dx_iastore dSV_drop_60 rfl hi ?_
    refine dx_iinc (v := v2 + 1) (L' := [some (.inr 10), none, some (.inl (v2 + 1))]) dSV_drop_61 rfl rfl rfl ?_
    refine dx_goto 25 dSV_drop_64 (by decide) ?_
    exact dx_less (L' := [some (.inr 10), none, some (.inl (v2 + 1))]) ⟨rfl, rfl, trivial⟩ h
set_option maxRecDepth 100000 in
set_option maxHeartbeats 4000000 in
theorem r_SI_clear {E : dx_E} {d : Nat} {σ : dx_V} {po : dx_P} (h : dx_cu (m_AR_fill_29 E d 0 σ) (fun σ1 => po none (dx_u σ1 5 1 0))) : m_SI_clear E (d + 1) σ po := by
  refine dx_entry (by decide) (Nat.le_of_ble_eq_true rfl) ?_
  show dx_G tX E (d + 1) RSI cSI_clear 1 none po 0 [some (.inr 5)] [] σ
  refine dx_aload_n dSI_clear_0 rfl ?_
  refine dx_getr dSI_clear_1 flSI_9 rfl rfl ?_
  refine dx_iconst (v := 0) dSI_clear_4 (by decide) ?_
  obtain ⟨pp, hm, hk⟩ := h
  refine dx_callsv [.inr 29, .inl 0] [] dSI_clear_5 csSI_15 (Nat.le_of_ble_eq_true rfl) rfl hm (fun σ1 hp => ?_)
  have h := hk σ1 hp
  refine dx_aload_n dSI_clear_8 rfl ?_
  refine dx_iconst (v := 0) dSI_clear_9 (by decide) ?_
  refine dx_put dSI_clear_10 fpSI_21 rfl rfl (Or.inl rfl) ?_
  exact dx_vret dSI_clear_13 rfl h
set_option maxRecDepth 100000 in
set_option maxHeartbeats 4000000 in
theorem r_SI_satisfies {E : dx_E} {d : Nat} {a2 : Int32} {σ : dx_V} {po : dx_P} (h : vp_in a2 20 ∧ (vp_in a2 20 ∧ (((σ 21 a2.toNatClampNeg) = 0 → vp_in a2 20 ∧ (vp_in (σ 22 a2.toNatClampNeg) 4 ∧ (((σ 23 a2.toNatClampNeg) ≤ (σ 29 (σ 22 a2.toNatClampNeg).toNatClampNeg) → po (some 0) σ) ∧ (¬ (σ 23 a2.toNatClampNeg) ≤ (σ 29 (σ 22 a2.toNatClampNeg).toNatClampNeg) → po (some 1) σ)))) ∧ ((σ 21 a2.toNatClampNeg) = 1 → vp_in a2 20 ∧ (vp_in (σ 22 a2.toNatClampNeg) 4 ∧ ((¬ (σ 29 (σ 22 a2.toNatClampNeg).toNatClampNeg) = (σ 23 a2.toNatClampNeg) → po (some 0) σ) ∧ ((σ 29 (σ 22 a2.toNatClampNeg).toNatClampNeg) = (σ 23 a2.toNatClampNeg) → po (some 1) σ)))) ∧ ((σ 21 a2.toNatClampNeg) = 2 → vp_in a2 20 ∧ (vp_in (σ 22 a2.toNatClampNeg) 4 ∧ (((σ 29 (σ 22 a2.toNatClampNeg).toNatClampNeg) ≤ (σ 23 a2.toNatClampNeg) → po (some 0) σ) ∧ (¬ (σ 29 (σ 22 a2.toNatClampNeg).toNatClampNeg) ≤ (σ 23 a2.toNatClampNeg) → po (some 1) σ)))) ∧ ((σ 21 a2.toNatClampNeg) = 3 → dx_ci (m_MC_isIn E d (σ 23 a2.toNatClampNeg) (σ 5 1) σ) (fun x2 σ1 => (x2 = 0 ∨ x2 = 1) ∧ po (some x2) σ1)) ∧ (¬ (σ 21 a2.toNatClampNeg) = 0 ∧ ¬ (σ 21 a2.toNatClampNeg) = 1 ∧ ¬ (σ 21 a2.toNatClampNeg) = 2 ∧ ¬ (σ 21 a2.toNatClampNeg) = 3 → po (some 1) σ)))) : m_SI_satisfies E (d + 1) a2 σ po := by
  refine dx_entry (by decide) (Nat.le_of_ble_eq_true rfl) ?_
  show dx_G tX E (d + 1) RSI cSI_satisfies 4 (some .boolean) po 0 [some (.inr 5), some (.inr 2), some (.inl a2), none] [] σ
  refine dx_aload_n dSI_satisfies_0 rfl ?_
  refine dx_getr dSI_satisfies_1 flSI_25 rfl rfl ?_
  refine dx_iload_n dSI_satisfies_4 rfl ?_
  obtain ⟨hi, h⟩ := h
  refine dx_iaload dSI_satisfies_5 rfl hi ?_
  refine dx_istore_n (L' := [some (.inr 5), some (.inr 2), some (.inl a2), some (.inl (σ 23 a2.toNatClampNeg))]) dSI_satisfies_6 (Nat.le_of_ble_eq_true rfl) rfl ?_
  refine dx_aload_n dSI_satisfies_7 rfl ?_
  refine dx_getr dSI_satisfies_8 flSI_30 rfl rfl ?_
  refine dx_iload_n dSI_satisfies_11 rfl ?_
  obtain ⟨hi, h⟩ := h
  refine dx_iaload dSI_satisfies_12 rfl hi ?_
  by_cases q0 : (σ 21 a2.toNatClampNeg) = 0
  · have h := h.1 q0
    refine dx_tableIn 44 dSI_satisfies_13 (by rw [q0]; decide) (by rw [q0]; decide) (by rw [q0]; rfl) (by decide) ?_
    refine dx_aload_n dSI_satisfies_44 rfl ?_
    refine dx_getr dSI_satisfies_45 flSI_9 rfl rfl ?_
    refine dx_aload_n dSI_satisfies_48 rfl ?_
    refine dx_getr dSI_satisfies_49 flSI_33 rfl rfl ?_
    refine dx_iload_n dSI_satisfies_52 rfl ?_
    obtain ⟨hi, h⟩ := h
    refine dx_iaload dSI_satisfies_53 rfl hi ?_
    obtain ⟨hi, h⟩ := h
    refine dx_iaload dSI_satisfies_54 rfl hi ?_
    refine dx_iload_n dSI_satisfies_55 rfl ?_
    refine dx_icmp_ge 63 dSI_satisfies_56 (by decide) (fun q => ?_) (fun q => ?_)
    · have h := h.1 q
      refine dx_iconst (v := 0) dSI_satisfies_63 (by decide) ?_
      exact dx_ret dSI_satisfies_64 rfl rfl h
    · have h := h.2 q
      refine dx_iconst (v := 1) dSI_satisfies_59 (by decide) ?_
      refine dx_goto 64 dSI_satisfies_60 (by decide) ?_
      exact dx_ret dSI_satisfies_64 rfl rfl h
  by_cases q1 : (σ 21 a2.toNatClampNeg) = 1
  · have h := h.2.1 q1
    refine dx_tableIn 65 dSI_satisfies_13 (by rw [q1]; decide) (by rw [q1]; decide) (by rw [q1]; rfl) (by decide) ?_
    refine dx_aload_n dSI_satisfies_65 rfl ?_
    refine dx_getr dSI_satisfies_66 flSI_9 rfl rfl ?_
    refine dx_aload_n dSI_satisfies_69 rfl ?_
    refine dx_getr dSI_satisfies_70 flSI_33 rfl rfl ?_
    refine dx_iload_n dSI_satisfies_73 rfl ?_
    obtain ⟨hi, h⟩ := h
    refine dx_iaload dSI_satisfies_74 rfl hi ?_
    obtain ⟨hi, h⟩ := h
    refine dx_iaload dSI_satisfies_75 rfl hi ?_
    refine dx_iload_n dSI_satisfies_76 rfl ?_
    refine dx_icmp_ne 84 dSI_satisfies_77 (by decide) (fun q => ?_) (fun q => ?_)
    · have h := h.1 q
      refine dx_iconst (v := 0) dSI_satisfies_84 (by decide) ?_
      exact dx_ret dSI_satisfies_85 rfl rfl h
    · have h := h.2 q
      refine dx_iconst (v := 1) dSI_satisfies_80 (by decide) ?_
      refine dx_goto 85 dSI_satisfies_81 (by decide) ?_
      exact dx_ret dSI_satisfies_85 rfl rfl h
  by_cases q2 : (σ 21 a2.toNatClampNeg) = 2
  · have h := h.2.2.1 q2
    refine dx_tableIn 86 dSI_satisfies_13 (by rw [q2]; decide) (by rw [q2]; decide) (by rw [q2]; rfl) (by decide) ?_
    refine dx_aload_n dSI_satisfies_86 rfl ?_
    refine dx_getr dSI_satisfies_87 flSI_9 rfl rfl ?_
    refine dx_aload_n dSI_satisfies_90 rfl ?_
    refine dx_getr dSI_satisfies_91 flSI_33 rfl rfl ?_
    refine dx_iload_n dSI_satisfies_94 rfl ?_
    obtain ⟨hi, h⟩ := h
    refine dx_iaload dSI_satisfies_95 rfl hi ?_
    obtain ⟨hi, h⟩ := h
    refine dx_iaload dSI_satisfies_96 rfl hi ?_
    refine dx_iload_n dSI_satisfies_97 rfl ?_
    refine dx_icmp_le 105 dSI_satisfies_98 (by decide) (fun q => ?_) (fun q => ?_)
    · have h := h.1 q
      refine dx_iconst (v := 0) dSI_satisfies_105 (by decide) ?_
      exact dx_ret dSI_satisfies_106 rfl rfl h
    · have h := h.2 q
      refine dx_iconst (v := 1) dSI_satisfies_101 (by decide) ?_
      refine dx_goto 106 dSI_satisfies_102 (by decide) ?_
      exact dx_ret dSI_satisfies_106 rfl rfl h
  by_cases q3 : (σ 21 a2.toNatClampNeg) = 3
  · have h := h.2.2.2.1 q3
    refine dx_tableIn 107 dSI_satisfies_13 (by rw [q3]; decide) (by rw [q3]; decide) (by rw [q3]; rfl) (by decide) ?_
    refine dx_iload_n dSI_satisfies_107 rfl ?_
    refine dx_aload_n dSI_satisfies_108 rfl ?_
    refine dx_geti dSI_satisfies_109 flSI_21 rfl rfl ?_
    obtain ⟨pp, hm, hk⟩ := h
    refine dx_callsi [.inl (σ 23 a2.toNatClampNeg), .inl (σ 5 1)] [] dSI_satisfies_112 csSI_36 (Nat.le_of_ble_eq_true rfl) rfl hm (fun x2 σ1 hp => ?_)
    have h := hk x2 σ1 hp
    exact dx_ret dSI_satisfies_115 rfl (dx_nz h.1) h.2
  have h := h.2.2.2.2 ⟨q0, q1, q2, q3⟩
  have z0 := dx_ne (k := 0) (n := 0) (by decide) q0
  have z1 := dx_ne (k := 1) (n := 1) (by decide) q1
  have z2 := dx_ne (k := 2) (n := 2) (by decide) q2
  have z3 := dx_ne (k := 3) (n := 3) (by decide) q3
  refine dx_tableOut 116 dSI_satisfies_13 (by omega) (by decide) ?_
  refine dx_iconst (v := 1) dSI_satisfies_116 (by decide) ?_
  exact dx_ret dSI_satisfies_117 rfl rfl h
set_option maxRecDepth 100000 in
set_option maxHeartbeats 4000000 in
theorem r_ST_isMade {E : dx_E} {d : Nat} {a1 : Int32} {σ : dx_V} {po : dx_P} (h : (a1 < 1 → po (some 0) σ) ∧ (¬ a1 < 1 → ((σ 1 6) < a1 → po (some 0) σ) ∧ (¬ (σ 1 6) < a1 → po (some 1) σ))) : m_ST_isMade E d a1 σ po := by
  refine dx_entry (by decide) (Nat.le_of_ble_eq_true rfl) ?_
  show dx_G tX E d RST cST_isMade 2 (some .boolean) po 0 [some (.inr 1), some (.inl a1)] [] σ
  refine dx_iload_n dST_isMade_0 rfl ?_
  refine dx_iconst (v := 1) dST_isMade_1 (by decide) ?_
  refine dx_icmp_lt 17 dST_isMade_2 (by decide) (fun q => ?_) (fun q => ?_)
  · have h := h.1 q
    refine dx_iconst (v := 0) dST_isMade_17 (by decide) ?_
    exact dx_ret dST_isMade_18 rfl rfl h
  · have h := h.2 q
    refine dx_iload_n dST_isMade_5 rfl ?_
    refine dx_aload_n dST_isMade_6 rfl ?_
    refine dx_geti dST_isMade_7 flST_30 rfl rfl ?_
    refine dx_icmp_gt 17 dST_isMade_10 (by decide) (fun q => ?_) (fun q => ?_)
    · have h := h.1 q
      refine dx_iconst (v := 0) dST_isMade_17 (by decide) ?_
      exact dx_ret dST_isMade_18 rfl rfl h
    · have h := h.2 q
      refine dx_iconst (v := 1) dST_isMade_13 (by decide) ?_
      refine dx_goto 18 dST_isMade_14 (by decide) ?_
      exact dx_ret dST_isMade_18 rfl rfl h
def g_ST_isHistory_20 (E : dx_E) (d : Nat) (po : dx_P) (σ : dx_V) : Prop := dx_G tX E d RST cST_isHistory 2 (some .boolean) po 20 [none, none] [] σ
set_option maxRecDepth 100000 in
set_option maxHeartbeats 4000000 in
theorem r_ST_isHistory {E : dx_E} {d : Nat} {a1 : Int32} {σ : dx_V} {po : dx_P} (h : vp_in a1 16 ∧ (((σ 11 a1.toNatClampNeg) = 4 → g_ST_isHistory_20 E d po σ) ∧ (¬ (σ 11 a1.toNatClampNeg) = 4 → vp_in a1 16 ∧ ((¬ (σ 11 a1.toNatClampNeg) = 5 → po (some 0) σ) ∧ ((σ 11 a1.toNatClampNeg) = 5 → g_ST_isHistory_20 E d po σ))))) : m_ST_isHistory E d a1 σ po := by
  refine dx_entry (by decide) (Nat.le_of_ble_eq_true rfl) ?_
  show dx_G tX E d RST cST_isHistory 2 (some .boolean) po 0 [some (.inr 1), some (.inl a1)] [] σ
  refine dx_aload_n dST_isHistory_0 rfl ?_
  refine dx_getr dST_isHistory_1 flST_9 rfl rfl ?_
  refine dx_iload_n dST_isHistory_4 rfl ?_
  obtain ⟨hi, h⟩ := h
  refine dx_iaload dST_isHistory_5 rfl hi ?_
  refine dx_iconst (v := 4) dST_isHistory_6 (by decide) ?_
  refine dx_icmp_eq 20 dST_isHistory_7 (by decide) (fun q => ?_) (fun q => ?_)
  · have h := h.1 q
    exact dx_less (L' := [none, none]) trivial h
  · have h := h.2 q
    refine dx_aload_n dST_isHistory_10 rfl ?_
    refine dx_getr dST_isHistory_11 flST_9 rfl rfl ?_
    refine dx_iload_n dST_isHistory_14 rfl ?_
    obtain ⟨hi, h⟩ := h
    refine dx_iaload dST_isHistory_15 rfl hi ?_
    refine dx_iconst (v := 5) dST_isHistory_16 (by decide) ?_
    refine dx_icmp_ne 24 dST_isHistory_17 (by decide) (fun q => ?_) (fun q => ?_)
    · have h := h.1 q
      refine dx_iconst (v := 0) dST_isHistory_24 (by decide) ?_
      exact dx_ret dST_isHistory_25 rfl rfl h
    · have h := h.2 q
      exact dx_less (L' := [none, none]) trivial h
set_option maxRecDepth 100000 in
set_option maxHeartbeats 4000000 in
theorem r_ST_isHistory_20 {E : dx_E} {d : Nat} {po : dx_P} {σ : dx_V} (h : po (some 1) σ) : g_ST_isHistory_20 E d po σ := by
  show dx_G tX E d RST cST_isHistory 2 (some .boolean) po 20 [none, none] [] σ
  refine dx_iconst (v := 1) dST_isHistory_20 (by decide) ?_
  refine dx_goto 25 dST_isHistory_21 (by decide) ?_
  exact dx_ret dST_isHistory_25 rfl rfl h
set_option maxRecDepth 100000 in
set_option maxHeartbeats 4000000 in
theorem r_ST_isMadeState {E : dx_E} {d : Nat} {a1 : Int32} {σ : dx_V} {po : dx_P} (h : dx_ci (m_ST_isMade E d a1 σ) (fun x2 σ1 => (x2 = 0 → po (some 0) σ1) ∧ (¬ x2 = 0 → dx_ci (m_ST_isHistory E d a1 σ1) (fun x4 σ3 => (¬ x4 = 0 → po (some 0) σ3) ∧ (x4 = 0 → po (some 1) σ3))))) : m_ST_isMadeState E (d + 1) a1 σ po := by
  refine dx_entry (by decide) (Nat.le_of_ble_eq_true rfl) ?_
  show dx_G tX E (d + 1) RST cST_isMadeState 2 (some .boolean) po 0 [some (.inr 1), some (.inl a1)] [] σ
  refine dx_aload_n dST_isMadeState_0 rfl ?_
  refine dx_iload_n dST_isMadeState_1 rfl ?_
  obtain ⟨pp, hm, hk⟩ := h
  refine dx_callvi [.inl a1] [] dST_isMadeState_2 cvST_34 rfl (Nat.le_of_ble_eq_true rfl) rfl hm (fun x2 σ1 hp => ?_)
  have h := hk x2 σ1 hp
  refine dx_if_eq 20 dST_isMadeState_5 (by decide) (fun q => ?_) (fun q => ?_)
  · have h := h.1 q
    refine dx_iconst (v := 0) dST_isMadeState_20 (by decide) ?_
    exact dx_ret dST_isMadeState_21 rfl rfl h
  · have h := h.2 q
    refine dx_aload_n dST_isMadeState_8 rfl ?_
    refine dx_iload_n dST_isMadeState_9 rfl ?_
    obtain ⟨pp, hm, hk⟩ := h
    refine dx_callvi [.inl a1] [] dST_isMadeState_10 cvST_38 rfl (Nat.le_of_ble_eq_true rfl) rfl hm (fun x4 σ3 hp => ?_)
    have h := hk x4 σ3 hp
    refine dx_if_ne 20 dST_isMadeState_13 (by decide) (fun q => ?_) (fun q => ?_)
    · have h := h.1 q
      refine dx_iconst (v := 0) dST_isMadeState_20 (by decide) ?_
      exact dx_ret dST_isMadeState_21 rfl rfl h
    · have h := h.2 q
      refine dx_iconst (v := 1) dST_isMadeState_16 (by decide) ?_
      refine dx_goto 21 dST_isMadeState_17 (by decide) ?_
      exact dx_ret dST_isMadeState_21 rfl rfl h
set_option maxRecDepth 100000 in
set_option maxHeartbeats 4000000 in
theorem r_ST_isAtomic {E : dx_E} {d : Nat} {a1 : Int32} {σ : dx_V} {po : dx_P} (h : vp_in a1 16 ∧ ((¬ (σ 14 a1.toNatClampNeg) = 0 → po (some 0) σ) ∧ ((σ 14 a1.toNatClampNeg) = 0 → po (some 1) σ))) : m_ST_isAtomic E d a1 σ po := by
  refine dx_entry (by decide) (Nat.le_of_ble_eq_true rfl) ?_
  show dx_G tX E d RST cST_isAtomic 2 (some .boolean) po 0 [some (.inr 1), some (.inl a1)] [] σ
  refine dx_aload_n dST_isAtomic_0 rfl ?_
  refine dx_getr dST_isAtomic_1 flST_21 rfl rfl ?_
  refine dx_iload_n dST_isAtomic_4 rfl ?_
  obtain ⟨hi, h⟩ := h
  refine dx_iaload dST_isAtomic_5 rfl hi ?_
  refine dx_if_ne 13 dST_isAtomic_6 (by decide) (fun q => ?_) (fun q => ?_)
  · have h := h.1 q
    refine dx_iconst (v := 0) dST_isAtomic_13 (by decide) ?_
    exact dx_ret dST_isAtomic_14 rfl rfl h
  · have h := h.2 q
    refine dx_iconst (v := 1) dST_isAtomic_9 (by decide) ?_
    refine dx_goto 14 dST_isAtomic_10 (by decide) ?_
    exact dx_ret dST_isAtomic_14 rfl rfl h
set_option maxRecDepth 100000 in
set_option maxHeartbeats 4000000 in
theorem r_ST_isCompound {E : dx_E} {d : Nat} {a1 : Int32} {σ : dx_V} {po : dx_P} (h : vp_in a1 16 ∧ ((¬ (σ 11 a1.toNatClampNeg) = 1 → po (some 0) σ) ∧ ((σ 11 a1.toNatClampNeg) = 1 → vp_in a1 16 ∧ (((σ 14 a1.toNatClampNeg) = 0 → po (some 0) σ) ∧ (¬ (σ 14 a1.toNatClampNeg) = 0 → po (some 1) σ))))) : m_ST_isCompound E d a1 σ po := by
  refine dx_entry (by decide) (Nat.le_of_ble_eq_true rfl) ?_
  show dx_G tX E d RST cST_isCompound 2 (some .boolean) po 0 [some (.inr 1), some (.inl a1)] [] σ
  refine dx_aload_n dST_isCompound_0 rfl ?_
  refine dx_getr dST_isCompound_1 flST_9 rfl rfl ?_
  refine dx_iload_n dST_isCompound_4 rfl ?_
  obtain ⟨hi, h⟩ := h
  refine dx_iaload dST_isCompound_5 rfl hi ?_
  refine dx_iconst (v := 1) dST_isCompound_6 (by decide) ?_
  refine dx_icmp_ne 23 dST_isCompound_7 (by decide) (fun q => ?_) (fun q => ?_)
  · have h := h.1 q
    refine dx_iconst (v := 0) dST_isCompound_23 (by decide) ?_
    exact dx_ret dST_isCompound_24 rfl rfl h
  · have h := h.2 q
    refine dx_aload_n dST_isCompound_10 rfl ?_
    refine dx_getr dST_isCompound_11 flST_21 rfl rfl ?_
    refine dx_iload_n dST_isCompound_14 rfl ?_
    obtain ⟨hi, h⟩ := h
    refine dx_iaload dST_isCompound_15 rfl hi ?_
    refine dx_if_eq 23 dST_isCompound_16 (by decide) (fun q => ?_) (fun q => ?_)
    · have h := h.1 q
      refine dx_iconst (v := 0) dST_isCompound_23 (by decide) ?_
      exact dx_ret dST_isCompound_24 rfl rfl h
    · have h := h.2 q
      refine dx_iconst (v := 1) dST_isCompound_19 (by decide) ?_
      refine dx_goto 24 dST_isCompound_20 (by decide) ?_
      exact dx_ret dST_isCompound_24 rfl rfl h
def g_ST_mayHold_64 (E : dx_E) (d : Nat) (po : dx_P) (σ : dx_V) : Prop := dx_G tX E d RST cST_mayHold 3 (some .boolean) po 64 [none, none, none] [] σ
set_option maxRecDepth 100000 in
set_option maxHeartbeats 4000000 in
theorem r_ST_mayHold {E : dx_E} {d : Nat} {a1 a2 : Int32} {σ : dx_V} {po : dx_P} (h : (a2 < 1 → po (some 0) σ) ∧ (¬ a2 < 1 → (5 < a2 → po (some 0) σ) ∧ (¬ 5 < a2 → (a1 < 0 → po (some 0) σ) ∧ (¬ a1 < 0 → (a1 ≤ (σ 1 6) → vp_in a1 16 ∧ ((¬ (σ 11 a1.toNatClampNeg) = 2 → vp_in a1 16 ∧ ((¬ (σ 11 a1.toNatClampNeg) = 1 → po (some 0) σ) ∧ ((σ 11 a1.toNatClampNeg) = 1 → (¬ a1 = 0 → g_ST_mayHold_64 E d po σ) ∧ (a1 = 0 → (3 < a2 → po (some 0) σ) ∧ (¬ 3 < a2 → g_ST_mayHold_64 E d po σ))))) ∧ ((σ 11 a1.toNatClampNeg) = 2 → (a2 = 3 → po (some 0) σ) ∧ (¬ a2 = 3 → po (some 1) σ)))) ∧ (¬ a1 ≤ (σ 1 6) → po (some 0) σ))))) : m_ST_mayHold E d a1 a2 σ po := by
  refine dx_entry (by decide) (Nat.le_of_ble_eq_true rfl) ?_
  show dx_G tX E d RST cST_mayHold 3 (some .boolean) po 0 [some (.inr 1), some (.inl a1), some (.inl a2)] [] σ
  refine dx_iload_n dST_mayHold_0 rfl ?_
  refine dx_iconst (v := 1) dST_mayHold_1 (by decide) ?_
  refine dx_icmp_lt 22 dST_mayHold_2 (by decide) (fun q => ?_) (fun q => ?_)
  · have h := h.1 q
    refine dx_iconst (v := 0) dST_mayHold_22 (by decide) ?_
    exact dx_ret dST_mayHold_23 rfl rfl h
  · have h := h.2 q
    refine dx_iload_n dST_mayHold_5 rfl ?_
    refine dx_iconst (v := 5) dST_mayHold_6 (by decide) ?_
    refine dx_icmp_gt 22 dST_mayHold_7 (by decide) (fun q => ?_) (fun q => ?_)
    · have h := h.1 q
      refine dx_iconst (v := 0) dST_mayHold_22 (by decide) ?_
      exact dx_ret dST_mayHold_23 rfl rfl h
    · have h := h.2 q
      refine dx_iload_n dST_mayHold_10 rfl ?_
      refine dx_if_lt 22 dST_mayHold_11 (by decide) (fun q => ?_) (fun q => ?_)
      · have h := h.1 q
        refine dx_iconst (v := 0) dST_mayHold_22 (by decide) ?_
        exact dx_ret dST_mayHold_23 rfl rfl h
      · have h := h.2 q
        refine dx_iload_n dST_mayHold_14 rfl ?_
        refine dx_aload_n dST_mayHold_15 rfl ?_
        refine dx_geti dST_mayHold_16 flST_30 rfl rfl ?_
        refine dx_icmp_le 24 dST_mayHold_19 (by decide) (fun q => ?_) (fun q => ?_)
        · have h := h.1 q
          refine dx_aload_n dST_mayHold_24 rfl ?_
          refine dx_getr dST_mayHold_25 flST_9 rfl rfl ?_
          refine dx_iload_n dST_mayHold_28 rfl ?_
          obtain ⟨hi, h⟩ := h
          refine dx_iaload dST_mayHold_29 rfl hi ?_
          refine dx_iconst (v := 2) dST_mayHold_30 (by decide) ?_
          refine dx_icmp_ne 45 dST_mayHold_31 (by decide) (fun q => ?_) (fun q => ?_)
          · have h := h.1 q
            refine dx_aload_n dST_mayHold_45 rfl ?_
            refine dx_getr dST_mayHold_46 flST_9 rfl rfl ?_
            refine dx_iload_n dST_mayHold_49 rfl ?_
            obtain ⟨hi, h⟩ := h
            refine dx_iaload dST_mayHold_50 rfl hi ?_
            refine dx_iconst (v := 1) dST_mayHold_51 (by decide) ?_
            refine dx_icmp_ne 68 dST_mayHold_52 (by decide) (fun q => ?_) (fun q => ?_)
            · have h := h.1 q
              refine dx_iconst (v := 0) dST_mayHold_68 (by decide) ?_
              exact dx_ret dST_mayHold_69 rfl rfl h
            · have h := h.2 q
              refine dx_iload_n dST_mayHold_55 rfl ?_
              refine dx_if_ne 64 dST_mayHold_56 (by decide) (fun q => ?_) (fun q => ?_)
              · have h := h.1 q
                exact dx_less (L' := [none, none, none]) trivial h
              · have h := h.2 q
                refine dx_iload_n dST_mayHold_59 rfl ?_
                refine dx_iconst (v := 3) dST_mayHold_60 (by decide) ?_
                refine dx_icmp_gt 68 dST_mayHold_61 (by decide) (fun q => ?_) (fun q => ?_)
                · have h := h.1 q
                  refine dx_iconst (v := 0) dST_mayHold_68 (by decide) ?_
                  exact dx_ret dST_mayHold_69 rfl rfl h
                · have h := h.2 q
                  exact dx_less (L' := [none, none, none]) trivial h
          · have h := h.2 q
            refine dx_iload_n dST_mayHold_34 rfl ?_
            refine dx_iconst (v := 3) dST_mayHold_35 (by decide) ?_
            refine dx_icmp_eq 43 dST_mayHold_36 (by decide) (fun q => ?_) (fun q => ?_)
            · have h := h.1 q
              refine dx_iconst (v := 0) dST_mayHold_43 (by decide) ?_
              exact dx_ret dST_mayHold_44 rfl rfl h
            · have h := h.2 q
              refine dx_iconst (v := 1) dST_mayHold_39 (by decide) ?_
              refine dx_goto 44 dST_mayHold_40 (by decide) ?_
              exact dx_ret dST_mayHold_44 rfl rfl h
        · have h := h.2 q
          refine dx_iconst (v := 0) dST_mayHold_22 (by decide) ?_
          exact dx_ret dST_mayHold_23 rfl rfl h
set_option maxRecDepth 100000 in
set_option maxHeartbeats 4000000 in
theorem r_ST_mayHold_64 {E : dx_E} {d : Nat} {po : dx_P} {σ : dx_V} (h : po (some 1) σ) : g_ST_mayHold_64 E d po σ := by
  show dx_G tX E d RST cST_mayHold 3 (some .boolean) po 64 [none, none, none] [] σ
  refine dx_iconst (v := 1) dST_mayHold_64 (by decide) ?_
  refine dx_goto 69 dST_mayHold_65 (by decide) ?_
  exact dx_ret dST_mayHold_69 rfl rfl h
set_option maxRecDepth 100000 in
set_option maxHeartbeats 4000000 in
theorem r_ST_add {E : dx_E} {d : Nat} {a1 a2 : Int32} {σ : dx_V} {po : dx_P} (h : vp_in ((σ 1 6) + 1) 16 ∧ (vp_in ((σ 1 6) + 1) 16 ∧ (vp_in a1 16 ∧ (vp_in ((σ 1 6) + 1) 16 ∧ (dx_ci (m_ST_isHistory E d ((σ 1 6) + 1) (dx_u (dx_u (dx_u (dx_u σ 1 6 ((σ 1 6) + 1)) 11 ((σ 1 6) + 1).toNatClampNeg a2) 12 ((σ 1 6) + 1).toNatClampNeg a1) 15 ((σ 1 6) + 1).toNatClampNeg ((σ 15 a1.toNatClampNeg) ||| (1 <<< (a1 &&& 31))))) (fun x2 σ1 => (¬ x2 = 0 → po (some (σ1 1 6)) σ1) ∧ (x2 = 0 → dx_cu (m_ST_addChild E d a1 (σ1 1 6) σ1) (fun σ3 => po (some (σ3 1 6)) σ3)))))))) : m_ST_add E (d + 1) a1 a2 σ po := by
  refine dx_entry (by decide) (Nat.le_of_ble_eq_true rfl) ?_
  show dx_G tX E (d + 1) RST cST_add 3 (some .int) po 0 [some (.inr 1), some (.inl a1), some (.inl a2)] [] σ
  refine dx_aload_n dST_add_0 rfl ?_
  refine dx_dup dST_add_1 ?_
  refine dx_geti dST_add_2 flST_30 rfl rfl ?_
  refine dx_iconst (v := 1) dST_add_5 (by decide) ?_
  refine dx_iadd dST_add_6 ?_
  refine dx_put dST_add_7 fpST_30 rfl rfl (Or.inl rfl) ?_
  refine dx_aload_n dST_add_10 rfl ?_
  refine dx_getr dST_add_11 flST_9 rfl rfl ?_
  refine dx_aload_n dST_add_14 rfl ?_
  refine dx_geti dST_add_15 flST_30 rfl rfl ?_
  refine dx_iload_n dST_add_18 rfl ?_
  obtain ⟨hi, h⟩ := h
  refine dx_iastore dST_add_19 rfl hi ?_
  refine dx_aload_n dST_add_20 rfl ?_
  refine dx_getr dST_add_21 flST_15 rfl rfl ?_
  refine dx_aload_n dST_add_24 rfl ?_
  refine dx_geti dST_add_25 flST_30 rfl rfl ?_
  refine dx_iload_n dST_add_28 rfl ?_
  obtain ⟨hi, h⟩ := h
  refine dx_iastore dST_add_29 rfl hi ?_
  refine dx_aload_n dST_add_30 rfl ?_
  refine dx_getr dST_add_31 flST_24 rfl rfl ?_
  refine dx_aload_n dST_add_34 rfl ?_
  refine dx_geti dST_add_35 flST_30 rfl rfl ?_
  refine dx_aload_n dST_add_38 rfl ?_
  refine dx_getr dST_add_39 flST_24 rfl rfl ?_
  refine dx_iload_n dST_add_42 rfl ?_
  obtain ⟨hi, h⟩ := h
  refine dx_iaload dST_add_43 rfl hi ?_
  refine dx_iconst (v := 1) dST_add_44 (by decide) ?_
  refine dx_iload_n dST_add_45 rfl ?_
  refine dx_ishl dST_add_46 ?_
  refine dx_ior dST_add_47 ?_
  obtain ⟨hi, h⟩ := h
  refine dx_iastore dST_add_48 rfl hi ?_
  refine dx_aload_n dST_add_49 rfl ?_
  refine dx_aload_n dST_add_50 rfl ?_
  refine dx_geti dST_add_51 flST_30 rfl rfl ?_
  obtain ⟨pp, hm, hk⟩ := h
  refine dx_callvi [.inl ((σ 1 6) + 1)] [] dST_add_54 cvST_38 rfl (Nat.le_of_ble_eq_true rfl) rfl hm (fun x2 σ1 hp => ?_)
  have h := hk x2 σ1 hp
  refine dx_if_ne 69 dST_add_57 (by decide) (fun q => ?_) (fun q => ?_)
  · have h := h.1 q
    refine dx_aload_n dST_add_69 rfl ?_
    refine dx_geti dST_add_70 flST_30 rfl rfl ?_
    exact dx_ret dST_add_73 rfl rfl h
  · have h := h.2 q
    refine dx_aload_n dST_add_60 rfl ?_
    refine dx_iload_n dST_add_61 rfl ?_
    refine dx_aload_n dST_add_62 rfl ?_
    refine dx_geti dST_add_63 flST_30 rfl rfl ?_
    obtain ⟨pp, hm, hk⟩ := h
    refine dx_callvv [.inl a1, .inl (σ1 1 6)] [] dST_add_66 cvST_41 rfl (Nat.le_of_ble_eq_true rfl) rfl hm (fun σ3 hp => ?_)
    have h := hk σ3 hp
    refine dx_aload_n dST_add_69 rfl ?_
    refine dx_geti dST_add_70 flST_30 rfl rfl ?_
    exact dx_ret dST_add_73 rfl rfl h
def g_ST_addChild_16 (E : dx_E) (d : Nat) (po : dx_P) (v1 v2 : Int32) (σ : dx_V) : Prop := dx_G tX E d RST cST_addChild 4 none po 16 [some (.inr 1), some (.inl v1), some (.inl v2), none] [] σ
def g_ST_addChild_30 (E : dx_E) (d : Nat) (po : dx_P) (v2 v3 : Int32) (σ : dx_V) : Prop := dx_G tX E d RST cST_addChild 4 none po 30 [some (.inr 1), none, some (.inl v2), some (.inl v3)] [] σ
set_option maxRecDepth 100000 in
set_option maxHeartbeats 4000000 in
theorem r_ST_addChild {E : dx_E} {d : Nat} {a1 a2 : Int32} {σ : dx_V} {po : dx_P} (h : vp_in a1 16 ∧ ((¬ (σ 14 a1.toNatClampNeg) = 0 → g_ST_addChild_16 E (d + 1) po a1 a2 σ) ∧ ((σ 14 a1.toNatClampNeg) = 0 → vp_in a1 16 ∧ (g_ST_addChild_16 E (d + 1) po a1 a2 (dx_u σ 13 a1.toNatClampNeg a2))))) : m_ST_addChild E (d + 1) a1 a2 σ po := by
  refine dx_entry (by decide) (Nat.le_of_ble_eq_true rfl) ?_
  show dx_G tX E (d + 1) RST cST_addChild 4 none po 0 [some (.inr 1), some (.inl a1), some (.inl a2), none] [] σ
  refine dx_aload_n dST_addChild_0 rfl ?_
  refine dx_getr dST_addChild_1 flST_21 rfl rfl ?_
  refine dx_iload_n dST_addChild_4 rfl ?_
  obtain ⟨hi, h⟩ := h
  refine dx_iaload dST_addChild_5 rfl hi ?_
  refine dx_if_ne 16 dST_addChild_6 (by decide) (fun q => ?_) (fun q => ?_)
  · have h := h.1 q
    exact dx_less (L' := [some (.inr 1), some (.inl a1), some (.inl a2), none]) ⟨rfl, rfl, rfl, trivial⟩ h
  · have h := h.2 q
    refine dx_aload_n dST_addChild_9 rfl ?_
    refine dx_getr dST_addChild_10 flST_18 rfl rfl ?_
    refine dx_iload_n dST_addChild_13 rfl ?_
    refine dx_iload_n dST_addChild_14 rfl ?_
    obtain ⟨hi, h⟩ := h
    refine dx_iastore dST_addChild_15 rfl hi ?_
    exact dx_less (L' := [some (.inr 1), some (.inl a1), some (.inl a2), none]) ⟨rfl, rfl, rfl, trivial⟩ h
set_option maxRecDepth 100000 in
set_option maxHeartbeats 4000000 in
theorem r_ST_addChild_16 {E : dx_E} {d : Nat} {po : dx_P} {v1 v2 : Int32} {σ : dx_V} (h : vp_in v1 16 ∧ (vp_in v1 16 ∧ (g_ST_addChild_30 E (d + 1) po v2 0 (dx_u σ 14 v1.toNatClampNeg ((σ 14 v1.toNatClampNeg) ||| (1 <<< (v2 &&& 31))))))) : g_ST_addChild_16 E (d + 1) po v1 v2 σ := by
  show dx_G tX E (d + 1) RST cST_addChild 4 none po 16 [some (.inr 1), some (.inl v1), some (.inl v2), none] [] σ
  refine dx_aload_n dST_addChild_16 rfl ?_
  refine dx_getr dST_addChild_17 flST_21 rfl rfl ?_
  refine dx_iload_n dST_addChild_20 rfl ?_
  refine dx_dup2 dST_addChild_21 ?_
  obtain ⟨hi, h⟩ := h
  refine dx_iaload dST_addChild_22 rfl hi ?_
  refine dx_iconst (v := 1) dST_addChild_23 (by decide) ?_
  refine dx_iload_n dST_addChild_24 rfl ?_
  refine dx_ishl dST_addChild_25 ?_
  refine dx_ior dST_addChild_26 ?_
  obtain ⟨hi, h⟩ := h
  refine dx_iastore dST_addChild_27 rfl hi ?_
  refine dx_iconst (v := 0) dST_addChild_28 (by decide) ?_
  refine dx_istore_n (L' := [some (.inr 1), some (.inl v1), some (.inl v2), some (.inl 0)]) dST_addChild_29 (Nat.le_of_ble_eq_true rfl) rfl ?_
  exact dx_less (L' := [some (.inr 1), none, some (.inl v2), some (.inl 0)]) ⟨rfl, rfl, rfl, trivial⟩ h
set_option maxRecDepth 100000 in
set_option maxHeartbeats 4000000 in
theorem r_ST_addChild_30 {E : dx_E} {d : Nat} {po : dx_P} {v2 v3 : Int32} {σ : dx_V} (h : (v2 ≤ v3 → po none σ) ∧ (¬ v2 ≤ v3 → vp_in v2 16 ∧ (dx_ci (m_MC_isIn E d v3 (σ 15 v2.toNatClampNeg) σ) (fun x2 σ1 => (x2 = 0 → g_ST_addChild_30 E (d + 1) po v2 (v3 + 1) σ1) ∧ (¬ x2 = 0 → vp_in v3 16 ∧ (vp_in v3 16 ∧ (g_ST_addChild_30 E (d + 1) po v2 (v3 + 1) (dx_u σ1 16 v3.toNatClampNeg ((σ1 16 v3.toNatClampNeg) ||| (1 <<< (v2 &&& 31))))))))))) : g_ST_addChild_30 E (d + 1) po v2 v3 σ := by
  show dx_G tX E (d + 1) RST cST_addChild 4 none po 30 [some (.inr 1), none, some (.inl v2), some (.inl v3)] [] σ
  refine dx_iload_n dST_addChild_30 rfl ?_
  refine dx_iload_n dST_addChild_31 rfl ?_
  refine dx_icmp_ge 66 dST_addChild_32 (by decide) (fun q => ?_) (fun q => ?_)
  · have h := h.1 q
    exact dx_vret dST_addChild_66 rfl h
  · have h := h.2 q
    refine dx_iload_n dST_addChild_35 rfl ?_
    refine dx_aload_n dST_addChild_36 rfl ?_
    refine dx_getr dST_addChild_37 flST_24 rfl rfl ?_
    refine dx_iload_n dST_addChild_40 rfl ?_
    obtain ⟨hi, h⟩ := h
    refine dx_iaload dST_addChild_41 rfl hi ?_
    obtain ⟨pp, hm, hk⟩ := h
    refine dx_callsi [.inl v3, .inl (σ 15 v2.toNatClampNeg)] [] dST_addChild_42 csST_45 (Nat.le_of_ble_eq_true rfl) rfl hm (fun x2 σ1 hp => ?_)
    have h := hk x2 σ1 hp
    refine dx_if_eq 60 dST_addChild_45 (by decide) (fun q => ?_) (fun q => ?_)
    · have h := h.1 q
      refine dx_iinc (v := v3 + 1) (L' := [some (.inr 1), none, some (.inl v2), some (.inl (v3 + 1))]) dST_addChild_60 rfl rfl rfl ?_
      refine dx_goto 30 dST_addChild_63 (by decide) ?_
      exact dx_less (L' := [some (.inr 1), none, some (.inl v2), some (.inl (v3 + 1))]) ⟨rfl, rfl, rfl, trivial⟩ h
    · have h := h.2 q
      refine dx_aload_n dST_addChild_48 rfl ?_
      refine dx_getr dST_addChild_49 flST_27 rfl rfl ?_
      refine dx_iload_n dST_addChild_52 rfl ?_
      refine dx_dup2 dST_addChild_53 ?_
      obtain ⟨hi, h⟩ := h
      refine dx_iaload dST_addChild_54 rfl hi ?_
      refine dx_iconst (v := 1) dST_addChild_55 (by decide) ?_
      refine dx_iload_n dST_addChild_56 rfl ?_
      refine dx_ishl dST_addChild_57 ?_
      refine dx_ior dST_addChild_58 ?_
      obtain ⟨hi, h⟩ := h
      refine dx_iastore dST_addChild_59 rfl hi ?_
      refine dx_iinc (v := v3 + 1) (L' := [some (.inr 1), none, some (.inl v2), some (.inl (v3 + 1))]) dST_addChild_60 rfl rfl rfl ?_
      refine dx_goto 30 dST_addChild_63 (by decide) ?_
      exact dx_less (L' := [some (.inr 1), none, some (.inl v2), some (.inl (v3 + 1))]) ⟨rfl, rfl, rfl, trivial⟩ h
def g_ST_nearestCompoundAbove_18 (E : dx_E) (d : Nat) (po : dx_P) (v3 v4 : Int32) (σ : dx_V) : Prop := dx_G tX E d RST cST_nearestCompoundAbove 5 (some .int) po 18 [some (.inr 1), none, none, some (.inl v3), some (.inl v4)] [] σ
set_option maxRecDepth 100000 in
set_option maxHeartbeats 4000000 in
theorem r_ST_nearestCompoundAbove {E : dx_E} {d : Nat} {a1 a2 : Int32} {σ : dx_V} {po : dx_P} (h : vp_in a1 16 ∧ (vp_in a2 16 ∧ (g_ST_nearestCompoundAbove_18 E (d + 1) po ((σ 15 a1.toNatClampNeg) &&& (σ 15 a2.toNatClampNeg)) 15 σ))) : m_ST_nearestCompoundAbove E (d + 1) a1 a2 σ po := by
  refine dx_entry (by decide) (Nat.le_of_ble_eq_true rfl) ?_
  show dx_G tX E (d + 1) RST cST_nearestCompoundAbove 5 (some .int) po 0 [some (.inr 1), some (.inl a1), some (.inl a2), none, none] [] σ
  refine dx_aload_n dST_nearestCompoundAbove_0 rfl ?_
  refine dx_getr dST_nearestCompoundAbove_1 flST_24 rfl rfl ?_
  refine dx_iload_n dST_nearestCompoundAbove_4 rfl ?_
  obtain ⟨hi, h⟩ := h
  refine dx_iaload dST_nearestCompoundAbove_5 rfl hi ?_
  refine dx_aload_n dST_nearestCompoundAbove_6 rfl ?_
  refine dx_getr dST_nearestCompoundAbove_7 flST_24 rfl rfl ?_
  refine dx_iload_n dST_nearestCompoundAbove_10 rfl ?_
  obtain ⟨hi, h⟩ := h
  refine dx_iaload dST_nearestCompoundAbove_11 rfl hi ?_
  refine dx_iand dST_nearestCompoundAbove_12 ?_
  refine dx_istore_n (L' := [some (.inr 1), some (.inl a1), some (.inl a2), some (.inl ((σ 15 a1.toNatClampNeg) &&& (σ 15 a2.toNatClampNeg))), none]) dST_nearestCompoundAbove_13 (Nat.le_of_ble_eq_true rfl) rfl ?_
  refine dx_bipush (v := 15) dST_nearestCompoundAbove_14 (by decide) ?_
  refine dx_istore (L' := [some (.inr 1), some (.inl a1), some (.inl a2), some (.inl ((σ 15 a1.toNatClampNeg) &&& (σ 15 a2.toNatClampNeg))), some (.inl 15)]) dST_nearestCompoundAbove_16 (Nat.le_of_ble_eq_true rfl) rfl ?_
  exact dx_less (L' := [some (.inr 1), none, none, some (.inl ((σ 15 a1.toNatClampNeg) &&& (σ 15 a2.toNatClampNeg))), some (.inl 15)]) ⟨rfl, rfl, rfl, trivial⟩ h
set_option maxRecDepth 100000 in
set_option maxHeartbeats 4000000 in
theorem r_ST_nearestCompoundAbove_18 {E : dx_E} {d : Nat} {po : dx_P} {v3 v4 : Int32} {σ : dx_V} (h : (v4 < 1 → po (some 0) σ) ∧ (¬ v4 < 1 → dx_ci (m_MC_isIn E d v4 v3 σ) (fun x2 σ1 => (x2 = 0 → g_ST_nearestCompoundAbove_18 E (d + 1) po v3 (v4 + (-1)) σ1) ∧ (¬ x2 = 0 → dx_ci (m_ST_isCompound E d v4 σ1) (fun x4 σ3 => (x4 = 0 → g_ST_nearestCompoundAbove_18 E (d + 1) po v3 (v4 + (-1)) σ3) ∧ (¬ x4 = 0 → po (some v4) σ3)))))) : g_ST_nearestCompoundAbove_18 E (d + 1) po v3 v4 σ := by
  show dx_G tX E (d + 1) RST cST_nearestCompoundAbove 5 (some .int) po 18 [some (.inr 1), none, none, some (.inl v3), some (.inl v4)] [] σ
  refine dx_iload dST_nearestCompoundAbove_18 rfl ?_
  refine dx_iconst (v := 1) dST_nearestCompoundAbove_20 (by decide) ?_
  refine dx_icmp_lt 51 dST_nearestCompoundAbove_21 (by decide) (fun q => ?_) (fun q => ?_)
  · have h := h.1 q
    refine dx_iconst (v := 0) dST_nearestCompoundAbove_51 (by decide) ?_
    exact dx_ret dST_nearestCompoundAbove_52 rfl rfl h
  · have h := h.2 q
    refine dx_iload dST_nearestCompoundAbove_24 rfl ?_
    refine dx_iload_n dST_nearestCompoundAbove_26 rfl ?_
    obtain ⟨pp, hm, hk⟩ := h
    refine dx_callsi [.inl v4, .inl v3] [] dST_nearestCompoundAbove_27 csST_45 (Nat.le_of_ble_eq_true rfl) rfl hm (fun x2 σ1 hp => ?_)
    have h := hk x2 σ1 hp
    refine dx_if_eq 45 dST_nearestCompoundAbove_30 (by decide) (fun q => ?_) (fun q => ?_)
    · have h := h.1 q
      refine dx_iinc (v := v4 + (-1)) (L' := [some (.inr 1), none, none, some (.inl v3), some (.inl (v4 + (-1)))]) dST_nearestCompoundAbove_45 rfl rfl rfl ?_
      refine dx_goto 18 dST_nearestCompoundAbove_48 (by decide) ?_
      exact dx_less (L' := [some (.inr 1), none, none, some (.inl v3), some (.inl (v4 + (-1)))]) ⟨rfl, rfl, rfl, trivial⟩ h
    · have h := h.2 q
      refine dx_aload_n dST_nearestCompoundAbove_33 rfl ?_
      refine dx_iload dST_nearestCompoundAbove_34 rfl ?_
      obtain ⟨pp, hm, hk⟩ := h
      refine dx_callvi [.inl v4] [] dST_nearestCompoundAbove_36 cvST_49 rfl (Nat.le_of_ble_eq_true rfl) rfl hm (fun x4 σ3 hp => ?_)
      have h := hk x4 σ3 hp
      refine dx_if_eq 45 dST_nearestCompoundAbove_39 (by decide) (fun q => ?_) (fun q => ?_)
      · have h := h.1 q
        refine dx_iinc (v := v4 + (-1)) (L' := [some (.inr 1), none, none, some (.inl v3), some (.inl (v4 + (-1)))]) dST_nearestCompoundAbove_45 rfl rfl rfl ?_
        refine dx_goto 18 dST_nearestCompoundAbove_48 (by decide) ?_
        exact dx_less (L' := [some (.inr 1), none, none, some (.inl v3), some (.inl (v4 + (-1)))]) ⟨rfl, rfl, rfl, trivial⟩ h
      · have h := h.2 q
        refine dx_iload dST_nearestCompoundAbove_42 rfl ?_
        exact dx_ret dST_nearestCompoundAbove_44 rfl rfl h
def g_ST_isWhole_12 (E : dx_E) (d : Nat) (po : dx_P) (v1 : Int32) (σ : dx_V) : Prop := dx_G tX E d RST cST_isWhole 2 (some .boolean) po 12 [some (.inr 1), some (.inl v1)] [] σ
def g_ST_isWhole_40 (E : dx_E) (d : Nat) (po : dx_P) (v1 : Int32) (σ : dx_V) : Prop := dx_G tX E d RST cST_isWhole 2 (some .boolean) po 40 [some (.inr 1), some (.inl v1)] [] σ
set_option maxRecDepth 100000 in
set_option maxHeartbeats 4000000 in
theorem r_ST_isWhole {E : dx_E} {d : Nat} {σ : dx_V} {po : dx_P} (h : dx_ci (m_ST_isAtomic E d 0 σ) (fun x2 σ1 => (x2 = 0 → g_ST_isWhole_12 E (d + 1) po 1 σ1) ∧ (¬ x2 = 0 → po (some 0) σ1))) : m_ST_isWhole E (d + 1) σ po := by
  refine dx_entry (by decide) (Nat.le_of_ble_eq_true rfl) ?_
  show dx_G tX E (d + 1) RST cST_isWhole 2 (some .boolean) po 0 [some (.inr 1), none] [] σ
  refine dx_aload_n dST_isWhole_0 rfl ?_
  refine dx_iconst (v := 0) dST_isWhole_1 (by decide) ?_
  obtain ⟨pp, hm, hk⟩ := h
  refine dx_callvi [.inl 0] [] dST_isWhole_2 cvST_52 rfl (Nat.le_of_ble_eq_true rfl) rfl hm (fun x2 σ1 hp => ?_)
  have h := hk x2 σ1 hp
  refine dx_if_eq 10 dST_isWhole_5 (by decide) (fun q => ?_) (fun q => ?_)
  · have h := h.1 q
    refine dx_iconst (v := 1) dST_isWhole_10 (by decide) ?_
    refine dx_istore_n (L' := [some (.inr 1), some (.inl 1)]) dST_isWhole_11 (Nat.le_of_ble_eq_true rfl) rfl ?_
    exact dx_less (L' := [some (.inr 1), some (.inl 1)]) ⟨rfl, rfl, trivial⟩ h
  · have h := h.2 q
    refine dx_iconst (v := 0) dST_isWhole_8 (by decide) ?_
    exact dx_ret dST_isWhole_9 rfl rfl h
set_option maxRecDepth 100000 in
set_option maxHeartbeats 4000000 in
theorem r_ST_isWhole_12 {E : dx_E} {d : Nat} {po : dx_P} {v1 : Int32} {σ : dx_V} (h : ((σ 1 6) < v1 → po (some 1) σ) ∧ (¬ (σ 1 6) < v1 → vp_in v1 16 ∧ ((¬ (σ 11 v1.toNatClampNeg) = 2 → g_ST_isWhole_40 E (d + 1) po v1 σ) ∧ ((σ 11 v1.toNatClampNeg) = 2 → dx_ci (m_ST_isAtomic E d v1 σ) (fun x2 σ1 => (x2 = 0 → g_ST_isWhole_40 E (d + 1) po v1 σ1) ∧ (¬ x2 = 0 → po (some 0) σ1)))))) : g_ST_isWhole_12 E (d + 1) po v1 σ := by
  show dx_G tX E (d + 1) RST cST_isWhole 2 (some .boolean) po 12 [some (.inr 1), some (.inl v1)] [] σ
  refine dx_iload_n dST_isWhole_12 rfl ?_
  refine dx_aload_n dST_isWhole_13 rfl ?_
  refine dx_geti dST_isWhole_14 flST_30 rfl rfl ?_
  refine dx_icmp_gt 69 dST_isWhole_17 (by decide) (fun q => ?_) (fun q => ?_)
  · have h := h.1 q
    refine dx_iconst (v := 1) dST_isWhole_69 (by decide) ?_
    exact dx_ret dST_isWhole_70 rfl rfl h
  · have h := h.2 q
    refine dx_aload_n dST_isWhole_20 rfl ?_
    refine dx_getr dST_isWhole_21 flST_9 rfl rfl ?_
    refine dx_iload_n dST_isWhole_24 rfl ?_
    obtain ⟨hi, h⟩ := h
    refine dx_iaload dST_isWhole_25 rfl hi ?_
    refine dx_iconst (v := 2) dST_isWhole_26 (by decide) ?_
    refine dx_icmp_ne 40 dST_isWhole_27 (by decide) (fun q => ?_) (fun q => ?_)
    · have h := h.1 q
      exact dx_less (L' := [some (.inr 1), some (.inl v1)]) ⟨rfl, rfl, trivial⟩ h
    · have h := h.2 q
      refine dx_aload_n dST_isWhole_30 rfl ?_
      refine dx_iload_n dST_isWhole_31 rfl ?_
      obtain ⟨pp, hm, hk⟩ := h
      refine dx_callvi [.inl v1] [] dST_isWhole_32 cvST_52 rfl (Nat.le_of_ble_eq_true rfl) rfl hm (fun x2 σ1 hp => ?_)
      have h := hk x2 σ1 hp
      refine dx_if_eq 40 dST_isWhole_35 (by decide) (fun q => ?_) (fun q => ?_)
      · have h := h.1 q
        exact dx_less (L' := [some (.inr 1), some (.inl v1)]) ⟨rfl, rfl, trivial⟩ h
      · have h := h.2 q
        refine dx_iconst (v := 0) dST_isWhole_38 (by decide) ?_
        exact dx_ret dST_isWhole_39 rfl rfl h
set_option maxRecDepth 100000 in
set_option maxHeartbeats 4000000 in
theorem r_ST_isWhole_40 {E : dx_E} {d : Nat} {po : dx_P} {v1 : Int32} {σ : dx_V} (h : dx_ci (m_ST_isHistory E d v1 σ) (fun x2 σ1 => (x2 = 0 → g_ST_isWhole_12 E (d + 1) po (v1 + 1) σ1) ∧ (¬ x2 = 0 → vp_in v1 16 ∧ (dx_ci (m_ST_isAtomic E d (σ1 12 v1.toNatClampNeg) σ1) (fun x4 σ3 => (x4 = 0 → g_ST_isWhole_12 E (d + 1) po (v1 + 1) σ3) ∧ (¬ x4 = 0 → po (some 0) σ3)))))) : g_ST_isWhole_40 E (d + 1) po v1 σ := by
  show dx_G tX E (d + 1) RST cST_isWhole 2 (some .boolean) po 40 [some (.inr 1), some (.inl v1)] [] σ
  refine dx_aload_n dST_isWhole_40 rfl ?_
  refine dx_iload_n dST_isWhole_41 rfl ?_
  obtain ⟨pp, hm, hk⟩ := h
  refine dx_callvi [.inl v1] [] dST_isWhole_42 cvST_38 rfl (Nat.le_of_ble_eq_true rfl) rfl hm (fun x2 σ1 hp => ?_)
  have h := hk x2 σ1 hp
  refine dx_if_eq 63 dST_isWhole_45 (by decide) (fun q => ?_) (fun q => ?_)
  · have h := h.1 q
    refine dx_iinc (v := v1 + 1) (L' := [some (.inr 1), some (.inl (v1 + 1))]) dST_isWhole_63 rfl rfl rfl ?_
    refine dx_goto 12 dST_isWhole_66 (by decide) ?_
    exact dx_less (L' := [some (.inr 1), some (.inl (v1 + 1))]) ⟨rfl, rfl, trivial⟩ h
  · have h := h.2 q
    refine dx_aload_n dST_isWhole_48 rfl ?_
    refine dx_aload_n dST_isWhole_49 rfl ?_
    refine dx_getr dST_isWhole_50 flST_15 rfl rfl ?_
    refine dx_iload_n dST_isWhole_53 rfl ?_
    obtain ⟨hi, h⟩ := h
    refine dx_iaload dST_isWhole_54 rfl hi ?_
    obtain ⟨pp, hm, hk⟩ := h
    refine dx_callvi [.inl (σ1 12 v1.toNatClampNeg)] [] dST_isWhole_55 cvST_52 rfl (Nat.le_of_ble_eq_true rfl) rfl hm (fun x4 σ3 hp => ?_)
    have h := hk x4 σ3 hp
    refine dx_if_eq 63 dST_isWhole_58 (by decide) (fun q => ?_) (fun q => ?_)
    · have h := h.1 q
      refine dx_iinc (v := v1 + 1) (L' := [some (.inr 1), some (.inl (v1 + 1))]) dST_isWhole_63 rfl rfl rfl ?_
      refine dx_goto 12 dST_isWhole_66 (by decide) ?_
      exact dx_less (L' := [some (.inr 1), some (.inl (v1 + 1))]) ⟨rfl, rfl, trivial⟩ h
    · have h := h.2 q
      refine dx_iconst (v := 0) dST_isWhole_61 (by decide) ?_
      exact dx_ret dST_isWhole_62 rfl rfl h
def g_ST_atomicAmong_4 (E : dx_E) (d : Nat) (po : dx_P) (v1 v2 v3 : Int32) (σ : dx_V) : Prop := dx_G tX E d RST cST_atomicAmong 4 (some .int) po 4 [some (.inr 1), some (.inl v1), some (.inl v2), some (.inl v3)] [] σ
set_option maxRecDepth 100000 in
set_option maxHeartbeats 4000000 in
theorem r_ST_atomicAmong {E : dx_E} {d : Nat} {a1 : Int32} {σ : dx_V} {po : dx_P} (h : g_ST_atomicAmong_4 E (d + 1) po a1 0 1 σ) : m_ST_atomicAmong E (d + 1) a1 σ po := by
  refine dx_entry (by decide) (Nat.le_of_ble_eq_true rfl) ?_
  show dx_G tX E (d + 1) RST cST_atomicAmong 4 (some .int) po 0 [some (.inr 1), some (.inl a1), none, none] [] σ
  refine dx_iconst (v := 0) dST_atomicAmong_0 (by decide) ?_
  refine dx_istore_n (L' := [some (.inr 1), some (.inl a1), some (.inl 0), none]) dST_atomicAmong_1 (Nat.le_of_ble_eq_true rfl) rfl ?_
  refine dx_iconst (v := 1) dST_atomicAmong_2 (by decide) ?_
  refine dx_istore_n (L' := [some (.inr 1), some (.inl a1), some (.inl 0), some (.inl 1)]) dST_atomicAmong_3 (Nat.le_of_ble_eq_true rfl) rfl ?_
  exact dx_less (L' := [some (.inr 1), some (.inl a1), some (.inl 0), some (.inl 1)]) ⟨rfl, rfl, rfl, rfl, trivial⟩ h
set_option maxRecDepth 100000 in
set_option maxHeartbeats 4000000 in
theorem r_ST_atomicAmong_4 {E : dx_E} {d : Nat} {po : dx_P} {v1 v2 v3 : Int32} {σ : dx_V} (h : ((σ 1 6) < v3 → po (some v2) σ) ∧ (¬ (σ 1 6) < v3 → dx_ci (m_MC_isIn E d v3 v1 σ) (fun x2 σ1 => (x2 = 0 → g_ST_atomicAmong_4 E (d + 1) po v1 v2 (v3 + 1) σ1) ∧ (¬ x2 = 0 → dx_ci (m_ST_isAtomic E d v3 σ1) (fun x4 σ3 => (x4 = 0 → g_ST_atomicAmong_4 E (d + 1) po v1 v2 (v3 + 1) σ3) ∧ (¬ x4 = 0 → g_ST_atomicAmong_4 E (d + 1) po v1 (v2 ||| (1 <<< (v3 &&& 31))) (v3 + 1) σ3)))))) : g_ST_atomicAmong_4 E (d + 1) po v1 v2 v3 σ := by
  show dx_G tX E (d + 1) RST cST_atomicAmong 4 (some .int) po 4 [some (.inr 1), some (.inl v1), some (.inl v2), some (.inl v3)] [] σ
  refine dx_iload_n dST_atomicAmong_4 rfl ?_
  refine dx_aload_n dST_atomicAmong_5 rfl ?_
  refine dx_geti dST_atomicAmong_6 flST_30 rfl rfl ?_
  refine dx_icmp_gt 40 dST_atomicAmong_9 (by decide) (fun q => ?_) (fun q => ?_)
  · have h := h.1 q
    refine dx_iload_n dST_atomicAmong_40 rfl ?_
    exact dx_ret dST_atomicAmong_41 rfl rfl h
  · have h := h.2 q
    refine dx_iload_n dST_atomicAmong_12 rfl ?_
    refine dx_iload_n dST_atomicAmong_13 rfl ?_
    obtain ⟨pp, hm, hk⟩ := h
    refine dx_callsi [.inl v3, .inl v1] [] dST_atomicAmong_14 csST_45 (Nat.le_of_ble_eq_true rfl) rfl hm (fun x2 σ1 hp => ?_)
    have h := hk x2 σ1 hp
    refine dx_if_eq 34 dST_atomicAmong_17 (by decide) (fun q => ?_) (fun q => ?_)
    · have h := h.1 q
      refine dx_iinc (v := v3 + 1) (L' := [some (.inr 1), some (.inl v1), some (.inl v2), some (.inl (v3 + 1))]) dST_atomicAmong_34 rfl rfl rfl ?_
      refine dx_goto 4 dST_atomicAmong_37 (by decide) ?_
      exact dx_less (L' := [some (.inr 1), some (.inl v1), some (.inl v2), some (.inl (v3 + 1))]) ⟨rfl, rfl, rfl, rfl, trivial⟩ h
    · have h := h.2 q
      refine dx_aload_n dST_atomicAmong_20 rfl ?_
      refine dx_iload_n dST_atomicAmong_21 rfl ?_
      obtain ⟨pp, hm, hk⟩ := h
      refine dx_callvi [.inl v3] [] dST_atomicAmong_22 cvST_52 rfl (Nat.le_of_ble_eq_true rfl) rfl hm (fun x4 σ3 hp => ?_)
      have h := hk x4 σ3 hp
      refine dx_if_eq 34 dST_atomicAmong_25 (by decide) (fun q => ?_) (fun q => ?_)
      · have h := h.1 q
        refine dx_iinc (v := v3 + 1) (L' := [some (.inr 1), some (.inl v1), some (.inl v2), some (.inl (v3 + 1))]) dST_atomicAmong_34 rfl rfl rfl ?_
        refine dx_goto 4 dST_atomicAmong_37 (by decide) ?_
        exact dx_less (L' := [some (.inr 1), some (.inl v1), some (.inl v2), some (.inl (v3 + 1))]) ⟨rfl, rfl, rfl, rfl, trivial⟩ h
      · have h := h.2 q
        refine dx_iload_n dST_atomicAmong_28 rfl ?_
        refine dx_iconst (v := 1) dST_atomicAmong_29 (by decide) ?_
        refine dx_iload_n dST_atomicAmong_30 rfl ?_
        refine dx_ishl dST_atomicAmong_31 ?_
        refine dx_ior dST_atomicAmong_32 ?_
        refine dx_istore_n (L' := [some (.inr 1), some (.inl v1), some (.inl (v2 ||| (1 <<< (v3 &&& 31)))), some (.inl v3)]) dST_atomicAmong_33 (Nat.le_of_ble_eq_true rfl) rfl ?_
        refine dx_iinc (v := v3 + 1) (L' := [some (.inr 1), some (.inl v1), some (.inl (v2 ||| (1 <<< (v3 &&& 31)))), some (.inl (v3 + 1))]) dST_atomicAmong_34 rfl rfl rfl ?_
        refine dx_goto 4 dST_atomicAmong_37 (by decide) ?_
        exact dx_less (L' := [some (.inr 1), some (.inl v1), some (.inl (v2 ||| (1 <<< (v3 &&& 31)))), some (.inl (v3 + 1))]) ⟨rfl, rfl, rfl, rfl, trivial⟩ h
def g_ST_completed_4 (E : dx_E) (d : Nat) (po : dx_P) (v2 v3 : Int32) (σ : dx_V) : Prop := dx_G tX E d RST cST_completed 4 (some .int) po 4 [some (.inr 1), none, some (.inl v2), some (.inl v3)] [] σ
set_option maxRecDepth 100000 in
set_option maxHeartbeats 4000000 in
theorem r_ST_completed {E : dx_E} {d : Nat} {a1 : Int32} {σ : dx_V} {po : dx_P} (h : g_ST_completed_4 E (d + 1) po a1 1 σ) : m_ST_completed E (d + 1) a1 σ po := by
  refine dx_entry (by decide) (Nat.le_of_ble_eq_true rfl) ?_
  show dx_G tX E (d + 1) RST cST_completed 4 (some .int) po 0 [some (.inr 1), some (.inl a1), none, none] [] σ
  refine dx_iload_n dST_completed_0 rfl ?_
  refine dx_istore_n (L' := [some (.inr 1), some (.inl a1), some (.inl a1), none]) dST_completed_1 (Nat.le_of_ble_eq_true rfl) rfl ?_
  refine dx_iconst (v := 1) dST_completed_2 (by decide) ?_
  refine dx_istore_n (L' := [some (.inr 1), some (.inl a1), some (.inl a1), some (.inl 1)]) dST_completed_3 (Nat.le_of_ble_eq_true rfl) rfl ?_
  exact dx_less (L' := [some (.inr 1), none, some (.inl a1), some (.inl 1)]) ⟨rfl, rfl, rfl, trivial⟩ h
set_option maxRecDepth 100000 in
set_option maxHeartbeats 4000000 in
theorem r_ST_completed_4 {E : dx_E} {d : Nat} {po : dx_P} {v2 v3 : Int32} {σ : dx_V} (h : ((σ 1 6) < v3 → po (some v2) σ) ∧ (¬ (σ 1 6) < v3 → dx_ci (m_MC_isIn E d v3 v2 σ) (fun x2 σ1 => (¬ x2 = 0 → vp_in v3 16 ∧ ((¬ (σ1 11 v3.toNatClampNeg) = 2 → dx_ci (m_ST_isCompound E d v3 σ1) (fun x4 σ3 => (x4 = 0 → g_ST_completed_4 E (d + 1) po v2 (v3 + 1) σ3) ∧ (¬ x4 = 0 → vp_in v3 16 ∧ ((¬ ((σ3 14 v3.toNatClampNeg) &&& v2) = 0 → g_ST_completed_4 E (d + 1) po v2 (v3 + 1) σ3) ∧ (((σ3 14 v3.toNatClampNeg) &&& v2) = 0 → vp_in v3 16 ∧ (g_ST_completed_4 E (d + 1) po (v2 ||| (1 <<< ((σ3 13 v3.toNatClampNeg) &&& 31))) (v3 + 1) σ3)))))) ∧ ((σ1 11 v3.toNatClampNeg) = 2 → vp_in v3 16 ∧ (g_ST_completed_4 E (d + 1) po (v2 ||| (σ1 14 v3.toNatClampNeg)) (v3 + 1) σ1)))) ∧ (x2 = 0 → g_ST_completed_4 E (d + 1) po v2 (v3 + 1) σ1)))) : g_ST_completed_4 E (d + 1) po v2 v3 σ := by
  show dx_G tX E (d + 1) RST cST_completed 4 (some .int) po 4 [some (.inr 1), none, some (.inl v2), some (.inl v3)] [] σ
  refine dx_iload_n dST_completed_4 rfl ?_
  refine dx_aload_n dST_completed_5 rfl ?_
  refine dx_geti dST_completed_6 flST_30 rfl rfl ?_
  refine dx_icmp_gt 81 dST_completed_9 (by decide) (fun q => ?_) (fun q => ?_)
  · have h := h.1 q
    refine dx_iload_n dST_completed_81 rfl ?_
    exact dx_ret dST_completed_82 rfl rfl h
  · have h := h.2 q
    refine dx_iload_n dST_completed_12 rfl ?_
    refine dx_iload_n dST_completed_13 rfl ?_
    obtain ⟨pp, hm, hk⟩ := h
    refine dx_callsi [.inl v3, .inl v2] [] dST_completed_14 csST_45 (Nat.le_of_ble_eq_true rfl) rfl hm (fun x2 σ1 hp => ?_)
    have h := hk x2 σ1 hp
    refine dx_if_ne 23 dST_completed_17 (by decide) (fun q => ?_) (fun q => ?_)
    · have h := h.1 q
      refine dx_aload_n dST_completed_23 rfl ?_
      refine dx_getr dST_completed_24 flST_9 rfl rfl ?_
      refine dx_iload_n dST_completed_27 rfl ?_
      obtain ⟨hi, h⟩ := h
      refine dx_iaload dST_completed_28 rfl hi ?_
      refine dx_iconst (v := 2) dST_completed_29 (by decide) ?_
      refine dx_icmp_ne 45 dST_completed_30 (by decide) (fun q => ?_) (fun q => ?_)
      · have h := h.1 q
        refine dx_aload_n dST_completed_45 rfl ?_
        refine dx_iload_n dST_completed_46 rfl ?_
        obtain ⟨pp, hm, hk⟩ := h
        refine dx_callvi [.inl v3] [] dST_completed_47 cvST_49 rfl (Nat.le_of_ble_eq_true rfl) rfl hm (fun x4 σ3 hp => ?_)
        have h := hk x4 σ3 hp
        refine dx_if_eq 75 dST_completed_50 (by decide) (fun q => ?_) (fun q => ?_)
        · have h := h.1 q
          refine dx_iinc (v := v3 + 1) (L' := [some (.inr 1), none, some (.inl v2), some (.inl (v3 + 1))]) dST_completed_75 rfl rfl rfl ?_
          refine dx_goto 4 dST_completed_78 (by decide) ?_
          exact dx_less (L' := [some (.inr 1), none, some (.inl v2), some (.inl (v3 + 1))]) ⟨rfl, rfl, rfl, trivial⟩ h
        · have h := h.2 q
          refine dx_aload_n dST_completed_53 rfl ?_
          refine dx_getr dST_completed_54 flST_21 rfl rfl ?_
          refine dx_iload_n dST_completed_57 rfl ?_
          obtain ⟨hi, h⟩ := h
          refine dx_iaload dST_completed_58 rfl hi ?_
          refine dx_iload_n dST_completed_59 rfl ?_
          refine dx_iand dST_completed_60 ?_
          refine dx_if_ne 75 dST_completed_61 (by decide) (fun q => ?_) (fun q => ?_)
          · have h := h.1 q
            refine dx_iinc (v := v3 + 1) (L' := [some (.inr 1), none, some (.inl v2), some (.inl (v3 + 1))]) dST_completed_75 rfl rfl rfl ?_
            refine dx_goto 4 dST_completed_78 (by decide) ?_
            exact dx_less (L' := [some (.inr 1), none, some (.inl v2), some (.inl (v3 + 1))]) ⟨rfl, rfl, rfl, trivial⟩ h
          · have h := h.2 q
            refine dx_iload_n dST_completed_64 rfl ?_
            refine dx_iconst (v := 1) dST_completed_65 (by decide) ?_
            refine dx_aload_n dST_completed_66 rfl ?_
            refine dx_getr dST_completed_67 flST_18 rfl rfl ?_
            refine dx_iload_n dST_completed_70 rfl ?_
            obtain ⟨hi, h⟩ := h
            refine dx_iaload dST_completed_71 rfl hi ?_
            refine dx_ishl dST_completed_72 ?_
            refine dx_ior dST_completed_73 ?_
            refine dx_istore_n (L' := [some (.inr 1), none, some (.inl (v2 ||| (1 <<< ((σ3 13 v3.toNatClampNeg) &&& 31)))), some (.inl v3)]) dST_completed_74 (Nat.le_of_ble_eq_true rfl) rfl ?_
            refine dx_iinc (v := v3 + 1) (L' := [some (.inr 1), none, some (.inl (v2 ||| (1 <<< ((σ3 13 v3.toNatClampNeg) &&& 31)))), some (.inl (v3 + 1))]) dST_completed_75 rfl rfl rfl ?_
            refine dx_goto 4 dST_completed_78 (by decide) ?_
            exact dx_less (L' := [some (.inr 1), none, some (.inl (v2 ||| (1 <<< ((σ3 13 v3.toNatClampNeg) &&& 31)))), some (.inl (v3 + 1))]) ⟨rfl, rfl, rfl, trivial⟩ h
      · have h := h.2 q
        refine dx_iload_n dST_completed_33 rfl ?_
        refine dx_aload_n dST_completed_34 rfl ?_
        refine dx_getr dST_completed_35 flST_21 rfl rfl ?_
        refine dx_iload_n dST_completed_38 rfl ?_
        obtain ⟨hi, h⟩ := h
        refine dx_iaload dST_completed_39 rfl hi ?_
        refine dx_ior dST_completed_40 ?_
        refine dx_istore_n (L' := [some (.inr 1), none, some (.inl (v2 ||| (σ1 14 v3.toNatClampNeg))), some (.inl v3)]) dST_completed_41 (Nat.le_of_ble_eq_true rfl) rfl ?_
        refine dx_goto 75 dST_completed_42 (by decide) ?_
        refine dx_iinc (v := v3 + 1) (L' := [some (.inr 1), none, some (.inl (v2 ||| (σ1 14 v3.toNatClampNeg))), some (.inl (v3 + 1))]) dST_completed_75 rfl rfl rfl ?_
        refine dx_goto 4 dST_completed_78 (by decide) ?_
        exact dx_less (L' := [some (.inr 1), none, some (.inl (v2 ||| (σ1 14 v3.toNatClampNeg))), some (.inl (v3 + 1))]) ⟨rfl, rfl, rfl, trivial⟩ h
    · have h := h.2 q
      refine dx_goto 75 dST_completed_20 (by decide) ?_
      refine dx_iinc (v := v3 + 1) (L' := [some (.inr 1), none, some (.inl v2), some (.inl (v3 + 1))]) dST_completed_75 rfl rfl rfl ?_
      refine dx_goto 4 dST_completed_78 (by decide) ?_
      exact dx_less (L' := [some (.inr 1), none, some (.inl v2), some (.inl (v3 + 1))]) ⟨rfl, rfl, rfl, trivial⟩ h
set_option maxRecDepth 100000 in
set_option maxHeartbeats 4000000 in
theorem r_TT_has {E : dx_E} {d : Nat} {a1 : Int32} {σ : dx_V} {po : dx_P} (h : (a1 < 0 → po (some 0) σ) ∧ (¬ a1 < 0 → ((σ 2 7) ≤ a1 → po (some 0) σ) ∧ (¬ (σ 2 7) ≤ a1 → po (some 1) σ))) : m_TT_has E d a1 σ po := by
  refine dx_entry (by decide) (Nat.le_of_ble_eq_true rfl) ?_
  show dx_G tX E d RTT cTT_has 2 (some .boolean) po 0 [some (.inr 2), some (.inl a1)] [] σ
  refine dx_iload_n dTT_has_0 rfl ?_
  refine dx_if_lt 16 dTT_has_1 (by decide) (fun q => ?_) (fun q => ?_)
  · have h := h.1 q
    refine dx_iconst (v := 0) dTT_has_16 (by decide) ?_
    exact dx_ret dTT_has_17 rfl rfl h
  · have h := h.2 q
    refine dx_iload_n dTT_has_4 rfl ?_
    refine dx_aload_n dTT_has_5 rfl ?_
    refine dx_geti dTT_has_6 flTT_33 rfl rfl ?_
    refine dx_icmp_ge 16 dTT_has_9 (by decide) (fun q => ?_) (fun q => ?_)
    · have h := h.1 q
      refine dx_iconst (v := 0) dTT_has_16 (by decide) ?_
      exact dx_ret dTT_has_17 rfl rfl h
    · have h := h.2 q
      refine dx_iconst (v := 1) dTT_has_12 (by decide) ?_
      refine dx_goto 17 dTT_has_13 (by decide) ?_
      exact dx_ret dTT_has_17 rfl rfl h
set_option maxRecDepth 100000 in
set_option maxHeartbeats 4000000 in
theorem r_TT_add {E : dx_E} {d : Nat} {a1 a2 a3 a4 : Int32} {σ : dx_V} {po : dx_P} (h : vp_in (σ 2 7) 20 ∧ (vp_in (σ 2 7) 20 ∧ (vp_in (σ 2 7) 20 ∧ (vp_in (σ 2 7) 20 ∧ (vp_in (σ 2 7) 20 ∧ (po (some (σ 2 7)) (dx_u (dx_u (dx_u (dx_u (dx_u (dx_u σ 17 (σ 2 7).toNatClampNeg a1) 18 (σ 2 7).toNatClampNeg a2) 19 (σ 2 7).toNatClampNeg a3) 20 (σ 2 7).toNatClampNeg a4) 21 (σ 2 7).toNatClampNeg (-1)) 2 7 ((σ 2 7) + 1)))))))) : m_TT_add E d a1 a2 a3 a4 σ po := by
  refine dx_entry (by decide) (Nat.le_of_ble_eq_true rfl) ?_
  show dx_G tX E d RTT cTT_add 6 (some .int) po 0 [some (.inr 2), some (.inl a1), some (.inl a2), some (.inl a3), some (.inl a4), none] [] σ
  refine dx_aload_n dTT_add_0 rfl ?_
  refine dx_geti dTT_add_1 flTT_33 rfl rfl ?_
  refine dx_istore (L' := [some (.inr 2), some (.inl a1), some (.inl a2), some (.inl a3), some (.inl a4), some (.inl (σ 2 7))]) dTT_add_4 (Nat.le_of_ble_eq_true rfl) rfl ?_
  refine dx_aload_n dTT_add_6 rfl ?_
  refine dx_getr dTT_add_7 flTT_9 rfl rfl ?_
  refine dx_iload dTT_add_10 rfl ?_
  refine dx_iload_n dTT_add_12 rfl ?_
  obtain ⟨hi, h⟩ := h
  refine dx_iastore dTT_add_13 rfl hi ?_
  refine dx_aload_n dTT_add_14 rfl ?_
  refine dx_getr dTT_add_15 flTT_15 rfl rfl ?_
  refine dx_iload dTT_add_18 rfl ?_
  refine dx_iload_n dTT_add_20 rfl ?_
  obtain ⟨hi, h⟩ := h
  refine dx_iastore dTT_add_21 rfl hi ?_
  refine dx_aload_n dTT_add_22 rfl ?_
  refine dx_getr dTT_add_23 flTT_18 rfl rfl ?_
  refine dx_iload dTT_add_26 rfl ?_
  refine dx_iload_n dTT_add_28 rfl ?_
  obtain ⟨hi, h⟩ := h
  refine dx_iastore dTT_add_29 rfl hi ?_
  refine dx_aload_n dTT_add_30 rfl ?_
  refine dx_getr dTT_add_31 flTT_21 rfl rfl ?_
  refine dx_iload dTT_add_34 rfl ?_
  refine dx_iload dTT_add_36 rfl ?_
  obtain ⟨hi, h⟩ := h
  refine dx_iastore dTT_add_38 rfl hi ?_
  refine dx_aload_n dTT_add_39 rfl ?_
  refine dx_getr dTT_add_40 flTT_24 rfl rfl ?_
  refine dx_iload dTT_add_43 rfl ?_
  refine dx_iconst (v := (-1)) dTT_add_45 (by decide) ?_
  obtain ⟨hi, h⟩ := h
  refine dx_iastore dTT_add_46 rfl hi ?_
  refine dx_aload_n dTT_add_47 rfl ?_
  refine dx_dup dTT_add_48 ?_
  refine dx_geti dTT_add_49 flTT_33 rfl rfl ?_
  refine dx_iconst (v := 1) dTT_add_52 (by decide) ?_
  refine dx_iadd dTT_add_53 ?_
  refine dx_put dTT_add_54 fpTT_33 rfl rfl (Or.inl rfl) ?_
  refine dx_iload dTT_add_57 rfl ?_
  exact dx_ret dTT_add_59 rfl rfl h
set_option maxRecDepth 100000 in
set_option maxHeartbeats 4000000 in
theorem r_TT_putGuard {E : dx_E} {d : Nat} {a1 a2 a3 a4 : Int32} {σ : dx_V} {po : dx_P} (h : vp_in a1 20 ∧ (vp_in a1 20 ∧ (vp_in a1 20 ∧ (po none (dx_u (dx_u (dx_u σ 21 a1.toNatClampNeg a3) 22 a1.toNatClampNeg a2) 23 a1.toNatClampNeg a4))))) : m_TT_putGuard E d a1 a2 a3 a4 σ po := by
  refine dx_entry (by decide) (Nat.le_of_ble_eq_true rfl) ?_
  show dx_G tX E d RTT cTT_putGuard 5 none po 0 [some (.inr 2), some (.inl a1), some (.inl a2), some (.inl a3), some (.inl a4)] [] σ
  refine dx_aload_n dTT_putGuard_0 rfl ?_
  refine dx_getr dTT_putGuard_1 flTT_24 rfl rfl ?_
  refine dx_iload_n dTT_putGuard_4 rfl ?_
  refine dx_iload_n dTT_putGuard_5 rfl ?_
  obtain ⟨hi, h⟩ := h
  refine dx_iastore dTT_putGuard_6 rfl hi ?_
  refine dx_aload_n dTT_putGuard_7 rfl ?_
  refine dx_getr dTT_putGuard_8 flTT_27 rfl rfl ?_
  refine dx_iload_n dTT_putGuard_11 rfl ?_
  refine dx_iload_n dTT_putGuard_12 rfl ?_
  obtain ⟨hi, h⟩ := h
  refine dx_iastore dTT_putGuard_13 rfl hi ?_
  refine dx_aload_n dTT_putGuard_14 rfl ?_
  refine dx_getr dTT_putGuard_15 flTT_30 rfl rfl ?_
  refine dx_iload_n dTT_putGuard_18 rfl ?_
  refine dx_iload dTT_putGuard_19 rfl ?_
  obtain ⟨hi, h⟩ := h
  refine dx_iastore dTT_putGuard_21 rfl hi ?_
  exact dx_vret dTT_putGuard_22 rfl h
def g_AR_fill_28_5 (E : dx_E) (d : Nat) (po : dx_P) (v1 v2 v3 : Int32) (σ : dx_V) : Prop := dx_G tX E d RAR cAR_fill 4 none po 5 [some (.inr 28), some (.inl v1), some (.inl v2), some (.inl v3)] [] σ
set_option maxRecDepth 100000 in
set_option maxHeartbeats 4000000 in
theorem r_AR_fill_28 {E : dx_E} {d : Nat} {a2 : Int32} {σ : dx_V} {po : dx_P} (h : g_AR_fill_28_5 E d po a2 0 16 σ) : m_AR_fill_28 E d a2 σ po := by
  refine dx_entry (by decide) (Nat.le_of_ble_eq_true rfl) ?_
  show dx_G tX E d RAR cAR_fill 4 none po 0 [some (.inr 28), some (.inl a2), none, none] [] σ
  refine dx_iconst (v := 0) dAR_fill_0 (by decide) ?_
  refine dx_istore_n (L' := [some (.inr 28), some (.inl a2), some (.inl 0), none]) dAR_fill_1 (Nat.le_of_ble_eq_true rfl) rfl ?_
  refine dx_aload_n dAR_fill_2 rfl ?_
  refine dx_alen (v := 16) dAR_fill_3 rfl (by decide) ?_
  refine dx_istore_n (L' := [some (.inr 28), some (.inl a2), some (.inl 0), some (.inl 16)]) dAR_fill_4 (Nat.le_of_ble_eq_true rfl) rfl ?_
  exact dx_less (L' := [some (.inr 28), some (.inl a2), some (.inl 0), some (.inl 16)]) ⟨rfl, rfl, rfl, rfl, trivial⟩ h
set_option maxRecDepth 100000 in
set_option maxHeartbeats 4000000 in
theorem r_AR_fill_28_5 {E : dx_E} {d : Nat} {po : dx_P} {v1 v2 v3 : Int32} {σ : dx_V} (h : (v3 ≤ v2 → po none σ) ∧ (¬ v3 ≤ v2 → vp_in v2 16 ∧ (g_AR_fill_28_5 E d po v1 (v2 + 1) v3 (dx_u σ 28 v2.toNatClampNeg v1)))) : g_AR_fill_28_5 E d po v1 v2 v3 σ := by
  show dx_G tX E d RAR cAR_fill 4 none po 5 [some (.inr 28), some (.inl v1), some (.inl v2), some (.inl v3)] [] σ
  refine dx_iload_n dAR_fill_5 rfl ?_
  refine dx_iload_n dAR_fill_6 rfl ?_
  refine dx_icmp_ge 20 dAR_fill_7 (by decide) (fun q => ?_) (fun q => ?_)
  · have h := h.1 q
    exact dx_vret dAR_fill_20 rfl h
  · have h := h.2 q
    refine dx_aload_n dAR_fill_10 rfl ?_
    refine dx_iload_n dAR_fill_11 rfl ?_
    refine dx_iload_n dAR_fill_12 rfl ?_
    obtain ⟨hi, h⟩ := h
    refine dx_iastore dAR_fill_13 rfl hi ?_
    refine dx_iinc (v := v2 + 1) (L' := [some (.inr 28), some (.inl v1), some (.inl (v2 + 1)), some (.inl v3)]) dAR_fill_14 rfl rfl rfl ?_
    refine dx_goto 5 dAR_fill_17 (by decide) ?_
    exact dx_less (L' := [some (.inr 28), some (.inl v1), some (.inl (v2 + 1)), some (.inl v3)]) ⟨rfl, rfl, rfl, rfl, trivial⟩ h
