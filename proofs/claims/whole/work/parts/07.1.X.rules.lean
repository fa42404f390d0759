set_option maxRecDepth 100000 in
set_option maxHeartbeats 4000000 in
theorem r_MC_state {E : dx_E} {d : Nat} {a1 a2 : Int32} {σ : dx_V} {po : dx_P} (h : dx_ci (m_MC_isBuilding E d σ) (fun x2 σ1 => (x2 = 0 → po (some (-1)) σ1) ∧ (¬ x2 = 0 → dx_ci (m_ST_mayHold E d a1 a2 σ1) (fun x4 σ3 => (¬ x4 = 0 → (¬ (σ3 1 6) = 15 → dx_ci (m_ST_add E d a1 a2 σ3) (fun x6 σ5 => po (some x6) σ5)) ∧ ((σ3 1 6) = 15 → po (some (-2)) σ3)) ∧ (x4 = 0 → po (some (-1)) σ3))))) : m_MC_state E (d + 1) a1 a2 σ po := by
  refine dx_entry (by decide) (Nat.le_of_ble_eq_true rfl) ?_
  show dx_G tX E (d + 1) RMC cMC_state 3 (some .int) po 0 [some (.inr 0), some (.inl a1), some (.inl a2)] [] σ
  refine dx_aload_n dMC_state_0 rfl ?_
  obtain ⟨pp, hm, hk⟩ := h
  refine dx_callvi [] [] dMC_state_1 cvMC_39 rfl (Nat.le_of_ble_eq_true rfl) rfl hm (fun x2 σ1 hp => ?_)
  have h := hk x2 σ1 hp
  refine dx_if_eq 19 dMC_state_4 (by decide) (fun q => ?_) (fun q => ?_)
  · have h := h.1 q
    refine dx_iconst (v := (-1)) dMC_state_19 (by decide) ?_
    exact dx_ret dMC_state_20 rfl rfl h
  · have h := h.2 q
    refine dx_aload_n dMC_state_7 rfl ?_
    refine dx_getr dMC_state_8 flMC_10 rfl rfl ?_
    refine dx_iload_n dMC_state_11 rfl ?_
    refine dx_iload_n dMC_state_12 rfl ?_
    obtain ⟨pp, hm, hk⟩ := h
    refine dx_callvi [.inl a1, .inl a2] [] dMC_state_13 cvMC_43 rfl (Nat.le_of_ble_eq_true rfl) rfl hm (fun x4 σ3 hp => ?_)
    have h := hk x4 σ3 hp
    refine dx_if_ne 21 dMC_state_16 (by decide) (fun q => ?_) (fun q => ?_)
    · have h := h.1 q
      refine dx_aload_n dMC_state_21 rfl ?_
      refine dx_getr dMC_state_22 flMC_10 rfl rfl ?_
      refine dx_geti dMC_state_25 flMC_47 rfl rfl ?_
      refine dx_bipush (v := 15) dMC_state_28 (by decide) ?_
      refine dx_icmp_ne 36 dMC_state_30 (by decide) (fun q => ?_) (fun q => ?_)
      · have h := h.1 q
        refine dx_aload_n dMC_state_36 rfl ?_
        refine dx_getr dMC_state_37 flMC_10 rfl rfl ?_
        refine dx_iload_n dMC_state_40 rfl ?_
        refine dx_iload_n dMC_state_41 rfl ?_
        obtain ⟨pp, hm, hk⟩ := h
        refine dx_callvi [.inl a1, .inl a2] [] dMC_state_42 cvMC_51 rfl (Nat.le_of_ble_eq_true rfl) rfl hm (fun x6 σ5 hp => ?_)
        have h := hk x6 σ5 hp
        exact dx_ret dMC_state_45 rfl rfl h
      · have h := h.2 q
        refine dx_bipush (v := (-2)) dMC_state_33 (by decide) ?_
        exact dx_ret dMC_state_35 rfl rfl h
    · have h := h.2 q
      refine dx_iconst (v := (-1)) dMC_state_19 (by decide) ?_
      exact dx_ret dMC_state_20 rfl rfl h
set_option maxRecDepth 100000 in
set_option maxHeartbeats 4000000 in
theorem r_MC_initial {E : dx_E} {d : Nat} {a1 : Int32} {σ : dx_V} {po : dx_P} (h : dx_ci (m_MC_isBuilding E d σ) (fun x2 σ1 => (x2 = 0 → po (some 0) σ1) ∧ (¬ x2 = 0 → dx_ci (m_ST_isMadeState E d a1 σ1) (fun x4 σ3 => (x4 = 0 → po (some 0) σ3) ∧ (¬ x4 = 0 → vp_in a1 16 ∧ (vp_in (σ3 12 a1.toNatClampNeg) 16 ∧ (((σ3 11 (σ3 12 a1.toNatClampNeg).toNatClampNeg) = 1 → vp_in a1 16 ∧ (vp_in (σ3 12 a1.toNatClampNeg) 16 ∧ (po (some 1) (dx_u σ3 13 (σ3 12 a1.toNatClampNeg).toNatClampNeg a1)))) ∧ (¬ (σ3 11 (σ3 12 a1.toNatClampNeg).toNatClampNeg) = 1 → po (some 0) σ3)))))))) : m_MC_initial E (d + 1) a1 σ po := by
  refine dx_entry (by decide) (Nat.le_of_ble_eq_true rfl) ?_
  show dx_G tX E (d + 1) RMC cMC_initial 2 (some .boolean) po 0 [some (.inr 0), some (.inl a1)] [] σ
  refine dx_aload_n dMC_initial_0 rfl ?_
  obtain ⟨pp, hm, hk⟩ := h
  refine dx_callvi [] [] dMC_initial_1 cvMC_39 rfl (Nat.le_of_ble_eq_true rfl) rfl hm (fun x2 σ1 hp => ?_)
  have h := hk x2 σ1 hp
  refine dx_if_eq 39 dMC_initial_4 (by decide) (fun q => ?_) (fun q => ?_)
  · have h := h.1 q
    refine dx_iconst (v := 0) dMC_initial_39 (by decide) ?_
    exact dx_ret dMC_initial_40 rfl rfl h
  · have h := h.2 q
    refine dx_aload_n dMC_initial_7 rfl ?_
    refine dx_getr dMC_initial_8 flMC_10 rfl rfl ?_
    refine dx_iload_n dMC_initial_11 rfl ?_
    obtain ⟨pp, hm, hk⟩ := h
    refine dx_callvi [.inl a1] [] dMC_initial_12 cvMC_55 rfl (Nat.le_of_ble_eq_true rfl) rfl hm (fun x4 σ3 hp => ?_)
    have h := hk x4 σ3 hp
    refine dx_if_eq 39 dMC_initial_15 (by decide) (fun q => ?_) (fun q => ?_)
    · have h := h.1 q
      refine dx_iconst (v := 0) dMC_initial_39 (by decide) ?_
      exact dx_ret dMC_initial_40 rfl rfl h
    · have h := h.2 q
      refine dx_aload_n dMC_initial_18 rfl ?_
      refine dx_getr dMC_initial_19 flMC_10 rfl rfl ?_
      refine dx_getr dMC_initial_22 flMC_59 rfl rfl ?_
      refine dx_aload_n dMC_initial_25 rfl ?_
      refine dx_getr dMC_initial_26 flMC_10 rfl rfl ?_
      refine dx_getr dMC_initial_29 flMC_63 rfl rfl ?_
      refine dx_iload_n dMC_initial_32 rfl ?_
      obtain ⟨hi, h⟩ := h
      refine dx_iaload dMC_initial_33 rfl hi ?_
      obtain ⟨hi, h⟩ := h
      refine dx_iaload dMC_initial_34 rfl hi ?_
      refine dx_iconst (v := 1) dMC_initial_35 (by decide) ?_
      refine dx_icmp_eq 41 dMC_initial_36 (by decide) (fun q => ?_) (fun q => ?_)
      · have h := h.1 q
        refine dx_aload_n dMC_initial_41 rfl ?_
        refine dx_getr dMC_initial_42 flMC_10 rfl rfl ?_
        refine dx_getr dMC_initial_45 flMC_66 rfl rfl ?_
        refine dx_aload_n dMC_initial_48 rfl ?_
        refine dx_getr dMC_initial_49 flMC_10 rfl rfl ?_
        refine dx_getr dMC_initial_52 flMC_63 rfl rfl ?_
        refine dx_iload_n dMC_initial_55 rfl ?_
        obtain ⟨hi, h⟩ := h
        refine dx_iaload dMC_initial_56 rfl hi ?_
        refine dx_iload_n dMC_initial_57 rfl ?_
        obtain ⟨hi, h⟩ := h
        refine dx_iastore dMC_initial_58 rfl hi ?_
        refine dx_iconst (v := 1) dMC_initial_59 (by decide) ?_
        exact dx_ret dMC_initial_60 rfl rfl h
      · have h := h.2 q
        refine dx_iconst (v := 0) dMC_initial_39 (by decide) ?_
        exact dx_ret dMC_initial_40 rfl rfl h
def g_MC_transition_66 (E : dx_E) (d : Nat) (po : dx_P) (v1 v2 v3 w0 : Int32) (σ : dx_V) : Prop := dx_G tX E d RMC cMC_transition 5 (some .int) po 66 [some (.inr 0), some (.inl v1), some (.inl v2), some (.inl v3), none] [.inl w0] σ
set_option maxRecDepth 100000 in
set_option maxHeartbeats 4000000 in
theorem r_MC_transition {E : dx_E} {d : Nat} {a1 a2 a3 : Int32} {σ : dx_V} {po : dx_P} (h : dx_ci (m_MC_isBuilding E d σ) (fun x2 σ1 => (x2 = 0 → po (some (-1)) σ1) ∧ (¬ x2 = 0 → dx_ci (m_MC_maySource E d a1 σ1) (fun x4 σ3 => (x4 = 0 → po (some (-1)) σ3) ∧ (¬ x4 = 0 → dx_ci (m_MC_mayAwait E d a2 σ3) (fun x6 σ5 => (x6 = 0 → po (some (-1)) σ5) ∧ (¬ x6 = 0 → dx_ci (m_MC_mayTarget E d a3 σ5) (fun x8 σ7 => (¬ x8 = 0 → (¬ (σ7 2 7) = 20 → (¬ a3 = (-1) → dx_ci (m_ST_nearestCompoundAbove E d a1 a3 σ7) (fun x10 σ9 => g_MC_transition_66 E (d + 1) po a1 a2 a3 x10 σ9)) ∧ (a3 = (-1) → g_MC_transition_66 E (d + 1) po a1 a2 a3 (-1) σ7)) ∧ ((σ7 2 7) = 20 → po (some (-2)) σ7)) ∧ (x8 = 0 → po (some (-1)) σ7))))))))) : m_MC_transition E (d + 1) a1 a2 a3 σ po := by
  refine dx_entry (by decide) (Nat.le_of_ble_eq_true rfl) ?_
  show dx_G tX E (d + 1) RMC cMC_transition 5 (some .int) po 0 [some (.inr 0), some (.inl a1), some (.inl a2), some (.inl a3), none] [] σ
  refine dx_aload_n dMC_transition_0 rfl ?_
  obtain ⟨pp, hm, hk⟩ := h
  refine dx_callvi [] [] dMC_transition_1 cvMC_39 rfl (Nat.le_of_ble_eq_true rfl) rfl hm (fun x2 σ1 hp => ?_)
  have h := hk x2 σ1 hp
  refine dx_if_eq 31 dMC_transition_4 (by decide) (fun q => ?_) (fun q => ?_)
  · have h := h.1 q
    refine dx_iconst (v := (-1)) dMC_transition_31 (by decide) ?_
    exact dx_ret dMC_transition_32 rfl rfl h
  · have h := h.2 q
    refine dx_aload_n dMC_transition_7 rfl ?_
    refine dx_iload_n dMC_transition_8 rfl ?_
    obtain ⟨pp, hm, hk⟩ := h
    refine dx_callvi [.inl a1] [] dMC_transition_9 cvMC_69 rfl (Nat.le_of_ble_eq_true rfl) rfl hm (fun x4 σ3 hp => ?_)
    have h := hk x4 σ3 hp
    refine dx_if_eq 31 dMC_transition_12 (by decide) (fun q => ?_) (fun q => ?_)
    · have h := h.1 q
      refine dx_iconst (v := (-1)) dMC_transition_31 (by decide) ?_
      exact dx_ret dMC_transition_32 rfl rfl h
    · have h := h.2 q
      refine dx_aload_n dMC_transition_15 rfl ?_
      refine dx_iload_n dMC_transition_16 rfl ?_
      obtain ⟨pp, hm, hk⟩ := h
      refine dx_callvi [.inl a2] [] dMC_transition_17 cvMC_72 rfl (Nat.le_of_ble_eq_true rfl) rfl hm (fun x6 σ5 hp => ?_)
      have h := hk x6 σ5 hp
      refine dx_if_eq 31 dMC_transition_20 (by decide) (fun q => ?_) (fun q => ?_)
      · have h := h.1 q
        refine dx_iconst (v := (-1)) dMC_transition_31 (by decide) ?_
        exact dx_ret dMC_transition_32 rfl rfl h
      · have h := h.2 q
        refine dx_aload_n dMC_transition_23 rfl ?_
        refine dx_iload_n dMC_transition_24 rfl ?_
        obtain ⟨pp, hm, hk⟩ := h
        refine dx_callvi [.inl a3] [] dMC_transition_25 cvMC_75 rfl (Nat.le_of_ble_eq_true rfl) rfl hm (fun x8 σ7 hp => ?_)
        have h := hk x8 σ7 hp
        refine dx_if_ne 33 dMC_transition_28 (by decide) (fun q => ?_) (fun q => ?_)
        · have h := h.1 q
          refine dx_aload_n dMC_transition_33 rfl ?_
          refine dx_getr dMC_transition_34 flMC_19 rfl rfl ?_
          refine dx_geti dMC_transition_37 flMC_78 rfl rfl ?_
          refine dx_bipush (v := 20) dMC_transition_40 (by decide) ?_
          refine dx_icmp_ne 48 dMC_transition_42 (by decide) (fun q => ?_) (fun q => ?_)
          · have h := h.1 q
            refine dx_iload_n dMC_transition_48 rfl ?_
            refine dx_iconst (v := (-1)) dMC_transition_49 (by decide) ?_
            refine dx_icmp_ne 57 dMC_transition_50 (by decide) (fun q => ?_) (fun q => ?_)
            · have h := h.1 q
              refine dx_aload_n dMC_transition_57 rfl ?_
              refine dx_getr dMC_transition_58 flMC_10 rfl rfl ?_
              refine dx_iload_n dMC_transition_61 rfl ?_
              refine dx_iload_n dMC_transition_62 rfl ?_
              obtain ⟨pp, hm, hk⟩ := h
              refine dx_callvi [.inl a1, .inl a3] [] dMC_transition_63 cvMC_79 rfl (Nat.le_of_ble_eq_true rfl) rfl hm (fun x10 σ9 hp => ?_)
              have h := hk x10 σ9 hp
              exact dx_less (L' := [some (.inr 0), some (.inl a1), some (.inl a2), some (.inl a3), none]) ⟨rfl, rfl, rfl, rfl, trivial⟩ h
            · have h := h.2 q
              refine dx_iconst (v := (-1)) dMC_transition_53 (by decide) ?_
              refine dx_goto 66 dMC_transition_54 (by decide) ?_
              exact dx_less (L' := [some (.inr 0), some (.inl a1), some (.inl a2), some (.inl a3), none]) ⟨rfl, rfl, rfl, rfl, trivial⟩ h
          · have h := h.2 q
            refine dx_bipush (v := (-2)) dMC_transition_45 (by decide) ?_
            exact dx_ret dMC_transition_47 rfl rfl h
        · have h := h.2 q
          refine dx_iconst (v := (-1)) dMC_transition_31 (by decide) ?_
          exact dx_ret dMC_transition_32 rfl rfl h
set_option maxRecDepth 100000 in
set_option maxHeartbeats 4000000 in
theorem r_MC_transition_66 {E : dx_E} {d : Nat} {po : dx_P} {v1 v2 v3 w0 : Int32} {σ : dx_V} (h : dx_ci (m_TT_add E d v1 v2 v3 w0 σ) (fun x2 σ1 => po (some x2) σ1)) : g_MC_transition_66 E (d + 1) po v1 v2 v3 w0 σ := by
  show dx_G tX E (d + 1) RMC cMC_transition 5 (some .int) po 66 [some (.inr 0), some (.inl v1), some (.inl v2), some (.inl v3), none] [.inl w0] σ
  refine dx_istore (L' := [some (.inr 0), some (.inl v1), some (.inl v2), some (.inl v3), some (.inl w0)]) dMC_transition_66 (Nat.le_of_ble_eq_true rfl) rfl ?_
  refine dx_aload_n dMC_transition_68 rfl ?_
  refine dx_getr dMC_transition_69 flMC_19 rfl rfl ?_
  refine dx_iload_n dMC_transition_72 rfl ?_
  refine dx_iload_n dMC_transition_73 rfl ?_
  refine dx_iload_n dMC_transition_74 rfl ?_
  refine dx_iload dMC_transition_75 rfl ?_
  obtain ⟨pp, hm, hk⟩ := h
  refine dx_callvi [.inl v1, .inl v2, .inl v3, .inl w0] [] dMC_transition_77 cvMC_82 rfl (Nat.le_of_ble_eq_true rfl) rfl hm (fun x2 σ1 hp => ?_)
  have h := hk x2 σ1 hp
  exact dx_ret dMC_transition_80 rfl rfl h
set_option maxRecDepth 100000 in
set_option maxHeartbeats 4000000 in
theorem r_MC_guard {E : dx_E} {d : Nat} {a1 a2 a3 a4 : Int32} {σ : dx_V} {po : dx_P} (h : dx_ci (m_MC_isBuilding E d σ) (fun x2 σ1 => (x2 = 0 → po (some 0) σ1) ∧ (¬ x2 = 0 → dx_ci (m_TT_has E d a1 σ1) (fun x4 σ3 => (x4 = 0 → po (some 0) σ3) ∧ (¬ x4 = 0 → dx_ci (m_MC_mayGuard E d a2 a3 a4 σ3) (fun x6 σ5 => (¬ x6 = 0 → dx_cu (m_TT_putGuard E d a1 a2 a3 a4 σ5) (fun σ7 => po (some 1) σ7)) ∧ (x6 = 0 → po (some 0) σ5))))))) : m_MC_guard E (d + 1) a1 a2 a3 a4 σ po := by
  refine dx_entry (by decide) (Nat.le_of_ble_eq_true rfl) ?_
  show dx_G tX E (d + 1) RMC cMC_guard 5 (some .boolean) po 0 [some (.inr 0), some (.inl a1), some (.inl a2), some (.inl a3), some (.inl a4)] [] σ
  refine dx_aload_n dMC_guard_0 rfl ?_
  obtain ⟨pp, hm, hk⟩ := h
  refine dx_callvi [] [] dMC_guard_1 cvMC_39 rfl (Nat.le_of_ble_eq_true rfl) rfl hm (fun x2 σ1 hp => ?_)
  have h := hk x2 σ1 hp
  refine dx_if_eq 29 dMC_guard_4 (by decide) (fun q => ?_) (fun q => ?_)
  · have h := h.1 q
    refine dx_iconst (v := 0) dMC_guard_29 (by decide) ?_
    exact dx_ret dMC_guard_30 rfl rfl h
  · have h := h.2 q
    refine dx_aload_n dMC_guard_7 rfl ?_
    refine dx_getr dMC_guard_8 flMC_19 rfl rfl ?_
    refine dx_iload_n dMC_guard_11 rfl ?_
    obtain ⟨pp, hm, hk⟩ := h
    refine dx_callvi [.inl a1] [] dMC_guard_12 cvMC_85 rfl (Nat.le_of_ble_eq_true rfl) rfl hm (fun x4 σ3 hp => ?_)
    have h := hk x4 σ3 hp
    refine dx_if_eq 29 dMC_guard_15 (by decide) (fun q => ?_) (fun q => ?_)
    · have h := h.1 q
      refine dx_iconst (v := 0) dMC_guard_29 (by decide) ?_
      exact dx_ret dMC_guard_30 rfl rfl h
    · have h := h.2 q
      refine dx_aload_n dMC_guard_18 rfl ?_
      refine dx_iload_n dMC_guard_19 rfl ?_
      refine dx_iload_n dMC_guard_20 rfl ?_
      refine dx_iload dMC_guard_21 rfl ?_
      obtain ⟨pp, hm, hk⟩ := h
      refine dx_callvi [.inl a2, .inl a3, .inl a4] [] dMC_guard_23 cvMC_88 rfl (Nat.le_of_ble_eq_true rfl) rfl hm (fun x6 σ5 hp => ?_)
      have h := hk x6 σ5 hp
      refine dx_if_ne 31 dMC_guard_26 (by decide) (fun q => ?_) (fun q => ?_)
      · have h := h.1 q
        refine dx_aload_n dMC_guard_31 rfl ?_
        refine dx_getr dMC_guard_32 flMC_19 rfl rfl ?_
        refine dx_iload_n dMC_guard_35 rfl ?_
        refine dx_iload_n dMC_guard_36 rfl ?_
        refine dx_iload_n dMC_guard_37 rfl ?_
        refine dx_iload dMC_guard_38 rfl ?_
        obtain ⟨pp, hm, hk⟩ := h
        refine dx_callvv [.inl a1, .inl a2, .inl a3, .inl a4] [] dMC_guard_40 cvMC_92 rfl (Nat.le_of_ble_eq_true rfl) rfl hm (fun σ7 hp => ?_)
        have h := hk σ7 hp
        refine dx_iconst (v := 1) dMC_guard_43 (by decide) ?_
        exact dx_ret dMC_guard_44 rfl rfl h
      · have h := h.2 q
        refine dx_iconst (v := 0) dMC_guard_29 (by decide) ?_
        exact dx_ret dMC_guard_30 rfl rfl h
set_option maxRecDepth 100000 in
set_option maxHeartbeats 4000000 in
theorem r_MC_action {E : dx_E} {d : Nat} {a1 a2 a3 a4 : Int32} {σ : dx_V} {po : dx_P} (h : dx_ci (m_MC_isBuilding E d σ) (fun x2 σ1 => (x2 = 0 → po (some 0) σ1) ∧ (¬ x2 = 0 → dx_ci (m_MC_mayOwn E d a1 σ1) (fun x4 σ3 => (x4 = 0 → po (some 0) σ3) ∧ (¬ x4 = 0 → dx_ci (m_MC_mayDo E d a2 a3 a4 σ3) (fun x6 σ5 => (x6 = 0 → po (some 0) σ5) ∧ (¬ x6 = 0 → (¬ (σ5 3 4) = 32 → dx_cu (m_AT_add E d a1 a2 a3 a4 σ5) (fun σ7 => po (some 1) σ7)) ∧ ((σ5 3 4) = 32 → po (some 0) σ5)))))))) : m_MC_action E (d + 1) a1 a2 a3 a4 σ po := by
  refine dx_entry (by decide) (Nat.le_of_ble_eq_true rfl) ?_
  show dx_G tX E (d + 1) RMC cMC_action 5 (some .boolean) po 0 [some (.inr 0), some (.inl a1), some (.inl a2), some (.inl a3), some (.inl a4)] [] σ
  refine dx_aload_n dMC_action_0 rfl ?_
  obtain ⟨pp, hm, hk⟩ := h
  refine dx_callvi [] [] dMC_action_1 cvMC_39 rfl (Nat.le_of_ble_eq_true rfl) rfl hm (fun x2 σ1 hp => ?_)
  have h := hk x2 σ1 hp
  refine dx_if_eq 37 dMC_action_4 (by decide) (fun q => ?_) (fun q => ?_)
  · have h := h.1 q
    refine dx_iconst (v := 0) dMC_action_37 (by decide) ?_
    exact dx_ret dMC_action_38 rfl rfl h
  · have h := h.2 q
    refine dx_aload_n dMC_action_7 rfl ?_
    refine dx_iload_n dMC_action_8 rfl ?_
    obtain ⟨pp, hm, hk⟩ := h
    refine dx_callvi [.inl a1] [] dMC_action_9 cvMC_96 rfl (Nat.le_of_ble_eq_true rfl) rfl hm (fun x4 σ3 hp => ?_)
    have h := hk x4 σ3 hp
    refine dx_if_eq 37 dMC_action_12 (by decide) (fun q => ?_) (fun q => ?_)
    · have h := h.1 q
      refine dx_iconst (v := 0) dMC_action_37 (by decide) ?_
      exact dx_ret dMC_action_38 rfl rfl h
    · have h := h.2 q
      refine dx_iload_n dMC_action_15 rfl ?_
      refine dx_iload_n dMC_action_16 rfl ?_
      refine dx_iload dMC_action_17 rfl ?_
      obtain ⟨pp, hm, hk⟩ := h
      refine dx_callsi [.inl a2, .inl a3, .inl a4] [] dMC_action_19 csMC_99 (Nat.le_of_ble_eq_true rfl) rfl hm (fun x6 σ5 hp => ?_)
      have h := hk x6 σ5 hp
      refine dx_if_eq 37 dMC_action_22 (by decide) (fun q => ?_) (fun q => ?_)
      · have h := h.1 q
        refine dx_iconst (v := 0) dMC_action_37 (by decide) ?_
        exact dx_ret dMC_action_38 rfl rfl h
      · have h := h.2 q
        refine dx_aload_n dMC_action_25 rfl ?_
        refine dx_getr dMC_action_26 flMC_26 rfl rfl ?_
        refine dx_geti dMC_action_29 flMC_102 rfl rfl ?_
        refine dx_bipush (v := 32) dMC_action_32 (by decide) ?_
        refine dx_icmp_ne 39 dMC_action_34 (by decide) (fun q => ?_) (fun q => ?_)
        · have h := h.1 q
          refine dx_aload_n dMC_action_39 rfl ?_
          refine dx_getr dMC_action_40 flMC_26 rfl rfl ?_
          refine dx_iload_n dMC_action_43 rfl ?_
          refine dx_iload_n dMC_action_44 rfl ?_
          refine dx_iload_n dMC_action_45 rfl ?_
          refine dx_iload dMC_action_46 rfl ?_
          obtain ⟨pp, hm, hk⟩ := h
          refine dx_callvv [.inl a1, .inl a2, .inl a3, .inl a4] [] dMC_action_48 cvMC_103 rfl (Nat.le_of_ble_eq_true rfl) rfl hm (fun σ7 hp => ?_)
          have h := hk σ7 hp
          refine dx_iconst (v := 1) dMC_action_51 (by decide) ?_
          exact dx_ret dMC_action_52 rfl rfl h
        · have h := h.2 q
          refine dx_iconst (v := 0) dMC_action_37 (by decide) ?_
          exact dx_ret dMC_action_38 rfl rfl h
set_option maxRecDepth 100000 in
set_option maxHeartbeats 4000000 in
theorem r_MC_begin {E : dx_E} {d : Nat} {σ : dx_V} {po : dx_P} (h : dx_ci (m_MC_isBuilding E d σ) (fun x2 σ1 => (¬ x2 = 0 → dx_ci (m_ST_isWhole E d σ1) (fun x4 σ3 => (¬ x4 = 0 → dx_cu (m_RU_open E d σ3) (fun σ5 => dx_cu (m_RU_macrostep E d σ5) (fun σ6 => po (some (σ6 4 11)) σ6))) ∧ (x4 = 0 → po (some (-3)) σ3))) ∧ (x2 = 0 → po (some (-1)) σ1))) : m_MC_begin E (d + 1) σ po := by
  refine dx_entry (by decide) (Nat.le_of_ble_eq_true rfl) ?_
  show dx_G tX E (d + 1) RMC cMC_begin 1 (some .int) po 0 [some (.inr 0)] [] σ
  refine dx_aload_n dMC_begin_0 rfl ?_
  obtain ⟨pp, hm, hk⟩ := h
  refine dx_callvi [] [] dMC_begin_1 cvMC_39 rfl (Nat.le_of_ble_eq_true rfl) rfl hm (fun x2 σ1 hp => ?_)
  have h := hk x2 σ1 hp
  refine dx_if_ne 9 dMC_begin_4 (by decide) (fun q => ?_) (fun q => ?_)
  · have h := h.1 q
    refine dx_aload_n dMC_begin_9 rfl ?_
    refine dx_getr dMC_begin_10 flMC_10 rfl rfl ?_
    obtain ⟨pp, hm, hk⟩ := h
    refine dx_callvi [] [] dMC_begin_13 cvMC_105 rfl (Nat.le_of_ble_eq_true rfl) rfl hm (fun x4 σ3 hp => ?_)
    have h := hk x4 σ3 hp
    refine dx_if_ne 22 dMC_begin_16 (by decide) (fun q => ?_) (fun q => ?_)
    · have h := h.1 q
      refine dx_aload_n dMC_begin_22 rfl ?_
      refine dx_getr dMC_begin_23 flMC_35 rfl rfl ?_
      obtain ⟨pp, hm, hk⟩ := h
      refine dx_callvv [] [] dMC_begin_26 cvMC_108 rfl (Nat.le_of_ble_eq_true rfl) rfl hm (fun σ5 hp => ?_)
      have h := hk σ5 hp
      refine dx_aload_n dMC_begin_29 rfl ?_
      refine dx_getr dMC_begin_30 flMC_35 rfl rfl ?_
      obtain ⟨pp, hm, hk⟩ := h
      refine dx_callvv [] [] dMC_begin_33 cvMC_111 rfl (Nat.le_of_ble_eq_true rfl) rfl hm (fun σ6 hp => ?_)
      have h := hk σ6 hp
      refine dx_aload_n dMC_begin_36 rfl ?_
      refine dx_getr dMC_begin_37 flMC_35 rfl rfl ?_
      refine dx_geti dMC_begin_40 flMC_114 rfl rfl ?_
      exact dx_ret dMC_begin_43 rfl rfl h
    · have h := h.2 q
      refine dx_bipush (v := (-3)) dMC_begin_19 (by decide) ?_
      exact dx_ret dMC_begin_21 rfl rfl h
  · have h := h.2 q
    refine dx_iconst (v := (-1)) dMC_begin_7 (by decide) ?_
    exact dx_ret dMC_begin_8 rfl rfl h
set_option maxRecDepth 100000 in
set_option maxHeartbeats 4000000 in
theorem r_MC_post {E : dx_E} {d : Nat} {a1 : Int32} {σ : dx_V} {po : dx_P} (h : dx_ci (m_RU_isGoingOn E d σ) (fun x2 σ1 => (x2 = 0 → po (some 0) σ1) ∧ (¬ x2 = 0 → dx_ci (m_MC_isEvent E d a1 σ1) (fun x4 σ3 => (x4 = 0 → po (some 0) σ3) ∧ (¬ x4 = 0 → dx_ci (m_LN_put_8 E d a1 σ3) (fun x6 σ5 => (x6 = 0 → po (some 0) σ5) ∧ (¬ x6 = 0 → po (some 1) σ5))))))) : m_MC_post E (d + 1) a1 σ po := by
  refine dx_entry (by decide) (Nat.le_of_ble_eq_true rfl) ?_
  show dx_G tX E (d + 1) RMC cMC_post 2 (some .boolean) po 0 [some (.inr 0), some (.inl a1)] [] σ
  refine dx_aload_n dMC_post_0 rfl ?_
  refine dx_getr dMC_post_1 flMC_35 rfl rfl ?_
  obtain ⟨pp, hm, hk⟩ := h
  refine dx_callvi [] [] dMC_post_4 cvMC_117 rfl (Nat.le_of_ble_eq_true rfl) rfl hm (fun x2 σ1 hp => ?_)
  have h := hk x2 σ1 hp
  refine dx_if_eq 35 dMC_post_7 (by decide) (fun q => ?_) (fun q => ?_)
  · have h := h.1 q
    refine dx_iconst (v := 0) dMC_post_35 (by decide) ?_
    exact dx_ret dMC_post_36 rfl rfl h
  · have h := h.2 q
    refine dx_iload_n dMC_post_10 rfl ?_
    obtain ⟨pp, hm, hk⟩ := h
    refine dx_callsi [.inl a1] [] dMC_post_11 csMC_120 (Nat.le_of_ble_eq_true rfl) rfl hm (fun x4 σ3 hp => ?_)
    have h := hk x4 σ3 hp
    refine dx_if_eq 35 dMC_post_14 (by decide) (fun q => ?_) (fun q => ?_)
    · have h := h.1 q
      refine dx_iconst (v := 0) dMC_post_35 (by decide) ?_
      exact dx_ret dMC_post_36 rfl rfl h
    · have h := h.2 q
      refine dx_aload_n dMC_post_17 rfl ?_
      refine dx_getr dMC_post_18 flMC_35 rfl rfl ?_
      refine dx_getr dMC_post_21 flMC_123 rfl rfl ?_
      refine dx_iload_n dMC_post_24 rfl ?_
      obtain ⟨pp, hm, hk⟩ := h
      refine dx_callvi [.inl a1] [] dMC_post_25 cvMC_127 rfl (Nat.le_of_ble_eq_true rfl) rfl hm (fun x6 σ5 hp => ?_)
      have h := hk x6 σ5 hp
      refine dx_if_eq 35 dMC_post_28 (by decide) (fun q => ?_) (fun q => ?_)
      · have h := h.1 q
        refine dx_iconst (v := 0) dMC_post_35 (by decide) ?_
        exact dx_ret dMC_post_36 rfl rfl h
      · have h := h.2 q
        refine dx_iconst (v := 1) dMC_post_31 (by decide) ?_
        refine dx_goto 36 dMC_post_32 (by decide) ?_
        exact dx_ret dMC_post_36 rfl rfl h
set_option maxRecDepth 100000 in
set_option maxHeartbeats 4000000 in
theorem r_MC_step {E : dx_E} {d : Nat} {σ : dx_V} {po : dx_P} (h : dx_ci (m_RU_isGoingOn E d σ) (fun x2 σ1 => (¬ x2 = 0 → (¬ (σ1 8 1) = 0 → dx_cu (m_RU_takeExternalEvent E d σ1) (fun σ3 => dx_cu (m_RU_macrostep E d σ3) (fun σ4 => po (some (σ4 4 11)) σ4))) ∧ ((σ1 8 1) = 0 → po (some (-4)) σ1)) ∧ (x2 = 0 → po (some (-1)) σ1))) : m_MC_step E (d + 1) σ po := by
  refine dx_entry (by decide) (Nat.le_of_ble_eq_true rfl) ?_
  show dx_G tX E (d + 1) RMC cMC_step 1 (some .int) po 0 [some (.inr 0)] [] σ
  refine dx_aload_n dMC_step_0 rfl ?_
  refine dx_getr dMC_step_1 flMC_35 rfl rfl ?_
  obtain ⟨pp, hm, hk⟩ := h
  refine dx_callvi [] [] dMC_step_4 cvMC_117 rfl (Nat.le_of_ble_eq_true rfl) rfl hm (fun x2 σ1 hp => ?_)
  have h := hk x2 σ1 hp
  refine dx_if_ne 12 dMC_step_7 (by decide) (fun q => ?_) (fun q => ?_)
  · have h := h.1 q
    refine dx_aload_n dMC_step_12 rfl ?_
    refine dx_getr dMC_step_13 flMC_35 rfl rfl ?_
    refine dx_getr dMC_step_16 flMC_123 rfl rfl ?_
    refine dx_geti dMC_step_19 flMC_132 rfl rfl ?_
    refine dx_if_ne 28 dMC_step_22 (by decide) (fun q => ?_) (fun q => ?_)
    · have h := h.1 q
      refine dx_aload_n dMC_step_28 rfl ?_
      refine dx_getr dMC_step_29 flMC_35 rfl rfl ?_
      obtain ⟨pp, hm, hk⟩ := h
      refine dx_callvv [] [] dMC_step_32 cvMC_133 rfl (Nat.le_of_ble_eq_true rfl) rfl hm (fun σ3 hp => ?_)
      have h := hk σ3 hp
      refine dx_aload_n dMC_step_35 rfl ?_
      refine dx_getr dMC_step_36 flMC_35 rfl rfl ?_
      obtain ⟨pp, hm, hk⟩ := h
      refine dx_callvv [] [] dMC_step_39 cvMC_111 rfl (Nat.le_of_ble_eq_true rfl) rfl hm (fun σ4 hp => ?_)
      have h := hk σ4 hp
      refine dx_aload_n dMC_step_42 rfl ?_
      refine dx_getr dMC_step_43 flMC_35 rfl rfl ?_
      refine dx_geti dMC_step_46 flMC_114 rfl rfl ?_
      exact dx_ret dMC_step_49 rfl rfl h
    · have h := h.2 q
      refine dx_bipush (v := (-4)) dMC_step_25 (by decide) ?_
      exact dx_ret dMC_step_27 rfl rfl h
  · have h := h.2 q
    refine dx_iconst (v := (-1)) dMC_step_10 (by decide) ?_
    exact dx_ret dMC_step_11 rfl rfl h
set_option maxRecDepth 100000 in
set_option maxHeartbeats 4000000 in
theorem r_MC_tick {E : dx_E} {d : Nat} {a1 : Int32} {σ : dx_V} {po : dx_P} (h : dx_ci (m_RU_isGoingOn E d σ) (fun x2 σ1 => (x2 = 0 → po (some (-1)) σ1) ∧ (¬ x2 = 0 → (a1 < 1 → po (some (-1)) σ1) ∧ (¬ a1 < 1 → (a1 ≤ 50 → dx_cu (m_RU_advanceClock E d a1 σ1) (fun σ3 => po (some (σ3 4 10)) σ3)) ∧ (¬ a1 ≤ 50 → po (some (-1)) σ1))))) : m_MC_tick E (d + 1) a1 σ po := by
  refine dx_entry (by decide) (Nat.le_of_ble_eq_true rfl) ?_
  show dx_G tX E (d + 1) RMC cMC_tick 2 (some .int) po 0 [some (.inr 0), some (.inl a1)] [] σ
  refine dx_aload_n dMC_tick_0 rfl ?_
  refine dx_getr dMC_tick_1 flMC_35 rfl rfl ?_
  obtain ⟨pp, hm, hk⟩ := h
  refine dx_callvi [] [] dMC_tick_4 cvMC_117 rfl (Nat.le_of_ble_eq_true rfl) rfl hm (fun x2 σ1 hp => ?_)
  have h := hk x2 σ1 hp
  refine dx_if_eq 21 dMC_tick_7 (by decide) (fun q => ?_) (fun q => ?_)
  · have h := h.1 q
    refine dx_iconst (v := (-1)) dMC_tick_21 (by decide) ?_
    exact dx_ret dMC_tick_22 rfl rfl h
  · have h := h.2 q
    refine dx_iload_n dMC_tick_10 rfl ?_
    refine dx_iconst (v := 1) dMC_tick_11 (by decide) ?_
    refine dx_icmp_lt 21 dMC_tick_12 (by decide) (fun q => ?_) (fun q => ?_)
    · have h := h.1 q
      refine dx_iconst (v := (-1)) dMC_tick_21 (by decide) ?_
      exact dx_ret dMC_tick_22 rfl rfl h
    · have h := h.2 q
      refine dx_iload_n dMC_tick_15 rfl ?_
      refine dx_bipush (v := 50) dMC_tick_16 (by decide) ?_
      refine dx_icmp_le 23 dMC_tick_18 (by decide) (fun q => ?_) (fun q => ?_)
      · have h := h.1 q
        refine dx_aload_n dMC_tick_23 rfl ?_
        refine dx_getr dMC_tick_24 flMC_35 rfl rfl ?_
        refine dx_iload_n dMC_tick_27 rfl ?_
        obtain ⟨pp, hm, hk⟩ := h
        refine dx_callvv [.inl a1] [] dMC_tick_28 cvMC_136 rfl (Nat.le_of_ble_eq_true rfl) rfl hm (fun σ3 hp => ?_)
        have h := hk σ3 hp
        refine dx_aload_n dMC_tick_31 rfl ?_
        refine dx_getr dMC_tick_32 flMC_35 rfl rfl ?_
        refine dx_geti dMC_tick_35 flMC_140 rfl rfl ?_
        exact dx_ret dMC_tick_38 rfl rfl h
      · have h := h.2 q
        refine dx_iconst (v := (-1)) dMC_tick_21 (by decide) ?_
        exact dx_ret dMC_tick_22 rfl rfl h
set_option maxRecDepth 100000 in
set_option maxHeartbeats 4000000 in
theorem r_MC_reset {E : dx_E} {d : Nat} {σ : dx_V} {po : dx_P} (h : po none (dx_u σ 4 12 0)) : m_MC_reset E d σ po := by
  refine dx_entry (by decide) (Nat.le_of_ble_eq_true rfl) ?_
  show dx_G tX E d RMC cMC_reset 1 none po 0 [some (.inr 0)] [] σ
  refine dx_aload_n dMC_reset_0 rfl ?_
  refine dx_getr dMC_reset_1 flMC_35 rfl rfl ?_
  refine dx_iconst (v := 0) dMC_reset_4 (by decide) ?_
  refine dx_put dMC_reset_5 fpMC_143 rfl rfl (Or.inl rfl) ?_
  exact dx_vret dMC_reset_8 rfl h
set_option maxRecDepth 100000 in
set_option maxHeartbeats 4000000 in
theorem r_MC_outcome {E : dx_E} {d : Nat} {σ : dx_V} {po : dx_P} (h : po (some (σ 4 12)) σ) : m_MC_outcome E d σ po := by
  refine dx_entry (by decide) (Nat.le_of_ble_eq_true rfl) ?_
  show dx_G tX E d RMC cMC_outcome 1 (some .int) po 0 [some (.inr 0)] [] σ
  refine dx_aload_n dMC_outcome_0 rfl ?_
  refine dx_getr dMC_outcome_1 flMC_35 rfl rfl ?_
  refine dx_geti dMC_outcome_4 flMC_143 rfl rfl ?_
  exact dx_ret dMC_outcome_7 rfl rfl h
set_option maxRecDepth 100000 in
set_option maxHeartbeats 4000000 in
theorem r_MC_active {E : dx_E} {d : Nat} {σ : dx_V} {po : dx_P} (h : dx_ci (m_MC_isBuilding E d σ) (fun x2 σ1 => (x2 = 0 → po (some (σ1 5 1)) σ1) ∧ (¬ x2 = 0 → po (some 0) σ1))) : m_MC_active E (d + 1) σ po := by
  refine dx_entry (by decide) (Nat.le_of_ble_eq_true rfl) ?_
  show dx_G tX E (d + 1) RMC cMC_active 1 (some .int) po 0 [some (.inr 0)] [] σ
  refine dx_aload_n dMC_active_0 rfl ?_
  obtain ⟨pp, hm, hk⟩ := h
  refine dx_callvi [] [] dMC_active_1 cvMC_39 rfl (Nat.le_of_ble_eq_true rfl) rfl hm (fun x2 σ1 hp => ?_)
  have h := hk x2 σ1 hp
  refine dx_if_eq 11 dMC_active_4 (by decide) (fun q => ?_) (fun q => ?_)
  · have h := h.1 q
    refine dx_aload_n dMC_active_11 rfl ?_
    refine dx_getr dMC_active_12 flMC_35 rfl rfl ?_
    refine dx_getr dMC_active_15 flMC_146 rfl rfl ?_
    refine dx_geti dMC_active_18 flMC_150 rfl rfl ?_
    exact dx_ret dMC_active_21 rfl rfl h
  · have h := h.2 q
    refine dx_iconst (v := 0) dMC_active_7 (by decide) ?_
    refine dx_goto 21 dMC_active_8 (by decide) ?_
    exact dx_ret dMC_active_21 rfl rfl h
set_option maxRecDepth 100000 in
set_option maxHeartbeats 4000000 in
theorem r_MC_remembered {E : dx_E} {d : Nat} {a1 : Int32} {σ : dx_V} {po : dx_P} (h : dx_ci (m_MC_isBuilding E d σ) (fun x2 σ1 => (¬ x2 = 0 → po (some 0) σ1) ∧ (x2 = 0 → dx_ci (m_ST_isMade E d a1 σ1) (fun x4 σ3 => (¬ x4 = 0 → vp_in a1 16 ∧ (po (some (σ3 28 a1.toNatClampNeg)) σ3)) ∧ (x4 = 0 → po (some 0) σ3))))) : m_MC_remembered E (d + 1) a1 σ po := by
  refine dx_entry (by decide) (Nat.le_of_ble_eq_true rfl) ?_
  show dx_G tX E (d + 1) RMC cMC_remembered 2 (some .int) po 0 [some (.inr 0), some (.inl a1)] [] σ
  refine dx_aload_n dMC_remembered_0 rfl ?_
  obtain ⟨pp, hm, hk⟩ := h
  refine dx_callvi [] [] dMC_remembered_1 cvMC_39 rfl (Nat.le_of_ble_eq_true rfl) rfl hm (fun x2 σ1 hp => ?_)
  have h := hk x2 σ1 hp
  refine dx_if_ne 18 dMC_remembered_4 (by decide) (fun q => ?_) (fun q => ?_)
  · have h := h.1 q
    refine dx_iconst (v := 0) dMC_remembered_18 (by decide) ?_
    exact dx_ret dMC_remembered_19 rfl rfl h
  · have h := h.2 q
    refine dx_aload_n dMC_remembered_7 rfl ?_
    refine dx_getr dMC_remembered_8 flMC_10 rfl rfl ?_
    refine dx_iload_n dMC_remembered_11 rfl ?_
    obtain ⟨pp, hm, hk⟩ := h
    refine dx_callvi [.inl a1] [] dMC_remembered_12 cvMC_155 rfl (Nat.le_of_ble_eq_true rfl) rfl hm (fun x4 σ3 hp => ?_)
    have h := hk x4 σ3 hp
    refine dx_if_ne 20 dMC_remembered_15 (by decide) (fun q => ?_) (fun q => ?_)
    · have h := h.1 q
      refine dx_aload_n dMC_remembered_20 rfl ?_
      refine dx_getr dMC_remembered_21 flMC_35 rfl rfl ?_
      refine dx_getr dMC_remembered_24 flMC_158 rfl rfl ?_
      refine dx_iload_n dMC_remembered_27 rfl ?_
      obtain ⟨hi, h⟩ := h
      refine dx_iaload dMC_remembered_28 rfl hi ?_
      exact dx_ret dMC_remembered_29 rfl rfl h
    · have h := h.2 q
      refine dx_iconst (v := 0) dMC_remembered_18 (by decide) ?_
      exact dx_ret dMC_remembered_19 rfl rfl h
def g_MC_variable_14 (E : dx_E) (d : Nat) (po : dx_P) (σ : dx_V) : Prop := dx_G tX E d RMC cMC_variable 2 (some .int) po 14 [none, none] [] σ
set_option maxRecDepth 100000 in
set_option maxHeartbeats 4000000 in
theorem r_MC_variable {E : dx_E} {d : Nat} {a1 : Int32} {σ : dx_V} {po : dx_P} (h : dx_ci (m_MC_isBuilding E d σ) (fun x2 σ1 => (¬ x2 = 0 → g_MC_variable_14 E (d + 1) po σ1) ∧ (x2 = 0 → dx_ci (m_MC_isVariable E d a1 σ1) (fun x4 σ3 => (¬ x4 = 0 → vp_in a1 4 ∧ (po (some (σ3 29 a1.toNatClampNeg)) σ3)) ∧ (x4 = 0 → g_MC_variable_14 E (d + 1) po σ3))))) : m_MC_variable E (d + 1) a1 σ po := by
  refine dx_entry (by decide) (Nat.le_of_ble_eq_true rfl) ?_
  show dx_G tX E (d + 1) RMC cMC_variable 2 (some .int) po 0 [some (.inr 0), some (.inl a1)] [] σ
  refine dx_aload_n dMC_variable_0 rfl ?_
  obtain ⟨pp, hm, hk⟩ := h
  refine dx_callvi [] [] dMC_variable_1 cvMC_39 rfl (Nat.le_of_ble_eq_true rfl) rfl hm (fun x2 σ1 hp => ?_)
  have h := hk x2 σ1 hp
  refine dx_if_ne 14 dMC_variable_4 (by decide) (fun q => ?_) (fun q => ?_)
  · have h := h.1 q
    exact dx_less (L' := [none, none]) trivial h
  · have h := h.2 q
    refine dx_iload_n dMC_variable_7 rfl ?_
    obtain ⟨pp, hm, hk⟩ := h
    refine dx_callsi [.inl a1] [] dMC_variable_8 csMC_161 (Nat.le_of_ble_eq_true rfl) rfl hm (fun x4 σ3 hp => ?_)
    have h := hk x4 σ3 hp
    refine dx_if_ne 18 dMC_variable_11 (by decide) (fun q => ?_) (fun q => ?_)
    · have h := h.1 q
      refine dx_aload_n dMC_variable_18 rfl ?_
      refine dx_getr dMC_variable_19 flMC_35 rfl rfl ?_
      refine dx_getr dMC_variable_22 flMC_146 rfl rfl ?_
      refine dx_getr dMC_variable_25 flMC_164 rfl rfl ?_
      refine dx_iload_n dMC_variable_28 rfl ?_
      obtain ⟨hi, h⟩ := h
      refine dx_iaload dMC_variable_29 rfl hi ?_
      exact dx_ret dMC_variable_30 rfl rfl h
    · have h := h.2 q
      exact dx_less (L' := [none, none]) trivial h
set_option maxRecDepth 100000 in
set_option maxHeartbeats 4000000 in
theorem r_MC_variable_14 {E : dx_E} {d : Nat} {po : dx_P} {σ : dx_V} (h : po (some 0) σ) : g_MC_variable_14 E (d + 1) po σ := by
  show dx_G tX E (d + 1) RMC cMC_variable 2 (some .int) po 14 [none, none] [] σ
  refine dx_iconst (v := 0) dMC_variable_14 (by decide) ?_
  refine dx_goto 30 dMC_variable_15 (by decide) ?_
  exact dx_ret dMC_variable_30 rfl rfl h
set_option maxRecDepth 100000 in
set_option maxHeartbeats 4000000 in
theorem r_MC_listed {E : dx_E} {d : Nat} {a1 : Int32} {σ : dx_V} {po : dx_P} (h : dx_ci (m_MC_isBuilding E d σ) (fun x2 σ1 => (x2 = 0 → dx_ci (m_LN_at_9 E d a1 σ1) (fun x4 σ3 => po (some x4) σ3)) ∧ (¬ x2 = 0 → po (some (-1)) σ1))) : m_MC_listed E (d + 1) a1 σ po := by
  refine dx_entry (by decide) (Nat.le_of_ble_eq_true rfl) ?_
  show dx_G tX E (d + 1) RMC cMC_listed 2 (some .int) po 0 [some (.inr 0), some (.inl a1)] [] σ
  refine dx_aload_n dMC_listed_0 rfl ?_
  obtain ⟨pp, hm, hk⟩ := h
  refine dx_callvi [] [] dMC_listed_1 cvMC_39 rfl (Nat.le_of_ble_eq_true rfl) rfl hm (fun x2 σ1 hp => ?_)
  have h := hk x2 σ1 hp
  refine dx_if_eq 11 dMC_listed_4 (by decide) (fun q => ?_) (fun q => ?_)
  · have h := h.1 q
    refine dx_aload_n dMC_listed_11 rfl ?_
    refine dx_getr dMC_listed_12 flMC_35 rfl rfl ?_
    refine dx_getr dMC_listed_15 flMC_167 rfl rfl ?_
    refine dx_iload_n dMC_listed_18 rfl ?_
    obtain ⟨pp, hm, hk⟩ := h
    refine dx_callvi [.inl a1] [] dMC_listed_19 cvMC_170 rfl (Nat.le_of_ble_eq_true rfl) rfl hm (fun x4 σ3 hp => ?_)
    have h := hk x4 σ3 hp
    exact dx_ret dMC_listed_22 rfl rfl h
  · have h := h.2 q
    refine dx_iconst (v := (-1)) dMC_listed_7 (by decide) ?_
    refine dx_goto 22 dMC_listed_8 (by decide) ?_
    exact dx_ret dMC_listed_22 rfl rfl h
set_option maxRecDepth 100000 in
set_option maxHeartbeats 4000000 in
theorem r_MC_waiting {E : dx_E} {d : Nat} {a1 : Int32} {σ : dx_V} {po : dx_P} (h : (a1 < 0 → po (some (-1)) σ) ∧ (¬ a1 < 0 → (a1 ≤ 2 → dx_ci (m_MC_isBuilding E d σ) (fun x2 σ1 => (x2 = 0 → (¬ a1 = 2 → (¬ a1 = 0 → po (some (σ1 8 1)) σ1) ∧ (a1 = 0 → po (some (σ1 7 1)) σ1)) ∧ (a1 = 2 → po (some (σ1 10 2)) σ1)) ∧ (¬ x2 = 0 → po (some 0) σ1))) ∧ (¬ a1 ≤ 2 → po (some (-1)) σ))) : m_MC_waiting E (d + 1) a1 σ po := by
  refine dx_entry (by decide) (Nat.le_of_ble_eq_true rfl) ?_
  show dx_G tX E (d + 1) RMC cMC_waiting 2 (some .int) po 0 [some (.inr 0), some (.inl a1)] [] σ
  refine dx_iload_n dMC_waiting_0 rfl ?_
  refine dx_if_lt 9 dMC_waiting_1 (by decide) (fun q => ?_) (fun q => ?_)
  · have h := h.1 q
    refine dx_iconst (v := (-1)) dMC_waiting_9 (by decide) ?_
    exact dx_ret dMC_waiting_10 rfl rfl h
  · have h := h.2 q
    refine dx_iload_n dMC_waiting_4 rfl ?_
    refine dx_iconst (v := 2) dMC_waiting_5 (by decide) ?_
    refine dx_icmp_le 11 dMC_waiting_6 (by decide) (fun q => ?_) (fun q => ?_)
    · have h := h.1 q
      refine dx_aload_n dMC_waiting_11 rfl ?_
      obtain ⟨pp, hm, hk⟩ := h
      refine dx_callvi [] [] dMC_waiting_12 cvMC_39 rfl (Nat.le_of_ble_eq_true rfl) rfl hm (fun x2 σ1 hp => ?_)
      have h := hk x2 σ1 hp
      refine dx_if_eq 20 dMC_waiting_15 (by decide) (fun q => ?_) (fun q => ?_)
      · have h := h.1 q
        refine dx_iload_n dMC_waiting_20 rfl ?_
        refine dx_iconst (v := 2) dMC_waiting_21 (by decide) ?_
        refine dx_icmp_ne 36 dMC_waiting_22 (by decide) (fun q => ?_) (fun q => ?_)
        · have h := h.1 q
          refine dx_iload_n dMC_waiting_36 rfl ?_
          refine dx_if_ne 53 dMC_waiting_37 (by decide) (fun q => ?_) (fun q => ?_)
          · have h := h.1 q
            refine dx_aload_n dMC_waiting_53 rfl ?_
            refine dx_getr dMC_waiting_54 flMC_35 rfl rfl ?_
            refine dx_getr dMC_waiting_57 flMC_123 rfl rfl ?_
            refine dx_geti dMC_waiting_60 flMC_132 rfl rfl ?_
            exact dx_ret dMC_waiting_63 rfl rfl h
          · have h := h.2 q
            refine dx_aload_n dMC_waiting_40 rfl ?_
            refine dx_getr dMC_waiting_41 flMC_35 rfl rfl ?_
            refine dx_getr dMC_waiting_44 flMC_181 rfl rfl ?_
            refine dx_geti dMC_waiting_47 flMC_132 rfl rfl ?_
            refine dx_goto 63 dMC_waiting_50 (by decide) ?_
            exact dx_ret dMC_waiting_63 rfl rfl h
        · have h := h.2 q
          refine dx_aload_n dMC_waiting_25 rfl ?_
          refine dx_getr dMC_waiting_26 flMC_35 rfl rfl ?_
          refine dx_getr dMC_waiting_29 flMC_174 rfl rfl ?_
          refine dx_geti dMC_waiting_32 flMC_178 rfl rfl ?_
          exact dx_ret dMC_waiting_35 rfl rfl h
      · have h := h.2 q
        refine dx_iconst (v := 0) dMC_waiting_18 (by decide) ?_
        exact dx_ret dMC_waiting_19 rfl rfl h
    · have h := h.2 q
      refine dx_iconst (v := (-1)) dMC_waiting_9 (by decide) ?_
      exact dx_ret dMC_waiting_10 rfl rfl h
set_option maxRecDepth 100000 in
set_option maxHeartbeats 4000000 in
theorem r_MC_isBuilding {E : dx_E} {d : Nat} {σ : dx_V} {po : dx_P} (h : (¬ (σ 4 12) = 0 → po (some 0) σ) ∧ ((σ 4 12) = 0 → po (some 1) σ)) : m_MC_isBuilding E d σ po := by
  refine dx_entry (by decide) (Nat.le_of_ble_eq_true rfl) ?_
  show dx_G tX E d RMC cMC_isBuilding 1 (some .boolean) po 0 [some (.inr 0)] [] σ
  refine dx_aload_n dMC_isBuilding_0 rfl ?_
  refine dx_getr dMC_isBuilding_1 flMC_35 rfl rfl ?_
  refine dx_geti dMC_isBuilding_4 flMC_143 rfl rfl ?_
  refine dx_if_ne 14 dMC_isBuilding_7 (by decide) (fun q => ?_) (fun q => ?_)
  · have h := h.1 q
    refine dx_iconst (v := 0) dMC_isBuilding_14 (by decide) ?_
    exact dx_ret dMC_isBuilding_15 rfl rfl h
  · have h := h.2 q
    refine dx_iconst (v := 1) dMC_isBuilding_10 (by decide) ?_
    refine dx_goto 15 dMC_isBuilding_11 (by decide) ?_
    exact dx_ret dMC_isBuilding_15 rfl rfl h
set_option maxRecDepth 100000 in
set_option maxHeartbeats 4000000 in
theorem r_MC_maySource {E : dx_E} {d : Nat} {a1 : Int32} {σ : dx_V} {po : dx_P} (h : dx_ci (m_ST_isMadeState E d a1 σ) (fun x2 σ1 => (x2 = 0 → po (some 0) σ1) ∧ (¬ x2 = 0 → vp_in a1 16 ∧ (((σ1 11 a1.toNatClampNeg) = 3 → po (some 0) σ1) ∧ (¬ (σ1 11 a1.toNatClampNeg) = 3 → po (some 1) σ1))))) : m_MC_maySource E (d + 1) a1 σ po := by
  refine dx_entry (by decide) (Nat.le_of_ble_eq_true rfl) ?_
  show dx_G tX E (d + 1) RMC cMC_maySource 2 (some .boolean) po 0 [some (.inr 0), some (.inl a1)] [] σ
  refine dx_aload_n dMC_maySource_0 rfl ?_
  refine dx_getr dMC_maySource_1 flMC_10 rfl rfl ?_
  refine dx_iload_n dMC_maySource_4 rfl ?_
  obtain ⟨pp, hm, hk⟩ := h
  refine dx_callvi [.inl a1] [] dMC_maySource_5 cvMC_55 rfl (Nat.le_of_ble_eq_true rfl) rfl hm (fun x2 σ1 hp => ?_)
  have h := hk x2 σ1 hp
  refine dx_if_eq 28 dMC_maySource_8 (by decide) (fun q => ?_) (fun q => ?_)
  · have h := h.1 q
    refine dx_iconst (v := 0) dMC_maySource_28 (by decide) ?_
    exact dx_ret dMC_maySource_29 rfl rfl h
  · have h := h.2 q
    refine dx_aload_n dMC_maySource_11 rfl ?_
    refine dx_getr dMC_maySource_12 flMC_10 rfl rfl ?_
    refine dx_getr dMC_maySource_15 flMC_59 rfl rfl ?_
    refine dx_iload_n dMC_maySource_18 rfl ?_
    obtain ⟨hi, h⟩ := h
    refine dx_iaload dMC_maySource_19 rfl hi ?_
    refine dx_iconst (v := 3) dMC_maySource_20 (by decide) ?_
    refine dx_icmp_eq 28 dMC_maySource_21 (by decide) (fun q => ?_) (fun q => ?_)
    · have h := h.1 q
      refine dx_iconst (v := 0) dMC_maySource_28 (by decide) ?_
      exact dx_ret dMC_maySource_29 rfl rfl h
    · have h := h.2 q
      refine dx_iconst (v := 1) dMC_maySource_24 (by decide) ?_
      refine dx_goto 29 dMC_maySource_25 (by decide) ?_
      exact dx_ret dMC_maySource_29 rfl rfl h
def g_MC_mayAwait_25 (E : dx_E) (d : Nat) (po : dx_P) (σ : dx_V) : Prop := dx_G tX E d RMC cMC_mayAwait 2 (some .boolean) po 25 [none, none] [] σ
set_option maxRecDepth 100000 in
set_option maxHeartbeats 4000000 in
theorem r_MC_mayAwait {E : dx_E} {d : Nat} {a1 : Int32} {σ : dx_V} {po : dx_P} (h : (a1 = 0 → g_MC_mayAwait_25 E (d + 1) po σ) ∧ (¬ a1 = 0 → dx_ci (m_MC_isEvent E d a1 σ) (fun x2 σ1 => (¬ x2 = 0 → g_MC_mayAwait_25 E (d + 1) po σ1) ∧ (x2 = 0 → dx_ci (m_ST_isMadeState E d (a1 - 100) σ1) (fun x4 σ3 => (x4 = 0 → po (some 0) σ3) ∧ (¬ x4 = 0 → g_MC_mayAwait_25 E (d + 1) po σ3)))))) : m_MC_mayAwait E (d + 1) a1 σ po := by
  refine dx_entry (by decide) (Nat.le_of_ble_eq_true rfl) ?_
  show dx_G tX E (d + 1) RMC cMC_mayAwait 2 (some .boolean) po 0 [some (.inr 0), some (.inl a1)] [] σ
  refine dx_iload_n dMC_mayAwait_0 rfl ?_
  refine dx_if_eq 25 dMC_mayAwait_1 (by decide) (fun q => ?_) (fun q => ?_)
  · have h := h.1 q
    exact dx_less (L' := [none, none]) trivial h
  · have h := h.2 q
    refine dx_iload_n dMC_mayAwait_4 rfl ?_
    obtain ⟨pp, hm, hk⟩ := h
    refine dx_callsi [.inl a1] [] dMC_mayAwait_5 csMC_120 (Nat.le_of_ble_eq_true rfl) rfl hm (fun x2 σ1 hp => ?_)
    have h := hk x2 σ1 hp
    refine dx_if_ne 25 dMC_mayAwait_8 (by decide) (fun q => ?_) (fun q => ?_)
    · have h := h.1 q
      exact dx_less (L' := [none, none]) trivial h
    · have h := h.2 q
      refine dx_aload_n dMC_mayAwait_11 rfl ?_
      refine dx_getr dMC_mayAwait_12 flMC_10 rfl rfl ?_
      refine dx_iload_n dMC_mayAwait_15 rfl ?_
      refine dx_bipush (v := 100) dMC_mayAwait_16 (by decide) ?_
      refine dx_isub dMC_mayAwait_18 ?_
      obtain ⟨pp, hm, hk⟩ := h
      refine dx_callvi [.inl (a1 - 100)] [] dMC_mayAwait_19 cvMC_55 rfl (Nat.le_of_ble_eq_true rfl) rfl hm (fun x4 σ3 hp => ?_)
      have h := hk x4 σ3 hp
      refine dx_if_eq 29 dMC_mayAwait_22 (by decide) (fun q => ?_) (fun q => ?_)
      · have h := h.1 q
        refine dx_iconst (v := 0) dMC_mayAwait_29 (by decide) ?_
        exact dx_ret dMC_mayAwait_30 rfl rfl h
      · have h := h.2 q
        exact dx_less (L' := [none, none]) trivial h
set_option maxRecDepth 100000 in
set_option maxHeartbeats 4000000 in
theorem r_MC_mayAwait_25 {E : dx_E} {d : Nat} {po : dx_P} {σ : dx_V} (h : po (some 1) σ) : g_MC_mayAwait_25 E (d + 1) po σ := by
  show dx_G tX E (d + 1) RMC cMC_mayAwait 2 (some .boolean) po 25 [none, none] [] σ
  refine dx_iconst (v := 1) dMC_mayAwait_25 (by decide) ?_
  refine dx_goto 30 dMC_mayAwait_26 (by decide) ?_
  exact dx_ret dMC_mayAwait_30 rfl rfl h
def g_MC_mayTarget_16 (E : dx_E) (d : Nat) (po : dx_P) (σ : dx_V) : Prop := dx_G tX E d RMC cMC_mayTarget 2 (some .boolean) po 16 [none, none] [] σ
set_option maxRecDepth 100000 in
set_option maxHeartbeats 4000000 in
theorem r_MC_mayTarget {E : dx_E} {d : Nat} {a1 : Int32} {σ : dx_V} {po : dx_P} (h : (a1 = (-1) → g_MC_mayTarget_16 E (d + 1) po σ) ∧ (¬ a1 = (-1) → dx_ci (m_ST_isMade E d a1 σ) (fun x2 σ1 => (x2 = 0 → po (some 0) σ1) ∧ (¬ x2 = 0 → g_MC_mayTarget_16 E (d + 1) po σ1)))) : m_MC_mayTarget E (d + 1) a1 σ po := by
  refine dx_entry (by decide) (Nat.le_of_ble_eq_true rfl) ?_
  show dx_G tX E (d + 1) RMC cMC_mayTarget 2 (some .boolean) po 0 [some (.inr 0), some (.inl a1)] [] σ
  refine dx_iload_n dMC_mayTarget_0 rfl ?_
  refine dx_iconst (v := (-1)) dMC_mayTarget_1 (by decide) ?_
  refine dx_icmp_eq 16 dMC_mayTarget_2 (by decide) (fun q => ?_) (fun q => ?_)
  · have h := h.1 q
    exact dx_less (L' := [none, none]) trivial h
  · have h := h.2 q
    refine dx_aload_n dMC_mayTarget_5 rfl ?_
    refine dx_getr dMC_mayTarget_6 flMC_10 rfl rfl ?_
    refine dx_iload_n dMC_mayTarget_9 rfl ?_
    obtain ⟨pp, hm, hk⟩ := h
    refine dx_callvi [.inl a1] [] dMC_mayTarget_10 cvMC_155 rfl (Nat.le_of_ble_eq_true rfl) rfl hm (fun x2 σ1 hp => ?_)
    have h := hk x2 σ1 hp
    refine dx_if_eq 20 dMC_mayTarget_13 (by decide) (fun q => ?_) (fun q => ?_)
    · have h := h.1 q
      refine dx_iconst (v := 0) dMC_mayTarget_20 (by decide) ?_
      exact dx_ret dMC_mayTarget_21 rfl rfl h
    · have h := h.2 q
      exact dx_less (L' := [none, none]) trivial h
set_option maxRecDepth 100000 in
set_option maxHeartbeats 4000000 in
theorem r_MC_mayTarget_16 {E : dx_E} {d : Nat} {po : dx_P} {σ : dx_V} (h : po (some 1) σ) : g_MC_mayTarget_16 E (d + 1) po σ := by
  show dx_G tX E (d + 1) RMC cMC_mayTarget 2 (some .boolean) po 16 [none, none] [] σ
  refine dx_iconst (v := 1) dMC_mayTarget_16 (by decide) ?_
  refine dx_goto 21 dMC_mayTarget_17 (by decide) ?_
  exact dx_ret dMC_mayTarget_21 rfl rfl h
set_option maxRecDepth 100000 in
set_option maxHeartbeats 4000000 in
theorem r_MC_mayGuard {E : dx_E} {d : Nat} {a1 a2 a3 : Int32} {σ : dx_V} {po : dx_P} (h : (¬ a2 = 3 → (a2 < 0 → po (some 0) σ) ∧ (¬ a2 < 0 → (2 < a2 → po (some 0) σ) ∧ (¬ 2 < a2 → dx_ci (m_MC_isVariable E d a1 σ) (fun x2 σ1 => (x2 = 0 → po (some 0) σ1) ∧ (¬ x2 = 0 → po (some 1) σ1))))) ∧ (a2 = 3 → (¬ a1 = 0 → po (some 0) σ) ∧ (a1 = 0 → dx_ci (m_ST_isMadeState E d a3 σ) (fun x4 σ3 => (x4 = 0 → po (some 0) σ3) ∧ (¬ x4 = 0 → po (some 1) σ3))))) : m_MC_mayGuard E (d + 1) a1 a2 a3 σ po := by
  refine dx_entry (by decide) (Nat.le_of_ble_eq_true rfl) ?_
  show dx_G tX E (d + 1) RMC cMC_mayGuard 4 (some .boolean) po 0 [some (.inr 0), some (.inl a1), some (.inl a2), some (.inl a3)] [] σ
  refine dx_iload_n dMC_mayGuard_0 rfl ?_
  refine dx_iconst (v := 3) dMC_mayGuard_1 (by decide) ?_
  refine dx_icmp_ne 26 dMC_mayGuard_2 (by decide) (fun q => ?_) (fun q => ?_)
  · have h := h.1 q
    refine dx_iload_n dMC_mayGuard_26 rfl ?_
    refine dx_if_lt 46 dMC_mayGuard_27 (by decide) (fun q => ?_) (fun q => ?_)
    · have h := h.1 q
      refine dx_iconst (v := 0) dMC_mayGuard_46 (by decide) ?_
      exact dx_ret dMC_mayGuard_47 rfl rfl h
    · have h := h.2 q
      refine dx_iload_n dMC_mayGuard_30 rfl ?_
      refine dx_iconst (v := 2) dMC_mayGuard_31 (by decide) ?_
      refine dx_icmp_gt 46 dMC_mayGuard_32 (by decide) (fun q => ?_) (fun q => ?_)
      · have h := h.1 q
        refine dx_iconst (v := 0) dMC_mayGuard_46 (by decide) ?_
        exact dx_ret dMC_mayGuard_47 rfl rfl h
      · have h := h.2 q
        refine dx_iload_n dMC_mayGuard_35 rfl ?_
        obtain ⟨pp, hm, hk⟩ := h
        refine dx_callsi [.inl a1] [] dMC_mayGuard_36 csMC_161 (Nat.le_of_ble_eq_true rfl) rfl hm (fun x2 σ1 hp => ?_)
        have h := hk x2 σ1 hp
        refine dx_if_eq 46 dMC_mayGuard_39 (by decide) (fun q => ?_) (fun q => ?_)
        · have h := h.1 q
          refine dx_iconst (v := 0) dMC_mayGuard_46 (by decide) ?_
          exact dx_ret dMC_mayGuard_47 rfl rfl h
        · have h := h.2 q
          refine dx_iconst (v := 1) dMC_mayGuard_42 (by decide) ?_
          refine dx_goto 47 dMC_mayGuard_43 (by decide) ?_
          exact dx_ret dMC_mayGuard_47 rfl rfl h
  · have h := h.2 q
    refine dx_iload_n dMC_mayGuard_5 rfl ?_
    refine dx_if_ne 24 dMC_mayGuard_6 (by decide) (fun q => ?_) (fun q => ?_)
    · have h := h.1 q
      refine dx_iconst (v := 0) dMC_mayGuard_24 (by decide) ?_
      exact dx_ret dMC_mayGuard_25 rfl rfl h
    · have h := h.2 q
      refine dx_aload_n dMC_mayGuard_9 rfl ?_
      refine dx_getr dMC_mayGuard_10 flMC_10 rfl rfl ?_
      refine dx_iload_n dMC_mayGuard_13 rfl ?_
      obtain ⟨pp, hm, hk⟩ := h
      refine dx_callvi [.inl a3] [] dMC_mayGuard_14 cvMC_55 rfl (Nat.le_of_ble_eq_true rfl) rfl hm (fun x4 σ3 hp => ?_)
      have h := hk x4 σ3 hp
      refine dx_if_eq 24 dMC_mayGuard_17 (by decide) (fun q => ?_) (fun q => ?_)
      · have h := h.1 q
        refine dx_iconst (v := 0) dMC_mayGuard_24 (by decide) ?_
        exact dx_ret dMC_mayGuard_25 rfl rfl h
      · have h := h.2 q
        refine dx_iconst (v := 1) dMC_mayGuard_20 (by decide) ?_
        refine dx_goto 25 dMC_mayGuard_21 (by decide) ?_
        exact dx_ret dMC_mayGuard_25 rfl rfl h
def g_MC_mayOwn_40 (E : dx_E) (d : Nat) (po : dx_P) (σ : dx_V) : Prop := dx_G tX E d RMC cMC_mayOwn 2 (some .boolean) po 40 [none, none] [] σ
set_option maxRecDepth 100000 in
set_option maxHeartbeats 4000000 in
theorem r_MC_mayOwn {E : dx_E} {d : Nat} {a1 : Int32} {σ : dx_V} {po : dx_P} (h : dx_ci (m_TT_has E d a1 σ) (fun x2 σ1 => (¬ x2 = 0 → g_MC_mayOwn_40 E (d + 1) po σ1) ∧ (x2 = 0 → dx_ci (m_ST_isMadeState E d (a1 - 100) σ1) (fun x4 σ3 => (¬ x4 = 0 → g_MC_mayOwn_40 E (d + 1) po σ3) ∧ (x4 = 0 → dx_ci (m_ST_isMadeState E d (a1 - 200) σ3) (fun x6 σ5 => (x6 = 0 → po (some 0) σ5) ∧ (¬ x6 = 0 → g_MC_mayOwn_40 E (d + 1) po σ5))))))) : m_MC_mayOwn E (d + 1) a1 σ po := by
  refine dx_entry (by decide) (Nat.le_of_ble_eq_true rfl) ?_
  show dx_G tX E (d + 1) RMC cMC_mayOwn 2 (some .boolean) po 0 [some (.inr 0), some (.inl a1)] [] σ
  refine dx_aload_n dMC_mayOwn_0 rfl ?_
  refine dx_getr dMC_mayOwn_1 flMC_19 rfl rfl ?_
  refine dx_iload_n dMC_mayOwn_4 rfl ?_
  obtain ⟨pp, hm, hk⟩ := h
  refine dx_callvi [.inl a1] [] dMC_mayOwn_5 cvMC_85 rfl (Nat.le_of_ble_eq_true rfl) rfl hm (fun x2 σ1 hp => ?_)
  have h := hk x2 σ1 hp
  refine dx_if_ne 40 dMC_mayOwn_8 (by decide) (fun q => ?_) (fun q => ?_)
  · have h := h.1 q
    exact dx_less (L' := [none, none]) trivial h
  · have h := h.2 q
    refine dx_aload_n dMC_mayOwn_11 rfl ?_
    refine dx_getr dMC_mayOwn_12 flMC_10 rfl rfl ?_
    refine dx_iload_n dMC_mayOwn_15 rfl ?_
    refine dx_bipush (v := 100) dMC_mayOwn_16 (by decide) ?_
    refine dx_isub dMC_mayOwn_18 ?_
    obtain ⟨pp, hm, hk⟩ := h
    refine dx_callvi [.inl (a1 - 100)] [] dMC_mayOwn_19 cvMC_55 rfl (Nat.le_of_ble_eq_true rfl) rfl hm (fun x4 σ3 hp => ?_)
    have h := hk x4 σ3 hp
    refine dx_if_ne 40 dMC_mayOwn_22 (by decide) (fun q => ?_) (fun q => ?_)
    · have h := h.1 q
      exact dx_less (L' := [none, none]) trivial h
    · have h := h.2 q
      refine dx_aload_n dMC_mayOwn_25 rfl ?_
      refine dx_getr dMC_mayOwn_26 flMC_10 rfl rfl ?_
      refine dx_iload_n dMC_mayOwn_29 rfl ?_
      refine dx_sipush (v := 200) dMC_mayOwn_30 (by decide) ?_
      refine dx_isub dMC_mayOwn_33 ?_
      obtain ⟨pp, hm, hk⟩ := h
      refine dx_callvi [.inl (a1 - 200)] [] dMC_mayOwn_34 cvMC_55 rfl (Nat.le_of_ble_eq_true rfl) rfl hm (fun x6 σ5 hp => ?_)
      have h := hk x6 σ5 hp
      refine dx_if_eq 44 dMC_mayOwn_37 (by decide) (fun q => ?_) (fun q => ?_)
      · have h := h.1 q
        refine dx_iconst (v := 0) dMC_mayOwn_44 (by decide) ?_
        exact dx_ret dMC_mayOwn_45 rfl rfl h
      · have h := h.2 q
        exact dx_less (L' := [none, none]) trivial h
set_option maxRecDepth 100000 in
set_option maxHeartbeats 4000000 in
theorem r_MC_mayOwn_40 {E : dx_E} {d : Nat} {po : dx_P} {σ : dx_V} (h : po (some 1) σ) : g_MC_mayOwn_40 E (d + 1) po σ := by
  show dx_G tX E (d + 1) RMC cMC_mayOwn 2 (some .boolean) po 40 [none, none] [] σ
  refine dx_iconst (v := 1) dMC_mayOwn_40 (by decide) ?_
  refine dx_goto 45 dMC_mayOwn_41 (by decide) ?_
  exact dx_ret dMC_mayOwn_45 rfl rfl h
set_option maxRecDepth 100000 in
set_option maxHeartbeats 4000000 in
theorem r_MC_mayDo {E : dx_E} {d : Nat} {a1 a2 a3 : Int32} {σ : dx_V} {po : dx_P} (h : (a1 = 0 → dx_ci (m_MC_isVariable E d a2 σ) (fun x2 σ1 => (x2 = 0 ∨ x2 = 1) ∧ po (some x2) σ1)) ∧ (a1 = 1 → dx_ci (m_MC_isVariable E d a2 σ) (fun x4 σ3 => (x4 = 0 ∨ x4 = 1) ∧ po (some x4) σ3)) ∧ (a1 = 2 → dx_ci (m_MC_isEvent E d a2 σ) (fun x6 σ5 => (x6 = 0 → po (some 0) σ5) ∧ (¬ x6 = 0 → (¬ a3 = 0 → po (some 0) σ5) ∧ (a3 = 0 → po (some 1) σ5)))) ∧ (a1 = 3 → dx_ci (m_MC_isEvent E d a2 σ) (fun x8 σ7 => (x8 = 0 → po (some 0) σ7) ∧ (¬ x8 = 0 → (a3 < 0 → po (some 0) σ7) ∧ (¬ a3 < 0 → (50 < a3 → po (some 0) σ7) ∧ (¬ 50 < a3 → po (some 1) σ7))))) ∧ (¬ a1 = 0 ∧ ¬ a1 = 1 ∧ ¬ a1 = 2 ∧ ¬ a1 = 3 → po (some 0) σ)) : m_MC_mayDo E (d + 1) a1 a2 a3 σ po := by
  refine dx_entry (by decide) (Nat.le_of_ble_eq_true rfl) ?_
  show dx_G tX E (d + 1) RMC cMC_mayDo 3 (some .boolean) po 0 [some (.inl a1), some (.inl a2), some (.inl a3)] [] σ
  refine dx_iload_n dMC_mayDo_0 rfl ?_
  by_cases q0 : a1 = 0
  · have h := h.1 q0
    refine dx_tableIn 32 dMC_mayDo_1 (by rw [q0]; decide) (by rw [q0]; decide) (by rw [q0]; rfl) (by decide) ?_
    refine dx_iload_n dMC_mayDo_32 rfl ?_
    obtain ⟨pp, hm, hk⟩ := h
    refine dx_callsi [.inl a2] [] dMC_mayDo_33 csMC_161 (Nat.le_of_ble_eq_true rfl) rfl hm (fun x2 σ1 hp => ?_)
    have h := hk x2 σ1 hp
    exact dx_ret dMC_mayDo_36 rfl (dx_nz h.1) h.2
  by_cases q1 : a1 = 1
  · have h := h.2.1 q1
    refine dx_tableIn 32 dMC_mayDo_1 (by rw [q1]; decide) (by rw [q1]; decide) (by rw [q1]; rfl) (by decide) ?_
    refine dx_iload_n dMC_mayDo_32 rfl ?_
    obtain ⟨pp, hm, hk⟩ := h
    refine dx_callsi [.inl a2] [] dMC_mayDo_33 csMC_161 (Nat.le_of_ble_eq_true rfl) rfl hm (fun x4 σ3 hp => ?_)
    have h := hk x4 σ3 hp
    exact dx_ret dMC_mayDo_36 rfl (dx_nz h.1) h.2
  by_cases q2 : a1 = 2
  · have h := h.2.2.1 q2
    refine dx_tableIn 37 dMC_mayDo_1 (by rw [q2]; decide) (by rw [q2]; decide) (by rw [q2]; rfl) (by decide) ?_
    refine dx_iload_n dMC_mayDo_37 rfl ?_
    obtain ⟨pp, hm, hk⟩ := h
    refine dx_callsi [.inl a2] [] dMC_mayDo_38 csMC_120 (Nat.le_of_ble_eq_true rfl) rfl hm (fun x6 σ5 hp => ?_)
    have h := hk x6 σ5 hp
    refine dx_if_eq 52 dMC_mayDo_41 (by decide) (fun q => ?_) (fun q => ?_)
    · have h := h.1 q
      refine dx_iconst (v := 0) dMC_mayDo_52 (by decide) ?_
      exact dx_ret dMC_mayDo_53 rfl rfl h
    · have h := h.2 q
      refine dx_iload_n dMC_mayDo_44 rfl ?_
      refine dx_if_ne 52 dMC_mayDo_45 (by decide) (fun q => ?_) (fun q => ?_)
      · have h := h.1 q
        refine dx_iconst (v := 0) dMC_mayDo_52 (by decide) ?_
        exact dx_ret dMC_mayDo_53 rfl rfl h
      · have h := h.2 q
        refine dx_iconst (v := 1) dMC_mayDo_48 (by decide) ?_
        refine dx_goto 53 dMC_mayDo_49 (by decide) ?_
        exact dx_ret dMC_mayDo_53 rfl rfl h
  by_cases q3 : a1 = 3
  · have h := h.2.2.2.1 q3
    refine dx_tableIn 54 dMC_mayDo_1 (by rw [q3]; decide) (by rw [q3]; decide) (by rw [q3]; rfl) (by decide) ?_
    refine dx_iload_n dMC_mayDo_54 rfl ?_
    obtain ⟨pp, hm, hk⟩ := h
    refine dx_callsi [.inl a2] [] dMC_mayDo_55 csMC_120 (Nat.le_of_ble_eq_true rfl) rfl hm (fun x8 σ7 hp => ?_)
    have h := hk x8 σ7 hp
    refine dx_if_eq 75 dMC_mayDo_58 (by decide) (fun q => ?_) (fun q => ?_)
    · have h := h.1 q
      refine dx_iconst (v := 0) dMC_mayDo_75 (by decide) ?_
      exact dx_ret dMC_mayDo_76 rfl rfl h
    · have h := h.2 q
      refine dx_iload_n dMC_mayDo_61 rfl ?_
      refine dx_if_lt 75 dMC_mayDo_62 (by decide) (fun q => ?_) (fun q => ?_)
      · have h := h.1 q
        refine dx_iconst (v := 0) dMC_mayDo_75 (by decide) ?_
        exact dx_ret dMC_mayDo_76 rfl rfl h
      · have h := h.2 q
        refine dx_iload_n dMC_mayDo_65 rfl ?_
        refine dx_bipush (v := 50) dMC_mayDo_66 (by decide) ?_
        refine dx_icmp_gt 75 dMC_mayDo_68 (by decide) (fun q => ?_) (fun q => ?_)
        · have h := h.1 q
          refine dx_iconst (v := 0) dMC_mayDo_75 (by decide) ?_
          exact dx_ret dMC_mayDo_76 rfl rfl h
        · have h := h.2 q
          refine dx_iconst (v := 1) dMC_mayDo_71 (by decide) ?_
          refine dx_goto 76 dMC_mayDo_72 (by decide) ?_
          exact dx_ret dMC_mayDo_76 rfl rfl h
  have h := h.2.2.2.2 ⟨q0, q1, q2, q3⟩
  have z0 := dx_ne (k := 0) (n := 0) (by decide) q0
  have z1 := dx_ne (k := 1) (n := 1) (by decide) q1
  have z2 := dx_ne (k := 2) (n := 2) (by decide) q2
  have z3 := dx_ne (k := 3) (n := 3) (by decide) q3
  refine dx_tableOut 77 dMC_mayDo_1 (by omega) (by decide) ?_
  refine dx_iconst (v := 0) dMC_mayDo_77 (by decide) ?_
  exact dx_ret dMC_mayDo_78 rfl rfl h
set_option maxRecDepth 100000 in
set_option maxHeartbeats 4000000 in
theorem r_MC_isEvent {E : dx_E} {d : Nat} {a1 : Int32} {σ : dx_V} {po : dx_P} (h : (a1 < 1 → po (some 0) σ) ∧ (¬ a1 < 1 → (20 < a1 → po (some 0) σ) ∧ (¬ 20 < a1 → po (some 1) σ))) : m_MC_isEvent E d a1 σ po := by
  refine dx_entry (by decide) (Nat.le_of_ble_eq_true rfl) ?_
  show dx_G tX E d RMC cMC_isEvent 1 (some .boolean) po 0 [some (.inl a1)] [] σ
  refine dx_iload_n dMC_isEvent_0 rfl ?_
  refine dx_iconst (v := 1) dMC_isEvent_1 (by decide) ?_
  refine dx_icmp_lt 15 dMC_isEvent_2 (by decide) (fun q => ?_) (fun q => ?_)
  · have h := h.1 q
    refine dx_iconst (v := 0) dMC_isEvent_15 (by decide) ?_
    exact dx_ret dMC_isEvent_16 rfl rfl h
  · have h := h.2 q
    refine dx_iload_n dMC_isEvent_5 rfl ?_
    refine dx_bipush (v := 20) dMC_isEvent_6 (by decide) ?_
    refine dx_icmp_gt 15 dMC_isEvent_8 (by decide) (fun q => ?_) (fun q => ?_)
    · have h := h.1 q
      refine dx_iconst (v := 0) dMC_isEvent_15 (by decide) ?_
      exact dx_ret dMC_isEvent_16 rfl rfl h
    · have h := h.2 q
      refine dx_iconst (v := 1) dMC_isEvent_11 (by decide) ?_
      refine dx_goto 16 dMC_isEvent_12 (by decide) ?_
      exact dx_ret dMC_isEvent_16 rfl rfl h
set_option maxRecDepth 100000 in
set_option maxHeartbeats 4000000 in
theorem r_MC_isVariable {E : dx_E} {d : Nat} {a1 : Int32} {σ : dx_V} {po : dx_P} (h : (a1 < 0 → po (some 0) σ) ∧ (¬ a1 < 0 → (4 ≤ a1 → po (some 0) σ) ∧ (¬ 4 ≤ a1 → po (some 1) σ))) : m_MC_isVariable E d a1 σ po := by
  refine dx_entry (by decide) (Nat.le_of_ble_eq_true rfl) ?_
  show dx_G tX E d RMC cMC_isVariable 1 (some .boolean) po 0 [some (.inl a1)] [] σ
  refine dx_iload_n dMC_isVariable_0 rfl ?_
  refine dx_if_lt 13 dMC_isVariable_1 (by decide) (fun q => ?_) (fun q => ?_)
  · have h := h.1 q
    refine dx_iconst (v := 0) dMC_isVariable_13 (by decide) ?_
    exact dx_ret dMC_isVariable_14 rfl rfl h
  · have h := h.2 q
    refine dx_iload_n dMC_isVariable_4 rfl ?_
    refine dx_iconst (v := 4) dMC_isVariable_5 (by decide) ?_
    refine dx_icmp_ge 13 dMC_isVariable_6 (by decide) (fun q => ?_) (fun q => ?_)
    · have h := h.1 q
      refine dx_iconst (v := 0) dMC_isVariable_13 (by decide) ?_
      exact dx_ret dMC_isVariable_14 rfl rfl h
    · have h := h.2 q
      refine dx_iconst (v := 1) dMC_isVariable_9 (by decide) ?_
      refine dx_goto 14 dMC_isVariable_10 (by decide) ?_
      exact dx_ret dMC_isVariable_14 rfl rfl h
set_option maxRecDepth 100000 in
set_option maxHeartbeats 4000000 in
theorem r_MC_isIn {E : dx_E} {d : Nat} {a1 a2 : Int32} {σ : dx_V} {po : dx_P} (h : (((a2 >>> (a1 &&& 31)) &&& 1) = 0 → po (some 0) σ) ∧ (¬ ((a2 >>> (a1 &&& 31)) &&& 1) = 0 → po (some 1) σ)) : m_MC_isIn E d a1 a2 σ po := by
  refine dx_entry (by decide) (Nat.le_of_ble_eq_true rfl) ?_
  show dx_G tX E d RMC cMC_isIn 2 (some .boolean) po 0 [some (.inl a1), some (.inl a2)] [] σ
  refine dx_iload_n dMC_isIn_0 rfl ?_
  refine dx_iload_n dMC_isIn_1 rfl ?_
  refine dx_ishr dMC_isIn_2 ?_
  refine dx_iconst (v := 1) dMC_isIn_3 (by decide) ?_
  refine dx_iand dMC_isIn_4 ?_
  refine dx_if_eq 12 dMC_isIn_5 (by decide) (fun q => ?_) (fun q => ?_)
  · have h := h.1 q
    refine dx_iconst (v := 0) dMC_isIn_12 (by decide) ?_
    exact dx_ret dMC_isIn_13 rfl rfl h
  · have h := h.2 q
    refine dx_iconst (v := 1) dMC_isIn_8 (by decide) ?_
    refine dx_goto 13 dMC_isIn_9 (by decide) ?_
    exact dx_ret dMC_isIn_13 rfl rfl h
set_option maxRecDepth 100000 in
set_option maxHeartbeats 4000000 in
theorem r_AT_add {E : dx_E} {d : Nat} {a1 a2 a3 a4 : Int32} {σ : dx_V} {po : dx_P} (h : vp_in (σ 3 4) 32 ∧ (vp_in (σ 3 4) 32 ∧ (vp_in (σ 3 4) 32 ∧ (vp_in (σ 3 4) 32 ∧ (po none (dx_u (dx_u (dx_u (dx_u (dx_u σ 24 (σ 3 4).toNatClampNeg a1) 25 (σ 3 4).toNatClampNeg a2) 26 (σ 3 4).toNatClampNeg a3) 27 (σ 3 4).toNatClampNeg a4) 3 4 ((σ 3 4) + 1))))))) : m_AT_add E d a1 a2 a3 a4 σ po := by
  refine dx_entry (by decide) (Nat.le_of_ble_eq_true rfl) ?_
  show dx_G tX E d RAT cAT_add 5 none po 0 [some (.inr 3), some (.inl a1), some (.inl a2), some (.inl a3), some (.inl a4)] [] σ
  refine dx_aload_n dAT_add_0 rfl ?_
  refine dx_getr dAT_add_1 flAT_9 rfl rfl ?_
  refine dx_aload_n dAT_add_4 rfl ?_
  refine dx_geti dAT_add_5 flAT_24 rfl rfl ?_
  refine dx_iload_n dAT_add_8 rfl ?_
  obtain ⟨hi, h⟩ := h
  refine dx_iastore dAT_add_9 rfl hi ?_
  refine dx_aload_n dAT_add_10 rfl ?_
  refine dx_getr dAT_add_11 flAT_15 rfl rfl ?_
  refine dx_aload_n dAT_add_14 rfl ?_
  refine dx_geti dAT_add_15 flAT_24 rfl rfl ?_
  refine dx_iload_n dAT_add_18 rfl ?_
  obtain ⟨hi, h⟩ := h
  refine dx_iastore dAT_add_19 rfl hi ?_
  refine dx_aload_n dAT_add_20 rfl ?_
  refine dx_getr dAT_add_21 flAT_18 rfl rfl ?_
  refine dx_aload_n dAT_add_24 rfl ?_
  refine dx_geti dAT_add_25 flAT_24 rfl rfl ?_
  refine dx_iload_n dAT_add_28 rfl ?_
  obtain ⟨hi, h⟩ := h
  refine dx_iastore dAT_add_29 rfl hi ?_
  refine dx_aload_n dAT_add_30 rfl ?_
  refine dx_getr dAT_add_31 flAT_21 rfl rfl ?_
  refine dx_aload_n dAT_add_34 rfl ?_
  refine dx_geti dAT_add_35 flAT_24 rfl rfl ?_
  refine dx_iload dAT_add_38 rfl ?_
  obtain ⟨hi, h⟩ := h
  refine dx_iastore dAT_add_40 rfl hi ?_
  refine dx_aload_n dAT_add_41 rfl ?_
  refine dx_dup dAT_add_42 ?_
  refine dx_geti dAT_add_43 flAT_24 rfl rfl ?_
  refine dx_iconst (v := 1) dAT_add_46 (by decide) ?_
  refine dx_iadd dAT_add_47 ?_
  refine dx_put dAT_add_48 fpAT_24 rfl rfl (Or.inl rfl) ?_
  exact dx_vret dAT_add_51 rfl h
set_option maxRecDepth 100000 in
set_option maxHeartbeats 4000000 in
theorem r_LN_put_7 {E : dx_E} {d : Nat} {a1 : Int32} {σ : dx_V} {po : dx_P} (h : (¬ (σ 7 1) = 16 → vp_in (σ 7 1) 16 ∧ (po (some 1) (dx_u (dx_u σ 32 (σ 7 1).toNatClampNeg a1) 7 1 ((σ 7 1) + 1)))) ∧ ((σ 7 1) = 16 → po (some 0) σ)) : m_LN_put_7 E d a1 σ po := by
  refine dx_entry (by decide) (Nat.le_of_ble_eq_true rfl) ?_
  show dx_G tX E d RLN cLN_put 2 (some .boolean) po 0 [some (.inr 7), some (.inl a1)] [] σ
  refine dx_aload_n dLN_put_0 rfl ?_
  refine dx_geti dLN_put_1 flLN_15 rfl rfl ?_
  refine dx_aload_n dLN_put_4 rfl ?_
  refine dx_getr dLN_put_5 flLN_9 rfl rfl ?_
  refine dx_alen (v := 16) dLN_put_8 rfl (by decide) ?_
  refine dx_icmp_ne 14 dLN_put_9 (by decide) (fun q => ?_) (fun q => ?_)
  · have h := h.1 q
    refine dx_aload_n dLN_put_14 rfl ?_
    refine dx_getr dLN_put_15 flLN_9 rfl rfl ?_
    refine dx_aload_n dLN_put_18 rfl ?_
    refine dx_geti dLN_put_19 flLN_15 rfl rfl ?_
    refine dx_iload_n dLN_put_22 rfl ?_
    obtain ⟨hi, h⟩ := h
    refine dx_iastore dLN_put_23 rfl hi ?_
    refine dx_aload_n dLN_put_24 rfl ?_
    refine dx_dup dLN_put_25 ?_
    refine dx_geti dLN_put_26 flLN_15 rfl rfl ?_
    refine dx_iconst (v := 1) dLN_put_29 (by decide) ?_
    refine dx_iadd dLN_put_30 ?_
    refine dx_put dLN_put_31 fpLN_15 rfl rfl (Or.inl rfl) ?_
    refine dx_iconst (v := 1) dLN_put_34 (by decide) ?_
    exact dx_ret dLN_put_35 rfl rfl h
  · have h := h.2 q
    refine dx_iconst (v := 0) dLN_put_12 (by decide) ?_
    exact dx_ret dLN_put_13 rfl rfl h
set_option maxRecDepth 100000 in
set_option maxHeartbeats 4000000 in
theorem r_LN_put_8 {E : dx_E} {d : Nat} {a1 : Int32} {σ : dx_V} {po : dx_P} (h : (¬ (σ 8 1) = 16 → vp_in (σ 8 1) 16 ∧ (po (some 1) (dx_u (dx_u σ 33 (σ 8 1).toNatClampNeg a1) 8 1 ((σ 8 1) + 1)))) ∧ ((σ 8 1) = 16 → po (some 0) σ)) : m_LN_put_8 E d a1 σ po := by
  refine dx_entry (by decide) (Nat.le_of_ble_eq_true rfl) ?_
  show dx_G tX E d RLN cLN_put 2 (some .boolean) po 0 [some (.inr 8), some (.inl a1)] [] σ
  refine dx_aload_n dLN_put_0 rfl ?_
  refine dx_geti dLN_put_1 flLN_15 rfl rfl ?_
  refine dx_aload_n dLN_put_4 rfl ?_
  refine dx_getr dLN_put_5 flLN_9 rfl rfl ?_
  refine dx_alen (v := 16) dLN_put_8 rfl (by decide) ?_
  refine dx_icmp_ne 14 dLN_put_9 (by decide) (fun q => ?_) (fun q => ?_)
  · have h := h.1 q
    refine dx_aload_n dLN_put_14 rfl ?_
    refine dx_getr dLN_put_15 flLN_9 rfl rfl ?_
    refine dx_aload_n dLN_put_18 rfl ?_
    refine dx_geti dLN_put_19 flLN_15 rfl rfl ?_
    refine dx_iload_n dLN_put_22 rfl ?_
    obtain ⟨hi, h⟩ := h
    refine dx_iastore dLN_put_23 rfl hi ?_
    refine dx_aload_n dLN_put_24 rfl ?_
    refine dx_dup dLN_put_25 ?_
    refine dx_geti dLN_put_26 flLN_15 rfl rfl ?_
    refine dx_iconst (v := 1) dLN_put_29 (by decide) ?_
    refine dx_iadd dLN_put_30 ?_
    refine dx_put dLN_put_31 fpLN_15 rfl rfl (Or.inl rfl) ?_
    refine dx_iconst (v := 1) dLN_put_34 (by decide) ?_
    exact dx_ret dLN_put_35 rfl rfl h
  · have h := h.2 q
    refine dx_iconst (v := 0) dLN_put_12 (by decide) ?_
    exact dx_ret dLN_put_13 rfl rfl h
set_option maxRecDepth 100000 in
set_option maxHeartbeats 4000000 in
theorem r_LN_put_9 {E : dx_E} {d : Nat} {a1 : Int32} {σ : dx_V} {po : dx_P} (h : (¬ (σ 9 1) = 200 → vp_in (σ 9 1) 200 ∧ (po (some 1) (dx_u (dx_u σ 34 (σ 9 1).toNatClampNeg a1) 9 1 ((σ 9 1) + 1)))) ∧ ((σ 9 1) = 200 → po (some 0) σ)) : m_LN_put_9 E d a1 σ po := by
  refine dx_entry (by decide) (Nat.le_of_ble_eq_true rfl) ?_
  show dx_G tX E d RLN cLN_put 2 (some .boolean) po 0 [some (.inr 9), some (.inl a1)] [] σ
  refine dx_aload_n dLN_put_0 rfl ?_
  refine dx_geti dLN_put_1 flLN_15 rfl rfl ?_
  refine dx_aload_n dLN_put_4 rfl ?_
  refine dx_getr dLN_put_5 flLN_9 rfl rfl ?_
  refine dx_alen (v := 200) dLN_put_8 rfl (by decide) ?_
  refine dx_icmp_ne 14 dLN_put_9 (by decide) (fun q => ?_) (fun q => ?_)
  · have h := h.1 q
    refine dx_aload_n dLN_put_14 rfl ?_
    refine dx_getr dLN_put_15 flLN_9 rfl rfl ?_
    refine dx_aload_n dLN_put_18 rfl ?_
    refine dx_geti dLN_put_19 flLN_15 rfl rfl ?_
    refine dx_iload_n dLN_put_22 rfl ?_
    obtain ⟨hi, h⟩ := h
    refine dx_iastore dLN_put_23 rfl hi ?_
    refine dx_aload_n dLN_put_24 rfl ?_
    refine dx_dup dLN_put_25 ?_
    refine dx_geti dLN_put_26 flLN_15 rfl rfl ?_
    refine dx_iconst (v := 1) dLN_put_29 (by decide) ?_
    refine dx_iadd dLN_put_30 ?_
    refine dx_put dLN_put_31 fpLN_15 rfl rfl (Or.inl rfl) ?_
    refine dx_iconst (v := 1) dLN_put_34 (by decide) ?_
    exact dx_ret dLN_put_35 rfl rfl h
  · have h := h.2 q
    refine dx_iconst (v := 0) dLN_put_12 (by decide) ?_
    exact dx_ret dLN_put_13 rfl rfl h
set_option maxRecDepth 100000 in
set_option maxHeartbeats 4000000 in
theorem r_LN_at_7 {E : dx_E} {d : Nat} {a1 : Int32} {σ : dx_V} {po : dx_P} (h : (a1 < 0 → po (some (-1)) σ) ∧ (¬ a1 < 0 → ((σ 7 1) ≤ a1 → po (some (-1)) σ) ∧ (¬ (σ 7 1) ≤ a1 → vp_in a1 16 ∧ (po (some (σ 32 a1.toNatClampNeg)) σ)))) : m_LN_at_7 E d a1 σ po := by
  refine dx_entry (by decide) (Nat.le_of_ble_eq_true rfl) ?_
  show dx_G tX E d RLN cLN_at 2 (some .int) po 0 [some (.inr 7), some (.inl a1)] [] σ
  refine dx_iload_n dLN_at_0 rfl ?_
  refine dx_if_lt 21 dLN_at_1 (by decide) (fun q => ?_) (fun q => ?_)
  · have h := h.1 q
    refine dx_iconst (v := (-1)) dLN_at_21 (by decide) ?_
    exact dx_ret dLN_at_22 rfl rfl h
  · have h := h.2 q
    refine dx_iload_n dLN_at_4 rfl ?_
    refine dx_aload_n dLN_at_5 rfl ?_
    refine dx_geti dLN_at_6 flLN_15 rfl rfl ?_
    refine dx_icmp_ge 21 dLN_at_9 (by decide) (fun q => ?_) (fun q => ?_)
    · have h := h.1 q
      refine dx_iconst (v := (-1)) dLN_at_21 (by decide) ?_
      exact dx_ret dLN_at_22 rfl rfl h
    · have h := h.2 q
      refine dx_aload_n dLN_at_12 rfl ?_
      refine dx_getr dLN_at_13 flLN_9 rfl rfl ?_
      refine dx_iload_n dLN_at_16 rfl ?_
      obtain ⟨hi, h⟩ := h
      refine dx_iaload dLN_at_17 rfl hi ?_
      refine dx_goto 22 dLN_at_18 (by decide) ?_
      exact dx_ret dLN_at_22 rfl rfl h
set_option maxRecDepth 100000 in
set_option maxHeartbeats 4000000 in
theorem r_LN_at_8 {E : dx_E} {d : Nat} {a1 : Int32} {σ : dx_V} {po : dx_P} (h : (a1 < 0 → po (some (-1)) σ) ∧ (¬ a1 < 0 → ((σ 8 1) ≤ a1 → po (some (-1)) σ) ∧ (¬ (σ 8 1) ≤ a1 → vp_in a1 16 ∧ (po (some (σ 33 a1.toNatClampNeg)) σ)))) : m_LN_at_8 E d a1 σ po := by
  refine dx_entry (by decide) (Nat.le_of_ble_eq_true rfl) ?_
  show dx_G tX E d RLN cLN_at 2 (some .int) po 0 [some (.inr 8), some (.inl a1)] [] σ
  refine dx_iload_n dLN_at_0 rfl ?_
  refine dx_if_lt 21 dLN_at_1 (by decide) (fun q => ?_) (fun q => ?_)
  · have h := h.1 q
    refine dx_iconst (v := (-1)) dLN_at_21 (by decide) ?_
    exact dx_ret dLN_at_22 rfl rfl h
  · have h := h.2 q
    refine dx_iload_n dLN_at_4 rfl ?_
    refine dx_aload_n dLN_at_5 rfl ?_
    refine dx_geti dLN_at_6 flLN_15 rfl rfl ?_
    refine dx_icmp_ge 21 dLN_at_9 (by decide) (fun q => ?_) (fun q => ?_)
    · have h := h.1 q
      refine dx_iconst (v := (-1)) dLN_at_21 (by decide) ?_
      exact dx_ret dLN_at_22 rfl rfl h
    · have h := h.2 q
      refine dx_aload_n dLN_at_12 rfl ?_
      refine dx_getr dLN_at_13 flLN_9 rfl rfl ?_
      refine dx_iload_n dLN_at_16 rfl ?_
      obtain ⟨hi, h⟩ := h
      refine dx_iaload dLN_at_17 rfl hi ?_
      refine dx_goto 22 dLN_at_18 (by decide) ?_
      exact dx_ret dLN_at_22 rfl rfl h
set_option maxRecDepth 100000 in
set_option maxHeartbeats 4000000 in
theorem r_LN_at_9 {E : dx_E} {d : Nat} {a1 : Int32} {σ : dx_V} {po : dx_P} (h : (a1 < 0 → po (some (-1)) σ) ∧ (¬ a1 < 0 → ((σ 9 1) ≤ a1 → po (some (-1)) σ) ∧ (¬ (σ 9 1) ≤ a1 → vp_in a1 200 ∧ (po (some (σ 34 a1.toNatClampNeg)) σ)))) : m_LN_at_9 E d a1 σ po := by
  refine dx_entry (by decide) (Nat.le_of_ble_eq_true rfl) ?_
  show dx_G tX E d RLN cLN_at 2 (some .int) po 0 [some (.inr 9), some (.inl a1)] [] σ
  refine dx_iload_n dLN_at_0 rfl ?_
  refine dx_if_lt 21 dLN_at_1 (by decide) (fun q => ?_) (fun q => ?_)
  · have h := h.1 q
    refine dx_iconst (v := (-1)) dLN_at_21 (by decide) ?_
    exact dx_ret dLN_at_22 rfl rfl h
  · have h := h.2 q
    refine dx_iload_n dLN_at_4 rfl ?_
    refine dx_aload_n dLN_at_5 rfl ?_
    refine dx_geti dLN_at_6 flLN_15 rfl rfl ?_
    refine dx_icmp_ge 21 dLN_at_9 (by decide) (fun q => ?_) (fun q => ?_)
    · have h := h.1 q
      refine dx_iconst (v := (-1)) dLN_at_21 (by decide) ?_
      exact dx_ret dLN_at_22 rfl rfl h
    · have h := h.2 q
      refine dx_aload_n dLN_at_12 rfl ?_
      refine dx_getr dLN_at_13 flLN_9 rfl rfl ?_
      refine dx_iload_n dLN_at_16 rfl ?_
      obtain ⟨hi, h⟩ := h
      refine dx_iaload dLN_at_17 rfl hi ?_
      refine dx_goto 22 dLN_at_18 (by decide) ?_
      exact dx_ret dLN_at_22 rfl rfl h
def g_LN_takeFirst_7_28 (E : dx_E) (d : Nat) (po : dx_P) (v1 v2 : Int32) (σ : dx_V) : Prop := dx_G tX E d RLN cLN_takeFirst 3 (some .int) po 28 [some (.inr 7), some (.inl v1), some (.inl v2)] [] σ
set_option maxRecDepth 100000 in
set_option maxHeartbeats 4000000 in
theorem r_LN_takeFirst_7 {E : dx_E} {d : Nat} {σ : dx_V} {po : dx_P} (h : (¬ (σ 7 1) = 0 → vp_in 0 16 ∧ (g_LN_takeFirst_7_28 E d po (σ 32 (0 : Int32).toNatClampNeg) 0 (dx_u σ 7 1 ((σ 7 1) - 1)))) ∧ ((σ 7 1) = 0 → po (some (-1)) σ)) : m_LN_takeFirst_7 E d σ po := by
  refine dx_entry (by decide) (Nat.le_of_ble_eq_true rfl) ?_
  show dx_G tX E d RLN cLN_takeFirst 3 (some .int) po 0 [some (.inr 7), none, none] [] σ
  refine dx_aload_n dLN_takeFirst_0 rfl ?_
  refine dx_geti dLN_takeFirst_1 flLN_15 rfl rfl ?_
  refine dx_if_ne 9 dLN_takeFirst_4 (by decide) (fun q => ?_) (fun q => ?_)
  · have h := h.1 q
    refine dx_aload_n dLN_takeFirst_9 rfl ?_
    refine dx_getr dLN_takeFirst_10 flLN_9 rfl rfl ?_
    refine dx_iconst (v := 0) dLN_takeFirst_13 (by decide) ?_
    obtain ⟨hi, h⟩ := h
    refine dx_iaload dLN_takeFirst_14 rfl hi ?_
    refine dx_istore_n (L' := [some (.inr 7), some (.inl (σ 32 (0 : Int32).toNatClampNeg)), none]) dLN_takeFirst_15 (Nat.le_of_ble_eq_true rfl) rfl ?_
    refine dx_aload_n dLN_takeFirst_16 rfl ?_
    refine dx_dup dLN_takeFirst_17 ?_
    refine dx_geti dLN_takeFirst_18 flLN_15 rfl rfl ?_
    refine dx_iconst (v := 1) dLN_takeFirst_21 (by decide) ?_
    refine dx_isub dLN_takeFirst_22 ?_
    refine dx_put dLN_takeFirst_23 fpLN_15 rfl rfl (Or.inl rfl) ?_
    refine dx_iconst (v := 0) dLN_takeFirst_26 (by decide) ?_
    refine dx_istore_n (L' := [some (.inr 7), some (.inl (σ 32 (0 : Int32).toNatClampNeg)), some (.inl 0)]) dLN_takeFirst_27 (Nat.le_of_ble_eq_true rfl) rfl ?_
    exact dx_less (L' := [some (.inr 7), some (.inl (σ 32 (0 : Int32).toNatClampNeg)), some (.inl 0)]) ⟨rfl, rfl, rfl, trivial⟩ h
  · have h := h.2 q
    refine dx_iconst (v := (-1)) dLN_takeFirst_7 (by decide) ?_
    exact dx_ret dLN_takeFirst_8 rfl rfl h
set_option maxRecDepth 100000 in
set_option maxHeartbeats 4000000 in
theorem r_LN_takeFirst_7_28 {E : dx_E} {d : Nat} {po : dx_P} {v1 v2 : Int32} {σ : dx_V} (h : ((σ 7 1) ≤ v2 → po (some v1) σ) ∧ (¬ (σ 7 1) ≤ v2 → vp_in (v2 + 1) 16 ∧ (vp_in v2 16 ∧ (g_LN_takeFirst_7_28 E d po v1 (v2 + 1) (dx_u σ 32 v2.toNatClampNeg (σ 32 (v2 + 1).toNatClampNeg)))))) : g_LN_takeFirst_7_28 E d po v1 v2 σ := by
  show dx_G tX E d RLN cLN_takeFirst 3 (some .int) po 28 [some (.inr 7), some (.inl v1), some (.inl v2)] [] σ
  refine dx_iload_n dLN_takeFirst_28 rfl ?_
  refine dx_aload_n dLN_takeFirst_29 rfl ?_
  refine dx_geti dLN_takeFirst_30 flLN_15 rfl rfl ?_
  refine dx_icmp_ge 56 dLN_takeFirst_33 (by decide) (fun q => ?_) (fun q => ?_)
  · have h := h.1 q
    refine dx_iload_n dLN_takeFirst_56 rfl ?_
    exact dx_ret dLN_takeFirst_57 rfl rfl h
  · have h := h.2 q
    refine dx_aload_n dLN_takeFirst_36 rfl ?_
    refine dx_getr dLN_takeFirst_37 flLN_9 rfl rfl ?_
    refine dx_iload_n dLN_takeFirst_40 rfl ?_
    refine dx_aload_n dLN_takeFirst_41 rfl ?_
    refine dx_getr dLN_takeFirst_42 flLN_9 rfl rfl ?_
    refine dx_iload_n dLN_takeFirst_45 rfl ?_
    refine dx_iconst (v := 1) dLN_takeFirst_46 (by decide) ?_
    refine dx_iadd dLN_takeFirst_47 ?_
    obtain ⟨hi, h⟩ := h
    refine dx_iaload dLN_takeFirst_48 rfl hi ?_
    obtain ⟨hi, h⟩ := h
    refine dx_iastore dLN_takeFirst_49 rfl hi ?_
    refine dx_iinc (v := v2 + 1) (L' := [some (.inr 7), some (.inl v1), some (.inl (v2 + 1))]) dLN_takeFirst_50 rfl rfl rfl ?_
    refine dx_goto 28 dLN_takeFirst_53 (by decide) ?_
    exact dx_less (L' := [some (.inr 7), some (.inl v1), some (.inl (v2 + 1))]) ⟨rfl, rfl, rfl, trivial⟩ h
def g_LN_takeFirst_8_28 (E : dx_E) (d : Nat) (po : dx_P) (v1 v2 : Int32) (σ : dx_V) : Prop := dx_G tX E d RLN cLN_takeFirst 3 (some .int) po 28 [some (.inr 8), some (.inl v1), some (.inl v2)] [] σ
set_option maxRecDepth 100000 in
set_option maxHeartbeats 4000000 in
theorem r_LN_takeFirst_8 {E : dx_E} {d : Nat} {σ : dx_V} {po : dx_P} (h : (¬ (σ 8 1) = 0 → vp_in 0 16 ∧ (g_LN_takeFirst_8_28 E d po (σ 33 (0 : Int32).toNatClampNeg) 0 (dx_u σ 8 1 ((σ 8 1) - 1)))) ∧ ((σ 8 1) = 0 → po (some (-1)) σ)) : m_LN_takeFirst_8 E d σ po := by
  refine dx_entry (by decide) (Nat.le_of_ble_eq_true rfl) ?_
  show dx_G tX E d RLN cLN_takeFirst 3 (some .int) po 0 [some (.inr 8), none, none] [] σ
  refine dx_aload_n dLN_takeFirst_0 rfl ?_
  refine dx_geti dLN_takeFirst_1 flLN_15 rfl rfl ?_
  refine dx_if_ne 9 dLN_takeFirst_4 (by decide) (fun q => ?_) (fun q => ?_)
  · have h := h.1 q
    refine dx_aload_n dLN_takeFirst_9 rfl ?_
    refine dx_getr dLN_takeFirst_10 flLN_9 rfl rfl ?_
    refine dx_iconst (v := 0) dLN_takeFirst_13 (by decide) ?_
    obtain ⟨hi, h⟩ := h
    refine dx_iaload dLN_takeFirst_14 rfl hi ?_
    refine dx_istore_n (L' := [some (.inr 8), some (.inl (σ 33 (0 : Int32).toNatClampNeg)), none]) dLN_takeFirst_15 (Nat.le_of_ble_eq_true rfl) rfl ?_
    refine dx_aload_n dLN_takeFirst_16 rfl ?_
    refine dx_dup dLN_takeFirst_17 ?_
    refine dx_geti dLN_takeFirst_18 flLN_15 rfl rfl ?_
    refine dx_iconst (v := 1) dLN_takeFirst_21 (by decide) ?_
    refine dx_isub dLN_takeFirst_22 ?_
    refine dx_put dLN_takeFirst_23 fpLN_15 rfl rfl (Or.inl rfl) ?_
    refine dx_iconst (v := 0) dLN_takeFirst_26 (by decide) ?_
    refine dx_istore_n (L' := [some (.inr 8), some (.inl (σ 33 (0 : Int32).toNatClampNeg)), some (.inl 0)]) dLN_takeFirst_27 (Nat.le_of_ble_eq_true rfl) rfl ?_
    exact dx_less (L' := [some (.inr 8), some (.inl (σ 33 (0 : Int32).toNatClampNeg)), some (.inl 0)]) ⟨rfl, rfl, rfl, trivial⟩ h
  · have h := h.2 q
    refine dx_iconst (v := (-1)) dLN_takeFirst_7 (by decide) ?_
    exact dx_ret dLN_takeFirst_8 rfl rfl h
set_option maxRecDepth 100000 in
set_option maxHeartbeats 4000000 in
theorem r_LN_takeFirst_8_28 {E : dx_E} {d : Nat} {po : dx_P} {v1 v2 : Int32} {σ : dx_V} (h : ((σ 8 1) ≤ v2 → po (some v1) σ) ∧ (¬ (σ 8 1) ≤ v2 → vp_in (v2 + 1) 16 ∧ (vp_in v2 16 ∧ (g_LN_takeFirst_8_28 E d po v1 (v2 + 1) (dx_u σ 33 v2.toNatClampNeg (σ 33 (v2 + 1).toNatClampNeg)))))) : g_LN_takeFirst_8_28 E d po v1 v2 σ := by
  show dx_G tX E d RLN cLN_takeFirst 3 (some .int) po 28 [some (.inr 8), some (.inl v1), some (.inl v2)] [] σ
  refine dx_iload_n dLN_takeFirst_28 rfl ?_
  refine dx_aload_n dLN_takeFirst_29 rfl ?_
  refine dx_geti dLN_takeFirst_30 flLN_15 rfl rfl ?_
  refine dx_icmp_ge 56 dLN_takeFirst_33 (by decide) (fun q => ?_) (fun q => ?_)
  · have h := h.1 q
    refine dx_iload_n dLN_takeFirst_56 rfl ?_
    exact dx_ret dLN_takeFirst_57 rfl rfl h
  · have h := h.2 q
    refine dx_aload_n dLN_takeFirst_36 rfl ?_
    refine dx_getr dLN_takeFirst_37 flLN_9 rfl rfl ?_
    refine dx_iload_n dLN_takeFirst_40 rfl ?_
    refine dx_aload_n dLN_takeFirst_41 rfl ?_
    refine dx_getr dLN_takeFirst_42 flLN_9 rfl rfl ?_
    refine dx_iload_n dLN_takeFirst_45 rfl ?_
    refine dx_iconst (v := 1) dLN_takeFirst_46 (by decide) ?_
    refine dx_iadd dLN_takeFirst_47 ?_
    obtain ⟨hi, h⟩ := h
    refine dx_iaload dLN_takeFirst_48 rfl hi ?_
    obtain ⟨hi, h⟩ := h
    refine dx_iastore dLN_takeFirst_49 rfl hi ?_
    refine dx_iinc (v := v2 + 1) (L' := [some (.inr 8), some (.inl v1), some (.inl (v2 + 1))]) dLN_takeFirst_50 rfl rfl rfl ?_
    refine dx_goto 28 dLN_takeFirst_53 (by decide) ?_
    exact dx_less (L' := [some (.inr 8), some (.inl v1), some (.inl (v2 + 1))]) ⟨rfl, rfl, rfl, trivial⟩ h
def g_LN_takeFirst_9_28 (E : dx_E) (d : Nat) (po : dx_P) (v1 v2 : Int32) (σ : dx_V) : Prop := dx_G tX E d RLN cLN_takeFirst 3 (some .int) po 28 [some (.inr 9), some (.inl v1), some (.inl v2)] [] σ
set_option maxRecDepth 100000 in
set_option maxHeartbeats 4000000 in
theorem r_LN_takeFirst_9 {E : dx_E} {d : Nat} {σ : dx_V} {po : dx_P} (h : (¬ (σ 9 1) = 0 → vp_in 0 200 ∧ (g_LN_takeFirst_9_28 E d po (σ 34 (0 : Int32).toNatClampNeg) 0 (dx_u σ 9 1 ((σ 9 1) - 1)))) ∧ ((σ 9 1) = 0 → po (some (-1)) σ)) : m_LN_takeFirst_9 E d σ po := by
  refine dx_entry (by decide) (Nat.le_of_ble_eq_true rfl) ?_
  show dx_G tX E d RLN cLN_takeFirst 3 (some .int) po 0 [some (.inr 9), none, none] [] σ
  refine dx_aload_n dLN_takeFirst_0 rfl ?_
  refine dx_geti dLN_takeFirst_1 flLN_15 rfl rfl ?_
  refine dx_if_ne 9 dLN_takeFirst_4 (by decide) (fun q => ?_) (fun q => ?_)
  · have h := h.1 q
    refine dx_aload_n dLN_takeFirst_9 rfl ?_
    refine dx_getr dLN_takeFirst_10 flLN_9 rfl rfl ?_
    refine dx_iconst (v := 0) dLN_takeFirst_13 (by decide) ?_
    obtain ⟨hi, h⟩ := h
    refine dx_iaload dLN_takeFirst_14 rfl hi ?_
    refine dx_istore_n (L' := [some (.inr 9), some (.inl (σ 34 (0 : Int32).toNatClampNeg)), none]) dLN_takeFirst_15 (Nat.le_of_ble_eq_true rfl) rfl ?_
    refine dx_aload_n dLN_takeFirst_16 rfl ?_
    refine dx_dup dLN_takeFirst_17 ?_
    refine dx_geti dLN_takeFirst_18 flLN_15 rfl rfl ?_
    refine dx_iconst (v := 1) dLN_takeFirst_21 (by decide) ?_
    refine dx_isub dLN_takeFirst_22 ?_
    refine dx_put dLN_takeFirst_23 fpLN_15 rfl rfl (Or.inl rfl) ?_
    refine dx_iconst (v := 0) dLN_takeFirst_26 (by decide) ?_
    refine dx_istore_n (L' := [some (.inr 9), some (.inl (σ 34 (0 : Int32).toNatClampNeg)), some (.inl 0)]) dLN_takeFirst_27 (Nat.le_of_ble_eq_true rfl) rfl ?_
    exact dx_less (L' := [some (.inr 9), some (.inl (σ 34 (0 : Int32).toNatClampNeg)), some (.inl 0)]) ⟨rfl, rfl, rfl, trivial⟩ h
  · have h := h.2 q
    refine dx_iconst (v := (-1)) dLN_takeFirst_7 (by decide) ?_
    exact dx_ret dLN_takeFirst_8 rfl rfl h
set_option maxRecDepth 100000 in
set_option maxHeartbeats 4000000 in
theorem r_LN_takeFirst_9_28 {E : dx_E} {d : Nat} {po : dx_P} {v1 v2 : Int32} {σ : dx_V} (h : ((σ 9 1) ≤ v2 → po (some v1) σ) ∧ (¬ (σ 9 1) ≤ v2 → vp_in (v2 + 1) 200 ∧ (vp_in v2 200 ∧ (g_LN_takeFirst_9_28 E d po v1 (v2 + 1) (dx_u σ 34 v2.toNatClampNeg (σ 34 (v2 + 1).toNatClampNeg)))))) : g_LN_takeFirst_9_28 E d po v1 v2 σ := by
  show dx_G tX E d RLN cLN_takeFirst 3 (some .int) po 28 [some (.inr 9), some (.inl v1), some (.inl v2)] [] σ
  refine dx_iload_n dLN_takeFirst_28 rfl ?_
  refine dx_aload_n dLN_takeFirst_29 rfl ?_
  refine dx_geti dLN_takeFirst_30 flLN_15 rfl rfl ?_
  refine dx_icmp_ge 56 dLN_takeFirst_33 (by decide) (fun q => ?_) (fun q => ?_)
  · have h := h.1 q
    refine dx_iload_n dLN_takeFirst_56 rfl ?_
    exact dx_ret dLN_takeFirst_57 rfl rfl h
  · have h := h.2 q
    refine dx_aload_n dLN_takeFirst_36 rfl ?_
    refine dx_getr dLN_takeFirst_37 flLN_9 rfl rfl ?_
    refine dx_iload_n dLN_takeFirst_40 rfl ?_
    refine dx_aload_n dLN_takeFirst_41 rfl ?_
    refine dx_getr dLN_takeFirst_42 flLN_9 rfl rfl ?_
    refine dx_iload_n dLN_takeFirst_45 rfl ?_
    refine dx_iconst (v := 1) dLN_takeFirst_46 (by decide) ?_
    refine dx_iadd dLN_takeFirst_47 ?_
    obtain ⟨hi, h⟩ := h
    refine dx_iaload dLN_takeFirst_48 rfl hi ?_
    obtain ⟨hi, h⟩ := h
    refine dx_iastore dLN_takeFirst_49 rfl hi ?_
    refine dx_iinc (v := v2 + 1) (L' := [some (.inr 9), some (.inl v1), some (.inl (v2 + 1))]) dLN_takeFirst_50 rfl rfl rfl ?_
    refine dx_goto 28 dLN_takeFirst_53 (by decide) ?_
    exact dx_less (L' := [some (.inr 9), some (.inl v1), some (.inl (v2 + 1))]) ⟨rfl, rfl, rfl, trivial⟩ h
set_option maxRecDepth 100000 in
set_option maxHeartbeats 4000000 in
theorem r_LN_clear_7 {E : dx_E} {d : Nat} {σ : dx_V} {po : dx_P} (h : po none (dx_u σ 7 1 0)) : m_LN_clear_7 E d σ po := by
  refine dx_entry (by decide) (Nat.le_of_ble_eq_true rfl) ?_
  show dx_G tX E d RLN cLN_clear 1 none po 0 [some (.inr 7)] [] σ
  refine dx_aload_n dLN_clear_0 rfl ?_
  refine dx_iconst (v := 0) dLN_clear_1 (by decide) ?_
  refine dx_put dLN_clear_2 fpLN_15 rfl rfl (Or.inl rfl) ?_
  exact dx_vret dLN_clear_5 rfl h
set_option maxRecDepth 100000 in
set_option maxHeartbeats 4000000 in
theorem r_LN_clear_8 {E : dx_E} {d : Nat} {σ : dx_V} {po : dx_P} (h : po none (dx_u σ 8 1 0)) : m_LN_clear_8 E d σ po := by
  refine dx_entry (by decide) (Nat.le_of_ble_eq_true rfl) ?_
  show dx_G tX E d RLN cLN_clear 1 none po 0 [some (.inr 8)] [] σ
  refine dx_aload_n dLN_clear_0 rfl ?_
  refine dx_iconst (v := 0) dLN_clear_1 (by decide) ?_
  refine dx_put dLN_clear_2 fpLN_15 rfl rfl (Or.inl rfl) ?_
  exact dx_vret dLN_clear_5 rfl h
set_option maxRecDepth 100000 in
set_option maxHeartbeats 4000000 in
theorem r_LN_clear_9 {E : dx_E} {d : Nat} {σ : dx_V} {po : dx_P} (h : po none (dx_u σ 9 1 0)) : m_LN_clear_9 E d σ po := by
  refine dx_entry (by decide) (Nat.le_of_ble_eq_true rfl) ?_
  show dx_G tX E d RLN cLN_clear 1 none po 0 [some (.inr 9)] [] σ
  refine dx_aload_n dLN_clear_0 rfl ?_
  refine dx_iconst (v := 0) dLN_clear_1 (by decide) ?_
  refine dx_put dLN_clear_2 fpLN_15 rfl rfl (Or.inl rfl) ?_
  exact dx_vret dLN_clear_5 rfl h
set_option maxRecDepth 100000 in
set_option maxHeartbeats 4000000 in
theorem r_RU_isGoingOn {E : dx_E} {d : Nat} {σ : dx_V} {po : dx_P} (h : (¬ (σ 4 12) = 1 → po (some 0) σ) ∧ ((σ 4 12) = 1 → po (some 1) σ)) : m_RU_isGoingOn E d σ po := by
  refine dx_entry (by decide) (Nat.le_of_ble_eq_true rfl) ?_
  show dx_G tX E d RRU cRU_isGoingOn 1 (some .boolean) po 0 [some (.inr 4)] [] σ
  refine dx_aload_n dRU_isGoingOn_0 rfl ?_
  refine dx_geti dRU_isGoingOn_1 flRU_44 rfl rfl ?_
  refine dx_iconst (v := 1) dRU_isGoingOn_4 (by decide) ?_
  refine dx_icmp_ne 12 dRU_isGoingOn_5 (by decide) (fun q => ?_) (fun q => ?_)
  · have h := h.1 q
    refine dx_iconst (v := 0) dRU_isGoingOn_12 (by decide) ?_
    exact dx_ret dRU_isGoingOn_13 rfl rfl h
  · have h := h.2 q
    refine dx_iconst (v := 1) dRU_isGoingOn_8 (by decide) ?_
    refine dx_goto 13 dRU_isGoingOn_9 (by decide) ?_
    exact dx_ret dRU_isGoingOn_13 rfl rfl h
set_option maxRecDepth 100000 in
set_option maxHeartbeats 4000000 in
theorem r_RU_open {E : dx_E} {d : Nat} {σ : dx_V} {po : dx_P} (h : dx_cu (m_SI_clear E d σ) (fun σ1 => dx_cu (m_LN_clear_7 E d σ1) (fun σ2 => dx_cu (m_LN_clear_8 E d σ2) (fun σ3 => dx_cu (m_LN_clear_9 E d σ3) (fun σ4 => dx_cu (m_AR_fill_28 E d 0 (dx_u σ4 10 2 0)) (fun σ5 => vp_in 0 16 ∧ (dx_ci (m_ST_completed E d (1 <<< ((σ5 13 (0 : Int32).toNatClampNeg) &&& 31)) (dx_u (dx_u (dx_u (dx_u σ5 4 10 0) 4 11 0) 4 13 0) 4 12 1)) (fun x7 σ6 => dx_cu (m_RU_enter E d x7 σ6) (fun σ8 => dx_cu (m_RU_finishIfEnded E d σ8) (fun σ9 => po none σ9)))))))))) : m_RU_open E (d + 1) σ po := by
  refine dx_entry (by decide) (Nat.le_of_ble_eq_true rfl) ?_
  show dx_G tX E (d + 1) RRU cRU_open 1 none po 0 [some (.inr 4)] [] σ
  refine dx_aload_n dRU_open_0 rfl ?_
  refine dx_getr dRU_open_1 flRU_12 rfl rfl ?_
  obtain ⟨pp, hm, hk⟩ := h
  refine dx_callvv [] [] dRU_open_4 cvRU_69 rfl (Nat.le_of_ble_eq_true rfl) rfl hm (fun σ1 hp => ?_)
  have h := hk σ1 hp
  refine dx_aload_n dRU_open_7 rfl ?_
  refine dx_getr dRU_open_8 flRU_23 rfl rfl ?_
  obtain ⟨pp, hm, hk⟩ := h
  refine dx_callvv [] [] dRU_open_11 cvRU_72 rfl (Nat.le_of_ble_eq_true rfl) rfl hm (fun σ2 hp => ?_)
  have h := hk σ2 hp
  refine dx_aload_n dRU_open_14 rfl ?_
  refine dx_getr dRU_open_15 flRU_27 rfl rfl ?_
  obtain ⟨pp, hm, hk⟩ := h
  refine dx_callvv [] [] dRU_open_18 cvRU_72 rfl (Nat.le_of_ble_eq_true rfl) rfl hm (fun σ3 hp => ?_)
  have h := hk σ3 hp
  refine dx_aload_n dRU_open_21 rfl ?_
  refine dx_getr dRU_open_22 flRU_30 rfl rfl ?_
  obtain ⟨pp, hm, hk⟩ := h
  refine dx_callvv [] [] dRU_open_25 cvRU_72 rfl (Nat.le_of_ble_eq_true rfl) rfl hm (fun σ4 hp => ?_)
  have h := hk σ4 hp
  refine dx_aload_n dRU_open_28 rfl ?_
  refine dx_getr dRU_open_29 flRU_36 rfl rfl ?_
  refine dx_iconst (v := 0) dRU_open_32 (by decide) ?_
  refine dx_put dRU_open_33 fpRU_73 rfl rfl (Or.inl rfl) ?_
  refine dx_aload_n dRU_open_36 rfl ?_
  refine dx_getr dRU_open_37 flRU_40 rfl rfl ?_
  refine dx_iconst (v := 0) dRU_open_40 (by decide) ?_
  obtain ⟨pp, hm, hk⟩ := h
  refine dx_callsv [.inr 28, .inl 0] [] dRU_open_41 csRU_76 (Nat.le_of_ble_eq_true rfl) rfl hm (fun σ5 hp => ?_)
  have h := hk σ5 hp
  refine dx_aload_n dRU_open_44 rfl ?_
  refine dx_iconst (v := 0) dRU_open_45 (by decide) ?_
  refine dx_put dRU_open_46 fpRU_82 rfl rfl (Or.inl rfl) ?_
  refine dx_aload_n dRU_open_49 rfl ?_
  refine dx_iconst (v := 0) dRU_open_50 (by decide) ?_
  refine dx_put dRU_open_51 fpRU_85 rfl rfl (Or.inl rfl) ?_
  refine dx_aload_n dRU_open_54 rfl ?_
  refine dx_iconst (v := 0) dRU_open_55 (by decide) ?_
  refine dx_put dRU_open_56 fpRU_88 rfl rfl (Or.inr (Or.inl rfl)) ?_
  refine dx_aload_n dRU_open_59 rfl ?_
  refine dx_iconst (v := 1) dRU_open_60 (by decide) ?_
  refine dx_put dRU_open_61 fpRU_44 rfl rfl (Or.inl rfl) ?_
  refine dx_aload_n dRU_open_64 rfl ?_
  refine dx_aload_n dRU_open_65 rfl ?_
  refine dx_getr dRU_open_66 flRU_48 rfl rfl ?_
  refine dx_iconst (v := 1) dRU_open_69 (by decide) ?_
  refine dx_aload_n dRU_open_70 rfl ?_
  refine dx_getr dRU_open_71 flRU_48 rfl rfl ?_
  refine dx_getr dRU_open_74 flRU_92 rfl rfl ?_
  refine dx_iconst (v := 0) dRU_open_77 (by decide) ?_
  obtain ⟨hi, h⟩ := h
  refine dx_iaload dRU_open_78 rfl hi ?_
  refine dx_ishl dRU_open_79 ?_
  obtain ⟨pp, hm, hk⟩ := h
  refine dx_callvi [.inl (1 <<< ((σ5 13 (0 : Int32).toNatClampNeg) &&& 31))] [.inr 4] dRU_open_80 cvRU_97 rfl (Nat.le_of_ble_eq_true rfl) rfl hm (fun x7 σ6 hp => ?_)
  have h := hk x7 σ6 hp
  obtain ⟨pp, hm, hk⟩ := h
  refine dx_callvv [.inl x7] [] dRU_open_83 cvRU_101 rfl (Nat.le_of_ble_eq_true rfl) rfl hm (fun σ8 hp => ?_)
  have h := hk σ8 hp
  refine dx_aload_n dRU_open_86 rfl ?_
  obtain ⟨pp, hm, hk⟩ := h
  refine dx_callvv [] [] dRU_open_87 cvRU_104 rfl (Nat.le_of_ble_eq_true rfl) rfl hm (fun σ9 hp => ?_)
  have h := hk σ9 hp
  exact dx_vret dRU_open_90 rfl h
set_option maxRecDepth 100000 in
set_option maxHeartbeats 4000000 in
theorem r_RU_takeExternalEvent {E : dx_E} {d : Nat} {σ : dx_V} {po : dx_P} (h : dx_cu (m_LN_clear_9 E d σ) (fun σ1 => dx_ci (m_LN_takeFirst_8 E d (dx_u σ1 4 11 0)) (fun x3 σ2 => dx_ci (m_SE_chooseFor E d x3 σ2) (fun x5 σ4 => (x5 = 0 → po none σ4) ∧ (¬ x5 = 0 → dx_cu (m_RU_microstep E d σ4) (fun σ6 => po none σ6)))))) : m_RU_takeExternalEvent E (d + 1) σ po := by
  refine dx_entry (by decide) (Nat.le_of_ble_eq_true rfl) ?_
  show dx_G tX E (d + 1) RRU cRU_takeExternalEvent 1 none po 0 [some (.inr 4)] [] σ
  refine dx_aload_n dRU_takeExternalEvent_0 rfl ?_
  refine dx_getr dRU_takeExternalEvent_1 flRU_30 rfl rfl ?_
  obtain ⟨pp, hm, hk⟩ := h
  refine dx_callvv [] [] dRU_takeExternalEvent_4 cvRU_72 rfl (Nat.le_of_ble_eq_true rfl) rfl hm (fun σ1 hp => ?_)
  have h := hk σ1 hp
  refine dx_aload_n dRU_takeExternalEvent_7 rfl ?_
  refine dx_iconst (v := 0) dRU_takeExternalEvent_8 (by decide) ?_
  refine dx_put dRU_takeExternalEvent_9 fpRU_85 rfl rfl (Or.inl rfl) ?_
  refine dx_aload_n dRU_takeExternalEvent_12 rfl ?_
  refine dx_getr dRU_takeExternalEvent_13 flRU_65 rfl rfl ?_
  refine dx_aload_n dRU_takeExternalEvent_16 rfl ?_
  refine dx_getr dRU_takeExternalEvent_17 flRU_27 rfl rfl ?_
  obtain ⟨pp, hm, hk⟩ := h
  refine dx_callvi [] [.inr 6] dRU_takeExternalEvent_20 cvRU_107 rfl (Nat.le_of_ble_eq_true rfl) rfl hm (fun x3 σ2 hp => ?_)
  have h := hk x3 σ2 hp
  obtain ⟨pp, hm, hk⟩ := h
  refine dx_callvi [.inl x3] [] dRU_takeExternalEvent_23 cvRU_111 rfl (Nat.le_of_ble_eq_true rfl) rfl hm (fun x5 σ4 hp => ?_)
  have h := hk x5 σ4 hp
  refine dx_if_eq 33 dRU_takeExternalEvent_26 (by decide) (fun q => ?_) (fun q => ?_)
  · have h := h.1 q
    exact dx_vret dRU_takeExternalEvent_33 rfl h
  · have h := h.2 q
    refine dx_aload_n dRU_takeExternalEvent_29 rfl ?_
    obtain ⟨pp, hm, hk⟩ := h
    refine dx_callvv [] [] dRU_takeExternalEvent_30 cvRU_115 rfl (Nat.le_of_ble_eq_true rfl) rfl hm (fun σ6 hp => ?_)
    have h := hk σ6 hp
    exact dx_vret dRU_takeExternalEvent_33 rfl h
def g_RU_macrostep_2 (E : dx_E) (d : Nat) (po : dx_P) (v1 : Int32) (σ : dx_V) : Prop := dx_G tX E d RRU cRU_macrostep 2 none po 2 [some (.inr 4), some (.inl v1)] [] σ
set_option maxRecDepth 100000 in
set_option maxHeartbeats 4000000 in
theorem r_RU_macrostep {E : dx_E} {d : Nat} {σ : dx_V} {po : dx_P} (h : g_RU_macrostep_2 E (d + 1) po 0 σ) : m_RU_macrostep E (d + 1) σ po := by
  refine dx_entry (by decide) (Nat.le_of_ble_eq_true rfl) ?_
  show dx_G tX E (d + 1) RRU cRU_macrostep 2 none po 0 [some (.inr 4), none] [] σ
  refine dx_iconst (v := 0) dRU_macrostep_0 (by decide) ?_
  refine dx_istore_n (L' := [some (.inr 4), some (.inl 0)]) dRU_macrostep_1 (Nat.le_of_ble_eq_true rfl) rfl ?_
  exact dx_less (L' := [some (.inr 4), some (.inl 0)]) ⟨rfl, rfl, trivial⟩ h
set_option maxRecDepth 100000 in
set_option maxHeartbeats 4000000 in
theorem r_RU_macrostep_2 {E : dx_E} {d : Nat} {po : dx_P} {v1 : Int32} {σ : dx_V} (h : (30 < v1 → po none σ) ∧ (¬ 30 < v1 → dx_ci (m_RU_isGoingOn E d σ) (fun x2 σ1 => (x2 = 0 → po none σ1) ∧ (¬ x2 = 0 → dx_ci (m_RU_chooseNext E d σ1) (fun x4 σ3 => (¬ x4 = 0 → dx_cu (m_RU_microstep E d σ3) (fun σ5 => g_RU_macrostep_2 E (d + 1) po (v1 + 1) σ5)) ∧ (x4 = 0 → po none σ3)))))) : g_RU_macrostep_2 E (d + 1) po v1 σ := by
  show dx_G tX E (d + 1) RRU cRU_macrostep 2 none po 2 [some (.inr 4), some (.inl v1)] [] σ
  refine dx_iload_n dRU_macrostep_2 rfl ?_
  refine dx_bipush (v := 30) dRU_macrostep_3 (by decide) ?_
  refine dx_icmp_gt 33 dRU_macrostep_5 (by decide) (fun q => ?_) (fun q => ?_)
  · have h := h.1 q
    exact dx_vret dRU_macrostep_33 rfl h
  · have h := h.2 q
    refine dx_aload_n dRU_macrostep_8 rfl ?_
    obtain ⟨pp, hm, hk⟩ := h
    refine dx_callvi [] [] dRU_macrostep_9 cvRU_118 rfl (Nat.le_of_ble_eq_true rfl) rfl hm (fun x2 σ1 hp => ?_)
    have h := hk x2 σ1 hp
    refine dx_if_eq 22 dRU_macrostep_12 (by decide) (fun q => ?_) (fun q => ?_)
    · have h := h.1 q
      exact dx_vret dRU_macrostep_22 rfl h
    · have h := h.2 q
      refine dx_aload_n dRU_macrostep_15 rfl ?_
      obtain ⟨pp, hm, hk⟩ := h
      refine dx_callvi [] [] dRU_macrostep_16 cvRU_122 rfl (Nat.le_of_ble_eq_true rfl) rfl hm (fun x4 σ3 hp => ?_)
      have h := hk x4 σ3 hp
      refine dx_if_ne 23 dRU_macrostep_19 (by decide) (fun q => ?_) (fun q => ?_)
      · have h := h.1 q
        refine dx_aload_n dRU_macrostep_23 rfl ?_
        obtain ⟨pp, hm, hk⟩ := h
        refine dx_callvv [] [] dRU_macrostep_24 cvRU_115 rfl (Nat.le_of_ble_eq_true rfl) rfl hm (fun σ5 hp => ?_)
        have h := hk σ5 hp
        refine dx_iinc (v := v1 + 1) (L' := [some (.inr 4), some (.inl (v1 + 1))]) dRU_macrostep_27 rfl rfl rfl ?_
        refine dx_goto 2 dRU_macrostep_30 (by decide) ?_
        exact dx_less (L' := [some (.inr 4), some (.inl (v1 + 1))]) ⟨rfl, rfl, trivial⟩ h
      · have h := h.2 q
        exact dx_vret dRU_macrostep_22 rfl h
