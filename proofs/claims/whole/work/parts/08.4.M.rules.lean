set_option maxRecDepth 100000 in
set_option maxHeartbeats 4000000 in
theorem r_MM_variable {E : dx_E} {d : Nat} {a1 : Int32} {σ : dx_V} {po : dx_P} (h : ((σ 0 17) = 0 → po (some 0) σ) ∧ (¬ (σ 0 17) = 0 → (a1 < 0 → po (some 0) σ) ∧ (¬ a1 < 0 → (3 < a1 → po (some 0) σ) ∧ (¬ 3 < a1 → vp_in a1 4 ∧ (po (some (σ 17 a1.toNatClampNeg)) σ))))) : m_MM_variable E d a1 σ po := by
  refine dx_entry (by decide) (Nat.le_of_ble_eq_true rfl) ?_
  show dx_G tM E d RMM cMM_variable 2 (some .int) po 0 [some (.inr 0), some (.inl a1)] [] σ
  refine dx_aload_n dMM_variable_0 rfl ?_
  refine dx_geti dMM_variable_1 flMM_97 rfl rfl ?_
  refine dx_if_eq 25 dMM_variable_4 (by decide) (fun q => ?_) (fun q => ?_)
  · have h := h.1 q
    refine dx_iconst (v := 0) dMM_variable_25 (by decide) ?_
    exact dx_ret dMM_variable_26 rfl rfl h
  · have h := h.2 q
    refine dx_iload_n dMM_variable_7 rfl ?_
    refine dx_if_lt 25 dMM_variable_8 (by decide) (fun q => ?_) (fun q => ?_)
    · have h := h.1 q
      refine dx_iconst (v := 0) dMM_variable_25 (by decide) ?_
      exact dx_ret dMM_variable_26 rfl rfl h
    · have h := h.2 q
      refine dx_iload_n dMM_variable_11 rfl ?_
      refine dx_iconst (v := 3) dMM_variable_12 (by decide) ?_
      refine dx_icmp_gt 25 dMM_variable_13 (by decide) (fun q => ?_) (fun q => ?_)
      · have h := h.1 q
        refine dx_iconst (v := 0) dMM_variable_25 (by decide) ?_
        exact dx_ret dMM_variable_26 rfl rfl h
      · have h := h.2 q
        refine dx_aload_n dMM_variable_16 rfl ?_
        refine dx_getr dMM_variable_17 flMM_59 rfl rfl ?_
        refine dx_iload_n dMM_variable_20 rfl ?_
        obtain ⟨hi, h⟩ := h
        refine dx_iaload dMM_variable_21 rfl hi ?_
        refine dx_goto 26 dMM_variable_22 (by decide) ?_
        exact dx_ret dMM_variable_26 rfl rfl h
set_option maxRecDepth 100000 in
set_option maxHeartbeats 4000000 in
theorem r_MM_listed {E : dx_E} {d : Nat} {a1 : Int32} {σ : dx_V} {po : dx_P} (h : ((σ 0 17) = 0 → po (some (-1)) σ) ∧ (¬ (σ 0 17) = 0 → (a1 < 0 → po (some (-1)) σ) ∧ (¬ a1 < 0 → ((σ 0 31) ≤ a1 → po (some (-1)) σ) ∧ (¬ (σ 0 31) ≤ a1 → vp_in a1 200 ∧ (po (some (σ 22 a1.toNatClampNeg)) σ))))) : m_MM_listed E d a1 σ po := by
  refine dx_entry (by decide) (Nat.le_of_ble_eq_true rfl) ?_
  show dx_G tM E d RMM cMM_listed 2 (some .int) po 0 [some (.inr 0), some (.inl a1)] [] σ
  refine dx_aload_n dMM_listed_0 rfl ?_
  refine dx_geti dMM_listed_1 flMM_97 rfl rfl ?_
  refine dx_if_eq 28 dMM_listed_4 (by decide) (fun q => ?_) (fun q => ?_)
  · have h := h.1 q
    refine dx_iconst (v := (-1)) dMM_listed_28 (by decide) ?_
    exact dx_ret dMM_listed_29 rfl rfl h
  · have h := h.2 q
    refine dx_iload_n dMM_listed_7 rfl ?_
    refine dx_if_lt 28 dMM_listed_8 (by decide) (fun q => ?_) (fun q => ?_)
    · have h := h.1 q
      refine dx_iconst (v := (-1)) dMM_listed_28 (by decide) ?_
      exact dx_ret dMM_listed_29 rfl rfl h
    · have h := h.2 q
      refine dx_iload_n dMM_listed_11 rfl ?_
      refine dx_aload_n dMM_listed_12 rfl ?_
      refine dx_geti dMM_listed_13 flMM_110 rfl rfl ?_
      refine dx_icmp_ge 28 dMM_listed_16 (by decide) (fun q => ?_) (fun q => ?_)
      · have h := h.1 q
        refine dx_iconst (v := (-1)) dMM_listed_28 (by decide) ?_
        exact dx_ret dMM_listed_29 rfl rfl h
      · have h := h.2 q
        refine dx_aload_n dMM_listed_19 rfl ?_
        refine dx_getr dMM_listed_20 flMM_74 rfl rfl ?_
        refine dx_iload_n dMM_listed_23 rfl ?_
        obtain ⟨hi, h⟩ := h
        refine dx_iaload dMM_listed_24 rfl hi ?_
        refine dx_goto 29 dMM_listed_25 (by decide) ?_
        exact dx_ret dMM_listed_29 rfl rfl h
set_option maxRecDepth 100000 in
set_option maxHeartbeats 4000000 in
theorem r_MM_waiting {E : dx_E} {d : Nat} {a1 : Int32} {σ : dx_V} {po : dx_P} (h : (a1 < 0 → po (some (-1)) σ) ∧ (¬ a1 < 0 → (a1 ≤ 2 → (¬ (σ 0 17) = 0 → (¬ a1 = 0 → (¬ a1 = 1 → po (some (σ 0 27)) σ) ∧ (a1 = 1 → po (some (σ 0 25)) σ)) ∧ (a1 = 0 → po (some (σ 0 23)) σ)) ∧ ((σ 0 17) = 0 → po (some 0) σ)) ∧ (¬ a1 ≤ 2 → po (some (-1)) σ))) : m_MM_waiting E d a1 σ po := by
  refine dx_entry (by decide) (Nat.le_of_ble_eq_true rfl) ?_
  show dx_G tM E d RMM cMM_waiting 2 (some .int) po 0 [some (.inr 0), some (.inl a1)] [] σ
  refine dx_iload_n dMM_waiting_0 rfl ?_
  refine dx_if_lt 9 dMM_waiting_1 (by decide) (fun q => ?_) (fun q => ?_)
  · have h := h.1 q
    refine dx_iconst (v := (-1)) dMM_waiting_9 (by decide) ?_
    exact dx_ret dMM_waiting_10 rfl rfl h
  · have h := h.2 q
    refine dx_iload_n dMM_waiting_4 rfl ?_
    refine dx_iconst (v := 2) dMM_waiting_5 (by decide) ?_
    refine dx_icmp_le 11 dMM_waiting_6 (by decide) (fun q => ?_) (fun q => ?_)
    · have h := h.1 q
      refine dx_aload_n dMM_waiting_11 rfl ?_
      refine dx_geti dMM_waiting_12 flMM_97 rfl rfl ?_
      refine dx_if_ne 22 dMM_waiting_15 (by decide) (fun q => ?_) (fun q => ?_)
      · have h := h.1 q
        refine dx_iload_n dMM_waiting_22 rfl ?_
        refine dx_if_ne 33 dMM_waiting_23 (by decide) (fun q => ?_) (fun q => ?_)
        · have h := h.1 q
          refine dx_iload_n dMM_waiting_33 rfl ?_
          refine dx_iconst (v := 1) dMM_waiting_34 (by decide) ?_
          refine dx_icmp_ne 45 dMM_waiting_35 (by decide) (fun q => ?_) (fun q => ?_)
          · have h := h.1 q
            refine dx_aload_n dMM_waiting_45 rfl ?_
            refine dx_geti dMM_waiting_46 flMM_122 rfl rfl ?_
            exact dx_ret dMM_waiting_49 rfl rfl h
          · have h := h.2 q
            refine dx_aload_n dMM_waiting_38 rfl ?_
            refine dx_geti dMM_waiting_39 flMM_116 rfl rfl ?_
            refine dx_goto 49 dMM_waiting_42 (by decide) ?_
            exact dx_ret dMM_waiting_49 rfl rfl h
        · have h := h.2 q
          refine dx_aload_n dMM_waiting_26 rfl ?_
          refine dx_geti dMM_waiting_27 flMM_113 rfl rfl ?_
          refine dx_goto 49 dMM_waiting_30 (by decide) ?_
          exact dx_ret dMM_waiting_49 rfl rfl h
      · have h := h.2 q
        refine dx_iconst (v := 0) dMM_waiting_18 (by decide) ?_
        refine dx_goto 49 dMM_waiting_19 (by decide) ?_
        exact dx_ret dMM_waiting_49 rfl rfl h
    · have h := h.2 q
      refine dx_iconst (v := (-1)) dMM_waiting_9 (by decide) ?_
      exact dx_ret dMM_waiting_10 rfl rfl h
