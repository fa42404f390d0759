def g_AR_fill_29_5 (E : dx_E) (d : Nat) (po : dx_P) (v1 v2 v3 : Int32) (σ : dx_V) : Prop := dx_G tX E d RAR cAR_fill 4 none po 5 [some (.inr 29), some (.inl v1), some (.inl v2), some (.inl v3)] [] σ
set_option maxRecDepth 100000 in
set_option maxHeartbeats 4000000 in
theorem r_AR_fill_29 {E : dx_E} {d : Nat} {a2 : Int32} {σ : dx_V} {po : dx_P} (h : g_AR_fill_29_5 E d po a2 0 4 σ) : m_AR_fill_29 E d a2 σ po := by
  refine dx_entry (by decide) (Nat.le_of_ble_eq_true rfl) ?_
  show dx_G tX E d RAR cAR_fill 4 none po 0 [some (.inr 29), some (.inl a2), none, none] [] σ
  refine dx_iconst (v := 0) dAR_fill_0 (by decide) ?_
  refine dx_istore_n (L' := [some (.inr 29), some (.inl a2), some (.inl 0), none]) dAR_fill_1 (Nat.le_of_ble_eq_true rfl) rfl ?_
  refine dx_aload_n dAR_fill_2 rfl ?_
  refine dx_alen (v := 4) dAR_fill_3 rfl (by decide) ?_
  refine dx_istore_n (L' := [some (.inr 29), some (.inl a2), some (.inl 0), some (.inl 4)]) dAR_fill_4 (Nat.le_of_ble_eq_true rfl) rfl ?_
  exact dx_less (L' := [some (.inr 29), some (.inl a2), some (.inl 0), some (.inl 4)]) ⟨rfl, rfl, rfl, rfl, trivial⟩ h
set_option maxRecDepth 100000 in
set_option maxHeartbeats 4000000 in
theorem r_AR_fill_29_5 {E : dx_E} {d : Nat} {po : dx_P} {v1 v2 v3 : Int32} {σ : dx_V} (h : (v3 ≤ v2 → po none σ) ∧ (¬ v3 ≤ v2 → vp_in v2 4 ∧ (g_AR_fill_29_5 E d po v1 (v2 + 1) v3 (dx_u σ 29 v2.toNatClampNeg v1)))) : g_AR_fill_29_5 E d po v1 v2 v3 σ := by
  show dx_G tX E d RAR cAR_fill 4 none po 5 [some (.inr 29), some (.inl v1), some (.inl v2), some (.inl v3)] [] σ
  refine dx_iload_n dAR_fill_5 rfl ?_
  refine dx_iload_n dAR_fill_6 rfl ?_
  refine dx_icmp_ge 20 dAR_fill_7 (by decide) (fun q => ?_) (fun q => ?_)
  · have h := h.1 q
    exact dx_vret dAR_fill_20 rfl h
  · have h := h.2 q
    refine dx_aload_n dAR_fill_10 rfl ?_
    refine dx_iload_n dAR_fill_11 rfl ?_
    refine dx_iload_n dAR_fill_12 rfl ?_
    obtain ⟨hi, h⟩ := h
    refine dx_iastore dAR_fill_13 rfl hi ?_
    refine dx_iinc (v := v2 + 1) (L' := [some (.inr 29), some (.inl v1), some (.inl (v2 + 1)), some (.inl v3)]) dAR_fill_14 rfl rfl rfl ?_
    refine dx_goto 5 dAR_fill_17 (by decide) ?_
    exact dx_less (L' := [some (.inr 29), some (.inl v1), some (.inl (v2 + 1)), some (.inl v3)]) ⟨rfl, rfl, rfl, rfl, trivial⟩ h
