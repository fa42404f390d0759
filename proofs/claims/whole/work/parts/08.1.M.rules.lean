set_option maxRecDepth 100000 in
set_option maxHeartbeats 4000000 in
theorem r_MM_is {E : dx_E} {d : Nat} {a1 : Int32} {σ : dx_V} {po : dx_P} (h : (a1 < 1 → po (some 0) σ) ∧ (¬ a1 < 1 → ((σ 0 0) < a1 → po (some 0) σ) ∧ (¬ (σ 0 0) < a1 → vp_in a1 16 ∧ ((3 < (σ 2 a1.toNatClampNeg) → po (some 0) σ) ∧ (¬ 3 < (σ 2 a1.toNatClampNeg) → po (some 1) σ))))) : m_MM_is E d a1 σ po := by
  refine dx_entry (by decide) (Nat.le_of_ble_eq_true rfl) ?_
  show dx_G tM E d RMM cMM_is 2 (some .boolean) po 0 [some (.inr 0), some (.inl a1)] [] σ
  refine dx_iload_n dMM_is_0 rfl ?_
  refine dx_iconst (v := 1) dMM_is_1 (by decide) ?_
  refine dx_icmp_lt 27 dMM_is_2 (by decide) (fun q => ?_) (fun q => ?_)
  · have h := h.1 q
    refine dx_iconst (v := 0) dMM_is_27 (by decide) ?_
    exact dx_ret dMM_is_28 rfl rfl h
  · have h := h.2 q
    refine dx_iload_n dMM_is_5 rfl ?_
    refine dx_aload_n dMM_is_6 rfl ?_
    refine dx_geti dMM_is_7 flMM_89 rfl rfl ?_
    refine dx_icmp_gt 27 dMM_is_10 (by decide) (fun q => ?_) (fun q => ?_)
    · have h := h.1 q
      refine dx_iconst (v := 0) dMM_is_27 (by decide) ?_
      exact dx_ret dMM_is_28 rfl rfl h
    · have h := h.2 q
      refine dx_aload_n dMM_is_13 rfl ?_
      refine dx_getr dMM_is_14 flMM_13 rfl rfl ?_
      refine dx_iload_n dMM_is_17 rfl ?_
      obtain ⟨hi, h⟩ := h
      refine dx_iaload dMM_is_18 rfl hi ?_
      refine dx_iconst (v := 3) dMM_is_19 (by decide) ?_
      refine dx_icmp_gt 27 dMM_is_20 (by decide) (fun q => ?_) (fun q => ?_)
      · have h := h.1 q
        refine dx_iconst (v := 0) dMM_is_27 (by decide) ?_
        exact dx_ret dMM_is_28 rfl rfl h
      · have h := h.2 q
        refine dx_iconst (v := 1) dMM_is_23 (by decide) ?_
        refine dx_goto 28 dMM_is_24 (by decide) ?_
        exact dx_ret dMM_is_28 rfl rfl h
def g_MM_hasChild_2 (E : dx_E) (d : Nat) (po : dx_P) (v1 v2 v3 : Int32) (σ : dx_V) : Prop := dx_G tM E d RMM cMM_hasChild 4 (some .boolean) po 2 [some (.inr 0), some (.inl v1), some (.inl v2), some (.inl v3)] [] σ
set_option maxRecDepth 100000 in
set_option maxHeartbeats 4000000 in
theorem r_MM_hasChild {E : dx_E} {d : Nat} {a1 a2 : Int32} {σ : dx_V} {po : dx_P} (h : g_MM_hasChild_2 E d po a1 a2 1 σ) : m_MM_hasChild E d a1 a2 σ po := by
  refine dx_entry (by decide) (Nat.le_of_ble_eq_true rfl) ?_
  show dx_G tM E d RMM cMM_hasChild 4 (some .boolean) po 0 [some (.inr 0), some (.inl a1), some (.inl a2), none] [] σ
  refine dx_iconst (v := 1) dMM_hasChild_0 (by decide) ?_
  refine dx_istore_n (L' := [some (.inr 0), some (.inl a1), some (.inl a2), some (.inl 1)]) dMM_hasChild_1 (Nat.le_of_ble_eq_true rfl) rfl ?_
  exact dx_less (L' := [some (.inr 0), some (.inl a1), some (.inl a2), some (.inl 1)]) ⟨rfl, rfl, rfl, rfl, trivial⟩ h
set_option maxRecDepth 100000 in
set_option maxHeartbeats 4000000 in
theorem r_MM_hasChild_2 {E : dx_E} {d : Nat} {po : dx_P} {v1 v2 v3 : Int32} {σ : dx_V} (h : ((σ 0 0) < v3 → po (some 0) σ) ∧ (¬ (σ 0 0) < v3 → vp_in v3 16 ∧ ((¬ (σ 1 v3.toNatClampNeg) = v1 → g_MM_hasChild_2 E d po v1 v2 (v3 + 1) σ) ∧ ((σ 1 v3.toNatClampNeg) = v1 → (¬ v2 = 0 → po (some 1) σ) ∧ (v2 = 0 → vp_in v3 16 ∧ ((3 < (σ 2 v3.toNatClampNeg) → g_MM_hasChild_2 E d po v1 v2 (v3 + 1) σ) ∧ (¬ 3 < (σ 2 v3.toNatClampNeg) → po (some 1) σ))))))) : g_MM_hasChild_2 E d po v1 v2 v3 σ := by
  show dx_G tM E d RMM cMM_hasChild 4 (some .boolean) po 2 [some (.inr 0), some (.inl v1), some (.inl v2), some (.inl v3)] [] σ
  refine dx_iload_n dMM_hasChild_2 rfl ?_
  refine dx_aload_n dMM_hasChild_3 rfl ?_
  refine dx_geti dMM_hasChild_4 flMM_89 rfl rfl ?_
  refine dx_icmp_gt 42 dMM_hasChild_7 (by decide) (fun q => ?_) (fun q => ?_)
  · have h := h.1 q
    refine dx_iconst (v := 0) dMM_hasChild_42 (by decide) ?_
    exact dx_ret dMM_hasChild_43 rfl rfl h
  · have h := h.2 q
    refine dx_aload_n dMM_hasChild_10 rfl ?_
    refine dx_getr dMM_hasChild_11 flMM_7 rfl rfl ?_
    refine dx_iload_n dMM_hasChild_14 rfl ?_
    obtain ⟨hi, h⟩ := h
    refine dx_iaload dMM_hasChild_15 rfl hi ?_
    refine dx_iload_n dMM_hasChild_16 rfl ?_
    refine dx_icmp_ne 36 dMM_hasChild_17 (by decide) (fun q => ?_) (fun q => ?_)
    · have h := h.1 q
      refine dx_iinc (v := v3 + 1) (L' := [some (.inr 0), some (.inl v1), some (.inl v2), some (.inl (v3 + 1))]) dMM_hasChild_36 rfl rfl rfl ?_
      refine dx_goto 2 dMM_hasChild_39 (by decide) ?_
      exact dx_less (L' := [some (.inr 0), some (.inl v1), some (.inl v2), some (.inl (v3 + 1))]) ⟨rfl, rfl, rfl, rfl, trivial⟩ h
    · have h := h.2 q
      refine dx_iload_n dMM_hasChild_20 rfl ?_
      refine dx_if_ne 34 dMM_hasChild_21 (by decide) (fun q => ?_) (fun q => ?_)
      · have h := h.1 q
        refine dx_iconst (v := 1) dMM_hasChild_34 (by decide) ?_
        exact dx_ret dMM_hasChild_35 rfl rfl h
      · have h := h.2 q
        refine dx_aload_n dMM_hasChild_24 rfl ?_
        refine dx_getr dMM_hasChild_25 flMM_13 rfl rfl ?_
        refine dx_iload_n dMM_hasChild_28 rfl ?_
        obtain ⟨hi, h⟩ := h
        refine dx_iaload dMM_hasChild_29 rfl hi ?_
        refine dx_iconst (v := 3) dMM_hasChild_30 (by decide) ?_
        refine dx_icmp_gt 36 dMM_hasChild_31 (by decide) (fun q => ?_) (fun q => ?_)
        · have h := h.1 q
          refine dx_iinc (v := v3 + 1) (L' := [some (.inr 0), some (.inl v1), some (.inl v2), some (.inl (v3 + 1))]) dMM_hasChild_36 rfl rfl rfl ?_
          refine dx_goto 2 dMM_hasChild_39 (by decide) ?_
          exact dx_less (L' := [some (.inr 0), some (.inl v1), some (.inl v2), some (.inl (v3 + 1))]) ⟨rfl, rfl, rfl, rfl, trivial⟩ h
        · have h := h.2 q
          refine dx_iconst (v := 1) dMM_hasChild_34 (by decide) ?_
          exact dx_ret dMM_hasChild_35 rfl rfl h
set_option maxRecDepth 100000 in
set_option maxHeartbeats 4000000 in
theorem r_MM_compound {E : dx_E} {d : Nat} {a1 : Int32} {σ : dx_V} {po : dx_P} (h : vp_in a1 16 ∧ ((¬ (σ 2 a1.toNatClampNeg) = 1 → po (some 0) σ) ∧ ((σ 2 a1.toNatClampNeg) = 1 → dx_ci (m_MM_hasChild E d a1 1 σ) (fun x2 σ1 => (x2 = 0 → po (some 0) σ1) ∧ (¬ x2 = 0 → po (some 1) σ1))))) : m_MM_compound E (d + 1) a1 σ po := by
  refine dx_entry (by decide) (Nat.le_of_ble_eq_true rfl) ?_
  show dx_G tM E (d + 1) RMM cMM_compound 2 (some .boolean) po 0 [some (.inr 0), some (.inl a1)] [] σ
  refine dx_aload_n dMM_compound_0 rfl ?_
  refine dx_getr dMM_compound_1 flMM_13 rfl rfl ?_
  refine dx_iload_n dMM_compound_4 rfl ?_
  obtain ⟨hi, h⟩ := h
  refine dx_iaload dMM_compound_5 rfl hi ?_
  refine dx_iconst (v := 1) dMM_compound_6 (by decide) ?_
  refine dx_icmp_ne 23 dMM_compound_7 (by decide) (fun q => ?_) (fun q => ?_)
  · have h := h.1 q
    refine dx_iconst (v := 0) dMM_compound_23 (by decide) ?_
    exact dx_ret dMM_compound_24 rfl rfl h
  · have h := h.2 q
    refine dx_aload_n dMM_compound_10 rfl ?_
    refine dx_iload_n dMM_compound_11 rfl ?_
    refine dx_iconst (v := 1) dMM_compound_12 (by decide) ?_
    obtain ⟨pp, hm, hk⟩ := h
    refine dx_callvi [.inl a1, .inl 1] [] dMM_compound_13 cvMM_93 rfl (Nat.le_of_ble_eq_true rfl) rfl hm (fun x2 σ1 hp => ?_)
    have h := hk x2 σ1 hp
    refine dx_if_eq 23 dMM_compound_16 (by decide) (fun q => ?_) (fun q => ?_)
    · have h := h.1 q
      refine dx_iconst (v := 0) dMM_compound_23 (by decide) ?_
      exact dx_ret dMM_compound_24 rfl rfl h
    · have h := h.2 q
      refine dx_iconst (v := 1) dMM_compound_19 (by decide) ?_
      refine dx_goto 24 dMM_compound_20 (by decide) ?_
      exact dx_ret dMM_compound_24 rfl rfl h
def g_MM_below_2 (E : dx_E) (d : Nat) (po : dx_P) (v2 v3 : Int32) (σ : dx_V) : Prop := dx_G tM E d RMM cMM_below 4 (some .boolean) po 2 [some (.inr 0), none, some (.inl v2), some (.inl v3)] [] σ
set_option maxRecDepth 100000 in
set_option maxHeartbeats 4000000 in
theorem r_MM_below {E : dx_E} {d : Nat} {a1 a2 : Int32} {σ : dx_V} {po : dx_P} (h : g_MM_below_2 E d po a2 a1 σ) : m_MM_below E d a1 a2 σ po := by
  refine dx_entry (by decide) (Nat.le_of_ble_eq_true rfl) ?_
  show dx_G tM E d RMM cMM_below 4 (some .boolean) po 0 [some (.inr 0), some (.inl a1), some (.inl a2), none] [] σ
  refine dx_iload_n dMM_below_0 rfl ?_
  refine dx_istore_n (L' := [some (.inr 0), some (.inl a1), some (.inl a2), some (.inl a1)]) dMM_below_1 (Nat.le_of_ble_eq_true rfl) rfl ?_
  exact dx_less (L' := [some (.inr 0), none, some (.inl a2), some (.inl a1)]) ⟨rfl, rfl, rfl, trivial⟩ h
set_option maxRecDepth 100000 in
set_option maxHeartbeats 4000000 in
theorem r_MM_below_2 {E : dx_E} {d : Nat} {po : dx_P} {v2 v3 : Int32} {σ : dx_V} (h : (v3 = 0 → po (some 0) σ) ∧ (¬ v3 = 0 → vp_in v3 16 ∧ ((¬ (σ 1 v3.toNatClampNeg) = v2 → g_MM_below_2 E d po v2 (σ 1 v3.toNatClampNeg) σ) ∧ ((σ 1 v3.toNatClampNeg) = v2 → po (some 1) σ)))) : g_MM_below_2 E d po v2 v3 σ := by
  show dx_G tM E d RMM cMM_below 4 (some .boolean) po 2 [some (.inr 0), none, some (.inl v2), some (.inl v3)] [] σ
  refine dx_iload_n dMM_below_2 rfl ?_
  refine dx_if_eq 20 dMM_below_3 (by decide) (fun q => ?_) (fun q => ?_)
  · have h := h.1 q
    refine dx_iconst (v := 0) dMM_below_20 (by decide) ?_
    exact dx_ret dMM_below_21 rfl rfl h
  · have h := h.2 q
    refine dx_aload_n dMM_below_6 rfl ?_
    refine dx_getr dMM_below_7 flMM_7 rfl rfl ?_
    refine dx_iload_n dMM_below_10 rfl ?_
    obtain ⟨hi, h⟩ := h
    refine dx_iaload dMM_below_11 rfl hi ?_
    refine dx_istore_n (L' := [some (.inr 0), none, some (.inl v2), some (.inl (σ 1 v3.toNatClampNeg))]) dMM_below_12 (Nat.le_of_ble_eq_true rfl) rfl ?_
    refine dx_iload_n dMM_below_13 rfl ?_
    refine dx_iload_n dMM_below_14 rfl ?_
    refine dx_icmp_ne 2 dMM_below_15 (by decide) (fun q => ?_) (fun q => ?_)
    · have h := h.1 q
      exact dx_less (L' := [some (.inr 0), none, some (.inl v2), some (.inl (σ 1 v3.toNatClampNeg))]) ⟨rfl, rfl, rfl, trivial⟩ h
    · have h := h.2 q
      refine dx_iconst (v := 1) dMM_below_18 (by decide) ?_
      exact dx_ret dMM_below_19 rfl rfl h
def g_MM_initialOf_18 (E : dx_E) (d : Nat) (po : dx_P) (v1 v2 : Int32) (σ : dx_V) : Prop := dx_G tM E d RMM cMM_initialOf 3 (some .int) po 18 [some (.inr 0), some (.inl v1), some (.inl v2)] [] σ
set_option maxRecDepth 100000 in
set_option maxHeartbeats 4000000 in
theorem r_MM_initialOf {E : dx_E} {d : Nat} {a1 : Int32} {σ : dx_V} {po : dx_P} (h : vp_in a1 16 ∧ (((σ 3 a1.toNatClampNeg) ≤ 0 → g_MM_initialOf_18 E d po a1 1 σ) ∧ (¬ (σ 3 a1.toNatClampNeg) ≤ 0 → vp_in a1 16 ∧ (po (some (σ 3 a1.toNatClampNeg)) σ)))) : m_MM_initialOf E d a1 σ po := by
  refine dx_entry (by decide) (Nat.le_of_ble_eq_true rfl) ?_
  show dx_G tM E d RMM cMM_initialOf 3 (some .int) po 0 [some (.inr 0), some (.inl a1), none] [] σ
  refine dx_aload_n dMM_initialOf_0 rfl ?_
  refine dx_getr dMM_initialOf_1 flMM_16 rfl rfl ?_
  refine dx_iload_n dMM_initialOf_4 rfl ?_
  obtain ⟨hi, h⟩ := h
  refine dx_iaload dMM_initialOf_5 rfl hi ?_
  refine dx_if_le 16 dMM_initialOf_6 (by decide) (fun q => ?_) (fun q => ?_)
  · have h := h.1 q
    refine dx_iconst (v := 1) dMM_initialOf_16 (by decide) ?_
    refine dx_istore_n (L' := [some (.inr 0), some (.inl a1), some (.inl 1)]) dMM_initialOf_17 (Nat.le_of_ble_eq_true rfl) rfl ?_
    exact dx_less (L' := [some (.inr 0), some (.inl a1), some (.inl 1)]) ⟨rfl, rfl, rfl, trivial⟩ h
  · have h := h.2 q
    refine dx_aload_n dMM_initialOf_9 rfl ?_
    refine dx_getr dMM_initialOf_10 flMM_16 rfl rfl ?_
    refine dx_iload_n dMM_initialOf_13 rfl ?_
    obtain ⟨hi, h⟩ := h
    refine dx_iaload dMM_initialOf_14 rfl hi ?_
    exact dx_ret dMM_initialOf_15 rfl rfl h
set_option maxRecDepth 100000 in
set_option maxHeartbeats 4000000 in
theorem r_MM_initialOf_18 {E : dx_E} {d : Nat} {po : dx_P} {v1 v2 : Int32} {σ : dx_V} (h : ((σ 0 0) ≤ v2 → po (some v2) σ) ∧ (¬ (σ 0 0) ≤ v2 → vp_in v2 16 ∧ ((¬ (σ 1 v2.toNatClampNeg) = v1 → g_MM_initialOf_18 E d po v1 (v2 + 1) σ) ∧ ((σ 1 v2.toNatClampNeg) = v1 → vp_in v2 16 ∧ (((σ 2 v2.toNatClampNeg) ≤ 3 → po (some v2) σ) ∧ (¬ (σ 2 v2.toNatClampNeg) ≤ 3 → g_MM_initialOf_18 E d po v1 (v2 + 1) σ)))))) : g_MM_initialOf_18 E d po v1 v2 σ := by
  show dx_G tM E d RMM cMM_initialOf 3 (some .int) po 18 [some (.inr 0), some (.inl v1), some (.inl v2)] [] σ
  refine dx_iload_n dMM_initialOf_18 rfl ?_
  refine dx_aload_n dMM_initialOf_19 rfl ?_
  refine dx_geti dMM_initialOf_20 flMM_89 rfl rfl ?_
  refine dx_icmp_ge 52 dMM_initialOf_23 (by decide) (fun q => ?_) (fun q => ?_)
  · have h := h.1 q
    refine dx_iload_n dMM_initialOf_52 rfl ?_
    exact dx_ret dMM_initialOf_53 rfl rfl h
  · have h := h.2 q
    refine dx_aload_n dMM_initialOf_26 rfl ?_
    refine dx_getr dMM_initialOf_27 flMM_7 rfl rfl ?_
    refine dx_iload_n dMM_initialOf_30 rfl ?_
    obtain ⟨hi, h⟩ := h
    refine dx_iaload dMM_initialOf_31 rfl hi ?_
    refine dx_iload_n dMM_initialOf_32 rfl ?_
    refine dx_icmp_ne 46 dMM_initialOf_33 (by decide) (fun q => ?_) (fun q => ?_)
    · have h := h.1 q
      refine dx_iinc (v := v2 + 1) (L' := [some (.inr 0), some (.inl v1), some (.inl (v2 + 1))]) dMM_initialOf_46 rfl rfl rfl ?_
      refine dx_goto 18 dMM_initialOf_49 (by decide) ?_
      exact dx_less (L' := [some (.inr 0), some (.inl v1), some (.inl (v2 + 1))]) ⟨rfl, rfl, rfl, trivial⟩ h
    · have h := h.2 q
      refine dx_aload_n dMM_initialOf_36 rfl ?_
      refine dx_getr dMM_initialOf_37 flMM_13 rfl rfl ?_
      refine dx_iload_n dMM_initialOf_40 rfl ?_
      obtain ⟨hi, h⟩ := h
      refine dx_iaload dMM_initialOf_41 rfl hi ?_
      refine dx_iconst (v := 3) dMM_initialOf_42 (by decide) ?_
      refine dx_icmp_le 52 dMM_initialOf_43 (by decide) (fun q => ?_) (fun q => ?_)
      · have h := h.1 q
        refine dx_iload_n dMM_initialOf_52 rfl ?_
        exact dx_ret dMM_initialOf_53 rfl rfl h
      · have h := h.2 q
        refine dx_iinc (v := v2 + 1) (L' := [some (.inr 0), some (.inl v1), some (.inl (v2 + 1))]) dMM_initialOf_46 rfl rfl rfl ?_
        refine dx_goto 18 dMM_initialOf_49 (by decide) ?_
        exact dx_less (L' := [some (.inr 0), some (.inl v1), some (.inl (v2 + 1))]) ⟨rfl, rfl, rfl, trivial⟩ h
def g_MM_state_37 (E : dx_E) (d : Nat) (po : dx_P) (v1 v2 w0 : Int32) (σ : dx_V) : Prop := dx_G tM E d RMM cMM_state 4 (some .int) po 37 [some (.inr 0), some (.inl v1), some (.inl v2), none] [.inl w0] σ
def g_MM_state_64 (E : dx_E) (d : Nat) (po : dx_P) (v1 v2 : Int32) (σ : dx_V) : Prop := dx_G tM E d RMM cMM_state 4 (some .int) po 64 [some (.inr 0), some (.inl v1), some (.inl v2), none] [] σ
def g_MM_state_75 (E : dx_E) (d : Nat) (po : dx_P) (v1 v2 : Int32) (σ : dx_V) : Prop := dx_G tM E d RMM cMM_state 4 (some .int) po 75 [some (.inr 0), some (.inl v1), some (.inl v2), none] [] σ
set_option maxRecDepth 100000 in
set_option maxHeartbeats 4000000 in
theorem r_MM_state {E : dx_E} {d : Nat} {a1 a2 : Int32} {σ : dx_V} {po : dx_P} (h : (a1 < 0 → g_MM_state_37 E d po a1 a2 0 σ) ∧ (¬ a1 < 0 → ((σ 0 0) < a1 → g_MM_state_37 E d po a1 a2 0 σ) ∧ (¬ (σ 0 0) < a1 → vp_in a1 16 ∧ ((2 < (σ 2 a1.toNatClampNeg) → g_MM_state_37 E d po a1 a2 0 σ) ∧ (¬ 2 < (σ 2 a1.toNatClampNeg) → (a2 < 1 → g_MM_state_37 E d po a1 a2 0 σ) ∧ (¬ a2 < 1 → (5 < a2 → g_MM_state_37 E d po a1 a2 0 σ) ∧ (¬ 5 < a2 → g_MM_state_37 E d po a1 a2 1 σ))))))) : m_MM_state E d a1 a2 σ po := by
  refine dx_entry (by decide) (Nat.le_of_ble_eq_true rfl) ?_
  show dx_G tM E d RMM cMM_state 4 (some .int) po 0 [some (.inr 0), some (.inl a1), some (.inl a2), none] [] σ
  refine dx_iload_n dMM_state_0 rfl ?_
  refine dx_if_lt 36 dMM_state_1 (by decide) (fun q => ?_) (fun q => ?_)
  · have h := h.1 q
    refine dx_iconst (v := 0) dMM_state_36 (by decide) ?_
    exact dx_less (L' := [some (.inr 0), some (.inl a1), some (.inl a2), none]) ⟨rfl, rfl, rfl, trivial⟩ h
  · have h := h.2 q
    refine dx_iload_n dMM_state_4 rfl ?_
    refine dx_aload_n dMM_state_5 rfl ?_
    refine dx_geti dMM_state_6 flMM_89 rfl rfl ?_
    refine dx_icmp_gt 36 dMM_state_9 (by decide) (fun q => ?_) (fun q => ?_)
    · have h := h.1 q
      refine dx_iconst (v := 0) dMM_state_36 (by decide) ?_
      exact dx_less (L' := [some (.inr 0), some (.inl a1), some (.inl a2), none]) ⟨rfl, rfl, rfl, trivial⟩ h
    · have h := h.2 q
      refine dx_aload_n dMM_state_12 rfl ?_
      refine dx_getr dMM_state_13 flMM_13 rfl rfl ?_
      refine dx_iload_n dMM_state_16 rfl ?_
      obtain ⟨hi, h⟩ := h
      refine dx_iaload dMM_state_17 rfl hi ?_
      refine dx_iconst (v := 2) dMM_state_18 (by decide) ?_
      refine dx_icmp_gt 36 dMM_state_19 (by decide) (fun q => ?_) (fun q => ?_)
      · have h := h.1 q
        refine dx_iconst (v := 0) dMM_state_36 (by decide) ?_
        exact dx_less (L' := [some (.inr 0), some (.inl a1), some (.inl a2), none]) ⟨rfl, rfl, rfl, trivial⟩ h
      · have h := h.2 q
        refine dx_iload_n dMM_state_22 rfl ?_
        refine dx_iconst (v := 1) dMM_state_23 (by decide) ?_
        refine dx_icmp_lt 36 dMM_state_24 (by decide) (fun q => ?_) (fun q => ?_)
        · have h := h.1 q
          refine dx_iconst (v := 0) dMM_state_36 (by decide) ?_
          exact dx_less (L' := [some (.inr 0), some (.inl a1), some (.inl a2), none]) ⟨rfl, rfl, rfl, trivial⟩ h
        · have h := h.2 q
          refine dx_iload_n dMM_state_27 rfl ?_
          refine dx_iconst (v := 5) dMM_state_28 (by decide) ?_
          refine dx_icmp_gt 36 dMM_state_29 (by decide) (fun q => ?_) (fun q => ?_)
          · have h := h.1 q
            refine dx_iconst (v := 0) dMM_state_36 (by decide) ?_
            exact dx_less (L' := [some (.inr 0), some (.inl a1), some (.inl a2), none]) ⟨rfl, rfl, rfl, trivial⟩ h
          · have h := h.2 q
            refine dx_iconst (v := 1) dMM_state_32 (by decide) ?_
            refine dx_goto 37 dMM_state_33 (by decide) ?_
            exact dx_less (L' := [some (.inr 0), some (.inl a1), some (.inl a2), none]) ⟨rfl, rfl, rfl, trivial⟩ h
set_option maxRecDepth 100000 in
set_option maxHeartbeats 4000000 in
theorem r_MM_state_37 {E : dx_E} {d : Nat} {po : dx_P} {v1 v2 w0 : Int32} {σ : dx_V} (h : (¬ (σ 0 17) = 0 → po (some (-1)) σ) ∧ ((σ 0 17) = 0 → (w0 = 0 → po (some (-1)) σ) ∧ (¬ w0 = 0 → vp_in v1 16 ∧ ((¬ (σ 2 v1.toNatClampNeg) = 2 → g_MM_state_64 E d po v1 v2 σ) ∧ ((σ 2 v1.toNatClampNeg) = 2 → (v2 = 3 → po (some (-1)) σ) ∧ (¬ v2 = 3 → g_MM_state_64 E d po v1 v2 σ)))))) : g_MM_state_37 E d po v1 v2 w0 σ := by
  show dx_G tM E d RMM cMM_state 4 (some .int) po 37 [some (.inr 0), some (.inl v1), some (.inl v2), none] [.inl w0] σ
  refine dx_istore_n (L' := [some (.inr 0), some (.inl v1), some (.inl v2), some (.inl w0)]) dMM_state_37 (Nat.le_of_ble_eq_true rfl) rfl ?_
  refine dx_aload_n dMM_state_38 rfl ?_
  refine dx_geti dMM_state_39 flMM_97 rfl rfl ?_
  refine dx_if_ne 73 dMM_state_42 (by decide) (fun q => ?_) (fun q => ?_)
  · have h := h.1 q
    refine dx_iconst (v := (-1)) dMM_state_73 (by decide) ?_
    exact dx_ret dMM_state_74 rfl rfl h
  · have h := h.2 q
    refine dx_iload_n dMM_state_45 rfl ?_
    refine dx_if_eq 73 dMM_state_46 (by decide) (fun q => ?_) (fun q => ?_)
    · have h := h.1 q
      refine dx_iconst (v := (-1)) dMM_state_73 (by decide) ?_
      exact dx_ret dMM_state_74 rfl rfl h
    · have h := h.2 q
      refine dx_aload_n dMM_state_49 rfl ?_
      refine dx_getr dMM_state_50 flMM_13 rfl rfl ?_
      refine dx_iload_n dMM_state_53 rfl ?_
      obtain ⟨hi, h⟩ := h
      refine dx_iaload dMM_state_54 rfl hi ?_
      refine dx_iconst (v := 2) dMM_state_55 (by decide) ?_
      refine dx_icmp_ne 64 dMM_state_56 (by decide) (fun q => ?_) (fun q => ?_)
      · have h := h.1 q
        exact dx_less (L' := [some (.inr 0), some (.inl v1), some (.inl v2), none]) ⟨rfl, rfl, rfl, trivial⟩ h
      · have h := h.2 q
        refine dx_iload_n dMM_state_59 rfl ?_
        refine dx_iconst (v := 3) dMM_state_60 (by decide) ?_
        refine dx_icmp_eq 73 dMM_state_61 (by decide) (fun q => ?_) (fun q => ?_)
        · have h := h.1 q
          refine dx_iconst (v := (-1)) dMM_state_73 (by decide) ?_
          exact dx_ret dMM_state_74 rfl rfl h
        · have h := h.2 q
          exact dx_less (L' := [some (.inr 0), some (.inl v1), some (.inl v2), none]) ⟨rfl, rfl, rfl, trivial⟩ h
set_option maxRecDepth 100000 in
set_option maxHeartbeats 4000000 in
theorem r_MM_state_64 {E : dx_E} {d : Nat} {po : dx_P} {v1 v2 : Int32} {σ : dx_V} (h : (¬ v1 = 0 → g_MM_state_75 E d po v1 v2 σ) ∧ (v1 = 0 → (v2 < 4 → g_MM_state_75 E d po v1 v2 σ) ∧ (¬ v2 < 4 → po (some (-1)) σ))) : g_MM_state_64 E d po v1 v2 σ := by
  show dx_G tM E d RMM cMM_state 4 (some .int) po 64 [some (.inr 0), some (.inl v1), some (.inl v2), none] [] σ
  refine dx_iload_n dMM_state_64 rfl ?_
  refine dx_if_ne 75 dMM_state_65 (by decide) (fun q => ?_) (fun q => ?_)
  · have h := h.1 q
    exact dx_less (L' := [some (.inr 0), some (.inl v1), some (.inl v2), none]) ⟨rfl, rfl, rfl, trivial⟩ h
  · have h := h.2 q
    refine dx_iload_n dMM_state_68 rfl ?_
    refine dx_iconst (v := 4) dMM_state_69 (by decide) ?_
    refine dx_icmp_lt 75 dMM_state_70 (by decide) (fun q => ?_) (fun q => ?_)
    · have h := h.1 q
      exact dx_less (L' := [some (.inr 0), some (.inl v1), some (.inl v2), none]) ⟨rfl, rfl, rfl, trivial⟩ h
    · have h := h.2 q
      refine dx_iconst (v := (-1)) dMM_state_73 (by decide) ?_
      exact dx_ret dMM_state_74 rfl rfl h
set_option maxRecDepth 100000 in
set_option maxHeartbeats 4000000 in
theorem r_MM_state_75 {E : dx_E} {d : Nat} {po : dx_P} {v1 v2 : Int32} {σ : dx_V} (h : (¬ (σ 0 0) = 15 → vp_in ((σ 0 0) + 1) 16 ∧ (vp_in ((σ 0 0) + 1) 16 ∧ (po (some ((σ 0 0) + 1)) (dx_u (dx_u (dx_u σ 0 0 ((σ 0 0) + 1)) 1 ((σ 0 0) + 1).toNatClampNeg v1) 2 ((σ 0 0) + 1).toNatClampNeg v2)))) ∧ ((σ 0 0) = 15 → po (some (-2)) σ)) : g_MM_state_75 E d po v1 v2 σ := by
  show dx_G tM E d RMM cMM_state 4 (some .int) po 75 [some (.inr 0), some (.inl v1), some (.inl v2), none] [] σ
  refine dx_aload_n dMM_state_75 rfl ?_
  refine dx_geti dMM_state_76 flMM_89 rfl rfl ?_
  refine dx_bipush (v := 15) dMM_state_79 (by decide) ?_
  refine dx_icmp_ne 87 dMM_state_81 (by decide) (fun q => ?_) (fun q => ?_)
  · have h := h.1 q
    refine dx_aload_n dMM_state_87 rfl ?_
    refine dx_dup dMM_state_88 ?_
    refine dx_geti dMM_state_89 flMM_89 rfl rfl ?_
    refine dx_iconst (v := 1) dMM_state_92 (by decide) ?_
    refine dx_iadd dMM_state_93 ?_
    refine dx_put dMM_state_94 fpMM_89 rfl rfl (Or.inl rfl) ?_
    refine dx_aload_n dMM_state_97 rfl ?_
    refine dx_getr dMM_state_98 flMM_7 rfl rfl ?_
    refine dx_aload_n dMM_state_101 rfl ?_
    refine dx_geti dMM_state_102 flMM_89 rfl rfl ?_
    refine dx_iload_n dMM_state_105 rfl ?_
    obtain ⟨hi, h⟩ := h
    refine dx_iastore dMM_state_106 rfl hi ?_
    refine dx_aload_n dMM_state_107 rfl ?_
    refine dx_getr dMM_state_108 flMM_13 rfl rfl ?_
    refine dx_aload_n dMM_state_111 rfl ?_
    refine dx_geti dMM_state_112 flMM_89 rfl rfl ?_
    refine dx_iload_n dMM_state_115 rfl ?_
    obtain ⟨hi, h⟩ := h
    refine dx_iastore dMM_state_116 rfl hi ?_
    refine dx_aload_n dMM_state_117 rfl ?_
    refine dx_geti dMM_state_118 flMM_89 rfl rfl ?_
    exact dx_ret dMM_state_121 rfl rfl h
  · have h := h.2 q
    refine dx_bipush (v := (-2)) dMM_state_84 (by decide) ?_
    exact dx_ret dMM_state_86 rfl rfl h
set_option maxRecDepth 100000 in
set_option maxHeartbeats 4000000 in
theorem r_MM_initial {E : dx_E} {d : Nat} {a1 : Int32} {σ : dx_V} {po : dx_P} (h : (¬ (σ 0 17) = 0 → po (some 0) σ) ∧ ((σ 0 17) = 0 → dx_ci (m_MM_is E d a1 σ) (fun x2 σ1 => (x2 = 0 → po (some 0) σ1) ∧ (¬ x2 = 0 → vp_in a1 16 ∧ (vp_in (σ1 1 a1.toNatClampNeg) 16 ∧ (((σ1 2 (σ1 1 a1.toNatClampNeg).toNatClampNeg) = 1 → vp_in a1 16 ∧ (vp_in (σ1 1 a1.toNatClampNeg) 16 ∧ (po (some 1) (dx_u σ1 3 (σ1 1 a1.toNatClampNeg).toNatClampNeg a1)))) ∧ (¬ (σ1 2 (σ1 1 a1.toNatClampNeg).toNatClampNeg) = 1 → po (some 0) σ1))))))) : m_MM_initial E (d + 1) a1 σ po := by
  refine dx_entry (by decide) (Nat.le_of_ble_eq_true rfl) ?_
  show dx_G tM E (d + 1) RMM cMM_initial 2 (some .boolean) po 0 [some (.inr 0), some (.inl a1)] [] σ
  refine dx_aload_n dMM_initial_0 rfl ?_
  refine dx_geti dMM_initial_1 flMM_97 rfl rfl ?_
  refine dx_if_ne 30 dMM_initial_4 (by decide) (fun q => ?_) (fun q => ?_)
  · have h := h.1 q
    refine dx_iconst (v := 0) dMM_initial_30 (by decide) ?_
    exact dx_ret dMM_initial_31 rfl rfl h
  · have h := h.2 q
    refine dx_aload_n dMM_initial_7 rfl ?_
    refine dx_iload_n dMM_initial_8 rfl ?_
    obtain ⟨pp, hm, hk⟩ := h
    refine dx_callvi [.inl a1] [] dMM_initial_9 cvMM_100 rfl (Nat.le_of_ble_eq_true rfl) rfl hm (fun x2 σ1 hp => ?_)
    have h := hk x2 σ1 hp
    refine dx_if_eq 30 dMM_initial_12 (by decide) (fun q => ?_) (fun q => ?_)
    · have h := h.1 q
      refine dx_iconst (v := 0) dMM_initial_30 (by decide) ?_
      exact dx_ret dMM_initial_31 rfl rfl h
    · have h := h.2 q
      refine dx_aload_n dMM_initial_15 rfl ?_
      refine dx_getr dMM_initial_16 flMM_13 rfl rfl ?_
      refine dx_aload_n dMM_initial_19 rfl ?_
      refine dx_getr dMM_initial_20 flMM_7 rfl rfl ?_
      refine dx_iload_n dMM_initial_23 rfl ?_
      obtain ⟨hi, h⟩ := h
      refine dx_iaload dMM_initial_24 rfl hi ?_
      obtain ⟨hi, h⟩ := h
      refine dx_iaload dMM_initial_25 rfl hi ?_
      refine dx_iconst (v := 1) dMM_initial_26 (by decide) ?_
      refine dx_icmp_eq 32 dMM_initial_27 (by decide) (fun q => ?_) (fun q => ?_)
      · have h := h.1 q
        refine dx_aload_n dMM_initial_32 rfl ?_
        refine dx_getr dMM_initial_33 flMM_16 rfl rfl ?_
        refine dx_aload_n dMM_initial_36 rfl ?_
        refine dx_getr dMM_initial_37 flMM_7 rfl rfl ?_
        refine dx_iload_n dMM_initial_40 rfl ?_
        obtain ⟨hi, h⟩ := h
        refine dx_iaload dMM_initial_41 rfl hi ?_
        refine dx_iload_n dMM_initial_42 rfl ?_
        obtain ⟨hi, h⟩ := h
        refine dx_iastore dMM_initial_43 rfl hi ?_
        refine dx_iconst (v := 1) dMM_initial_44 (by decide) ?_
        exact dx_ret dMM_initial_45 rfl rfl h
      · have h := h.2 q
        refine dx_iconst (v := 0) dMM_initial_30 (by decide) ?_
        exact dx_ret dMM_initial_31 rfl rfl h
def g_MM_transition_10 (E : dx_E) (d : Nat) (po : dx_P) (v1 v2 v3 : Int32) (σ : dx_V) : Prop := dx_G tM E d RMM cMM_transition 6 (some .int) po 10 [some (.inr 0), some (.inl v1), some (.inl v2), some (.inl v3), none, none] [] σ
def g_MM_transition_33 (E : dx_E) (d : Nat) (po : dx_P) (v1 v2 v3 : Int32) (σ : dx_V) : Prop := dx_G tM E d RMM cMM_transition 6 (some .int) po 33 [some (.inr 0), some (.inl v1), some (.inl v2), some (.inl v3), none, none] [] σ
def g_MM_transition_38 (E : dx_E) (d : Nat) (po : dx_P) (v1 v2 v3 w0 : Int32) (σ : dx_V) : Prop := dx_G tM E d RMM cMM_transition 6 (some .int) po 38 [some (.inr 0), some (.inl v1), some (.inl v2), some (.inl v3), none, none] [.inl w0] σ
def g_MM_transition_58 (E : dx_E) (d : Nat) (po : dx_P) (v1 v2 v3 v4 : Int32) (σ : dx_V) : Prop := dx_G tM E d RMM cMM_transition 6 (some .int) po 58 [some (.inr 0), some (.inl v1), some (.inl v2), some (.inl v3), some (.inl v4), none] [] σ
def g_MM_transition_63 (E : dx_E) (d : Nat) (po : dx_P) (v1 v2 v3 v4 w0 : Int32) (σ : dx_V) : Prop := dx_G tM E d RMM cMM_transition 6 (some .int) po 63 [some (.inr 0), some (.inl v1), some (.inl v2), some (.inl v3), some (.inl v4), none] [.inl w0] σ
set_option maxRecDepth 100000 in
set_option maxHeartbeats 4000000 in
theorem r_MM_transition {E : dx_E} {d : Nat} {a1 a2 a3 : Int32} {σ : dx_V} {po : dx_P} (h : (a2 < 0 → g_MM_transition_10 E (d + 1) po a1 a2 a3 σ) ∧ (¬ a2 < 0 → (a2 ≤ 20 → g_MM_transition_33 E (d + 1) po a1 a2 a3 σ) ∧ (¬ a2 ≤ 20 → g_MM_transition_10 E (d + 1) po a1 a2 a3 σ))) : m_MM_transition E (d + 1) a1 a2 a3 σ po := by
  refine dx_entry (by decide) (Nat.le_of_ble_eq_true rfl) ?_
  show dx_G tM E (d + 1) RMM cMM_transition 6 (some .int) po 0 [some (.inr 0), some (.inl a1), some (.inl a2), some (.inl a3), none, none] [] σ
  refine dx_iload_n dMM_transition_0 rfl ?_
  refine dx_if_lt 10 dMM_transition_1 (by decide) (fun q => ?_) (fun q => ?_)
  · have h := h.1 q
    exact dx_less (L' := [some (.inr 0), some (.inl a1), some (.inl a2), some (.inl a3), none, none]) ⟨rfl, rfl, rfl, rfl, trivial⟩ h
  · have h := h.2 q
    refine dx_iload_n dMM_transition_4 rfl ?_
    refine dx_bipush (v := 20) dMM_transition_5 (by decide) ?_
    refine dx_icmp_le 33 dMM_transition_7 (by decide) (fun q => ?_) (fun q => ?_)
    · have h := h.1 q
      exact dx_less (L' := [some (.inr 0), some (.inl a1), some (.inl a2), some (.inl a3), none, none]) ⟨rfl, rfl, rfl, rfl, trivial⟩ h
    · have h := h.2 q
      exact dx_less (L' := [some (.inr 0), some (.inl a1), some (.inl a2), some (.inl a3), none, none]) ⟨rfl, rfl, rfl, rfl, trivial⟩ h
set_option maxRecDepth 100000 in
set_option maxHeartbeats 4000000 in
theorem r_MM_transition_10 {E : dx_E} {d : Nat} {po : dx_P} {v1 v2 v3 : Int32} {σ : dx_V} (h : (v2 ≤ 100 → g_MM_transition_38 E (d + 1) po v1 v2 v3 0 σ) ∧ (¬ v2 ≤ 100 → (115 < v2 → g_MM_transition_38 E (d + 1) po v1 v2 v3 0 σ) ∧ (¬ 115 < v2 → dx_ci (m_MM_is E d (v2 - 100) σ) (fun x2 σ1 => (x2 = 0 → g_MM_transition_38 E (d + 1) po v1 v2 v3 0 σ1) ∧ (¬ x2 = 0 → g_MM_transition_33 E (d + 1) po v1 v2 v3 σ1))))) : g_MM_transition_10 E (d + 1) po v1 v2 v3 σ := by
  show dx_G tM E (d + 1) RMM cMM_transition 6 (some .int) po 10 [some (.inr 0), some (.inl v1), some (.inl v2), some (.inl v3), none, none] [] σ
  refine dx_iload_n dMM_transition_10 rfl ?_
  refine dx_bipush (v := 100) dMM_transition_11 (by decide) ?_
  refine dx_icmp_le 37 dMM_transition_13 (by decide) (fun q => ?_) (fun q => ?_)
  · have h := h.1 q
    refine dx_iconst (v := 0) dMM_transition_37 (by decide) ?_
    exact dx_less (L' := [some (.inr 0), some (.inl v1), some (.inl v2), some (.inl v3), none, none]) ⟨rfl, rfl, rfl, rfl, trivial⟩ h
  · have h := h.2 q
    refine dx_iload_n dMM_transition_16 rfl ?_
    refine dx_bipush (v := 115) dMM_transition_17 (by decide) ?_
    refine dx_icmp_gt 37 dMM_transition_19 (by decide) (fun q => ?_) (fun q => ?_)
    · have h := h.1 q
      refine dx_iconst (v := 0) dMM_transition_37 (by decide) ?_
      exact dx_less (L' := [some (.inr 0), some (.inl v1), some (.inl v2), some (.inl v3), none, none]) ⟨rfl, rfl, rfl, rfl, trivial⟩ h
    · have h := h.2 q
      refine dx_aload_n dMM_transition_22 rfl ?_
      refine dx_iload_n dMM_transition_23 rfl ?_
      refine dx_bipush (v := 100) dMM_transition_24 (by decide) ?_
      refine dx_isub dMM_transition_26 ?_
      obtain ⟨pp, hm, hk⟩ := h
      refine dx_callvi [.inl (v2 - 100)] [] dMM_transition_27 cvMM_100 rfl (Nat.le_of_ble_eq_true rfl) rfl hm (fun x2 σ1 hp => ?_)
      have h := hk x2 σ1 hp
      refine dx_if_eq 37 dMM_transition_30 (by decide) (fun q => ?_) (fun q => ?_)
      · have h := h.1 q
        refine dx_iconst (v := 0) dMM_transition_37 (by decide) ?_
        exact dx_less (L' := [some (.inr 0), some (.inl v1), some (.inl v2), some (.inl v3), none, none]) ⟨rfl, rfl, rfl, rfl, trivial⟩ h
      · have h := h.2 q
        exact dx_less (L' := [some (.inr 0), some (.inl v1), some (.inl v2), some (.inl v3), none, none]) ⟨rfl, rfl, rfl, rfl, trivial⟩ h
set_option maxRecDepth 100000 in
set_option maxHeartbeats 4000000 in
theorem r_MM_transition_33 {E : dx_E} {d : Nat} {po : dx_P} {v1 v2 v3 : Int32} {σ : dx_V} (h : g_MM_transition_38 E (d + 1) po v1 v2 v3 1 σ) : g_MM_transition_33 E (d + 1) po v1 v2 v3 σ := by
  show dx_G tM E (d + 1) RMM cMM_transition 6 (some .int) po 33 [some (.inr 0), some (.inl v1), some (.inl v2), some (.inl v3), none, none] [] σ
  refine dx_iconst (v := 1) dMM_transition_33 (by decide) ?_
  refine dx_goto 38 dMM_transition_34 (by decide) ?_
  exact dx_less (L' := [some (.inr 0), some (.inl v1), some (.inl v2), some (.inl v3), none, none]) ⟨rfl, rfl, rfl, rfl, trivial⟩ h
set_option maxRecDepth 100000 in
set_option maxHeartbeats 4000000 in
theorem r_MM_transition_38 {E : dx_E} {d : Nat} {po : dx_P} {v1 v2 v3 w0 : Int32} {σ : dx_V} (h : (v3 = (-1) → g_MM_transition_58 E (d + 1) po v1 v2 v3 w0 σ) ∧ (¬ v3 = (-1) → (v3 < 1 → g_MM_transition_63 E (d + 1) po v1 v2 v3 w0 0 σ) ∧ (¬ v3 < 1 → ((σ 0 0) < v3 → g_MM_transition_63 E (d + 1) po v1 v2 v3 w0 0 σ) ∧ (¬ (σ 0 0) < v3 → g_MM_transition_58 E (d + 1) po v1 v2 v3 w0 σ)))) : g_MM_transition_38 E (d + 1) po v1 v2 v3 w0 σ := by
  show dx_G tM E (d + 1) RMM cMM_transition 6 (some .int) po 38 [some (.inr 0), some (.inl v1), some (.inl v2), some (.inl v3), none, none] [.inl w0] σ
  refine dx_istore (L' := [some (.inr 0), some (.inl v1), some (.inl v2), some (.inl v3), some (.inl w0), none]) dMM_transition_38 (Nat.le_of_ble_eq_true rfl) rfl ?_
  refine dx_iload_n dMM_transition_40 rfl ?_
  refine dx_iconst (v := (-1)) dMM_transition_41 (by decide) ?_
  refine dx_icmp_eq 58 dMM_transition_42 (by decide) (fun q => ?_) (fun q => ?_)
  · have h := h.1 q
    exact dx_less (L' := [some (.inr 0), some (.inl v1), some (.inl v2), some (.inl v3), some (.inl w0), none]) ⟨rfl, rfl, rfl, rfl, rfl, trivial⟩ h
  · have h := h.2 q
    refine dx_iload_n dMM_transition_45 rfl ?_
    refine dx_iconst (v := 1) dMM_transition_46 (by decide) ?_
    refine dx_icmp_lt 62 dMM_transition_47 (by decide) (fun q => ?_) (fun q => ?_)
    · have h := h.1 q
      refine dx_iconst (v := 0) dMM_transition_62 (by decide) ?_
      exact dx_less (L' := [some (.inr 0), some (.inl v1), some (.inl v2), some (.inl v3), some (.inl w0), none]) ⟨rfl, rfl, rfl, rfl, rfl, trivial⟩ h
    · have h := h.2 q
      refine dx_iload_n dMM_transition_50 rfl ?_
      refine dx_aload_n dMM_transition_51 rfl ?_
      refine dx_geti dMM_transition_52 flMM_89 rfl rfl ?_
      refine dx_icmp_gt 62 dMM_transition_55 (by decide) (fun q => ?_) (fun q => ?_)
      · have h := h.1 q
        refine dx_iconst (v := 0) dMM_transition_62 (by decide) ?_
        exact dx_less (L' := [some (.inr 0), some (.inl v1), some (.inl v2), some (.inl v3), some (.inl w0), none]) ⟨rfl, rfl, rfl, rfl, rfl, trivial⟩ h
      · have h := h.2 q
        exact dx_less (L' := [some (.inr 0), some (.inl v1), some (.inl v2), some (.inl v3), some (.inl w0), none]) ⟨rfl, rfl, rfl, rfl, rfl, trivial⟩ h
set_option maxRecDepth 100000 in
set_option maxHeartbeats 4000000 in
theorem r_MM_transition_58 {E : dx_E} {d : Nat} {po : dx_P} {v1 v2 v3 v4 : Int32} {σ : dx_V} (h : g_MM_transition_63 E (d + 1) po v1 v2 v3 v4 1 σ) : g_MM_transition_58 E (d + 1) po v1 v2 v3 v4 σ := by
  show dx_G tM E (d + 1) RMM cMM_transition 6 (some .int) po 58 [some (.inr 0), some (.inl v1), some (.inl v2), some (.inl v3), some (.inl v4), none] [] σ
  refine dx_iconst (v := 1) dMM_transition_58 (by decide) ?_
  refine dx_goto 63 dMM_transition_59 (by decide) ?_
  exact dx_less (L' := [some (.inr 0), some (.inl v1), some (.inl v2), some (.inl v3), some (.inl v4), none]) ⟨rfl, rfl, rfl, rfl, rfl, trivial⟩ h
set_option maxRecDepth 100000 in
set_option maxHeartbeats 4000000 in
theorem r_MM_transition_63 {E : dx_E} {d : Nat} {po : dx_P} {v1 v2 v3 v4 w0 : Int32} {σ : dx_V} (h : (¬ (σ 0 17) = 0 → po (some (-1)) σ) ∧ ((σ 0 17) = 0 → dx_ci (m_MM_is E d v1 σ) (fun x2 σ1 => (x2 = 0 → po (some (-1)) σ1) ∧ (¬ x2 = 0 → vp_in v1 16 ∧ (((σ1 2 v1.toNatClampNeg) = 3 → po (some (-1)) σ1) ∧ (¬ (σ1 2 v1.toNatClampNeg) = 3 → (v4 = 0 → po (some (-1)) σ1) ∧ (¬ v4 = 0 → (¬ w0 = 0 → (¬ (σ1 0 4) = 20 → vp_in (σ1 0 4) 20 ∧ (vp_in (σ1 0 4) 20 ∧ (vp_in (σ1 0 4) 20 ∧ (po (some (((σ1 0 4) + 1) - 1)) (dx_u (dx_u (dx_u (dx_u σ1 4 (σ1 0 4).toNatClampNeg v1) 5 (σ1 0 4).toNatClampNeg v2) 6 (σ1 0 4).toNatClampNeg v3) 0 4 ((σ1 0 4) + 1)))))) ∧ ((σ1 0 4) = 20 → po (some (-2)) σ1)) ∧ (w0 = 0 → po (some (-1)) σ1)))))))) : g_MM_transition_63 E (d + 1) po v1 v2 v3 v4 w0 σ := by
  show dx_G tM E (d + 1) RMM cMM_transition 6 (some .int) po 63 [some (.inr 0), some (.inl v1), some (.inl v2), some (.inl v3), some (.inl v4), none] [.inl w0] σ
  refine dx_istore (L' := [some (.inr 0), some (.inl v1), some (.inl v2), some (.inl v3), some (.inl v4), some (.inl w0)]) dMM_transition_63 (Nat.le_of_ble_eq_true rfl) rfl ?_
  refine dx_aload_n dMM_transition_65 rfl ?_
  refine dx_geti dMM_transition_66 flMM_97 rfl rfl ?_
  refine dx_if_ne 100 dMM_transition_69 (by decide) (fun q => ?_) (fun q => ?_)
  · have h := h.1 q
    refine dx_iconst (v := (-1)) dMM_transition_100 (by decide) ?_
    exact dx_ret dMM_transition_101 rfl rfl h
  · have h := h.2 q
    refine dx_aload_n dMM_transition_72 rfl ?_
    refine dx_iload_n dMM_transition_73 rfl ?_
    obtain ⟨pp, hm, hk⟩ := h
    refine dx_callvi [.inl v1] [] dMM_transition_74 cvMM_100 rfl (Nat.le_of_ble_eq_true rfl) rfl hm (fun x2 σ1 hp => ?_)
    have h := hk x2 σ1 hp
    refine dx_if_eq 100 dMM_transition_77 (by decide) (fun q => ?_) (fun q => ?_)
    · have h := h.1 q
      refine dx_iconst (v := (-1)) dMM_transition_100 (by decide) ?_
      exact dx_ret dMM_transition_101 rfl rfl h
    · have h := h.2 q
      refine dx_aload_n dMM_transition_80 rfl ?_
      refine dx_getr dMM_transition_81 flMM_13 rfl rfl ?_
      refine dx_iload_n dMM_transition_84 rfl ?_
      obtain ⟨hi, h⟩ := h
      refine dx_iaload dMM_transition_85 rfl hi ?_
      refine dx_iconst (v := 3) dMM_transition_86 (by decide) ?_
      refine dx_icmp_eq 100 dMM_transition_87 (by decide) (fun q => ?_) (fun q => ?_)
      · have h := h.1 q
        refine dx_iconst (v := (-1)) dMM_transition_100 (by decide) ?_
        exact dx_ret dMM_transition_101 rfl rfl h
      · have h := h.2 q
        refine dx_iload dMM_transition_90 rfl ?_
        refine dx_if_eq 100 dMM_transition_92 (by decide) (fun q => ?_) (fun q => ?_)
        · have h := h.1 q
          refine dx_iconst (v := (-1)) dMM_transition_100 (by decide) ?_
          exact dx_ret dMM_transition_101 rfl rfl h
        · have h := h.2 q
          refine dx_iload dMM_transition_95 rfl ?_
          refine dx_if_ne 102 dMM_transition_97 (by decide) (fun q => ?_) (fun q => ?_)
          · have h := h.1 q
            refine dx_aload_n dMM_transition_102 rfl ?_
            refine dx_geti dMM_transition_103 flMM_104 rfl rfl ?_
            refine dx_bipush (v := 20) dMM_transition_106 (by decide) ?_
            refine dx_icmp_ne 114 dMM_transition_108 (by decide) (fun q => ?_) (fun q => ?_)
            · have h := h.1 q
              refine dx_aload_n dMM_transition_114 rfl ?_
              refine dx_getr dMM_transition_115 flMM_19 rfl rfl ?_
              refine dx_aload_n dMM_transition_118 rfl ?_
              refine dx_geti dMM_transition_119 flMM_104 rfl rfl ?_
              refine dx_iload_n dMM_transition_122 rfl ?_
              obtain ⟨hi, h⟩ := h
              refine dx_iastore dMM_transition_123 rfl hi ?_
              refine dx_aload_n dMM_transition_124 rfl ?_
              refine dx_getr dMM_transition_125 flMM_22 rfl rfl ?_
              refine dx_aload_n dMM_transition_128 rfl ?_
              refine dx_geti dMM_transition_129 flMM_104 rfl rfl ?_
              refine dx_iload_n dMM_transition_132 rfl ?_
              obtain ⟨hi, h⟩ := h
              refine dx_iastore dMM_transition_133 rfl hi ?_
              refine dx_aload_n dMM_transition_134 rfl ?_
              refine dx_getr dMM_transition_135 flMM_25 rfl rfl ?_
              refine dx_aload_n dMM_transition_138 rfl ?_
              refine dx_geti dMM_transition_139 flMM_104 rfl rfl ?_
              refine dx_iload_n dMM_transition_142 rfl ?_
              obtain ⟨hi, h⟩ := h
              refine dx_iastore dMM_transition_143 rfl hi ?_
              refine dx_aload_n dMM_transition_144 rfl ?_
              refine dx_dup dMM_transition_145 ?_
              refine dx_geti dMM_transition_146 flMM_104 rfl rfl ?_
              refine dx_iconst (v := 1) dMM_transition_149 (by decide) ?_
              refine dx_iadd dMM_transition_150 ?_
              refine dx_put dMM_transition_151 fpMM_104 rfl rfl (Or.inl rfl) ?_
              refine dx_aload_n dMM_transition_154 rfl ?_
              refine dx_geti dMM_transition_155 flMM_104 rfl rfl ?_
              refine dx_iconst (v := 1) dMM_transition_158 (by decide) ?_
              refine dx_isub dMM_transition_159 ?_
              exact dx_ret dMM_transition_160 rfl rfl h
            · have h := h.2 q
              refine dx_bipush (v := (-2)) dMM_transition_111 (by decide) ?_
              exact dx_ret dMM_transition_113 rfl rfl h
          · have h := h.2 q
            refine dx_iconst (v := (-1)) dMM_transition_100 (by decide) ?_
            exact dx_ret dMM_transition_101 rfl rfl h
def g_MM_guard_62 (E : dx_E) (d : Nat) (po : dx_P) (v1 v2 v3 v4 : Int32) (σ : dx_V) : Prop := dx_G tM E d RMM cMM_guard 5 (some .boolean) po 62 [some (.inr 0), some (.inl v1), some (.inl v2), some (.inl v3), some (.inl v4)] [] σ
set_option maxRecDepth 100000 in
set_option maxHeartbeats 4000000 in
theorem r_MM_guard {E : dx_E} {d : Nat} {a1 a2 a3 a4 : Int32} {σ : dx_V} {po : dx_P} (h : (¬ (σ 0 17) = 0 → po (some 0) σ) ∧ ((σ 0 17) = 0 → (a1 < 0 → po (some 0) σ) ∧ (¬ a1 < 0 → ((σ 0 4) ≤ a1 → po (some 0) σ) ∧ (¬ (σ 0 4) ≤ a1 → (a3 < 0 → po (some 0) σ) ∧ (¬ a3 < 0 → (a3 ≤ 3 → (¬ a3 = 3 → (a2 < 0 → po (some 0) σ) ∧ (¬ a2 < 0 → (a2 ≤ 3 → g_MM_guard_62 E (d + 1) po a1 a2 a3 a4 σ) ∧ (¬ a2 ≤ 3 → po (some 0) σ))) ∧ (a3 = 3 → (¬ a2 = 0 → po (some 0) σ) ∧ (a2 = 0 → dx_ci (m_MM_is E d a4 σ) (fun x2 σ1 => (¬ x2 = 0 → g_MM_guard_62 E (d + 1) po a1 a2 a3 a4 σ1) ∧ (x2 = 0 → po (some 0) σ1))))) ∧ (¬ a3 ≤ 3 → po (some 0) σ)))))) : m_MM_guard E (d + 1) a1 a2 a3 a4 σ po := by
  refine dx_entry (by decide) (Nat.le_of_ble_eq_true rfl) ?_
  show dx_G tM E (d + 1) RMM cMM_guard 5 (some .boolean) po 0 [some (.inr 0), some (.inl a1), some (.inl a2), some (.inl a3), some (.inl a4)] [] σ
  refine dx_aload_n dMM_guard_0 rfl ?_
  refine dx_geti dMM_guard_1 flMM_97 rfl rfl ?_
  refine dx_if_ne 28 dMM_guard_4 (by decide) (fun q => ?_) (fun q => ?_)
  · have h := h.1 q
    refine dx_iconst (v := 0) dMM_guard_28 (by decide) ?_
    exact dx_ret dMM_guard_29 rfl rfl h
  · have h := h.2 q
    refine dx_iload_n dMM_guard_7 rfl ?_
    refine dx_if_lt 28 dMM_guard_8 (by decide) (fun q => ?_) (fun q => ?_)
    · have h := h.1 q
      refine dx_iconst (v := 0) dMM_guard_28 (by decide) ?_
      exact dx_ret dMM_guard_29 rfl rfl h
    · have h := h.2 q
      refine dx_iload_n dMM_guard_11 rfl ?_
      refine dx_aload_n dMM_guard_12 rfl ?_
      refine dx_geti dMM_guard_13 flMM_104 rfl rfl ?_
      refine dx_icmp_ge 28 dMM_guard_16 (by decide) (fun q => ?_) (fun q => ?_)
      · have h := h.1 q
        refine dx_iconst (v := 0) dMM_guard_28 (by decide) ?_
        exact dx_ret dMM_guard_29 rfl rfl h
      · have h := h.2 q
        refine dx_iload_n dMM_guard_19 rfl ?_
        refine dx_if_lt 28 dMM_guard_20 (by decide) (fun q => ?_) (fun q => ?_)
        · have h := h.1 q
          refine dx_iconst (v := 0) dMM_guard_28 (by decide) ?_
          exact dx_ret dMM_guard_29 rfl rfl h
        · have h := h.2 q
          refine dx_iload_n dMM_guard_23 rfl ?_
          refine dx_iconst (v := 3) dMM_guard_24 (by decide) ?_
          refine dx_icmp_le 30 dMM_guard_25 (by decide) (fun q => ?_) (fun q => ?_)
          · have h := h.1 q
            refine dx_iload_n dMM_guard_30 rfl ?_
            refine dx_iconst (v := 3) dMM_guard_31 (by decide) ?_
            refine dx_icmp_ne 51 dMM_guard_32 (by decide) (fun q => ?_) (fun q => ?_)
            · have h := h.1 q
              refine dx_iload_n dMM_guard_51 rfl ?_
              refine dx_if_lt 60 dMM_guard_52 (by decide) (fun q => ?_) (fun q => ?_)
              · have h := h.1 q
                refine dx_iconst (v := 0) dMM_guard_60 (by decide) ?_
                exact dx_ret dMM_guard_61 rfl rfl h
              · have h := h.2 q
                refine dx_iload_n dMM_guard_55 rfl ?_
                refine dx_iconst (v := 3) dMM_guard_56 (by decide) ?_
                refine dx_icmp_le 62 dMM_guard_57 (by decide) (fun q => ?_) (fun q => ?_)
                · have h := h.1 q
                  exact dx_less (L' := [some (.inr 0), some (.inl a1), some (.inl a2), some (.inl a3), some (.inl a4)]) ⟨rfl, rfl, rfl, rfl, rfl, trivial⟩ h
                · have h := h.2 q
                  refine dx_iconst (v := 0) dMM_guard_60 (by decide) ?_
                  exact dx_ret dMM_guard_61 rfl rfl h
            · have h := h.2 q
              refine dx_iload_n dMM_guard_35 rfl ?_
              refine dx_if_ne 60 dMM_guard_36 (by decide) (fun q => ?_) (fun q => ?_)
              · have h := h.1 q
                refine dx_iconst (v := 0) dMM_guard_60 (by decide) ?_
                exact dx_ret dMM_guard_61 rfl rfl h
              · have h := h.2 q
                refine dx_aload_n dMM_guard_39 rfl ?_
                refine dx_iload dMM_guard_40 rfl ?_
                obtain ⟨pp, hm, hk⟩ := h
                refine dx_callvi [.inl a4] [] dMM_guard_42 cvMM_100 rfl (Nat.le_of_ble_eq_true rfl) rfl hm (fun x2 σ1 hp => ?_)
                have h := hk x2 σ1 hp
                refine dx_if_ne 62 dMM_guard_45 (by decide) (fun q => ?_) (fun q => ?_)
                · have h := h.1 q
                  exact dx_less (L' := [some (.inr 0), some (.inl a1), some (.inl a2), some (.inl a3), some (.inl a4)]) ⟨rfl, rfl, rfl, rfl, rfl, trivial⟩ h
                · have h := h.2 q
                  refine dx_goto 60 dMM_guard_48 (by decide) ?_
                  refine dx_iconst (v := 0) dMM_guard_60 (by decide) ?_
                  exact dx_ret dMM_guard_61 rfl rfl h
          · have h := h.2 q
            refine dx_iconst (v := 0) dMM_guard_28 (by decide) ?_
            exact dx_ret dMM_guard_29 rfl rfl h
set_option maxRecDepth 100000 in
set_option maxHeartbeats 4000000 in
theorem r_MM_guard_62 {E : dx_E} {d : Nat} {po : dx_P} {v1 v2 v3 v4 : Int32} {σ : dx_V} (h : vp_in v1 20 ∧ (vp_in v1 20 ∧ (vp_in v1 20 ∧ (vp_in v1 20 ∧ (po (some 1) (dx_u (dx_u (dx_u (dx_u σ 7 v1.toNatClampNeg (vp_nar .boolean 1)) 8 v1.toNatClampNeg v2) 9 v1.toNatClampNeg v3) 10 v1.toNatClampNeg v4)))))) : g_MM_guard_62 E (d + 1) po v1 v2 v3 v4 σ := by
  show dx_G tM E (d + 1) RMM cMM_guard 5 (some .boolean) po 62 [some (.inr 0), some (.inl v1), some (.inl v2), some (.inl v3), some (.inl v4)] [] σ
  refine dx_aload_n dMM_guard_62 rfl ?_
  refine dx_getr dMM_guard_63 flMM_28 rfl rfl ?_
  refine dx_iload_n dMM_guard_66 rfl ?_
  refine dx_iconst (v := 1) dMM_guard_67 (by decide) ?_
  obtain ⟨hi, h⟩ := h
  refine dx_bastore dMM_guard_68 rfl hi ?_
  refine dx_aload_n dMM_guard_69 rfl ?_
  refine dx_getr dMM_guard_70 flMM_32 rfl rfl ?_
  refine dx_iload_n dMM_guard_73 rfl ?_
  refine dx_iload_n dMM_guard_74 rfl ?_
  obtain ⟨hi, h⟩ := h
  refine dx_iastore dMM_guard_75 rfl hi ?_
  refine dx_aload_n dMM_guard_76 rfl ?_
  refine dx_getr dMM_guard_77 flMM_35 rfl rfl ?_
  refine dx_iload_n dMM_guard_80 rfl ?_
  refine dx_iload_n dMM_guard_81 rfl ?_
  obtain ⟨hi, h⟩ := h
  refine dx_iastore dMM_guard_82 rfl hi ?_
  refine dx_aload_n dMM_guard_83 rfl ?_
  refine dx_getr dMM_guard_84 flMM_38 rfl rfl ?_
  refine dx_iload_n dMM_guard_87 rfl ?_
  refine dx_iload dMM_guard_88 rfl ?_
  obtain ⟨hi, h⟩ := h
  refine dx_iastore dMM_guard_90 rfl hi ?_
  refine dx_iconst (v := 1) dMM_guard_91 (by decide) ?_
  exact dx_ret dMM_guard_92 rfl rfl h
def g_MM_action_12 (E : dx_E) (d : Nat) (po : dx_P) (v1 v2 v3 v4 : Int32) (σ : dx_V) : Prop := dx_G tM E d RMM cMM_action 7 (some .boolean) po 12 [some (.inr 0), some (.inl v1), some (.inl v2), some (.inl v3), some (.inl v4), none, none] [] σ
def g_MM_action_36 (E : dx_E) (d : Nat) (po : dx_P) (v1 v2 v3 v4 : Int32) (σ : dx_V) : Prop := dx_G tM E d RMM cMM_action 7 (some .boolean) po 36 [some (.inr 0), some (.inl v1), some (.inl v2), some (.inl v3), some (.inl v4), none, none] [] σ
def g_MM_action_62 (E : dx_E) (d : Nat) (po : dx_P) (v1 v2 v3 v4 : Int32) (σ : dx_V) : Prop := dx_G tM E d RMM cMM_action 7 (some .boolean) po 62 [some (.inr 0), some (.inl v1), some (.inl v2), some (.inl v3), some (.inl v4), none, none] [] σ
def g_MM_action_67 (E : dx_E) (d : Nat) (po : dx_P) (v1 v2 v3 v4 w0 : Int32) (σ : dx_V) : Prop := dx_G tM E d RMM cMM_action 7 (some .boolean) po 67 [some (.inr 0), some (.inl v1), some (.inl v2), some (.inl v3), some (.inl v4), none, none] [.inl w0] σ
def g_MM_action_78 (E : dx_E) (d : Nat) (po : dx_P) (v1 v2 v3 v4 v5 : Int32) (σ : dx_V) : Prop := dx_G tM E d RMM cMM_action 7 (some .boolean) po 78 [some (.inr 0), some (.inl v1), some (.inl v2), some (.inl v3), some (.inl v4), some (.inl v5), none] [] σ
def g_MM_action_91 (E : dx_E) (d : Nat) (po : dx_P) (v1 v2 v3 v4 v5 : Int32) (σ : dx_V) : Prop := dx_G tM E d RMM cMM_action 7 (some .boolean) po 91 [some (.inr 0), some (.inl v1), some (.inl v2), some (.inl v3), some (.inl v4), some (.inl v5), none] [] σ
def g_MM_action_124 (E : dx_E) (d : Nat) (po : dx_P) (v1 v2 v3 v4 v5 w0 w1 : Int32) (σ : dx_V) : Prop := dx_G tM E d RMM cMM_action 7 (some .boolean) po 124 [some (.inr 0), some (.inl v1), some (.inl v2), some (.inl v3), some (.inl v4), some (.inl v5), none] [.inl w1, .inl w0] σ
def g_MM_action_132 (E : dx_E) (d : Nat) (po : dx_P) (v1 v2 v3 v4 v5 w0 : Int32) (σ : dx_V) : Prop := dx_G tM E d RMM cMM_action 7 (some .boolean) po 132 [some (.inr 0), some (.inl v1), some (.inl v2), some (.inl v3), some (.inl v4), some (.inl v5), none] [.inl w0] σ
set_option maxRecDepth 100000 in
set_option maxHeartbeats 4000000 in
theorem r_MM_action {E : dx_E} {d : Nat} {a1 a2 a3 a4 : Int32} {σ : dx_V} {po : dx_P} (h : (a1 < 0 → g_MM_action_12 E (d + 1) po a1 a2 a3 a4 σ) ∧ (¬ a1 < 0 → (a1 < (σ 0 4) → g_MM_action_62 E (d + 1) po a1 a2 a3 a4 σ) ∧ (¬ a1 < (σ 0 4) → g_MM_action_12 E (d + 1) po a1 a2 a3 a4 σ))) : m_MM_action E (d + 1) a1 a2 a3 a4 σ po := by
  refine dx_entry (by decide) (Nat.le_of_ble_eq_true rfl) ?_
  show dx_G tM E (d + 1) RMM cMM_action 7 (some .boolean) po 0 [some (.inr 0), some (.inl a1), some (.inl a2), some (.inl a3), some (.inl a4), none, none] [] σ
  refine dx_iload_n dMM_action_0 rfl ?_
  refine dx_if_lt 12 dMM_action_1 (by decide) (fun q => ?_) (fun q => ?_)
  · have h := h.1 q
    exact dx_less (L' := [some (.inr 0), some (.inl a1), some (.inl a2), some (.inl a3), some (.inl a4), none, none]) ⟨rfl, rfl, rfl, rfl, rfl, trivial⟩ h
  · have h := h.2 q
    refine dx_iload_n dMM_action_4 rfl ?_
    refine dx_aload_n dMM_action_5 rfl ?_
    refine dx_geti dMM_action_6 flMM_104 rfl rfl ?_
    refine dx_icmp_lt 62 dMM_action_9 (by decide) (fun q => ?_) (fun q => ?_)
    · have h := h.1 q
      exact dx_less (L' := [some (.inr 0), some (.inl a1), some (.inl a2), some (.inl a3), some (.inl a4), none, none]) ⟨rfl, rfl, rfl, rfl, rfl, trivial⟩ h
    · have h := h.2 q
      exact dx_less (L' := [some (.inr 0), some (.inl a1), some (.inl a2), some (.inl a3), some (.inl a4), none, none]) ⟨rfl, rfl, rfl, rfl, rfl, trivial⟩ h
set_option maxRecDepth 100000 in
set_option maxHeartbeats 4000000 in
theorem r_MM_action_12 {E : dx_E} {d : Nat} {po : dx_P} {v1 v2 v3 v4 : Int32} {σ : dx_V} (h : (v1 ≤ 100 → g_MM_action_36 E (d + 1) po v1 v2 v3 v4 σ) ∧ (¬ v1 ≤ 100 → (200 ≤ v1 → g_MM_action_36 E (d + 1) po v1 v2 v3 v4 σ) ∧ (¬ 200 ≤ v1 → dx_ci (m_MM_is E d (v1 - 100) σ) (fun x2 σ1 => (¬ x2 = 0 → g_MM_action_62 E (d + 1) po v1 v2 v3 v4 σ1) ∧ (x2 = 0 → g_MM_action_36 E (d + 1) po v1 v2 v3 v4 σ1))))) : g_MM_action_12 E (d + 1) po v1 v2 v3 v4 σ := by
  show dx_G tM E (d + 1) RMM cMM_action 7 (some .boolean) po 12 [some (.inr 0), some (.inl v1), some (.inl v2), some (.inl v3), some (.inl v4), none, none] [] σ
  refine dx_iload_n dMM_action_12 rfl ?_
  refine dx_bipush (v := 100) dMM_action_13 (by decide) ?_
  refine dx_icmp_le 36 dMM_action_15 (by decide) (fun q => ?_) (fun q => ?_)
  · have h := h.1 q
    exact dx_less (L' := [some (.inr 0), some (.inl v1), some (.inl v2), some (.inl v3), some (.inl v4), none, none]) ⟨rfl, rfl, rfl, rfl, rfl, trivial⟩ h
  · have h := h.2 q
    refine dx_iload_n dMM_action_18 rfl ?_
    refine dx_sipush (v := 200) dMM_action_19 (by decide) ?_
    refine dx_icmp_ge 36 dMM_action_22 (by decide) (fun q => ?_) (fun q => ?_)
    · have h := h.1 q
      exact dx_less (L' := [some (.inr 0), some (.inl v1), some (.inl v2), some (.inl v3), some (.inl v4), none, none]) ⟨rfl, rfl, rfl, rfl, rfl, trivial⟩ h
    · have h := h.2 q
      refine dx_aload_n dMM_action_25 rfl ?_
      refine dx_iload_n dMM_action_26 rfl ?_
      refine dx_bipush (v := 100) dMM_action_27 (by decide) ?_
      refine dx_isub dMM_action_29 ?_
      obtain ⟨pp, hm, hk⟩ := h
      refine dx_callvi [.inl (v1 - 100)] [] dMM_action_30 cvMM_100 rfl (Nat.le_of_ble_eq_true rfl) rfl hm (fun x2 σ1 hp => ?_)
      have h := hk x2 σ1 hp
      refine dx_if_ne 62 dMM_action_33 (by decide) (fun q => ?_) (fun q => ?_)
      · have h := h.1 q
        exact dx_less (L' := [some (.inr 0), some (.inl v1), some (.inl v2), some (.inl v3), some (.inl v4), none, none]) ⟨rfl, rfl, rfl, rfl, rfl, trivial⟩ h
      · have h := h.2 q
        exact dx_less (L' := [some (.inr 0), some (.inl v1), some (.inl v2), some (.inl v3), some (.inl v4), none, none]) ⟨rfl, rfl, rfl, rfl, rfl, trivial⟩ h
set_option maxRecDepth 100000 in
set_option maxHeartbeats 4000000 in
theorem r_MM_action_36 {E : dx_E} {d : Nat} {po : dx_P} {v1 v2 v3 v4 : Int32} {σ : dx_V} (h : (v1 ≤ 200 → g_MM_action_67 E (d + 1) po v1 v2 v3 v4 0 σ) ∧ (¬ v1 ≤ 200 → (300 ≤ v1 → g_MM_action_67 E (d + 1) po v1 v2 v3 v4 0 σ) ∧ (¬ 300 ≤ v1 → dx_ci (m_MM_is E d (v1 - 200) σ) (fun x2 σ1 => (x2 = 0 → g_MM_action_67 E (d + 1) po v1 v2 v3 v4 0 σ1) ∧ (¬ x2 = 0 → g_MM_action_62 E (d + 1) po v1 v2 v3 v4 σ1))))) : g_MM_action_36 E (d + 1) po v1 v2 v3 v4 σ := by
  show dx_G tM E (d + 1) RMM cMM_action 7 (some .boolean) po 36 [some (.inr 0), some (.inl v1), some (.inl v2), some (.inl v3), some (.inl v4), none, none] [] σ
  refine dx_iload_n dMM_action_36 rfl ?_
  refine dx_sipush (v := 200) dMM_action_37 (by decide) ?_
  refine dx_icmp_le 66 dMM_action_40 (by decide) (fun q => ?_) (fun q => ?_)
  · have h := h.1 q
    refine dx_iconst (v := 0) dMM_action_66 (by decide) ?_
    exact dx_less (L' := [some (.inr 0), some (.inl v1), some (.inl v2), some (.inl v3), some (.inl v4), none, none]) ⟨rfl, rfl, rfl, rfl, rfl, trivial⟩ h
  · have h := h.2 q
    refine dx_iload_n dMM_action_43 rfl ?_
    refine dx_sipush (v := 300) dMM_action_44 (by decide) ?_
    refine dx_icmp_ge 66 dMM_action_47 (by decide) (fun q => ?_) (fun q => ?_)
    · have h := h.1 q
      refine dx_iconst (v := 0) dMM_action_66 (by decide) ?_
      exact dx_less (L' := [some (.inr 0), some (.inl v1), some (.inl v2), some (.inl v3), some (.inl v4), none, none]) ⟨rfl, rfl, rfl, rfl, rfl, trivial⟩ h
    · have h := h.2 q
      refine dx_aload_n dMM_action_50 rfl ?_
      refine dx_iload_n dMM_action_51 rfl ?_
      refine dx_sipush (v := 200) dMM_action_52 (by decide) ?_
      refine dx_isub dMM_action_55 ?_
      obtain ⟨pp, hm, hk⟩ := h
      refine dx_callvi [.inl (v1 - 200)] [] dMM_action_56 cvMM_100 rfl (Nat.le_of_ble_eq_true rfl) rfl hm (fun x2 σ1 hp => ?_)
      have h := hk x2 σ1 hp
      refine dx_if_eq 66 dMM_action_59 (by decide) (fun q => ?_) (fun q => ?_)
      · have h := h.1 q
        refine dx_iconst (v := 0) dMM_action_66 (by decide) ?_
        exact dx_less (L' := [some (.inr 0), some (.inl v1), some (.inl v2), some (.inl v3), some (.inl v4), none, none]) ⟨rfl, rfl, rfl, rfl, rfl, trivial⟩ h
      · have h := h.2 q
        exact dx_less (L' := [some (.inr 0), some (.inl v1), some (.inl v2), some (.inl v3), some (.inl v4), none, none]) ⟨rfl, rfl, rfl, rfl, rfl, trivial⟩ h
set_option maxRecDepth 100000 in
set_option maxHeartbeats 4000000 in
theorem r_MM_action_62 {E : dx_E} {d : Nat} {po : dx_P} {v1 v2 v3 v4 : Int32} {σ : dx_V} (h : g_MM_action_67 E (d + 1) po v1 v2 v3 v4 1 σ) : g_MM_action_62 E (d + 1) po v1 v2 v3 v4 σ := by
  show dx_G tM E (d + 1) RMM cMM_action 7 (some .boolean) po 62 [some (.inr 0), some (.inl v1), some (.inl v2), some (.inl v3), some (.inl v4), none, none] [] σ
  refine dx_iconst (v := 1) dMM_action_62 (by decide) ?_
  refine dx_goto 67 dMM_action_63 (by decide) ?_
  exact dx_less (L' := [some (.inr 0), some (.inl v1), some (.inl v2), some (.inl v3), some (.inl v4), none, none]) ⟨rfl, rfl, rfl, rfl, rfl, trivial⟩ h
set_option maxRecDepth 100000 in
set_option maxHeartbeats 4000000 in
theorem r_MM_action_67 {E : dx_E} {d : Nat} {po : dx_P} {v1 v2 v3 v4 w0 : Int32} {σ : dx_V} (h : (v2 = 0 → g_MM_action_78 E (d + 1) po v1 v2 v3 v4 w0 σ) ∧ (¬ v2 = 0 → (¬ v2 = 1 → (v3 < 1 → g_MM_action_132 E (d + 1) po v1 v2 v3 v4 w0 0 σ) ∧ (¬ v3 < 1 → (20 < v3 → g_MM_action_132 E (d + 1) po v1 v2 v3 v4 w0 0 σ) ∧ (¬ 20 < v3 → (v4 < 0 → g_MM_action_132 E (d + 1) po v1 v2 v3 v4 w0 0 σ) ∧ (¬ v4 < 0 → (¬ v2 = 2 → g_MM_action_124 E (d + 1) po v1 v2 v3 v4 w0 v4 50 σ) ∧ (v2 = 2 → g_MM_action_124 E (d + 1) po v1 v2 v3 v4 w0 v4 0 σ))))) ∧ (v2 = 1 → g_MM_action_78 E (d + 1) po v1 v2 v3 v4 w0 σ))) : g_MM_action_67 E (d + 1) po v1 v2 v3 v4 w0 σ := by
  show dx_G tM E (d + 1) RMM cMM_action 7 (some .boolean) po 67 [some (.inr 0), some (.inl v1), some (.inl v2), some (.inl v3), some (.inl v4), none, none] [.inl w0] σ
  refine dx_istore (L' := [some (.inr 0), some (.inl v1), some (.inl v2), some (.inl v3), some (.inl v4), some (.inl w0), none]) dMM_action_67 (Nat.le_of_ble_eq_true rfl) rfl ?_
  refine dx_iload_n dMM_action_69 rfl ?_
  refine dx_if_eq 78 dMM_action_70 (by decide) (fun q => ?_) (fun q => ?_)
  · have h := h.1 q
    exact dx_less (L' := [some (.inr 0), some (.inl v1), some (.inl v2), some (.inl v3), some (.inl v4), some (.inl w0), none]) ⟨rfl, rfl, rfl, rfl, rfl, rfl, trivial⟩ h
  · have h := h.2 q
    refine dx_iload_n dMM_action_73 rfl ?_
    refine dx_iconst (v := 1) dMM_action_74 (by decide) ?_
    refine dx_icmp_ne 95 dMM_action_75 (by decide) (fun q => ?_) (fun q => ?_)
    · have h := h.1 q
      refine dx_iload_n dMM_action_95 rfl ?_
      refine dx_iconst (v := 1) dMM_action_96 (by decide) ?_
      refine dx_icmp_lt 131 dMM_action_97 (by decide) (fun q => ?_) (fun q => ?_)
      · have h := h.1 q
        refine dx_iconst (v := 0) dMM_action_131 (by decide) ?_
        exact dx_less (L' := [some (.inr 0), some (.inl v1), some (.inl v2), some (.inl v3), some (.inl v4), some (.inl w0), none]) ⟨rfl, rfl, rfl, rfl, rfl, rfl, trivial⟩ h
      · have h := h.2 q
        refine dx_iload_n dMM_action_100 rfl ?_
        refine dx_bipush (v := 20) dMM_action_101 (by decide) ?_
        refine dx_icmp_gt 131 dMM_action_103 (by decide) (fun q => ?_) (fun q => ?_)
        · have h := h.1 q
          refine dx_iconst (v := 0) dMM_action_131 (by decide) ?_
          exact dx_less (L' := [some (.inr 0), some (.inl v1), some (.inl v2), some (.inl v3), some (.inl v4), some (.inl w0), none]) ⟨rfl, rfl, rfl, rfl, rfl, rfl, trivial⟩ h
        · have h := h.2 q
          refine dx_iload dMM_action_106 rfl ?_
          refine dx_if_lt 131 dMM_action_108 (by decide) (fun q => ?_) (fun q => ?_)
          · have h := h.1 q
            refine dx_iconst (v := 0) dMM_action_131 (by decide) ?_
            exact dx_less (L' := [some (.inr 0), some (.inl v1), some (.inl v2), some (.inl v3), some (.inl v4), some (.inl w0), none]) ⟨rfl, rfl, rfl, rfl, rfl, rfl, trivial⟩ h
          · have h := h.2 q
            refine dx_iload dMM_action_111 rfl ?_
            refine dx_iload_n dMM_action_113 rfl ?_
            refine dx_iconst (v := 2) dMM_action_114 (by decide) ?_
            refine dx_icmp_ne 122 dMM_action_115 (by decide) (fun q => ?_) (fun q => ?_)
            · have h := h.1 q
              refine dx_bipush (v := 50) dMM_action_122 (by decide) ?_
              exact dx_less (L' := [some (.inr 0), some (.inl v1), some (.inl v2), some (.inl v3), some (.inl v4), some (.inl w0), none]) ⟨rfl, rfl, rfl, rfl, rfl, rfl, trivial⟩ h
            · have h := h.2 q
              refine dx_iconst (v := 0) dMM_action_118 (by decide) ?_
              refine dx_goto 124 dMM_action_119 (by decide) ?_
              exact dx_less (L' := [some (.inr 0), some (.inl v1), some (.inl v2), some (.inl v3), some (.inl v4), some (.inl w0), none]) ⟨rfl, rfl, rfl, rfl, rfl, rfl, trivial⟩ h
    · have h := h.2 q
      exact dx_less (L' := [some (.inr 0), some (.inl v1), some (.inl v2), some (.inl v3), some (.inl v4), some (.inl w0), none]) ⟨rfl, rfl, rfl, rfl, rfl, rfl, trivial⟩ h
set_option maxRecDepth 100000 in
set_option maxHeartbeats 4000000 in
theorem r_MM_action_78 {E : dx_E} {d : Nat} {po : dx_P} {v1 v2 v3 v4 v5 : Int32} {σ : dx_V} (h : (v3 < 0 → g_MM_action_91 E (d + 1) po v1 v2 v3 v4 v5 σ) ∧ (¬ v3 < 0 → (3 < v3 → g_MM_action_91 E (d + 1) po v1 v2 v3 v4 v5 σ) ∧ (¬ 3 < v3 → g_MM_action_132 E (d + 1) po v1 v2 v3 v4 v5 1 σ))) : g_MM_action_78 E (d + 1) po v1 v2 v3 v4 v5 σ := by
  show dx_G tM E (d + 1) RMM cMM_action 7 (some .boolean) po 78 [some (.inr 0), some (.inl v1), some (.inl v2), some (.inl v3), some (.inl v4), some (.inl v5), none] [] σ
  refine dx_iload_n dMM_action_78 rfl ?_
  refine dx_if_lt 91 dMM_action_79 (by decide) (fun q => ?_) (fun q => ?_)
  · have h := h.1 q
    exact dx_less (L' := [some (.inr 0), some (.inl v1), some (.inl v2), some (.inl v3), some (.inl v4), some (.inl v5), none]) ⟨rfl, rfl, rfl, rfl, rfl, rfl, trivial⟩ h
  · have h := h.2 q
    refine dx_iload_n dMM_action_82 rfl ?_
    refine dx_iconst (v := 3) dMM_action_83 (by decide) ?_
    refine dx_icmp_gt 91 dMM_action_84 (by decide) (fun q => ?_) (fun q => ?_)
    · have h := h.1 q
      exact dx_less (L' := [some (.inr 0), some (.inl v1), some (.inl v2), some (.inl v3), some (.inl v4), some (.inl v5), none]) ⟨rfl, rfl, rfl, rfl, rfl, rfl, trivial⟩ h
    · have h := h.2 q
      refine dx_iconst (v := 1) dMM_action_87 (by decide) ?_
      refine dx_goto 132 dMM_action_88 (by decide) ?_
      exact dx_less (L' := [some (.inr 0), some (.inl v1), some (.inl v2), some (.inl v3), some (.inl v4), some (.inl v5), none]) ⟨rfl, rfl, rfl, rfl, rfl, rfl, trivial⟩ h
set_option maxRecDepth 100000 in
set_option maxHeartbeats 4000000 in
theorem r_MM_action_91 {E : dx_E} {d : Nat} {po : dx_P} {v1 v2 v3 v4 v5 : Int32} {σ : dx_V} (h : g_MM_action_132 E (d + 1) po v1 v2 v3 v4 v5 0 σ) : g_MM_action_91 E (d + 1) po v1 v2 v3 v4 v5 σ := by
  show dx_G tM E (d + 1) RMM cMM_action 7 (some .boolean) po 91 [some (.inr 0), some (.inl v1), some (.inl v2), some (.inl v3), some (.inl v4), some (.inl v5), none] [] σ
  refine dx_iconst (v := 0) dMM_action_91 (by decide) ?_
  refine dx_goto 132 dMM_action_92 (by decide) ?_
  exact dx_less (L' := [some (.inr 0), some (.inl v1), some (.inl v2), some (.inl v3), some (.inl v4), some (.inl v5), none]) ⟨rfl, rfl, rfl, rfl, rfl, rfl, trivial⟩ h
set_option maxRecDepth 100000 in
set_option maxHeartbeats 4000000 in
theorem r_MM_action_124 {E : dx_E} {d : Nat} {po : dx_P} {v1 v2 v3 v4 v5 w0 w1 : Int32} {σ : dx_V} (h : (w1 < w0 → g_MM_action_132 E (d + 1) po v1 v2 v3 v4 v5 0 σ) ∧ (¬ w1 < w0 → g_MM_action_132 E (d + 1) po v1 v2 v3 v4 v5 1 σ)) : g_MM_action_124 E (d + 1) po v1 v2 v3 v4 v5 w0 w1 σ := by
  show dx_G tM E (d + 1) RMM cMM_action 7 (some .boolean) po 124 [some (.inr 0), some (.inl v1), some (.inl v2), some (.inl v3), some (.inl v4), some (.inl v5), none] [.inl w1, .inl w0] σ
  refine dx_icmp_gt 131 dMM_action_124 (by decide) (fun q => ?_) (fun q => ?_)
  · have h := h.1 q
    refine dx_iconst (v := 0) dMM_action_131 (by decide) ?_
    exact dx_less (L' := [some (.inr 0), some (.inl v1), some (.inl v2), some (.inl v3), some (.inl v4), some (.inl v5), none]) ⟨rfl, rfl, rfl, rfl, rfl, rfl, trivial⟩ h
  · have h := h.2 q
    refine dx_iconst (v := 1) dMM_action_127 (by decide) ?_
    refine dx_goto 132 dMM_action_128 (by decide) ?_
    exact dx_less (L' := [some (.inr 0), some (.inl v1), some (.inl v2), some (.inl v3), some (.inl v4), some (.inl v5), none]) ⟨rfl, rfl, rfl, rfl, rfl, rfl, trivial⟩ h
set_option maxRecDepth 100000 in
set_option maxHeartbeats 4000000 in
theorem r_MM_action_132 {E : dx_E} {d : Nat} {po : dx_P} {v1 v2 v3 v4 v5 w0 : Int32} {σ : dx_V} (h : (¬ (σ 0 17) = 0 → po (some 0) σ) ∧ ((σ 0 17) = 0 → (v5 = 0 → po (some 0) σ) ∧ (¬ v5 = 0 → (v2 < 0 → po (some 0) σ) ∧ (¬ v2 < 0 → (3 < v2 → po (some 0) σ) ∧ (¬ 3 < v2 → (w0 = 0 → po (some 0) σ) ∧ (¬ w0 = 0 → (¬ (σ 0 12) = 32 → vp_in (σ 0 12) 32 ∧ (vp_in (σ 0 12) 32 ∧ (vp_in (σ 0 12) 32 ∧ (vp_in (σ 0 12) 32 ∧ (po (some 1) (dx_u (dx_u (dx_u (dx_u (dx_u σ 11 (σ 0 12).toNatClampNeg v1) 12 (σ 0 12).toNatClampNeg v2) 13 (σ 0 12).toNatClampNeg v3) 14 (σ 0 12).toNatClampNeg v4) 0 12 ((σ 0 12) + 1))))))) ∧ ((σ 0 12) = 32 → po (some 0) σ))))))) : g_MM_action_132 E (d + 1) po v1 v2 v3 v4 v5 w0 σ := by
  show dx_G tM E (d + 1) RMM cMM_action 7 (some .boolean) po 132 [some (.inr 0), some (.inl v1), some (.inl v2), some (.inl v3), some (.inl v4), some (.inl v5), none] [.inl w0] σ
  refine dx_istore (L' := [some (.inr 0), some (.inl v1), some (.inl v2), some (.inl v3), some (.inl v4), some (.inl v5), some (.inl w0)]) dMM_action_132 (Nat.le_of_ble_eq_true rfl) rfl ?_
  refine dx_aload_n dMM_action_134 rfl ?_
  refine dx_geti dMM_action_135 flMM_97 rfl rfl ?_
  refine dx_if_ne 169 dMM_action_138 (by decide) (fun q => ?_) (fun q => ?_)
  · have h := h.1 q
    refine dx_iconst (v := 0) dMM_action_169 (by decide) ?_
    exact dx_ret dMM_action_170 rfl rfl h
  · have h := h.2 q
    refine dx_iload dMM_action_141 rfl ?_
    refine dx_if_eq 169 dMM_action_143 (by decide) (fun q => ?_) (fun q => ?_)
    · have h := h.1 q
      refine dx_iconst (v := 0) dMM_action_169 (by decide) ?_
      exact dx_ret dMM_action_170 rfl rfl h
    · have h := h.2 q
      refine dx_iload_n dMM_action_146 rfl ?_
      refine dx_if_lt 169 dMM_action_147 (by decide) (fun q => ?_) (fun q => ?_)
      · have h := h.1 q
        refine dx_iconst (v := 0) dMM_action_169 (by decide) ?_
        exact dx_ret dMM_action_170 rfl rfl h
      · have h := h.2 q
        refine dx_iload_n dMM_action_150 rfl ?_
        refine dx_iconst (v := 3) dMM_action_151 (by decide) ?_
        refine dx_icmp_gt 169 dMM_action_152 (by decide) (fun q => ?_) (fun q => ?_)
        · have h := h.1 q
          refine dx_iconst (v := 0) dMM_action_169 (by decide) ?_
          exact dx_ret dMM_action_170 rfl rfl h
        · have h := h.2 q
          refine dx_iload dMM_action_155 rfl ?_
          refine dx_if_eq 169 dMM_action_157 (by decide) (fun q => ?_) (fun q => ?_)
          · have h := h.1 q
            refine dx_iconst (v := 0) dMM_action_169 (by decide) ?_
            exact dx_ret dMM_action_170 rfl rfl h
          · have h := h.2 q
            refine dx_aload_n dMM_action_160 rfl ?_
            refine dx_geti dMM_action_161 flMM_107 rfl rfl ?_
            refine dx_bipush (v := 32) dMM_action_164 (by decide) ?_
            refine dx_icmp_ne 171 dMM_action_166 (by decide) (fun q => ?_) (fun q => ?_)
            · have h := h.1 q
              refine dx_aload_n dMM_action_171 rfl ?_
              refine dx_getr dMM_action_172 flMM_41 rfl rfl ?_
              refine dx_aload_n dMM_action_175 rfl ?_
              refine dx_geti dMM_action_176 flMM_107 rfl rfl ?_
              refine dx_iload_n dMM_action_179 rfl ?_
              obtain ⟨hi, h⟩ := h
              refine dx_iastore dMM_action_180 rfl hi ?_
              refine dx_aload_n dMM_action_181 rfl ?_
              refine dx_getr dMM_action_182 flMM_44 rfl rfl ?_
              refine dx_aload_n dMM_action_185 rfl ?_
              refine dx_geti dMM_action_186 flMM_107 rfl rfl ?_
              refine dx_iload_n dMM_action_189 rfl ?_
              obtain ⟨hi, h⟩ := h
              refine dx_iastore dMM_action_190 rfl hi ?_
              refine dx_aload_n dMM_action_191 rfl ?_
              refine dx_getr dMM_action_192 flMM_47 rfl rfl ?_
              refine dx_aload_n dMM_action_195 rfl ?_
              refine dx_geti dMM_action_196 flMM_107 rfl rfl ?_
              refine dx_iload_n dMM_action_199 rfl ?_
              obtain ⟨hi, h⟩ := h
              refine dx_iastore dMM_action_200 rfl hi ?_
              refine dx_aload_n dMM_action_201 rfl ?_
              refine dx_getr dMM_action_202 flMM_50 rfl rfl ?_
              refine dx_aload_n dMM_action_205 rfl ?_
              refine dx_geti dMM_action_206 flMM_107 rfl rfl ?_
              refine dx_iload dMM_action_209 rfl ?_
              obtain ⟨hi, h⟩ := h
              refine dx_iastore dMM_action_211 rfl hi ?_
              refine dx_aload_n dMM_action_212 rfl ?_
              refine dx_dup dMM_action_213 ?_
              refine dx_geti dMM_action_214 flMM_107 rfl rfl ?_
              refine dx_iconst (v := 1) dMM_action_217 (by decide) ?_
              refine dx_iadd dMM_action_218 ?_
              refine dx_put dMM_action_219 fpMM_107 rfl rfl (Or.inl rfl) ?_
              refine dx_iconst (v := 1) dMM_action_222 (by decide) ?_
              exact dx_ret dMM_action_223 rfl rfl h
            · have h := h.2 q
              refine dx_iconst (v := 0) dMM_action_169 (by decide) ?_
              exact dx_ret dMM_action_170 rfl rfl h
set_option maxRecDepth 100000 in
set_option maxHeartbeats 4000000 in
theorem r_MM_failed {E : dx_E} {d : Nat} {σ : dx_V} {po : dx_P} (h : ((σ 0 17) ≤ 2 → po (some 0) σ) ∧ (¬ (σ 0 17) ≤ 2 → po (some 1) σ)) : m_MM_failed E d σ po := by
  refine dx_entry (by decide) (Nat.le_of_ble_eq_true rfl) ?_
  show dx_G tM E d RMM cMM_failed 1 (some .boolean) po 0 [some (.inr 0)] [] σ
  refine dx_aload_n dMM_failed_0 rfl ?_
  refine dx_geti dMM_failed_1 flMM_97 rfl rfl ?_
  refine dx_iconst (v := 2) dMM_failed_4 (by decide) ?_
  refine dx_icmp_le 12 dMM_failed_5 (by decide) (fun q => ?_) (fun q => ?_)
  · have h := h.1 q
    refine dx_iconst (v := 0) dMM_failed_12 (by decide) ?_
    exact dx_ret dMM_failed_13 rfl rfl h
  · have h := h.2 q
    refine dx_iconst (v := 1) dMM_failed_8 (by decide) ?_
    refine dx_goto 13 dMM_failed_9 (by decide) ?_
    exact dx_ret dMM_failed_13 rfl rfl h
set_option maxRecDepth 100000 in
set_option maxHeartbeats 4000000 in
theorem r_MM_write {E : dx_E} {d : Nat} {a1 : Int32} {σ : dx_V} {po : dx_P} (h : (¬ (σ 0 31) = 200 → vp_in (σ 0 31) 200 ∧ (po none (dx_u (dx_u σ 22 (σ 0 31).toNatClampNeg a1) 0 31 ((σ 0 31) + 1)))) ∧ ((σ 0 31) = 200 → po none (dx_u σ 0 17 4))) : m_MM_write E d a1 σ po := by
  refine dx_entry (by decide) (Nat.le_of_ble_eq_true rfl) ?_
  show dx_G tM E d RMM cMM_write 2 none po 0 [some (.inr 0), some (.inl a1)] [] σ
  refine dx_aload_n dMM_write_0 rfl ?_
  refine dx_geti dMM_write_1 flMM_110 rfl rfl ?_
  refine dx_sipush (v := 200) dMM_write_4 (by decide) ?_
  refine dx_icmp_ne 18 dMM_write_7 (by decide) (fun q => ?_) (fun q => ?_)
  · have h := h.1 q
    refine dx_aload_n dMM_write_18 rfl ?_
    refine dx_getr dMM_write_19 flMM_74 rfl rfl ?_
    refine dx_aload_n dMM_write_22 rfl ?_
    refine dx_geti dMM_write_23 flMM_110 rfl rfl ?_
    refine dx_iload_n dMM_write_26 rfl ?_
    obtain ⟨hi, h⟩ := h
    refine dx_iastore dMM_write_27 rfl hi ?_
    refine dx_aload_n dMM_write_28 rfl ?_
    refine dx_dup dMM_write_29 ?_
    refine dx_geti dMM_write_30 flMM_110 rfl rfl ?_
    refine dx_iconst (v := 1) dMM_write_33 (by decide) ?_
    refine dx_iadd dMM_write_34 ?_
    refine dx_put dMM_write_35 fpMM_110 rfl rfl (Or.inl rfl) ?_
    exact dx_vret dMM_write_38 rfl h
  · have h := h.2 q
    refine dx_aload_n dMM_write_10 rfl ?_
    refine dx_iconst (v := 4) dMM_write_11 (by decide) ?_
    refine dx_put dMM_write_12 fpMM_97 rfl rfl (Or.inl rfl) ?_
    refine dx_goto 38 dMM_write_15 (by decide) ?_
    exact dx_vret dMM_write_38 rfl h
set_option maxRecDepth 100000 in
set_option maxHeartbeats 4000000 in
theorem r_MM_raise {E : dx_E} {d : Nat} {a1 : Int32} {σ : dx_V} {po : dx_P} (h : (¬ (σ 0 23) = 16 → vp_in (σ 0 23) 16 ∧ (po none (dx_u (dx_u σ 18 (σ 0 23).toNatClampNeg a1) 0 23 ((σ 0 23) + 1)))) ∧ ((σ 0 23) = 16 → po none (dx_u σ 0 17 4))) : m_MM_raise E d a1 σ po := by
  refine dx_entry (by decide) (Nat.le_of_ble_eq_true rfl) ?_
  show dx_G tM E d RMM cMM_raise 2 none po 0 [some (.inr 0), some (.inl a1)] [] σ
  refine dx_aload_n dMM_raise_0 rfl ?_
  refine dx_geti dMM_raise_1 flMM_113 rfl rfl ?_
  refine dx_bipush (v := 16) dMM_raise_4 (by decide) ?_
  refine dx_icmp_ne 17 dMM_raise_6 (by decide) (fun q => ?_) (fun q => ?_)
  · have h := h.1 q
    refine dx_aload_n dMM_raise_17 rfl ?_
    refine dx_getr dMM_raise_18 flMM_62 rfl rfl ?_
    refine dx_aload_n dMM_raise_21 rfl ?_
    refine dx_geti dMM_raise_22 flMM_113 rfl rfl ?_
    refine dx_iload_n dMM_raise_25 rfl ?_
    obtain ⟨hi, h⟩ := h
    refine dx_iastore dMM_raise_26 rfl hi ?_
    refine dx_aload_n dMM_raise_27 rfl ?_
    refine dx_dup dMM_raise_28 ?_
    refine dx_geti dMM_raise_29 flMM_113 rfl rfl ?_
    refine dx_iconst (v := 1) dMM_raise_32 (by decide) ?_
    refine dx_iadd dMM_raise_33 ?_
    refine dx_put dMM_raise_34 fpMM_113 rfl rfl (Or.inl rfl) ?_
    exact dx_vret dMM_raise_37 rfl h
  · have h := h.2 q
    refine dx_aload_n dMM_raise_9 rfl ?_
    refine dx_iconst (v := 4) dMM_raise_10 (by decide) ?_
    refine dx_put dMM_raise_11 fpMM_97 rfl rfl (Or.inl rfl) ?_
    refine dx_goto 37 dMM_raise_14 (by decide) ?_
    exact dx_vret dMM_raise_37 rfl h
set_option maxRecDepth 100000 in
set_option maxHeartbeats 4000000 in
theorem r_MM_queue {E : dx_E} {d : Nat} {a1 : Int32} {σ : dx_V} {po : dx_P} (h : (¬ (σ 0 25) = 16 → vp_in (σ 0 25) 16 ∧ (po (some 1) (dx_u (dx_u σ 19 (σ 0 25).toNatClampNeg a1) 0 25 ((σ 0 25) + 1)))) ∧ ((σ 0 25) = 16 → po (some 0) σ)) : m_MM_queue E d a1 σ po := by
  refine dx_entry (by decide) (Nat.le_of_ble_eq_true rfl) ?_
  show dx_G tM E d RMM cMM_queue 2 (some .boolean) po 0 [some (.inr 0), some (.inl a1)] [] σ
  refine dx_aload_n dMM_queue_0 rfl ?_
  refine dx_geti dMM_queue_1 flMM_116 rfl rfl ?_
  refine dx_bipush (v := 16) dMM_queue_4 (by decide) ?_
  refine dx_icmp_ne 11 dMM_queue_6 (by decide) (fun q => ?_) (fun q => ?_)
  · have h := h.1 q
    refine dx_aload_n dMM_queue_11 rfl ?_
    refine dx_getr dMM_queue_12 flMM_65 rfl rfl ?_
    refine dx_aload_n dMM_queue_15 rfl ?_
    refine dx_geti dMM_queue_16 flMM_116 rfl rfl ?_
    refine dx_iload_n dMM_queue_19 rfl ?_
    obtain ⟨hi, h⟩ := h
    refine dx_iastore dMM_queue_20 rfl hi ?_
    refine dx_aload_n dMM_queue_21 rfl ?_
    refine dx_dup dMM_queue_22 ?_
    refine dx_geti dMM_queue_23 flMM_116 rfl rfl ?_
    refine dx_iconst (v := 1) dMM_queue_26 (by decide) ?_
    refine dx_iadd dMM_queue_27 ?_
    refine dx_put dMM_queue_28 fpMM_116 rfl rfl (Or.inl rfl) ?_
    refine dx_iconst (v := 1) dMM_queue_31 (by decide) ?_
    exact dx_ret dMM_queue_32 rfl rfl h
  · have h := h.2 q
    refine dx_iconst (v := 0) dMM_queue_9 (by decide) ?_
    exact dx_ret dMM_queue_10 rfl rfl h
def g_MM_send_21 (E : dx_E) (d : Nat) (po : dx_P) (w1 : Int32) (σ : dx_V) : Prop := dx_G tM E d RMM cMM_send 3 none po 21 [none, none, none] [.inl w1, .inr 0] σ
set_option maxRecDepth 100000 in
set_option maxHeartbeats 4000000 in
theorem r_MM_send {E : dx_E} {d : Nat} {a1 a2 : Int32} {σ : dx_V} {po : dx_P} (h : (¬ a2 = 0 → (¬ (σ 0 27) = 12 → vp_in (σ 0 27) 12 ∧ (vp_in (σ 0 27) 12 ∧ (po none (dx_u (dx_u (dx_u σ 20 (σ 0 27).toNatClampNeg a1) 21 (σ 0 27).toNatClampNeg ((σ 0 30) + a2)) 0 27 ((σ 0 27) + 1))))) ∧ ((σ 0 27) = 12 → po none (dx_u σ 0 17 4))) ∧ (a2 = 0 → dx_ci (m_MM_queue E d a1 σ) (fun x2 σ1 => (x2 = 0 → g_MM_send_21 E (d + 1) po 4 σ1) ∧ (¬ x2 = 0 → g_MM_send_21 E (d + 1) po (σ1 0 17) σ1)))) : m_MM_send E (d + 1) a1 a2 σ po := by
  refine dx_entry (by decide) (Nat.le_of_ble_eq_true rfl) ?_
  show dx_G tM E (d + 1) RMM cMM_send 3 none po 0 [some (.inr 0), some (.inl a1), some (.inl a2)] [] σ
  refine dx_iload_n dMM_send_0 rfl ?_
  refine dx_if_ne 27 dMM_send_1 (by decide) (fun q => ?_) (fun q => ?_)
  · have h := h.1 q
    refine dx_aload_n dMM_send_27 rfl ?_
    refine dx_geti dMM_send_28 flMM_122 rfl rfl ?_
    refine dx_bipush (v := 12) dMM_send_31 (by decide) ?_
    refine dx_icmp_ne 44 dMM_send_33 (by decide) (fun q => ?_) (fun q => ?_)
    · have h := h.1 q
      refine dx_aload_n dMM_send_44 rfl ?_
      refine dx_getr dMM_send_45 flMM_68 rfl rfl ?_
      refine dx_aload_n dMM_send_48 rfl ?_
      refine dx_geti dMM_send_49 flMM_122 rfl rfl ?_
      refine dx_iload_n dMM_send_52 rfl ?_
      obtain ⟨hi, h⟩ := h
      refine dx_iastore dMM_send_53 rfl hi ?_
      refine dx_aload_n dMM_send_54 rfl ?_
      refine dx_getr dMM_send_55 flMM_71 rfl rfl ?_
      refine dx_aload_n dMM_send_58 rfl ?_
      refine dx_geti dMM_send_59 flMM_122 rfl rfl ?_
      refine dx_aload_n dMM_send_62 rfl ?_
      refine dx_geti dMM_send_63 flMM_125 rfl rfl ?_
      refine dx_iload_n dMM_send_66 rfl ?_
      refine dx_iadd dMM_send_67 ?_
      obtain ⟨hi, h⟩ := h
      refine dx_iastore dMM_send_68 rfl hi ?_
      refine dx_aload_n dMM_send_69 rfl ?_
      refine dx_dup dMM_send_70 ?_
      refine dx_geti dMM_send_71 flMM_122 rfl rfl ?_
      refine dx_iconst (v := 1) dMM_send_74 (by decide) ?_
      refine dx_iadd dMM_send_75 ?_
      refine dx_put dMM_send_76 fpMM_122 rfl rfl (Or.inl rfl) ?_
      exact dx_vret dMM_send_79 rfl h
    · have h := h.2 q
      refine dx_aload_n dMM_send_36 rfl ?_
      refine dx_iconst (v := 4) dMM_send_37 (by decide) ?_
      refine dx_put dMM_send_38 fpMM_97 rfl rfl (Or.inl rfl) ?_
      refine dx_goto 79 dMM_send_41 (by decide) ?_
      exact dx_vret dMM_send_79 rfl h
  · have h := h.2 q
    refine dx_aload_n dMM_send_4 rfl ?_
    refine dx_aload_n dMM_send_5 rfl ?_
    refine dx_iload_n dMM_send_6 rfl ?_
    obtain ⟨pp, hm, hk⟩ := h
    refine dx_callvi [.inl a1] [.inr 0] dMM_send_7 cvMM_119 rfl (Nat.le_of_ble_eq_true rfl) rfl hm (fun x2 σ1 hp => ?_)
    have h := hk x2 σ1 hp
    refine dx_if_eq 20 dMM_send_10 (by decide) (fun q => ?_) (fun q => ?_)
    · have h := h.1 q
      refine dx_iconst (v := 4) dMM_send_20 (by decide) ?_
      exact dx_less (L' := [none, none, none]) trivial h
    · have h := h.2 q
      refine dx_aload_n dMM_send_13 rfl ?_
      refine dx_geti dMM_send_14 flMM_97 rfl rfl ?_
      refine dx_goto 21 dMM_send_17 (by decide) ?_
      exact dx_less (L' := [none, none, none]) trivial h
set_option maxRecDepth 100000 in
set_option maxHeartbeats 4000000 in
theorem r_MM_send_21 {E : dx_E} {d : Nat} {po : dx_P} {w1 : Int32} {σ : dx_V} (h : po none (dx_u σ 0 17 w1)) : g_MM_send_21 E (d + 1) po w1 σ := by
  show dx_G tM E (d + 1) RMM cMM_send 3 none po 21 [none, none, none] [.inl w1, .inr 0] σ
  refine dx_put dMM_send_21 fpMM_97 rfl rfl (Or.inl rfl) ?_
  refine dx_goto 79 dMM_send_24 (by decide) ?_
  exact dx_vret dMM_send_79 rfl h
def g_MM_act_2 (E : dx_E) (d : Nat) (po : dx_P) (v1 v2 : Int32) (σ : dx_V) : Prop := dx_G tM E d RMM cMM_act 3 none po 2 [some (.inr 0), some (.inl v1), some (.inl v2)] [] σ
set_option maxRecDepth 100000 in
set_option maxHeartbeats 4000000 in
theorem r_MM_act {E : dx_E} {d : Nat} {a1 : Int32} {σ : dx_V} {po : dx_P} (h : g_MM_act_2 E (d + 1) po a1 0 σ) : m_MM_act E (d + 1) a1 σ po := by
  refine dx_entry (by decide) (Nat.le_of_ble_eq_true rfl) ?_
  show dx_G tM E (d + 1) RMM cMM_act 3 none po 0 [some (.inr 0), some (.inl a1), none] [] σ
  refine dx_iconst (v := 0) dMM_act_0 (by decide) ?_
  refine dx_istore_n (L' := [some (.inr 0), some (.inl a1), some (.inl 0)]) dMM_act_1 (Nat.le_of_ble_eq_true rfl) rfl ?_
  exact dx_less (L' := [some (.inr 0), some (.inl a1), some (.inl 0)]) ⟨rfl, rfl, rfl, trivial⟩ h
set_option maxRecDepth 100000 in
set_option maxHeartbeats 4000000 in
theorem r_MM_act_2 {E : dx_E} {d : Nat} {po : dx_P} {v1 v2 : Int32} {σ : dx_V} (h : ((σ 0 12) ≤ v2 → po none σ) ∧ (¬ (σ 0 12) ≤ v2 → dx_ci (m_MM_failed E d σ) (fun x2 σ1 => (¬ x2 = 0 → po none σ1) ∧ (x2 = 0 → vp_in v2 32 ∧ ((¬ (σ1 11 v2.toNatClampNeg) = v1 → g_MM_act_2 E (d + 1) po v1 (v2 + 1) σ1) ∧ ((σ1 11 v2.toNatClampNeg) = v1 → vp_in v2 32 ∧ ((¬ (σ1 12 v2.toNatClampNeg) = 0 → vp_in v2 32 ∧ ((¬ (σ1 12 v2.toNatClampNeg) = 1 → vp_in v2 32 ∧ ((¬ (σ1 12 v2.toNatClampNeg) = 2 → vp_in v2 32 ∧ (vp_in v2 32 ∧ (dx_cu (m_MM_send E d (σ1 13 v2.toNatClampNeg) (σ1 14 v2.toNatClampNeg) σ1) (fun σ3 => g_MM_act_2 E (d + 1) po v1 (v2 + 1) σ3)))) ∧ ((σ1 12 v2.toNatClampNeg) = 2 → vp_in v2 32 ∧ (dx_cu (m_MM_raise E d (σ1 13 v2.toNatClampNeg) σ1) (fun σ4 => g_MM_act_2 E (d + 1) po v1 (v2 + 1) σ4))))) ∧ ((σ1 12 v2.toNatClampNeg) = 1 → vp_in v2 32 ∧ (vp_in (σ1 13 v2.toNatClampNeg) 4 ∧ (vp_in v2 32 ∧ (vp_in (σ1 13 v2.toNatClampNeg) 4 ∧ (g_MM_act_2 E (d + 1) po v1 (v2 + 1) (dx_u σ1 17 (σ1 13 v2.toNatClampNeg).toNatClampNeg ((σ1 17 (σ1 13 v2.toNatClampNeg).toNatClampNeg) + (σ1 14 v2.toNatClampNeg)))))))))) ∧ ((σ1 12 v2.toNatClampNeg) = 0 → vp_in v2 32 ∧ (vp_in v2 32 ∧ (vp_in (σ1 13 v2.toNatClampNeg) 4 ∧ (g_MM_act_2 E (d + 1) po v1 (v2 + 1) (dx_u σ1 17 (σ1 13 v2.toNatClampNeg).toNatClampNeg (σ1 14 v2.toNatClampNeg))))))))))))) : g_MM_act_2 E (d + 1) po v1 v2 σ := by
  show dx_G tM E (d + 1) RMM cMM_act 3 none po 2 [some (.inr 0), some (.inl v1), some (.inl v2)] [] σ
  refine dx_iload_n dMM_act_2 rfl ?_
  refine dx_aload_n dMM_act_3 rfl ?_
  refine dx_geti dMM_act_4 flMM_107 rfl rfl ?_
  refine dx_icmp_ge 134 dMM_act_7 (by decide) (fun q => ?_) (fun q => ?_)
  · have h := h.1 q
    exact dx_vret dMM_act_134 rfl h
  · have h := h.2 q
    refine dx_aload_n dMM_act_10 rfl ?_
    obtain ⟨pp, hm, hk⟩ := h
    refine dx_callvi [] [] dMM_act_11 cvMM_128 rfl (Nat.le_of_ble_eq_true rfl) rfl hm (fun x2 σ1 hp => ?_)
    have h := hk x2 σ1 hp
    refine dx_if_ne 134 dMM_act_14 (by decide) (fun q => ?_) (fun q => ?_)
    · have h := h.1 q
      exact dx_vret dMM_act_134 rfl h
    · have h := h.2 q
      refine dx_aload_n dMM_act_17 rfl ?_
      refine dx_getr dMM_act_18 flMM_41 rfl rfl ?_
      refine dx_iload_n dMM_act_21 rfl ?_
      obtain ⟨hi, h⟩ := h
      refine dx_iaload dMM_act_22 rfl hi ?_
      refine dx_iload_n dMM_act_23 rfl ?_
      refine dx_icmp_ne 128 dMM_act_24 (by decide) (fun q => ?_) (fun q => ?_)
      · have h := h.1 q
        refine dx_iinc (v := v2 + 1) (L' := [some (.inr 0), some (.inl v1), some (.inl (v2 + 1))]) dMM_act_128 rfl rfl rfl ?_
        refine dx_goto 2 dMM_act_131 (by decide) ?_
        exact dx_less (L' := [some (.inr 0), some (.inl v1), some (.inl (v2 + 1))]) ⟨rfl, rfl, rfl, trivial⟩ h
      · have h := h.2 q
        refine dx_aload_n dMM_act_27 rfl ?_
        refine dx_getr dMM_act_28 flMM_44 rfl rfl ?_
        refine dx_iload_n dMM_act_31 rfl ?_
        obtain ⟨hi, h⟩ := h
        refine dx_iaload dMM_act_32 rfl hi ?_
        refine dx_if_ne 56 dMM_act_33 (by decide) (fun q => ?_) (fun q => ?_)
        · have h := h.1 q
          refine dx_aload_n dMM_act_56 rfl ?_
          refine dx_getr dMM_act_57 flMM_44 rfl rfl ?_
          refine dx_iload_n dMM_act_60 rfl ?_
          obtain ⟨hi, h⟩ := h
          refine dx_iaload dMM_act_61 rfl hi ?_
          refine dx_iconst (v := 1) dMM_act_62 (by decide) ?_
          refine dx_icmp_ne 89 dMM_act_63 (by decide) (fun q => ?_) (fun q => ?_)
          · have h := h.1 q
            refine dx_aload_n dMM_act_89 rfl ?_
            refine dx_getr dMM_act_90 flMM_44 rfl rfl ?_
            refine dx_iload_n dMM_act_93 rfl ?_
            obtain ⟨hi, h⟩ := h
            refine dx_iaload dMM_act_94 rfl hi ?_
            refine dx_iconst (v := 2) dMM_act_95 (by decide) ?_
            refine dx_icmp_ne 112 dMM_act_96 (by decide) (fun q => ?_) (fun q => ?_)
            · have h := h.1 q
              refine dx_aload_n dMM_act_112 rfl ?_
              refine dx_aload_n dMM_act_113 rfl ?_
              refine dx_getr dMM_act_114 flMM_47 rfl rfl ?_
              refine dx_iload_n dMM_act_117 rfl ?_
              obtain ⟨hi, h⟩ := h
              refine dx_iaload dMM_act_118 rfl hi ?_
              refine dx_aload_n dMM_act_119 rfl ?_
              refine dx_getr dMM_act_120 flMM_50 rfl rfl ?_
              refine dx_iload_n dMM_act_123 rfl ?_
              obtain ⟨hi, h⟩ := h
              refine dx_iaload dMM_act_124 rfl hi ?_
              obtain ⟨pp, hm, hk⟩ := h
              refine dx_callvv [.inl (σ1 13 v2.toNatClampNeg), .inl (σ1 14 v2.toNatClampNeg)] [] dMM_act_125 cvMM_136 rfl (Nat.le_of_ble_eq_true rfl) rfl hm (fun σ3 hp => ?_)
              have h := hk σ3 hp
              refine dx_iinc (v := v2 + 1) (L' := [some (.inr 0), some (.inl v1), some (.inl (v2 + 1))]) dMM_act_128 rfl rfl rfl ?_
              refine dx_goto 2 dMM_act_131 (by decide) ?_
              exact dx_less (L' := [some (.inr 0), some (.inl v1), some (.inl (v2 + 1))]) ⟨rfl, rfl, rfl, trivial⟩ h
            · have h := h.2 q
              refine dx_aload_n dMM_act_99 rfl ?_
              refine dx_aload_n dMM_act_100 rfl ?_
              refine dx_getr dMM_act_101 flMM_47 rfl rfl ?_
              refine dx_iload_n dMM_act_104 rfl ?_
              obtain ⟨hi, h⟩ := h
              refine dx_iaload dMM_act_105 rfl hi ?_
              obtain ⟨pp, hm, hk⟩ := h
              refine dx_callvv [.inl (σ1 13 v2.toNatClampNeg)] [] dMM_act_106 cvMM_132 rfl (Nat.le_of_ble_eq_true rfl) rfl hm (fun σ4 hp => ?_)
              have h := hk σ4 hp
              refine dx_goto 128 dMM_act_109 (by decide) ?_
              refine dx_iinc (v := v2 + 1) (L' := [some (.inr 0), some (.inl v1), some (.inl (v2 + 1))]) dMM_act_128 rfl rfl rfl ?_
              refine dx_goto 2 dMM_act_131 (by decide) ?_
              exact dx_less (L' := [some (.inr 0), some (.inl v1), some (.inl (v2 + 1))]) ⟨rfl, rfl, rfl, trivial⟩ h
          · have h := h.2 q
            refine dx_aload_n dMM_act_66 rfl ?_
            refine dx_getr dMM_act_67 flMM_59 rfl rfl ?_
            refine dx_aload_n dMM_act_70 rfl ?_
            refine dx_getr dMM_act_71 flMM_47 rfl rfl ?_
            refine dx_iload_n dMM_act_74 rfl ?_
            obtain ⟨hi, h⟩ := h
            refine dx_iaload dMM_act_75 rfl hi ?_
            refine dx_dup2 dMM_act_76 ?_
            obtain ⟨hi, h⟩ := h
            refine dx_iaload dMM_act_77 rfl hi ?_
            refine dx_aload_n dMM_act_78 rfl ?_
            refine dx_getr dMM_act_79 flMM_50 rfl rfl ?_
            refine dx_iload_n dMM_act_82 rfl ?_
            obtain ⟨hi, h⟩ := h
            refine dx_iaload dMM_act_83 rfl hi ?_
            refine dx_iadd dMM_act_84 ?_
            obtain ⟨hi, h⟩ := h
            refine dx_iastore dMM_act_85 rfl hi ?_
            refine dx_goto 128 dMM_act_86 (by decide) ?_
            refine dx_iinc (v := v2 + 1) (L' := [some (.inr 0), some (.inl v1), some (.inl (v2 + 1))]) dMM_act_128 rfl rfl rfl ?_
            refine dx_goto 2 dMM_act_131 (by decide) ?_
            exact dx_less (L' := [some (.inr 0), some (.inl v1), some (.inl (v2 + 1))]) ⟨rfl, rfl, rfl, trivial⟩ h
        · have h := h.2 q
          refine dx_aload_n dMM_act_36 rfl ?_
          refine dx_getr dMM_act_37 flMM_59 rfl rfl ?_
          refine dx_aload_n dMM_act_40 rfl ?_
          refine dx_getr dMM_act_41 flMM_47 rfl rfl ?_
          refine dx_iload_n dMM_act_44 rfl ?_
          obtain ⟨hi, h⟩ := h
          refine dx_iaload dMM_act_45 rfl hi ?_
          refine dx_aload_n dMM_act_46 rfl ?_
          refine dx_getr dMM_act_47 flMM_50 rfl rfl ?_
          refine dx_iload_n dMM_act_50 rfl ?_
          obtain ⟨hi, h⟩ := h
          refine dx_iaload dMM_act_51 rfl hi ?_
          obtain ⟨hi, h⟩ := h
          refine dx_iastore dMM_act_52 rfl hi ?_
          refine dx_goto 128 dMM_act_53 (by decide) ?_
          refine dx_iinc (v := v2 + 1) (L' := [some (.inr 0), some (.inl v1), some (.inl (v2 + 1))]) dMM_act_128 rfl rfl rfl ?_
          refine dx_goto 2 dMM_act_131 (by decide) ?_
          exact dx_less (L' := [some (.inr 0), some (.inl v1), some (.inl (v2 + 1))]) ⟨rfl, rfl, rfl, trivial⟩ h
set_option maxRecDepth 100000 in
set_option maxHeartbeats 4000000 in
theorem r_MM_holds {E : dx_E} {d : Nat} {a1 : Int32} {σ : dx_V} {po : dx_P} (h : vp_in a1 20 ∧ ((¬ (σ 7 a1.toNatClampNeg) = 0 → vp_in a1 20 ∧ ((¬ (σ 9 a1.toNatClampNeg) = 3 → vp_in a1 20 ∧ (vp_in (σ 8 a1.toNatClampNeg) 4 ∧ (vp_in a1 20 ∧ ((¬ (σ 9 a1.toNatClampNeg) = 0 → vp_in a1 20 ∧ ((¬ (σ 9 a1.toNatClampNeg) = 1 → vp_in a1 20 ∧ (((σ 17 (σ 8 a1.toNatClampNeg).toNatClampNeg) ≤ (σ 10 a1.toNatClampNeg) → po (some 0) σ) ∧ (¬ (σ 17 (σ 8 a1.toNatClampNeg).toNatClampNeg) ≤ (σ 10 a1.toNatClampNeg) → po (some 1) σ))) ∧ ((σ 9 a1.toNatClampNeg) = 1 → vp_in a1 20 ∧ ((¬ (σ 17 (σ 8 a1.toNatClampNeg).toNatClampNeg) = (σ 10 a1.toNatClampNeg) → po (some 0) σ) ∧ ((σ 17 (σ 8 a1.toNatClampNeg).toNatClampNeg) = (σ 10 a1.toNatClampNeg) → po (some 1) σ))))) ∧ ((σ 9 a1.toNatClampNeg) = 0 → vp_in a1 20 ∧ (((σ 10 a1.toNatClampNeg) ≤ (σ 17 (σ 8 a1.toNatClampNeg).toNatClampNeg) → po (some 0) σ) ∧ (¬ (σ 10 a1.toNatClampNeg) ≤ (σ 17 (σ 8 a1.toNatClampNeg).toNatClampNeg) → po (some 1) σ))))))) ∧ ((σ 9 a1.toNatClampNeg) = 3 → vp_in a1 20 ∧ (vp_in (σ 10 a1.toNatClampNeg) 16 ∧ (((σ 15 (σ 10 a1.toNatClampNeg).toNatClampNeg) = 0 ∨ (σ 15 (σ 10 a1.toNatClampNeg).toNatClampNeg) = 1) ∧ po (some (σ 15 (σ 10 a1.toNatClampNeg).toNatClampNeg)) σ))))) ∧ ((σ 7 a1.toNatClampNeg) = 0 → po (some 1) σ))) : m_MM_holds E d a1 σ po := by
  refine dx_entry (by decide) (Nat.le_of_ble_eq_true rfl) ?_
  show dx_G tM E d RMM cMM_holds 3 (some .boolean) po 0 [some (.inr 0), some (.inl a1), none] [] σ
  refine dx_aload_n dMM_holds_0 rfl ?_
  refine dx_getr dMM_holds_1 flMM_28 rfl rfl ?_
  refine dx_iload_n dMM_holds_4 rfl ?_
  obtain ⟨hi, h⟩ := h
  refine dx_baload dMM_holds_5 rfl hi ?_
  refine dx_if_ne 11 dMM_holds_6 (by decide) (fun q => ?_) (fun q => ?_)
  · have h := h.1 q
    refine dx_aload_n dMM_holds_11 rfl ?_
    refine dx_getr dMM_holds_12 flMM_35 rfl rfl ?_
    refine dx_iload_n dMM_holds_15 rfl ?_
    obtain ⟨hi, h⟩ := h
    refine dx_iaload dMM_holds_16 rfl hi ?_
    refine dx_iconst (v := 3) dMM_holds_17 (by decide) ?_
    refine dx_icmp_ne 33 dMM_holds_18 (by decide) (fun q => ?_) (fun q => ?_)
    · have h := h.1 q
      refine dx_aload_n dMM_holds_33 rfl ?_
      refine dx_getr dMM_holds_34 flMM_59 rfl rfl ?_
      refine dx_aload_n dMM_holds_37 rfl ?_
      refine dx_getr dMM_holds_38 flMM_32 rfl rfl ?_
      refine dx_iload_n dMM_holds_41 rfl ?_
      obtain ⟨hi, h⟩ := h
      refine dx_iaload dMM_holds_42 rfl hi ?_
      obtain ⟨hi, h⟩ := h
      refine dx_iaload dMM_holds_43 rfl hi ?_
      refine dx_istore_n (L' := [some (.inr 0), some (.inl a1), some (.inl (σ 17 (σ 8 a1.toNatClampNeg).toNatClampNeg))]) dMM_holds_44 (Nat.le_of_ble_eq_true rfl) rfl ?_
      refine dx_aload_n dMM_holds_45 rfl ?_
      refine dx_getr dMM_holds_46 flMM_35 rfl rfl ?_
      refine dx_iload_n dMM_holds_49 rfl ?_
      obtain ⟨hi, h⟩ := h
      refine dx_iaload dMM_holds_50 rfl hi ?_
      refine dx_if_ne 72 dMM_holds_51 (by decide) (fun q => ?_) (fun q => ?_)
      · have h := h.1 q
        refine dx_aload_n dMM_holds_72 rfl ?_
        refine dx_getr dMM_holds_73 flMM_35 rfl rfl ?_
        refine dx_iload_n dMM_holds_76 rfl ?_
        obtain ⟨hi, h⟩ := h
        refine dx_iaload dMM_holds_77 rfl hi ?_
        refine dx_iconst (v := 1) dMM_holds_78 (by decide) ?_
        refine dx_icmp_ne 100 dMM_holds_79 (by decide) (fun q => ?_) (fun q => ?_)
        · have h := h.1 q
          refine dx_iload_n dMM_holds_100 rfl ?_
          refine dx_aload_n dMM_holds_101 rfl ?_
          refine dx_getr dMM_holds_102 flMM_38 rfl rfl ?_
          refine dx_iload_n dMM_holds_105 rfl ?_
          obtain ⟨hi, h⟩ := h
          refine dx_iaload dMM_holds_106 rfl hi ?_
          refine dx_icmp_le 114 dMM_holds_107 (by decide) (fun q => ?_) (fun q => ?_)
          · have h := h.1 q
            refine dx_iconst (v := 0) dMM_holds_114 (by decide) ?_
            exact dx_ret dMM_holds_115 rfl rfl h
          · have h := h.2 q
            refine dx_iconst (v := 1) dMM_holds_110 (by decide) ?_
            refine dx_goto 115 dMM_holds_111 (by decide) ?_
            exact dx_ret dMM_holds_115 rfl rfl h
        · have h := h.2 q
          refine dx_iload_n dMM_holds_82 rfl ?_
          refine dx_aload_n dMM_holds_83 rfl ?_
          refine dx_getr dMM_holds_84 flMM_38 rfl rfl ?_
          refine dx_iload_n dMM_holds_87 rfl ?_
          obtain ⟨hi, h⟩ := h
          refine dx_iaload dMM_holds_88 rfl hi ?_
          refine dx_icmp_ne 96 dMM_holds_89 (by decide) (fun q => ?_) (fun q => ?_)
          · have h := h.1 q
            refine dx_iconst (v := 0) dMM_holds_96 (by decide) ?_
            refine dx_goto 115 dMM_holds_97 (by decide) ?_
            exact dx_ret dMM_holds_115 rfl rfl h
          · have h := h.2 q
            refine dx_iconst (v := 1) dMM_holds_92 (by decide) ?_
            refine dx_goto 115 dMM_holds_93 (by decide) ?_
            exact dx_ret dMM_holds_115 rfl rfl h
      · have h := h.2 q
        refine dx_iload_n dMM_holds_54 rfl ?_
        refine dx_aload_n dMM_holds_55 rfl ?_
        refine dx_getr dMM_holds_56 flMM_38 rfl rfl ?_
        refine dx_iload_n dMM_holds_59 rfl ?_
        obtain ⟨hi, h⟩ := h
        refine dx_iaload dMM_holds_60 rfl hi ?_
        refine dx_icmp_ge 68 dMM_holds_61 (by decide) (fun q => ?_) (fun q => ?_)
        · have h := h.1 q
          refine dx_iconst (v := 0) dMM_holds_68 (by decide) ?_
          refine dx_goto 115 dMM_holds_69 (by decide) ?_
          exact dx_ret dMM_holds_115 rfl rfl h
        · have h := h.2 q
          refine dx_iconst (v := 1) dMM_holds_64 (by decide) ?_
          refine dx_goto 115 dMM_holds_65 (by decide) ?_
          exact dx_ret dMM_holds_115 rfl rfl h
    · have h := h.2 q
      refine dx_aload_n dMM_holds_21 rfl ?_
      refine dx_getr dMM_holds_22 flMM_53 rfl rfl ?_
      refine dx_aload_n dMM_holds_25 rfl ?_
      refine dx_getr dMM_holds_26 flMM_38 rfl rfl ?_
      refine dx_iload_n dMM_holds_29 rfl ?_
      obtain ⟨hi, h⟩ := h
      refine dx_iaload dMM_holds_30 rfl hi ?_
      obtain ⟨hi, h⟩ := h
      refine dx_baload dMM_holds_31 rfl hi ?_
      exact dx_ret dMM_holds_32 rfl (dx_nz h.1) h.2
  · have h := h.2 q
    refine dx_iconst (v := 1) dMM_holds_9 (by decide) ?_
    exact dx_ret dMM_holds_10 rfl rfl h
