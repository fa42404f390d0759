def g_MM_waiter_2 (E : dx_E) (d : Nat) (po : dx_P) (v1 v2 v3 : Int32) (σ : dx_V) : Prop := dx_G tM E d RMM cMM_waiter 4 (some .int) po 2 [some (.inr 0), some (.inl v1), some (.inl v2), some (.inl v3)] [] σ
set_option maxRecDepth 100000 in
set_option maxHeartbeats 4000000 in
theorem r_MM_waiter {E : dx_E} {d : Nat} {a1 a2 : Int32} {σ : dx_V} {po : dx_P} (h : g_MM_waiter_2 E (d + 1) po a1 a2 0 σ) : m_MM_waiter E (d + 1) a1 a2 σ po := by
  refine dx_entry (by decide) (Nat.le_of_ble_eq_true rfl) ?_
  show dx_G tM E (d + 1) RMM cMM_waiter 4 (some .int) po 0 [some (.inr 0), some (.inl a1), some (.inl a2), none] [] σ
  refine dx_iconst (v := 0) dMM_waiter_0 (by decide) ?_
  refine dx_istore_n (L' := [some (.inr 0), some (.inl a1), some (.inl a2), some (.inl 0)]) dMM_waiter_1 (Nat.le_of_ble_eq_true rfl) rfl ?_
  exact dx_less (L' := [some (.inr 0), some (.inl a1), some (.inl a2), some (.inl 0)]) ⟨rfl, rfl, rfl, rfl, trivial⟩ h
set_option maxRecDepth 100000 in
set_option maxHeartbeats 4000000 in
theorem r_MM_waiter_2 {E : dx_E} {d : Nat} {po : dx_P} {v1 v2 v3 : Int32} {σ : dx_V} (h : ((σ 0 4) ≤ v3 → po (some (-1)) σ) ∧ (¬ (σ 0 4) ≤ v3 → vp_in v3 20 ∧ ((¬ (σ 4 v3.toNatClampNeg) = v1 → g_MM_waiter_2 E (d + 1) po v1 v2 (v3 + 1) σ) ∧ ((σ 4 v3.toNatClampNeg) = v1 → vp_in v3 20 ∧ ((¬ (σ 5 v3.toNatClampNeg) = v2 → g_MM_waiter_2 E (d + 1) po v1 v2 (v3 + 1) σ) ∧ ((σ 5 v3.toNatClampNeg) = v2 → dx_ci (m_MM_holds E d v3 σ) (fun x2 σ1 => (x2 = 0 → g_MM_waiter_2 E (d + 1) po v1 v2 (v3 + 1) σ1) ∧ (¬ x2 = 0 → po (some v3) σ1)))))))) : g_MM_waiter_2 E (d + 1) po v1 v2 v3 σ := by
  show dx_G tM E (d + 1) RMM cMM_waiter 4 (some .int) po 2 [some (.inr 0), some (.inl v1), some (.inl v2), some (.inl v3)] [] σ
  refine dx_iload_n dMM_waiter_2 rfl ?_
  refine dx_aload_n dMM_waiter_3 rfl ?_
  refine dx_geti dMM_waiter_4 flMM_104 rfl rfl ?_
  refine dx_icmp_ge 46 dMM_waiter_7 (by decide) (fun q => ?_) (fun q => ?_)
  · have h := h.1 q
    refine dx_iconst (v := (-1)) dMM_waiter_46 (by decide) ?_
    exact dx_ret dMM_waiter_47 rfl rfl h
  · have h := h.2 q
    refine dx_aload_n dMM_waiter_10 rfl ?_
    refine dx_getr dMM_waiter_11 flMM_19 rfl rfl ?_
    refine dx_iload_n dMM_waiter_14 rfl ?_
    obtain ⟨hi, h⟩ := h
    refine dx_iaload dMM_waiter_15 rfl hi ?_
    refine dx_iload_n dMM_waiter_16 rfl ?_
    refine dx_icmp_ne 40 dMM_waiter_17 (by decide) (fun q => ?_) (fun q => ?_)
    · have h := h.1 q
      refine dx_iinc (v := v3 + 1) (L' := [some (.inr 0), some (.inl v1), some (.inl v2), some (.inl (v3 + 1))]) dMM_waiter_40 rfl rfl rfl ?_
      refine dx_goto 2 dMM_waiter_43 (by decide) ?_
      exact dx_less (L' := [some (.inr 0), some (.inl v1), some (.inl v2), some (.inl (v3 + 1))]) ⟨rfl, rfl, rfl, rfl, trivial⟩ h
    · have h := h.2 q
      refine dx_aload_n dMM_waiter_20 rfl ?_
      refine dx_getr dMM_waiter_21 flMM_22 rfl rfl ?_
      refine dx_iload_n dMM_waiter_24 rfl ?_
      obtain ⟨hi, h⟩ := h
      refine dx_iaload dMM_waiter_25 rfl hi ?_
      refine dx_iload_n dMM_waiter_26 rfl ?_
      refine dx_icmp_ne 40 dMM_waiter_27 (by decide) (fun q => ?_) (fun q => ?_)
      · have h := h.1 q
        refine dx_iinc (v := v3 + 1) (L' := [some (.inr 0), some (.inl v1), some (.inl v2), some (.inl (v3 + 1))]) dMM_waiter_40 rfl rfl rfl ?_
        refine dx_goto 2 dMM_waiter_43 (by decide) ?_
        exact dx_less (L' := [some (.inr 0), some (.inl v1), some (.inl v2), some (.inl (v3 + 1))]) ⟨rfl, rfl, rfl, rfl, trivial⟩ h
      · have h := h.2 q
        refine dx_aload_n dMM_waiter_30 rfl ?_
        refine dx_iload_n dMM_waiter_31 rfl ?_
        obtain ⟨pp, hm, hk⟩ := h
        refine dx_callvi [.inl v3] [] dMM_waiter_32 cvMM_140 rfl (Nat.le_of_ble_eq_true rfl) rfl hm (fun x2 σ1 hp => ?_)
        have h := hk x2 σ1 hp
        refine dx_if_eq 40 dMM_waiter_35 (by decide) (fun q => ?_) (fun q => ?_)
        · have h := h.1 q
          refine dx_iinc (v := v3 + 1) (L' := [some (.inr 0), some (.inl v1), some (.inl v2), some (.inl (v3 + 1))]) dMM_waiter_40 rfl rfl rfl ?_
          refine dx_goto 2 dMM_waiter_43 (by decide) ?_
          exact dx_less (L' := [some (.inr 0), some (.inl v1), some (.inl v2), some (.inl (v3 + 1))]) ⟨rfl, rfl, rfl, rfl, trivial⟩ h
        · have h := h.2 q
          refine dx_iload_n dMM_waiter_38 rfl ?_
          exact dx_ret dMM_waiter_39 rfl rfl h
def g_MM_select_7 (E : dx_E) (d : Nat) (po : dx_P) (v1 v2 : Int32) (σ : dx_V) : Prop := dx_G tM E d RMM cMM_select 7 none po 7 [some (.inr 0), some (.inl v1), some (.inl v2), none, none, none, none] [] σ
def g_MM_select_43 (E : dx_E) (d : Nat) (po : dx_P) (v1 v2 v3 v4 : Int32) (σ : dx_V) : Prop := dx_G tM E d RMM cMM_select 7 none po 43 [some (.inr 0), some (.inl v1), some (.inl v2), some (.inl v3), some (.inl v4), none, none] [] σ
def g_MM_select_75 (E : dx_E) (d : Nat) (po : dx_P) (v1 v2 v4 : Int32) (σ : dx_V) : Prop := dx_G tM E d RMM cMM_select 7 none po 75 [some (.inr 0), some (.inl v1), some (.inl v2), none, some (.inl v4), none, none] [] σ
def g_MM_select_90 (E : dx_E) (d : Nat) (po : dx_P) (v1 v2 v4 v5 v6 : Int32) (σ : dx_V) : Prop := dx_G tM E d RMM cMM_select 7 none po 90 [some (.inr 0), some (.inl v1), some (.inl v2), none, some (.inl v4), some (.inl v5), some (.inl v6)] [] σ
set_option maxRecDepth 100000 in
set_option maxHeartbeats 4000000 in
theorem r_MM_select {E : dx_E} {d : Nat} {a1 : Int32} {σ : dx_V} {po : dx_P} (h : g_MM_select_7 E (d + 1) po a1 1 (dx_u σ 0 33 0)) : m_MM_select E (d + 1) a1 σ po := by
  refine dx_entry (by decide) (Nat.le_of_ble_eq_true rfl) ?_
  show dx_G tM E (d + 1) RMM cMM_select 7 none po 0 [some (.inr 0), some (.inl a1), none, none, none, none, none] [] σ
  refine dx_aload_n dMM_select_0 rfl ?_
  refine dx_iconst (v := 0) dMM_select_1 (by decide) ?_
  refine dx_put dMM_select_2 fpMM_143 rfl rfl (Or.inl rfl) ?_
  refine dx_iconst (v := 1) dMM_select_5 (by decide) ?_
  refine dx_istore_n (L' := [some (.inr 0), some (.inl a1), some (.inl 1), none, none, none, none]) dMM_select_6 (Nat.le_of_ble_eq_true rfl) rfl ?_
  exact dx_less (L' := [some (.inr 0), some (.inl a1), some (.inl 1), none, none, none, none]) ⟨rfl, rfl, rfl, trivial⟩ h
set_option maxRecDepth 100000 in
set_option maxHeartbeats 4000000 in
theorem r_MM_select_7 {E : dx_E} {d : Nat} {po : dx_P} {v1 v2 : Int32} {σ : dx_V} (h : ((σ 0 0) < v2 → po none σ) ∧ (¬ (σ 0 0) < v2 → vp_in v2 16 ∧ (((σ 15 v2.toNatClampNeg) = 0 → g_MM_select_7 E (d + 1) po v1 (v2 + 1) σ) ∧ (¬ (σ 15 v2.toNatClampNeg) = 0 → dx_ci (m_MM_hasChild E d v2 1 σ) (fun x2 σ1 => (¬ x2 = 0 → g_MM_select_7 E (d + 1) po v1 (v2 + 1) σ1) ∧ (x2 = 0 → dx_ci (m_MM_waiter E d v2 v1 σ1) (fun x4 σ3 => g_MM_select_43 E (d + 1) po v1 v2 v2 x4 σ3))))))) : g_MM_select_7 E (d + 1) po v1 v2 σ := by
  show dx_G tM E (d + 1) RMM cMM_select 7 none po 7 [some (.inr 0), some (.inl v1), some (.inl v2), none, none, none, none] [] σ
  refine dx_iload_n dMM_select_7 rfl ?_
  refine dx_aload_n dMM_select_8 rfl ?_
  refine dx_geti dMM_select_9 flMM_89 rfl rfl ?_
  refine dx_icmp_gt 161 dMM_select_12 (by decide) (fun q => ?_) (fun q => ?_)
  · have h := h.1 q
    exact dx_vret dMM_select_161 rfl h
  · have h := h.2 q
    refine dx_aload_n dMM_select_15 rfl ?_
    refine dx_getr dMM_select_16 flMM_53 rfl rfl ?_
    refine dx_iload_n dMM_select_19 rfl ?_
    obtain ⟨hi, h⟩ := h
    refine dx_baload dMM_select_20 rfl hi ?_
    refine dx_if_eq 155 dMM_select_21 (by decide) (fun q => ?_) (fun q => ?_)
    · have h := h.1 q
      refine dx_iinc (v := v2 + 1) (L' := [some (.inr 0), some (.inl v1), some (.inl (v2 + 1)), none, none, none, none]) dMM_select_155 rfl rfl rfl ?_
      refine dx_goto 7 dMM_select_158 (by decide) ?_
      exact dx_less (L' := [some (.inr 0), some (.inl v1), some (.inl (v2 + 1)), none, none, none, none]) ⟨rfl, rfl, rfl, trivial⟩ h
    · have h := h.2 q
      refine dx_aload_n dMM_select_24 rfl ?_
      refine dx_iload_n dMM_select_25 rfl ?_
      refine dx_iconst (v := 1) dMM_select_26 (by decide) ?_
      obtain ⟨pp, hm, hk⟩ := h
      refine dx_callvi [.inl v2, .inl 1] [] dMM_select_27 cvMM_93 rfl (Nat.le_of_ble_eq_true rfl) rfl hm (fun x2 σ1 hp => ?_)
      have h := hk x2 σ1 hp
      refine dx_if_ne 155 dMM_select_30 (by decide) (fun q => ?_) (fun q => ?_)
      · have h := h.1 q
        refine dx_iinc (v := v2 + 1) (L' := [some (.inr 0), some (.inl v1), some (.inl (v2 + 1)), none, none, none, none]) dMM_select_155 rfl rfl rfl ?_
        refine dx_goto 7 dMM_select_158 (by decide) ?_
        exact dx_less (L' := [some (.inr 0), some (.inl v1), some (.inl (v2 + 1)), none, none, none, none]) ⟨rfl, rfl, rfl, trivial⟩ h
      · have h := h.2 q
        refine dx_iload_n dMM_select_33 rfl ?_
        refine dx_istore_n (L' := [some (.inr 0), some (.inl v1), some (.inl v2), some (.inl v2), none, none, none]) dMM_select_34 (Nat.le_of_ble_eq_true rfl) rfl ?_
        refine dx_aload_n dMM_select_35 rfl ?_
        refine dx_iload_n dMM_select_36 rfl ?_
        refine dx_iload_n dMM_select_37 rfl ?_
        obtain ⟨pp, hm, hk⟩ := h
        refine dx_callvi [.inl v2, .inl v1] [] dMM_select_38 cvMM_146 rfl (Nat.le_of_ble_eq_true rfl) rfl hm (fun x4 σ3 hp => ?_)
        have h := hk x4 σ3 hp
        refine dx_istore (L' := [some (.inr 0), some (.inl v1), some (.inl v2), some (.inl v2), some (.inl x4), none, none]) dMM_select_41 (Nat.le_of_ble_eq_true rfl) rfl ?_
        exact dx_less (L' := [some (.inr 0), some (.inl v1), some (.inl v2), some (.inl v2), some (.inl x4), none, none]) ⟨rfl, rfl, rfl, rfl, rfl, trivial⟩ h
set_option maxRecDepth 100000 in
set_option maxHeartbeats 4000000 in
theorem r_MM_select_43 {E : dx_E} {d : Nat} {po : dx_P} {v1 v2 v3 v4 : Int32} {σ : dx_V} (h : (0 ≤ v4 → g_MM_select_75 E (d + 1) po v1 v2 v4 σ) ∧ (¬ 0 ≤ v4 → vp_in v3 16 ∧ (((σ 1 v3.toNatClampNeg) = 0 → g_MM_select_75 E (d + 1) po v1 v2 v4 σ) ∧ (¬ (σ 1 v3.toNatClampNeg) = 0 → vp_in v3 16 ∧ (dx_ci (m_MM_waiter E d (σ 1 v3.toNatClampNeg) v1 σ) (fun x2 σ1 => g_MM_select_43 E (d + 1) po v1 v2 (σ 1 v3.toNatClampNeg) x2 σ1)))))) : g_MM_select_43 E (d + 1) po v1 v2 v3 v4 σ := by
  show dx_G tM E (d + 1) RMM cMM_select 7 none po 43 [some (.inr 0), some (.inl v1), some (.inl v2), some (.inl v3), some (.inl v4), none, none] [] σ
  refine dx_iload dMM_select_43 rfl ?_
  refine dx_if_ge 75 dMM_select_45 (by decide) (fun q => ?_) (fun q => ?_)
  · have h := h.1 q
    exact dx_less (L' := [some (.inr 0), some (.inl v1), some (.inl v2), none, some (.inl v4), none, none]) ⟨rfl, rfl, rfl, rfl, trivial⟩ h
  · have h := h.2 q
    refine dx_aload_n dMM_select_48 rfl ?_
    refine dx_getr dMM_select_49 flMM_7 rfl rfl ?_
    refine dx_iload_n dMM_select_52 rfl ?_
    obtain ⟨hi, h⟩ := h
    refine dx_iaload dMM_select_53 rfl hi ?_
    refine dx_if_eq 75 dMM_select_54 (by decide) (fun q => ?_) (fun q => ?_)
    · have h := h.1 q
      exact dx_less (L' := [some (.inr 0), some (.inl v1), some (.inl v2), none, some (.inl v4), none, none]) ⟨rfl, rfl, rfl, rfl, trivial⟩ h
    · have h := h.2 q
      refine dx_aload_n dMM_select_57 rfl ?_
      refine dx_getr dMM_select_58 flMM_7 rfl rfl ?_
      refine dx_iload_n dMM_select_61 rfl ?_
      obtain ⟨hi, h⟩ := h
      refine dx_iaload dMM_select_62 rfl hi ?_
      refine dx_istore_n (L' := [some (.inr 0), some (.inl v1), some (.inl v2), some (.inl (σ 1 v3.toNatClampNeg)), some (.inl v4), none, none]) dMM_select_63 (Nat.le_of_ble_eq_true rfl) rfl ?_
      refine dx_aload_n dMM_select_64 rfl ?_
      refine dx_iload_n dMM_select_65 rfl ?_
      refine dx_iload_n dMM_select_66 rfl ?_
      obtain ⟨pp, hm, hk⟩ := h
      refine dx_callvi [.inl (σ 1 v3.toNatClampNeg), .inl v1] [] dMM_select_67 cvMM_146 rfl (Nat.le_of_ble_eq_true rfl) rfl hm (fun x2 σ1 hp => ?_)
      have h := hk x2 σ1 hp
      refine dx_istore (L' := [some (.inr 0), some (.inl v1), some (.inl v2), some (.inl (σ 1 v3.toNatClampNeg)), some (.inl x2), none, none]) dMM_select_70 (Nat.le_of_ble_eq_true rfl) rfl ?_
      refine dx_goto 43 dMM_select_72 (by decide) ?_
      exact dx_less (L' := [some (.inr 0), some (.inl v1), some (.inl v2), some (.inl (σ 1 v3.toNatClampNeg)), some (.inl x2), none, none]) ⟨rfl, rfl, rfl, rfl, rfl, trivial⟩ h
set_option maxRecDepth 100000 in
set_option maxHeartbeats 4000000 in
theorem r_MM_select_75 {E : dx_E} {d : Nat} {po : dx_P} {v1 v2 v4 : Int32} {σ : dx_V} (h : (v4 < 0 → g_MM_select_90 E (d + 1) po v1 v2 v4 0 0 σ) ∧ (¬ v4 < 0 → g_MM_select_90 E (d + 1) po v1 v2 v4 1 0 σ)) : g_MM_select_75 E (d + 1) po v1 v2 v4 σ := by
  show dx_G tM E (d + 1) RMM cMM_select 7 none po 75 [some (.inr 0), some (.inl v1), some (.inl v2), none, some (.inl v4), none, none] [] σ
  refine dx_iload dMM_select_75 rfl ?_
  refine dx_if_lt 84 dMM_select_77 (by decide) (fun q => ?_) (fun q => ?_)
  · have h := h.1 q
    refine dx_iconst (v := 0) dMM_select_84 (by decide) ?_
    refine dx_istore (L' := [some (.inr 0), some (.inl v1), some (.inl v2), none, some (.inl v4), some (.inl 0), none]) dMM_select_85 (Nat.le_of_ble_eq_true rfl) rfl ?_
    refine dx_iconst (v := 0) dMM_select_87 (by decide) ?_
    refine dx_istore (L' := [some (.inr 0), some (.inl v1), some (.inl v2), none, some (.inl v4), some (.inl 0), some (.inl 0)]) dMM_select_88 (Nat.le_of_ble_eq_true rfl) rfl ?_
    exact dx_less (L' := [some (.inr 0), some (.inl v1), some (.inl v2), none, some (.inl v4), some (.inl 0), some (.inl 0)]) ⟨rfl, rfl, rfl, rfl, rfl, rfl, trivial⟩ h
  · have h := h.2 q
    refine dx_iconst (v := 1) dMM_select_80 (by decide) ?_
    refine dx_goto 85 dMM_select_81 (by decide) ?_
    refine dx_istore (L' := [some (.inr 0), some (.inl v1), some (.inl v2), none, some (.inl v4), some (.inl 1), none]) dMM_select_85 (Nat.le_of_ble_eq_true rfl) rfl ?_
    refine dx_iconst (v := 0) dMM_select_87 (by decide) ?_
    refine dx_istore (L' := [some (.inr 0), some (.inl v1), some (.inl v2), none, some (.inl v4), some (.inl 1), some (.inl 0)]) dMM_select_88 (Nat.le_of_ble_eq_true rfl) rfl ?_
    exact dx_less (L' := [some (.inr 0), some (.inl v1), some (.inl v2), none, some (.inl v4), some (.inl 1), some (.inl 0)]) ⟨rfl, rfl, rfl, rfl, rfl, rfl, trivial⟩ h
set_option maxRecDepth 100000 in
set_option maxHeartbeats 4000000 in
theorem r_MM_select_90 {E : dx_E} {d : Nat} {po : dx_P} {v1 v2 v4 v5 v6 : Int32} {σ : dx_V} (h : ((σ 0 33) ≤ v6 → (v5 = 0 → g_MM_select_7 E (d + 1) po v1 (v2 + 1) σ) ∧ (¬ v5 = 0 → vp_in (σ 0 33) 20 ∧ (g_MM_select_7 E (d + 1) po v1 (v2 + 1) (dx_u (dx_u σ 23 (σ 0 33).toNatClampNeg v4) 0 33 ((σ 0 33) + 1))))) ∧ (¬ (σ 0 33) ≤ v6 → (v5 = 0 → g_MM_select_90 E (d + 1) po v1 v2 v4 0 (v6 + 1) σ) ∧ (¬ v5 = 0 → vp_in v6 20 ∧ (((σ 23 v6.toNatClampNeg) = v4 → g_MM_select_90 E (d + 1) po v1 v2 v4 0 (v6 + 1) σ) ∧ (¬ (σ 23 v6.toNatClampNeg) = v4 → g_MM_select_90 E (d + 1) po v1 v2 v4 1 (v6 + 1) σ))))) : g_MM_select_90 E (d + 1) po v1 v2 v4 v5 v6 σ := by
  show dx_G tM E (d + 1) RMM cMM_select 7 none po 90 [some (.inr 0), some (.inl v1), some (.inl v2), none, some (.inl v4), some (.inl v5), some (.inl v6)] [] σ
  refine dx_iload dMM_select_90 rfl ?_
  refine dx_aload_n dMM_select_92 rfl ?_
  refine dx_geti dMM_select_93 flMM_143 rfl rfl ?_
  refine dx_icmp_ge 129 dMM_select_96 (by decide) (fun q => ?_) (fun q => ?_)
  · have h := h.1 q
    refine dx_iload dMM_select_129 rfl ?_
    refine dx_if_eq 155 dMM_select_131 (by decide) (fun q => ?_) (fun q => ?_)
    · have h := h.1 q
      refine dx_iinc (v := v2 + 1) (L' := [some (.inr 0), some (.inl v1), some (.inl (v2 + 1)), none, some (.inl v4), some (.inl v5), some (.inl v6)]) dMM_select_155 rfl rfl rfl ?_
      refine dx_goto 7 dMM_select_158 (by decide) ?_
      exact dx_less (L' := [some (.inr 0), some (.inl v1), some (.inl (v2 + 1)), none, none, none, none]) ⟨rfl, rfl, rfl, trivial⟩ h
    · have h := h.2 q
      refine dx_aload_n dMM_select_134 rfl ?_
      refine dx_getr dMM_select_135 flMM_77 rfl rfl ?_
      refine dx_aload_n dMM_select_138 rfl ?_
      refine dx_geti dMM_select_139 flMM_143 rfl rfl ?_
      refine dx_iload dMM_select_142 rfl ?_
      obtain ⟨hi, h⟩ := h
      refine dx_iastore dMM_select_144 rfl hi ?_
      refine dx_aload_n dMM_select_145 rfl ?_
      refine dx_dup dMM_select_146 ?_
      refine dx_geti dMM_select_147 flMM_143 rfl rfl ?_
      refine dx_iconst (v := 1) dMM_select_150 (by decide) ?_
      refine dx_iadd dMM_select_151 ?_
      refine dx_put dMM_select_152 fpMM_143 rfl rfl (Or.inl rfl) ?_
      refine dx_iinc (v := v2 + 1) (L' := [some (.inr 0), some (.inl v1), some (.inl (v2 + 1)), none, some (.inl v4), some (.inl v5), some (.inl v6)]) dMM_select_155 rfl rfl rfl ?_
      refine dx_goto 7 dMM_select_158 (by decide) ?_
      exact dx_less (L' := [some (.inr 0), some (.inl v1), some (.inl (v2 + 1)), none, none, none, none]) ⟨rfl, rfl, rfl, trivial⟩ h
  · have h := h.2 q
    refine dx_iload dMM_select_99 rfl ?_
    refine dx_if_eq 120 dMM_select_101 (by decide) (fun q => ?_) (fun q => ?_)
    · have h := h.1 q
      refine dx_iconst (v := 0) dMM_select_120 (by decide) ?_
      refine dx_istore (L' := [some (.inr 0), some (.inl v1), some (.inl v2), none, some (.inl v4), some (.inl 0), some (.inl v6)]) dMM_select_121 (Nat.le_of_ble_eq_true rfl) rfl ?_
      refine dx_iinc (v := v6 + 1) (L' := [some (.inr 0), some (.inl v1), some (.inl v2), none, some (.inl v4), some (.inl 0), some (.inl (v6 + 1))]) dMM_select_123 rfl rfl rfl ?_
      refine dx_goto 90 dMM_select_126 (by decide) ?_
      exact dx_less (L' := [some (.inr 0), some (.inl v1), some (.inl v2), none, some (.inl v4), some (.inl 0), some (.inl (v6 + 1))]) ⟨rfl, rfl, rfl, rfl, rfl, rfl, trivial⟩ h
    · have h := h.2 q
      refine dx_aload_n dMM_select_104 rfl ?_
      refine dx_getr dMM_select_105 flMM_77 rfl rfl ?_
      refine dx_iload dMM_select_108 rfl ?_
      obtain ⟨hi, h⟩ := h
      refine dx_iaload dMM_select_110 rfl hi ?_
      refine dx_iload dMM_select_111 rfl ?_
      refine dx_icmp_eq 120 dMM_select_113 (by decide) (fun q => ?_) (fun q => ?_)
      · have h := h.1 q
        refine dx_iconst (v := 0) dMM_select_120 (by decide) ?_
        refine dx_istore (L' := [some (.inr 0), some (.inl v1), some (.inl v2), none, some (.inl v4), some (.inl 0), some (.inl v6)]) dMM_select_121 (Nat.le_of_ble_eq_true rfl) rfl ?_
        refine dx_iinc (v := v6 + 1) (L' := [some (.inr 0), some (.inl v1), some (.inl v2), none, some (.inl v4), some (.inl 0), some (.inl (v6 + 1))]) dMM_select_123 rfl rfl rfl ?_
        refine dx_goto 90 dMM_select_126 (by decide) ?_
        exact dx_less (L' := [some (.inr 0), some (.inl v1), some (.inl v2), none, some (.inl v4), some (.inl 0), some (.inl (v6 + 1))]) ⟨rfl, rfl, rfl, rfl, rfl, rfl, trivial⟩ h
      · have h := h.2 q
        refine dx_iconst (v := 1) dMM_select_116 (by decide) ?_
        refine dx_goto 121 dMM_select_117 (by decide) ?_
        refine dx_istore (L' := [some (.inr 0), some (.inl v1), some (.inl v2), none, some (.inl v4), some (.inl 1), some (.inl v6)]) dMM_select_121 (Nat.le_of_ble_eq_true rfl) rfl ?_
        refine dx_iinc (v := v6 + 1) (L' := [some (.inr 0), some (.inl v1), some (.inl v2), none, some (.inl v4), some (.inl 1), some (.inl (v6 + 1))]) dMM_select_123 rfl rfl rfl ?_
        refine dx_goto 90 dMM_select_126 (by decide) ?_
        exact dx_less (L' := [some (.inr 0), some (.inl v1), some (.inl v2), none, some (.inl v4), some (.inl 1), some (.inl (v6 + 1))]) ⟨rfl, rfl, rfl, rfl, rfl, rfl, trivial⟩ h
def g_MM_domain_12 (E : dx_E) (d : Nat) (po : dx_P) (v1 v2 : Int32) (σ : dx_V) : Prop := dx_G tM E d RMM cMM_domain 3 (some .int) po 12 [some (.inr 0), some (.inl v1), some (.inl v2)] [] σ
def g_MM_domain_38 (E : dx_E) (d : Nat) (po : dx_P) (v1 v2 : Int32) (σ : dx_V) : Prop := dx_G tM E d RMM cMM_domain 3 (some .int) po 38 [some (.inr 0), some (.inl v1), some (.inl v2)] [] σ
set_option maxRecDepth 100000 in
set_option maxHeartbeats 4000000 in
theorem r_MM_domain {E : dx_E} {d : Nat} {a1 : Int32} {σ : dx_V} {po : dx_P} (h : vp_in a1 20 ∧ (vp_in (σ 4 a1.toNatClampNeg) 16 ∧ (g_MM_domain_12 E (d + 1) po a1 (σ 1 (σ 4 a1.toNatClampNeg).toNatClampNeg) σ))) : m_MM_domain E (d + 1) a1 σ po := by
  refine dx_entry (by decide) (Nat.le_of_ble_eq_true rfl) ?_
  show dx_G tM E (d + 1) RMM cMM_domain 3 (some .int) po 0 [some (.inr 0), some (.inl a1), none] [] σ
  refine dx_aload_n dMM_domain_0 rfl ?_
  refine dx_getr dMM_domain_1 flMM_7 rfl rfl ?_
  refine dx_aload_n dMM_domain_4 rfl ?_
  refine dx_getr dMM_domain_5 flMM_19 rfl rfl ?_
  refine dx_iload_n dMM_domain_8 rfl ?_
  obtain ⟨hi, h⟩ := h
  refine dx_iaload dMM_domain_9 rfl hi ?_
  obtain ⟨hi, h⟩ := h
  refine dx_iaload dMM_domain_10 rfl hi ?_
  refine dx_istore_n (L' := [some (.inr 0), some (.inl a1), some (.inl (σ 1 (σ 4 a1.toNatClampNeg).toNatClampNeg))]) dMM_domain_11 (Nat.le_of_ble_eq_true rfl) rfl ?_
  exact dx_less (L' := [some (.inr 0), some (.inl a1), some (.inl (σ 1 (σ 4 a1.toNatClampNeg).toNatClampNeg))]) ⟨rfl, rfl, rfl, trivial⟩ h
set_option maxRecDepth 100000 in
set_option maxHeartbeats 4000000 in
theorem r_MM_domain_12 {E : dx_E} {d : Nat} {po : dx_P} {v1 v2 : Int32} {σ : dx_V} (h : (v2 = 0 → po (some v2) σ) ∧ (¬ v2 = 0 → dx_ci (m_MM_compound E d v2 σ) (fun x2 σ1 => (x2 = 0 → g_MM_domain_38 E (d + 1) po v1 v2 σ1) ∧ (¬ x2 = 0 → vp_in v1 20 ∧ (dx_ci (m_MM_below E d (σ1 6 v1.toNatClampNeg) v2 σ1) (fun x4 σ3 => (¬ x4 = 0 → po (some v2) σ3) ∧ (x4 = 0 → g_MM_domain_38 E (d + 1) po v1 v2 σ3))))))) : g_MM_domain_12 E (d + 1) po v1 v2 σ := by
  show dx_G tM E (d + 1) RMM cMM_domain 3 (some .int) po 12 [some (.inr 0), some (.inl v1), some (.inl v2)] [] σ
  refine dx_iload_n dMM_domain_12 rfl ?_
  refine dx_if_eq 48 dMM_domain_13 (by decide) (fun q => ?_) (fun q => ?_)
  · have h := h.1 q
    refine dx_iload_n dMM_domain_48 rfl ?_
    exact dx_ret dMM_domain_49 rfl rfl h
  · have h := h.2 q
    refine dx_aload_n dMM_domain_16 rfl ?_
    refine dx_iload_n dMM_domain_17 rfl ?_
    obtain ⟨pp, hm, hk⟩ := h
    refine dx_callvi [.inl v2] [] dMM_domain_18 cvMM_150 rfl (Nat.le_of_ble_eq_true rfl) rfl hm (fun x2 σ1 hp => ?_)
    have h := hk x2 σ1 hp
    refine dx_if_eq 38 dMM_domain_21 (by decide) (fun q => ?_) (fun q => ?_)
    · have h := h.1 q
      exact dx_less (L' := [some (.inr 0), some (.inl v1), some (.inl v2)]) ⟨rfl, rfl, rfl, trivial⟩ h
    · have h := h.2 q
      refine dx_aload_n dMM_domain_24 rfl ?_
      refine dx_aload_n dMM_domain_25 rfl ?_
      refine dx_getr dMM_domain_26 flMM_25 rfl rfl ?_
      refine dx_iload_n dMM_domain_29 rfl ?_
      obtain ⟨hi, h⟩ := h
      refine dx_iaload dMM_domain_30 rfl hi ?_
      refine dx_iload_n dMM_domain_31 rfl ?_
      obtain ⟨pp, hm, hk⟩ := h
      refine dx_callvi [.inl (σ1 6 v1.toNatClampNeg), .inl v2] [] dMM_domain_32 cvMM_153 rfl (Nat.le_of_ble_eq_true rfl) rfl hm (fun x4 σ3 hp => ?_)
      have h := hk x4 σ3 hp
      refine dx_if_ne 48 dMM_domain_35 (by decide) (fun q => ?_) (fun q => ?_)
      · have h := h.1 q
        refine dx_iload_n dMM_domain_48 rfl ?_
        exact dx_ret dMM_domain_49 rfl rfl h
      · have h := h.2 q
        exact dx_less (L' := [some (.inr 0), some (.inl v1), some (.inl v2)]) ⟨rfl, rfl, rfl, trivial⟩ h
set_option maxRecDepth 100000 in
set_option maxHeartbeats 4000000 in
theorem r_MM_domain_38 {E : dx_E} {d : Nat} {po : dx_P} {v1 v2 : Int32} {σ : dx_V} (h : vp_in v2 16 ∧ (g_MM_domain_12 E (d + 1) po v1 (σ 1 v2.toNatClampNeg) σ)) : g_MM_domain_38 E (d + 1) po v1 v2 σ := by
  show dx_G tM E (d + 1) RMM cMM_domain 3 (some .int) po 38 [some (.inr 0), some (.inl v1), some (.inl v2)] [] σ
  refine dx_aload_n dMM_domain_38 rfl ?_
  refine dx_getr dMM_domain_39 flMM_7 rfl rfl ?_
  refine dx_iload_n dMM_domain_42 rfl ?_
  obtain ⟨hi, h⟩ := h
  refine dx_iaload dMM_domain_43 rfl hi ?_
  refine dx_istore_n (L' := [some (.inr 0), some (.inl v1), some (.inl (σ 1 v2.toNatClampNeg))]) dMM_domain_44 (Nat.le_of_ble_eq_true rfl) rfl ?_
  refine dx_goto 12 dMM_domain_45 (by decide) ?_
  exact dx_less (L' := [some (.inr 0), some (.inl v1), some (.inl (σ 1 v2.toNatClampNeg))]) ⟨rfl, rfl, rfl, trivial⟩ h
set_option maxRecDepth 100000 in
set_option maxHeartbeats 4000000 in
theorem r_MM_leaves {E : dx_E} {d : Nat} {a1 a2 : Int32} {σ : dx_V} {po : dx_P} (h : vp_in a1 20 ∧ (((σ 6 a1.toNatClampNeg) = (-1) → po (some 0) σ) ∧ (¬ (σ 6 a1.toNatClampNeg) = (-1) → vp_in a2 16 ∧ (((σ 15 a2.toNatClampNeg) = 0 → po (some 0) σ) ∧ (¬ (σ 15 a2.toNatClampNeg) = 0 → dx_ci (m_MM_domain E d a1 σ) (fun x2 σ1 => dx_ci (m_MM_below E d a2 x2 σ1) (fun x4 σ3 => (x4 = 0 → po (some 0) σ3) ∧ (¬ x4 = 0 → po (some 1) σ3)))))))) : m_MM_leaves E (d + 1) a1 a2 σ po := by
  refine dx_entry (by decide) (Nat.le_of_ble_eq_true rfl) ?_
  show dx_G tM E (d + 1) RMM cMM_leaves 3 (some .boolean) po 0 [some (.inr 0), some (.inl a1), some (.inl a2)] [] σ
  refine dx_aload_n dMM_leaves_0 rfl ?_
  refine dx_getr dMM_leaves_1 flMM_25 rfl rfl ?_
  refine dx_iload_n dMM_leaves_4 rfl ?_
  obtain ⟨hi, h⟩ := h
  refine dx_iaload dMM_leaves_5 rfl hi ?_
  refine dx_iconst (v := (-1)) dMM_leaves_6 (by decide) ?_
  refine dx_icmp_eq 36 dMM_leaves_7 (by decide) (fun q => ?_) (fun q => ?_)
  · have h := h.1 q
    refine dx_iconst (v := 0) dMM_leaves_36 (by decide) ?_
    exact dx_ret dMM_leaves_37 rfl rfl h
  · have h := h.2 q
    refine dx_aload_n dMM_leaves_10 rfl ?_
    refine dx_getr dMM_leaves_11 flMM_53 rfl rfl ?_
    refine dx_iload_n dMM_leaves_14 rfl ?_
    obtain ⟨hi, h⟩ := h
    refine dx_baload dMM_leaves_15 rfl hi ?_
    refine dx_if_eq 36 dMM_leaves_16 (by decide) (fun q => ?_) (fun q => ?_)
    · have h := h.1 q
      refine dx_iconst (v := 0) dMM_leaves_36 (by decide) ?_
      exact dx_ret dMM_leaves_37 rfl rfl h
    · have h := h.2 q
      refine dx_aload_n dMM_leaves_19 rfl ?_
      refine dx_iload_n dMM_leaves_20 rfl ?_
      refine dx_aload_n dMM_leaves_21 rfl ?_
      refine dx_iload_n dMM_leaves_22 rfl ?_
      obtain ⟨pp, hm, hk⟩ := h
      refine dx_callvi [.inl a1] [.inl a2, .inr 0] dMM_leaves_23 cvMM_157 rfl (Nat.le_of_ble_eq_true rfl) rfl hm (fun x2 σ1 hp => ?_)
      have h := hk x2 σ1 hp
      obtain ⟨pp, hm, hk⟩ := h
      refine dx_callvi [.inl a2, .inl x2] [] dMM_leaves_26 cvMM_153 rfl (Nat.le_of_ble_eq_true rfl) rfl hm (fun x4 σ3 hp => ?_)
      have h := hk x4 σ3 hp
      refine dx_if_eq 36 dMM_leaves_29 (by decide) (fun q => ?_) (fun q => ?_)
      · have h := h.1 q
        refine dx_iconst (v := 0) dMM_leaves_36 (by decide) ?_
        exact dx_ret dMM_leaves_37 rfl rfl h
      · have h := h.2 q
        refine dx_iconst (v := 1) dMM_leaves_32 (by decide) ?_
        refine dx_goto 37 dMM_leaves_33 (by decide) ?_
        exact dx_ret dMM_leaves_37 rfl rfl h
def g_MM_clash_2 (E : dx_E) (d : Nat) (po : dx_P) (v1 v2 v3 : Int32) (σ : dx_V) : Prop := dx_G tM E d RMM cMM_clash 4 (some .boolean) po 2 [some (.inr 0), some (.inl v1), some (.inl v2), some (.inl v3)] [] σ
set_option maxRecDepth 100000 in
set_option maxHeartbeats 4000000 in
theorem r_MM_clash {E : dx_E} {d : Nat} {a1 a2 : Int32} {σ : dx_V} {po : dx_P} (h : g_MM_clash_2 E (d + 1) po a1 a2 1 σ) : m_MM_clash E (d + 1) a1 a2 σ po := by
  refine dx_entry (by decide) (Nat.le_of_ble_eq_true rfl) ?_
  show dx_G tM E (d + 1) RMM cMM_clash 4 (some .boolean) po 0 [some (.inr 0), some (.inl a1), some (.inl a2), none] [] σ
  refine dx_iconst (v := 1) dMM_clash_0 (by decide) ?_
  refine dx_istore_n (L' := [some (.inr 0), some (.inl a1), some (.inl a2), some (.inl 1)]) dMM_clash_1 (Nat.le_of_ble_eq_true rfl) rfl ?_
  exact dx_less (L' := [some (.inr 0), some (.inl a1), some (.inl a2), some (.inl 1)]) ⟨rfl, rfl, rfl, rfl, trivial⟩ h
set_option maxRecDepth 100000 in
set_option maxHeartbeats 4000000 in
theorem r_MM_clash_2 {E : dx_E} {d : Nat} {po : dx_P} {v1 v2 v3 : Int32} {σ : dx_V} (h : ((σ 0 0) < v3 → po (some 0) σ) ∧ (¬ (σ 0 0) < v3 → dx_ci (m_MM_leaves E d v1 v3 σ) (fun x2 σ1 => (x2 = 0 → g_MM_clash_2 E (d + 1) po v1 v2 (v3 + 1) σ1) ∧ (¬ x2 = 0 → dx_ci (m_MM_leaves E d v2 v3 σ1) (fun x4 σ3 => (x4 = 0 → g_MM_clash_2 E (d + 1) po v1 v2 (v3 + 1) σ3) ∧ (¬ x4 = 0 → po (some 1) σ3)))))) : g_MM_clash_2 E (d + 1) po v1 v2 v3 σ := by
  show dx_G tM E (d + 1) RMM cMM_clash 4 (some .boolean) po 2 [some (.inr 0), some (.inl v1), some (.inl v2), some (.inl v3)] [] σ
  refine dx_iload_n dMM_clash_2 rfl ?_
  refine dx_aload_n dMM_clash_3 rfl ?_
  refine dx_geti dMM_clash_4 flMM_89 rfl rfl ?_
  refine dx_icmp_gt 36 dMM_clash_7 (by decide) (fun q => ?_) (fun q => ?_)
  · have h := h.1 q
    refine dx_iconst (v := 0) dMM_clash_36 (by decide) ?_
    exact dx_ret dMM_clash_37 rfl rfl h
  · have h := h.2 q
    refine dx_aload_n dMM_clash_10 rfl ?_
    refine dx_iload_n dMM_clash_11 rfl ?_
    refine dx_iload_n dMM_clash_12 rfl ?_
    obtain ⟨pp, hm, hk⟩ := h
    refine dx_callvi [.inl v1, .inl v3] [] dMM_clash_13 cvMM_161 rfl (Nat.le_of_ble_eq_true rfl) rfl hm (fun x2 σ1 hp => ?_)
    have h := hk x2 σ1 hp
    refine dx_if_eq 30 dMM_clash_16 (by decide) (fun q => ?_) (fun q => ?_)
    · have h := h.1 q
      refine dx_iinc (v := v3 + 1) (L' := [some (.inr 0), some (.inl v1), some (.inl v2), some (.inl (v3 + 1))]) dMM_clash_30 rfl rfl rfl ?_
      refine dx_goto 2 dMM_clash_33 (by decide) ?_
      exact dx_less (L' := [some (.inr 0), some (.inl v1), some (.inl v2), some (.inl (v3 + 1))]) ⟨rfl, rfl, rfl, rfl, trivial⟩ h
    · have h := h.2 q
      refine dx_aload_n dMM_clash_19 rfl ?_
      refine dx_iload_n dMM_clash_20 rfl ?_
      refine dx_iload_n dMM_clash_21 rfl ?_
      obtain ⟨pp, hm, hk⟩ := h
      refine dx_callvi [.inl v2, .inl v3] [] dMM_clash_22 cvMM_161 rfl (Nat.le_of_ble_eq_true rfl) rfl hm (fun x4 σ3 hp => ?_)
      have h := hk x4 σ3 hp
      refine dx_if_eq 30 dMM_clash_25 (by decide) (fun q => ?_) (fun q => ?_)
      · have h := h.1 q
        refine dx_iinc (v := v3 + 1) (L' := [some (.inr 0), some (.inl v1), some (.inl v2), some (.inl (v3 + 1))]) dMM_clash_30 rfl rfl rfl ?_
        refine dx_goto 2 dMM_clash_33 (by decide) ?_
        exact dx_less (L' := [some (.inr 0), some (.inl v1), some (.inl v2), some (.inl (v3 + 1))]) ⟨rfl, rfl, rfl, rfl, trivial⟩ h
      · have h := h.2 q
        refine dx_iconst (v := 1) dMM_clash_28 (by decide) ?_
        exact dx_ret dMM_clash_29 rfl rfl h
def g_MM_settle_7 (E : dx_E) (d : Nat) (po : dx_P) (v1 : Int32) (σ : dx_V) : Prop := dx_G tM E d RMM cMM_settle 6 none po 7 [some (.inr 0), some (.inl v1), none, none, none, none] [] σ
def g_MM_settle_27 (E : dx_E) (d : Nat) (po : dx_P) (v1 v2 v3 v4 : Int32) (σ : dx_V) : Prop := dx_G tM E d RMM cMM_settle 6 none po 27 [some (.inr 0), some (.inl v1), some (.inl v2), some (.inl v3), some (.inl v4), none] [] σ
def g_MM_settle_80 (E : dx_E) (d : Nat) (po : dx_P) (v1 v2 v4 : Int32) (σ : dx_V) : Prop := dx_G tM E d RMM cMM_settle 6 none po 80 [some (.inr 0), some (.inl v1), some (.inl v2), none, some (.inl v4), none] [] σ
def g_MM_settle_102 (E : dx_E) (d : Nat) (po : dx_P) (v1 v2 v4 v5 : Int32) (σ : dx_V) : Prop := dx_G tM E d RMM cMM_settle 6 none po 102 [some (.inr 0), some (.inl v1), some (.inl v2), none, some (.inl v4), some (.inl v5)] [] σ
set_option maxRecDepth 100000 in
set_option maxHeartbeats 4000000 in
theorem r_MM_settle {E : dx_E} {d : Nat} {σ : dx_V} {po : dx_P} (h : g_MM_settle_7 E (d + 1) po 0 (dx_u σ 0 35 0)) : m_MM_settle E (d + 1) σ po := by
  refine dx_entry (by decide) (Nat.le_of_ble_eq_true rfl) ?_
  show dx_G tM E (d + 1) RMM cMM_settle 6 none po 0 [some (.inr 0), none, none, none, none, none] [] σ
  refine dx_aload_n dMM_settle_0 rfl ?_
  refine dx_iconst (v := 0) dMM_settle_1 (by decide) ?_
  refine dx_put dMM_settle_2 fpMM_164 rfl rfl (Or.inl rfl) ?_
  refine dx_iconst (v := 0) dMM_settle_5 (by decide) ?_
  refine dx_istore_n (L' := [some (.inr 0), some (.inl 0), none, none, none, none]) dMM_settle_6 (Nat.le_of_ble_eq_true rfl) rfl ?_
  exact dx_less (L' := [some (.inr 0), some (.inl 0), none, none, none, none]) ⟨rfl, rfl, trivial⟩ h
set_option maxRecDepth 100000 in
set_option maxHeartbeats 4000000 in
theorem r_MM_settle_7 {E : dx_E} {d : Nat} {po : dx_P} {v1 : Int32} {σ : dx_V} (h : ((σ 0 33) ≤ v1 → po none σ) ∧ (¬ (σ 0 33) ≤ v1 → vp_in v1 20 ∧ (g_MM_settle_27 E (d + 1) po v1 (σ 23 v1.toNatClampNeg) 1 0 σ))) : g_MM_settle_7 E (d + 1) po v1 σ := by
  show dx_G tM E (d + 1) RMM cMM_settle 6 none po 7 [some (.inr 0), some (.inl v1), none, none, none, none] [] σ
  refine dx_iload_n dMM_settle_7 rfl ?_
  refine dx_aload_n dMM_settle_8 rfl ?_
  refine dx_geti dMM_settle_9 flMM_143 rfl rfl ?_
  refine dx_icmp_ge 171 dMM_settle_12 (by decide) (fun q => ?_) (fun q => ?_)
  · have h := h.1 q
    exact dx_vret dMM_settle_171 rfl h
  · have h := h.2 q
    refine dx_aload_n dMM_settle_15 rfl ?_
    refine dx_getr dMM_settle_16 flMM_77 rfl rfl ?_
    refine dx_iload_n dMM_settle_19 rfl ?_
    obtain ⟨hi, h⟩ := h
    refine dx_iaload dMM_settle_20 rfl hi ?_
    refine dx_istore_n (L' := [some (.inr 0), some (.inl v1), some (.inl (σ 23 v1.toNatClampNeg)), none, none, none]) dMM_settle_21 (Nat.le_of_ble_eq_true rfl) rfl ?_
    refine dx_iconst (v := 1) dMM_settle_22 (by decide) ?_
    refine dx_istore_n (L' := [some (.inr 0), some (.inl v1), some (.inl (σ 23 v1.toNatClampNeg)), some (.inl 1), none, none]) dMM_settle_23 (Nat.le_of_ble_eq_true rfl) rfl ?_
    refine dx_iconst (v := 0) dMM_settle_24 (by decide) ?_
    refine dx_istore (L' := [some (.inr 0), some (.inl v1), some (.inl (σ 23 v1.toNatClampNeg)), some (.inl 1), some (.inl 0), none]) dMM_settle_25 (Nat.le_of_ble_eq_true rfl) rfl ?_
    exact dx_less (L' := [some (.inr 0), some (.inl v1), some (.inl (σ 23 v1.toNatClampNeg)), some (.inl 1), some (.inl 0), none]) ⟨rfl, rfl, rfl, rfl, rfl, trivial⟩ h
set_option maxRecDepth 100000 in
set_option maxHeartbeats 4000000 in
theorem r_MM_settle_27 {E : dx_E} {d : Nat} {po : dx_P} {v1 v2 v3 v4 : Int32} {σ : dx_V} (h : ((σ 0 35) ≤ v4 → (v3 = 0 → g_MM_settle_7 E (d + 1) po (v1 + 1) σ) ∧ (¬ v3 = 0 → g_MM_settle_102 E (d + 1) po v1 v2 0 0 σ)) ∧ (¬ (σ 0 35) ≤ v4 → (v3 = 0 → g_MM_settle_27 E (d + 1) po v1 v2 0 (v4 + 1) σ) ∧ (¬ v3 = 0 → vp_in v4 20 ∧ (dx_ci (m_MM_clash E d v2 (σ 24 v4.toNatClampNeg) σ) (fun x2 σ1 => (x2 = 0 → g_MM_settle_80 E (d + 1) po v1 v2 v4 σ1) ∧ (¬ x2 = 0 → vp_in v2 20 ∧ (vp_in v4 20 ∧ (vp_in (σ1 24 v4.toNatClampNeg) 20 ∧ (dx_ci (m_MM_below E d (σ1 4 v2.toNatClampNeg) (σ1 4 (σ1 24 v4.toNatClampNeg).toNatClampNeg) σ1) (fun x4 σ3 => (x4 = 0 → g_MM_settle_27 E (d + 1) po v1 v2 0 (v4 + 1) σ3) ∧ (¬ x4 = 0 → g_MM_settle_80 E (d + 1) po v1 v2 v4 σ3))))))))))) : g_MM_settle_27 E (d + 1) po v1 v2 v3 v4 σ := by
  show dx_G tM E (d + 1) RMM cMM_settle 6 none po 27 [some (.inr 0), some (.inl v1), some (.inl v2), some (.inl v3), some (.inl v4), none] [] σ
  refine dx_iload dMM_settle_27 rfl ?_
  refine dx_aload_n dMM_settle_29 rfl ?_
  refine dx_geti dMM_settle_30 flMM_164 rfl rfl ?_
  refine dx_icmp_ge 92 dMM_settle_33 (by decide) (fun q => ?_) (fun q => ?_)
  · have h := h.1 q
    refine dx_iload_n dMM_settle_92 rfl ?_
    refine dx_if_eq 165 dMM_settle_93 (by decide) (fun q => ?_) (fun q => ?_)
    · have h := h.1 q
      refine dx_iinc (v := v1 + 1) (L' := [some (.inr 0), some (.inl (v1 + 1)), some (.inl v2), some (.inl v3), some (.inl v4), none]) dMM_settle_165 rfl rfl rfl ?_
      refine dx_goto 7 dMM_settle_168 (by decide) ?_
      exact dx_less (L' := [some (.inr 0), some (.inl (v1 + 1)), none, none, none, none]) ⟨rfl, rfl, trivial⟩ h
    · have h := h.2 q
      refine dx_iconst (v := 0) dMM_settle_96 (by decide) ?_
      refine dx_istore (L' := [some (.inr 0), some (.inl v1), some (.inl v2), some (.inl v3), some (.inl 0), none]) dMM_settle_97 (Nat.le_of_ble_eq_true rfl) rfl ?_
      refine dx_iconst (v := 0) dMM_settle_99 (by decide) ?_
      refine dx_istore (L' := [some (.inr 0), some (.inl v1), some (.inl v2), some (.inl v3), some (.inl 0), some (.inl 0)]) dMM_settle_100 (Nat.le_of_ble_eq_true rfl) rfl ?_
      exact dx_less (L' := [some (.inr 0), some (.inl v1), some (.inl v2), none, some (.inl 0), some (.inl 0)]) ⟨rfl, rfl, rfl, rfl, rfl, trivial⟩ h
  · have h := h.2 q
    refine dx_iload_n dMM_settle_36 rfl ?_
    refine dx_if_eq 84 dMM_settle_37 (by decide) (fun q => ?_) (fun q => ?_)
    · have h := h.1 q
      refine dx_iconst (v := 0) dMM_settle_84 (by decide) ?_
      refine dx_istore_n (L' := [some (.inr 0), some (.inl v1), some (.inl v2), some (.inl 0), some (.inl v4), none]) dMM_settle_85 (Nat.le_of_ble_eq_true rfl) rfl ?_
      refine dx_iinc (v := v4 + 1) (L' := [some (.inr 0), some (.inl v1), some (.inl v2), some (.inl 0), some (.inl (v4 + 1)), none]) dMM_settle_86 rfl rfl rfl ?_
      refine dx_goto 27 dMM_settle_89 (by decide) ?_
      exact dx_less (L' := [some (.inr 0), some (.inl v1), some (.inl v2), some (.inl 0), some (.inl (v4 + 1)), none]) ⟨rfl, rfl, rfl, rfl, rfl, trivial⟩ h
    · have h := h.2 q
      refine dx_aload_n dMM_settle_40 rfl ?_
      refine dx_iload_n dMM_settle_41 rfl ?_
      refine dx_aload_n dMM_settle_42 rfl ?_
      refine dx_getr dMM_settle_43 flMM_80 rfl rfl ?_
      refine dx_iload dMM_settle_46 rfl ?_
      obtain ⟨hi, h⟩ := h
      refine dx_iaload dMM_settle_48 rfl hi ?_
      obtain ⟨pp, hm, hk⟩ := h
      refine dx_callvi [.inl v2, .inl (σ 24 v4.toNatClampNeg)] [] dMM_settle_49 cvMM_167 rfl (Nat.le_of_ble_eq_true rfl) rfl hm (fun x2 σ1 hp => ?_)
      have h := hk x2 σ1 hp
      refine dx_if_eq 80 dMM_settle_52 (by decide) (fun q => ?_) (fun q => ?_)
      · have h := h.1 q
        exact dx_less (L' := [some (.inr 0), some (.inl v1), some (.inl v2), none, some (.inl v4), none]) ⟨rfl, rfl, rfl, rfl, trivial⟩ h
      · have h := h.2 q
        refine dx_aload_n dMM_settle_55 rfl ?_
        refine dx_aload_n dMM_settle_56 rfl ?_
        refine dx_getr dMM_settle_57 flMM_19 rfl rfl ?_
        refine dx_iload_n dMM_settle_60 rfl ?_
        obtain ⟨hi, h⟩ := h
        refine dx_iaload dMM_settle_61 rfl hi ?_
        refine dx_aload_n dMM_settle_62 rfl ?_
        refine dx_getr dMM_settle_63 flMM_19 rfl rfl ?_
        refine dx_aload_n dMM_settle_66 rfl ?_
        refine dx_getr dMM_settle_67 flMM_80 rfl rfl ?_
        refine dx_iload dMM_settle_70 rfl ?_
        obtain ⟨hi, h⟩ := h
        refine dx_iaload dMM_settle_72 rfl hi ?_
        obtain ⟨hi, h⟩ := h
        refine dx_iaload dMM_settle_73 rfl hi ?_
        obtain ⟨pp, hm, hk⟩ := h
        refine dx_callvi [.inl (σ1 4 v2.toNatClampNeg), .inl (σ1 4 (σ1 24 v4.toNatClampNeg).toNatClampNeg)] [] dMM_settle_74 cvMM_153 rfl (Nat.le_of_ble_eq_true rfl) rfl hm (fun x4 σ3 hp => ?_)
        have h := hk x4 σ3 hp
        refine dx_if_eq 84 dMM_settle_77 (by decide) (fun q => ?_) (fun q => ?_)
        · have h := h.1 q
          refine dx_iconst (v := 0) dMM_settle_84 (by decide) ?_
          refine dx_istore_n (L' := [some (.inr 0), some (.inl v1), some (.inl v2), some (.inl 0), some (.inl v4), none]) dMM_settle_85 (Nat.le_of_ble_eq_true rfl) rfl ?_
          refine dx_iinc (v := v4 + 1) (L' := [some (.inr 0), some (.inl v1), some (.inl v2), some (.inl 0), some (.inl (v4 + 1)), none]) dMM_settle_86 rfl rfl rfl ?_
          refine dx_goto 27 dMM_settle_89 (by decide) ?_
          exact dx_less (L' := [some (.inr 0), some (.inl v1), some (.inl v2), some (.inl 0), some (.inl (v4 + 1)), none]) ⟨rfl, rfl, rfl, rfl, rfl, trivial⟩ h
        · have h := h.2 q
          exact dx_less (L' := [some (.inr 0), some (.inl v1), some (.inl v2), none, some (.inl v4), none]) ⟨rfl, rfl, rfl, rfl, trivial⟩ h
set_option maxRecDepth 100000 in
set_option maxHeartbeats 4000000 in
theorem r_MM_settle_80 {E : dx_E} {d : Nat} {po : dx_P} {v1 v2 v4 : Int32} {σ : dx_V} (h : g_MM_settle_27 E (d + 1) po v1 v2 1 (v4 + 1) σ) : g_MM_settle_80 E (d + 1) po v1 v2 v4 σ := by
  show dx_G tM E (d + 1) RMM cMM_settle 6 none po 80 [some (.inr 0), some (.inl v1), some (.inl v2), none, some (.inl v4), none] [] σ
  refine dx_iconst (v := 1) dMM_settle_80 (by decide) ?_
  refine dx_goto 85 dMM_settle_81 (by decide) ?_
  refine dx_istore_n (L' := [some (.inr 0), some (.inl v1), some (.inl v2), some (.inl 1), some (.inl v4), none]) dMM_settle_85 (Nat.le_of_ble_eq_true rfl) rfl ?_
  refine dx_iinc (v := v4 + 1) (L' := [some (.inr 0), some (.inl v1), some (.inl v2), some (.inl 1), some (.inl (v4 + 1)), none]) dMM_settle_86 rfl rfl rfl ?_
  refine dx_goto 27 dMM_settle_89 (by decide) ?_
  exact dx_less (L' := [some (.inr 0), some (.inl v1), some (.inl v2), some (.inl 1), some (.inl (v4 + 1)), none]) ⟨rfl, rfl, rfl, rfl, rfl, trivial⟩ h
set_option maxRecDepth 100000 in
set_option maxHeartbeats 4000000 in
theorem r_MM_settle_102 {E : dx_E} {d : Nat} {po : dx_P} {v1 v2 v4 v5 : Int32} {σ : dx_V} (h : ((σ 0 35) ≤ v5 → vp_in v4 20 ∧ (g_MM_settle_7 E (d + 1) po (v1 + 1) (dx_u (dx_u σ 24 v4.toNatClampNeg v2) 0 35 (v4 + 1)))) ∧ (¬ (σ 0 35) ≤ v5 → vp_in v5 20 ∧ (dx_ci (m_MM_clash E d v2 (σ 24 v5.toNatClampNeg) σ) (fun x2 σ1 => (¬ x2 = 0 → g_MM_settle_102 E (d + 1) po v1 v2 v4 (v5 + 1) σ1) ∧ (x2 = 0 → vp_in v5 20 ∧ (vp_in v4 20 ∧ (g_MM_settle_102 E (d + 1) po v1 v2 (v4 + 1) (v5 + 1) (dx_u σ1 24 v4.toNatClampNeg (σ1 24 v5.toNatClampNeg))))))))) : g_MM_settle_102 E (d + 1) po v1 v2 v4 v5 σ := by
  show dx_G tM E (d + 1) RMM cMM_settle 6 none po 102 [some (.inr 0), some (.inl v1), some (.inl v2), none, some (.inl v4), some (.inl v5)] [] σ
  refine dx_iload dMM_settle_102 rfl ?_
  refine dx_aload_n dMM_settle_104 rfl ?_
  refine dx_geti dMM_settle_105 flMM_164 rfl rfl ?_
  refine dx_icmp_ge 149 dMM_settle_108 (by decide) (fun q => ?_) (fun q => ?_)
  · have h := h.1 q
    refine dx_aload_n dMM_settle_149 rfl ?_
    refine dx_getr dMM_settle_150 flMM_80 rfl rfl ?_
    refine dx_iload dMM_settle_153 rfl ?_
    refine dx_iload_n dMM_settle_155 rfl ?_
    obtain ⟨hi, h⟩ := h
    refine dx_iastore dMM_settle_156 rfl hi ?_
    refine dx_aload_n dMM_settle_157 rfl ?_
    refine dx_iload dMM_settle_158 rfl ?_
    refine dx_iconst (v := 1) dMM_settle_160 (by decide) ?_
    refine dx_iadd dMM_settle_161 ?_
    refine dx_put dMM_settle_162 fpMM_164 rfl rfl (Or.inl rfl) ?_
    refine dx_iinc (v := v1 + 1) (L' := [some (.inr 0), some (.inl (v1 + 1)), some (.inl v2), none, some (.inl v4), some (.inl v5)]) dMM_settle_165 rfl rfl rfl ?_
    refine dx_goto 7 dMM_settle_168 (by decide) ?_
    exact dx_less (L' := [some (.inr 0), some (.inl (v1 + 1)), none, none, none, none]) ⟨rfl, rfl, trivial⟩ h
  · have h := h.2 q
    refine dx_aload_n dMM_settle_111 rfl ?_
    refine dx_iload_n dMM_settle_112 rfl ?_
    refine dx_aload_n dMM_settle_113 rfl ?_
    refine dx_getr dMM_settle_114 flMM_80 rfl rfl ?_
    refine dx_iload dMM_settle_117 rfl ?_
    obtain ⟨hi, h⟩ := h
    refine dx_iaload dMM_settle_119 rfl hi ?_
    obtain ⟨pp, hm, hk⟩ := h
    refine dx_callvi [.inl v2, .inl (σ 24 v5.toNatClampNeg)] [] dMM_settle_120 cvMM_167 rfl (Nat.le_of_ble_eq_true rfl) rfl hm (fun x2 σ1 hp => ?_)
    have h := hk x2 σ1 hp
    refine dx_if_ne 143 dMM_settle_123 (by decide) (fun q => ?_) (fun q => ?_)
    · have h := h.1 q
      refine dx_iinc (v := v5 + 1) (L' := [some (.inr 0), some (.inl v1), some (.inl v2), none, some (.inl v4), some (.inl (v5 + 1))]) dMM_settle_143 rfl rfl rfl ?_
      refine dx_goto 102 dMM_settle_146 (by decide) ?_
      exact dx_less (L' := [some (.inr 0), some (.inl v1), some (.inl v2), none, some (.inl v4), some (.inl (v5 + 1))]) ⟨rfl, rfl, rfl, rfl, rfl, trivial⟩ h
    · have h := h.2 q
      refine dx_aload_n dMM_settle_126 rfl ?_
      refine dx_getr dMM_settle_127 flMM_80 rfl rfl ?_
      refine dx_iload dMM_settle_130 rfl ?_
      refine dx_aload_n dMM_settle_132 rfl ?_
      refine dx_getr dMM_settle_133 flMM_80 rfl rfl ?_
      refine dx_iload dMM_settle_136 rfl ?_
      obtain ⟨hi, h⟩ := h
      refine dx_iaload dMM_settle_138 rfl hi ?_
      obtain ⟨hi, h⟩ := h
      refine dx_iastore dMM_settle_139 rfl hi ?_
      refine dx_iinc (v := v4 + 1) (L' := [some (.inr 0), some (.inl v1), some (.inl v2), none, some (.inl (v4 + 1)), some (.inl v5)]) dMM_settle_140 rfl rfl rfl ?_
      refine dx_iinc (v := v5 + 1) (L' := [some (.inr 0), some (.inl v1), some (.inl v2), none, some (.inl (v4 + 1)), some (.inl (v5 + 1))]) dMM_settle_143 rfl rfl rfl ?_
      refine dx_goto 102 dMM_settle_146 (by decide) ?_
      exact dx_less (L' := [some (.inr 0), some (.inl v1), some (.inl v2), none, some (.inl (v4 + 1)), some (.inl (v5 + 1))]) ⟨rfl, rfl, rfl, rfl, rfl, trivial⟩ h
def g_MM_remember_2 (E : dx_E) (d : Nat) (po : dx_P) (v1 : Int32) (σ : dx_V) : Prop := dx_G tM E d RMM cMM_remember 4 none po 2 [some (.inr 0), some (.inl v1), none, none] [] σ
def g_MM_remember_43 (E : dx_E) (d : Nat) (po : dx_P) (v1 v2 : Int32) (σ : dx_V) : Prop := dx_G tM E d RMM cMM_remember 4 none po 43 [some (.inr 0), some (.inl v1), some (.inl v2), none] [] σ
def g_MM_remember_112 (E : dx_E) (d : Nat) (po : dx_P) (v1 v2 w0 : Int32) (σ : dx_V) : Prop := dx_G tM E d RMM cMM_remember 4 none po 112 [some (.inr 0), some (.inl v1), some (.inl v2), none] [.inl w0] σ
set_option maxRecDepth 100000 in
set_option maxHeartbeats 4000000 in
theorem r_MM_remember {E : dx_E} {d : Nat} {σ : dx_V} {po : dx_P} (h : g_MM_remember_2 E (d + 1) po 1 σ) : m_MM_remember E (d + 1) σ po := by
  refine dx_entry (by decide) (Nat.le_of_ble_eq_true rfl) ?_
  show dx_G tM E (d + 1) RMM cMM_remember 4 none po 0 [some (.inr 0), none, none, none] [] σ
  refine dx_iconst (v := 1) dMM_remember_0 (by decide) ?_
  refine dx_istore_n (L' := [some (.inr 0), some (.inl 1), none, none]) dMM_remember_1 (Nat.le_of_ble_eq_true rfl) rfl ?_
  exact dx_less (L' := [some (.inr 0), some (.inl 1), none, none]) ⟨rfl, rfl, trivial⟩ h
set_option maxRecDepth 100000 in
set_option maxHeartbeats 4000000 in
theorem r_MM_remember_2 {E : dx_E} {d : Nat} {po : dx_P} {v1 : Int32} {σ : dx_V} (h : ((σ 0 0) < v1 → po none σ) ∧ (¬ (σ 0 0) < v1 → vp_in v1 16 ∧ (((σ 2 v1.toNatClampNeg) < 4 → g_MM_remember_2 E (d + 1) po (v1 + 1) σ) ∧ (¬ (σ 2 v1.toNatClampNeg) < 4 → vp_in v1 16 ∧ (vp_in (σ 1 v1.toNatClampNeg) 16 ∧ (((σ 25 (σ 1 v1.toNatClampNeg).toNatClampNeg) = 0 → g_MM_remember_2 E (d + 1) po (v1 + 1) σ) ∧ (¬ (σ 25 (σ 1 v1.toNatClampNeg).toNatClampNeg) = 0 → vp_in v1 16 ∧ (g_MM_remember_43 E (d + 1) po v1 1 (dx_u σ 16 v1.toNatClampNeg 0))))))))) : g_MM_remember_2 E (d + 1) po v1 σ := by
  show dx_G tM E (d + 1) RMM cMM_remember 4 none po 2 [some (.inr 0), some (.inl v1), none, none] [] σ
  refine dx_iload_n dMM_remember_2 rfl ?_
  refine dx_aload_n dMM_remember_3 rfl ?_
  refine dx_geti dMM_remember_4 flMM_89 rfl rfl ?_
  refine dx_icmp_gt 154 dMM_remember_7 (by decide) (fun q => ?_) (fun q => ?_)
  · have h := h.1 q
    exact dx_vret dMM_remember_154 rfl h
  · have h := h.2 q
    refine dx_aload_n dMM_remember_10 rfl ?_
    refine dx_getr dMM_remember_11 flMM_13 rfl rfl ?_
    refine dx_iload_n dMM_remember_14 rfl ?_
    obtain ⟨hi, h⟩ := h
    refine dx_iaload dMM_remember_15 rfl hi ?_
    refine dx_iconst (v := 4) dMM_remember_16 (by decide) ?_
    refine dx_icmp_lt 148 dMM_remember_17 (by decide) (fun q => ?_) (fun q => ?_)
    · have h := h.1 q
      refine dx_iinc (v := v1 + 1) (L' := [some (.inr 0), some (.inl (v1 + 1)), none, none]) dMM_remember_148 rfl rfl rfl ?_
      refine dx_goto 2 dMM_remember_151 (by decide) ?_
      exact dx_less (L' := [some (.inr 0), some (.inl (v1 + 1)), none, none]) ⟨rfl, rfl, trivial⟩ h
    · have h := h.2 q
      refine dx_aload_n dMM_remember_20 rfl ?_
      refine dx_getr dMM_remember_21 flMM_83 rfl rfl ?_
      refine dx_aload_n dMM_remember_24 rfl ?_
      refine dx_getr dMM_remember_25 flMM_7 rfl rfl ?_
      refine dx_iload_n dMM_remember_28 rfl ?_
      obtain ⟨hi, h⟩ := h
      refine dx_iaload dMM_remember_29 rfl hi ?_
      obtain ⟨hi, h⟩ := h
      refine dx_baload dMM_remember_30 rfl hi ?_
      refine dx_if_eq 148 dMM_remember_31 (by decide) (fun q => ?_) (fun q => ?_)
      · have h := h.1 q
        refine dx_iinc (v := v1 + 1) (L' := [some (.inr 0), some (.inl (v1 + 1)), none, none]) dMM_remember_148 rfl rfl rfl ?_
        refine dx_goto 2 dMM_remember_151 (by decide) ?_
        exact dx_less (L' := [some (.inr 0), some (.inl (v1 + 1)), none, none]) ⟨rfl, rfl, trivial⟩ h
      · have h := h.2 q
        refine dx_aload_n dMM_remember_34 rfl ?_
        refine dx_getr dMM_remember_35 flMM_56 rfl rfl ?_
        refine dx_iload_n dMM_remember_38 rfl ?_
        refine dx_iconst (v := 0) dMM_remember_39 (by decide) ?_
        obtain ⟨hi, h⟩ := h
        refine dx_iastore dMM_remember_40 rfl hi ?_
        refine dx_iconst (v := 1) dMM_remember_41 (by decide) ?_
        refine dx_istore_n (L' := [some (.inr 0), some (.inl v1), some (.inl 1), none]) dMM_remember_42 (Nat.le_of_ble_eq_true rfl) rfl ?_
        exact dx_less (L' := [some (.inr 0), some (.inl v1), some (.inl 1), none]) ⟨rfl, rfl, rfl, trivial⟩ h
set_option maxRecDepth 100000 in
set_option maxHeartbeats 4000000 in
theorem r_MM_remember_43 {E : dx_E} {d : Nat} {po : dx_P} {v1 v2 : Int32} {σ : dx_V} (h : ((σ 0 0) < v2 → g_MM_remember_2 E (d + 1) po (v1 + 1) σ) ∧ (¬ (σ 0 0) < v2 → vp_in v1 16 ∧ ((¬ (σ 2 v1.toNatClampNeg) = 4 → vp_in v1 16 ∧ (dx_ci (m_MM_below E d v2 (σ 1 v1.toNatClampNeg) σ) (fun x2 σ1 => (x2 = 0 → g_MM_remember_112 E (d + 1) po v1 v2 0 σ1) ∧ (¬ x2 = 0 → dx_ci (m_MM_hasChild E d v2 1 σ1) (fun x4 σ3 => (¬ x4 = 0 → g_MM_remember_112 E (d + 1) po v1 v2 0 σ3) ∧ (x4 = 0 → g_MM_remember_112 E (d + 1) po v1 v2 1 σ3)))))) ∧ ((σ 2 v1.toNatClampNeg) = 4 → vp_in v2 16 ∧ (vp_in v1 16 ∧ ((¬ (σ 1 v2.toNatClampNeg) = (σ 1 v1.toNatClampNeg) → g_MM_remember_112 E (d + 1) po v1 v2 0 σ) ∧ ((σ 1 v2.toNatClampNeg) = (σ 1 v1.toNatClampNeg) → g_MM_remember_112 E (d + 1) po v1 v2 1 σ))))))) : g_MM_remember_43 E (d + 1) po v1 v2 σ := by
  show dx_G tM E (d + 1) RMM cMM_remember 4 none po 43 [some (.inr 0), some (.inl v1), some (.inl v2), none] [] σ
  refine dx_iload_n dMM_remember_43 rfl ?_
  refine dx_aload_n dMM_remember_44 rfl ?_
  refine dx_geti dMM_remember_45 flMM_89 rfl rfl ?_
  refine dx_icmp_gt 148 dMM_remember_48 (by decide) (fun q => ?_) (fun q => ?_)
  · have h := h.1 q
    refine dx_iinc (v := v1 + 1) (L' := [some (.inr 0), some (.inl (v1 + 1)), some (.inl v2), none]) dMM_remember_148 rfl rfl rfl ?_
    refine dx_goto 2 dMM_remember_151 (by decide) ?_
    exact dx_less (L' := [some (.inr 0), some (.inl (v1 + 1)), none, none]) ⟨rfl, rfl, trivial⟩ h
  · have h := h.2 q
    refine dx_aload_n dMM_remember_51 rfl ?_
    refine dx_getr dMM_remember_52 flMM_13 rfl rfl ?_
    refine dx_iload_n dMM_remember_55 rfl ?_
    obtain ⟨hi, h⟩ := h
    refine dx_iaload dMM_remember_56 rfl hi ?_
    refine dx_iconst (v := 4) dMM_remember_57 (by decide) ?_
    refine dx_icmp_ne 84 dMM_remember_58 (by decide) (fun q => ?_) (fun q => ?_)
    · have h := h.1 q
      refine dx_aload_n dMM_remember_84 rfl ?_
      refine dx_iload_n dMM_remember_85 rfl ?_
      refine dx_aload_n dMM_remember_86 rfl ?_
      refine dx_getr dMM_remember_87 flMM_7 rfl rfl ?_
      refine dx_iload_n dMM_remember_90 rfl ?_
      obtain ⟨hi, h⟩ := h
      refine dx_iaload dMM_remember_91 rfl hi ?_
      obtain ⟨pp, hm, hk⟩ := h
      refine dx_callvi [.inl v2, .inl (σ 1 v1.toNatClampNeg)] [] dMM_remember_92 cvMM_153 rfl (Nat.le_of_ble_eq_true rfl) rfl hm (fun x2 σ1 hp => ?_)
      have h := hk x2 σ1 hp
      refine dx_if_eq 111 dMM_remember_95 (by decide) (fun q => ?_) (fun q => ?_)
      · have h := h.1 q
        refine dx_iconst (v := 0) dMM_remember_111 (by decide) ?_
        exact dx_less (L' := [some (.inr 0), some (.inl v1), some (.inl v2), none]) ⟨rfl, rfl, rfl, trivial⟩ h
      · have h := h.2 q
        refine dx_aload_n dMM_remember_98 rfl ?_
        refine dx_iload_n dMM_remember_99 rfl ?_
        refine dx_iconst (v := 1) dMM_remember_100 (by decide) ?_
        obtain ⟨pp, hm, hk⟩ := h
        refine dx_callvi [.inl v2, .inl 1] [] dMM_remember_101 cvMM_93 rfl (Nat.le_of_ble_eq_true rfl) rfl hm (fun x4 σ3 hp => ?_)
        have h := hk x4 σ3 hp
        refine dx_if_ne 111 dMM_remember_104 (by decide) (fun q => ?_) (fun q => ?_)
        · have h := h.1 q
          refine dx_iconst (v := 0) dMM_remember_111 (by decide) ?_
          exact dx_less (L' := [some (.inr 0), some (.inl v1), some (.inl v2), none]) ⟨rfl, rfl, rfl, trivial⟩ h
        · have h := h.2 q
          refine dx_iconst (v := 1) dMM_remember_107 (by decide) ?_
          refine dx_goto 112 dMM_remember_108 (by decide) ?_
          exact dx_less (L' := [some (.inr 0), some (.inl v1), some (.inl v2), none]) ⟨rfl, rfl, rfl, trivial⟩ h
    · have h := h.2 q
      refine dx_aload_n dMM_remember_61 rfl ?_
      refine dx_getr dMM_remember_62 flMM_7 rfl rfl ?_
      refine dx_iload_n dMM_remember_65 rfl ?_
      obtain ⟨hi, h⟩ := h
      refine dx_iaload dMM_remember_66 rfl hi ?_
      refine dx_aload_n dMM_remember_67 rfl ?_
      refine dx_getr dMM_remember_68 flMM_7 rfl rfl ?_
      refine dx_iload_n dMM_remember_71 rfl ?_
      obtain ⟨hi, h⟩ := h
      refine dx_iaload dMM_remember_72 rfl hi ?_
      refine dx_icmp_ne 80 dMM_remember_73 (by decide) (fun q => ?_) (fun q => ?_)
      · have h := h.1 q
        refine dx_iconst (v := 0) dMM_remember_80 (by decide) ?_
        refine dx_goto 112 dMM_remember_81 (by decide) ?_
        exact dx_less (L' := [some (.inr 0), some (.inl v1), some (.inl v2), none]) ⟨rfl, rfl, rfl, trivial⟩ h
      · have h := h.2 q
        refine dx_iconst (v := 1) dMM_remember_76 (by decide) ?_
        refine dx_goto 112 dMM_remember_77 (by decide) ?_
        exact dx_less (L' := [some (.inr 0), some (.inl v1), some (.inl v2), none]) ⟨rfl, rfl, rfl, trivial⟩ h
set_option maxRecDepth 100000 in
set_option maxHeartbeats 4000000 in
theorem r_MM_remember_112 {E : dx_E} {d : Nat} {po : dx_P} {v1 v2 w0 : Int32} {σ : dx_V} (h : vp_in v1 16 ∧ (vp_in v2 16 ∧ (((σ 15 v2.toNatClampNeg) = 0 → vp_in v1 16 ∧ (g_MM_remember_43 E (d + 1) po v1 (v2 + 1) (dx_u σ 16 v1.toNatClampNeg ((σ 16 v1.toNatClampNeg) ||| 0)))) ∧ (¬ (σ 15 v2.toNatClampNeg) = 0 → (w0 = 0 → vp_in v1 16 ∧ (g_MM_remember_43 E (d + 1) po v1 (v2 + 1) (dx_u σ 16 v1.toNatClampNeg ((σ 16 v1.toNatClampNeg) ||| 0)))) ∧ (¬ w0 = 0 → vp_in v1 16 ∧ (g_MM_remember_43 E (d + 1) po v1 (v2 + 1) (dx_u σ 16 v1.toNatClampNeg ((σ 16 v1.toNatClampNeg) ||| (1 <<< (v2 &&& 31)))))))))) : g_MM_remember_112 E (d + 1) po v1 v2 w0 σ := by
  show dx_G tM E (d + 1) RMM cMM_remember 4 none po 112 [some (.inr 0), some (.inl v1), some (.inl v2), none] [.inl w0] σ
  refine dx_istore_n (L' := [some (.inr 0), some (.inl v1), some (.inl v2), some (.inl w0)]) dMM_remember_112 (Nat.le_of_ble_eq_true rfl) rfl ?_
  refine dx_aload_n dMM_remember_113 rfl ?_
  refine dx_getr dMM_remember_114 flMM_56 rfl rfl ?_
  refine dx_iload_n dMM_remember_117 rfl ?_
  refine dx_dup2 dMM_remember_118 ?_
  obtain ⟨hi, h⟩ := h
  refine dx_iaload dMM_remember_119 rfl hi ?_
  refine dx_aload_n dMM_remember_120 rfl ?_
  refine dx_getr dMM_remember_121 flMM_53 rfl rfl ?_
  refine dx_iload_n dMM_remember_124 rfl ?_
  obtain ⟨hi, h⟩ := h
  refine dx_baload dMM_remember_125 rfl hi ?_
  refine dx_if_eq 139 dMM_remember_126 (by decide) (fun q => ?_) (fun q => ?_)
  · have h := h.1 q
    refine dx_iconst (v := 0) dMM_remember_139 (by decide) ?_
    refine dx_ior dMM_remember_140 ?_
    obtain ⟨hi, h⟩ := h
    refine dx_iastore dMM_remember_141 rfl hi ?_
    refine dx_iinc (v := v2 + 1) (L' := [some (.inr 0), some (.inl v1), some (.inl (v2 + 1)), some (.inl w0)]) dMM_remember_142 rfl rfl rfl ?_
    refine dx_goto 43 dMM_remember_145 (by decide) ?_
    exact dx_less (L' := [some (.inr 0), some (.inl v1), some (.inl (v2 + 1)), none]) ⟨rfl, rfl, rfl, trivial⟩ h
  · have h := h.2 q
    refine dx_iload_n dMM_remember_129 rfl ?_
    refine dx_if_eq 139 dMM_remember_130 (by decide) (fun q => ?_) (fun q => ?_)
    · have h := h.1 q
      refine dx_iconst (v := 0) dMM_remember_139 (by decide) ?_
      refine dx_ior dMM_remember_140 ?_
      obtain ⟨hi, h⟩ := h
      refine dx_iastore dMM_remember_141 rfl hi ?_
      refine dx_iinc (v := v2 + 1) (L' := [some (.inr 0), some (.inl v1), some (.inl (v2 + 1)), some (.inl w0)]) dMM_remember_142 rfl rfl rfl ?_
      refine dx_goto 43 dMM_remember_145 (by decide) ?_
      exact dx_less (L' := [some (.inr 0), some (.inl v1), some (.inl (v2 + 1)), none]) ⟨rfl, rfl, rfl, trivial⟩ h
    · have h := h.2 q
      refine dx_iconst (v := 1) dMM_remember_133 (by decide) ?_
      refine dx_iload_n dMM_remember_134 rfl ?_
      refine dx_ishl dMM_remember_135 ?_
      refine dx_goto 140 dMM_remember_136 (by decide) ?_
      refine dx_ior dMM_remember_140 ?_
      obtain ⟨hi, h⟩ := h
      refine dx_iastore dMM_remember_141 rfl hi ?_
      refine dx_iinc (v := v2 + 1) (L' := [some (.inr 0), some (.inl v1), some (.inl (v2 + 1)), some (.inl w0)]) dMM_remember_142 rfl rfl rfl ?_
      refine dx_goto 43 dMM_remember_145 (by decide) ?_
      exact dx_less (L' := [some (.inr 0), some (.inl v1), some (.inl (v2 + 1)), none]) ⟨rfl, rfl, rfl, trivial⟩ h
def g_MM_leaveAll_2 (E : dx_E) (d : Nat) (po : dx_P) (v1 : Int32) (σ : dx_V) : Prop := dx_G tM E d RMM cMM_leaveAll 3 none po 2 [some (.inr 0), some (.inl v1), none] [] σ
def g_MM_leaveAll_19 (E : dx_E) (d : Nat) (po : dx_P) (v1 v2 : Int32) (σ : dx_V) : Prop := dx_G tM E d RMM cMM_leaveAll 3 none po 19 [some (.inr 0), some (.inl v1), some (.inl v2)] [] σ
def g_MM_leaveAll_55 (E : dx_E) (d : Nat) (po : dx_P) (v1 v2 w1 : Int32) (σ : dx_V) : Prop := dx_G tM E d RMM cMM_leaveAll 3 none po 55 [some (.inr 0), some (.inl v1), some (.inl v2)] [.inl w1, .inr 25] σ
def g_MM_leaveAll_82 (E : dx_E) (d : Nat) (po : dx_P) (v1 : Int32) (σ : dx_V) : Prop := dx_G tM E d RMM cMM_leaveAll 3 none po 82 [some (.inr 0), some (.inl v1), none] [] σ
def g_MM_leaveAll_128 (E : dx_E) (d : Nat) (po : dx_P) (v1 : Int32) (σ : dx_V) : Prop := dx_G tM E d RMM cMM_leaveAll 3 none po 128 [some (.inr 0), some (.inl v1), none] [] σ
set_option maxRecDepth 100000 in
set_option maxHeartbeats 4000000 in
theorem r_MM_leaveAll {E : dx_E} {d : Nat} {σ : dx_V} {po : dx_P} (h : g_MM_leaveAll_2 E (d + 1) po 1 σ) : m_MM_leaveAll E (d + 1) σ po := by
  refine dx_entry (by decide) (Nat.le_of_ble_eq_true rfl) ?_
  show dx_G tM E (d + 1) RMM cMM_leaveAll 3 none po 0 [some (.inr 0), none, none] [] σ
  refine dx_iconst (v := 1) dMM_leaveAll_0 (by decide) ?_
  refine dx_istore_n (L' := [some (.inr 0), some (.inl 1), none]) dMM_leaveAll_1 (Nat.le_of_ble_eq_true rfl) rfl ?_
  exact dx_less (L' := [some (.inr 0), some (.inl 1), none]) ⟨rfl, rfl, trivial⟩ h
set_option maxRecDepth 100000 in
set_option maxHeartbeats 4000000 in
theorem r_MM_leaveAll_2 {E : dx_E} {d : Nat} {po : dx_P} {v1 : Int32} {σ : dx_V} (h : ((σ 0 0) < v1 → dx_cu (m_MM_remember E d σ) (fun σ1 => g_MM_leaveAll_82 E (d + 1) po (σ1 0 0) σ1)) ∧ (¬ (σ 0 0) < v1 → vp_in v1 16 ∧ (g_MM_leaveAll_19 E (d + 1) po v1 0 (dx_u σ 25 v1.toNatClampNeg (vp_nar .boolean 0))))) : g_MM_leaveAll_2 E (d + 1) po v1 σ := by
  show dx_G tM E (d + 1) RMM cMM_leaveAll 3 none po 2 [some (.inr 0), some (.inl v1), none] [] σ
  refine dx_iload_n dMM_leaveAll_2 rfl ?_
  refine dx_aload_n dMM_leaveAll_3 rfl ?_
  refine dx_geti dMM_leaveAll_4 flMM_89 rfl rfl ?_
  refine dx_icmp_gt 73 dMM_leaveAll_7 (by decide) (fun q => ?_) (fun q => ?_)
  · have h := h.1 q
    refine dx_aload_n dMM_leaveAll_73 rfl ?_
    obtain ⟨pp, hm, hk⟩ := h
    refine dx_callvv [] [] dMM_leaveAll_74 cvMM_170 rfl (Nat.le_of_ble_eq_true rfl) rfl hm (fun σ1 hp => ?_)
    have h := hk σ1 hp
    refine dx_aload_n dMM_leaveAll_77 rfl ?_
    refine dx_geti dMM_leaveAll_78 flMM_89 rfl rfl ?_
    refine dx_istore_n (L' := [some (.inr 0), some (.inl (σ1 0 0)), none]) dMM_leaveAll_81 (Nat.le_of_ble_eq_true rfl) rfl ?_
    exact dx_less (L' := [some (.inr 0), some (.inl (σ1 0 0)), none]) ⟨rfl, rfl, trivial⟩ h
  · have h := h.2 q
    refine dx_aload_n dMM_leaveAll_10 rfl ?_
    refine dx_getr dMM_leaveAll_11 flMM_83 rfl rfl ?_
    refine dx_iload_n dMM_leaveAll_14 rfl ?_
    refine dx_iconst (v := 0) dMM_leaveAll_15 (by decide) ?_
    obtain ⟨hi, h⟩ := h
    refine dx_bastore dMM_leaveAll_16 rfl hi ?_
    refine dx_iconst (v := 0) dMM_leaveAll_17 (by decide) ?_
    refine dx_istore_n (L' := [some (.inr 0), some (.inl v1), some (.inl 0)]) dMM_leaveAll_18 (Nat.le_of_ble_eq_true rfl) rfl ?_
    exact dx_less (L' := [some (.inr 0), some (.inl v1), some (.inl 0)]) ⟨rfl, rfl, rfl, trivial⟩ h
set_option maxRecDepth 100000 in
set_option maxHeartbeats 4000000 in
theorem r_MM_leaveAll_19 {E : dx_E} {d : Nat} {po : dx_P} {v1 v2 : Int32} {σ : dx_V} (h : ((σ 0 35) ≤ v2 → g_MM_leaveAll_2 E (d + 1) po (v1 + 1) σ) ∧ (¬ (σ 0 35) ≤ v2 → vp_in v1 16 ∧ ((¬ (σ 25 v1.toNatClampNeg) = 0 → g_MM_leaveAll_55 E (d + 1) po v1 v2 v1 σ) ∧ ((σ 25 v1.toNatClampNeg) = 0 → vp_in v2 20 ∧ (dx_ci (m_MM_leaves E d (σ 24 v2.toNatClampNeg) v1 σ) (fun x2 σ1 => (x2 = 0 → vp_in v1 16 ∧ (g_MM_leaveAll_19 E (d + 1) po v1 (v2 + 1) (dx_u σ1 25 v1.toNatClampNeg (vp_nar .boolean 0)))) ∧ (¬ x2 = 0 → g_MM_leaveAll_55 E (d + 1) po v1 v2 v1 σ1))))))) : g_MM_leaveAll_19 E (d + 1) po v1 v2 σ := by
  show dx_G tM E (d + 1) RMM cMM_leaveAll 3 none po 19 [some (.inr 0), some (.inl v1), some (.inl v2)] [] σ
  refine dx_iload_n dMM_leaveAll_19 rfl ?_
  refine dx_aload_n dMM_leaveAll_20 rfl ?_
  refine dx_geti dMM_leaveAll_21 flMM_164 rfl rfl ?_
  refine dx_icmp_ge 67 dMM_leaveAll_24 (by decide) (fun q => ?_) (fun q => ?_)
  · have h := h.1 q
    refine dx_iinc (v := v1 + 1) (L' := [some (.inr 0), some (.inl (v1 + 1)), some (.inl v2)]) dMM_leaveAll_67 rfl rfl rfl ?_
    refine dx_goto 2 dMM_leaveAll_70 (by decide) ?_
    exact dx_less (L' := [some (.inr 0), some (.inl (v1 + 1)), none]) ⟨rfl, rfl, trivial⟩ h
  · have h := h.2 q
    refine dx_aload_n dMM_leaveAll_27 rfl ?_
    refine dx_getr dMM_leaveAll_28 flMM_83 rfl rfl ?_
    refine dx_iload_n dMM_leaveAll_31 rfl ?_
    refine dx_aload_n dMM_leaveAll_32 rfl ?_
    refine dx_getr dMM_leaveAll_33 flMM_83 rfl rfl ?_
    refine dx_iload_n dMM_leaveAll_36 rfl ?_
    obtain ⟨hi, h⟩ := h
    refine dx_baload dMM_leaveAll_37 rfl hi ?_
    refine dx_if_ne 55 dMM_leaveAll_38 (by decide) (fun q => ?_) (fun q => ?_)
    · have h := h.1 q
      exact dx_less (L' := [some (.inr 0), some (.inl v1), some (.inl v2)]) ⟨rfl, rfl, rfl, trivial⟩ h
    · have h := h.2 q
      refine dx_aload_n dMM_leaveAll_41 rfl ?_
      refine dx_aload_n dMM_leaveAll_42 rfl ?_
      refine dx_getr dMM_leaveAll_43 flMM_80 rfl rfl ?_
      refine dx_iload_n dMM_leaveAll_46 rfl ?_
      obtain ⟨hi, h⟩ := h
      refine dx_iaload dMM_leaveAll_47 rfl hi ?_
      refine dx_iload_n dMM_leaveAll_48 rfl ?_
      obtain ⟨pp, hm, hk⟩ := h
      refine dx_callvi [.inl (σ 24 v2.toNatClampNeg), .inl v1] [.inl v1, .inr 25] dMM_leaveAll_49 cvMM_161 rfl (Nat.le_of_ble_eq_true rfl) rfl hm (fun x2 σ1 hp => ?_)
      have h := hk x2 σ1 hp
      refine dx_if_eq 59 dMM_leaveAll_52 (by decide) (fun q => ?_) (fun q => ?_)
      · have h := h.1 q
        refine dx_iconst (v := 0) dMM_leaveAll_59 (by decide) ?_
        obtain ⟨hi, h⟩ := h
        refine dx_bastore dMM_leaveAll_60 rfl hi ?_
        refine dx_iinc (v := v2 + 1) (L' := [some (.inr 0), some (.inl v1), some (.inl (v2 + 1))]) dMM_leaveAll_61 rfl rfl rfl ?_
        refine dx_goto 19 dMM_leaveAll_64 (by decide) ?_
        exact dx_less (L' := [some (.inr 0), some (.inl v1), some (.inl (v2 + 1))]) ⟨rfl, rfl, rfl, trivial⟩ h
      · have h := h.2 q
        exact dx_less (L' := [some (.inr 0), some (.inl v1), some (.inl v2)]) ⟨rfl, rfl, rfl, trivial⟩ h
set_option maxRecDepth 100000 in
set_option maxHeartbeats 4000000 in
theorem r_MM_leaveAll_55 {E : dx_E} {d : Nat} {po : dx_P} {v1 v2 w1 : Int32} {σ : dx_V} (h : vp_in w1 16 ∧ (g_MM_leaveAll_19 E (d + 1) po v1 (v2 + 1) (dx_u σ 25 w1.toNatClampNeg (vp_nar .boolean 1)))) : g_MM_leaveAll_55 E (d + 1) po v1 v2 w1 σ := by
  show dx_G tM E (d + 1) RMM cMM_leaveAll 3 none po 55 [some (.inr 0), some (.inl v1), some (.inl v2)] [.inl w1, .inr 25] σ
  refine dx_iconst (v := 1) dMM_leaveAll_55 (by decide) ?_
  refine dx_goto 60 dMM_leaveAll_56 (by decide) ?_
  obtain ⟨hi, h⟩ := h
  refine dx_bastore dMM_leaveAll_60 rfl hi ?_
  refine dx_iinc (v := v2 + 1) (L' := [some (.inr 0), some (.inl v1), some (.inl (v2 + 1))]) dMM_leaveAll_61 rfl rfl rfl ?_
  refine dx_goto 19 dMM_leaveAll_64 (by decide) ?_
  exact dx_less (L' := [some (.inr 0), some (.inl v1), some (.inl (v2 + 1))]) ⟨rfl, rfl, rfl, trivial⟩ h
set_option maxRecDepth 100000 in
set_option maxHeartbeats 4000000 in
theorem r_MM_leaveAll_82 {E : dx_E} {d : Nat} {po : dx_P} {v1 : Int32} {σ : dx_V} (h : (v1 < 1 → po none σ) ∧ (¬ v1 < 1 → dx_ci (m_MM_failed E d σ) (fun x2 σ1 => (¬ x2 = 0 → po none σ1) ∧ (x2 = 0 → vp_in v1 16 ∧ (((σ1 25 v1.toNatClampNeg) = 0 → g_MM_leaveAll_82 E (d + 1) po (v1 + (-1)) σ1) ∧ (¬ (σ1 25 v1.toNatClampNeg) = 0 → dx_cu (m_MM_write E d (2000 + v1) σ1) (fun σ3 => dx_ci (m_MM_failed E d σ3) (fun x5 σ4 => (¬ x5 = 0 → g_MM_leaveAll_128 E (d + 1) po v1 σ4) ∧ (x5 = 0 → dx_cu (m_MM_act E d (200 + v1) σ4) (fun σ6 => g_MM_leaveAll_128 E (d + 1) po v1 σ6)))))))))) : g_MM_leaveAll_82 E (d + 1) po v1 σ := by
  show dx_G tM E (d + 1) RMM cMM_leaveAll 3 none po 82 [some (.inr 0), some (.inl v1), none] [] σ
  refine dx_iload_n dMM_leaveAll_82 rfl ?_
  refine dx_iconst (v := 1) dMM_leaveAll_83 (by decide) ?_
  refine dx_icmp_lt 148 dMM_leaveAll_84 (by decide) (fun q => ?_) (fun q => ?_)
  · have h := h.1 q
    exact dx_vret dMM_leaveAll_148 rfl h
  · have h := h.2 q
    refine dx_aload_n dMM_leaveAll_87 rfl ?_
    obtain ⟨pp, hm, hk⟩ := h
    refine dx_callvi [] [] dMM_leaveAll_88 cvMM_128 rfl (Nat.le_of_ble_eq_true rfl) rfl hm (fun x2 σ1 hp => ?_)
    have h := hk x2 σ1 hp
    refine dx_if_ne 148 dMM_leaveAll_91 (by decide) (fun q => ?_) (fun q => ?_)
    · have h := h.1 q
      exact dx_vret dMM_leaveAll_148 rfl h
    · have h := h.2 q
      refine dx_aload_n dMM_leaveAll_94 rfl ?_
      refine dx_getr dMM_leaveAll_95 flMM_83 rfl rfl ?_
      refine dx_iload_n dMM_leaveAll_98 rfl ?_
      obtain ⟨hi, h⟩ := h
      refine dx_baload dMM_leaveAll_99 rfl hi ?_
      refine dx_if_eq 142 dMM_leaveAll_100 (by decide) (fun q => ?_) (fun q => ?_)
      · have h := h.1 q
        refine dx_iinc (v := v1 + (-1)) (L' := [some (.inr 0), some (.inl (v1 + (-1))), none]) dMM_leaveAll_142 rfl rfl rfl ?_
        refine dx_goto 82 dMM_leaveAll_145 (by decide) ?_
        exact dx_less (L' := [some (.inr 0), some (.inl (v1 + (-1))), none]) ⟨rfl, rfl, trivial⟩ h
      · have h := h.2 q
        refine dx_aload_n dMM_leaveAll_103 rfl ?_
        refine dx_sipush (v := 2000) dMM_leaveAll_104 (by decide) ?_
        refine dx_iload_n dMM_leaveAll_107 rfl ?_
        refine dx_iadd dMM_leaveAll_108 ?_
        obtain ⟨pp, hm, hk⟩ := h
        refine dx_callvv [.inl (2000 + v1)] [] dMM_leaveAll_109 cvMM_173 rfl (Nat.le_of_ble_eq_true rfl) rfl hm (fun σ3 hp => ?_)
        have h := hk σ3 hp
        refine dx_aload_n dMM_leaveAll_112 rfl ?_
        obtain ⟨pp, hm, hk⟩ := h
        refine dx_callvi [] [] dMM_leaveAll_113 cvMM_128 rfl (Nat.le_of_ble_eq_true rfl) rfl hm (fun x5 σ4 hp => ?_)
        have h := hk x5 σ4 hp
        refine dx_if_ne 128 dMM_leaveAll_116 (by decide) (fun q => ?_) (fun q => ?_)
        · have h := h.1 q
          exact dx_less (L' := [some (.inr 0), some (.inl v1), none]) ⟨rfl, rfl, trivial⟩ h
        · have h := h.2 q
          refine dx_aload_n dMM_leaveAll_119 rfl ?_
          refine dx_sipush (v := 200) dMM_leaveAll_120 (by decide) ?_
          refine dx_iload_n dMM_leaveAll_123 rfl ?_
          refine dx_iadd dMM_leaveAll_124 ?_
          obtain ⟨pp, hm, hk⟩ := h
          refine dx_callvv [.inl (200 + v1)] [] dMM_leaveAll_125 cvMM_176 rfl (Nat.le_of_ble_eq_true rfl) rfl hm (fun σ6 hp => ?_)
          have h := hk σ6 hp
          exact dx_less (L' := [some (.inr 0), some (.inl v1), none]) ⟨rfl, rfl, trivial⟩ h
set_option maxRecDepth 100000 in
set_option maxHeartbeats 4000000 in
theorem r_MM_leaveAll_128 {E : dx_E} {d : Nat} {po : dx_P} {v1 : Int32} {σ : dx_V} (h : dx_ci (m_MM_failed E d σ) (fun x2 σ1 => (¬ x2 = 0 → g_MM_leaveAll_82 E (d + 1) po (v1 + (-1)) σ1) ∧ (x2 = 0 → vp_in v1 16 ∧ (g_MM_leaveAll_82 E (d + 1) po (v1 + (-1)) (dx_u σ1 15 v1.toNatClampNeg (vp_nar .boolean 0)))))) : g_MM_leaveAll_128 E (d + 1) po v1 σ := by
  show dx_G tM E (d + 1) RMM cMM_leaveAll 3 none po 128 [some (.inr 0), some (.inl v1), none] [] σ
  refine dx_aload_n dMM_leaveAll_128 rfl ?_
  obtain ⟨pp, hm, hk⟩ := h
  refine dx_callvi [] [] dMM_leaveAll_129 cvMM_128 rfl (Nat.le_of_ble_eq_true rfl) rfl hm (fun x2 σ1 hp => ?_)
  have h := hk x2 σ1 hp
  refine dx_if_ne 142 dMM_leaveAll_132 (by decide) (fun q => ?_) (fun q => ?_)
  · have h := h.1 q
    refine dx_iinc (v := v1 + (-1)) (L' := [some (.inr 0), some (.inl (v1 + (-1))), none]) dMM_leaveAll_142 rfl rfl rfl ?_
    refine dx_goto 82 dMM_leaveAll_145 (by decide) ?_
    exact dx_less (L' := [some (.inr 0), some (.inl (v1 + (-1))), none]) ⟨rfl, rfl, trivial⟩ h
  · have h := h.2 q
    refine dx_aload_n dMM_leaveAll_135 rfl ?_
    refine dx_getr dMM_leaveAll_136 flMM_53 rfl rfl ?_
    refine dx_iload_n dMM_leaveAll_139 rfl ?_
    refine dx_iconst (v := 0) dMM_leaveAll_140 (by decide) ?_
    obtain ⟨hi, h⟩ := h
    refine dx_bastore dMM_leaveAll_141 rfl hi ?_
    refine dx_iinc (v := v1 + (-1)) (L' := [some (.inr 0), some (.inl (v1 + (-1))), none]) dMM_leaveAll_142 rfl rfl rfl ?_
    refine dx_goto 82 dMM_leaveAll_145 (by decide) ?_
    exact dx_less (L' := [some (.inr 0), some (.inl (v1 + (-1))), none]) ⟨rfl, rfl, trivial⟩ h
def g_MM_want_2 (E : dx_E) (d : Nat) (po : dx_P) (v2 v3 : Int32) (σ : dx_V) : Prop := dx_G tM E d RMM cMM_want 4 none po 2 [some (.inr 0), none, some (.inl v2), some (.inl v3)] [] σ
set_option maxRecDepth 100000 in
set_option maxHeartbeats 4000000 in
theorem r_MM_want {E : dx_E} {d : Nat} {a1 a2 : Int32} {σ : dx_V} {po : dx_P} (h : g_MM_want_2 E d po a2 a1 σ) : m_MM_want E d a1 a2 σ po := by
  refine dx_entry (by decide) (Nat.le_of_ble_eq_true rfl) ?_
  show dx_G tM E d RMM cMM_want 4 none po 0 [some (.inr 0), some (.inl a1), some (.inl a2), none] [] σ
  refine dx_iload_n dMM_want_0 rfl ?_
  refine dx_istore_n (L' := [some (.inr 0), some (.inl a1), some (.inl a2), some (.inl a1)]) dMM_want_1 (Nat.le_of_ble_eq_true rfl) rfl ?_
  exact dx_less (L' := [some (.inr 0), none, some (.inl a2), some (.inl a1)]) ⟨rfl, rfl, rfl, trivial⟩ h
set_option maxRecDepth 100000 in
set_option maxHeartbeats 4000000 in
theorem r_MM_want_2 {E : dx_E} {d : Nat} {po : dx_P} {v2 v3 : Int32} {σ : dx_V} (h : (v3 = v2 → po none σ) ∧ (¬ v3 = v2 → (v3 = 0 → po none σ) ∧ (¬ v3 = 0 → vp_in v3 16 ∧ (vp_in v3 16 ∧ (g_MM_want_2 E d po v2 (σ 1 v3.toNatClampNeg) (dx_u σ 26 v3.toNatClampNeg (vp_nar .boolean 1))))))) : g_MM_want_2 E d po v2 v3 σ := by
  show dx_G tM E d RMM cMM_want 4 none po 2 [some (.inr 0), none, some (.inl v2), some (.inl v3)] [] σ
  refine dx_iload_n dMM_want_2 rfl ?_
  refine dx_iload_n dMM_want_3 rfl ?_
  refine dx_icmp_eq 28 dMM_want_4 (by decide) (fun q => ?_) (fun q => ?_)
  · have h := h.1 q
    exact dx_vret dMM_want_28 rfl h
  · have h := h.2 q
    refine dx_iload_n dMM_want_7 rfl ?_
    refine dx_if_eq 28 dMM_want_8 (by decide) (fun q => ?_) (fun q => ?_)
    · have h := h.1 q
      exact dx_vret dMM_want_28 rfl h
    · have h := h.2 q
      refine dx_aload_n dMM_want_11 rfl ?_
      refine dx_getr dMM_want_12 flMM_86 rfl rfl ?_
      refine dx_iload_n dMM_want_15 rfl ?_
      refine dx_iconst (v := 1) dMM_want_16 (by decide) ?_
      obtain ⟨hi, h⟩ := h
      refine dx_bastore dMM_want_17 rfl hi ?_
      refine dx_aload_n dMM_want_18 rfl ?_
      refine dx_getr dMM_want_19 flMM_7 rfl rfl ?_
      refine dx_iload_n dMM_want_22 rfl ?_
      obtain ⟨hi, h⟩ := h
      refine dx_iaload dMM_want_23 rfl hi ?_
      refine dx_istore_n (L' := [some (.inr 0), none, some (.inl v2), some (.inl (σ 1 v3.toNatClampNeg))]) dMM_want_24 (Nat.le_of_ble_eq_true rfl) rfl ?_
      refine dx_goto 2 dMM_want_25 (by decide) ?_
      exact dx_less (L' := [some (.inr 0), none, some (.inl v2), some (.inl (σ 1 v3.toNatClampNeg))]) ⟨rfl, rfl, rfl, trivial⟩ h
def g_MM_aim_72 (E : dx_E) (d : Nat) (po : dx_P) (v3 w1 : Int32) (σ : dx_V) : Prop := dx_G tM E d RMM cMM_aim 5 none po 72 [none, none, none, some (.inl v3), none] [.inl w1, .inr 0] σ
def g_MM_aim_82 (E : dx_E) (d : Nat) (po : dx_P) (v2 v3 v4 : Int32) (σ : dx_V) : Prop := dx_G tM E d RMM cMM_aim 5 none po 82 [some (.inr 0), none, some (.inl v2), some (.inl v3), some (.inl v4)] [] σ
set_option maxRecDepth 100000 in
set_option maxHeartbeats 4000000 in
theorem r_MM_aim {E : dx_E} {d : Nat} {a1 : Int32} {σ : dx_V} {po : dx_P} (h : vp_in a1 20 ∧ (dx_ci (m_MM_domain E d a1 σ) (fun x2 σ1 => vp_in (σ 6 a1.toNatClampNeg) 16 ∧ ((3 < (σ1 2 (σ 6 a1.toNatClampNeg).toNatClampNeg) → vp_in (σ 6 a1.toNatClampNeg) 16 ∧ ((¬ (σ1 16 (σ 6 a1.toNatClampNeg).toNatClampNeg) = 0 → g_MM_aim_82 E (d + 1) po (σ 6 a1.toNatClampNeg) x2 1 σ1) ∧ ((σ1 16 (σ 6 a1.toNatClampNeg).toNatClampNeg) = 0 → vp_in (σ 6 a1.toNatClampNeg) 16 ∧ (vp_in (σ1 1 (σ 6 a1.toNatClampNeg).toNatClampNeg) 16 ∧ ((¬ (σ1 2 (σ1 1 (σ 6 a1.toNatClampNeg).toNatClampNeg).toNatClampNeg) = 2 → dx_ci (m_MM_initialOf E d (σ1 1 (σ 6 a1.toNatClampNeg).toNatClampNeg) σ1) (fun x4 σ3 => g_MM_aim_72 E (d + 1) po x2 x4 σ3)) ∧ ((σ1 2 (σ1 1 (σ 6 a1.toNatClampNeg).toNatClampNeg).toNatClampNeg) = 2 → g_MM_aim_72 E (d + 1) po x2 (σ1 1 (σ 6 a1.toNatClampNeg).toNatClampNeg) σ1)))))) ∧ (¬ 3 < (σ1 2 (σ 6 a1.toNatClampNeg).toNatClampNeg) → dx_cu (m_MM_want E d (σ 6 a1.toNatClampNeg) x2 σ1) (fun σ5 => po none σ5)))))) : m_MM_aim E (d + 1) a1 σ po := by
  refine dx_entry (by decide) (Nat.le_of_ble_eq_true rfl) ?_
  show dx_G tM E (d + 1) RMM cMM_aim 5 none po 0 [some (.inr 0), some (.inl a1), none, none, none] [] σ
  refine dx_aload_n dMM_aim_0 rfl ?_
  refine dx_getr dMM_aim_1 flMM_25 rfl rfl ?_
  refine dx_iload_n dMM_aim_4 rfl ?_
  obtain ⟨hi, h⟩ := h
  refine dx_iaload dMM_aim_5 rfl hi ?_
  refine dx_istore_n (L' := [some (.inr 0), some (.inl a1), some (.inl (σ 6 a1.toNatClampNeg)), none, none]) dMM_aim_6 (Nat.le_of_ble_eq_true rfl) rfl ?_
  refine dx_aload_n dMM_aim_7 rfl ?_
  refine dx_iload_n dMM_aim_8 rfl ?_
  obtain ⟨pp, hm, hk⟩ := h
  refine dx_callvi [.inl a1] [] dMM_aim_9 cvMM_157 rfl (Nat.le_of_ble_eq_true rfl) rfl hm (fun x2 σ1 hp => ?_)
  have h := hk x2 σ1 hp
  refine dx_istore_n (L' := [some (.inr 0), some (.inl a1), some (.inl (σ 6 a1.toNatClampNeg)), some (.inl x2), none]) dMM_aim_12 (Nat.le_of_ble_eq_true rfl) rfl ?_
  refine dx_aload_n dMM_aim_13 rfl ?_
  refine dx_getr dMM_aim_14 flMM_13 rfl rfl ?_
  refine dx_iload_n dMM_aim_17 rfl ?_
  obtain ⟨hi, h⟩ := h
  refine dx_iaload dMM_aim_18 rfl hi ?_
  refine dx_iconst (v := 3) dMM_aim_19 (by decide) ?_
  refine dx_icmp_gt 32 dMM_aim_20 (by decide) (fun q => ?_) (fun q => ?_)
  · have h := h.1 q
    refine dx_aload_n dMM_aim_32 rfl ?_
    refine dx_getr dMM_aim_33 flMM_56 rfl rfl ?_
    refine dx_iload_n dMM_aim_36 rfl ?_
    obtain ⟨hi, h⟩ := h
    refine dx_iaload dMM_aim_37 rfl hi ?_
    refine dx_if_ne 79 dMM_aim_38 (by decide) (fun q => ?_) (fun q => ?_)
    · have h := h.1 q
      refine dx_iconst (v := 1) dMM_aim_79 (by decide) ?_
      refine dx_istore (L' := [some (.inr 0), some (.inl a1), some (.inl (σ 6 a1.toNatClampNeg)), some (.inl x2), some (.inl 1)]) dMM_aim_80 (Nat.le_of_ble_eq_true rfl) rfl ?_
      exact dx_less (L' := [some (.inr 0), none, some (.inl (σ 6 a1.toNatClampNeg)), some (.inl x2), some (.inl 1)]) ⟨rfl, rfl, rfl, rfl, trivial⟩ h
    · have h := h.2 q
      refine dx_aload_n dMM_aim_41 rfl ?_
      refine dx_getr dMM_aim_42 flMM_7 rfl rfl ?_
      refine dx_iload_n dMM_aim_45 rfl ?_
      obtain ⟨hi, h⟩ := h
      refine dx_iaload dMM_aim_46 rfl hi ?_
      refine dx_istore (L' := [some (.inr 0), some (.inl a1), some (.inl (σ 6 a1.toNatClampNeg)), some (.inl x2), some (.inl (σ1 1 (σ 6 a1.toNatClampNeg).toNatClampNeg))]) dMM_aim_47 (Nat.le_of_ble_eq_true rfl) rfl ?_
      refine dx_aload_n dMM_aim_49 rfl ?_
      refine dx_aload_n dMM_aim_50 rfl ?_
      refine dx_getr dMM_aim_51 flMM_13 rfl rfl ?_
      refine dx_iload dMM_aim_54 rfl ?_
      obtain ⟨hi, h⟩ := h
      refine dx_iaload dMM_aim_56 rfl hi ?_
      refine dx_iconst (v := 2) dMM_aim_57 (by decide) ?_
      refine dx_icmp_ne 66 dMM_aim_58 (by decide) (fun q => ?_) (fun q => ?_)
      · have h := h.1 q
        refine dx_aload_n dMM_aim_66 rfl ?_
        refine dx_iload dMM_aim_67 rfl ?_
        obtain ⟨pp, hm, hk⟩ := h
        refine dx_callvi [.inl (σ1 1 (σ 6 a1.toNatClampNeg).toNatClampNeg)] [.inr 0] dMM_aim_69 cvMM_182 rfl (Nat.le_of_ble_eq_true rfl) rfl hm (fun x4 σ3 hp => ?_)
        have h := hk x4 σ3 hp
        exact dx_less (L' := [none, none, none, some (.inl x2), none]) ⟨rfl, trivial⟩ h
      · have h := h.2 q
        refine dx_iload dMM_aim_61 rfl ?_
        refine dx_goto 72 dMM_aim_63 (by decide) ?_
        exact dx_less (L' := [none, none, none, some (.inl x2), none]) ⟨rfl, trivial⟩ h
  · have h := h.2 q
    refine dx_aload_n dMM_aim_23 rfl ?_
    refine dx_iload_n dMM_aim_24 rfl ?_
    refine dx_iload_n dMM_aim_25 rfl ?_
    obtain ⟨pp, hm, hk⟩ := h
    refine dx_callvv [.inl (σ 6 a1.toNatClampNeg), .inl x2] [] dMM_aim_26 cvMM_179 rfl (Nat.le_of_ble_eq_true rfl) rfl hm (fun σ5 hp => ?_)
    have h := hk σ5 hp
    refine dx_goto 119 dMM_aim_29 (by decide) ?_
    exact dx_vret dMM_aim_119 rfl h
set_option maxRecDepth 100000 in
set_option maxHeartbeats 4000000 in
theorem r_MM_aim_72 {E : dx_E} {d : Nat} {po : dx_P} {v3 w1 : Int32} {σ : dx_V} (h : dx_cu (m_MM_want E d w1 v3 σ) (fun σ1 => po none σ1)) : g_MM_aim_72 E (d + 1) po v3 w1 σ := by
  show dx_G tM E (d + 1) RMM cMM_aim 5 none po 72 [none, none, none, some (.inl v3), none] [.inl w1, .inr 0] σ
  refine dx_iload_n dMM_aim_72 rfl ?_
  obtain ⟨pp, hm, hk⟩ := h
  refine dx_callvv [.inl w1, .inl v3] [] dMM_aim_73 cvMM_179 rfl (Nat.le_of_ble_eq_true rfl) rfl hm (fun σ1 hp => ?_)
  have h := hk σ1 hp
  refine dx_goto 119 dMM_aim_76 (by decide) ?_
  exact dx_vret dMM_aim_119 rfl h
set_option maxRecDepth 100000 in
set_option maxHeartbeats 4000000 in
theorem r_MM_aim_82 {E : dx_E} {d : Nat} {po : dx_P} {v2 v3 v4 : Int32} {σ : dx_V} (h : ((σ 0 0) < v4 → po none σ) ∧ (¬ (σ 0 0) < v4 → vp_in v2 16 ∧ ((¬ (((σ 16 v2.toNatClampNeg) >>> (v4 &&& 31)) &&& 1) = 1 → g_MM_aim_82 E (d + 1) po v2 v3 (v4 + 1) σ) ∧ ((((σ 16 v2.toNatClampNeg) >>> (v4 &&& 31)) &&& 1) = 1 → dx_cu (m_MM_want E d v4 v3 σ) (fun σ1 => g_MM_aim_82 E (d + 1) po v2 v3 (v4 + 1) σ1))))) : g_MM_aim_82 E (d + 1) po v2 v3 v4 σ := by
  show dx_G tM E (d + 1) RMM cMM_aim 5 none po 82 [some (.inr 0), none, some (.inl v2), some (.inl v3), some (.inl v4)] [] σ
  refine dx_iload dMM_aim_82 rfl ?_
  refine dx_aload_n dMM_aim_84 rfl ?_
  refine dx_geti dMM_aim_85 flMM_89 rfl rfl ?_
  refine dx_icmp_gt 119 dMM_aim_88 (by decide) (fun q => ?_) (fun q => ?_)
  · have h := h.1 q
    exact dx_vret dMM_aim_119 rfl h
  · have h := h.2 q
    refine dx_aload_n dMM_aim_91 rfl ?_
    refine dx_getr dMM_aim_92 flMM_56 rfl rfl ?_
    refine dx_iload_n dMM_aim_95 rfl ?_
    obtain ⟨hi, h⟩ := h
    refine dx_iaload dMM_aim_96 rfl hi ?_
    refine dx_iload dMM_aim_97 rfl ?_
    refine dx_ishr dMM_aim_99 ?_
    refine dx_iconst (v := 1) dMM_aim_100 (by decide) ?_
    refine dx_iand dMM_aim_101 ?_
    refine dx_iconst (v := 1) dMM_aim_102 (by decide) ?_
    refine dx_icmp_ne 113 dMM_aim_103 (by decide) (fun q => ?_) (fun q => ?_)
    · have h := h.1 q
      refine dx_iinc (v := v4 + 1) (L' := [some (.inr 0), none, some (.inl v2), some (.inl v3), some (.inl (v4 + 1))]) dMM_aim_113 rfl rfl rfl ?_
      refine dx_goto 82 dMM_aim_116 (by decide) ?_
      exact dx_less (L' := [some (.inr 0), none, some (.inl v2), some (.inl v3), some (.inl (v4 + 1))]) ⟨rfl, rfl, rfl, rfl, trivial⟩ h
    · have h := h.2 q
      refine dx_aload_n dMM_aim_106 rfl ?_
      refine dx_iload dMM_aim_107 rfl ?_
      refine dx_iload_n dMM_aim_109 rfl ?_
      obtain ⟨pp, hm, hk⟩ := h
      refine dx_callvv [.inl v4, .inl v3] [] dMM_aim_110 cvMM_179 rfl (Nat.le_of_ble_eq_true rfl) rfl hm (fun σ1 hp => ?_)
      have h := hk σ1 hp
      refine dx_iinc (v := v4 + 1) (L' := [some (.inr 0), none, some (.inl v2), some (.inl v3), some (.inl (v4 + 1))]) dMM_aim_113 rfl rfl rfl ?_
      refine dx_goto 82 dMM_aim_116 (by decide) ?_
      exact dx_less (L' := [some (.inr 0), none, some (.inl v2), some (.inl v3), some (.inl (v4 + 1))]) ⟨rfl, rfl, rfl, rfl, trivial⟩ h
def g_MM_fill_2 (E : dx_E) (d : Nat) (po : dx_P) (v1 : Int32) (σ : dx_V) : Prop := dx_G tM E d RMM cMM_fill 5 none po 2 [some (.inr 0), some (.inl v1), none, none, none] [] σ
def g_MM_fill_10 (E : dx_E) (d : Nat) (po : dx_P) (v1 v2 : Int32) (σ : dx_V) : Prop := dx_G tM E d RMM cMM_fill 5 none po 10 [some (.inr 0), some (.inl v1), some (.inl v2), none, none] [] σ
def g_MM_fill_23 (E : dx_E) (d : Nat) (po : dx_P) (v1 v2 v3 v4 : Int32) (σ : dx_V) : Prop := dx_G tM E d RMM cMM_fill 5 none po 23 [some (.inr 0), some (.inl v1), some (.inl v2), some (.inl v3), some (.inl v4)] [] σ
def g_MM_fill_57 (E : dx_E) (d : Nat) (po : dx_P) (v1 v2 v4 : Int32) (σ : dx_V) : Prop := dx_G tM E d RMM cMM_fill 5 none po 57 [some (.inr 0), some (.inl v1), some (.inl v2), none, some (.inl v4)] [] σ
def g_MM_fill_62 (E : dx_E) (d : Nat) (po : dx_P) (v1 v2 v4 w0 : Int32) (σ : dx_V) : Prop := dx_G tM E d RMM cMM_fill 5 none po 62 [some (.inr 0), some (.inl v1), some (.inl v2), none, some (.inl v4)] [.inl w0] σ
set_option maxRecDepth 100000 in
set_option maxHeartbeats 4000000 in
theorem r_MM_fill {E : dx_E} {d : Nat} {σ : dx_V} {po : dx_P} (h : g_MM_fill_2 E (d + 1) po 1 σ) : m_MM_fill E (d + 1) σ po := by
  refine dx_entry (by decide) (Nat.le_of_ble_eq_true rfl) ?_
  show dx_G tM E (d + 1) RMM cMM_fill 5 none po 0 [some (.inr 0), none, none, none, none] [] σ
  refine dx_iconst (v := 1) dMM_fill_0 (by decide) ?_
  refine dx_istore_n (L' := [some (.inr 0), some (.inl 1), none, none, none]) dMM_fill_1 (Nat.le_of_ble_eq_true rfl) rfl ?_
  exact dx_less (L' := [some (.inr 0), some (.inl 1), none, none, none]) ⟨rfl, rfl, trivial⟩ h
set_option maxRecDepth 100000 in
set_option maxHeartbeats 4000000 in
theorem r_MM_fill_2 {E : dx_E} {d : Nat} {po : dx_P} {v1 : Int32} {σ : dx_V} (h : (v1 = 0 → po none σ) ∧ (¬ v1 = 0 → g_MM_fill_10 E (d + 1) po 0 1 σ)) : g_MM_fill_2 E (d + 1) po v1 σ := by
  show dx_G tM E (d + 1) RMM cMM_fill 5 none po 2 [some (.inr 0), some (.inl v1), none, none, none] [] σ
  refine dx_iload_n dMM_fill_2 rfl ?_
  refine dx_if_eq 173 dMM_fill_3 (by decide) (fun q => ?_) (fun q => ?_)
  · have h := h.1 q
    exact dx_vret dMM_fill_173 rfl h
  · have h := h.2 q
    refine dx_iconst (v := 0) dMM_fill_6 (by decide) ?_
    refine dx_istore_n (L' := [some (.inr 0), some (.inl 0), none, none, none]) dMM_fill_7 (Nat.le_of_ble_eq_true rfl) rfl ?_
    refine dx_iconst (v := 1) dMM_fill_8 (by decide) ?_
    refine dx_istore_n (L' := [some (.inr 0), some (.inl 0), some (.inl 1), none, none]) dMM_fill_9 (Nat.le_of_ble_eq_true rfl) rfl ?_
    exact dx_less (L' := [some (.inr 0), some (.inl 0), some (.inl 1), none, none]) ⟨rfl, rfl, rfl, trivial⟩ h
set_option maxRecDepth 100000 in
set_option maxHeartbeats 4000000 in
theorem r_MM_fill_10 {E : dx_E} {d : Nat} {po : dx_P} {v1 v2 : Int32} {σ : dx_V} (h : ((σ 0 0) < v2 → g_MM_fill_2 E (d + 1) po v1 σ) ∧ (¬ (σ 0 0) < v2 → g_MM_fill_23 E (d + 1) po v1 v2 0 1 σ)) : g_MM_fill_10 E (d + 1) po v1 v2 σ := by
  show dx_G tM E (d + 1) RMM cMM_fill 5 none po 10 [some (.inr 0), some (.inl v1), some (.inl v2), none, none] [] σ
  refine dx_iload_n dMM_fill_10 rfl ?_
  refine dx_aload_n dMM_fill_11 rfl ?_
  refine dx_geti dMM_fill_12 flMM_89 rfl rfl ?_
  refine dx_icmp_gt 170 dMM_fill_15 (by decide) (fun q => ?_) (fun q => ?_)
  · have h := h.1 q
    refine dx_goto 2 dMM_fill_170 (by decide) ?_
    exact dx_less (L' := [some (.inr 0), some (.inl v1), none, none, none]) ⟨rfl, rfl, trivial⟩ h
  · have h := h.2 q
    refine dx_iconst (v := 0) dMM_fill_18 (by decide) ?_
    refine dx_istore_n (L' := [some (.inr 0), some (.inl v1), some (.inl v2), some (.inl 0), none]) dMM_fill_19 (Nat.le_of_ble_eq_true rfl) rfl ?_
    refine dx_iconst (v := 1) dMM_fill_20 (by decide) ?_
    refine dx_istore (L' := [some (.inr 0), some (.inl v1), some (.inl v2), some (.inl 0), some (.inl 1)]) dMM_fill_21 (Nat.le_of_ble_eq_true rfl) rfl ?_
    exact dx_less (L' := [some (.inr 0), some (.inl v1), some (.inl v2), some (.inl 0), some (.inl 1)]) ⟨rfl, rfl, rfl, rfl, rfl, trivial⟩ h
set_option maxRecDepth 100000 in
set_option maxHeartbeats 4000000 in
theorem r_MM_fill_23 {E : dx_E} {d : Nat} {po : dx_P} {v1 v2 v3 v4 : Int32} {σ : dx_V} (h : ((σ 0 0) < v4 → vp_in v2 16 ∧ (((σ 26 v2.toNatClampNeg) = 0 → g_MM_fill_10 E (d + 1) po v1 (v2 + 1) σ) ∧ (¬ (σ 26 v2.toNatClampNeg) = 0 → dx_ci (m_MM_compound E d v2 σ) (fun x2 σ1 => (x2 = 0 → g_MM_fill_10 E (d + 1) po v1 (v2 + 1) σ1) ∧ (¬ x2 = 0 → (¬ v3 = 0 → g_MM_fill_10 E (d + 1) po v1 (v2 + 1) σ1) ∧ (v3 = 0 → dx_ci (m_MM_initialOf E d v2 σ1) (fun x4 σ3 => vp_in x4 16 ∧ (g_MM_fill_10 E (d + 1) po 1 (v2 + 1) (dx_u σ3 26 x4.toNatClampNeg (vp_nar .boolean 1)))))))))) ∧ (¬ (σ 0 0) < v4 → (¬ v3 = 0 → g_MM_fill_57 E (d + 1) po v1 v2 v4 σ) ∧ (v3 = 0 → vp_in v4 16 ∧ ((¬ (σ 1 v4.toNatClampNeg) = v2 → g_MM_fill_62 E (d + 1) po v1 v2 v4 0 σ) ∧ ((σ 1 v4.toNatClampNeg) = v2 → vp_in v4 16 ∧ (((σ 26 v4.toNatClampNeg) = 0 → g_MM_fill_62 E (d + 1) po v1 v2 v4 0 σ) ∧ (¬ (σ 26 v4.toNatClampNeg) = 0 → g_MM_fill_57 E (d + 1) po v1 v2 v4 σ))))))) : g_MM_fill_23 E (d + 1) po v1 v2 v3 v4 σ := by
  show dx_G tM E (d + 1) RMM cMM_fill 5 none po 23 [some (.inr 0), some (.inl v1), some (.inl v2), some (.inl v3), some (.inl v4)] [] σ
  refine dx_iload dMM_fill_23 rfl ?_
  refine dx_aload_n dMM_fill_25 rfl ?_
  refine dx_geti dMM_fill_26 flMM_89 rfl rfl ?_
  refine dx_icmp_gt 130 dMM_fill_29 (by decide) (fun q => ?_) (fun q => ?_)
  · have h := h.1 q
    refine dx_aload_n dMM_fill_130 rfl ?_
    refine dx_getr dMM_fill_131 flMM_86 rfl rfl ?_
    refine dx_iload_n dMM_fill_134 rfl ?_
    obtain ⟨hi, h⟩ := h
    refine dx_baload dMM_fill_135 rfl hi ?_
    refine dx_if_eq 164 dMM_fill_136 (by decide) (fun q => ?_) (fun q => ?_)
    · have h := h.1 q
      refine dx_iinc (v := v2 + 1) (L' := [some (.inr 0), some (.inl v1), some (.inl (v2 + 1)), some (.inl v3), some (.inl v4)]) dMM_fill_164 rfl rfl rfl ?_
      refine dx_goto 10 dMM_fill_167 (by decide) ?_
      exact dx_less (L' := [some (.inr 0), some (.inl v1), some (.inl (v2 + 1)), none, none]) ⟨rfl, rfl, rfl, trivial⟩ h
    · have h := h.2 q
      refine dx_aload_n dMM_fill_139 rfl ?_
      refine dx_iload_n dMM_fill_140 rfl ?_
      obtain ⟨pp, hm, hk⟩ := h
      refine dx_callvi [.inl v2] [] dMM_fill_141 cvMM_150 rfl (Nat.le_of_ble_eq_true rfl) rfl hm (fun x2 σ1 hp => ?_)
      have h := hk x2 σ1 hp
      refine dx_if_eq 164 dMM_fill_144 (by decide) (fun q => ?_) (fun q => ?_)
      · have h := h.1 q
        refine dx_iinc (v := v2 + 1) (L' := [some (.inr 0), some (.inl v1), some (.inl (v2 + 1)), some (.inl v3), some (.inl v4)]) dMM_fill_164 rfl rfl rfl ?_
        refine dx_goto 10 dMM_fill_167 (by decide) ?_
        exact dx_less (L' := [some (.inr 0), some (.inl v1), some (.inl (v2 + 1)), none, none]) ⟨rfl, rfl, rfl, trivial⟩ h
      · have h := h.2 q
        refine dx_iload_n dMM_fill_147 rfl ?_
        refine dx_if_ne 164 dMM_fill_148 (by decide) (fun q => ?_) (fun q => ?_)
        · have h := h.1 q
          refine dx_iinc (v := v2 + 1) (L' := [some (.inr 0), some (.inl v1), some (.inl (v2 + 1)), some (.inl v3), some (.inl v4)]) dMM_fill_164 rfl rfl rfl ?_
          refine dx_goto 10 dMM_fill_167 (by decide) ?_
          exact dx_less (L' := [some (.inr 0), some (.inl v1), some (.inl (v2 + 1)), none, none]) ⟨rfl, rfl, rfl, trivial⟩ h
        · have h := h.2 q
          refine dx_aload_n dMM_fill_151 rfl ?_
          refine dx_getr dMM_fill_152 flMM_86 rfl rfl ?_
          refine dx_aload_n dMM_fill_155 rfl ?_
          refine dx_iload_n dMM_fill_156 rfl ?_
          obtain ⟨pp, hm, hk⟩ := h
          refine dx_callvi [.inl v2] [.inr 26] dMM_fill_157 cvMM_182 rfl (Nat.le_of_ble_eq_true rfl) rfl hm (fun x4 σ3 hp => ?_)
          have h := hk x4 σ3 hp
          refine dx_iconst (v := 1) dMM_fill_160 (by decide) ?_
          obtain ⟨hi, h⟩ := h
          refine dx_bastore dMM_fill_161 rfl hi ?_
          refine dx_iconst (v := 1) dMM_fill_162 (by decide) ?_
          refine dx_istore_n (L' := [some (.inr 0), some (.inl 1), some (.inl v2), some (.inl v3), some (.inl v4)]) dMM_fill_163 (Nat.le_of_ble_eq_true rfl) rfl ?_
          refine dx_iinc (v := v2 + 1) (L' := [some (.inr 0), some (.inl 1), some (.inl (v2 + 1)), some (.inl v3), some (.inl v4)]) dMM_fill_164 rfl rfl rfl ?_
          refine dx_goto 10 dMM_fill_167 (by decide) ?_
          exact dx_less (L' := [some (.inr 0), some (.inl 1), some (.inl (v2 + 1)), none, none]) ⟨rfl, rfl, rfl, trivial⟩ h
  · have h := h.2 q
    refine dx_iload_n dMM_fill_32 rfl ?_
    refine dx_if_ne 57 dMM_fill_33 (by decide) (fun q => ?_) (fun q => ?_)
    · have h := h.1 q
      exact dx_less (L' := [some (.inr 0), some (.inl v1), some (.inl v2), none, some (.inl v4)]) ⟨rfl, rfl, rfl, rfl, trivial⟩ h
    · have h := h.2 q
      refine dx_aload_n dMM_fill_36 rfl ?_
      refine dx_getr dMM_fill_37 flMM_7 rfl rfl ?_
      refine dx_iload dMM_fill_40 rfl ?_
      obtain ⟨hi, h⟩ := h
      refine dx_iaload dMM_fill_42 rfl hi ?_
      refine dx_iload_n dMM_fill_43 rfl ?_
      refine dx_icmp_ne 61 dMM_fill_44 (by decide) (fun q => ?_) (fun q => ?_)
      · have h := h.1 q
        refine dx_iconst (v := 0) dMM_fill_61 (by decide) ?_
        exact dx_less (L' := [some (.inr 0), some (.inl v1), some (.inl v2), none, some (.inl v4)]) ⟨rfl, rfl, rfl, rfl, trivial⟩ h
      · have h := h.2 q
        refine dx_aload_n dMM_fill_47 rfl ?_
        refine dx_getr dMM_fill_48 flMM_86 rfl rfl ?_
        refine dx_iload dMM_fill_51 rfl ?_
        obtain ⟨hi, h⟩ := h
        refine dx_baload dMM_fill_53 rfl hi ?_
        refine dx_if_eq 61 dMM_fill_54 (by decide) (fun q => ?_) (fun q => ?_)
        · have h := h.1 q
          refine dx_iconst (v := 0) dMM_fill_61 (by decide) ?_
          exact dx_less (L' := [some (.inr 0), some (.inl v1), some (.inl v2), none, some (.inl v4)]) ⟨rfl, rfl, rfl, rfl, trivial⟩ h
        · have h := h.2 q
          exact dx_less (L' := [some (.inr 0), some (.inl v1), some (.inl v2), none, some (.inl v4)]) ⟨rfl, rfl, rfl, rfl, trivial⟩ h
set_option maxRecDepth 100000 in
set_option maxHeartbeats 4000000 in
theorem r_MM_fill_57 {E : dx_E} {d : Nat} {po : dx_P} {v1 v2 v4 : Int32} {σ : dx_V} (h : g_MM_fill_62 E (d + 1) po v1 v2 v4 1 σ) : g_MM_fill_57 E (d + 1) po v1 v2 v4 σ := by
  show dx_G tM E (d + 1) RMM cMM_fill 5 none po 57 [some (.inr 0), some (.inl v1), some (.inl v2), none, some (.inl v4)] [] σ
  refine dx_iconst (v := 1) dMM_fill_57 (by decide) ?_
  refine dx_goto 62 dMM_fill_58 (by decide) ?_
  exact dx_less (L' := [some (.inr 0), some (.inl v1), some (.inl v2), none, some (.inl v4)]) ⟨rfl, rfl, rfl, rfl, trivial⟩ h
set_option maxRecDepth 100000 in
set_option maxHeartbeats 4000000 in
theorem r_MM_fill_62 {E : dx_E} {d : Nat} {po : dx_P} {v1 v2 v4 w0 : Int32} {σ : dx_V} (h : vp_in v2 16 ∧ (((σ 26 v2.toNatClampNeg) = 0 → g_MM_fill_23 E (d + 1) po v1 v2 w0 (v4 + 1) σ) ∧ (¬ (σ 26 v2.toNatClampNeg) = 0 → vp_in v2 16 ∧ ((¬ (σ 2 v2.toNatClampNeg) = 2 → g_MM_fill_23 E (d + 1) po v1 v2 w0 (v4 + 1) σ) ∧ ((σ 2 v2.toNatClampNeg) = 2 → vp_in v4 16 ∧ ((¬ (σ 1 v4.toNatClampNeg) = v2 → g_MM_fill_23 E (d + 1) po v1 v2 w0 (v4 + 1) σ) ∧ ((σ 1 v4.toNatClampNeg) = v2 → vp_in v4 16 ∧ ((3 < (σ 2 v4.toNatClampNeg) → g_MM_fill_23 E (d + 1) po v1 v2 w0 (v4 + 1) σ) ∧ (¬ 3 < (σ 2 v4.toNatClampNeg) → vp_in v4 16 ∧ ((¬ (σ 26 v4.toNatClampNeg) = 0 → g_MM_fill_23 E (d + 1) po v1 v2 w0 (v4 + 1) σ) ∧ ((σ 26 v4.toNatClampNeg) = 0 → vp_in v4 16 ∧ (g_MM_fill_23 E (d + 1) po 1 v2 w0 (v4 + 1) (dx_u σ 26 v4.toNatClampNeg (vp_nar .boolean 1)))))))))))))) : g_MM_fill_62 E (d + 1) po v1 v2 v4 w0 σ := by
  show dx_G tM E (d + 1) RMM cMM_fill 5 none po 62 [some (.inr 0), some (.inl v1), some (.inl v2), none, some (.inl v4)] [.inl w0] σ
  refine dx_istore_n (L' := [some (.inr 0), some (.inl v1), some (.inl v2), some (.inl w0), some (.inl v4)]) dMM_fill_62 (Nat.le_of_ble_eq_true rfl) rfl ?_
  refine dx_aload_n dMM_fill_63 rfl ?_
  refine dx_getr dMM_fill_64 flMM_86 rfl rfl ?_
  refine dx_iload_n dMM_fill_67 rfl ?_
  obtain ⟨hi, h⟩ := h
  refine dx_baload dMM_fill_68 rfl hi ?_
  refine dx_if_eq 124 dMM_fill_69 (by decide) (fun q => ?_) (fun q => ?_)
  · have h := h.1 q
    refine dx_iinc (v := v4 + 1) (L' := [some (.inr 0), some (.inl v1), some (.inl v2), some (.inl w0), some (.inl (v4 + 1))]) dMM_fill_124 rfl rfl rfl ?_
    refine dx_goto 23 dMM_fill_127 (by decide) ?_
    exact dx_less (L' := [some (.inr 0), some (.inl v1), some (.inl v2), some (.inl w0), some (.inl (v4 + 1))]) ⟨rfl, rfl, rfl, rfl, rfl, trivial⟩ h
  · have h := h.2 q
    refine dx_aload_n dMM_fill_72 rfl ?_
    refine dx_getr dMM_fill_73 flMM_13 rfl rfl ?_
    refine dx_iload_n dMM_fill_76 rfl ?_
    obtain ⟨hi, h⟩ := h
    refine dx_iaload dMM_fill_77 rfl hi ?_
    refine dx_iconst (v := 2) dMM_fill_78 (by decide) ?_
    refine dx_icmp_ne 124 dMM_fill_79 (by decide) (fun q => ?_) (fun q => ?_)
    · have h := h.1 q
      refine dx_iinc (v := v4 + 1) (L' := [some (.inr 0), some (.inl v1), some (.inl v2), some (.inl w0), some (.inl (v4 + 1))]) dMM_fill_124 rfl rfl rfl ?_
      refine dx_goto 23 dMM_fill_127 (by decide) ?_
      exact dx_less (L' := [some (.inr 0), some (.inl v1), some (.inl v2), some (.inl w0), some (.inl (v4 + 1))]) ⟨rfl, rfl, rfl, rfl, rfl, trivial⟩ h
    · have h := h.2 q
      refine dx_aload_n dMM_fill_82 rfl ?_
      refine dx_getr dMM_fill_83 flMM_7 rfl rfl ?_
      refine dx_iload dMM_fill_86 rfl ?_
      obtain ⟨hi, h⟩ := h
      refine dx_iaload dMM_fill_88 rfl hi ?_
      refine dx_iload_n dMM_fill_89 rfl ?_
      refine dx_icmp_ne 124 dMM_fill_90 (by decide) (fun q => ?_) (fun q => ?_)
      · have h := h.1 q
        refine dx_iinc (v := v4 + 1) (L' := [some (.inr 0), some (.inl v1), some (.inl v2), some (.inl w0), some (.inl (v4 + 1))]) dMM_fill_124 rfl rfl rfl ?_
        refine dx_goto 23 dMM_fill_127 (by decide) ?_
        exact dx_less (L' := [some (.inr 0), some (.inl v1), some (.inl v2), some (.inl w0), some (.inl (v4 + 1))]) ⟨rfl, rfl, rfl, rfl, rfl, trivial⟩ h
      · have h := h.2 q
        refine dx_aload_n dMM_fill_93 rfl ?_
        refine dx_getr dMM_fill_94 flMM_13 rfl rfl ?_
        refine dx_iload dMM_fill_97 rfl ?_
        obtain ⟨hi, h⟩ := h
        refine dx_iaload dMM_fill_99 rfl hi ?_
        refine dx_iconst (v := 3) dMM_fill_100 (by decide) ?_
        refine dx_icmp_gt 124 dMM_fill_101 (by decide) (fun q => ?_) (fun q => ?_)
        · have h := h.1 q
          refine dx_iinc (v := v4 + 1) (L' := [some (.inr 0), some (.inl v1), some (.inl v2), some (.inl w0), some (.inl (v4 + 1))]) dMM_fill_124 rfl rfl rfl ?_
          refine dx_goto 23 dMM_fill_127 (by decide) ?_
          exact dx_less (L' := [some (.inr 0), some (.inl v1), some (.inl v2), some (.inl w0), some (.inl (v4 + 1))]) ⟨rfl, rfl, rfl, rfl, rfl, trivial⟩ h
        · have h := h.2 q
          refine dx_aload_n dMM_fill_104 rfl ?_
          refine dx_getr dMM_fill_105 flMM_86 rfl rfl ?_
          refine dx_iload dMM_fill_108 rfl ?_
          obtain ⟨hi, h⟩ := h
          refine dx_baload dMM_fill_110 rfl hi ?_
          refine dx_if_ne 124 dMM_fill_111 (by decide) (fun q => ?_) (fun q => ?_)
          · have h := h.1 q
            refine dx_iinc (v := v4 + 1) (L' := [some (.inr 0), some (.inl v1), some (.inl v2), some (.inl w0), some (.inl (v4 + 1))]) dMM_fill_124 rfl rfl rfl ?_
            refine dx_goto 23 dMM_fill_127 (by decide) ?_
            exact dx_less (L' := [some (.inr 0), some (.inl v1), some (.inl v2), some (.inl w0), some (.inl (v4 + 1))]) ⟨rfl, rfl, rfl, rfl, rfl, trivial⟩ h
          · have h := h.2 q
            refine dx_aload_n dMM_fill_114 rfl ?_
            refine dx_getr dMM_fill_115 flMM_86 rfl rfl ?_
            refine dx_iload dMM_fill_118 rfl ?_
            refine dx_iconst (v := 1) dMM_fill_120 (by decide) ?_
            obtain ⟨hi, h⟩ := h
            refine dx_bastore dMM_fill_121 rfl hi ?_
            refine dx_iconst (v := 1) dMM_fill_122 (by decide) ?_
            refine dx_istore_n (L' := [some (.inr 0), some (.inl 1), some (.inl v2), some (.inl w0), some (.inl v4)]) dMM_fill_123 (Nat.le_of_ble_eq_true rfl) rfl ?_
            refine dx_iinc (v := v4 + 1) (L' := [some (.inr 0), some (.inl 1), some (.inl v2), some (.inl w0), some (.inl (v4 + 1))]) dMM_fill_124 rfl rfl rfl ?_
            refine dx_goto 23 dMM_fill_127 (by decide) ?_
            exact dx_less (L' := [some (.inr 0), some (.inl 1), some (.inl v2), some (.inl w0), some (.inl (v4 + 1))]) ⟨rfl, rfl, rfl, rfl, rfl, trivial⟩ h
