def g_MM_done_2 (E : dx_E) (d : Nat) (po : dx_P) (v1 v2 : Int32) (σ : dx_V) : Prop := dx_G tM E d RMM cMM_done 3 (some .boolean) po 2 [some (.inr 0), some (.inl v1), some (.inl v2)] [] σ
set_option maxRecDepth 100000 in
set_option maxHeartbeats 4000000 in
theorem r_MM_done {E : dx_E} {d : Nat} {a1 : Int32} {σ : dx_V} {po : dx_P} (h : g_MM_done_2 E d po a1 1 σ) : m_MM_done E d a1 σ po := by
  refine dx_entry (by decide) (Nat.le_of_ble_eq_true rfl) ?_
  show dx_G tM E d RMM cMM_done 3 (some .boolean) po 0 [some (.inr 0), some (.inl a1), none] [] σ
  refine dx_iconst (v := 1) dMM_done_0 (by decide) ?_
  refine dx_istore_n (L' := [some (.inr 0), some (.inl a1), some (.inl 1)]) dMM_done_1 (Nat.le_of_ble_eq_true rfl) rfl ?_
  exact dx_less (L' := [some (.inr 0), some (.inl a1), some (.inl 1)]) ⟨rfl, rfl, rfl, trivial⟩ h
set_option maxRecDepth 100000 in
set_option maxHeartbeats 4000000 in
theorem r_MM_done_2 {E : dx_E} {d : Nat} {po : dx_P} {v1 v2 : Int32} {σ : dx_V} (h : ((σ 0 0) < v2 → po (some 0) σ) ∧ (¬ (σ 0 0) < v2 → vp_in v2 16 ∧ ((¬ (σ 1 v2.toNatClampNeg) = v1 → g_MM_done_2 E d po v1 (v2 + 1) σ) ∧ ((σ 1 v2.toNatClampNeg) = v1 → vp_in v2 16 ∧ ((¬ (σ 2 v2.toNatClampNeg) = 3 → g_MM_done_2 E d po v1 (v2 + 1) σ) ∧ ((σ 2 v2.toNatClampNeg) = 3 → vp_in v2 16 ∧ (((σ 15 v2.toNatClampNeg) = 0 → g_MM_done_2 E d po v1 (v2 + 1) σ) ∧ (¬ (σ 15 v2.toNatClampNeg) = 0 → po (some 1) σ)))))))) : g_MM_done_2 E d po v1 v2 σ := by
  show dx_G tM E d RMM cMM_done 3 (some .boolean) po 2 [some (.inr 0), some (.inl v1), some (.inl v2)] [] σ
  refine dx_iload_n dMM_done_2 rfl ?_
  refine dx_aload_n dMM_done_3 rfl ?_
  refine dx_geti dMM_done_4 flMM_89 rfl rfl ?_
  refine dx_icmp_gt 47 dMM_done_7 (by decide) (fun q => ?_) (fun q => ?_)
  · have h := h.1 q
    refine dx_iconst (v := 0) dMM_done_47 (by decide) ?_
    exact dx_ret dMM_done_48 rfl rfl h
  · have h := h.2 q
    refine dx_aload_n dMM_done_10 rfl ?_
    refine dx_getr dMM_done_11 flMM_7 rfl rfl ?_
    refine dx_iload_n dMM_done_14 rfl ?_
    obtain ⟨hi, h⟩ := h
    refine dx_iaload dMM_done_15 rfl hi ?_
    refine dx_iload_n dMM_done_16 rfl ?_
    refine dx_icmp_ne 41 dMM_done_17 (by decide) (fun q => ?_) (fun q => ?_)
    · have h := h.1 q
      refine dx_iinc (v := v2 + 1) (L' := [some (.inr 0), some (.inl v1), some (.inl (v2 + 1))]) dMM_done_41 rfl rfl rfl ?_
      refine dx_goto 2 dMM_done_44 (by decide) ?_
      exact dx_less (L' := [some (.inr 0), some (.inl v1), some (.inl (v2 + 1))]) ⟨rfl, rfl, rfl, trivial⟩ h
    · have h := h.2 q
      refine dx_aload_n dMM_done_20 rfl ?_
      refine dx_getr dMM_done_21 flMM_13 rfl rfl ?_
      refine dx_iload_n dMM_done_24 rfl ?_
      obtain ⟨hi, h⟩ := h
      refine dx_iaload dMM_done_25 rfl hi ?_
      refine dx_iconst (v := 3) dMM_done_26 (by decide) ?_
      refine dx_icmp_ne 41 dMM_done_27 (by decide) (fun q => ?_) (fun q => ?_)
      · have h := h.1 q
        refine dx_iinc (v := v2 + 1) (L' := [some (.inr 0), some (.inl v1), some (.inl (v2 + 1))]) dMM_done_41 rfl rfl rfl ?_
        refine dx_goto 2 dMM_done_44 (by decide) ?_
        exact dx_less (L' := [some (.inr 0), some (.inl v1), some (.inl (v2 + 1))]) ⟨rfl, rfl, rfl, trivial⟩ h
      · have h := h.2 q
        refine dx_aload_n dMM_done_30 rfl ?_
        refine dx_getr dMM_done_31 flMM_53 rfl rfl ?_
        refine dx_iload_n dMM_done_34 rfl ?_
        obtain ⟨hi, h⟩ := h
        refine dx_baload dMM_done_35 rfl hi ?_
        refine dx_if_eq 41 dMM_done_36 (by decide) (fun q => ?_) (fun q => ?_)
        · have h := h.1 q
          refine dx_iinc (v := v2 + 1) (L' := [some (.inr 0), some (.inl v1), some (.inl (v2 + 1))]) dMM_done_41 rfl rfl rfl ?_
          refine dx_goto 2 dMM_done_44 (by decide) ?_
          exact dx_less (L' := [some (.inr 0), some (.inl v1), some (.inl (v2 + 1))]) ⟨rfl, rfl, rfl, trivial⟩ h
        · have h := h.2 q
          refine dx_iconst (v := 1) dMM_done_39 (by decide) ?_
          exact dx_ret dMM_done_40 rfl rfl h
def g_MM_finish_52 (E : dx_E) (d : Nat) (po : dx_P) (v3 v4 v5 : Int32) (σ : dx_V) : Prop := dx_G tM E d RMM cMM_finish 6 none po 52 [some (.inr 0), none, none, some (.inl v3), some (.inl v4), some (.inl v5)] [] σ
def g_MM_finish_97 (E : dx_E) (d : Nat) (po : dx_P) (v3 v5 : Int32) (σ : dx_V) : Prop := dx_G tM E d RMM cMM_finish 6 none po 97 [some (.inr 0), none, none, some (.inl v3), none, some (.inl v5)] [] σ
set_option maxRecDepth 100000 in
set_option maxHeartbeats 4000000 in
theorem r_MM_finish {E : dx_E} {d : Nat} {a1 : Int32} {σ : dx_V} {po : dx_P} (h : vp_in a1 16 ∧ ((¬ (σ 1 a1.toNatClampNeg) = 0 → dx_cu (m_MM_raise E d (100 + (σ 1 a1.toNatClampNeg)) σ) (fun σ1 => vp_in (σ 1 a1.toNatClampNeg) 16 ∧ (vp_in (σ1 1 (σ 1 a1.toNatClampNeg).toNatClampNeg) 16 ∧ ((¬ (σ1 2 (σ1 1 (σ 1 a1.toNatClampNeg).toNatClampNeg).toNatClampNeg) = 2 → g_MM_finish_52 E (d + 1) po (σ1 1 (σ 1 a1.toNatClampNeg).toNatClampNeg) 0 1 σ1) ∧ ((σ1 2 (σ1 1 (σ 1 a1.toNatClampNeg).toNatClampNeg).toNatClampNeg) = 2 → g_MM_finish_52 E (d + 1) po (σ1 1 (σ 1 a1.toNatClampNeg).toNatClampNeg) 1 1 σ1))))) ∧ ((σ 1 a1.toNatClampNeg) = 0 → po none (dx_u σ 0 18 1)))) : m_MM_finish E (d + 1) a1 σ po := by
  refine dx_entry (by decide) (Nat.le_of_ble_eq_true rfl) ?_
  show dx_G tM E (d + 1) RMM cMM_finish 6 none po 0 [some (.inr 0), some (.inl a1), none, none, none, none] [] σ
  refine dx_aload_n dMM_finish_0 rfl ?_
  refine dx_getr dMM_finish_1 flMM_7 rfl rfl ?_
  refine dx_iload_n dMM_finish_4 rfl ?_
  obtain ⟨hi, h⟩ := h
  refine dx_iaload dMM_finish_5 rfl hi ?_
  refine dx_istore_n (L' := [some (.inr 0), some (.inl a1), some (.inl (σ 1 a1.toNatClampNeg)), none, none, none]) dMM_finish_6 (Nat.le_of_ble_eq_true rfl) rfl ?_
  refine dx_iload_n dMM_finish_7 rfl ?_
  refine dx_if_ne 17 dMM_finish_8 (by decide) (fun q => ?_) (fun q => ?_)
  · have h := h.1 q
    refine dx_aload_n dMM_finish_17 rfl ?_
    refine dx_bipush (v := 100) dMM_finish_18 (by decide) ?_
    refine dx_iload_n dMM_finish_20 rfl ?_
    refine dx_iadd dMM_finish_21 ?_
    obtain ⟨pp, hm, hk⟩ := h
    refine dx_callvv [.inl (100 + (σ 1 a1.toNatClampNeg))] [] dMM_finish_22 cvMM_132 rfl (Nat.le_of_ble_eq_true rfl) rfl hm (fun σ1 hp => ?_)
    have h := hk σ1 hp
    refine dx_aload_n dMM_finish_25 rfl ?_
    refine dx_getr dMM_finish_26 flMM_7 rfl rfl ?_
    refine dx_iload_n dMM_finish_29 rfl ?_
    obtain ⟨hi, h⟩ := h
    refine dx_iaload dMM_finish_30 rfl hi ?_
    refine dx_istore_n (L' := [some (.inr 0), some (.inl a1), some (.inl (σ 1 a1.toNatClampNeg)), some (.inl (σ1 1 (σ 1 a1.toNatClampNeg).toNatClampNeg)), none, none]) dMM_finish_31 (Nat.le_of_ble_eq_true rfl) rfl ?_
    refine dx_aload_n dMM_finish_32 rfl ?_
    refine dx_getr dMM_finish_33 flMM_13 rfl rfl ?_
    refine dx_iload_n dMM_finish_36 rfl ?_
    obtain ⟨hi, h⟩ := h
    refine dx_iaload dMM_finish_37 rfl hi ?_
    refine dx_iconst (v := 2) dMM_finish_38 (by decide) ?_
    refine dx_icmp_ne 46 dMM_finish_39 (by decide) (fun q => ?_) (fun q => ?_)
    · have h := h.1 q
      refine dx_iconst (v := 0) dMM_finish_46 (by decide) ?_
      refine dx_istore (L' := [some (.inr 0), some (.inl a1), some (.inl (σ 1 a1.toNatClampNeg)), some (.inl (σ1 1 (σ 1 a1.toNatClampNeg).toNatClampNeg)), some (.inl 0), none]) dMM_finish_47 (Nat.le_of_ble_eq_true rfl) rfl ?_
      refine dx_iconst (v := 1) dMM_finish_49 (by decide) ?_
      refine dx_istore (L' := [some (.inr 0), some (.inl a1), some (.inl (σ 1 a1.toNatClampNeg)), some (.inl (σ1 1 (σ 1 a1.toNatClampNeg).toNatClampNeg)), some (.inl 0), some (.inl 1)]) dMM_finish_50 (Nat.le_of_ble_eq_true rfl) rfl ?_
      exact dx_less (L' := [some (.inr 0), none, none, some (.inl (σ1 1 (σ 1 a1.toNatClampNeg).toNatClampNeg)), some (.inl 0), some (.inl 1)]) ⟨rfl, rfl, rfl, rfl, trivial⟩ h
    · have h := h.2 q
      refine dx_iconst (v := 1) dMM_finish_42 (by decide) ?_
      refine dx_goto 47 dMM_finish_43 (by decide) ?_
      refine dx_istore (L' := [some (.inr 0), some (.inl a1), some (.inl (σ 1 a1.toNatClampNeg)), some (.inl (σ1 1 (σ 1 a1.toNatClampNeg).toNatClampNeg)), some (.inl 1), none]) dMM_finish_47 (Nat.le_of_ble_eq_true rfl) rfl ?_
      refine dx_iconst (v := 1) dMM_finish_49 (by decide) ?_
      refine dx_istore (L' := [some (.inr 0), some (.inl a1), some (.inl (σ 1 a1.toNatClampNeg)), some (.inl (σ1 1 (σ 1 a1.toNatClampNeg).toNatClampNeg)), some (.inl 1), some (.inl 1)]) dMM_finish_50 (Nat.le_of_ble_eq_true rfl) rfl ?_
      exact dx_less (L' := [some (.inr 0), none, none, some (.inl (σ1 1 (σ 1 a1.toNatClampNeg).toNatClampNeg)), some (.inl 1), some (.inl 1)]) ⟨rfl, rfl, rfl, rfl, trivial⟩ h
  · have h := h.2 q
    refine dx_aload_n dMM_finish_11 rfl ?_
    refine dx_iconst (v := 1) dMM_finish_12 (by decide) ?_
    refine dx_put dMM_finish_13 fpMM_185 rfl rfl (Or.inr (Or.inr rfl)) ?_
    exact dx_vret dMM_finish_16 rfl h
set_option maxRecDepth 100000 in
set_option maxHeartbeats 4000000 in
theorem r_MM_finish_52 {E : dx_E} {d : Nat} {po : dx_P} {v3 v4 v5 : Int32} {σ : dx_V} (h : ((σ 0 0) < v5 → (v4 = 0 → po none σ) ∧ (¬ v4 = 0 → dx_ci (m_MM_failed E d σ) (fun x2 σ1 => (¬ x2 = 0 → po none σ1) ∧ (x2 = 0 → dx_cu (m_MM_raise E d (100 + v3) σ1) (fun σ3 => po none σ3))))) ∧ (¬ (σ 0 0) < v5 → (v4 = 0 → g_MM_finish_52 E (d + 1) po v3 0 (v5 + 1) σ) ∧ (¬ v4 = 0 → vp_in v5 16 ∧ ((¬ (σ 1 v5.toNatClampNeg) = v3 → g_MM_finish_97 E (d + 1) po v3 v5 σ) ∧ ((σ 1 v5.toNatClampNeg) = v3 → vp_in v5 16 ∧ ((3 < (σ 2 v5.toNatClampNeg) → g_MM_finish_97 E (d + 1) po v3 v5 σ) ∧ (¬ 3 < (σ 2 v5.toNatClampNeg) → dx_ci (m_MM_done E d v5 σ) (fun x5 σ4 => (x5 = 0 → g_MM_finish_52 E (d + 1) po v3 0 (v5 + 1) σ4) ∧ (¬ x5 = 0 → g_MM_finish_97 E (d + 1) po v3 v5 σ4))))))))) : g_MM_finish_52 E (d + 1) po v3 v4 v5 σ := by
  show dx_G tM E (d + 1) RMM cMM_finish 6 none po 52 [some (.inr 0), none, none, some (.inl v3), some (.inl v4), some (.inl v5)] [] σ
  refine dx_iload dMM_finish_52 rfl ?_
  refine dx_aload_n dMM_finish_54 rfl ?_
  refine dx_geti dMM_finish_55 flMM_89 rfl rfl ?_
  refine dx_icmp_gt 110 dMM_finish_58 (by decide) (fun q => ?_) (fun q => ?_)
  · have h := h.1 q
    refine dx_iload dMM_finish_110 rfl ?_
    refine dx_if_eq 130 dMM_finish_112 (by decide) (fun q => ?_) (fun q => ?_)
    · have h := h.1 q
      exact dx_vret dMM_finish_130 rfl h
    · have h := h.2 q
      refine dx_aload_n dMM_finish_115 rfl ?_
      obtain ⟨pp, hm, hk⟩ := h
      refine dx_callvi [] [] dMM_finish_116 cvMM_128 rfl (Nat.le_of_ble_eq_true rfl) rfl hm (fun x2 σ1 hp => ?_)
      have h := hk x2 σ1 hp
      refine dx_if_ne 130 dMM_finish_119 (by decide) (fun q => ?_) (fun q => ?_)
      · have h := h.1 q
        exact dx_vret dMM_finish_130 rfl h
      · have h := h.2 q
        refine dx_aload_n dMM_finish_122 rfl ?_
        refine dx_bipush (v := 100) dMM_finish_123 (by decide) ?_
        refine dx_iload_n dMM_finish_125 rfl ?_
        refine dx_iadd dMM_finish_126 ?_
        obtain ⟨pp, hm, hk⟩ := h
        refine dx_callvv [.inl (100 + v3)] [] dMM_finish_127 cvMM_132 rfl (Nat.le_of_ble_eq_true rfl) rfl hm (fun σ3 hp => ?_)
        have h := hk σ3 hp
        exact dx_vret dMM_finish_130 rfl h
  · have h := h.2 q
    refine dx_iload dMM_finish_61 rfl ?_
    refine dx_if_eq 101 dMM_finish_63 (by decide) (fun q => ?_) (fun q => ?_)
    · have h := h.1 q
      refine dx_iconst (v := 0) dMM_finish_101 (by decide) ?_
      refine dx_istore (L' := [some (.inr 0), none, none, some (.inl v3), some (.inl 0), some (.inl v5)]) dMM_finish_102 (Nat.le_of_ble_eq_true rfl) rfl ?_
      refine dx_iinc (v := v5 + 1) (L' := [some (.inr 0), none, none, some (.inl v3), some (.inl 0), some (.inl (v5 + 1))]) dMM_finish_104 rfl rfl rfl ?_
      refine dx_goto 52 dMM_finish_107 (by decide) ?_
      exact dx_less (L' := [some (.inr 0), none, none, some (.inl v3), some (.inl 0), some (.inl (v5 + 1))]) ⟨rfl, rfl, rfl, rfl, trivial⟩ h
    · have h := h.2 q
      refine dx_aload_n dMM_finish_66 rfl ?_
      refine dx_getr dMM_finish_67 flMM_7 rfl rfl ?_
      refine dx_iload dMM_finish_70 rfl ?_
      obtain ⟨hi, h⟩ := h
      refine dx_iaload dMM_finish_72 rfl hi ?_
      refine dx_iload_n dMM_finish_73 rfl ?_
      refine dx_icmp_ne 97 dMM_finish_74 (by decide) (fun q => ?_) (fun q => ?_)
      · have h := h.1 q
        exact dx_less (L' := [some (.inr 0), none, none, some (.inl v3), none, some (.inl v5)]) ⟨rfl, rfl, rfl, trivial⟩ h
      · have h := h.2 q
        refine dx_aload_n dMM_finish_77 rfl ?_
        refine dx_getr dMM_finish_78 flMM_13 rfl rfl ?_
        refine dx_iload dMM_finish_81 rfl ?_
        obtain ⟨hi, h⟩ := h
        refine dx_iaload dMM_finish_83 rfl hi ?_
        refine dx_iconst (v := 3) dMM_finish_84 (by decide) ?_
        refine dx_icmp_gt 97 dMM_finish_85 (by decide) (fun q => ?_) (fun q => ?_)
        · have h := h.1 q
          exact dx_less (L' := [some (.inr 0), none, none, some (.inl v3), none, some (.inl v5)]) ⟨rfl, rfl, rfl, trivial⟩ h
        · have h := h.2 q
          refine dx_aload_n dMM_finish_88 rfl ?_
          refine dx_iload dMM_finish_89 rfl ?_
          obtain ⟨pp, hm, hk⟩ := h
          refine dx_callvi [.inl v5] [] dMM_finish_91 cvMM_189 rfl (Nat.le_of_ble_eq_true rfl) rfl hm (fun x5 σ4 hp => ?_)
          have h := hk x5 σ4 hp
          refine dx_if_eq 101 dMM_finish_94 (by decide) (fun q => ?_) (fun q => ?_)
          · have h := h.1 q
            refine dx_iconst (v := 0) dMM_finish_101 (by decide) ?_
            refine dx_istore (L' := [some (.inr 0), none, none, some (.inl v3), some (.inl 0), some (.inl v5)]) dMM_finish_102 (Nat.le_of_ble_eq_true rfl) rfl ?_
            refine dx_iinc (v := v5 + 1) (L' := [some (.inr 0), none, none, some (.inl v3), some (.inl 0), some (.inl (v5 + 1))]) dMM_finish_104 rfl rfl rfl ?_
            refine dx_goto 52 dMM_finish_107 (by decide) ?_
            exact dx_less (L' := [some (.inr 0), none, none, some (.inl v3), some (.inl 0), some (.inl (v5 + 1))]) ⟨rfl, rfl, rfl, rfl, trivial⟩ h
          · have h := h.2 q
            exact dx_less (L' := [some (.inr 0), none, none, some (.inl v3), none, some (.inl v5)]) ⟨rfl, rfl, rfl, trivial⟩ h
set_option maxRecDepth 100000 in
set_option maxHeartbeats 4000000 in
theorem r_MM_finish_97 {E : dx_E} {d : Nat} {po : dx_P} {v3 v5 : Int32} {σ : dx_V} (h : g_MM_finish_52 E (d + 1) po v3 1 (v5 + 1) σ) : g_MM_finish_97 E (d + 1) po v3 v5 σ := by
  show dx_G tM E (d + 1) RMM cMM_finish 6 none po 97 [some (.inr 0), none, none, some (.inl v3), none, some (.inl v5)] [] σ
  refine dx_iconst (v := 1) dMM_finish_97 (by decide) ?_
  refine dx_goto 102 dMM_finish_98 (by decide) ?_
  refine dx_istore (L' := [some (.inr 0), none, none, some (.inl v3), some (.inl 1), some (.inl v5)]) dMM_finish_102 (Nat.le_of_ble_eq_true rfl) rfl ?_
  refine dx_iinc (v := v5 + 1) (L' := [some (.inr 0), none, none, some (.inl v3), some (.inl 1), some (.inl (v5 + 1))]) dMM_finish_104 rfl rfl rfl ?_
  refine dx_goto 52 dMM_finish_107 (by decide) ?_
  exact dx_less (L' := [some (.inr 0), none, none, some (.inl v3), some (.inl 1), some (.inl (v5 + 1))]) ⟨rfl, rfl, rfl, rfl, trivial⟩ h
def g_MM_enterAll_6 (E : dx_E) (d : Nat) (po : dx_P) (v1 : Int32) (σ : dx_V) : Prop := dx_G tM E d RMM cMM_enterAll 2 none po 6 [some (.inr 0), some (.inl v1)] [] σ
def g_MM_enterAll_61 (E : dx_E) (d : Nat) (po : dx_P) (v1 : Int32) (σ : dx_V) : Prop := dx_G tM E d RMM cMM_enterAll 2 none po 61 [some (.inr 0), some (.inl v1)] [] σ
def g_MM_enterAll_89 (E : dx_E) (d : Nat) (po : dx_P) (σ : dx_V) : Prop := dx_G tM E d RMM cMM_enterAll 2 none po 89 [some (.inr 0), none] [] σ
set_option maxRecDepth 100000 in
set_option maxHeartbeats 4000000 in
theorem r_MM_enterAll {E : dx_E} {d : Nat} {σ : dx_V} {po : dx_P} (h : dx_cu (m_MM_fill E d σ) (fun σ1 => g_MM_enterAll_6 E (d + 1) po 1 σ1)) : m_MM_enterAll E (d + 1) σ po := by
  refine dx_entry (by decide) (Nat.le_of_ble_eq_true rfl) ?_
  show dx_G tM E (d + 1) RMM cMM_enterAll 2 none po 0 [some (.inr 0), none] [] σ
  refine dx_aload_n dMM_enterAll_0 rfl ?_
  obtain ⟨pp, hm, hk⟩ := h
  refine dx_callvv [] [] dMM_enterAll_1 cvMM_192 rfl (Nat.le_of_ble_eq_true rfl) rfl hm (fun σ1 hp => ?_)
  have h := hk σ1 hp
  refine dx_iconst (v := 1) dMM_enterAll_4 (by decide) ?_
  refine dx_istore_n (L' := [some (.inr 0), some (.inl 1)]) dMM_enterAll_5 (Nat.le_of_ble_eq_true rfl) rfl ?_
  exact dx_less (L' := [some (.inr 0), some (.inl 1)]) ⟨rfl, rfl, trivial⟩ h
set_option maxRecDepth 100000 in
set_option maxHeartbeats 4000000 in
theorem r_MM_enterAll_6 {E : dx_E} {d : Nat} {po : dx_P} {v1 : Int32} {σ : dx_V} (h : ((σ 0 0) < v1 → g_MM_enterAll_89 E (d + 1) po σ) ∧ (¬ (σ 0 0) < v1 → dx_ci (m_MM_failed E d σ) (fun x2 σ1 => (¬ x2 = 0 → g_MM_enterAll_89 E (d + 1) po σ1) ∧ (x2 = 0 → vp_in v1 16 ∧ (((σ1 26 v1.toNatClampNeg) = 0 → g_MM_enterAll_6 E (d + 1) po (v1 + 1) σ1) ∧ (¬ (σ1 26 v1.toNatClampNeg) = 0 → dx_cu (m_MM_write E d (1000 + v1) σ1) (fun σ3 => dx_ci (m_MM_failed E d σ3) (fun x5 σ4 => (¬ x5 = 0 → g_MM_enterAll_61 E (d + 1) po v1 σ4) ∧ (x5 = 0 → vp_in v1 16 ∧ (dx_cu (m_MM_act E d (100 + v1) (dx_u σ4 15 v1.toNatClampNeg (vp_nar .boolean 1))) (fun σ6 => g_MM_enterAll_61 E (d + 1) po v1 σ6))))))))))) : g_MM_enterAll_6 E (d + 1) po v1 σ := by
  show dx_G tM E (d + 1) RMM cMM_enterAll 2 none po 6 [some (.inr 0), some (.inl v1)] [] σ
  refine dx_iload_n dMM_enterAll_6 rfl ?_
  refine dx_aload_n dMM_enterAll_7 rfl ?_
  refine dx_geti dMM_enterAll_8 flMM_89 rfl rfl ?_
  refine dx_icmp_gt 89 dMM_enterAll_11 (by decide) (fun q => ?_) (fun q => ?_)
  · have h := h.1 q
    exact dx_less (L' := [some (.inr 0), none]) ⟨rfl, trivial⟩ h
  · have h := h.2 q
    refine dx_aload_n dMM_enterAll_14 rfl ?_
    obtain ⟨pp, hm, hk⟩ := h
    refine dx_callvi [] [] dMM_enterAll_15 cvMM_128 rfl (Nat.le_of_ble_eq_true rfl) rfl hm (fun x2 σ1 hp => ?_)
    have h := hk x2 σ1 hp
    refine dx_if_ne 89 dMM_enterAll_18 (by decide) (fun q => ?_) (fun q => ?_)
    · have h := h.1 q
      exact dx_less (L' := [some (.inr 0), none]) ⟨rfl, trivial⟩ h
    · have h := h.2 q
      refine dx_aload_n dMM_enterAll_21 rfl ?_
      refine dx_getr dMM_enterAll_22 flMM_86 rfl rfl ?_
      refine dx_iload_n dMM_enterAll_25 rfl ?_
      obtain ⟨hi, h⟩ := h
      refine dx_baload dMM_enterAll_26 rfl hi ?_
      refine dx_if_eq 83 dMM_enterAll_27 (by decide) (fun q => ?_) (fun q => ?_)
      · have h := h.1 q
        refine dx_iinc (v := v1 + 1) (L' := [some (.inr 0), some (.inl (v1 + 1))]) dMM_enterAll_83 rfl rfl rfl ?_
        refine dx_goto 6 dMM_enterAll_86 (by decide) ?_
        exact dx_less (L' := [some (.inr 0), some (.inl (v1 + 1))]) ⟨rfl, rfl, trivial⟩ h
      · have h := h.2 q
        refine dx_aload_n dMM_enterAll_30 rfl ?_
        refine dx_sipush (v := 1000) dMM_enterAll_31 (by decide) ?_
        refine dx_iload_n dMM_enterAll_34 rfl ?_
        refine dx_iadd dMM_enterAll_35 ?_
        obtain ⟨pp, hm, hk⟩ := h
        refine dx_callvv [.inl (1000 + v1)] [] dMM_enterAll_36 cvMM_173 rfl (Nat.le_of_ble_eq_true rfl) rfl hm (fun σ3 hp => ?_)
        have h := hk σ3 hp
        refine dx_aload_n dMM_enterAll_39 rfl ?_
        obtain ⟨pp, hm, hk⟩ := h
        refine dx_callvi [] [] dMM_enterAll_40 cvMM_128 rfl (Nat.le_of_ble_eq_true rfl) rfl hm (fun x5 σ4 hp => ?_)
        have h := hk x5 σ4 hp
        refine dx_if_ne 61 dMM_enterAll_43 (by decide) (fun q => ?_) (fun q => ?_)
        · have h := h.1 q
          exact dx_less (L' := [some (.inr 0), some (.inl v1)]) ⟨rfl, rfl, trivial⟩ h
        · have h := h.2 q
          refine dx_aload_n dMM_enterAll_46 rfl ?_
          refine dx_getr dMM_enterAll_47 flMM_53 rfl rfl ?_
          refine dx_iload_n dMM_enterAll_50 rfl ?_
          refine dx_iconst (v := 1) dMM_enterAll_51 (by decide) ?_
          obtain ⟨hi, h⟩ := h
          refine dx_bastore dMM_enterAll_52 rfl hi ?_
          refine dx_aload_n dMM_enterAll_53 rfl ?_
          refine dx_bipush (v := 100) dMM_enterAll_54 (by decide) ?_
          refine dx_iload_n dMM_enterAll_56 rfl ?_
          refine dx_iadd dMM_enterAll_57 ?_
          obtain ⟨pp, hm, hk⟩ := h
          refine dx_callvv [.inl (100 + v1)] [] dMM_enterAll_58 cvMM_176 rfl (Nat.le_of_ble_eq_true rfl) rfl hm (fun σ6 hp => ?_)
          have h := hk σ6 hp
          exact dx_less (L' := [some (.inr 0), some (.inl v1)]) ⟨rfl, rfl, trivial⟩ h
set_option maxRecDepth 100000 in
set_option maxHeartbeats 4000000 in
theorem r_MM_enterAll_61 {E : dx_E} {d : Nat} {po : dx_P} {v1 : Int32} {σ : dx_V} (h : dx_ci (m_MM_failed E d σ) (fun x2 σ1 => (¬ x2 = 0 → g_MM_enterAll_6 E (d + 1) po (v1 + 1) σ1) ∧ (x2 = 0 → vp_in v1 16 ∧ ((¬ (σ1 2 v1.toNatClampNeg) = 3 → g_MM_enterAll_6 E (d + 1) po (v1 + 1) σ1) ∧ ((σ1 2 v1.toNatClampNeg) = 3 → dx_cu (m_MM_finish E d v1 σ1) (fun σ3 => g_MM_enterAll_6 E (d + 1) po (v1 + 1) σ3)))))) : g_MM_enterAll_61 E (d + 1) po v1 σ := by
  show dx_G tM E (d + 1) RMM cMM_enterAll 2 none po 61 [some (.inr 0), some (.inl v1)] [] σ
  refine dx_aload_n dMM_enterAll_61 rfl ?_
  obtain ⟨pp, hm, hk⟩ := h
  refine dx_callvi [] [] dMM_enterAll_62 cvMM_128 rfl (Nat.le_of_ble_eq_true rfl) rfl hm (fun x2 σ1 hp => ?_)
  have h := hk x2 σ1 hp
  refine dx_if_ne 83 dMM_enterAll_65 (by decide) (fun q => ?_) (fun q => ?_)
  · have h := h.1 q
    refine dx_iinc (v := v1 + 1) (L' := [some (.inr 0), some (.inl (v1 + 1))]) dMM_enterAll_83 rfl rfl rfl ?_
    refine dx_goto 6 dMM_enterAll_86 (by decide) ?_
    exact dx_less (L' := [some (.inr 0), some (.inl (v1 + 1))]) ⟨rfl, rfl, trivial⟩ h
  · have h := h.2 q
    refine dx_aload_n dMM_enterAll_68 rfl ?_
    refine dx_getr dMM_enterAll_69 flMM_13 rfl rfl ?_
    refine dx_iload_n dMM_enterAll_72 rfl ?_
    obtain ⟨hi, h⟩ := h
    refine dx_iaload dMM_enterAll_73 rfl hi ?_
    refine dx_iconst (v := 3) dMM_enterAll_74 (by decide) ?_
    refine dx_icmp_ne 83 dMM_enterAll_75 (by decide) (fun q => ?_) (fun q => ?_)
    · have h := h.1 q
      refine dx_iinc (v := v1 + 1) (L' := [some (.inr 0), some (.inl (v1 + 1))]) dMM_enterAll_83 rfl rfl rfl ?_
      refine dx_goto 6 dMM_enterAll_86 (by decide) ?_
      exact dx_less (L' := [some (.inr 0), some (.inl (v1 + 1))]) ⟨rfl, rfl, trivial⟩ h
    · have h := h.2 q
      refine dx_aload_n dMM_enterAll_78 rfl ?_
      refine dx_iload_n dMM_enterAll_79 rfl ?_
      obtain ⟨pp, hm, hk⟩ := h
      refine dx_callvv [.inl v1] [] dMM_enterAll_80 cvMM_195 rfl (Nat.le_of_ble_eq_true rfl) rfl hm (fun σ3 hp => ?_)
      have h := hk σ3 hp
      refine dx_iinc (v := v1 + 1) (L' := [some (.inr 0), some (.inl (v1 + 1))]) dMM_enterAll_83 rfl rfl rfl ?_
      refine dx_goto 6 dMM_enterAll_86 (by decide) ?_
      exact dx_less (L' := [some (.inr 0), some (.inl (v1 + 1))]) ⟨rfl, rfl, trivial⟩ h
set_option maxRecDepth 100000 in
set_option maxHeartbeats 4000000 in
theorem r_MM_enterAll_89 {E : dx_E} {d : Nat} {po : dx_P} {σ : dx_V} (h : ((σ 0 18) = 0 → po none σ) ∧ (¬ (σ 0 18) = 0 → dx_ci (m_MM_failed E d σ) (fun x2 σ1 => (¬ x2 = 0 → po none σ1) ∧ (x2 = 0 → po none (dx_u σ1 0 17 2))))) : g_MM_enterAll_89 E (d + 1) po σ := by
  show dx_G tM E (d + 1) RMM cMM_enterAll 2 none po 89 [some (.inr 0), none] [] σ
  refine dx_aload_n dMM_enterAll_89 rfl ?_
  refine dx_geti dMM_enterAll_90 flMM_185 rfl rfl ?_
  refine dx_if_eq 108 dMM_enterAll_93 (by decide) (fun q => ?_) (fun q => ?_)
  · have h := h.1 q
    exact dx_vret dMM_enterAll_108 rfl h
  · have h := h.2 q
    refine dx_aload_n dMM_enterAll_96 rfl ?_
    obtain ⟨pp, hm, hk⟩ := h
    refine dx_callvi [] [] dMM_enterAll_97 cvMM_128 rfl (Nat.le_of_ble_eq_true rfl) rfl hm (fun x2 σ1 hp => ?_)
    have h := hk x2 σ1 hp
    refine dx_if_ne 108 dMM_enterAll_100 (by decide) (fun q => ?_) (fun q => ?_)
    · have h := h.1 q
      exact dx_vret dMM_enterAll_108 rfl h
    · have h := h.2 q
      refine dx_aload_n dMM_enterAll_103 rfl ?_
      refine dx_iconst (v := 2) dMM_enterAll_104 (by decide) ?_
      refine dx_put dMM_enterAll_105 fpMM_97 rfl rfl (Or.inl rfl) ?_
      exact dx_vret dMM_enterAll_108 rfl h
def g_MM_none_2 (E : dx_E) (d : Nat) (po : dx_P) (v1 : Int32) (σ : dx_V) : Prop := dx_G tM E d RMM cMM_none 2 none po 2 [some (.inr 0), some (.inl v1)] [] σ
set_option maxRecDepth 100000 in
set_option maxHeartbeats 4000000 in
theorem r_MM_none {E : dx_E} {d : Nat} {σ : dx_V} {po : dx_P} (h : g_MM_none_2 E d po 0 σ) : m_MM_none E d σ po := by
  refine dx_entry (by decide) (Nat.le_of_ble_eq_true rfl) ?_
  show dx_G tM E d RMM cMM_none 2 none po 0 [some (.inr 0), none] [] σ
  refine dx_iconst (v := 0) dMM_none_0 (by decide) ?_
  refine dx_istore_n (L' := [some (.inr 0), some (.inl 0)]) dMM_none_1 (Nat.le_of_ble_eq_true rfl) rfl ?_
  exact dx_less (L' := [some (.inr 0), some (.inl 0)]) ⟨rfl, rfl, trivial⟩ h
set_option maxRecDepth 100000 in
set_option maxHeartbeats 4000000 in
theorem r_MM_none_2 {E : dx_E} {d : Nat} {po : dx_P} {v1 : Int32} {σ : dx_V} (h : (15 < v1 → po none σ) ∧ (¬ 15 < v1 → vp_in v1 16 ∧ (g_MM_none_2 E d po (v1 + 1) (dx_u σ 26 v1.toNatClampNeg (vp_nar .boolean 0))))) : g_MM_none_2 E d po v1 σ := by
  show dx_G tM E d RMM cMM_none 2 none po 2 [some (.inr 0), some (.inl v1)] [] σ
  refine dx_iload_n dMM_none_2 rfl ?_
  refine dx_bipush (v := 15) dMM_none_3 (by decide) ?_
  refine dx_icmp_gt 21 dMM_none_5 (by decide) (fun q => ?_) (fun q => ?_)
  · have h := h.1 q
    exact dx_vret dMM_none_21 rfl h
  · have h := h.2 q
    refine dx_aload_n dMM_none_8 rfl ?_
    refine dx_getr dMM_none_9 flMM_86 rfl rfl ?_
    refine dx_iload_n dMM_none_12 rfl ?_
    refine dx_iconst (v := 0) dMM_none_13 (by decide) ?_
    obtain ⟨hi, h⟩ := h
    refine dx_bastore dMM_none_14 rfl hi ?_
    refine dx_iinc (v := v1 + 1) (L' := [some (.inr 0), some (.inl (v1 + 1))]) dMM_none_15 rfl rfl rfl ?_
    refine dx_goto 2 dMM_none_18 (by decide) ?_
    exact dx_less (L' := [some (.inr 0), some (.inl (v1 + 1))]) ⟨rfl, rfl, trivial⟩ h
def g_MM_microstep_35 (E : dx_E) (d : Nat) (po : dx_P) (v1 : Int32) (σ : dx_V) : Prop := dx_G tM E d RMM cMM_microstep 2 none po 35 [some (.inr 0), some (.inl v1)] [] σ
def g_MM_microstep_87 (E : dx_E) (d : Nat) (po : dx_P) (σ : dx_V) : Prop := dx_G tM E d RMM cMM_microstep 2 none po 87 [some (.inr 0), none] [] σ
def g_MM_microstep_101 (E : dx_E) (d : Nat) (po : dx_P) (v1 : Int32) (σ : dx_V) : Prop := dx_G tM E d RMM cMM_microstep 2 none po 101 [some (.inr 0), some (.inl v1)] [] σ
set_option maxRecDepth 100000 in
set_option maxHeartbeats 4000000 in
theorem r_MM_microstep {E : dx_E} {d : Nat} {σ : dx_V} {po : dx_P} (h : (¬ (σ 0 19) = 30 → dx_cu (m_MM_settle E d (dx_u σ 0 19 ((σ 0 19) + 1))) (fun σ1 => dx_cu (m_MM_leaveAll E d σ1) (fun σ2 => g_MM_microstep_35 E (d + 1) po 0 σ2))) ∧ ((σ 0 19) = 30 → po none (dx_u σ 0 17 3))) : m_MM_microstep E (d + 1) σ po := by
  refine dx_entry (by decide) (Nat.le_of_ble_eq_true rfl) ?_
  show dx_G tM E (d + 1) RMM cMM_microstep 2 none po 0 [some (.inr 0), none] [] σ
  refine dx_aload_n dMM_microstep_0 rfl ?_
  refine dx_geti dMM_microstep_1 flMM_198 rfl rfl ?_
  refine dx_bipush (v := 30) dMM_microstep_4 (by decide) ?_
  refine dx_icmp_ne 15 dMM_microstep_6 (by decide) (fun q => ?_) (fun q => ?_)
  · have h := h.1 q
    refine dx_aload_n dMM_microstep_15 rfl ?_
    refine dx_dup dMM_microstep_16 ?_
    refine dx_geti dMM_microstep_17 flMM_198 rfl rfl ?_
    refine dx_iconst (v := 1) dMM_microstep_20 (by decide) ?_
    refine dx_iadd dMM_microstep_21 ?_
    refine dx_put dMM_microstep_22 fpMM_198 rfl rfl (Or.inl rfl) ?_
    refine dx_aload_n dMM_microstep_25 rfl ?_
    obtain ⟨pp, hm, hk⟩ := h
    refine dx_callvv [] [] dMM_microstep_26 cvMM_201 rfl (Nat.le_of_ble_eq_true rfl) rfl hm (fun σ1 hp => ?_)
    have h := hk σ1 hp
    refine dx_aload_n dMM_microstep_29 rfl ?_
    obtain ⟨pp, hm, hk⟩ := h
    refine dx_callvv [] [] dMM_microstep_30 cvMM_204 rfl (Nat.le_of_ble_eq_true rfl) rfl hm (fun σ2 hp => ?_)
    have h := hk σ2 hp
    refine dx_iconst (v := 0) dMM_microstep_33 (by decide) ?_
    refine dx_istore_n (L' := [some (.inr 0), some (.inl 0)]) dMM_microstep_34 (Nat.le_of_ble_eq_true rfl) rfl ?_
    exact dx_less (L' := [some (.inr 0), some (.inl 0)]) ⟨rfl, rfl, trivial⟩ h
  · have h := h.2 q
    refine dx_aload_n dMM_microstep_9 rfl ?_
    refine dx_iconst (v := 3) dMM_microstep_10 (by decide) ?_
    refine dx_put dMM_microstep_11 fpMM_97 rfl rfl (Or.inl rfl) ?_
    exact dx_vret dMM_microstep_14 rfl h
set_option maxRecDepth 100000 in
set_option maxHeartbeats 4000000 in
theorem r_MM_microstep_35 {E : dx_E} {d : Nat} {po : dx_P} {v1 : Int32} {σ : dx_V} (h : ((σ 0 35) ≤ v1 → g_MM_microstep_87 E (d + 1) po σ) ∧ (¬ (σ 0 35) ≤ v1 → dx_ci (m_MM_failed E d σ) (fun x2 σ1 => (¬ x2 = 0 → g_MM_microstep_87 E (d + 1) po σ1) ∧ (x2 = 0 → vp_in v1 20 ∧ (dx_cu (m_MM_write E d (3000 + (σ1 24 v1.toNatClampNeg)) σ1) (fun σ3 => dx_ci (m_MM_failed E d σ3) (fun x5 σ4 => (¬ x5 = 0 → g_MM_microstep_35 E (d + 1) po (v1 + 1) σ4) ∧ (x5 = 0 → vp_in v1 20 ∧ (dx_cu (m_MM_act E d (σ4 24 v1.toNatClampNeg) σ4) (fun σ6 => g_MM_microstep_35 E (d + 1) po (v1 + 1) σ6)))))))))) : g_MM_microstep_35 E (d + 1) po v1 σ := by
  show dx_G tM E (d + 1) RMM cMM_microstep 2 none po 35 [some (.inr 0), some (.inl v1)] [] σ
  refine dx_iload_n dMM_microstep_35 rfl ?_
  refine dx_aload_n dMM_microstep_36 rfl ?_
  refine dx_geti dMM_microstep_37 flMM_164 rfl rfl ?_
  refine dx_icmp_ge 87 dMM_microstep_40 (by decide) (fun q => ?_) (fun q => ?_)
  · have h := h.1 q
    exact dx_less (L' := [some (.inr 0), none]) ⟨rfl, trivial⟩ h
  · have h := h.2 q
    refine dx_aload_n dMM_microstep_43 rfl ?_
    obtain ⟨pp, hm, hk⟩ := h
    refine dx_callvi [] [] dMM_microstep_44 cvMM_128 rfl (Nat.le_of_ble_eq_true rfl) rfl hm (fun x2 σ1 hp => ?_)
    have h := hk x2 σ1 hp
    refine dx_if_ne 87 dMM_microstep_47 (by decide) (fun q => ?_) (fun q => ?_)
    · have h := h.1 q
      exact dx_less (L' := [some (.inr 0), none]) ⟨rfl, trivial⟩ h
    · have h := h.2 q
      refine dx_aload_n dMM_microstep_50 rfl ?_
      refine dx_sipush (v := 3000) dMM_microstep_51 (by decide) ?_
      refine dx_aload_n dMM_microstep_54 rfl ?_
      refine dx_getr dMM_microstep_55 flMM_80 rfl rfl ?_
      refine dx_iload_n dMM_microstep_58 rfl ?_
      obtain ⟨hi, h⟩ := h
      refine dx_iaload dMM_microstep_59 rfl hi ?_
      refine dx_iadd dMM_microstep_60 ?_
      obtain ⟨pp, hm, hk⟩ := h
      refine dx_callvv [.inl (3000 + (σ1 24 v1.toNatClampNeg))] [] dMM_microstep_61 cvMM_173 rfl (Nat.le_of_ble_eq_true rfl) rfl hm (fun σ3 hp => ?_)
      have h := hk σ3 hp
      refine dx_aload_n dMM_microstep_64 rfl ?_
      obtain ⟨pp, hm, hk⟩ := h
      refine dx_callvi [] [] dMM_microstep_65 cvMM_128 rfl (Nat.le_of_ble_eq_true rfl) rfl hm (fun x5 σ4 hp => ?_)
      have h := hk x5 σ4 hp
      refine dx_if_ne 81 dMM_microstep_68 (by decide) (fun q => ?_) (fun q => ?_)
      · have h := h.1 q
        refine dx_iinc (v := v1 + 1) (L' := [some (.inr 0), some (.inl (v1 + 1))]) dMM_microstep_81 rfl rfl rfl ?_
        refine dx_goto 35 dMM_microstep_84 (by decide) ?_
        exact dx_less (L' := [some (.inr 0), some (.inl (v1 + 1))]) ⟨rfl, rfl, trivial⟩ h
      · have h := h.2 q
        refine dx_aload_n dMM_microstep_71 rfl ?_
        refine dx_aload_n dMM_microstep_72 rfl ?_
        refine dx_getr dMM_microstep_73 flMM_80 rfl rfl ?_
        refine dx_iload_n dMM_microstep_76 rfl ?_
        obtain ⟨hi, h⟩ := h
        refine dx_iaload dMM_microstep_77 rfl hi ?_
        obtain ⟨pp, hm, hk⟩ := h
        refine dx_callvv [.inl (σ4 24 v1.toNatClampNeg)] [] dMM_microstep_78 cvMM_176 rfl (Nat.le_of_ble_eq_true rfl) rfl hm (fun σ6 hp => ?_)
        have h := hk σ6 hp
        refine dx_iinc (v := v1 + 1) (L' := [some (.inr 0), some (.inl (v1 + 1))]) dMM_microstep_81 rfl rfl rfl ?_
        refine dx_goto 35 dMM_microstep_84 (by decide) ?_
        exact dx_less (L' := [some (.inr 0), some (.inl (v1 + 1))]) ⟨rfl, rfl, trivial⟩ h
set_option maxRecDepth 100000 in
set_option maxHeartbeats 4000000 in
theorem r_MM_microstep_87 {E : dx_E} {d : Nat} {po : dx_P} {σ : dx_V} (h : dx_ci (m_MM_failed E d σ) (fun x2 σ1 => (x2 = 0 → dx_cu (m_MM_none E d σ1) (fun σ3 => g_MM_microstep_101 E (d + 1) po 0 σ3)) ∧ (¬ x2 = 0 → po none σ1))) : g_MM_microstep_87 E (d + 1) po σ := by
  show dx_G tM E (d + 1) RMM cMM_microstep 2 none po 87 [some (.inr 0), none] [] σ
  refine dx_aload_n dMM_microstep_87 rfl ?_
  obtain ⟨pp, hm, hk⟩ := h
  refine dx_callvi [] [] dMM_microstep_88 cvMM_128 rfl (Nat.le_of_ble_eq_true rfl) rfl hm (fun x2 σ1 hp => ?_)
  have h := hk x2 σ1 hp
  refine dx_if_eq 95 dMM_microstep_91 (by decide) (fun q => ?_) (fun q => ?_)
  · have h := h.1 q
    refine dx_aload_n dMM_microstep_95 rfl ?_
    obtain ⟨pp, hm, hk⟩ := h
    refine dx_callvv [] [] dMM_microstep_96 cvMM_207 rfl (Nat.le_of_ble_eq_true rfl) rfl hm (fun σ3 hp => ?_)
    have h := hk σ3 hp
    refine dx_iconst (v := 0) dMM_microstep_99 (by decide) ?_
    refine dx_istore_n (L' := [some (.inr 0), some (.inl 0)]) dMM_microstep_100 (Nat.le_of_ble_eq_true rfl) rfl ?_
    exact dx_less (L' := [some (.inr 0), some (.inl 0)]) ⟨rfl, rfl, trivial⟩ h
  · have h := h.2 q
    exact dx_vret dMM_microstep_94 rfl h
set_option maxRecDepth 100000 in
set_option maxHeartbeats 4000000 in
theorem r_MM_microstep_101 {E : dx_E} {d : Nat} {po : dx_P} {v1 : Int32} {σ : dx_V} (h : ((σ 0 35) ≤ v1 → dx_cu (m_MM_enterAll E d σ) (fun σ1 => po none σ1)) ∧ (¬ (σ 0 35) ≤ v1 → vp_in v1 20 ∧ (vp_in (σ 24 v1.toNatClampNeg) 20 ∧ (((σ 6 (σ 24 v1.toNatClampNeg).toNatClampNeg) = (-1) → g_MM_microstep_101 E (d + 1) po (v1 + 1) σ) ∧ (¬ (σ 6 (σ 24 v1.toNatClampNeg).toNatClampNeg) = (-1) → vp_in v1 20 ∧ (dx_cu (m_MM_aim E d (σ 24 v1.toNatClampNeg) σ) (fun σ2 => g_MM_microstep_101 E (d + 1) po (v1 + 1) σ2))))))) : g_MM_microstep_101 E (d + 1) po v1 σ := by
  show dx_G tM E (d + 1) RMM cMM_microstep 2 none po 101 [some (.inr 0), some (.inl v1)] [] σ
  refine dx_iload_n dMM_microstep_101 rfl ?_
  refine dx_aload_n dMM_microstep_102 rfl ?_
  refine dx_geti dMM_microstep_103 flMM_164 rfl rfl ?_
  refine dx_icmp_ge 140 dMM_microstep_106 (by decide) (fun q => ?_) (fun q => ?_)
  · have h := h.1 q
    refine dx_aload_n dMM_microstep_140 rfl ?_
    obtain ⟨pp, hm, hk⟩ := h
    refine dx_callvv [] [] dMM_microstep_141 cvMM_213 rfl (Nat.le_of_ble_eq_true rfl) rfl hm (fun σ1 hp => ?_)
    have h := hk σ1 hp
    exact dx_vret dMM_microstep_144 rfl h
  · have h := h.2 q
    refine dx_aload_n dMM_microstep_109 rfl ?_
    refine dx_getr dMM_microstep_110 flMM_25 rfl rfl ?_
    refine dx_aload_n dMM_microstep_113 rfl ?_
    refine dx_getr dMM_microstep_114 flMM_80 rfl rfl ?_
    refine dx_iload_n dMM_microstep_117 rfl ?_
    obtain ⟨hi, h⟩ := h
    refine dx_iaload dMM_microstep_118 rfl hi ?_
    obtain ⟨hi, h⟩ := h
    refine dx_iaload dMM_microstep_119 rfl hi ?_
    refine dx_iconst (v := (-1)) dMM_microstep_120 (by decide) ?_
    refine dx_icmp_eq 134 dMM_microstep_121 (by decide) (fun q => ?_) (fun q => ?_)
    · have h := h.1 q
      refine dx_iinc (v := v1 + 1) (L' := [some (.inr 0), some (.inl (v1 + 1))]) dMM_microstep_134 rfl rfl rfl ?_
      refine dx_goto 101 dMM_microstep_137 (by decide) ?_
      exact dx_less (L' := [some (.inr 0), some (.inl (v1 + 1))]) ⟨rfl, rfl, trivial⟩ h
    · have h := h.2 q
      refine dx_aload_n dMM_microstep_124 rfl ?_
      refine dx_aload_n dMM_microstep_125 rfl ?_
      refine dx_getr dMM_microstep_126 flMM_80 rfl rfl ?_
      refine dx_iload_n dMM_microstep_129 rfl ?_
      obtain ⟨hi, h⟩ := h
      refine dx_iaload dMM_microstep_130 rfl hi ?_
      obtain ⟨pp, hm, hk⟩ := h
      refine dx_callvv [.inl (σ 24 v1.toNatClampNeg)] [] dMM_microstep_131 cvMM_210 rfl (Nat.le_of_ble_eq_true rfl) rfl hm (fun σ2 hp => ?_)
      have h := hk σ2 hp
      refine dx_iinc (v := v1 + 1) (L' := [some (.inr 0), some (.inl (v1 + 1))]) dMM_microstep_134 rfl rfl rfl ?_
      refine dx_goto 101 dMM_microstep_137 (by decide) ?_
      exact dx_less (L' := [some (.inr 0), some (.inl (v1 + 1))]) ⟨rfl, rfl, trivial⟩ h
def g_MM_take_19 (E : dx_E) (d : Nat) (po : dx_P) (v1 v2 : Int32) (σ : dx_V) : Prop := dx_G tM E d RMM cMM_take 3 (some .int) po 19 [some (.inr 0), some (.inl v1), some (.inl v2)] [] σ
set_option maxRecDepth 100000 in
set_option maxHeartbeats 4000000 in
theorem r_MM_take {E : dx_E} {d : Nat} {σ : dx_V} {po : dx_P} (h : vp_in 0 16 ∧ (g_MM_take_19 E d po (σ 18 (0 : Int32).toNatClampNeg) 0 (dx_u σ 0 23 ((σ 0 23) - 1)))) : m_MM_take E d σ po := by
  refine dx_entry (by decide) (Nat.le_of_ble_eq_true rfl) ?_
  show dx_G tM E d RMM cMM_take 3 (some .int) po 0 [some (.inr 0), none, none] [] σ
  refine dx_aload_n dMM_take_0 rfl ?_
  refine dx_getr dMM_take_1 flMM_62 rfl rfl ?_
  refine dx_iconst (v := 0) dMM_take_4 (by decide) ?_
  obtain ⟨hi, h⟩ := h
  refine dx_iaload dMM_take_5 rfl hi ?_
  refine dx_istore_n (L' := [some (.inr 0), some (.inl (σ 18 (0 : Int32).toNatClampNeg)), none]) dMM_take_6 (Nat.le_of_ble_eq_true rfl) rfl ?_
  refine dx_aload_n dMM_take_7 rfl ?_
  refine dx_dup dMM_take_8 ?_
  refine dx_geti dMM_take_9 flMM_113 rfl rfl ?_
  refine dx_iconst (v := 1) dMM_take_12 (by decide) ?_
  refine dx_isub dMM_take_13 ?_
  refine dx_put dMM_take_14 fpMM_113 rfl rfl (Or.inl rfl) ?_
  refine dx_iconst (v := 0) dMM_take_17 (by decide) ?_
  refine dx_istore_n (L' := [some (.inr 0), some (.inl (σ 18 (0 : Int32).toNatClampNeg)), some (.inl 0)]) dMM_take_18 (Nat.le_of_ble_eq_true rfl) rfl ?_
  exact dx_less (L' := [some (.inr 0), some (.inl (σ 18 (0 : Int32).toNatClampNeg)), some (.inl 0)]) ⟨rfl, rfl, rfl, trivial⟩ h
set_option maxRecDepth 100000 in
set_option maxHeartbeats 4000000 in
theorem r_MM_take_19 {E : dx_E} {d : Nat} {po : dx_P} {v1 v2 : Int32} {σ : dx_V} (h : ((σ 0 23) ≤ v2 → po (some v1) σ) ∧ (¬ (σ 0 23) ≤ v2 → vp_in (v2 + 1) 16 ∧ (vp_in v2 16 ∧ (g_MM_take_19 E d po v1 (v2 + 1) (dx_u σ 18 v2.toNatClampNeg (σ 18 (v2 + 1).toNatClampNeg)))))) : g_MM_take_19 E d po v1 v2 σ := by
  show dx_G tM E d RMM cMM_take 3 (some .int) po 19 [some (.inr 0), some (.inl v1), some (.inl v2)] [] σ
  refine dx_iload_n dMM_take_19 rfl ?_
  refine dx_aload_n dMM_take_20 rfl ?_
  refine dx_geti dMM_take_21 flMM_113 rfl rfl ?_
  refine dx_icmp_ge 47 dMM_take_24 (by decide) (fun q => ?_) (fun q => ?_)
  · have h := h.1 q
    refine dx_iload_n dMM_take_47 rfl ?_
    exact dx_ret dMM_take_48 rfl rfl h
  · have h := h.2 q
    refine dx_aload_n dMM_take_27 rfl ?_
    refine dx_getr dMM_take_28 flMM_62 rfl rfl ?_
    refine dx_iload_n dMM_take_31 rfl ?_
    refine dx_aload_n dMM_take_32 rfl ?_
    refine dx_getr dMM_take_33 flMM_62 rfl rfl ?_
    refine dx_iload_n dMM_take_36 rfl ?_
    refine dx_iconst (v := 1) dMM_take_37 (by decide) ?_
    refine dx_iadd dMM_take_38 ?_
    obtain ⟨hi, h⟩ := h
    refine dx_iaload dMM_take_39 rfl hi ?_
    obtain ⟨hi, h⟩ := h
    refine dx_iastore dMM_take_40 rfl hi ?_
    refine dx_iinc (v := v2 + 1) (L' := [some (.inr 0), some (.inl v1), some (.inl (v2 + 1))]) dMM_take_41 rfl rfl rfl ?_
    refine dx_goto 19 dMM_take_44 (by decide) ?_
    exact dx_less (L' := [some (.inr 0), some (.inl v1), some (.inl (v2 + 1))]) ⟨rfl, rfl, rfl, trivial⟩ h
def g_MM_macrostep_2 (E : dx_E) (d : Nat) (po : dx_P) (v1 : Int32) (σ : dx_V) : Prop := dx_G tM E d RMM cMM_macrostep 3 none po 2 [some (.inr 0), some (.inl v1), none] [] σ
def g_MM_macrostep_19 (E : dx_E) (d : Nat) (po : dx_P) (σ : dx_V) : Prop := dx_G tM E d RMM cMM_macrostep 3 none po 19 [some (.inr 0), none, none] [] σ
def g_MM_macrostep_46 (E : dx_E) (d : Nat) (po : dx_P) (σ : dx_V) : Prop := dx_G tM E d RMM cMM_macrostep 3 none po 46 [some (.inr 0), none, none] [] σ
def g_MM_macrostep_58 (E : dx_E) (d : Nat) (po : dx_P) (w0 : Int32) (σ : dx_V) : Prop := dx_G tM E d RMM cMM_macrostep 3 none po 58 [some (.inr 0), none, none] [.inl w0] σ
set_option maxRecDepth 100000 in
set_option maxHeartbeats 4000000 in
theorem r_MM_macrostep {E : dx_E} {d : Nat} {σ : dx_V} {po : dx_P} (h : g_MM_macrostep_2 E (d + 1) po 1 σ) : m_MM_macrostep E (d + 1) σ po := by
  refine dx_entry (by decide) (Nat.le_of_ble_eq_true rfl) ?_
  show dx_G tM E (d + 1) RMM cMM_macrostep 3 none po 0 [some (.inr 0), none, none] [] σ
  refine dx_iconst (v := 1) dMM_macrostep_0 (by decide) ?_
  refine dx_istore_n (L' := [some (.inr 0), some (.inl 1), none]) dMM_macrostep_1 (Nat.le_of_ble_eq_true rfl) rfl ?_
  exact dx_less (L' := [some (.inr 0), some (.inl 1), none]) ⟨rfl, rfl, trivial⟩ h
set_option maxRecDepth 100000 in
set_option maxHeartbeats 4000000 in
theorem r_MM_macrostep_2 {E : dx_E} {d : Nat} {po : dx_P} {v1 : Int32} {σ : dx_V} (h : (v1 = 0 → po none σ) ∧ (¬ v1 = 0 → (¬ (σ 0 17) = 1 → po none σ) ∧ ((σ 0 17) = 1 → dx_cu (m_MM_select E d 0 σ) (fun σ1 => g_MM_macrostep_19 E (d + 1) po σ1)))) : g_MM_macrostep_2 E (d + 1) po v1 σ := by
  show dx_G tM E (d + 1) RMM cMM_macrostep 3 none po 2 [some (.inr 0), some (.inl v1), none] [] σ
  refine dx_iload_n dMM_macrostep_2 rfl ?_
  refine dx_if_eq 70 dMM_macrostep_3 (by decide) (fun q => ?_) (fun q => ?_)
  · have h := h.1 q
    exact dx_vret dMM_macrostep_70 rfl h
  · have h := h.2 q
    refine dx_aload_n dMM_macrostep_6 rfl ?_
    refine dx_geti dMM_macrostep_7 flMM_97 rfl rfl ?_
    refine dx_iconst (v := 1) dMM_macrostep_10 (by decide) ?_
    refine dx_icmp_ne 70 dMM_macrostep_11 (by decide) (fun q => ?_) (fun q => ?_)
    · have h := h.1 q
      exact dx_vret dMM_macrostep_70 rfl h
    · have h := h.2 q
      refine dx_aload_n dMM_macrostep_14 rfl ?_
      refine dx_iconst (v := 0) dMM_macrostep_15 (by decide) ?_
      obtain ⟨pp, hm, hk⟩ := h
      refine dx_callvv [.inl 0] [] dMM_macrostep_16 cvMM_216 rfl (Nat.le_of_ble_eq_true rfl) rfl hm (fun σ1 hp => ?_)
      have h := hk σ1 hp
      exact dx_less (L' := [some (.inr 0), none, none]) ⟨rfl, trivial⟩ h
set_option maxRecDepth 100000 in
set_option maxHeartbeats 4000000 in
theorem r_MM_macrostep_19 {E : dx_E} {d : Nat} {po : dx_P} {σ : dx_V} (h : (¬ (σ 0 33) = 0 → g_MM_macrostep_46 E (d + 1) po σ) ∧ ((σ 0 33) = 0 → ((σ 0 23) ≤ 0 → g_MM_macrostep_46 E (d + 1) po σ) ∧ (¬ (σ 0 23) ≤ 0 → dx_ci (m_MM_take E d σ) (fun x2 σ1 => dx_cu (m_MM_select E d x2 σ1) (fun σ3 => g_MM_macrostep_19 E (d + 1) po σ3))))) : g_MM_macrostep_19 E (d + 1) po σ := by
  show dx_G tM E (d + 1) RMM cMM_macrostep 3 none po 19 [some (.inr 0), none, none] [] σ
  refine dx_aload_n dMM_macrostep_19 rfl ?_
  refine dx_geti dMM_macrostep_20 flMM_143 rfl rfl ?_
  refine dx_if_ne 46 dMM_macrostep_23 (by decide) (fun q => ?_) (fun q => ?_)
  · have h := h.1 q
    exact dx_less (L' := [some (.inr 0), none, none]) ⟨rfl, trivial⟩ h
  · have h := h.2 q
    refine dx_aload_n dMM_macrostep_26 rfl ?_
    refine dx_geti dMM_macrostep_27 flMM_113 rfl rfl ?_
    refine dx_if_le 46 dMM_macrostep_30 (by decide) (fun q => ?_) (fun q => ?_)
    · have h := h.1 q
      exact dx_less (L' := [some (.inr 0), none, none]) ⟨rfl, trivial⟩ h
    · have h := h.2 q
      refine dx_aload_n dMM_macrostep_33 rfl ?_
      obtain ⟨pp, hm, hk⟩ := h
      refine dx_callvi [] [] dMM_macrostep_34 cvMM_219 rfl (Nat.le_of_ble_eq_true rfl) rfl hm (fun x2 σ1 hp => ?_)
      have h := hk x2 σ1 hp
      refine dx_istore_n (L' := [some (.inr 0), none, some (.inl x2)]) dMM_macrostep_37 (Nat.le_of_ble_eq_true rfl) rfl ?_
      refine dx_aload_n dMM_macrostep_38 rfl ?_
      refine dx_iload_n dMM_macrostep_39 rfl ?_
      obtain ⟨pp, hm, hk⟩ := h
      refine dx_callvv [.inl x2] [] dMM_macrostep_40 cvMM_216 rfl (Nat.le_of_ble_eq_true rfl) rfl hm (fun σ3 hp => ?_)
      have h := hk σ3 hp
      refine dx_goto 19 dMM_macrostep_43 (by decide) ?_
      exact dx_less (L' := [some (.inr 0), none, none]) ⟨rfl, trivial⟩ h
set_option maxRecDepth 100000 in
set_option maxHeartbeats 4000000 in
theorem r_MM_macrostep_46 {E : dx_E} {d : Nat} {po : dx_P} {σ : dx_V} (h : ((σ 0 33) ≤ 0 → g_MM_macrostep_58 E (d + 1) po 0 σ) ∧ (¬ (σ 0 33) ≤ 0 → g_MM_macrostep_58 E (d + 1) po 1 σ)) : g_MM_macrostep_46 E (d + 1) po σ := by
  show dx_G tM E (d + 1) RMM cMM_macrostep 3 none po 46 [some (.inr 0), none, none] [] σ
  refine dx_aload_n dMM_macrostep_46 rfl ?_
  refine dx_geti dMM_macrostep_47 flMM_143 rfl rfl ?_
  refine dx_if_le 57 dMM_macrostep_50 (by decide) (fun q => ?_) (fun q => ?_)
  · have h := h.1 q
    refine dx_iconst (v := 0) dMM_macrostep_57 (by decide) ?_
    exact dx_less (L' := [some (.inr 0), none, none]) ⟨rfl, trivial⟩ h
  · have h := h.2 q
    refine dx_iconst (v := 1) dMM_macrostep_53 (by decide) ?_
    refine dx_goto 58 dMM_macrostep_54 (by decide) ?_
    exact dx_less (L' := [some (.inr 0), none, none]) ⟨rfl, trivial⟩ h
set_option maxRecDepth 100000 in
set_option maxHeartbeats 4000000 in
theorem r_MM_macrostep_58 {E : dx_E} {d : Nat} {po : dx_P} {w0 : Int32} {σ : dx_V} (h : (w0 = 0 → g_MM_macrostep_2 E (d + 1) po w0 σ) ∧ (¬ w0 = 0 → dx_cu (m_MM_microstep E d σ) (fun σ1 => g_MM_macrostep_2 E (d + 1) po w0 σ1))) : g_MM_macrostep_58 E (d + 1) po w0 σ := by
  show dx_G tM E (d + 1) RMM cMM_macrostep 3 none po 58 [some (.inr 0), none, none] [.inl w0] σ
  refine dx_istore_n (L' := [some (.inr 0), some (.inl w0), none]) dMM_macrostep_58 (Nat.le_of_ble_eq_true rfl) rfl ?_
  refine dx_iload_n dMM_macrostep_59 rfl ?_
  refine dx_if_eq 2 dMM_macrostep_60 (by decide) (fun q => ?_) (fun q => ?_)
  · have h := h.1 q
    exact dx_less (L' := [some (.inr 0), some (.inl w0), none]) ⟨rfl, rfl, trivial⟩ h
  · have h := h.2 q
    refine dx_aload_n dMM_macrostep_63 rfl ?_
    obtain ⟨pp, hm, hk⟩ := h
    refine dx_callvv [] [] dMM_macrostep_64 cvMM_223 rfl (Nat.le_of_ble_eq_true rfl) rfl hm (fun σ1 hp => ?_)
    have h := hk σ1 hp
    refine dx_goto 2 dMM_macrostep_67 (by decide) ?_
    exact dx_less (L' := [some (.inr 0), some (.inl w0), none]) ⟨rfl, rfl, trivial⟩ h
def g_MM_ill_17 (E : dx_E) (d : Nat) (po : dx_P) (v1 v2 : Int32) (σ : dx_V) : Prop := dx_G tM E d RMM cMM_ill 4 (some .boolean) po 17 [some (.inr 0), some (.inl v1), some (.inl v2), none] [] σ
def g_MM_ill_69 (E : dx_E) (d : Nat) (po : dx_P) (v2 : Int32) (σ : dx_V) : Prop := dx_G tM E d RMM cMM_ill 4 (some .boolean) po 69 [some (.inr 0), none, some (.inl v2), none] [] σ
set_option maxRecDepth 100000 in
set_option maxHeartbeats 4000000 in
theorem r_MM_ill {E : dx_E} {d : Nat} {σ : dx_V} {po : dx_P} (h : dx_ci (m_MM_hasChild E d 0 0 σ) (fun x2 σ1 => (¬ x2 = 0 → g_MM_ill_17 E (d + 1) po 0 1 σ1) ∧ (x2 = 0 → g_MM_ill_17 E (d + 1) po 1 1 σ1))) : m_MM_ill E (d + 1) σ po := by
  refine dx_entry (by decide) (Nat.le_of_ble_eq_true rfl) ?_
  show dx_G tM E (d + 1) RMM cMM_ill 4 (some .boolean) po 0 [some (.inr 0), none, none, none] [] σ
  refine dx_aload_n dMM_ill_0 rfl ?_
  refine dx_iconst (v := 0) dMM_ill_1 (by decide) ?_
  refine dx_iconst (v := 0) dMM_ill_2 (by decide) ?_
  obtain ⟨pp, hm, hk⟩ := h
  refine dx_callvi [.inl 0, .inl 0] [] dMM_ill_3 cvMM_93 rfl (Nat.le_of_ble_eq_true rfl) rfl hm (fun x2 σ1 hp => ?_)
  have h := hk x2 σ1 hp
  refine dx_if_ne 13 dMM_ill_6 (by decide) (fun q => ?_) (fun q => ?_)
  · have h := h.1 q
    refine dx_iconst (v := 0) dMM_ill_13 (by decide) ?_
    refine dx_istore_n (L' := [some (.inr 0), some (.inl 0), none, none]) dMM_ill_14 (Nat.le_of_ble_eq_true rfl) rfl ?_
    refine dx_iconst (v := 1) dMM_ill_15 (by decide) ?_
    refine dx_istore_n (L' := [some (.inr 0), some (.inl 0), some (.inl 1), none]) dMM_ill_16 (Nat.le_of_ble_eq_true rfl) rfl ?_
    exact dx_less (L' := [some (.inr 0), some (.inl 0), some (.inl 1), none]) ⟨rfl, rfl, rfl, trivial⟩ h
  · have h := h.2 q
    refine dx_iconst (v := 1) dMM_ill_9 (by decide) ?_
    refine dx_goto 14 dMM_ill_10 (by decide) ?_
    refine dx_istore_n (L' := [some (.inr 0), some (.inl 1), none, none]) dMM_ill_14 (Nat.le_of_ble_eq_true rfl) rfl ?_
    refine dx_iconst (v := 1) dMM_ill_15 (by decide) ?_
    refine dx_istore_n (L' := [some (.inr 0), some (.inl 1), some (.inl 1), none]) dMM_ill_16 (Nat.le_of_ble_eq_true rfl) rfl ?_
    exact dx_less (L' := [some (.inr 0), some (.inl 1), some (.inl 1), none]) ⟨rfl, rfl, rfl, trivial⟩ h
set_option maxRecDepth 100000 in
set_option maxHeartbeats 4000000 in
theorem r_MM_ill_17 {E : dx_E} {d : Nat} {po : dx_P} {v1 v2 : Int32} {σ : dx_V} (h : ((σ 0 0) < v2 → (v1 = 0 ∨ v1 = 1) ∧ po (some v1) σ) ∧ (¬ (σ 0 0) < v2 → dx_ci (m_MM_hasChild E d v2 0 σ) (fun x2 σ1 => (¬ v1 = 0 → g_MM_ill_69 E (d + 1) po v2 σ1) ∧ (v1 = 0 → (¬ x2 = 0 → g_MM_ill_17 E (d + 1) po 0 (v2 + 1) σ1) ∧ (x2 = 0 → vp_in v2 16 ∧ (((σ1 2 v2.toNatClampNeg) = 2 → g_MM_ill_69 E (d + 1) po v2 σ1) ∧ (¬ (σ1 2 v2.toNatClampNeg) = 2 → vp_in v2 16 ∧ ((¬ (σ1 2 v2.toNatClampNeg) = 1 → g_MM_ill_17 E (d + 1) po 0 (v2 + 1) σ1) ∧ ((σ1 2 v2.toNatClampNeg) = 1 → dx_ci (m_MM_hasChild E d v2 1 σ1) (fun x4 σ3 => (x4 = 0 → g_MM_ill_17 E (d + 1) po 0 (v2 + 1) σ3) ∧ (¬ x4 = 0 → g_MM_ill_69 E (d + 1) po v2 σ3))))))))))) : g_MM_ill_17 E (d + 1) po v1 v2 σ := by
  show dx_G tM E (d + 1) RMM cMM_ill 4 (some .boolean) po 17 [some (.inr 0), some (.inl v1), some (.inl v2), none] [] σ
  refine dx_iload_n dMM_ill_17 rfl ?_
  refine dx_aload_n dMM_ill_18 rfl ?_
  refine dx_geti dMM_ill_19 flMM_89 rfl rfl ?_
  refine dx_icmp_gt 81 dMM_ill_22 (by decide) (fun q => ?_) (fun q => ?_)
  · have h := h.1 q
    refine dx_iload_n dMM_ill_81 rfl ?_
    exact dx_ret dMM_ill_82 rfl (dx_nz h.1) h.2
  · have h := h.2 q
    refine dx_aload_n dMM_ill_25 rfl ?_
    refine dx_iload_n dMM_ill_26 rfl ?_
    refine dx_iconst (v := 0) dMM_ill_27 (by decide) ?_
    obtain ⟨pp, hm, hk⟩ := h
    refine dx_callvi [.inl v2, .inl 0] [] dMM_ill_28 cvMM_93 rfl (Nat.le_of_ble_eq_true rfl) rfl hm (fun x2 σ1 hp => ?_)
    have h := hk x2 σ1 hp
    refine dx_istore_n (L' := [some (.inr 0), some (.inl v1), some (.inl v2), some (.inl x2)]) dMM_ill_31 (Nat.le_of_ble_eq_true rfl) rfl ?_
    refine dx_iload_n dMM_ill_32 rfl ?_
    refine dx_if_ne 69 dMM_ill_33 (by decide) (fun q => ?_) (fun q => ?_)
    · have h := h.1 q
      exact dx_less (L' := [some (.inr 0), none, some (.inl v2), none]) ⟨rfl, rfl, trivial⟩ h
    · have h := h.2 q
      refine dx_iload_n dMM_ill_36 rfl ?_
      refine dx_if_ne 73 dMM_ill_37 (by decide) (fun q => ?_) (fun q => ?_)
      · have h := h.1 q
        refine dx_iconst (v := 0) dMM_ill_73 (by decide) ?_
        refine dx_istore_n (L' := [some (.inr 0), some (.inl 0), some (.inl v2), some (.inl x2)]) dMM_ill_74 (Nat.le_of_ble_eq_true rfl) rfl ?_
        refine dx_iinc (v := v2 + 1) (L' := [some (.inr 0), some (.inl 0), some (.inl (v2 + 1)), some (.inl x2)]) dMM_ill_75 rfl rfl rfl ?_
        refine dx_goto 17 dMM_ill_78 (by decide) ?_
        exact dx_less (L' := [some (.inr 0), some (.inl 0), some (.inl (v2 + 1)), none]) ⟨rfl, rfl, rfl, trivial⟩ h
      · have h := h.2 q
        refine dx_aload_n dMM_ill_40 rfl ?_
        refine dx_getr dMM_ill_41 flMM_13 rfl rfl ?_
        refine dx_iload_n dMM_ill_44 rfl ?_
        obtain ⟨hi, h⟩ := h
        refine dx_iaload dMM_ill_45 rfl hi ?_
        refine dx_iconst (v := 2) dMM_ill_46 (by decide) ?_
        refine dx_icmp_eq 69 dMM_ill_47 (by decide) (fun q => ?_) (fun q => ?_)
        · have h := h.1 q
          exact dx_less (L' := [some (.inr 0), none, some (.inl v2), none]) ⟨rfl, rfl, trivial⟩ h
        · have h := h.2 q
          refine dx_aload_n dMM_ill_50 rfl ?_
          refine dx_getr dMM_ill_51 flMM_13 rfl rfl ?_
          refine dx_iload_n dMM_ill_54 rfl ?_
          obtain ⟨hi, h⟩ := h
          refine dx_iaload dMM_ill_55 rfl hi ?_
          refine dx_iconst (v := 1) dMM_ill_56 (by decide) ?_
          refine dx_icmp_ne 73 dMM_ill_57 (by decide) (fun q => ?_) (fun q => ?_)
          · have h := h.1 q
            refine dx_iconst (v := 0) dMM_ill_73 (by decide) ?_
            refine dx_istore_n (L' := [some (.inr 0), some (.inl 0), some (.inl v2), some (.inl x2)]) dMM_ill_74 (Nat.le_of_ble_eq_true rfl) rfl ?_
            refine dx_iinc (v := v2 + 1) (L' := [some (.inr 0), some (.inl 0), some (.inl (v2 + 1)), some (.inl x2)]) dMM_ill_75 rfl rfl rfl ?_
            refine dx_goto 17 dMM_ill_78 (by decide) ?_
            exact dx_less (L' := [some (.inr 0), some (.inl 0), some (.inl (v2 + 1)), none]) ⟨rfl, rfl, rfl, trivial⟩ h
          · have h := h.2 q
            refine dx_aload_n dMM_ill_60 rfl ?_
            refine dx_iload_n dMM_ill_61 rfl ?_
            refine dx_iconst (v := 1) dMM_ill_62 (by decide) ?_
            obtain ⟨pp, hm, hk⟩ := h
            refine dx_callvi [.inl v2, .inl 1] [] dMM_ill_63 cvMM_93 rfl (Nat.le_of_ble_eq_true rfl) rfl hm (fun x4 σ3 hp => ?_)
            have h := hk x4 σ3 hp
            refine dx_if_eq 73 dMM_ill_66 (by decide) (fun q => ?_) (fun q => ?_)
            · have h := h.1 q
              refine dx_iconst (v := 0) dMM_ill_73 (by decide) ?_
              refine dx_istore_n (L' := [some (.inr 0), some (.inl 0), some (.inl v2), some (.inl x2)]) dMM_ill_74 (Nat.le_of_ble_eq_true rfl) rfl ?_
              refine dx_iinc (v := v2 + 1) (L' := [some (.inr 0), some (.inl 0), some (.inl (v2 + 1)), some (.inl x2)]) dMM_ill_75 rfl rfl rfl ?_
              refine dx_goto 17 dMM_ill_78 (by decide) ?_
              exact dx_less (L' := [some (.inr 0), some (.inl 0), some (.inl (v2 + 1)), none]) ⟨rfl, rfl, rfl, trivial⟩ h
            · have h := h.2 q
              exact dx_less (L' := [some (.inr 0), none, some (.inl v2), none]) ⟨rfl, rfl, trivial⟩ h
set_option maxRecDepth 100000 in
set_option maxHeartbeats 4000000 in
theorem r_MM_ill_69 {E : dx_E} {d : Nat} {po : dx_P} {v2 : Int32} {σ : dx_V} (h : g_MM_ill_17 E (d + 1) po 1 (v2 + 1) σ) : g_MM_ill_69 E (d + 1) po v2 σ := by
  show dx_G tM E (d + 1) RMM cMM_ill 4 (some .boolean) po 69 [some (.inr 0), none, some (.inl v2), none] [] σ
  refine dx_iconst (v := 1) dMM_ill_69 (by decide) ?_
  refine dx_goto 74 dMM_ill_70 (by decide) ?_
  refine dx_istore_n (L' := [some (.inr 0), some (.inl 1), some (.inl v2), none]) dMM_ill_74 (Nat.le_of_ble_eq_true rfl) rfl ?_
  refine dx_iinc (v := v2 + 1) (L' := [some (.inr 0), some (.inl 1), some (.inl (v2 + 1)), none]) dMM_ill_75 rfl rfl rfl ?_
  refine dx_goto 17 dMM_ill_78 (by decide) ?_
  exact dx_less (L' := [some (.inr 0), some (.inl 1), some (.inl (v2 + 1)), none]) ⟨rfl, rfl, rfl, trivial⟩ h
def g_MM_begin_21 (E : dx_E) (d : Nat) (po : dx_P) (v1 : Int32) (σ : dx_V) : Prop := dx_G tM E d RMM cMM_begin 2 (some .int) po 21 [some (.inr 0), some (.inl v1)] [] σ
def g_MM_begin_49 (E : dx_E) (d : Nat) (po : dx_P) (v1 : Int32) (σ : dx_V) : Prop := dx_G tM E d RMM cMM_begin 2 (some .int) po 49 [some (.inr 0), some (.inl v1)] [] σ
set_option maxRecDepth 100000 in
set_option maxHeartbeats 4000000 in
theorem r_MM_begin {E : dx_E} {d : Nat} {σ : dx_V} {po : dx_P} (h : ((σ 0 17) = 0 → dx_ci (m_MM_ill E d σ) (fun x2 σ1 => (x2 = 0 → g_MM_begin_21 E (d + 1) po 0 σ1) ∧ (¬ x2 = 0 → po (some (-3)) σ1))) ∧ (¬ (σ 0 17) = 0 → po (some (-1)) σ)) : m_MM_begin E (d + 1) σ po := by
  refine dx_entry (by decide) (Nat.le_of_ble_eq_true rfl) ?_
  show dx_G tM E (d + 1) RMM cMM_begin 2 (some .int) po 0 [some (.inr 0), none] [] σ
  refine dx_aload_n dMM_begin_0 rfl ?_
  refine dx_geti dMM_begin_1 flMM_97 rfl rfl ?_
  refine dx_if_eq 9 dMM_begin_4 (by decide) (fun q => ?_) (fun q => ?_)
  · have h := h.1 q
    refine dx_aload_n dMM_begin_9 rfl ?_
    obtain ⟨pp, hm, hk⟩ := h
    refine dx_callvi [] [] dMM_begin_10 cvMM_226 rfl (Nat.le_of_ble_eq_true rfl) rfl hm (fun x2 σ1 hp => ?_)
    have h := hk x2 σ1 hp
    refine dx_if_eq 19 dMM_begin_13 (by decide) (fun q => ?_) (fun q => ?_)
    · have h := h.1 q
      refine dx_iconst (v := 0) dMM_begin_19 (by decide) ?_
      refine dx_istore_n (L' := [some (.inr 0), some (.inl 0)]) dMM_begin_20 (Nat.le_of_ble_eq_true rfl) rfl ?_
      exact dx_less (L' := [some (.inr 0), some (.inl 0)]) ⟨rfl, rfl, trivial⟩ h
    · have h := h.2 q
      refine dx_bipush (v := (-3)) dMM_begin_16 (by decide) ?_
      exact dx_ret dMM_begin_18 rfl rfl h
  · have h := h.2 q
    refine dx_iconst (v := (-1)) dMM_begin_7 (by decide) ?_
    exact dx_ret dMM_begin_8 rfl rfl h
set_option maxRecDepth 100000 in
set_option maxHeartbeats 4000000 in
theorem r_MM_begin_21 {E : dx_E} {d : Nat} {po : dx_P} {v1 : Int32} {σ : dx_V} (h : (16 ≤ v1 → g_MM_begin_49 E (d + 1) po 0 σ) ∧ (¬ 16 ≤ v1 → vp_in v1 16 ∧ (vp_in v1 16 ∧ (g_MM_begin_21 E (d + 1) po (v1 + 1) (dx_u (dx_u σ 15 v1.toNatClampNeg (vp_nar .boolean 0)) 16 v1.toNatClampNeg 0))))) : g_MM_begin_21 E (d + 1) po v1 σ := by
  show dx_G tM E (d + 1) RMM cMM_begin 2 (some .int) po 21 [some (.inr 0), some (.inl v1)] [] σ
  refine dx_iload_n dMM_begin_21 rfl ?_
  refine dx_bipush (v := 16) dMM_begin_22 (by decide) ?_
  refine dx_icmp_ge 47 dMM_begin_24 (by decide) (fun q => ?_) (fun q => ?_)
  · have h := h.1 q
    refine dx_iconst (v := 0) dMM_begin_47 (by decide) ?_
    refine dx_istore_n (L' := [some (.inr 0), some (.inl 0)]) dMM_begin_48 (Nat.le_of_ble_eq_true rfl) rfl ?_
    exact dx_less (L' := [some (.inr 0), some (.inl 0)]) ⟨rfl, rfl, trivial⟩ h
  · have h := h.2 q
    refine dx_aload_n dMM_begin_27 rfl ?_
    refine dx_getr dMM_begin_28 flMM_53 rfl rfl ?_
    refine dx_iload_n dMM_begin_31 rfl ?_
    refine dx_iconst (v := 0) dMM_begin_32 (by decide) ?_
    obtain ⟨hi, h⟩ := h
    refine dx_bastore dMM_begin_33 rfl hi ?_
    refine dx_aload_n dMM_begin_34 rfl ?_
    refine dx_getr dMM_begin_35 flMM_56 rfl rfl ?_
    refine dx_iload_n dMM_begin_38 rfl ?_
    refine dx_iconst (v := 0) dMM_begin_39 (by decide) ?_
    obtain ⟨hi, h⟩ := h
    refine dx_iastore dMM_begin_40 rfl hi ?_
    refine dx_iinc (v := v1 + 1) (L' := [some (.inr 0), some (.inl (v1 + 1))]) dMM_begin_41 rfl rfl rfl ?_
    refine dx_goto 21 dMM_begin_44 (by decide) ?_
    exact dx_less (L' := [some (.inr 0), some (.inl (v1 + 1))]) ⟨rfl, rfl, trivial⟩ h
set_option maxRecDepth 100000 in
set_option maxHeartbeats 4000000 in
theorem r_MM_begin_49 {E : dx_E} {d : Nat} {po : dx_P} {v1 : Int32} {σ : dx_V} (h : (4 ≤ v1 → dx_cu (m_MM_none E d (dx_u (dx_u (dx_u (dx_u (dx_u (dx_u (dx_u (dx_u σ 0 23 0) 0 25 0) 0 27 0) 0 30 0) 0 31 0) 0 19 0) 0 18 0) 0 17 1)) (fun σ1 => dx_ci (m_MM_initialOf E d 0 σ1) (fun x3 σ2 => dx_cu (m_MM_want E d x3 0 σ2) (fun σ4 => dx_cu (m_MM_enterAll E d σ4) (fun σ5 => dx_cu (m_MM_macrostep E d σ5) (fun σ6 => po (some (σ6 0 19)) σ6)))))) ∧ (¬ 4 ≤ v1 → vp_in v1 4 ∧ (g_MM_begin_49 E (d + 1) po (v1 + 1) (dx_u σ 17 v1.toNatClampNeg 0)))) : g_MM_begin_49 E (d + 1) po v1 σ := by
  show dx_G tM E (d + 1) RMM cMM_begin 2 (some .int) po 49 [some (.inr 0), some (.inl v1)] [] σ
  refine dx_iload_n dMM_begin_49 rfl ?_
  refine dx_iconst (v := 4) dMM_begin_50 (by decide) ?_
  refine dx_icmp_ge 67 dMM_begin_51 (by decide) (fun q => ?_) (fun q => ?_)
  · have h := h.1 q
    refine dx_aload_n dMM_begin_67 rfl ?_
    refine dx_iconst (v := 0) dMM_begin_68 (by decide) ?_
    refine dx_put dMM_begin_69 fpMM_113 rfl rfl (Or.inl rfl) ?_
    refine dx_aload_n dMM_begin_72 rfl ?_
    refine dx_iconst (v := 0) dMM_begin_73 (by decide) ?_
    refine dx_put dMM_begin_74 fpMM_116 rfl rfl (Or.inl rfl) ?_
    refine dx_aload_n dMM_begin_77 rfl ?_
    refine dx_iconst (v := 0) dMM_begin_78 (by decide) ?_
    refine dx_put dMM_begin_79 fpMM_122 rfl rfl (Or.inl rfl) ?_
    refine dx_aload_n dMM_begin_82 rfl ?_
    refine dx_iconst (v := 0) dMM_begin_83 (by decide) ?_
    refine dx_put dMM_begin_84 fpMM_125 rfl rfl (Or.inl rfl) ?_
    refine dx_aload_n dMM_begin_87 rfl ?_
    refine dx_iconst (v := 0) dMM_begin_88 (by decide) ?_
    refine dx_put dMM_begin_89 fpMM_110 rfl rfl (Or.inl rfl) ?_
    refine dx_aload_n dMM_begin_92 rfl ?_
    refine dx_iconst (v := 0) dMM_begin_93 (by decide) ?_
    refine dx_put dMM_begin_94 fpMM_198 rfl rfl (Or.inl rfl) ?_
    refine dx_aload_n dMM_begin_97 rfl ?_
    refine dx_iconst (v := 0) dMM_begin_98 (by decide) ?_
    refine dx_put dMM_begin_99 fpMM_185 rfl rfl (Or.inr (Or.inl rfl)) ?_
    refine dx_aload_n dMM_begin_102 rfl ?_
    refine dx_iconst (v := 1) dMM_begin_103 (by decide) ?_
    refine dx_put dMM_begin_104 fpMM_97 rfl rfl (Or.inl rfl) ?_
    refine dx_aload_n dMM_begin_107 rfl ?_
    obtain ⟨pp, hm, hk⟩ := h
    refine dx_callvv [] [] dMM_begin_108 cvMM_207 rfl (Nat.le_of_ble_eq_true rfl) rfl hm (fun σ1 hp => ?_)
    have h := hk σ1 hp
    refine dx_aload_n dMM_begin_111 rfl ?_
    refine dx_iconst (v := 0) dMM_begin_112 (by decide) ?_
    obtain ⟨pp, hm, hk⟩ := h
    refine dx_callvi [.inl 0] [] dMM_begin_113 cvMM_182 rfl (Nat.le_of_ble_eq_true rfl) rfl hm (fun x3 σ2 hp => ?_)
    have h := hk x3 σ2 hp
    refine dx_istore_n (L' := [some (.inr 0), some (.inl x3)]) dMM_begin_116 (Nat.le_of_ble_eq_true rfl) rfl ?_
    refine dx_aload_n dMM_begin_117 rfl ?_
    refine dx_iload_n dMM_begin_118 rfl ?_
    refine dx_iconst (v := 0) dMM_begin_119 (by decide) ?_
    obtain ⟨pp, hm, hk⟩ := h
    refine dx_callvv [.inl x3, .inl 0] [] dMM_begin_120 cvMM_179 rfl (Nat.le_of_ble_eq_true rfl) rfl hm (fun σ4 hp => ?_)
    have h := hk σ4 hp
    refine dx_aload_n dMM_begin_123 rfl ?_
    obtain ⟨pp, hm, hk⟩ := h
    refine dx_callvv [] [] dMM_begin_124 cvMM_213 rfl (Nat.le_of_ble_eq_true rfl) rfl hm (fun σ5 hp => ?_)
    have h := hk σ5 hp
    refine dx_aload_n dMM_begin_127 rfl ?_
    obtain ⟨pp, hm, hk⟩ := h
    refine dx_callvv [] [] dMM_begin_128 cvMM_229 rfl (Nat.le_of_ble_eq_true rfl) rfl hm (fun σ6 hp => ?_)
    have h := hk σ6 hp
    refine dx_aload_n dMM_begin_131 rfl ?_
    refine dx_geti dMM_begin_132 flMM_198 rfl rfl ?_
    exact dx_ret dMM_begin_135 rfl rfl h
  · have h := h.2 q
    refine dx_aload_n dMM_begin_54 rfl ?_
    refine dx_getr dMM_begin_55 flMM_59 rfl rfl ?_
    refine dx_iload_n dMM_begin_58 rfl ?_
    refine dx_iconst (v := 0) dMM_begin_59 (by decide) ?_
    obtain ⟨hi, h⟩ := h
    refine dx_iastore dMM_begin_60 rfl hi ?_
    refine dx_iinc (v := v1 + 1) (L' := [some (.inr 0), some (.inl (v1 + 1))]) dMM_begin_61 rfl rfl rfl ?_
    refine dx_goto 49 dMM_begin_64 (by decide) ?_
    exact dx_less (L' := [some (.inr 0), some (.inl (v1 + 1))]) ⟨rfl, rfl, trivial⟩ h
set_option maxRecDepth 100000 in
set_option maxHeartbeats 4000000 in
theorem r_MM_post {E : dx_E} {d : Nat} {a1 : Int32} {σ : dx_V} {po : dx_P} (h : (¬ (σ 0 17) = 1 → po (some 0) σ) ∧ ((σ 0 17) = 1 → (a1 < 1 → po (some 0) σ) ∧ (¬ a1 < 1 → (20 < a1 → po (some 0) σ) ∧ (¬ 20 < a1 → dx_ci (m_MM_queue E d a1 σ) (fun x2 σ1 => (x2 = 0 → po (some 0) σ1) ∧ (¬ x2 = 0 → po (some 1) σ1)))))) : m_MM_post E (d + 1) a1 σ po := by
  refine dx_entry (by decide) (Nat.le_of_ble_eq_true rfl) ?_
  show dx_G tM E (d + 1) RMM cMM_post 2 (some .boolean) po 0 [some (.inr 0), some (.inl a1)] [] σ
  refine dx_aload_n dMM_post_0 rfl ?_
  refine dx_geti dMM_post_1 flMM_97 rfl rfl ?_
  refine dx_iconst (v := 1) dMM_post_4 (by decide) ?_
  refine dx_icmp_ne 31 dMM_post_5 (by decide) (fun q => ?_) (fun q => ?_)
  · have h := h.1 q
    refine dx_iconst (v := 0) dMM_post_31 (by decide) ?_
    exact dx_ret dMM_post_32 rfl rfl h
  · have h := h.2 q
    refine dx_iload_n dMM_post_8 rfl ?_
    refine dx_iconst (v := 1) dMM_post_9 (by decide) ?_
    refine dx_icmp_lt 31 dMM_post_10 (by decide) (fun q => ?_) (fun q => ?_)
    · have h := h.1 q
      refine dx_iconst (v := 0) dMM_post_31 (by decide) ?_
      exact dx_ret dMM_post_32 rfl rfl h
    · have h := h.2 q
      refine dx_iload_n dMM_post_13 rfl ?_
      refine dx_bipush (v := 20) dMM_post_14 (by decide) ?_
      refine dx_icmp_gt 31 dMM_post_16 (by decide) (fun q => ?_) (fun q => ?_)
      · have h := h.1 q
        refine dx_iconst (v := 0) dMM_post_31 (by decide) ?_
        exact dx_ret dMM_post_32 rfl rfl h
      · have h := h.2 q
        refine dx_aload_n dMM_post_19 rfl ?_
        refine dx_iload_n dMM_post_20 rfl ?_
        obtain ⟨pp, hm, hk⟩ := h
        refine dx_callvi [.inl a1] [] dMM_post_21 cvMM_119 rfl (Nat.le_of_ble_eq_true rfl) rfl hm (fun x2 σ1 hp => ?_)
        have h := hk x2 σ1 hp
        refine dx_if_eq 31 dMM_post_24 (by decide) (fun q => ?_) (fun q => ?_)
        · have h := h.1 q
          refine dx_iconst (v := 0) dMM_post_31 (by decide) ?_
          exact dx_ret dMM_post_32 rfl rfl h
        · have h := h.2 q
          refine dx_iconst (v := 1) dMM_post_27 (by decide) ?_
          refine dx_goto 32 dMM_post_28 (by decide) ?_
          exact dx_ret dMM_post_32 rfl rfl h
def g_MM_step_39 (E : dx_E) (d : Nat) (po : dx_P) (v1 v2 : Int32) (σ : dx_V) : Prop := dx_G tM E d RMM cMM_step 3 (some .int) po 39 [some (.inr 0), some (.inl v1), some (.inl v2)] [] σ
def g_MM_step_93 (E : dx_E) (d : Nat) (po : dx_P) (σ : dx_V) : Prop := dx_G tM E d RMM cMM_step 3 (some .int) po 93 [some (.inr 0), none, none] [] σ
set_option maxRecDepth 100000 in
set_option maxHeartbeats 4000000 in
theorem r_MM_step {E : dx_E} {d : Nat} {σ : dx_V} {po : dx_P} (h : ((σ 0 17) = 1 → (¬ (σ 0 25) = 0 → vp_in 0 16 ∧ (g_MM_step_39 E (d + 1) po (σ 19 (0 : Int32).toNatClampNeg) 0 (dx_u σ 0 25 ((σ 0 25) - 1)))) ∧ ((σ 0 25) = 0 → po (some (-4)) σ)) ∧ (¬ (σ 0 17) = 1 → po (some (-1)) σ)) : m_MM_step E (d + 1) σ po := by
  refine dx_entry (by decide) (Nat.le_of_ble_eq_true rfl) ?_
  show dx_G tM E (d + 1) RMM cMM_step 3 (some .int) po 0 [some (.inr 0), none, none] [] σ
  refine dx_aload_n dMM_step_0 rfl ?_
  refine dx_geti dMM_step_1 flMM_97 rfl rfl ?_
  refine dx_iconst (v := 1) dMM_step_4 (by decide) ?_
  refine dx_icmp_eq 10 dMM_step_5 (by decide) (fun q => ?_) (fun q => ?_)
  · have h := h.1 q
    refine dx_aload_n dMM_step_10 rfl ?_
    refine dx_geti dMM_step_11 flMM_116 rfl rfl ?_
    refine dx_if_ne 20 dMM_step_14 (by decide) (fun q => ?_) (fun q => ?_)
    · have h := h.1 q
      refine dx_aload_n dMM_step_20 rfl ?_
      refine dx_getr dMM_step_21 flMM_65 rfl rfl ?_
      refine dx_iconst (v := 0) dMM_step_24 (by decide) ?_
      obtain ⟨hi, h⟩ := h
      refine dx_iaload dMM_step_25 rfl hi ?_
      refine dx_istore_n (L' := [some (.inr 0), some (.inl (σ 19 (0 : Int32).toNatClampNeg)), none]) dMM_step_26 (Nat.le_of_ble_eq_true rfl) rfl ?_
      refine dx_aload_n dMM_step_27 rfl ?_
      refine dx_dup dMM_step_28 ?_
      refine dx_geti dMM_step_29 flMM_116 rfl rfl ?_
      refine dx_iconst (v := 1) dMM_step_32 (by decide) ?_
      refine dx_isub dMM_step_33 ?_
      refine dx_put dMM_step_34 fpMM_116 rfl rfl (Or.inl rfl) ?_
      refine dx_iconst (v := 0) dMM_step_37 (by decide) ?_
      refine dx_istore_n (L' := [some (.inr 0), some (.inl (σ 19 (0 : Int32).toNatClampNeg)), some (.inl 0)]) dMM_step_38 (Nat.le_of_ble_eq_true rfl) rfl ?_
      exact dx_less (L' := [some (.inr 0), some (.inl (σ 19 (0 : Int32).toNatClampNeg)), some (.inl 0)]) ⟨rfl, rfl, rfl, trivial⟩ h
    · have h := h.2 q
      refine dx_bipush (v := (-4)) dMM_step_17 (by decide) ?_
      exact dx_ret dMM_step_19 rfl rfl h
  · have h := h.2 q
    refine dx_iconst (v := (-1)) dMM_step_8 (by decide) ?_
    exact dx_ret dMM_step_9 rfl rfl h
set_option maxRecDepth 100000 in
set_option maxHeartbeats 4000000 in
theorem r_MM_step_39 {E : dx_E} {d : Nat} {po : dx_P} {v1 v2 : Int32} {σ : dx_V} (h : ((σ 0 25) ≤ v2 → dx_cu (m_MM_select E d v1 (dx_u (dx_u σ 0 31 0) 0 19 0)) (fun σ1 => ((σ1 0 33) ≤ 0 → g_MM_step_93 E (d + 1) po σ1) ∧ (¬ (σ1 0 33) ≤ 0 → dx_cu (m_MM_microstep E d σ1) (fun σ2 => g_MM_step_93 E (d + 1) po σ2)))) ∧ (¬ (σ 0 25) ≤ v2 → vp_in (v2 + 1) 16 ∧ (vp_in v2 16 ∧ (g_MM_step_39 E (d + 1) po v1 (v2 + 1) (dx_u σ 19 v2.toNatClampNeg (σ 19 (v2 + 1).toNatClampNeg)))))) : g_MM_step_39 E (d + 1) po v1 v2 σ := by
  show dx_G tM E (d + 1) RMM cMM_step 3 (some .int) po 39 [some (.inr 0), some (.inl v1), some (.inl v2)] [] σ
  refine dx_iload_n dMM_step_39 rfl ?_
  refine dx_aload_n dMM_step_40 rfl ?_
  refine dx_geti dMM_step_41 flMM_116 rfl rfl ?_
  refine dx_icmp_ge 67 dMM_step_44 (by decide) (fun q => ?_) (fun q => ?_)
  · have h := h.1 q
    refine dx_aload_n dMM_step_67 rfl ?_
    refine dx_iconst (v := 0) dMM_step_68 (by decide) ?_
    refine dx_put dMM_step_69 fpMM_110 rfl rfl (Or.inl rfl) ?_
    refine dx_aload_n dMM_step_72 rfl ?_
    refine dx_iconst (v := 0) dMM_step_73 (by decide) ?_
    refine dx_put dMM_step_74 fpMM_198 rfl rfl (Or.inl rfl) ?_
    refine dx_aload_n dMM_step_77 rfl ?_
    refine dx_iload_n dMM_step_78 rfl ?_
    obtain ⟨pp, hm, hk⟩ := h
    refine dx_callvv [.inl v1] [] dMM_step_79 cvMM_216 rfl (Nat.le_of_ble_eq_true rfl) rfl hm (fun σ1 hp => ?_)
    have h := hk σ1 hp
    refine dx_aload_n dMM_step_82 rfl ?_
    refine dx_geti dMM_step_83 flMM_143 rfl rfl ?_
    refine dx_if_le 93 dMM_step_86 (by decide) (fun q => ?_) (fun q => ?_)
    · have h := h.1 q
      exact dx_less (L' := [some (.inr 0), none, none]) ⟨rfl, trivial⟩ h
    · have h := h.2 q
      refine dx_aload_n dMM_step_89 rfl ?_
      obtain ⟨pp, hm, hk⟩ := h
      refine dx_callvv [] [] dMM_step_90 cvMM_223 rfl (Nat.le_of_ble_eq_true rfl) rfl hm (fun σ2 hp => ?_)
      have h := hk σ2 hp
      exact dx_less (L' := [some (.inr 0), none, none]) ⟨rfl, trivial⟩ h
  · have h := h.2 q
    refine dx_aload_n dMM_step_47 rfl ?_
    refine dx_getr dMM_step_48 flMM_65 rfl rfl ?_
    refine dx_iload_n dMM_step_51 rfl ?_
    refine dx_aload_n dMM_step_52 rfl ?_
    refine dx_getr dMM_step_53 flMM_65 rfl rfl ?_
    refine dx_iload_n dMM_step_56 rfl ?_
    refine dx_iconst (v := 1) dMM_step_57 (by decide) ?_
    refine dx_iadd dMM_step_58 ?_
    obtain ⟨hi, h⟩ := h
    refine dx_iaload dMM_step_59 rfl hi ?_
    obtain ⟨hi, h⟩ := h
    refine dx_iastore dMM_step_60 rfl hi ?_
    refine dx_iinc (v := v2 + 1) (L' := [some (.inr 0), some (.inl v1), some (.inl (v2 + 1))]) dMM_step_61 rfl rfl rfl ?_
    refine dx_goto 39 dMM_step_64 (by decide) ?_
    exact dx_less (L' := [some (.inr 0), some (.inl v1), some (.inl (v2 + 1))]) ⟨rfl, rfl, rfl, trivial⟩ h
set_option maxRecDepth 100000 in
set_option maxHeartbeats 4000000 in
theorem r_MM_step_93 {E : dx_E} {d : Nat} {po : dx_P} {σ : dx_V} (h : dx_cu (m_MM_macrostep E d σ) (fun σ1 => po (some (σ1 0 19)) σ1)) : g_MM_step_93 E (d + 1) po σ := by
  show dx_G tM E (d + 1) RMM cMM_step 3 (some .int) po 93 [some (.inr 0), none, none] [] σ
  refine dx_aload_n dMM_step_93 rfl ?_
  obtain ⟨pp, hm, hk⟩ := h
  refine dx_callvv [] [] dMM_step_94 cvMM_229 rfl (Nat.le_of_ble_eq_true rfl) rfl hm (fun σ1 hp => ?_)
  have h := hk σ1 hp
  refine dx_aload_n dMM_step_97 rfl ?_
  refine dx_geti dMM_step_98 flMM_198 rfl rfl ?_
  exact dx_ret dMM_step_101 rfl rfl h
def g_MM_tick_33 (E : dx_E) (d : Nat) (po : dx_P) (v2 : Int32) (σ : dx_V) : Prop := dx_G tM E d RMM cMM_tick 5 (some .int) po 33 [some (.inr 0), none, some (.inl v2), none, none] [] σ
def g_MM_tick_42 (E : dx_E) (d : Nat) (po : dx_P) (v3 v4 : Int32) (σ : dx_V) : Prop := dx_G tM E d RMM cMM_tick 5 (some .int) po 42 [some (.inr 0), none, none, some (.inl v3), some (.inl v4)] [] σ
def g_MM_tick_103 (E : dx_E) (d : Nat) (po : dx_P) (v3 w0 : Int32) (σ : dx_V) : Prop := dx_G tM E d RMM cMM_tick 5 (some .int) po 103 [some (.inr 0), none, none, some (.inl v3), none] [.inl w0] σ
def g_MM_tick_128 (E : dx_E) (d : Nat) (po : dx_P) (v2 v3 : Int32) (σ : dx_V) : Prop := dx_G tM E d RMM cMM_tick 5 (some .int) po 128 [some (.inr 0), none, some (.inl v2), some (.inl v3), none] [] σ
def g_MM_tick_145 (E : dx_E) (d : Nat) (po : dx_P) (v2 v4 : Int32) (σ : dx_V) : Prop := dx_G tM E d RMM cMM_tick 5 (some .int) po 145 [some (.inr 0), none, some (.inl v2), none, some (.inl v4)] [] σ
set_option maxRecDepth 100000 in
set_option maxHeartbeats 4000000 in
theorem r_MM_tick {E : dx_E} {d : Nat} {a1 : Int32} {σ : dx_V} {po : dx_P} (h : (¬ (σ 0 17) = 1 → po (some (-1)) σ) ∧ ((σ 0 17) = 1 → (a1 < 1 → po (some (-1)) σ) ∧ (¬ a1 < 1 → (a1 ≤ 50 → g_MM_tick_33 E (d + 1) po 1 (dx_u σ 0 30 ((σ 0 30) + a1))) ∧ (¬ a1 ≤ 50 → po (some (-1)) σ)))) : m_MM_tick E (d + 1) a1 σ po := by
  refine dx_entry (by decide) (Nat.le_of_ble_eq_true rfl) ?_
  show dx_G tM E (d + 1) RMM cMM_tick 5 (some .int) po 0 [some (.inr 0), some (.inl a1), none, none, none] [] σ
  refine dx_aload_n dMM_tick_0 rfl ?_
  refine dx_geti dMM_tick_1 flMM_97 rfl rfl ?_
  refine dx_iconst (v := 1) dMM_tick_4 (by decide) ?_
  refine dx_icmp_ne 19 dMM_tick_5 (by decide) (fun q => ?_) (fun q => ?_)
  · have h := h.1 q
    refine dx_iconst (v := (-1)) dMM_tick_19 (by decide) ?_
    exact dx_ret dMM_tick_20 rfl rfl h
  · have h := h.2 q
    refine dx_iload_n dMM_tick_8 rfl ?_
    refine dx_iconst (v := 1) dMM_tick_9 (by decide) ?_
    refine dx_icmp_lt 19 dMM_tick_10 (by decide) (fun q => ?_) (fun q => ?_)
    · have h := h.1 q
      refine dx_iconst (v := (-1)) dMM_tick_19 (by decide) ?_
      exact dx_ret dMM_tick_20 rfl rfl h
    · have h := h.2 q
      refine dx_iload_n dMM_tick_13 rfl ?_
      refine dx_bipush (v := 50) dMM_tick_14 (by decide) ?_
      refine dx_icmp_le 21 dMM_tick_16 (by decide) (fun q => ?_) (fun q => ?_)
      · have h := h.1 q
        refine dx_aload_n dMM_tick_21 rfl ?_
        refine dx_dup dMM_tick_22 ?_
        refine dx_geti dMM_tick_23 flMM_125 rfl rfl ?_
        refine dx_iload_n dMM_tick_26 rfl ?_
        refine dx_iadd dMM_tick_27 ?_
        refine dx_put dMM_tick_28 fpMM_125 rfl rfl (Or.inl rfl) ?_
        refine dx_iconst (v := 1) dMM_tick_31 (by decide) ?_
        refine dx_istore_n (L' := [some (.inr 0), some (.inl a1), some (.inl 1), none, none]) dMM_tick_32 (Nat.le_of_ble_eq_true rfl) rfl ?_
        exact dx_less (L' := [some (.inr 0), none, some (.inl 1), none, none]) ⟨rfl, rfl, trivial⟩ h
      · have h := h.2 q
        refine dx_iconst (v := (-1)) dMM_tick_19 (by decide) ?_
        exact dx_ret dMM_tick_20 rfl rfl h
set_option maxRecDepth 100000 in
set_option maxHeartbeats 4000000 in
theorem r_MM_tick_33 {E : dx_E} {d : Nat} {po : dx_P} {v2 : Int32} {σ : dx_V} (h : (v2 = 0 → po (some (σ 0 30)) σ) ∧ (¬ v2 = 0 → g_MM_tick_42 E (d + 1) po (-1) 0 σ)) : g_MM_tick_33 E (d + 1) po v2 σ := by
  show dx_G tM E (d + 1) RMM cMM_tick 5 (some .int) po 33 [some (.inr 0), none, some (.inl v2), none, none] [] σ
  refine dx_iload_n dMM_tick_33 rfl ?_
  refine dx_if_eq 195 dMM_tick_34 (by decide) (fun q => ?_) (fun q => ?_)
  · have h := h.1 q
    refine dx_aload_n dMM_tick_195 rfl ?_
    refine dx_geti dMM_tick_196 flMM_125 rfl rfl ?_
    exact dx_ret dMM_tick_199 rfl rfl h
  · have h := h.2 q
    refine dx_iconst (v := (-1)) dMM_tick_37 (by decide) ?_
    refine dx_istore_n (L' := [some (.inr 0), none, some (.inl v2), some (.inl (-1)), none]) dMM_tick_38 (Nat.le_of_ble_eq_true rfl) rfl ?_
    refine dx_iconst (v := 0) dMM_tick_39 (by decide) ?_
    refine dx_istore (L' := [some (.inr 0), none, some (.inl v2), some (.inl (-1)), some (.inl 0)]) dMM_tick_40 (Nat.le_of_ble_eq_true rfl) rfl ?_
    exact dx_less (L' := [some (.inr 0), none, none, some (.inl (-1)), some (.inl 0)]) ⟨rfl, rfl, rfl, trivial⟩ h
set_option maxRecDepth 100000 in
set_option maxHeartbeats 4000000 in
theorem r_MM_tick_42 {E : dx_E} {d : Nat} {po : dx_P} {v3 v4 : Int32} {σ : dx_V} (h : ((σ 0 27) ≤ v4 → (v3 < 0 → g_MM_tick_103 E (d + 1) po v3 0 σ) ∧ (¬ v3 < 0 → g_MM_tick_103 E (d + 1) po v3 1 σ)) ∧ (¬ (σ 0 27) ≤ v4 → vp_in v4 12 ∧ (((σ 0 30) < (σ 21 v4.toNatClampNeg) → g_MM_tick_42 E (d + 1) po v3 (v4 + 1) σ) ∧ (¬ (σ 0 30) < (σ 21 v4.toNatClampNeg) → (v3 < 0 → g_MM_tick_42 E (d + 1) po v4 (v4 + 1) σ) ∧ (¬ v3 < 0 → vp_in v4 12 ∧ (vp_in v3 12 ∧ (((σ 21 v3.toNatClampNeg) ≤ (σ 21 v4.toNatClampNeg) → g_MM_tick_42 E (d + 1) po v3 (v4 + 1) σ) ∧ (¬ (σ 21 v3.toNatClampNeg) ≤ (σ 21 v4.toNatClampNeg) → g_MM_tick_42 E (d + 1) po v4 (v4 + 1) σ)))))))) : g_MM_tick_42 E (d + 1) po v3 v4 σ := by
  show dx_G tM E (d + 1) RMM cMM_tick 5 (some .int) po 42 [some (.inr 0), none, none, some (.inl v3), some (.inl v4)] [] σ
  refine dx_iload dMM_tick_42 rfl ?_
  refine dx_aload_n dMM_tick_44 rfl ?_
  refine dx_geti dMM_tick_45 flMM_122 rfl rfl ?_
  refine dx_icmp_ge 94 dMM_tick_48 (by decide) (fun q => ?_) (fun q => ?_)
  · have h := h.1 q
    refine dx_iload_n dMM_tick_94 rfl ?_
    refine dx_if_lt 102 dMM_tick_95 (by decide) (fun q => ?_) (fun q => ?_)
    · have h := h.1 q
      refine dx_iconst (v := 0) dMM_tick_102 (by decide) ?_
      exact dx_less (L' := [some (.inr 0), none, none, some (.inl v3), none]) ⟨rfl, rfl, trivial⟩ h
    · have h := h.2 q
      refine dx_iconst (v := 1) dMM_tick_98 (by decide) ?_
      refine dx_goto 103 dMM_tick_99 (by decide) ?_
      exact dx_less (L' := [some (.inr 0), none, none, some (.inl v3), none]) ⟨rfl, rfl, trivial⟩ h
  · have h := h.2 q
    refine dx_aload_n dMM_tick_51 rfl ?_
    refine dx_getr dMM_tick_52 flMM_71 rfl rfl ?_
    refine dx_iload dMM_tick_55 rfl ?_
    obtain ⟨hi, h⟩ := h
    refine dx_iaload dMM_tick_57 rfl hi ?_
    refine dx_aload_n dMM_tick_58 rfl ?_
    refine dx_geti dMM_tick_59 flMM_125 rfl rfl ?_
    refine dx_icmp_gt 88 dMM_tick_62 (by decide) (fun q => ?_) (fun q => ?_)
    · have h := h.1 q
      refine dx_iinc (v := v4 + 1) (L' := [some (.inr 0), none, none, some (.inl v3), some (.inl (v4 + 1))]) dMM_tick_88 rfl rfl rfl ?_
      refine dx_goto 42 dMM_tick_91 (by decide) ?_
      exact dx_less (L' := [some (.inr 0), none, none, some (.inl v3), some (.inl (v4 + 1))]) ⟨rfl, rfl, rfl, trivial⟩ h
    · have h := h.2 q
      refine dx_iload_n dMM_tick_65 rfl ?_
      refine dx_if_lt 85 dMM_tick_66 (by decide) (fun q => ?_) (fun q => ?_)
      · have h := h.1 q
        refine dx_iload dMM_tick_85 rfl ?_
        refine dx_istore_n (L' := [some (.inr 0), none, none, some (.inl v4), some (.inl v4)]) dMM_tick_87 (Nat.le_of_ble_eq_true rfl) rfl ?_
        refine dx_iinc (v := v4 + 1) (L' := [some (.inr 0), none, none, some (.inl v4), some (.inl (v4 + 1))]) dMM_tick_88 rfl rfl rfl ?_
        refine dx_goto 42 dMM_tick_91 (by decide) ?_
        exact dx_less (L' := [some (.inr 0), none, none, some (.inl v4), some (.inl (v4 + 1))]) ⟨rfl, rfl, rfl, trivial⟩ h
      · have h := h.2 q
        refine dx_aload_n dMM_tick_69 rfl ?_
        refine dx_getr dMM_tick_70 flMM_71 rfl rfl ?_
        refine dx_iload dMM_tick_73 rfl ?_
        obtain ⟨hi, h⟩ := h
        refine dx_iaload dMM_tick_75 rfl hi ?_
        refine dx_aload_n dMM_tick_76 rfl ?_
        refine dx_getr dMM_tick_77 flMM_71 rfl rfl ?_
        refine dx_iload_n dMM_tick_80 rfl ?_
        obtain ⟨hi, h⟩ := h
        refine dx_iaload dMM_tick_81 rfl hi ?_
        refine dx_icmp_ge 88 dMM_tick_82 (by decide) (fun q => ?_) (fun q => ?_)
        · have h := h.1 q
          refine dx_iinc (v := v4 + 1) (L' := [some (.inr 0), none, none, some (.inl v3), some (.inl (v4 + 1))]) dMM_tick_88 rfl rfl rfl ?_
          refine dx_goto 42 dMM_tick_91 (by decide) ?_
          exact dx_less (L' := [some (.inr 0), none, none, some (.inl v3), some (.inl (v4 + 1))]) ⟨rfl, rfl, rfl, trivial⟩ h
        · have h := h.2 q
          refine dx_iload dMM_tick_85 rfl ?_
          refine dx_istore_n (L' := [some (.inr 0), none, none, some (.inl v4), some (.inl v4)]) dMM_tick_87 (Nat.le_of_ble_eq_true rfl) rfl ?_
          refine dx_iinc (v := v4 + 1) (L' := [some (.inr 0), none, none, some (.inl v4), some (.inl (v4 + 1))]) dMM_tick_88 rfl rfl rfl ?_
          refine dx_goto 42 dMM_tick_91 (by decide) ?_
          exact dx_less (L' := [some (.inr 0), none, none, some (.inl v4), some (.inl (v4 + 1))]) ⟨rfl, rfl, rfl, trivial⟩ h
set_option maxRecDepth 100000 in
set_option maxHeartbeats 4000000 in
theorem r_MM_tick_103 {E : dx_E} {d : Nat} {po : dx_P} {v3 w0 : Int32} {σ : dx_V} (h : (w0 = 0 → g_MM_tick_128 E (d + 1) po w0 v3 σ) ∧ (¬ w0 = 0 → vp_in v3 12 ∧ (dx_ci (m_MM_queue E d (σ 20 v3.toNatClampNeg) σ) (fun x2 σ1 => (¬ x2 = 0 → g_MM_tick_128 E (d + 1) po w0 v3 σ1) ∧ (x2 = 0 → g_MM_tick_128 E (d + 1) po 0 v3 (dx_u σ1 0 17 4)))))) : g_MM_tick_103 E (d + 1) po v3 w0 σ := by
  show dx_G tM E (d + 1) RMM cMM_tick 5 (some .int) po 103 [some (.inr 0), none, none, some (.inl v3), none] [.inl w0] σ
  refine dx_istore_n (L' := [some (.inr 0), none, some (.inl w0), some (.inl v3), none]) dMM_tick_103 (Nat.le_of_ble_eq_true rfl) rfl ?_
  refine dx_iload_n dMM_tick_104 rfl ?_
  refine dx_if_eq 128 dMM_tick_105 (by decide) (fun q => ?_) (fun q => ?_)
  · have h := h.1 q
    exact dx_less (L' := [some (.inr 0), none, some (.inl w0), some (.inl v3), none]) ⟨rfl, rfl, rfl, trivial⟩ h
  · have h := h.2 q
    refine dx_aload_n dMM_tick_108 rfl ?_
    refine dx_aload_n dMM_tick_109 rfl ?_
    refine dx_getr dMM_tick_110 flMM_68 rfl rfl ?_
    refine dx_iload_n dMM_tick_113 rfl ?_
    obtain ⟨hi, h⟩ := h
    refine dx_iaload dMM_tick_114 rfl hi ?_
    obtain ⟨pp, hm, hk⟩ := h
    refine dx_callvi [.inl (σ 20 v3.toNatClampNeg)] [] dMM_tick_115 cvMM_119 rfl (Nat.le_of_ble_eq_true rfl) rfl hm (fun x2 σ1 hp => ?_)
    have h := hk x2 σ1 hp
    refine dx_if_ne 128 dMM_tick_118 (by decide) (fun q => ?_) (fun q => ?_)
    · have h := h.1 q
      exact dx_less (L' := [some (.inr 0), none, some (.inl w0), some (.inl v3), none]) ⟨rfl, rfl, rfl, trivial⟩ h
    · have h := h.2 q
      refine dx_aload_n dMM_tick_121 rfl ?_
      refine dx_iconst (v := 4) dMM_tick_122 (by decide) ?_
      refine dx_put dMM_tick_123 fpMM_97 rfl rfl (Or.inl rfl) ?_
      refine dx_iconst (v := 0) dMM_tick_126 (by decide) ?_
      refine dx_istore_n (L' := [some (.inr 0), none, some (.inl 0), some (.inl v3), none]) dMM_tick_127 (Nat.le_of_ble_eq_true rfl) rfl ?_
      exact dx_less (L' := [some (.inr 0), none, some (.inl 0), some (.inl v3), none]) ⟨rfl, rfl, rfl, trivial⟩ h
set_option maxRecDepth 100000 in
set_option maxHeartbeats 4000000 in
theorem r_MM_tick_128 {E : dx_E} {d : Nat} {po : dx_P} {v2 v3 : Int32} {σ : dx_V} (h : (v2 = 0 → g_MM_tick_33 E (d + 1) po v2 σ) ∧ (¬ v2 = 0 → g_MM_tick_145 E (d + 1) po v2 v3 (dx_u σ 0 27 ((σ 0 27) - 1)))) : g_MM_tick_128 E (d + 1) po v2 v3 σ := by
  show dx_G tM E (d + 1) RMM cMM_tick 5 (some .int) po 128 [some (.inr 0), none, some (.inl v2), some (.inl v3), none] [] σ
  refine dx_iload_n dMM_tick_128 rfl ?_
  refine dx_if_eq 192 dMM_tick_129 (by decide) (fun q => ?_) (fun q => ?_)
  · have h := h.1 q
    refine dx_goto 33 dMM_tick_192 (by decide) ?_
    exact dx_less (L' := [some (.inr 0), none, some (.inl v2), none, none]) ⟨rfl, rfl, trivial⟩ h
  · have h := h.2 q
    refine dx_aload_n dMM_tick_132 rfl ?_
    refine dx_dup dMM_tick_133 ?_
    refine dx_geti dMM_tick_134 flMM_122 rfl rfl ?_
    refine dx_iconst (v := 1) dMM_tick_137 (by decide) ?_
    refine dx_isub dMM_tick_138 ?_
    refine dx_put dMM_tick_139 fpMM_122 rfl rfl (Or.inl rfl) ?_
    refine dx_iload_n dMM_tick_142 rfl ?_
    refine dx_istore (L' := [some (.inr 0), none, some (.inl v2), some (.inl v3), some (.inl v3)]) dMM_tick_143 (Nat.le_of_ble_eq_true rfl) rfl ?_
    exact dx_less (L' := [some (.inr 0), none, some (.inl v2), none, some (.inl v3)]) ⟨rfl, rfl, rfl, trivial⟩ h
set_option maxRecDepth 100000 in
set_option maxHeartbeats 4000000 in
theorem r_MM_tick_145 {E : dx_E} {d : Nat} {po : dx_P} {v2 v4 : Int32} {σ : dx_V} (h : ((σ 0 27) ≤ v4 → g_MM_tick_33 E (d + 1) po v2 σ) ∧ (¬ (σ 0 27) ≤ v4 → vp_in (v4 + 1) 12 ∧ (vp_in v4 12 ∧ (vp_in (v4 + 1) 12 ∧ (vp_in v4 12 ∧ (g_MM_tick_145 E (d + 1) po v2 (v4 + 1) (dx_u (dx_u σ 20 v4.toNatClampNeg (σ 20 (v4 + 1).toNatClampNeg)) 21 v4.toNatClampNeg (σ 21 (v4 + 1).toNatClampNeg)))))))) : g_MM_tick_145 E (d + 1) po v2 v4 σ := by
  show dx_G tM E (d + 1) RMM cMM_tick 5 (some .int) po 145 [some (.inr 0), none, some (.inl v2), none, some (.inl v4)] [] σ
  refine dx_iload dMM_tick_145 rfl ?_
  refine dx_aload_n dMM_tick_147 rfl ?_
  refine dx_geti dMM_tick_148 flMM_122 rfl rfl ?_
  refine dx_icmp_ge 192 dMM_tick_151 (by decide) (fun q => ?_) (fun q => ?_)
  · have h := h.1 q
    refine dx_goto 33 dMM_tick_192 (by decide) ?_
    exact dx_less (L' := [some (.inr 0), none, some (.inl v2), none, none]) ⟨rfl, rfl, trivial⟩ h
  · have h := h.2 q
    refine dx_aload_n dMM_tick_154 rfl ?_
    refine dx_getr dMM_tick_155 flMM_68 rfl rfl ?_
    refine dx_iload dMM_tick_158 rfl ?_
    refine dx_aload_n dMM_tick_160 rfl ?_
    refine dx_getr dMM_tick_161 flMM_68 rfl rfl ?_
    refine dx_iload dMM_tick_164 rfl ?_
    refine dx_iconst (v := 1) dMM_tick_166 (by decide) ?_
    refine dx_iadd dMM_tick_167 ?_
    obtain ⟨hi, h⟩ := h
    refine dx_iaload dMM_tick_168 rfl hi ?_
    obtain ⟨hi, h⟩ := h
    refine dx_iastore dMM_tick_169 rfl hi ?_
    refine dx_aload_n dMM_tick_170 rfl ?_
    refine dx_getr dMM_tick_171 flMM_71 rfl rfl ?_
    refine dx_iload dMM_tick_174 rfl ?_
    refine dx_aload_n dMM_tick_176 rfl ?_
    refine dx_getr dMM_tick_177 flMM_71 rfl rfl ?_
    refine dx_iload dMM_tick_180 rfl ?_
    refine dx_iconst (v := 1) dMM_tick_182 (by decide) ?_
    refine dx_iadd dMM_tick_183 ?_
    obtain ⟨hi, h⟩ := h
    refine dx_iaload dMM_tick_184 rfl hi ?_
    obtain ⟨hi, h⟩ := h
    refine dx_iastore dMM_tick_185 rfl hi ?_
    refine dx_iinc (v := v4 + 1) (L' := [some (.inr 0), none, some (.inl v2), none, some (.inl (v4 + 1))]) dMM_tick_186 rfl rfl rfl ?_
    refine dx_goto 145 dMM_tick_189 (by decide) ?_
    exact dx_less (L' := [some (.inr 0), none, some (.inl v2), none, some (.inl (v4 + 1))]) ⟨rfl, rfl, rfl, trivial⟩ h
set_option maxRecDepth 100000 in
set_option maxHeartbeats 4000000 in
theorem r_MM_reset {E : dx_E} {d : Nat} {σ : dx_V} {po : dx_P} (h : po none (dx_u σ 0 17 0)) : m_MM_reset E d σ po := by
  refine dx_entry (by decide) (Nat.le_of_ble_eq_true rfl) ?_
  show dx_G tM E d RMM cMM_reset 1 none po 0 [some (.inr 0)] [] σ
  refine dx_aload_n dMM_reset_0 rfl ?_
  refine dx_iconst (v := 0) dMM_reset_1 (by decide) ?_
  refine dx_put dMM_reset_2 fpMM_97 rfl rfl (Or.inl rfl) ?_
  exact dx_vret dMM_reset_5 rfl h
set_option maxRecDepth 100000 in
set_option maxHeartbeats 4000000 in
theorem r_MM_outcome {E : dx_E} {d : Nat} {σ : dx_V} {po : dx_P} (h : po (some (σ 0 17)) σ) : m_MM_outcome E d σ po := by
  refine dx_entry (by decide) (Nat.le_of_ble_eq_true rfl) ?_
  show dx_G tM E d RMM cMM_outcome 1 (some .int) po 0 [some (.inr 0)] [] σ
  refine dx_aload_n dMM_outcome_0 rfl ?_
  refine dx_geti dMM_outcome_1 flMM_97 rfl rfl ?_
  exact dx_ret dMM_outcome_4 rfl rfl h
def g_MM_active_4 (E : dx_E) (d : Nat) (po : dx_P) (v1 v2 : Int32) (σ : dx_V) : Prop := dx_G tM E d RMM cMM_active 3 (some .int) po 4 [some (.inr 0), some (.inl v1), some (.inl v2)] [] σ
set_option maxRecDepth 100000 in
set_option maxHeartbeats 4000000 in
theorem r_MM_active {E : dx_E} {d : Nat} {σ : dx_V} {po : dx_P} (h : g_MM_active_4 E d po 0 1 σ) : m_MM_active E d σ po := by
  refine dx_entry (by decide) (Nat.le_of_ble_eq_true rfl) ?_
  show dx_G tM E d RMM cMM_active 3 (some .int) po 0 [some (.inr 0), none, none] [] σ
  refine dx_iconst (v := 0) dMM_active_0 (by decide) ?_
  refine dx_istore_n (L' := [some (.inr 0), some (.inl 0), none]) dMM_active_1 (Nat.le_of_ble_eq_true rfl) rfl ?_
  refine dx_iconst (v := 1) dMM_active_2 (by decide) ?_
  refine dx_istore_n (L' := [some (.inr 0), some (.inl 0), some (.inl 1)]) dMM_active_3 (Nat.le_of_ble_eq_true rfl) rfl ?_
  exact dx_less (L' := [some (.inr 0), some (.inl 0), some (.inl 1)]) ⟨rfl, rfl, rfl, trivial⟩ h
set_option maxRecDepth 100000 in
set_option maxHeartbeats 4000000 in
theorem r_MM_active_4 {E : dx_E} {d : Nat} {po : dx_P} {v1 v2 : Int32} {σ : dx_V} (h : ((σ 0 0) < v2 → po (some v1) σ) ∧ (¬ (σ 0 0) < v2 → ((σ 0 17) = 0 → po (some v1) σ) ∧ (¬ (σ 0 17) = 0 → vp_in v2 16 ∧ (((σ 15 v2.toNatClampNeg) = 0 → g_MM_active_4 E d po (v1 ||| 0) (v2 + 1) σ) ∧ (¬ (σ 15 v2.toNatClampNeg) = 0 → g_MM_active_4 E d po (v1 ||| (1 <<< (v2 &&& 31))) (v2 + 1) σ))))) : g_MM_active_4 E d po v1 v2 σ := by
  show dx_G tM E d RMM cMM_active 3 (some .int) po 4 [some (.inr 0), some (.inl v1), some (.inl v2)] [] σ
  refine dx_iload_n dMM_active_4 rfl ?_
  refine dx_aload_n dMM_active_5 rfl ?_
  refine dx_geti dMM_active_6 flMM_89 rfl rfl ?_
  refine dx_icmp_gt 44 dMM_active_9 (by decide) (fun q => ?_) (fun q => ?_)
  · have h := h.1 q
    refine dx_iload_n dMM_active_44 rfl ?_
    exact dx_ret dMM_active_45 rfl rfl h
  · have h := h.2 q
    refine dx_aload_n dMM_active_12 rfl ?_
    refine dx_geti dMM_active_13 flMM_97 rfl rfl ?_
    refine dx_if_eq 44 dMM_active_16 (by decide) (fun q => ?_) (fun q => ?_)
    · have h := h.1 q
      refine dx_iload_n dMM_active_44 rfl ?_
      exact dx_ret dMM_active_45 rfl rfl h
    · have h := h.2 q
      refine dx_iload_n dMM_active_19 rfl ?_
      refine dx_aload_n dMM_active_20 rfl ?_
      refine dx_getr dMM_active_21 flMM_53 rfl rfl ?_
      refine dx_iload_n dMM_active_24 rfl ?_
      obtain ⟨hi, h⟩ := h
      refine dx_baload dMM_active_25 rfl hi ?_
      refine dx_if_eq 35 dMM_active_26 (by decide) (fun q => ?_) (fun q => ?_)
      · have h := h.1 q
        refine dx_iconst (v := 0) dMM_active_35 (by decide) ?_
        refine dx_ior dMM_active_36 ?_
        refine dx_istore_n (L' := [some (.inr 0), some (.inl (v1 ||| 0)), some (.inl v2)]) dMM_active_37 (Nat.le_of_ble_eq_true rfl) rfl ?_
        refine dx_iinc (v := v2 + 1) (L' := [some (.inr 0), some (.inl (v1 ||| 0)), some (.inl (v2 + 1))]) dMM_active_38 rfl rfl rfl ?_
        refine dx_goto 4 dMM_active_41 (by decide) ?_
        exact dx_less (L' := [some (.inr 0), some (.inl (v1 ||| 0)), some (.inl (v2 + 1))]) ⟨rfl, rfl, rfl, trivial⟩ h
      · have h := h.2 q
        refine dx_iconst (v := 1) dMM_active_29 (by decide) ?_
        refine dx_iload_n dMM_active_30 rfl ?_
        refine dx_ishl dMM_active_31 ?_
        refine dx_goto 36 dMM_active_32 (by decide) ?_
        refine dx_ior dMM_active_36 ?_
        refine dx_istore_n (L' := [some (.inr 0), some (.inl (v1 ||| (1 <<< (v2 &&& 31)))), some (.inl v2)]) dMM_active_37 (Nat.le_of_ble_eq_true rfl) rfl ?_
        refine dx_iinc (v := v2 + 1) (L' := [some (.inr 0), some (.inl (v1 ||| (1 <<< (v2 &&& 31)))), some (.inl (v2 + 1))]) dMM_active_38 rfl rfl rfl ?_
        refine dx_goto 4 dMM_active_41 (by decide) ?_
        exact dx_less (L' := [some (.inr 0), some (.inl (v1 ||| (1 <<< (v2 &&& 31)))), some (.inl (v2 + 1))]) ⟨rfl, rfl, rfl, trivial⟩ h
set_option maxRecDepth 100000 in
set_option maxHeartbeats 4000000 in
theorem r_MM_remembered {E : dx_E} {d : Nat} {a1 : Int32} {σ : dx_V} {po : dx_P} (h : ((σ 0 17) = 0 → po (some 0) σ) ∧ (¬ (σ 0 17) = 0 → (a1 < 1 → po (some 0) σ) ∧ (¬ a1 < 1 → ((σ 0 0) < a1 → po (some 0) σ) ∧ (¬ (σ 0 0) < a1 → vp_in a1 16 ∧ (po (some (σ 16 a1.toNatClampNeg)) σ))))) : m_MM_remembered E d a1 σ po := by
  refine dx_entry (by decide) (Nat.le_of_ble_eq_true rfl) ?_
  show dx_G tM E d RMM cMM_remembered 2 (some .int) po 0 [some (.inr 0), some (.inl a1)] [] σ
  refine dx_aload_n dMM_remembered_0 rfl ?_
  refine dx_geti dMM_remembered_1 flMM_97 rfl rfl ?_
  refine dx_if_eq 29 dMM_remembered_4 (by decide) (fun q => ?_) (fun q => ?_)
  · have h := h.1 q
    refine dx_iconst (v := 0) dMM_remembered_29 (by decide) ?_
    exact dx_ret dMM_remembered_30 rfl rfl h
  · have h := h.2 q
    refine dx_iload_n dMM_remembered_7 rfl ?_
    refine dx_iconst (v := 1) dMM_remembered_8 (by decide) ?_
    refine dx_icmp_lt 29 dMM_remembered_9 (by decide) (fun q => ?_) (fun q => ?_)
    · have h := h.1 q
      refine dx_iconst (v := 0) dMM_remembered_29 (by decide) ?_
      exact dx_ret dMM_remembered_30 rfl rfl h
    · have h := h.2 q
      refine dx_iload_n dMM_remembered_12 rfl ?_
      refine dx_aload_n dMM_remembered_13 rfl ?_
      refine dx_geti dMM_remembered_14 flMM_89 rfl rfl ?_
      refine dx_icmp_gt 29 dMM_remembered_17 (by decide) (fun q => ?_) (fun q => ?_)
      · have h := h.1 q
        refine dx_iconst (v := 0) dMM_remembered_29 (by decide) ?_
        exact dx_ret dMM_remembered_30 rfl rfl h
      · have h := h.2 q
        refine dx_aload_n dMM_remembered_20 rfl ?_
        refine dx_getr dMM_remembered_21 flMM_56 rfl rfl ?_
        refine dx_iload_n dMM_remembered_24 rfl ?_
        obtain ⟨hi, h⟩ := h
        refine dx_iaload dMM_remembered_25 rfl hi ?_
        refine dx_goto 30 dMM_remembered_26 (by decide) ?_
        exact dx_ret dMM_remembered_30 rfl rfl h
