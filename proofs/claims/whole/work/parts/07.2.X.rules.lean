def g_RU_chooseNext_21 (E : dx_E) (d : Nat) (po : dx_P) (v1 : Int32) (σ : dx_V) : Prop := dx_G tX E d RRU cRU_chooseNext 2 (some .boolean) po 21 [some (.inr 4), some (.inl v1)] [] σ
set_option maxRecDepth 100000 in
set_option maxHeartbeats 4000000 in
theorem r_RU_chooseNext {E : dx_E} {d : Nat} {σ : dx_V} {po : dx_P} (h : dx_ci (m_SE_chooseFor E d 0 σ) (fun x2 σ1 => (x2 = 0 → g_RU_chooseNext_21 E (d + 1) po (σ1 7 1) σ1) ∧ (¬ x2 = 0 → po (some 1) σ1))) : m_RU_chooseNext E (d + 1) σ po := by
  refine dx_entry (by decide) (Nat.le_of_ble_eq_true rfl) ?_
  show dx_G tX E (d + 1) RRU cRU_chooseNext 2 (some .boolean) po 0 [some (.inr 4), none] [] σ
  refine dx_aload_n dRU_chooseNext_0 rfl ?_
  refine dx_getr dRU_chooseNext_1 flRU_65 rfl rfl ?_
  refine dx_iconst (v := 0) dRU_chooseNext_4 (by decide) ?_
  obtain ⟨pp, hm, hk⟩ := h
  refine dx_callvi [.inl 0] [] dRU_chooseNext_5 cvRU_111 rfl (Nat.le_of_ble_eq_true rfl) rfl hm (fun x2 σ1 hp => ?_)
  have h := hk x2 σ1 hp
  refine dx_if_eq 13 dRU_chooseNext_8 (by decide) (fun q => ?_) (fun q => ?_)
  · have h := h.1 q
    refine dx_aload_n dRU_chooseNext_13 rfl ?_
    refine dx_getr dRU_chooseNext_14 flRU_23 rfl rfl ?_
    refine dx_geti dRU_chooseNext_17 flRU_125 rfl rfl ?_
    refine dx_istore_n (L' := [some (.inr 4), some (.inl (σ1 7 1))]) dRU_chooseNext_20 (Nat.le_of_ble_eq_true rfl) rfl ?_
    exact dx_less (L' := [some (.inr 4), some (.inl (σ1 7 1))]) ⟨rfl, rfl, trivial⟩ h
  · have h := h.2 q
    refine dx_iconst (v := 1) dRU_chooseNext_11 (by decide) ?_
    exact dx_ret dRU_chooseNext_12 rfl rfl h
set_option maxRecDepth 100000 in
set_option maxHeartbeats 4000000 in
theorem r_RU_chooseNext_21 {E : dx_E} {d : Nat} {po : dx_P} {v1 : Int32} {σ : dx_V} (h : (v1 ≤ 0 → po (some 0) σ) ∧ (¬ v1 ≤ 0 → dx_ci (m_LN_takeFirst_7 E d σ) (fun x2 σ1 => dx_ci (m_SE_chooseFor E d x2 σ1) (fun x4 σ3 => (x4 = 0 → g_RU_chooseNext_21 E (d + 1) po (v1 + (-1)) σ3) ∧ (¬ x4 = 0 → po (some 1) σ3))))) : g_RU_chooseNext_21 E (d + 1) po v1 σ := by
  show dx_G tX E (d + 1) RRU cRU_chooseNext 2 (some .boolean) po 21 [some (.inr 4), some (.inl v1)] [] σ
  refine dx_iload_n dRU_chooseNext_21 rfl ?_
  refine dx_if_le 50 dRU_chooseNext_22 (by decide) (fun q => ?_) (fun q => ?_)
  · have h := h.1 q
    refine dx_iconst (v := 0) dRU_chooseNext_50 (by decide) ?_
    exact dx_ret dRU_chooseNext_51 rfl rfl h
  · have h := h.2 q
    refine dx_aload_n dRU_chooseNext_25 rfl ?_
    refine dx_getr dRU_chooseNext_26 flRU_65 rfl rfl ?_
    refine dx_aload_n dRU_chooseNext_29 rfl ?_
    refine dx_getr dRU_chooseNext_30 flRU_23 rfl rfl ?_
    obtain ⟨pp, hm, hk⟩ := h
    refine dx_callvi [] [.inr 6] dRU_chooseNext_33 cvRU_107 rfl (Nat.le_of_ble_eq_true rfl) rfl hm (fun x2 σ1 hp => ?_)
    have h := hk x2 σ1 hp
    obtain ⟨pp, hm, hk⟩ := h
    refine dx_callvi [.inl x2] [] dRU_chooseNext_36 cvRU_111 rfl (Nat.le_of_ble_eq_true rfl) rfl hm (fun x4 σ3 hp => ?_)
    have h := hk x4 σ3 hp
    refine dx_if_eq 44 dRU_chooseNext_39 (by decide) (fun q => ?_) (fun q => ?_)
    · have h := h.1 q
      refine dx_iinc (v := v1 + (-1)) (L' := [some (.inr 4), some (.inl (v1 + (-1)))]) dRU_chooseNext_44 rfl rfl rfl ?_
      refine dx_goto 21 dRU_chooseNext_47 (by decide) ?_
      exact dx_less (L' := [some (.inr 4), some (.inl (v1 + (-1)))]) ⟨rfl, rfl, trivial⟩ h
    · have h := h.2 q
      refine dx_iconst (v := 1) dRU_chooseNext_42 (by decide) ?_
      exact dx_ret dRU_chooseNext_43 rfl rfl h
set_option maxRecDepth 100000 in
set_option maxHeartbeats 4000000 in
theorem r_RU_microstep {E : dx_E} {d : Nat} {σ : dx_V} {po : dx_P} (h : (¬ (σ 4 11) = 30 → dx_ci (m_SE_allExits E d (dx_u σ 4 11 ((σ 4 11) + 1))) (fun x2 σ1 => dx_cu (m_RU_rememberBefore E d x2 σ1) (fun σ3 => dx_cu (m_RU_leave E d x2 σ3) (fun σ4 => dx_cu (m_RU_takeTransitions E d σ4) (fun σ5 => dx_ci (m_RU_entrySet E d σ5) (fun x7 σ6 => dx_cu (m_RU_enter E d x7 σ6) (fun σ8 => dx_cu (m_RU_finishIfEnded E d σ8) (fun σ9 => po none σ9)))))))) ∧ ((σ 4 11) = 30 → po none (dx_u σ 4 12 3))) : m_RU_microstep E (d + 1) σ po := by
  refine dx_entry (by decide) (Nat.le_of_ble_eq_true rfl) ?_
  show dx_G tX E (d + 1) RRU cRU_microstep 2 none po 0 [some (.inr 4), none] [] σ
  refine dx_aload_n dRU_microstep_0 rfl ?_
  refine dx_geti dRU_microstep_1 flRU_85 rfl rfl ?_
  refine dx_bipush (v := 30) dRU_microstep_4 (by decide) ?_
  refine dx_icmp_ne 15 dRU_microstep_6 (by decide) (fun q => ?_) (fun q => ?_)
  · have h := h.1 q
    refine dx_aload_n dRU_microstep_15 rfl ?_
    refine dx_dup dRU_microstep_16 ?_
    refine dx_geti dRU_microstep_17 flRU_85 rfl rfl ?_
    refine dx_iconst (v := 1) dRU_microstep_20 (by decide) ?_
    refine dx_iadd dRU_microstep_21 ?_
    refine dx_put dRU_microstep_22 fpRU_85 rfl rfl (Or.inl rfl) ?_
    refine dx_aload_n dRU_microstep_25 rfl ?_
    refine dx_getr dRU_microstep_26 flRU_65 rfl rfl ?_
    obtain ⟨pp, hm, hk⟩ := h
    refine dx_callvi [] [] dRU_microstep_29 cvRU_126 rfl (Nat.le_of_ble_eq_true rfl) rfl hm (fun x2 σ1 hp => ?_)
    have h := hk x2 σ1 hp
    refine dx_istore_n (L' := [some (.inr 4), some (.inl x2)]) dRU_microstep_32 (Nat.le_of_ble_eq_true rfl) rfl ?_
    refine dx_aload_n dRU_microstep_33 rfl ?_
    refine dx_iload_n dRU_microstep_34 rfl ?_
    obtain ⟨pp, hm, hk⟩ := h
    refine dx_callvv [.inl x2] [] dRU_microstep_35 cvRU_129 rfl (Nat.le_of_ble_eq_true rfl) rfl hm (fun σ3 hp => ?_)
    have h := hk σ3 hp
    refine dx_aload_n dRU_microstep_38 rfl ?_
    refine dx_iload_n dRU_microstep_39 rfl ?_
    obtain ⟨pp, hm, hk⟩ := h
    refine dx_callvv [.inl x2] [] dRU_microstep_40 cvRU_132 rfl (Nat.le_of_ble_eq_true rfl) rfl hm (fun σ4 hp => ?_)
    have h := hk σ4 hp
    refine dx_aload_n dRU_microstep_43 rfl ?_
    obtain ⟨pp, hm, hk⟩ := h
    refine dx_callvv [] [] dRU_microstep_44 cvRU_135 rfl (Nat.le_of_ble_eq_true rfl) rfl hm (fun σ5 hp => ?_)
    have h := hk σ5 hp
    refine dx_aload_n dRU_microstep_47 rfl ?_
    refine dx_aload_n dRU_microstep_48 rfl ?_
    obtain ⟨pp, hm, hk⟩ := h
    refine dx_callvi [] [.inr 4] dRU_microstep_49 cvRU_138 rfl (Nat.le_of_ble_eq_true rfl) rfl hm (fun x7 σ6 hp => ?_)
    have h := hk x7 σ6 hp
    obtain ⟨pp, hm, hk⟩ := h
    refine dx_callvv [.inl x7] [] dRU_microstep_52 cvRU_101 rfl (Nat.le_of_ble_eq_true rfl) rfl hm (fun σ8 hp => ?_)
    have h := hk σ8 hp
    refine dx_aload_n dRU_microstep_55 rfl ?_
    obtain ⟨pp, hm, hk⟩ := h
    refine dx_callvv [] [] dRU_microstep_56 cvRU_104 rfl (Nat.le_of_ble_eq_true rfl) rfl hm (fun σ9 hp => ?_)
    have h := hk σ9 hp
    exact dx_vret dRU_microstep_59 rfl h
  · have h := h.2 q
    refine dx_aload_n dRU_microstep_9 rfl ?_
    refine dx_iconst (v := 3) dRU_microstep_10 (by decide) ?_
    refine dx_put dRU_microstep_11 fpRU_44 rfl rfl (Or.inl rfl) ?_
    exact dx_vret dRU_microstep_14 rfl h
set_option maxRecDepth 100000 in
set_option maxHeartbeats 4000000 in
theorem r_RU_finishIfEnded {E : dx_E} {d : Nat} {σ : dx_V} {po : dx_P} (h : dx_ci (m_RU_isGoingOn E d σ) (fun x2 σ1 => (x2 = 0 → po none σ1) ∧ (¬ x2 = 0 → ((σ1 4 13) = 0 → po none σ1) ∧ (¬ (σ1 4 13) = 0 → po none (dx_u σ1 4 12 2))))) : m_RU_finishIfEnded E (d + 1) σ po := by
  refine dx_entry (by decide) (Nat.le_of_ble_eq_true rfl) ?_
  show dx_G tX E (d + 1) RRU cRU_finishIfEnded 1 none po 0 [some (.inr 4)] [] σ
  refine dx_aload_n dRU_finishIfEnded_0 rfl ?_
  obtain ⟨pp, hm, hk⟩ := h
  refine dx_callvi [] [] dRU_finishIfEnded_1 cvRU_118 rfl (Nat.le_of_ble_eq_true rfl) rfl hm (fun x2 σ1 hp => ?_)
  have h := hk x2 σ1 hp
  refine dx_if_eq 19 dRU_finishIfEnded_4 (by decide) (fun q => ?_) (fun q => ?_)
  · have h := h.1 q
    exact dx_vret dRU_finishIfEnded_19 rfl h
  · have h := h.2 q
    refine dx_aload_n dRU_finishIfEnded_7 rfl ?_
    refine dx_geti dRU_finishIfEnded_8 flRU_88 rfl rfl ?_
    refine dx_if_eq 19 dRU_finishIfEnded_11 (by decide) (fun q => ?_) (fun q => ?_)
    · have h := h.1 q
      exact dx_vret dRU_finishIfEnded_19 rfl h
    · have h := h.2 q
      refine dx_aload_n dRU_finishIfEnded_14 rfl ?_
      refine dx_iconst (v := 2) dRU_finishIfEnded_15 (by decide) ?_
      refine dx_put dRU_finishIfEnded_16 fpRU_44 rfl rfl (Or.inl rfl) ?_
      exact dx_vret dRU_finishIfEnded_19 rfl h
def g_RU_rememberBefore_2 (E : dx_E) (d : Nat) (po : dx_P) (v1 v2 : Int32) (σ : dx_V) : Prop := dx_G tX E d RRU cRU_rememberBefore 4 none po 2 [some (.inr 4), some (.inl v1), some (.inl v2), none] [] σ
set_option maxRecDepth 100000 in
set_option maxHeartbeats 4000000 in
theorem r_RU_rememberBefore {E : dx_E} {d : Nat} {a1 : Int32} {σ : dx_V} {po : dx_P} (h : g_RU_rememberBefore_2 E (d + 1) po a1 1 σ) : m_RU_rememberBefore E (d + 1) a1 σ po := by
  refine dx_entry (by decide) (Nat.le_of_ble_eq_true rfl) ?_
  show dx_G tX E (d + 1) RRU cRU_rememberBefore 4 none po 0 [some (.inr 4), some (.inl a1), none, none] [] σ
  refine dx_iconst (v := 1) dRU_rememberBefore_0 (by decide) ?_
  refine dx_istore_n (L' := [some (.inr 4), some (.inl a1), some (.inl 1), none]) dRU_rememberBefore_1 (Nat.le_of_ble_eq_true rfl) rfl ?_
  exact dx_less (L' := [some (.inr 4), some (.inl a1), some (.inl 1), none]) ⟨rfl, rfl, rfl, trivial⟩ h
set_option maxRecDepth 100000 in
set_option maxHeartbeats 4000000 in
theorem r_RU_rememberBefore_2 {E : dx_E} {d : Nat} {po : dx_P} {v1 v2 : Int32} {σ : dx_V} (h : ((σ 1 6) < v2 → po none σ) ∧ (¬ (σ 1 6) < v2 → dx_ci (m_ST_isHistory E d v2 σ) (fun x2 σ1 => (x2 = 0 → g_RU_rememberBefore_2 E (d + 1) po v1 (v2 + 1) σ1) ∧ (¬ x2 = 0 → vp_in v2 16 ∧ (dx_ci (m_MC_isIn E d (σ1 12 v2.toNatClampNeg) v1 σ1) (fun x4 σ3 => (¬ x4 = 0 → vp_in v2 16 ∧ (vp_in v2 16 ∧ ((¬ (σ3 11 v2.toNatClampNeg) = 4 → vp_in (σ3 12 v2.toNatClampNeg) 16 ∧ (dx_ci (m_ST_atomicAmong E d ((σ3 5 1) &&& (σ3 16 (σ3 12 v2.toNatClampNeg).toNatClampNeg)) σ3) (fun x6 σ5 => vp_in v2 16 ∧ (g_RU_rememberBefore_2 E (d + 1) po v1 (v2 + 1) (dx_u σ5 28 v2.toNatClampNeg x6))))) ∧ ((σ3 11 v2.toNatClampNeg) = 4 → vp_in (σ3 12 v2.toNatClampNeg) 16 ∧ (vp_in v2 16 ∧ (g_RU_rememberBefore_2 E (d + 1) po v1 (v2 + 1) (dx_u σ3 28 v2.toNatClampNeg ((σ3 5 1) &&& (σ3 14 (σ3 12 v2.toNatClampNeg).toNatClampNeg))))))))) ∧ (x4 = 0 → g_RU_rememberBefore_2 E (d + 1) po v1 (v2 + 1) σ3))))))) : g_RU_rememberBefore_2 E (d + 1) po v1 v2 σ := by
  show dx_G tX E (d + 1) RRU cRU_rememberBefore 4 none po 2 [some (.inr 4), some (.inl v1), some (.inl v2), none] [] σ
  refine dx_iload_n dRU_rememberBefore_2 rfl ?_
  refine dx_aload_n dRU_rememberBefore_3 rfl ?_
  refine dx_getr dRU_rememberBefore_4 flRU_48 rfl rfl ?_
  refine dx_geti dRU_rememberBefore_7 flRU_141 rfl rfl ?_
  refine dx_icmp_gt 128 dRU_rememberBefore_10 (by decide) (fun q => ?_) (fun q => ?_)
  · have h := h.1 q
    exact dx_vret dRU_rememberBefore_128 rfl h
  · have h := h.2 q
    refine dx_aload_n dRU_rememberBefore_13 rfl ?_
    refine dx_getr dRU_rememberBefore_14 flRU_48 rfl rfl ?_
    refine dx_iload_n dRU_rememberBefore_17 rfl ?_
    obtain ⟨pp, hm, hk⟩ := h
    refine dx_callvi [.inl v2] [] dRU_rememberBefore_18 cvRU_142 rfl (Nat.le_of_ble_eq_true rfl) rfl hm (fun x2 σ1 hp => ?_)
    have h := hk x2 σ1 hp
    refine dx_if_eq 122 dRU_rememberBefore_21 (by decide) (fun q => ?_) (fun q => ?_)
    · have h := h.1 q
      refine dx_iinc (v := v2 + 1) (L' := [some (.inr 4), some (.inl v1), some (.inl (v2 + 1)), none]) dRU_rememberBefore_122 rfl rfl rfl ?_
      refine dx_goto 2 dRU_rememberBefore_125 (by decide) ?_
      exact dx_less (L' := [some (.inr 4), some (.inl v1), some (.inl (v2 + 1)), none]) ⟨rfl, rfl, rfl, trivial⟩ h
    · have h := h.2 q
      refine dx_aload_n dRU_rememberBefore_24 rfl ?_
      refine dx_getr dRU_rememberBefore_25 flRU_48 rfl rfl ?_
      refine dx_getr dRU_rememberBefore_28 flRU_145 rfl rfl ?_
      refine dx_iload_n dRU_rememberBefore_31 rfl ?_
      obtain ⟨hi, h⟩ := h
      refine dx_iaload dRU_rememberBefore_32 rfl hi ?_
      refine dx_iload_n dRU_rememberBefore_33 rfl ?_
      obtain ⟨pp, hm, hk⟩ := h
      refine dx_callsi [.inl (σ1 12 v2.toNatClampNeg), .inl v1] [] dRU_rememberBefore_34 csRU_148 (Nat.le_of_ble_eq_true rfl) rfl hm (fun x4 σ3 hp => ?_)
      have h := hk x4 σ3 hp
      refine dx_if_ne 43 dRU_rememberBefore_37 (by decide) (fun q => ?_) (fun q => ?_)
      · have h := h.1 q
        refine dx_aload_n dRU_rememberBefore_43 rfl ?_
        refine dx_getr dRU_rememberBefore_44 flRU_48 rfl rfl ?_
        refine dx_getr dRU_rememberBefore_47 flRU_145 rfl rfl ?_
        refine dx_iload_n dRU_rememberBefore_50 rfl ?_
        obtain ⟨hi, h⟩ := h
        refine dx_iaload dRU_rememberBefore_51 rfl hi ?_
        refine dx_istore_n (L' := [some (.inr 4), some (.inl v1), some (.inl v2), some (.inl (σ3 12 v2.toNatClampNeg))]) dRU_rememberBefore_52 (Nat.le_of_ble_eq_true rfl) rfl ?_
        refine dx_aload_n dRU_rememberBefore_53 rfl ?_
        refine dx_getr dRU_rememberBefore_54 flRU_48 rfl rfl ?_
        refine dx_getr dRU_rememberBefore_57 flRU_152 rfl rfl ?_
        refine dx_iload_n dRU_rememberBefore_60 rfl ?_
        obtain ⟨hi, h⟩ := h
        refine dx_iaload dRU_rememberBefore_61 rfl hi ?_
        refine dx_iconst (v := 4) dRU_rememberBefore_62 (by decide) ?_
        refine dx_icmp_ne 92 dRU_rememberBefore_63 (by decide) (fun q => ?_) (fun q => ?_)
        · have h := h.1 q
          refine dx_aload_n dRU_rememberBefore_92 rfl ?_
          refine dx_getr dRU_rememberBefore_93 flRU_40 rfl rfl ?_
          refine dx_iload_n dRU_rememberBefore_96 rfl ?_
          refine dx_aload_n dRU_rememberBefore_97 rfl ?_
          refine dx_getr dRU_rememberBefore_98 flRU_48 rfl rfl ?_
          refine dx_aload_n dRU_rememberBefore_101 rfl ?_
          refine dx_getr dRU_rememberBefore_102 flRU_12 rfl rfl ?_
          refine dx_geti dRU_rememberBefore_105 flRU_155 rfl rfl ?_
          refine dx_aload_n dRU_rememberBefore_108 rfl ?_
          refine dx_getr dRU_rememberBefore_109 flRU_48 rfl rfl ?_
          refine dx_getr dRU_rememberBefore_112 flRU_161 rfl rfl ?_
          refine dx_iload_n dRU_rememberBefore_115 rfl ?_
          obtain ⟨hi, h⟩ := h
          refine dx_iaload dRU_rememberBefore_116 rfl hi ?_
          refine dx_iand dRU_rememberBefore_117 ?_
          obtain ⟨pp, hm, hk⟩ := h
          refine dx_callvi [.inl ((σ3 5 1) &&& (σ3 16 (σ3 12 v2.toNatClampNeg).toNatClampNeg))] [.inl v2, .inr 28] dRU_rememberBefore_118 cvRU_164 rfl (Nat.le_of_ble_eq_true rfl) rfl hm (fun x6 σ5 hp => ?_)
          have h := hk x6 σ5 hp
          obtain ⟨hi, h⟩ := h
          refine dx_iastore dRU_rememberBefore_121 rfl hi ?_
          refine dx_iinc (v := v2 + 1) (L' := [some (.inr 4), some (.inl v1), some (.inl (v2 + 1)), some (.inl (σ3 12 v2.toNatClampNeg))]) dRU_rememberBefore_122 rfl rfl rfl ?_
          refine dx_goto 2 dRU_rememberBefore_125 (by decide) ?_
          exact dx_less (L' := [some (.inr 4), some (.inl v1), some (.inl (v2 + 1)), none]) ⟨rfl, rfl, rfl, trivial⟩ h
        · have h := h.2 q
          refine dx_aload_n dRU_rememberBefore_66 rfl ?_
          refine dx_getr dRU_rememberBefore_67 flRU_40 rfl rfl ?_
          refine dx_iload_n dRU_rememberBefore_70 rfl ?_
          refine dx_aload_n dRU_rememberBefore_71 rfl ?_
          refine dx_getr dRU_rememberBefore_72 flRU_12 rfl rfl ?_
          refine dx_geti dRU_rememberBefore_75 flRU_155 rfl rfl ?_
          refine dx_aload_n dRU_rememberBefore_78 rfl ?_
          refine dx_getr dRU_rememberBefore_79 flRU_48 rfl rfl ?_
          refine dx_getr dRU_rememberBefore_82 flRU_158 rfl rfl ?_
          refine dx_iload_n dRU_rememberBefore_85 rfl ?_
          obtain ⟨hi, h⟩ := h
          refine dx_iaload dRU_rememberBefore_86 rfl hi ?_
          refine dx_iand dRU_rememberBefore_87 ?_
          obtain ⟨hi, h⟩ := h
          refine dx_iastore dRU_rememberBefore_88 rfl hi ?_
          refine dx_goto 122 dRU_rememberBefore_89 (by decide) ?_
          refine dx_iinc (v := v2 + 1) (L' := [some (.inr 4), some (.inl v1), some (.inl (v2 + 1)), some (.inl (σ3 12 v2.toNatClampNeg))]) dRU_rememberBefore_122 rfl rfl rfl ?_
          refine dx_goto 2 dRU_rememberBefore_125 (by decide) ?_
          exact dx_less (L' := [some (.inr 4), some (.inl v1), some (.inl (v2 + 1)), none]) ⟨rfl, rfl, rfl, trivial⟩ h
      · have h := h.2 q
        refine dx_goto 122 dRU_rememberBefore_40 (by decide) ?_
        refine dx_iinc (v := v2 + 1) (L' := [some (.inr 4), some (.inl v1), some (.inl (v2 + 1)), none]) dRU_rememberBefore_122 rfl rfl rfl ?_
        refine dx_goto 2 dRU_rememberBefore_125 (by decide) ?_
        exact dx_less (L' := [some (.inr 4), some (.inl v1), some (.inl (v2 + 1)), none]) ⟨rfl, rfl, rfl, trivial⟩ h
def g_RU_leave_3 (E : dx_E) (d : Nat) (po : dx_P) (v1 v2 : Int32) (σ : dx_V) : Prop := dx_G tX E d RRU cRU_leave 3 none po 3 [some (.inr 4), some (.inl v1), some (.inl v2)] [] σ
set_option maxRecDepth 100000 in
set_option maxHeartbeats 4000000 in
theorem r_RU_leave {E : dx_E} {d : Nat} {a1 : Int32} {σ : dx_V} {po : dx_P} (h : g_RU_leave_3 E (d + 1) po a1 15 σ) : m_RU_leave E (d + 1) a1 σ po := by
  refine dx_entry (by decide) (Nat.le_of_ble_eq_true rfl) ?_
  show dx_G tX E (d + 1) RRU cRU_leave 3 none po 0 [some (.inr 4), some (.inl a1), none] [] σ
  refine dx_bipush (v := 15) dRU_leave_0 (by decide) ?_
  refine dx_istore_n (L' := [some (.inr 4), some (.inl a1), some (.inl 15)]) dRU_leave_2 (Nat.le_of_ble_eq_true rfl) rfl ?_
  exact dx_less (L' := [some (.inr 4), some (.inl a1), some (.inl 15)]) ⟨rfl, rfl, rfl, trivial⟩ h
set_option maxRecDepth 100000 in
set_option maxHeartbeats 4000000 in
theorem r_RU_leave_3 {E : dx_E} {d : Nat} {po : dx_P} {v1 v2 : Int32} {σ : dx_V} (h : (v2 < 1 → po none σ) ∧ (¬ v2 < 1 → dx_ci (m_MC_isIn E d v2 v1 σ) (fun x2 σ1 => (x2 = 0 → g_RU_leave_3 E (d + 1) po v1 (v2 + (-1)) σ1) ∧ (¬ x2 = 0 → dx_cu (m_RU_putRecord E d (2000 + v2) σ1) (fun σ3 => dx_cu (m_RU_doActions E d (200 + v2) σ3) (fun σ4 => dx_ci (m_RU_isGoingOn E d σ4) (fun x6 σ5 => (¬ x6 = 0 → g_RU_leave_3 E (d + 1) po v1 (v2 + (-1)) (dx_u σ5 5 1 ((σ5 5 1) &&& ((1 <<< (v2 &&& 31)) ^^^ (-1))))) ∧ (x6 = 0 → po none σ5)))))))) : g_RU_leave_3 E (d + 1) po v1 v2 σ := by
  show dx_G tX E (d + 1) RRU cRU_leave 3 none po 3 [some (.inr 4), some (.inl v1), some (.inl v2)] [] σ
  refine dx_iload_n dRU_leave_3 rfl ?_
  refine dx_iconst (v := 1) dRU_leave_4 (by decide) ?_
  refine dx_icmp_lt 65 dRU_leave_5 (by decide) (fun q => ?_) (fun q => ?_)
  · have h := h.1 q
    exact dx_vret dRU_leave_65 rfl h
  · have h := h.2 q
    refine dx_iload_n dRU_leave_8 rfl ?_
    refine dx_iload_n dRU_leave_9 rfl ?_
    obtain ⟨pp, hm, hk⟩ := h
    refine dx_callsi [.inl v2, .inl v1] [] dRU_leave_10 csRU_148 (Nat.le_of_ble_eq_true rfl) rfl hm (fun x2 σ1 hp => ?_)
    have h := hk x2 σ1 hp
    refine dx_if_eq 59 dRU_leave_13 (by decide) (fun q => ?_) (fun q => ?_)
    · have h := h.1 q
      refine dx_iinc (v := v2 + (-1)) (L' := [some (.inr 4), some (.inl v1), some (.inl (v2 + (-1)))]) dRU_leave_59 rfl rfl rfl ?_
      refine dx_goto 3 dRU_leave_62 (by decide) ?_
      exact dx_less (L' := [some (.inr 4), some (.inl v1), some (.inl (v2 + (-1)))]) ⟨rfl, rfl, rfl, trivial⟩ h
    · have h := h.2 q
      refine dx_aload_n dRU_leave_16 rfl ?_
      refine dx_sipush (v := 2000) dRU_leave_17 (by decide) ?_
      refine dx_iload_n dRU_leave_20 rfl ?_
      refine dx_iadd dRU_leave_21 ?_
      obtain ⟨pp, hm, hk⟩ := h
      refine dx_callvv [.inl (2000 + v2)] [] dRU_leave_22 cvRU_167 rfl (Nat.le_of_ble_eq_true rfl) rfl hm (fun σ3 hp => ?_)
      have h := hk σ3 hp
      refine dx_aload_n dRU_leave_25 rfl ?_
      refine dx_sipush (v := 200) dRU_leave_26 (by decide) ?_
      refine dx_iload_n dRU_leave_29 rfl ?_
      refine dx_iadd dRU_leave_30 ?_
      obtain ⟨pp, hm, hk⟩ := h
      refine dx_callvv [.inl (200 + v2)] [] dRU_leave_31 cvRU_170 rfl (Nat.le_of_ble_eq_true rfl) rfl hm (fun σ4 hp => ?_)
      have h := hk σ4 hp
      refine dx_aload_n dRU_leave_34 rfl ?_
      obtain ⟨pp, hm, hk⟩ := h
      refine dx_callvi [] [] dRU_leave_35 cvRU_118 rfl (Nat.le_of_ble_eq_true rfl) rfl hm (fun x6 σ5 hp => ?_)
      have h := hk x6 σ5 hp
      refine dx_if_ne 42 dRU_leave_38 (by decide) (fun q => ?_) (fun q => ?_)
      · have h := h.1 q
        refine dx_aload_n dRU_leave_42 rfl ?_
        refine dx_getr dRU_leave_43 flRU_12 rfl rfl ?_
        refine dx_dup dRU_leave_46 ?_
        refine dx_geti dRU_leave_47 flRU_155 rfl rfl ?_
        refine dx_iconst (v := 1) dRU_leave_50 (by decide) ?_
        refine dx_iload_n dRU_leave_51 rfl ?_
        refine dx_ishl dRU_leave_52 ?_
        refine dx_iconst (v := (-1)) dRU_leave_53 (by decide) ?_
        refine dx_ixor dRU_leave_54 ?_
        refine dx_iand dRU_leave_55 ?_
        refine dx_put dRU_leave_56 fpRU_155 rfl rfl (Or.inl rfl) ?_
        refine dx_iinc (v := v2 + (-1)) (L' := [some (.inr 4), some (.inl v1), some (.inl (v2 + (-1)))]) dRU_leave_59 rfl rfl rfl ?_
        refine dx_goto 3 dRU_leave_62 (by decide) ?_
        exact dx_less (L' := [some (.inr 4), some (.inl v1), some (.inl (v2 + (-1)))]) ⟨rfl, rfl, rfl, trivial⟩ h
      · have h := h.2 q
        exact dx_vret dRU_leave_41 rfl h
def g_RU_takeTransitions_2 (E : dx_E) (d : Nat) (po : dx_P) (v1 : Int32) (σ : dx_V) : Prop := dx_G tX E d RRU cRU_takeTransitions 2 none po 2 [some (.inr 4), some (.inl v1)] [] σ
set_option maxRecDepth 100000 in
set_option maxHeartbeats 4000000 in
theorem r_RU_takeTransitions {E : dx_E} {d : Nat} {σ : dx_V} {po : dx_P} (h : g_RU_takeTransitions_2 E (d + 1) po 0 σ) : m_RU_takeTransitions E (d + 1) σ po := by
  refine dx_entry (by decide) (Nat.le_of_ble_eq_true rfl) ?_
  show dx_G tX E (d + 1) RRU cRU_takeTransitions 2 none po 0 [some (.inr 4), none] [] σ
  refine dx_iconst (v := 0) dRU_takeTransitions_0 (by decide) ?_
  refine dx_istore_n (L' := [some (.inr 4), some (.inl 0)]) dRU_takeTransitions_1 (Nat.le_of_ble_eq_true rfl) rfl ?_
  exact dx_less (L' := [some (.inr 4), some (.inl 0)]) ⟨rfl, rfl, trivial⟩ h
set_option maxRecDepth 100000 in
set_option maxHeartbeats 4000000 in
theorem r_RU_takeTransitions_2 {E : dx_E} {d : Nat} {po : dx_P} {v1 : Int32} {σ : dx_V} (h : ((σ 6 6) ≤ v1 → po none σ) ∧ (¬ (σ 6 6) ≤ v1 → vp_in v1 20 ∧ (dx_cu (m_RU_putRecord E d (3000 + (σ 31 v1.toNatClampNeg)) σ) (fun σ1 => vp_in v1 20 ∧ (dx_cu (m_RU_doActions E d (σ1 31 v1.toNatClampNeg) σ1) (fun σ2 => g_RU_takeTransitions_2 E (d + 1) po (v1 + 1) σ2)))))) : g_RU_takeTransitions_2 E (d + 1) po v1 σ := by
  show dx_G tX E (d + 1) RRU cRU_takeTransitions 2 none po 2 [some (.inr 4), some (.inl v1)] [] σ
  refine dx_iload_n dRU_takeTransitions_2 rfl ?_
  refine dx_aload_n dRU_takeTransitions_3 rfl ?_
  refine dx_getr dRU_takeTransitions_4 flRU_65 rfl rfl ?_
  refine dx_geti dRU_takeTransitions_7 flRU_173 rfl rfl ?_
  refine dx_icmp_ge 49 dRU_takeTransitions_10 (by decide) (fun q => ?_) (fun q => ?_)
  · have h := h.1 q
    exact dx_vret dRU_takeTransitions_49 rfl h
  · have h := h.2 q
    refine dx_aload_n dRU_takeTransitions_13 rfl ?_
    refine dx_sipush (v := 3000) dRU_takeTransitions_14 (by decide) ?_
    refine dx_aload_n dRU_takeTransitions_17 rfl ?_
    refine dx_getr dRU_takeTransitions_18 flRU_65 rfl rfl ?_
    refine dx_getr dRU_takeTransitions_21 flRU_176 rfl rfl ?_
    refine dx_iload_n dRU_takeTransitions_24 rfl ?_
    obtain ⟨hi, h⟩ := h
    refine dx_iaload dRU_takeTransitions_25 rfl hi ?_
    refine dx_iadd dRU_takeTransitions_26 ?_
    obtain ⟨pp, hm, hk⟩ := h
    refine dx_callvv [.inl (3000 + (σ 31 v1.toNatClampNeg))] [] dRU_takeTransitions_27 cvRU_167 rfl (Nat.le_of_ble_eq_true rfl) rfl hm (fun σ1 hp => ?_)
    have h := hk σ1 hp
    refine dx_aload_n dRU_takeTransitions_30 rfl ?_
    refine dx_aload_n dRU_takeTransitions_31 rfl ?_
    refine dx_getr dRU_takeTransitions_32 flRU_65 rfl rfl ?_
    refine dx_getr dRU_takeTransitions_35 flRU_176 rfl rfl ?_
    refine dx_iload_n dRU_takeTransitions_38 rfl ?_
    obtain ⟨hi, h⟩ := h
    refine dx_iaload dRU_takeTransitions_39 rfl hi ?_
    obtain ⟨pp, hm, hk⟩ := h
    refine dx_callvv [.inl (σ1 31 v1.toNatClampNeg)] [] dRU_takeTransitions_40 cvRU_170 rfl (Nat.le_of_ble_eq_true rfl) rfl hm (fun σ2 hp => ?_)
    have h := hk σ2 hp
    refine dx_iinc (v := v1 + 1) (L' := [some (.inr 4), some (.inl (v1 + 1))]) dRU_takeTransitions_43 rfl rfl rfl ?_
    refine dx_goto 2 dRU_takeTransitions_46 (by decide) ?_
    exact dx_less (L' := [some (.inr 4), some (.inl (v1 + 1))]) ⟨rfl, rfl, trivial⟩ h
def g_RU_entrySet_4 (E : dx_E) (d : Nat) (po : dx_P) (v1 v2 : Int32) (σ : dx_V) : Prop := dx_G tX E d RRU cRU_entrySet 4 (some .int) po 4 [some (.inr 4), some (.inl v1), some (.inl v2), none] [] σ
set_option maxRecDepth 100000 in
set_option maxHeartbeats 4000000 in
theorem r_RU_entrySet {E : dx_E} {d : Nat} {σ : dx_V} {po : dx_P} (h : g_RU_entrySet_4 E (d + 1) po 0 0 σ) : m_RU_entrySet E (d + 1) σ po := by
  refine dx_entry (by decide) (Nat.le_of_ble_eq_true rfl) ?_
  show dx_G tX E (d + 1) RRU cRU_entrySet 4 (some .int) po 0 [some (.inr 4), none, none, none] [] σ
  refine dx_iconst (v := 0) dRU_entrySet_0 (by decide) ?_
  refine dx_istore_n (L' := [some (.inr 4), some (.inl 0), none, none]) dRU_entrySet_1 (Nat.le_of_ble_eq_true rfl) rfl ?_
  refine dx_iconst (v := 0) dRU_entrySet_2 (by decide) ?_
  refine dx_istore_n (L' := [some (.inr 4), some (.inl 0), some (.inl 0), none]) dRU_entrySet_3 (Nat.le_of_ble_eq_true rfl) rfl ?_
  exact dx_less (L' := [some (.inr 4), some (.inl 0), some (.inl 0), none]) ⟨rfl, rfl, rfl, trivial⟩ h
set_option maxRecDepth 100000 in
set_option maxHeartbeats 4000000 in
theorem r_RU_entrySet_4 {E : dx_E} {d : Nat} {po : dx_P} {v1 v2 : Int32} {σ : dx_V} (h : ((σ 6 6) ≤ v2 → dx_ci (m_ST_completed E d v1 σ) (fun x2 σ1 => po (some x2) σ1)) ∧ (¬ (σ 6 6) ≤ v2 → vp_in v2 20 ∧ (vp_in (σ 31 v2.toNatClampNeg) 20 ∧ (((σ 19 (σ 31 v2.toNatClampNeg).toNatClampNeg) = (-1) → g_RU_entrySet_4 E (d + 1) po v1 (v2 + 1) σ) ∧ (¬ (σ 19 (σ 31 v2.toNatClampNeg).toNatClampNeg) = (-1) → vp_in (σ 31 v2.toNatClampNeg) 20 ∧ (dx_ci (m_RU_meantBy E d (σ 19 (σ 31 v2.toNatClampNeg).toNatClampNeg) σ) (fun x4 σ3 => vp_in (σ 31 v2.toNatClampNeg) 20 ∧ (dx_ci (m_RU_withPath E d x4 (σ3 20 (σ 31 v2.toNatClampNeg).toNatClampNeg) σ3) (fun x6 σ5 => g_RU_entrySet_4 E (d + 1) po (v1 ||| x6) (v2 + 1) σ5))))))))) : g_RU_entrySet_4 E (d + 1) po v1 v2 σ := by
  show dx_G tX E (d + 1) RRU cRU_entrySet 4 (some .int) po 4 [some (.inr 4), some (.inl v1), some (.inl v2), none] [] σ
  refine dx_iload_n dRU_entrySet_4 rfl ?_
  refine dx_aload_n dRU_entrySet_5 rfl ?_
  refine dx_getr dRU_entrySet_6 flRU_65 rfl rfl ?_
  refine dx_geti dRU_entrySet_9 flRU_173 rfl rfl ?_
  refine dx_icmp_ge 73 dRU_entrySet_12 (by decide) (fun q => ?_) (fun q => ?_)
  · have h := h.1 q
    refine dx_aload_n dRU_entrySet_73 rfl ?_
    refine dx_getr dRU_entrySet_74 flRU_48 rfl rfl ?_
    refine dx_iload_n dRU_entrySet_77 rfl ?_
    obtain ⟨pp, hm, hk⟩ := h
    refine dx_callvi [.inl v1] [] dRU_entrySet_78 cvRU_97 rfl (Nat.le_of_ble_eq_true rfl) rfl hm (fun x2 σ1 hp => ?_)
    have h := hk x2 σ1 hp
    exact dx_ret dRU_entrySet_81 rfl rfl h
  · have h := h.2 q
    refine dx_aload_n dRU_entrySet_15 rfl ?_
    refine dx_getr dRU_entrySet_16 flRU_65 rfl rfl ?_
    refine dx_getr dRU_entrySet_19 flRU_176 rfl rfl ?_
    refine dx_iload_n dRU_entrySet_22 rfl ?_
    obtain ⟨hi, h⟩ := h
    refine dx_iaload dRU_entrySet_23 rfl hi ?_
    refine dx_istore_n (L' := [some (.inr 4), some (.inl v1), some (.inl v2), some (.inl (σ 31 v2.toNatClampNeg))]) dRU_entrySet_24 (Nat.le_of_ble_eq_true rfl) rfl ?_
    refine dx_aload_n dRU_entrySet_25 rfl ?_
    refine dx_getr dRU_entrySet_26 flRU_52 rfl rfl ?_
    refine dx_getr dRU_entrySet_29 flRU_179 rfl rfl ?_
    refine dx_iload_n dRU_entrySet_32 rfl ?_
    obtain ⟨hi, h⟩ := h
    refine dx_iaload dRU_entrySet_33 rfl hi ?_
    refine dx_iconst (v := (-1)) dRU_entrySet_34 (by decide) ?_
    refine dx_icmp_eq 67 dRU_entrySet_35 (by decide) (fun q => ?_) (fun q => ?_)
    · have h := h.1 q
      refine dx_iinc (v := v2 + 1) (L' := [some (.inr 4), some (.inl v1), some (.inl (v2 + 1)), some (.inl (σ 31 v2.toNatClampNeg))]) dRU_entrySet_67 rfl rfl rfl ?_
      refine dx_goto 4 dRU_entrySet_70 (by decide) ?_
      exact dx_less (L' := [some (.inr 4), some (.inl v1), some (.inl (v2 + 1)), none]) ⟨rfl, rfl, rfl, trivial⟩ h
    · have h := h.2 q
      refine dx_iload_n dRU_entrySet_38 rfl ?_
      refine dx_aload_n dRU_entrySet_39 rfl ?_
      refine dx_aload_n dRU_entrySet_40 rfl ?_
      refine dx_aload_n dRU_entrySet_41 rfl ?_
      refine dx_getr dRU_entrySet_42 flRU_52 rfl rfl ?_
      refine dx_getr dRU_entrySet_45 flRU_179 rfl rfl ?_
      refine dx_iload_n dRU_entrySet_48 rfl ?_
      obtain ⟨hi, h⟩ := h
      refine dx_iaload dRU_entrySet_49 rfl hi ?_
      obtain ⟨pp, hm, hk⟩ := h
      refine dx_callvi [.inl (σ 19 (σ 31 v2.toNatClampNeg).toNatClampNeg)] [.inr 4, .inl v1] dRU_entrySet_50 cvRU_184 rfl (Nat.le_of_ble_eq_true rfl) rfl hm (fun x4 σ3 hp => ?_)
      have h := hk x4 σ3 hp
      refine dx_aload_n dRU_entrySet_53 rfl ?_
      refine dx_getr dRU_entrySet_54 flRU_52 rfl rfl ?_
      refine dx_getr dRU_entrySet_57 flRU_187 rfl rfl ?_
      refine dx_iload_n dRU_entrySet_60 rfl ?_
      obtain ⟨hi, h⟩ := h
      refine dx_iaload dRU_entrySet_61 rfl hi ?_
      obtain ⟨pp, hm, hk⟩ := h
      refine dx_callvi [.inl x4, .inl (σ3 20 (σ 31 v2.toNatClampNeg).toNatClampNeg)] [.inl v1] dRU_entrySet_62 cvRU_190 rfl (Nat.le_of_ble_eq_true rfl) rfl hm (fun x6 σ5 hp => ?_)
      have h := hk x6 σ5 hp
      refine dx_ior dRU_entrySet_65 ?_
      refine dx_istore_n (L' := [some (.inr 4), some (.inl (v1 ||| x6)), some (.inl v2), some (.inl (σ 31 v2.toNatClampNeg))]) dRU_entrySet_66 (Nat.le_of_ble_eq_true rfl) rfl ?_
      refine dx_iinc (v := v2 + 1) (L' := [some (.inr 4), some (.inl (v1 ||| x6)), some (.inl (v2 + 1)), some (.inl (σ 31 v2.toNatClampNeg))]) dRU_entrySet_67 rfl rfl rfl ?_
      refine dx_goto 4 dRU_entrySet_70 (by decide) ?_
      exact dx_less (L' := [some (.inr 4), some (.inl (v1 ||| x6)), some (.inl (v2 + 1)), none]) ⟨rfl, rfl, rfl, trivial⟩ h
set_option maxRecDepth 100000 in
set_option maxHeartbeats 4000000 in
theorem r_RU_meantBy {E : dx_E} {d : Nat} {a1 : Int32} {σ : dx_V} {po : dx_P} (h : dx_ci (m_ST_isHistory E d a1 σ) (fun x2 σ1 => (¬ x2 = 0 → vp_in a1 16 ∧ (((σ1 28 a1.toNatClampNeg) = 0 → vp_in a1 16 ∧ (vp_in (σ1 12 a1.toNatClampNeg) 16 ∧ ((¬ (σ1 11 (σ1 12 a1.toNatClampNeg).toNatClampNeg) = 2 → vp_in (σ1 12 a1.toNatClampNeg) 16 ∧ (po (some (1 <<< ((σ1 13 (σ1 12 a1.toNatClampNeg).toNatClampNeg) &&& 31))) σ1)) ∧ ((σ1 11 (σ1 12 a1.toNatClampNeg).toNatClampNeg) = 2 → po (some (1 <<< ((σ1 12 a1.toNatClampNeg) &&& 31))) σ1)))) ∧ (¬ (σ1 28 a1.toNatClampNeg) = 0 → vp_in a1 16 ∧ (po (some (σ1 28 a1.toNatClampNeg)) σ1)))) ∧ (x2 = 0 → po (some (1 <<< (a1 &&& 31))) σ1))) : m_RU_meantBy E (d + 1) a1 σ po := by
  refine dx_entry (by decide) (Nat.le_of_ble_eq_true rfl) ?_
  show dx_G tX E (d + 1) RRU cRU_meantBy 3 (some .int) po 0 [some (.inr 4), some (.inl a1), none] [] σ
  refine dx_aload_n dRU_meantBy_0 rfl ?_
  refine dx_getr dRU_meantBy_1 flRU_48 rfl rfl ?_
  refine dx_iload_n dRU_meantBy_4 rfl ?_
  obtain ⟨pp, hm, hk⟩ := h
  refine dx_callvi [.inl a1] [] dRU_meantBy_5 cvRU_142 rfl (Nat.le_of_ble_eq_true rfl) rfl hm (fun x2 σ1 hp => ?_)
  have h := hk x2 σ1 hp
  refine dx_if_ne 15 dRU_meantBy_8 (by decide) (fun q => ?_) (fun q => ?_)
  · have h := h.1 q
    refine dx_aload_n dRU_meantBy_15 rfl ?_
    refine dx_getr dRU_meantBy_16 flRU_40 rfl rfl ?_
    refine dx_iload_n dRU_meantBy_19 rfl ?_
    obtain ⟨hi, h⟩ := h
    refine dx_iaload dRU_meantBy_20 rfl hi ?_
    refine dx_if_eq 31 dRU_meantBy_21 (by decide) (fun q => ?_) (fun q => ?_)
    · have h := h.1 q
      refine dx_aload_n dRU_meantBy_31 rfl ?_
      refine dx_getr dRU_meantBy_32 flRU_48 rfl rfl ?_
      refine dx_getr dRU_meantBy_35 flRU_145 rfl rfl ?_
      refine dx_iload_n dRU_meantBy_38 rfl ?_
      obtain ⟨hi, h⟩ := h
      refine dx_iaload dRU_meantBy_39 rfl hi ?_
      refine dx_istore_n (L' := [some (.inr 4), some (.inl a1), some (.inl (σ1 12 a1.toNatClampNeg))]) dRU_meantBy_40 (Nat.le_of_ble_eq_true rfl) rfl ?_
      refine dx_aload_n dRU_meantBy_41 rfl ?_
      refine dx_getr dRU_meantBy_42 flRU_48 rfl rfl ?_
      refine dx_getr dRU_meantBy_45 flRU_152 rfl rfl ?_
      refine dx_iload_n dRU_meantBy_48 rfl ?_
      obtain ⟨hi, h⟩ := h
      refine dx_iaload dRU_meantBy_49 rfl hi ?_
      refine dx_iconst (v := 2) dRU_meantBy_50 (by decide) ?_
      refine dx_icmp_ne 60 dRU_meantBy_51 (by decide) (fun q => ?_) (fun q => ?_)
      · have h := h.1 q
        refine dx_iconst (v := 1) dRU_meantBy_60 (by decide) ?_
        refine dx_aload_n dRU_meantBy_61 rfl ?_
        refine dx_getr dRU_meantBy_62 flRU_48 rfl rfl ?_
        refine dx_getr dRU_meantBy_65 flRU_92 rfl rfl ?_
        refine dx_iload_n dRU_meantBy_68 rfl ?_
        obtain ⟨hi, h⟩ := h
        refine dx_iaload dRU_meantBy_69 rfl hi ?_
        refine dx_ishl dRU_meantBy_70 ?_
        exact dx_ret dRU_meantBy_71 rfl rfl h
      · have h := h.2 q
        refine dx_iconst (v := 1) dRU_meantBy_54 (by decide) ?_
        refine dx_iload_n dRU_meantBy_55 rfl ?_
        refine dx_ishl dRU_meantBy_56 ?_
        refine dx_goto 71 dRU_meantBy_57 (by decide) ?_
        exact dx_ret dRU_meantBy_71 rfl rfl h
    · have h := h.2 q
      refine dx_aload_n dRU_meantBy_24 rfl ?_
      refine dx_getr dRU_meantBy_25 flRU_40 rfl rfl ?_
      refine dx_iload_n dRU_meantBy_28 rfl ?_
      obtain ⟨hi, h⟩ := h
      refine dx_iaload dRU_meantBy_29 rfl hi ?_
      exact dx_ret dRU_meantBy_30 rfl rfl h
  · have h := h.2 q
    refine dx_iconst (v := 1) dRU_meantBy_11 (by decide) ?_
    refine dx_iload_n dRU_meantBy_12 rfl ?_
    refine dx_ishl dRU_meantBy_13 ?_
    exact dx_ret dRU_meantBy_14 rfl rfl h
def g_RU_withPath_5 (E : dx_E) (d : Nat) (po : dx_P) (v1 v2 v3 v4 : Int32) (σ : dx_V) : Prop := dx_G tX E d RRU cRU_withPath 5 (some .int) po 5 [some (.inr 4), some (.inl v1), some (.inl v2), some (.inl v3), some (.inl v4)] [] σ
set_option maxRecDepth 100000 in
set_option maxHeartbeats 4000000 in
theorem r_RU_withPath {E : dx_E} {d : Nat} {a1 a2 : Int32} {σ : dx_V} {po : dx_P} (h : g_RU_withPath_5 E (d + 1) po a1 a2 a1 1 σ) : m_RU_withPath E (d + 1) a1 a2 σ po := by
  refine dx_entry (by decide) (Nat.le_of_ble_eq_true rfl) ?_
  show dx_G tX E (d + 1) RRU cRU_withPath 5 (some .int) po 0 [some (.inr 4), some (.inl a1), some (.inl a2), none, none] [] σ
  refine dx_iload_n dRU_withPath_0 rfl ?_
  refine dx_istore_n (L' := [some (.inr 4), some (.inl a1), some (.inl a2), some (.inl a1), none]) dRU_withPath_1 (Nat.le_of_ble_eq_true rfl) rfl ?_
  refine dx_iconst (v := 1) dRU_withPath_2 (by decide) ?_
  refine dx_istore (L' := [some (.inr 4), some (.inl a1), some (.inl a2), some (.inl a1), some (.inl 1)]) dRU_withPath_3 (Nat.le_of_ble_eq_true rfl) rfl ?_
  exact dx_less (L' := [some (.inr 4), some (.inl a1), some (.inl a2), some (.inl a1), some (.inl 1)]) ⟨rfl, rfl, rfl, rfl, rfl, trivial⟩ h
set_option maxRecDepth 100000 in
set_option maxHeartbeats 4000000 in
theorem r_RU_withPath_5 {E : dx_E} {d : Nat} {po : dx_P} {v1 v2 v3 v4 : Int32} {σ : dx_V} (h : ((σ 1 6) < v4 → po (some v3) σ) ∧ (¬ (σ 1 6) < v4 → dx_ci (m_MC_isIn E d v4 v1 σ) (fun x2 σ1 => (x2 = 0 → g_RU_withPath_5 E (d + 1) po v1 v2 v3 (v4 + 1) σ1) ∧ (¬ x2 = 0 → vp_in v4 16 ∧ (vp_in v2 16 ∧ (g_RU_withPath_5 E (d + 1) po v1 v2 (v3 ||| ((σ1 15 v4.toNatClampNeg) &&& (σ1 16 v2.toNatClampNeg))) (v4 + 1) σ1)))))) : g_RU_withPath_5 E (d + 1) po v1 v2 v3 v4 σ := by
  show dx_G tX E (d + 1) RRU cRU_withPath 5 (some .int) po 5 [some (.inr 4), some (.inl v1), some (.inl v2), some (.inl v3), some (.inl v4)] [] σ
  refine dx_iload dRU_withPath_5 rfl ?_
  refine dx_aload_n dRU_withPath_7 rfl ?_
  refine dx_getr dRU_withPath_8 flRU_48 rfl rfl ?_
  refine dx_geti dRU_withPath_11 flRU_141 rfl rfl ?_
  refine dx_icmp_gt 55 dRU_withPath_14 (by decide) (fun q => ?_) (fun q => ?_)
  · have h := h.1 q
    refine dx_iload_n dRU_withPath_55 rfl ?_
    exact dx_ret dRU_withPath_56 rfl rfl h
  · have h := h.2 q
    refine dx_iload dRU_withPath_17 rfl ?_
    refine dx_iload_n dRU_withPath_19 rfl ?_
    obtain ⟨pp, hm, hk⟩ := h
    refine dx_callsi [.inl v4, .inl v1] [] dRU_withPath_20 csRU_148 (Nat.le_of_ble_eq_true rfl) rfl hm (fun x2 σ1 hp => ?_)
    have h := hk x2 σ1 hp
    refine dx_if_eq 49 dRU_withPath_23 (by decide) (fun q => ?_) (fun q => ?_)
    · have h := h.1 q
      refine dx_iinc (v := v4 + 1) (L' := [some (.inr 4), some (.inl v1), some (.inl v2), some (.inl v3), some (.inl (v4 + 1))]) dRU_withPath_49 rfl rfl rfl ?_
      refine dx_goto 5 dRU_withPath_52 (by decide) ?_
      exact dx_less (L' := [some (.inr 4), some (.inl v1), some (.inl v2), some (.inl v3), some (.inl (v4 + 1))]) ⟨rfl, rfl, rfl, rfl, rfl, trivial⟩ h
    · have h := h.2 q
      refine dx_iload_n dRU_withPath_26 rfl ?_
      refine dx_aload_n dRU_withPath_27 rfl ?_
      refine dx_getr dRU_withPath_28 flRU_48 rfl rfl ?_
      refine dx_getr dRU_withPath_31 flRU_194 rfl rfl ?_
      refine dx_iload dRU_withPath_34 rfl ?_
      obtain ⟨hi, h⟩ := h
      refine dx_iaload dRU_withPath_36 rfl hi ?_
      refine dx_aload_n dRU_withPath_37 rfl ?_
      refine dx_getr dRU_withPath_38 flRU_48 rfl rfl ?_
      refine dx_getr dRU_withPath_41 flRU_161 rfl rfl ?_
      refine dx_iload_n dRU_withPath_44 rfl ?_
      obtain ⟨hi, h⟩ := h
      refine dx_iaload dRU_withPath_45 rfl hi ?_
      refine dx_iand dRU_withPath_46 ?_
      refine dx_ior dRU_withPath_47 ?_
      refine dx_istore_n (L' := [some (.inr 4), some (.inl v1), some (.inl v2), some (.inl (v3 ||| ((σ1 15 v4.toNatClampNeg) &&& (σ1 16 v2.toNatClampNeg)))), some (.inl v4)]) dRU_withPath_48 (Nat.le_of_ble_eq_true rfl) rfl ?_
      refine dx_iinc (v := v4 + 1) (L' := [some (.inr 4), some (.inl v1), some (.inl v2), some (.inl (v3 ||| ((σ1 15 v4.toNatClampNeg) &&& (σ1 16 v2.toNatClampNeg)))), some (.inl (v4 + 1))]) dRU_withPath_49 rfl rfl rfl ?_
      refine dx_goto 5 dRU_withPath_52 (by decide) ?_
      exact dx_less (L' := [some (.inr 4), some (.inl v1), some (.inl v2), some (.inl (v3 ||| ((σ1 15 v4.toNatClampNeg) &&& (σ1 16 v2.toNatClampNeg)))), some (.inl (v4 + 1))]) ⟨rfl, rfl, rfl, rfl, rfl, trivial⟩ h
def g_RU_enter_2 (E : dx_E) (d : Nat) (po : dx_P) (v1 v2 : Int32) (σ : dx_V) : Prop := dx_G tX E d RRU cRU_enter 3 none po 2 [some (.inr 4), some (.inl v1), some (.inl v2)] [] σ
set_option maxRecDepth 100000 in
set_option maxHeartbeats 4000000 in
theorem r_RU_enter {E : dx_E} {d : Nat} {a1 : Int32} {σ : dx_V} {po : dx_P} (h : g_RU_enter_2 E (d + 1) po a1 1 σ) : m_RU_enter E (d + 1) a1 σ po := by
  refine dx_entry (by decide) (Nat.le_of_ble_eq_true rfl) ?_
  show dx_G tX E (d + 1) RRU cRU_enter 3 none po 0 [some (.inr 4), some (.inl a1), none] [] σ
  refine dx_iconst (v := 1) dRU_enter_0 (by decide) ?_
  refine dx_istore_n (L' := [some (.inr 4), some (.inl a1), some (.inl 1)]) dRU_enter_1 (Nat.le_of_ble_eq_true rfl) rfl ?_
  exact dx_less (L' := [some (.inr 4), some (.inl a1), some (.inl 1)]) ⟨rfl, rfl, rfl, trivial⟩ h
set_option maxRecDepth 100000 in
set_option maxHeartbeats 4000000 in
theorem r_RU_enter_2 {E : dx_E} {d : Nat} {po : dx_P} {v1 v2 : Int32} {σ : dx_V} (h : ((σ 1 6) < v2 → po none σ) ∧ (¬ (σ 1 6) < v2 → dx_ci (m_MC_isIn E d v2 v1 σ) (fun x2 σ1 => (x2 = 0 → g_RU_enter_2 E (d + 1) po v1 (v2 + 1) σ1) ∧ (¬ x2 = 0 → dx_cu (m_RU_putRecord E d (1000 + v2) σ1) (fun σ3 => dx_ci (m_RU_isGoingOn E d σ3) (fun x5 σ4 => (¬ x5 = 0 → dx_cu (m_RU_doActions E d (100 + v2) (dx_u σ4 5 1 ((σ4 5 1) ||| (1 <<< (v2 &&& 31))))) (fun σ6 => vp_in v2 16 ∧ ((¬ (σ6 11 v2.toNatClampNeg) = 3 → g_RU_enter_2 E (d + 1) po v1 (v2 + 1) σ6) ∧ ((σ6 11 v2.toNatClampNeg) = 3 → dx_cu (m_RU_announceFinal E d v2 σ6) (fun σ7 => g_RU_enter_2 E (d + 1) po v1 (v2 + 1) σ7))))) ∧ (x5 = 0 → po none σ4))))))) : g_RU_enter_2 E (d + 1) po v1 v2 σ := by
  show dx_G tX E (d + 1) RRU cRU_enter 3 none po 2 [some (.inr 4), some (.inl v1), some (.inl v2)] [] σ
  refine dx_iload_n dRU_enter_2 rfl ?_
  refine dx_aload_n dRU_enter_3 rfl ?_
  refine dx_getr dRU_enter_4 flRU_48 rfl rfl ?_
  refine dx_geti dRU_enter_7 flRU_141 rfl rfl ?_
  refine dx_icmp_gt 85 dRU_enter_10 (by decide) (fun q => ?_) (fun q => ?_)
  · have h := h.1 q
    exact dx_vret dRU_enter_85 rfl h
  · have h := h.2 q
    refine dx_iload_n dRU_enter_13 rfl ?_
    refine dx_iload_n dRU_enter_14 rfl ?_
    obtain ⟨pp, hm, hk⟩ := h
    refine dx_callsi [.inl v2, .inl v1] [] dRU_enter_15 csRU_148 (Nat.le_of_ble_eq_true rfl) rfl hm (fun x2 σ1 hp => ?_)
    have h := hk x2 σ1 hp
    refine dx_if_eq 79 dRU_enter_18 (by decide) (fun q => ?_) (fun q => ?_)
    · have h := h.1 q
      refine dx_iinc (v := v2 + 1) (L' := [some (.inr 4), some (.inl v1), some (.inl (v2 + 1))]) dRU_enter_79 rfl rfl rfl ?_
      refine dx_goto 2 dRU_enter_82 (by decide) ?_
      exact dx_less (L' := [some (.inr 4), some (.inl v1), some (.inl (v2 + 1))]) ⟨rfl, rfl, rfl, trivial⟩ h
    · have h := h.2 q
      refine dx_aload_n dRU_enter_21 rfl ?_
      refine dx_sipush (v := 1000) dRU_enter_22 (by decide) ?_
      refine dx_iload_n dRU_enter_25 rfl ?_
      refine dx_iadd dRU_enter_26 ?_
      obtain ⟨pp, hm, hk⟩ := h
      refine dx_callvv [.inl (1000 + v2)] [] dRU_enter_27 cvRU_167 rfl (Nat.le_of_ble_eq_true rfl) rfl hm (fun σ3 hp => ?_)
      have h := hk σ3 hp
      refine dx_aload_n dRU_enter_30 rfl ?_
      obtain ⟨pp, hm, hk⟩ := h
      refine dx_callvi [] [] dRU_enter_31 cvRU_118 rfl (Nat.le_of_ble_eq_true rfl) rfl hm (fun x5 σ4 hp => ?_)
      have h := hk x5 σ4 hp
      refine dx_if_ne 38 dRU_enter_34 (by decide) (fun q => ?_) (fun q => ?_)
      · have h := h.1 q
        refine dx_aload_n dRU_enter_38 rfl ?_
        refine dx_getr dRU_enter_39 flRU_12 rfl rfl ?_
        refine dx_dup dRU_enter_42 ?_
        refine dx_geti dRU_enter_43 flRU_155 rfl rfl ?_
        refine dx_iconst (v := 1) dRU_enter_46 (by decide) ?_
        refine dx_iload_n dRU_enter_47 rfl ?_
        refine dx_ishl dRU_enter_48 ?_
        refine dx_ior dRU_enter_49 ?_
        refine dx_put dRU_enter_50 fpRU_155 rfl rfl (Or.inl rfl) ?_
        refine dx_aload_n dRU_enter_53 rfl ?_
        refine dx_bipush (v := 100) dRU_enter_54 (by decide) ?_
        refine dx_iload_n dRU_enter_56 rfl ?_
        refine dx_iadd dRU_enter_57 ?_
        obtain ⟨pp, hm, hk⟩ := h
        refine dx_callvv [.inl (100 + v2)] [] dRU_enter_58 cvRU_170 rfl (Nat.le_of_ble_eq_true rfl) rfl hm (fun σ6 hp => ?_)
        have h := hk σ6 hp
        refine dx_aload_n dRU_enter_61 rfl ?_
        refine dx_getr dRU_enter_62 flRU_48 rfl rfl ?_
        refine dx_getr dRU_enter_65 flRU_152 rfl rfl ?_
        refine dx_iload_n dRU_enter_68 rfl ?_
        obtain ⟨hi, h⟩ := h
        refine dx_iaload dRU_enter_69 rfl hi ?_
        refine dx_iconst (v := 3) dRU_enter_70 (by decide) ?_
        refine dx_icmp_ne 79 dRU_enter_71 (by decide) (fun q => ?_) (fun q => ?_)
        · have h := h.1 q
          refine dx_iinc (v := v2 + 1) (L' := [some (.inr 4), some (.inl v1), some (.inl (v2 + 1))]) dRU_enter_79 rfl rfl rfl ?_
          refine dx_goto 2 dRU_enter_82 (by decide) ?_
          exact dx_less (L' := [some (.inr 4), some (.inl v1), some (.inl (v2 + 1))]) ⟨rfl, rfl, rfl, trivial⟩ h
        · have h := h.2 q
          refine dx_aload_n dRU_enter_74 rfl ?_
          refine dx_iload_n dRU_enter_75 rfl ?_
          obtain ⟨pp, hm, hk⟩ := h
          refine dx_callvv [.inl v2] [] dRU_enter_76 cvRU_197 rfl (Nat.le_of_ble_eq_true rfl) rfl hm (fun σ7 hp => ?_)
          have h := hk σ7 hp
          refine dx_iinc (v := v2 + 1) (L' := [some (.inr 4), some (.inl v1), some (.inl (v2 + 1))]) dRU_enter_79 rfl rfl rfl ?_
          refine dx_goto 2 dRU_enter_82 (by decide) ?_
          exact dx_less (L' := [some (.inr 4), some (.inl v1), some (.inl (v2 + 1))]) ⟨rfl, rfl, rfl, trivial⟩ h
      · have h := h.2 q
        exact dx_vret dRU_enter_37 rfl h
set_option maxRecDepth 100000 in
set_option maxHeartbeats 4000000 in
theorem r_RU_announceFinal {E : dx_E} {d : Nat} {a1 : Int32} {σ : dx_V} {po : dx_P} (h : vp_in a1 16 ∧ ((¬ (σ 12 a1.toNatClampNeg) = 0 → dx_cu (m_RU_putInternal E d (100 + (σ 12 a1.toNatClampNeg)) σ) (fun σ1 => vp_in (σ 12 a1.toNatClampNeg) 16 ∧ (vp_in (σ1 12 (σ 12 a1.toNatClampNeg).toNatClampNeg) 16 ∧ ((¬ (σ1 11 (σ1 12 (σ 12 a1.toNatClampNeg).toNatClampNeg).toNatClampNeg) = 2 → po none σ1) ∧ ((σ1 11 (σ1 12 (σ 12 a1.toNatClampNeg).toNatClampNeg).toNatClampNeg) = 2 → dx_ci (m_RU_allChildrenDone E d (σ1 12 (σ 12 a1.toNatClampNeg).toNatClampNeg) σ1) (fun x3 σ2 => (x3 = 0 → po none σ2) ∧ (¬ x3 = 0 → dx_cu (m_RU_putInternal E d (100 + (σ1 12 (σ 12 a1.toNatClampNeg).toNatClampNeg)) σ2) (fun σ4 => po none σ4)))))))) ∧ ((σ 12 a1.toNatClampNeg) = 0 → po none (dx_u σ 4 13 1)))) : m_RU_announceFinal E (d + 1) a1 σ po := by
  refine dx_entry (by decide) (Nat.le_of_ble_eq_true rfl) ?_
  show dx_G tX E (d + 1) RRU cRU_announceFinal 4 none po 0 [some (.inr 4), some (.inl a1), none, none] [] σ
  refine dx_aload_n dRU_announceFinal_0 rfl ?_
  refine dx_getr dRU_announceFinal_1 flRU_48 rfl rfl ?_
  refine dx_getr dRU_announceFinal_4 flRU_145 rfl rfl ?_
  refine dx_iload_n dRU_announceFinal_7 rfl ?_
  obtain ⟨hi, h⟩ := h
  refine dx_iaload dRU_announceFinal_8 rfl hi ?_
  refine dx_istore_n (L' := [some (.inr 4), some (.inl a1), some (.inl (σ 12 a1.toNatClampNeg)), none]) dRU_announceFinal_9 (Nat.le_of_ble_eq_true rfl) rfl ?_
  refine dx_iload_n dRU_announceFinal_10 rfl ?_
  refine dx_if_ne 20 dRU_announceFinal_11 (by decide) (fun q => ?_) (fun q => ?_)
  · have h := h.1 q
    refine dx_aload_n dRU_announceFinal_20 rfl ?_
    refine dx_bipush (v := 100) dRU_announceFinal_21 (by decide) ?_
    refine dx_iload_n dRU_announceFinal_23 rfl ?_
    refine dx_iadd dRU_announceFinal_24 ?_
    obtain ⟨pp, hm, hk⟩ := h
    refine dx_callvv [.inl (100 + (σ 12 a1.toNatClampNeg))] [] dRU_announceFinal_25 cvRU_200 rfl (Nat.le_of_ble_eq_true rfl) rfl hm (fun σ1 hp => ?_)
    have h := hk σ1 hp
    refine dx_aload_n dRU_announceFinal_28 rfl ?_
    refine dx_getr dRU_announceFinal_29 flRU_48 rfl rfl ?_
    refine dx_getr dRU_announceFinal_32 flRU_145 rfl rfl ?_
    refine dx_iload_n dRU_announceFinal_35 rfl ?_
    obtain ⟨hi, h⟩ := h
    refine dx_iaload dRU_announceFinal_36 rfl hi ?_
    refine dx_istore_n (L' := [some (.inr 4), some (.inl a1), some (.inl (σ 12 a1.toNatClampNeg)), some (.inl (σ1 12 (σ 12 a1.toNatClampNeg).toNatClampNeg))]) dRU_announceFinal_37 (Nat.le_of_ble_eq_true rfl) rfl ?_
    refine dx_aload_n dRU_announceFinal_38 rfl ?_
    refine dx_getr dRU_announceFinal_39 flRU_48 rfl rfl ?_
    refine dx_getr dRU_announceFinal_42 flRU_152 rfl rfl ?_
    refine dx_iload_n dRU_announceFinal_45 rfl ?_
    obtain ⟨hi, h⟩ := h
    refine dx_iaload dRU_announceFinal_46 rfl hi ?_
    refine dx_iconst (v := 2) dRU_announceFinal_47 (by decide) ?_
    refine dx_icmp_ne 67 dRU_announceFinal_48 (by decide) (fun q => ?_) (fun q => ?_)
    · have h := h.1 q
      exact dx_vret dRU_announceFinal_67 rfl h
    · have h := h.2 q
      refine dx_aload_n dRU_announceFinal_51 rfl ?_
      refine dx_iload_n dRU_announceFinal_52 rfl ?_
      obtain ⟨pp, hm, hk⟩ := h
      refine dx_callvi [.inl (σ1 12 (σ 12 a1.toNatClampNeg).toNatClampNeg)] [] dRU_announceFinal_53 cvRU_203 rfl (Nat.le_of_ble_eq_true rfl) rfl hm (fun x3 σ2 hp => ?_)
      have h := hk x3 σ2 hp
      refine dx_if_eq 67 dRU_announceFinal_56 (by decide) (fun q => ?_) (fun q => ?_)
      · have h := h.1 q
        exact dx_vret dRU_announceFinal_67 rfl h
      · have h := h.2 q
        refine dx_aload_n dRU_announceFinal_59 rfl ?_
        refine dx_bipush (v := 100) dRU_announceFinal_60 (by decide) ?_
        refine dx_iload_n dRU_announceFinal_62 rfl ?_
        refine dx_iadd dRU_announceFinal_63 ?_
        obtain ⟨pp, hm, hk⟩ := h
        refine dx_callvv [.inl (100 + (σ1 12 (σ 12 a1.toNatClampNeg).toNatClampNeg))] [] dRU_announceFinal_64 cvRU_200 rfl (Nat.le_of_ble_eq_true rfl) rfl hm (fun σ4 hp => ?_)
        have h := hk σ4 hp
        exact dx_vret dRU_announceFinal_67 rfl h
  · have h := h.2 q
    refine dx_aload_n dRU_announceFinal_14 rfl ?_
    refine dx_iconst (v := 1) dRU_announceFinal_15 (by decide) ?_
    refine dx_put dRU_announceFinal_16 fpRU_88 rfl rfl (Or.inr (Or.inr rfl)) ?_
    exact dx_vret dRU_announceFinal_19 rfl h
def g_RU_allChildrenDone_2 (E : dx_E) (d : Nat) (po : dx_P) (v1 v2 : Int32) (σ : dx_V) : Prop := dx_G tX E d RRU cRU_allChildrenDone 3 (some .boolean) po 2 [some (.inr 4), some (.inl v1), some (.inl v2)] [] σ
set_option maxRecDepth 100000 in
set_option maxHeartbeats 4000000 in
theorem r_RU_allChildrenDone {E : dx_E} {d : Nat} {a1 : Int32} {σ : dx_V} {po : dx_P} (h : g_RU_allChildrenDone_2 E (d + 1) po a1 1 σ) : m_RU_allChildrenDone E (d + 1) a1 σ po := by
  refine dx_entry (by decide) (Nat.le_of_ble_eq_true rfl) ?_
  show dx_G tX E (d + 1) RRU cRU_allChildrenDone 3 (some .boolean) po 0 [some (.inr 4), some (.inl a1), none] [] σ
  refine dx_iconst (v := 1) dRU_allChildrenDone_0 (by decide) ?_
  refine dx_istore_n (L' := [some (.inr 4), some (.inl a1), some (.inl 1)]) dRU_allChildrenDone_1 (Nat.le_of_ble_eq_true rfl) rfl ?_
  exact dx_less (L' := [some (.inr 4), some (.inl a1), some (.inl 1)]) ⟨rfl, rfl, rfl, trivial⟩ h
set_option maxRecDepth 100000 in
set_option maxHeartbeats 4000000 in
theorem r_RU_allChildrenDone_2 {E : dx_E} {d : Nat} {po : dx_P} {v1 v2 : Int32} {σ : dx_V} (h : ((σ 1 6) < v2 → po (some 1) σ) ∧ (¬ (σ 1 6) < v2 → vp_in v1 16 ∧ (dx_ci (m_MC_isIn E d v2 (σ 14 v1.toNatClampNeg) σ) (fun x2 σ1 => (x2 = 0 → g_RU_allChildrenDone_2 E (d + 1) po v1 (v2 + 1) σ1) ∧ (¬ x2 = 0 → dx_ci (m_RU_hasActiveFinalChild E d v2 σ1) (fun x4 σ3 => (¬ x4 = 0 → g_RU_allChildrenDone_2 E (d + 1) po v1 (v2 + 1) σ3) ∧ (x4 = 0 → po (some 0) σ3))))))) : g_RU_allChildrenDone_2 E (d + 1) po v1 v2 σ := by
  show dx_G tX E (d + 1) RRU cRU_allChildrenDone 3 (some .boolean) po 2 [some (.inr 4), some (.inl v1), some (.inl v2)] [] σ
  refine dx_iload_n dRU_allChildrenDone_2 rfl ?_
  refine dx_aload_n dRU_allChildrenDone_3 rfl ?_
  refine dx_getr dRU_allChildrenDone_4 flRU_48 rfl rfl ?_
  refine dx_geti dRU_allChildrenDone_7 flRU_141 rfl rfl ?_
  refine dx_icmp_gt 45 dRU_allChildrenDone_10 (by decide) (fun q => ?_) (fun q => ?_)
  · have h := h.1 q
    refine dx_iconst (v := 1) dRU_allChildrenDone_45 (by decide) ?_
    exact dx_ret dRU_allChildrenDone_46 rfl rfl h
  · have h := h.2 q
    refine dx_iload_n dRU_allChildrenDone_13 rfl ?_
    refine dx_aload_n dRU_allChildrenDone_14 rfl ?_
    refine dx_getr dRU_allChildrenDone_15 flRU_48 rfl rfl ?_
    refine dx_getr dRU_allChildrenDone_18 flRU_158 rfl rfl ?_
    refine dx_iload_n dRU_allChildrenDone_21 rfl ?_
    obtain ⟨hi, h⟩ := h
    refine dx_iaload dRU_allChildrenDone_22 rfl hi ?_
    obtain ⟨pp, hm, hk⟩ := h
    refine dx_callsi [.inl v2, .inl (σ 14 v1.toNatClampNeg)] [] dRU_allChildrenDone_23 csRU_148 (Nat.le_of_ble_eq_true rfl) rfl hm (fun x2 σ1 hp => ?_)
    have h := hk x2 σ1 hp
    refine dx_if_eq 39 dRU_allChildrenDone_26 (by decide) (fun q => ?_) (fun q => ?_)
    · have h := h.1 q
      refine dx_iinc (v := v2 + 1) (L' := [some (.inr 4), some (.inl v1), some (.inl (v2 + 1))]) dRU_allChildrenDone_39 rfl rfl rfl ?_
      refine dx_goto 2 dRU_allChildrenDone_42 (by decide) ?_
      exact dx_less (L' := [some (.inr 4), some (.inl v1), some (.inl (v2 + 1))]) ⟨rfl, rfl, rfl, trivial⟩ h
    · have h := h.2 q
      refine dx_aload_n dRU_allChildrenDone_29 rfl ?_
      refine dx_iload_n dRU_allChildrenDone_30 rfl ?_
      obtain ⟨pp, hm, hk⟩ := h
      refine dx_callvi [.inl v2] [] dRU_allChildrenDone_31 cvRU_206 rfl (Nat.le_of_ble_eq_true rfl) rfl hm (fun x4 σ3 hp => ?_)
      have h := hk x4 σ3 hp
      refine dx_if_ne 39 dRU_allChildrenDone_34 (by decide) (fun q => ?_) (fun q => ?_)
      · have h := h.1 q
        refine dx_iinc (v := v2 + 1) (L' := [some (.inr 4), some (.inl v1), some (.inl (v2 + 1))]) dRU_allChildrenDone_39 rfl rfl rfl ?_
        refine dx_goto 2 dRU_allChildrenDone_42 (by decide) ?_
        exact dx_less (L' := [some (.inr 4), some (.inl v1), some (.inl (v2 + 1))]) ⟨rfl, rfl, rfl, trivial⟩ h
      · have h := h.2 q
        refine dx_iconst (v := 0) dRU_allChildrenDone_37 (by decide) ?_
        exact dx_ret dRU_allChildrenDone_38 rfl rfl h
def g_RU_hasActiveFinalChild_20 (E : dx_E) (d : Nat) (po : dx_P) (v2 v3 : Int32) (σ : dx_V) : Prop := dx_G tX E d RRU cRU_hasActiveFinalChild 4 (some .boolean) po 20 [some (.inr 4), none, some (.inl v2), some (.inl v3)] [] σ
set_option maxRecDepth 100000 in
set_option maxHeartbeats 4000000 in
theorem r_RU_hasActiveFinalChild {E : dx_E} {d : Nat} {a1 : Int32} {σ : dx_V} {po : dx_P} (h : vp_in a1 16 ∧ (g_RU_hasActiveFinalChild_20 E (d + 1) po ((σ 14 a1.toNatClampNeg) &&& (σ 5 1)) 1 σ)) : m_RU_hasActiveFinalChild E (d + 1) a1 σ po := by
  refine dx_entry (by decide) (Nat.le_of_ble_eq_true rfl) ?_
  show dx_G tX E (d + 1) RRU cRU_hasActiveFinalChild 4 (some .boolean) po 0 [some (.inr 4), some (.inl a1), none, none] [] σ
  refine dx_aload_n dRU_hasActiveFinalChild_0 rfl ?_
  refine dx_getr dRU_hasActiveFinalChild_1 flRU_48 rfl rfl ?_
  refine dx_getr dRU_hasActiveFinalChild_4 flRU_158 rfl rfl ?_
  refine dx_iload_n dRU_hasActiveFinalChild_7 rfl ?_
  obtain ⟨hi, h⟩ := h
  refine dx_iaload dRU_hasActiveFinalChild_8 rfl hi ?_
  refine dx_aload_n dRU_hasActiveFinalChild_9 rfl ?_
  refine dx_getr dRU_hasActiveFinalChild_10 flRU_12 rfl rfl ?_
  refine dx_geti dRU_hasActiveFinalChild_13 flRU_155 rfl rfl ?_
  refine dx_iand dRU_hasActiveFinalChild_16 ?_
  refine dx_istore_n (L' := [some (.inr 4), some (.inl a1), some (.inl ((σ 14 a1.toNatClampNeg) &&& (σ 5 1))), none]) dRU_hasActiveFinalChild_17 (Nat.le_of_ble_eq_true rfl) rfl ?_
  refine dx_iconst (v := 1) dRU_hasActiveFinalChild_18 (by decide) ?_
  refine dx_istore_n (L' := [some (.inr 4), some (.inl a1), some (.inl ((σ 14 a1.toNatClampNeg) &&& (σ 5 1))), some (.inl 1)]) dRU_hasActiveFinalChild_19 (Nat.le_of_ble_eq_true rfl) rfl ?_
  exact dx_less (L' := [some (.inr 4), none, some (.inl ((σ 14 a1.toNatClampNeg) &&& (σ 5 1))), some (.inl 1)]) ⟨rfl, rfl, rfl, trivial⟩ h
set_option maxRecDepth 100000 in
set_option maxHeartbeats 4000000 in
theorem r_RU_hasActiveFinalChild_20 {E : dx_E} {d : Nat} {po : dx_P} {v2 v3 : Int32} {σ : dx_V} (h : ((σ 1 6) < v3 → po (some 0) σ) ∧ (¬ (σ 1 6) < v3 → dx_ci (m_MC_isIn E d v3 v2 σ) (fun x2 σ1 => (x2 = 0 → g_RU_hasActiveFinalChild_20 E (d + 1) po v2 (v3 + 1) σ1) ∧ (¬ x2 = 0 → vp_in v3 16 ∧ ((¬ (σ1 11 v3.toNatClampNeg) = 3 → g_RU_hasActiveFinalChild_20 E (d + 1) po v2 (v3 + 1) σ1) ∧ ((σ1 11 v3.toNatClampNeg) = 3 → po (some 1) σ1)))))) : g_RU_hasActiveFinalChild_20 E (d + 1) po v2 v3 σ := by
  show dx_G tX E (d + 1) RRU cRU_hasActiveFinalChild 4 (some .boolean) po 20 [some (.inr 4), none, some (.inl v2), some (.inl v3)] [] σ
  refine dx_iload_n dRU_hasActiveFinalChild_20 rfl ?_
  refine dx_aload_n dRU_hasActiveFinalChild_21 rfl ?_
  refine dx_getr dRU_hasActiveFinalChild_22 flRU_48 rfl rfl ?_
  refine dx_geti dRU_hasActiveFinalChild_25 flRU_141 rfl rfl ?_
  refine dx_icmp_gt 60 dRU_hasActiveFinalChild_28 (by decide) (fun q => ?_) (fun q => ?_)
  · have h := h.1 q
    refine dx_iconst (v := 0) dRU_hasActiveFinalChild_60 (by decide) ?_
    exact dx_ret dRU_hasActiveFinalChild_61 rfl rfl h
  · have h := h.2 q
    refine dx_iload_n dRU_hasActiveFinalChild_31 rfl ?_
    refine dx_iload_n dRU_hasActiveFinalChild_32 rfl ?_
    obtain ⟨pp, hm, hk⟩ := h
    refine dx_callsi [.inl v3, .inl v2] [] dRU_hasActiveFinalChild_33 csRU_148 (Nat.le_of_ble_eq_true rfl) rfl hm (fun x2 σ1 hp => ?_)
    have h := hk x2 σ1 hp
    refine dx_if_eq 54 dRU_hasActiveFinalChild_36 (by decide) (fun q => ?_) (fun q => ?_)
    · have h := h.1 q
      refine dx_iinc (v := v3 + 1) (L' := [some (.inr 4), none, some (.inl v2), some (.inl (v3 + 1))]) dRU_hasActiveFinalChild_54 rfl rfl rfl ?_
      refine dx_goto 20 dRU_hasActiveFinalChild_57 (by decide) ?_
      exact dx_less (L' := [some (.inr 4), none, some (.inl v2), some (.inl (v3 + 1))]) ⟨rfl, rfl, rfl, trivial⟩ h
    · have h := h.2 q
      refine dx_aload_n dRU_hasActiveFinalChild_39 rfl ?_
      refine dx_getr dRU_hasActiveFinalChild_40 flRU_48 rfl rfl ?_
      refine dx_getr dRU_hasActiveFinalChild_43 flRU_152 rfl rfl ?_
      refine dx_iload_n dRU_hasActiveFinalChild_46 rfl ?_
      obtain ⟨hi, h⟩ := h
      refine dx_iaload dRU_hasActiveFinalChild_47 rfl hi ?_
      refine dx_iconst (v := 3) dRU_hasActiveFinalChild_48 (by decide) ?_
      refine dx_icmp_ne 54 dRU_hasActiveFinalChild_49 (by decide) (fun q => ?_) (fun q => ?_)
      · have h := h.1 q
        refine dx_iinc (v := v3 + 1) (L' := [some (.inr 4), none, some (.inl v2), some (.inl (v3 + 1))]) dRU_hasActiveFinalChild_54 rfl rfl rfl ?_
        refine dx_goto 20 dRU_hasActiveFinalChild_57 (by decide) ?_
        exact dx_less (L' := [some (.inr 4), none, some (.inl v2), some (.inl (v3 + 1))]) ⟨rfl, rfl, rfl, trivial⟩ h
      · have h := h.2 q
        refine dx_iconst (v := 1) dRU_hasActiveFinalChild_52 (by decide) ?_
        exact dx_ret dRU_hasActiveFinalChild_53 rfl rfl h
def g_RU_doActions_2 (E : dx_E) (d : Nat) (po : dx_P) (v1 v2 : Int32) (σ : dx_V) : Prop := dx_G tX E d RRU cRU_doActions 3 none po 2 [some (.inr 4), some (.inl v1), some (.inl v2)] [] σ
set_option maxRecDepth 100000 in
set_option maxHeartbeats 4000000 in
theorem r_RU_doActions {E : dx_E} {d : Nat} {a1 : Int32} {σ : dx_V} {po : dx_P} (h : g_RU_doActions_2 E (d + 1) po a1 0 σ) : m_RU_doActions E (d + 1) a1 σ po := by
  refine dx_entry (by decide) (Nat.le_of_ble_eq_true rfl) ?_
  show dx_G tX E (d + 1) RRU cRU_doActions 3 none po 0 [some (.inr 4), some (.inl a1), none] [] σ
  refine dx_iconst (v := 0) dRU_doActions_0 (by decide) ?_
  refine dx_istore_n (L' := [some (.inr 4), some (.inl a1), some (.inl 0)]) dRU_doActions_1 (Nat.le_of_ble_eq_true rfl) rfl ?_
  exact dx_less (L' := [some (.inr 4), some (.inl a1), some (.inl 0)]) ⟨rfl, rfl, rfl, trivial⟩ h
set_option maxRecDepth 100000 in
set_option maxHeartbeats 4000000 in
theorem r_RU_doActions_2 {E : dx_E} {d : Nat} {po : dx_P} {v1 v2 : Int32} {σ : dx_V} (h : ((σ 3 4) ≤ v2 → po none σ) ∧ (¬ (σ 3 4) ≤ v2 → dx_ci (m_RU_isGoingOn E d σ) (fun x2 σ1 => (x2 = 0 → po none σ1) ∧ (¬ x2 = 0 → vp_in v2 32 ∧ ((¬ (σ1 24 v2.toNatClampNeg) = v1 → g_RU_doActions_2 E (d + 1) po v1 (v2 + 1) σ1) ∧ ((σ1 24 v2.toNatClampNeg) = v1 → vp_in v2 32 ∧ (vp_in v2 32 ∧ (vp_in v2 32 ∧ (dx_cu (m_RU_doAction E d (σ1 25 v2.toNatClampNeg) (σ1 26 v2.toNatClampNeg) (σ1 27 v2.toNatClampNeg) σ1) (fun σ3 => g_RU_doActions_2 E (d + 1) po v1 (v2 + 1) σ3)))))))))) : g_RU_doActions_2 E (d + 1) po v1 v2 σ := by
  show dx_G tX E (d + 1) RRU cRU_doActions 3 none po 2 [some (.inr 4), some (.inl v1), some (.inl v2)] [] σ
  refine dx_iload_n dRU_doActions_2 rfl ?_
  refine dx_aload_n dRU_doActions_3 rfl ?_
  refine dx_getr dRU_doActions_4 flRU_56 rfl rfl ?_
  refine dx_geti dRU_doActions_7 flRU_209 rfl rfl ?_
  refine dx_icmp_ge 70 dRU_doActions_10 (by decide) (fun q => ?_) (fun q => ?_)
  · have h := h.1 q
    exact dx_vret dRU_doActions_70 rfl h
  · have h := h.2 q
    refine dx_aload_n dRU_doActions_13 rfl ?_
    obtain ⟨pp, hm, hk⟩ := h
    refine dx_callvi [] [] dRU_doActions_14 cvRU_118 rfl (Nat.le_of_ble_eq_true rfl) rfl hm (fun x2 σ1 hp => ?_)
    have h := hk x2 σ1 hp
    refine dx_if_eq 70 dRU_doActions_17 (by decide) (fun q => ?_) (fun q => ?_)
    · have h := h.1 q
      exact dx_vret dRU_doActions_70 rfl h
    · have h := h.2 q
      refine dx_aload_n dRU_doActions_20 rfl ?_
      refine dx_getr dRU_doActions_21 flRU_56 rfl rfl ?_
      refine dx_getr dRU_doActions_24 flRU_212 rfl rfl ?_
      refine dx_iload_n dRU_doActions_27 rfl ?_
      obtain ⟨hi, h⟩ := h
      refine dx_iaload dRU_doActions_28 rfl hi ?_
      refine dx_iload_n dRU_doActions_29 rfl ?_
      refine dx_icmp_ne 64 dRU_doActions_30 (by decide) (fun q => ?_) (fun q => ?_)
      · have h := h.1 q
        refine dx_iinc (v := v2 + 1) (L' := [some (.inr 4), some (.inl v1), some (.inl (v2 + 1))]) dRU_doActions_64 rfl rfl rfl ?_
        refine dx_goto 2 dRU_doActions_67 (by decide) ?_
        exact dx_less (L' := [some (.inr 4), some (.inl v1), some (.inl (v2 + 1))]) ⟨rfl, rfl, rfl, trivial⟩ h
      · have h := h.2 q
        refine dx_aload_n dRU_doActions_33 rfl ?_
        refine dx_aload_n dRU_doActions_34 rfl ?_
        refine dx_getr dRU_doActions_35 flRU_56 rfl rfl ?_
        refine dx_getr dRU_doActions_38 flRU_215 rfl rfl ?_
        refine dx_iload_n dRU_doActions_41 rfl ?_
        obtain ⟨hi, h⟩ := h
        refine dx_iaload dRU_doActions_42 rfl hi ?_
        refine dx_aload_n dRU_doActions_43 rfl ?_
        refine dx_getr dRU_doActions_44 flRU_56 rfl rfl ?_
        refine dx_getr dRU_doActions_47 flRU_218 rfl rfl ?_
        refine dx_iload_n dRU_doActions_50 rfl ?_
        obtain ⟨hi, h⟩ := h
        refine dx_iaload dRU_doActions_51 rfl hi ?_
        refine dx_aload_n dRU_doActions_52 rfl ?_
        refine dx_getr dRU_doActions_53 flRU_56 rfl rfl ?_
        refine dx_getr dRU_doActions_56 flRU_221 rfl rfl ?_
        refine dx_iload_n dRU_doActions_59 rfl ?_
        obtain ⟨hi, h⟩ := h
        refine dx_iaload dRU_doActions_60 rfl hi ?_
        obtain ⟨pp, hm, hk⟩ := h
        refine dx_callvv [.inl (σ1 25 v2.toNatClampNeg), .inl (σ1 26 v2.toNatClampNeg), .inl (σ1 27 v2.toNatClampNeg)] [] dRU_doActions_61 cvRU_224 rfl (Nat.le_of_ble_eq_true rfl) rfl hm (fun σ3 hp => ?_)
        have h := hk σ3 hp
        refine dx_iinc (v := v2 + 1) (L' := [some (.inr 4), some (.inl v1), some (.inl (v2 + 1))]) dRU_doActions_64 rfl rfl rfl ?_
        refine dx_goto 2 dRU_doActions_67 (by decide) ?_
        exact dx_less (L' := [some (.inr 4), some (.inl v1), some (.inl (v2 + 1))]) ⟨rfl, rfl, rfl, trivial⟩ h
def g_RU_doAction_102 (E : dx_E) (d : Nat) (po : dx_P) (w1 : Int32) (σ : dx_V) : Prop := dx_G tX E d RRU cRU_doAction 4 none po 102 [none, none, none, none] [.inl w1, .inr 4] σ
set_option maxRecDepth 100000 in
set_option maxHeartbeats 4000000 in
theorem r_RU_doAction {E : dx_E} {d : Nat} {a1 a2 a3 : Int32} {σ : dx_V} {po : dx_P} (h : (a1 = 0 → vp_in a2 4 ∧ (po none (dx_u σ 29 a2.toNatClampNeg a3))) ∧ (a1 = 1 → vp_in a2 4 ∧ (vp_in a2 4 ∧ (po none (dx_u σ 29 a2.toNatClampNeg ((σ 29 a2.toNatClampNeg) + a3))))) ∧ (a1 = 2 → dx_ci (m_LN_put_7 E d a2 σ) (fun x2 σ1 => dx_cu (m_RU_failUnless E d x2 σ1) (fun σ3 => po none σ3))) ∧ (¬ a1 = 0 ∧ ¬ a1 = 1 ∧ ¬ a1 = 2 → (¬ a3 = 0 → dx_ci (m_SV_put E d a2 ((σ 4 10) + a3) σ) (fun x5 σ4 => g_RU_doAction_102 E (d + 1) po x5 σ4)) ∧ (a3 = 0 → dx_ci (m_LN_put_8 E d a2 σ) (fun x7 σ6 => g_RU_doAction_102 E (d + 1) po x7 σ6)))) : m_RU_doAction E (d + 1) a1 a2 a3 σ po := by
  refine dx_entry (by decide) (Nat.le_of_ble_eq_true rfl) ?_
  show dx_G tX E (d + 1) RRU cRU_doAction 4 none po 0 [some (.inr 4), some (.inl a1), some (.inl a2), some (.inl a3)] [] σ
  refine dx_iload_n dRU_doAction_0 rfl ?_
  by_cases q0 : a1 = 0
  · have h := h.1 q0
    refine dx_tableIn 28 dRU_doAction_1 (by rw [q0]; decide) (by rw [q0]; decide) (by rw [q0]; rfl) (by decide) ?_
    refine dx_aload_n dRU_doAction_28 rfl ?_
    refine dx_getr dRU_doAction_29 flRU_12 rfl rfl ?_
    refine dx_getr dRU_doAction_32 flRU_228 rfl rfl ?_
    refine dx_iload_n dRU_doAction_35 rfl ?_
    refine dx_iload_n dRU_doAction_36 rfl ?_
    obtain ⟨hi, h⟩ := h
    refine dx_iastore dRU_doAction_37 rfl hi ?_
    refine dx_goto 105 dRU_doAction_38 (by decide) ?_
    exact dx_vret dRU_doAction_105 rfl h
  by_cases q1 : a1 = 1
  · have h := h.2.1 q1
    refine dx_tableIn 41 dRU_doAction_1 (by rw [q1]; decide) (by rw [q1]; decide) (by rw [q1]; rfl) (by decide) ?_
    refine dx_aload_n dRU_doAction_41 rfl ?_
    refine dx_getr dRU_doAction_42 flRU_12 rfl rfl ?_
    refine dx_getr dRU_doAction_45 flRU_228 rfl rfl ?_
    refine dx_iload_n dRU_doAction_48 rfl ?_
    refine dx_dup2 dRU_doAction_49 ?_
    obtain ⟨hi, h⟩ := h
    refine dx_iaload dRU_doAction_50 rfl hi ?_
    refine dx_iload_n dRU_doAction_51 rfl ?_
    refine dx_iadd dRU_doAction_52 ?_
    obtain ⟨hi, h⟩ := h
    refine dx_iastore dRU_doAction_53 rfl hi ?_
    refine dx_goto 105 dRU_doAction_54 (by decide) ?_
    exact dx_vret dRU_doAction_105 rfl h
  by_cases q2 : a1 = 2
  · have h := h.2.2.1 q2
    refine dx_tableIn 57 dRU_doAction_1 (by rw [q2]; decide) (by rw [q2]; decide) (by rw [q2]; rfl) (by decide) ?_
    refine dx_aload_n dRU_doAction_57 rfl ?_
    refine dx_aload_n dRU_doAction_58 rfl ?_
    refine dx_getr dRU_doAction_59 flRU_23 rfl rfl ?_
    refine dx_iload_n dRU_doAction_62 rfl ?_
    obtain ⟨pp, hm, hk⟩ := h
    refine dx_callvi [.inl a2] [.inr 4] dRU_doAction_63 cvRU_231 rfl (Nat.le_of_ble_eq_true rfl) rfl hm (fun x2 σ1 hp => ?_)
    have h := hk x2 σ1 hp
    obtain ⟨pp, hm, hk⟩ := h
    refine dx_callvv [.inl x2] [] dRU_doAction_66 cvRU_234 rfl (Nat.le_of_ble_eq_true rfl) rfl hm (fun σ3 hp => ?_)
    have h := hk σ3 hp
    refine dx_goto 105 dRU_doAction_69 (by decide) ?_
    exact dx_vret dRU_doAction_105 rfl h
  have h := h.2.2.2 ⟨q0, q1, q2⟩
  have z0 := dx_ne (k := 0) (n := 0) (by decide) q0
  have z1 := dx_ne (k := 1) (n := 1) (by decide) q1
  have z2 := dx_ne (k := 2) (n := 2) (by decide) q2
  refine dx_tableOut 72 dRU_doAction_1 (by omega) (by decide) ?_
  refine dx_aload_n dRU_doAction_72 rfl ?_
  refine dx_iload_n dRU_doAction_73 rfl ?_
  refine dx_if_ne 88 dRU_doAction_74 (by decide) (fun q => ?_) (fun q => ?_)
  · have h := h.1 q
    refine dx_aload_n dRU_doAction_88 rfl ?_
    refine dx_getr dRU_doAction_89 flRU_36 rfl rfl ?_
    refine dx_iload_n dRU_doAction_92 rfl ?_
    refine dx_aload_n dRU_doAction_93 rfl ?_
    refine dx_geti dRU_doAction_94 flRU_82 rfl rfl ?_
    refine dx_iload_n dRU_doAction_97 rfl ?_
    refine dx_iadd dRU_doAction_98 ?_
    obtain ⟨pp, hm, hk⟩ := h
    refine dx_callvi [.inl a2, .inl ((σ 4 10) + a3)] [.inr 4] dRU_doAction_99 cvRU_238 rfl (Nat.le_of_ble_eq_true rfl) rfl hm (fun x5 σ4 hp => ?_)
    have h := hk x5 σ4 hp
    exact dx_less (L' := [none, none, none, none]) trivial h
  · have h := h.2 q
    refine dx_aload_n dRU_doAction_77 rfl ?_
    refine dx_getr dRU_doAction_78 flRU_27 rfl rfl ?_
    refine dx_iload_n dRU_doAction_81 rfl ?_
    obtain ⟨pp, hm, hk⟩ := h
    refine dx_callvi [.inl a2] [.inr 4] dRU_doAction_82 cvRU_231 rfl (Nat.le_of_ble_eq_true rfl) rfl hm (fun x7 σ6 hp => ?_)
    have h := hk x7 σ6 hp
    refine dx_goto 102 dRU_doAction_85 (by decide) ?_
    exact dx_less (L' := [none, none, none, none]) trivial h
set_option maxRecDepth 100000 in
set_option maxHeartbeats 4000000 in
theorem r_RU_doAction_102 {E : dx_E} {d : Nat} {po : dx_P} {w1 : Int32} {σ : dx_V} (h : dx_cu (m_RU_failUnless E d w1 σ) (fun σ1 => po none σ1)) : g_RU_doAction_102 E (d + 1) po w1 σ := by
  show dx_G tX E (d + 1) RRU cRU_doAction 4 none po 102 [none, none, none, none] [.inl w1, .inr 4] σ
  obtain ⟨pp, hm, hk⟩ := h
  refine dx_callvv [.inl w1] [] dRU_doAction_102 cvRU_234 rfl (Nat.le_of_ble_eq_true rfl) rfl hm (fun σ1 hp => ?_)
  have h := hk σ1 hp
  exact dx_vret dRU_doAction_105 rfl h
set_option maxRecDepth 100000 in
set_option maxHeartbeats 4000000 in
theorem r_RU_putRecord {E : dx_E} {d : Nat} {a1 : Int32} {σ : dx_V} {po : dx_P} (h : dx_ci (m_RU_isGoingOn E d σ) (fun x2 σ1 => (x2 = 0 → po none σ1) ∧ (¬ x2 = 0 → dx_ci (m_LN_put_9 E d a1 σ1) (fun x4 σ3 => dx_cu (m_RU_failUnless E d x4 σ3) (fun σ5 => po none σ5))))) : m_RU_putRecord E (d + 1) a1 σ po := by
  refine dx_entry (by decide) (Nat.le_of_ble_eq_true rfl) ?_
  show dx_G tX E (d + 1) RRU cRU_putRecord 2 none po 0 [some (.inr 4), some (.inl a1)] [] σ
  refine dx_aload_n dRU_putRecord_0 rfl ?_
  obtain ⟨pp, hm, hk⟩ := h
  refine dx_callvi [] [] dRU_putRecord_1 cvRU_118 rfl (Nat.le_of_ble_eq_true rfl) rfl hm (fun x2 σ1 hp => ?_)
  have h := hk x2 σ1 hp
  refine dx_if_eq 19 dRU_putRecord_4 (by decide) (fun q => ?_) (fun q => ?_)
  · have h := h.1 q
    exact dx_vret dRU_putRecord_19 rfl h
  · have h := h.2 q
    refine dx_aload_n dRU_putRecord_7 rfl ?_
    refine dx_aload_n dRU_putRecord_8 rfl ?_
    refine dx_getr dRU_putRecord_9 flRU_30 rfl rfl ?_
    refine dx_iload_n dRU_putRecord_12 rfl ?_
    obtain ⟨pp, hm, hk⟩ := h
    refine dx_callvi [.inl a1] [.inr 4] dRU_putRecord_13 cvRU_231 rfl (Nat.le_of_ble_eq_true rfl) rfl hm (fun x4 σ3 hp => ?_)
    have h := hk x4 σ3 hp
    obtain ⟨pp, hm, hk⟩ := h
    refine dx_callvv [.inl x4] [] dRU_putRecord_16 cvRU_234 rfl (Nat.le_of_ble_eq_true rfl) rfl hm (fun σ5 hp => ?_)
    have h := hk σ5 hp
    exact dx_vret dRU_putRecord_19 rfl h
set_option maxRecDepth 100000 in
set_option maxHeartbeats 4000000 in
theorem r_RU_putInternal {E : dx_E} {d : Nat} {a1 : Int32} {σ : dx_V} {po : dx_P} (h : dx_ci (m_RU_isGoingOn E d σ) (fun x2 σ1 => (x2 = 0 → po none σ1) ∧ (¬ x2 = 0 → dx_ci (m_LN_put_7 E d a1 σ1) (fun x4 σ3 => dx_cu (m_RU_failUnless E d x4 σ3) (fun σ5 => po none σ5))))) : m_RU_putInternal E (d + 1) a1 σ po := by
  refine dx_entry (by decide) (Nat.le_of_ble_eq_true rfl) ?_
  show dx_G tX E (d + 1) RRU cRU_putInternal 2 none po 0 [some (.inr 4), some (.inl a1)] [] σ
  refine dx_aload_n dRU_putInternal_0 rfl ?_
  obtain ⟨pp, hm, hk⟩ := h
  refine dx_callvi [] [] dRU_putInternal_1 cvRU_118 rfl (Nat.le_of_ble_eq_true rfl) rfl hm (fun x2 σ1 hp => ?_)
  have h := hk x2 σ1 hp
  refine dx_if_eq 19 dRU_putInternal_4 (by decide) (fun q => ?_) (fun q => ?_)
  · have h := h.1 q
    exact dx_vret dRU_putInternal_19 rfl h
  · have h := h.2 q
    refine dx_aload_n dRU_putInternal_7 rfl ?_
    refine dx_aload_n dRU_putInternal_8 rfl ?_
    refine dx_getr dRU_putInternal_9 flRU_23 rfl rfl ?_
    refine dx_iload_n dRU_putInternal_12 rfl ?_
    obtain ⟨pp, hm, hk⟩ := h
    refine dx_callvi [.inl a1] [.inr 4] dRU_putInternal_13 cvRU_231 rfl (Nat.le_of_ble_eq_true rfl) rfl hm (fun x4 σ3 hp => ?_)
    have h := hk x4 σ3 hp
    obtain ⟨pp, hm, hk⟩ := h
    refine dx_callvv [.inl x4] [] dRU_putInternal_16 cvRU_234 rfl (Nat.le_of_ble_eq_true rfl) rfl hm (fun σ5 hp => ?_)
    have h := hk σ5 hp
    exact dx_vret dRU_putInternal_19 rfl h
set_option maxRecDepth 100000 in
set_option maxHeartbeats 4000000 in
theorem r_RU_failUnless {E : dx_E} {d : Nat} {a1 : Int32} {σ : dx_V} {po : dx_P} (h : (¬ a1 = 0 → po none σ) ∧ (a1 = 0 → po none (dx_u σ 4 12 4))) : m_RU_failUnless E d a1 σ po := by
  refine dx_entry (by decide) (Nat.le_of_ble_eq_true rfl) ?_
  show dx_G tX E d RRU cRU_failUnless 2 none po 0 [some (.inr 4), some (.inl a1)] [] σ
  refine dx_iload_n dRU_failUnless_0 rfl ?_
  refine dx_if_ne 9 dRU_failUnless_1 (by decide) (fun q => ?_) (fun q => ?_)
  · have h := h.1 q
    exact dx_vret dRU_failUnless_9 rfl h
  · have h := h.2 q
    refine dx_aload_n dRU_failUnless_4 rfl ?_
    refine dx_iconst (v := 4) dRU_failUnless_5 (by decide) ?_
    refine dx_put dRU_failUnless_6 fpRU_44 rfl rfl (Or.inl rfl) ?_
    exact dx_vret dRU_failUnless_9 rfl h
def g_RU_advanceClock_18 (E : dx_E) (d : Nat) (po : dx_P) (v2 : Int32) (σ : dx_V) : Prop := dx_G tX E d RRU cRU_advanceClock 4 none po 18 [some (.inr 4), none, some (.inl v2), none] [] σ
set_option maxRecDepth 100000 in
set_option maxHeartbeats 4000000 in
theorem r_RU_advanceClock {E : dx_E} {d : Nat} {a1 : Int32} {σ : dx_V} {po : dx_P} (h : g_RU_advanceClock_18 E (d + 1) po (σ 10 2) (dx_u σ 4 10 ((σ 4 10) + a1))) : m_RU_advanceClock E (d + 1) a1 σ po := by
  refine dx_entry (by decide) (Nat.le_of_ble_eq_true rfl) ?_
  show dx_G tX E (d + 1) RRU cRU_advanceClock 4 none po 0 [some (.inr 4), some (.inl a1), none, none] [] σ
  refine dx_aload_n dRU_advanceClock_0 rfl ?_
  refine dx_dup dRU_advanceClock_1 ?_
  refine dx_geti dRU_advanceClock_2 flRU_82 rfl rfl ?_
  refine dx_iload_n dRU_advanceClock_5 rfl ?_
  refine dx_iadd dRU_advanceClock_6 ?_
  refine dx_put dRU_advanceClock_7 fpRU_82 rfl rfl (Or.inl rfl) ?_
  refine dx_aload_n dRU_advanceClock_10 rfl ?_
  refine dx_getr dRU_advanceClock_11 flRU_36 rfl rfl ?_
  refine dx_geti dRU_advanceClock_14 flRU_73 rfl rfl ?_
  refine dx_istore_n (L' := [some (.inr 4), some (.inl a1), some (.inl (σ 10 2)), none]) dRU_advanceClock_17 (Nat.le_of_ble_eq_true rfl) rfl ?_
  exact dx_less (L' := [some (.inr 4), none, some (.inl (σ 10 2)), none]) ⟨rfl, rfl, trivial⟩ h
set_option maxRecDepth 100000 in
set_option maxHeartbeats 4000000 in
theorem r_RU_advanceClock_18 {E : dx_E} {d : Nat} {po : dx_P} {v2 : Int32} {σ : dx_V} (h : (v2 ≤ 0 → po none σ) ∧ (¬ v2 ≤ 0 → dx_ci (m_SV_placeOfEarliest E d (σ 4 10) σ) (fun x2 σ1 => (¬ x2 = (-1) → vp_in x2 12 ∧ (dx_ci (m_LN_put_8 E d (σ1 35 x2.toNatClampNeg) σ1) (fun x4 σ3 => (¬ x4 = 0 → dx_cu (m_SV_drop E d x2 σ3) (fun σ5 => g_RU_advanceClock_18 E (d + 1) po (v2 + (-1)) σ5)) ∧ (x4 = 0 → po none (dx_u σ3 4 12 4))))) ∧ (x2 = (-1) → po none σ1)))) : g_RU_advanceClock_18 E (d + 1) po v2 σ := by
  show dx_G tX E (d + 1) RRU cRU_advanceClock 4 none po 18 [some (.inr 4), none, some (.inl v2), none] [] σ
  refine dx_iload_n dRU_advanceClock_18 rfl ?_
  refine dx_if_le 79 dRU_advanceClock_19 (by decide) (fun q => ?_) (fun q => ?_)
  · have h := h.1 q
    exact dx_vret dRU_advanceClock_79 rfl h
  · have h := h.2 q
    refine dx_aload_n dRU_advanceClock_22 rfl ?_
    refine dx_getr dRU_advanceClock_23 flRU_36 rfl rfl ?_
    refine dx_aload_n dRU_advanceClock_26 rfl ?_
    refine dx_geti dRU_advanceClock_27 flRU_82 rfl rfl ?_
    obtain ⟨pp, hm, hk⟩ := h
    refine dx_callvi [.inl (σ 4 10)] [] dRU_advanceClock_30 cvRU_240 rfl (Nat.le_of_ble_eq_true rfl) rfl hm (fun x2 σ1 hp => ?_)
    have h := hk x2 σ1 hp
    refine dx_istore_n (L' := [some (.inr 4), none, some (.inl v2), some (.inl x2)]) dRU_advanceClock_33 (Nat.le_of_ble_eq_true rfl) rfl ?_
    refine dx_iload_n dRU_advanceClock_34 rfl ?_
    refine dx_iconst (v := (-1)) dRU_advanceClock_35 (by decide) ?_
    refine dx_icmp_ne 40 dRU_advanceClock_36 (by decide) (fun q => ?_) (fun q => ?_)
    · have h := h.1 q
      refine dx_aload_n dRU_advanceClock_40 rfl ?_
      refine dx_getr dRU_advanceClock_41 flRU_27 rfl rfl ?_
      refine dx_aload_n dRU_advanceClock_44 rfl ?_
      refine dx_getr dRU_advanceClock_45 flRU_36 rfl rfl ?_
      refine dx_getr dRU_advanceClock_48 flRU_243 rfl rfl ?_
      refine dx_iload_n dRU_advanceClock_51 rfl ?_
      obtain ⟨hi, h⟩ := h
      refine dx_iaload dRU_advanceClock_52 rfl hi ?_
      obtain ⟨pp, hm, hk⟩ := h
      refine dx_callvi [.inl (σ1 35 x2.toNatClampNeg)] [] dRU_advanceClock_53 cvRU_231 rfl (Nat.le_of_ble_eq_true rfl) rfl hm (fun x4 σ3 hp => ?_)
      have h := hk x4 σ3 hp
      refine dx_if_ne 65 dRU_advanceClock_56 (by decide) (fun q => ?_) (fun q => ?_)
      · have h := h.1 q
        refine dx_aload_n dRU_advanceClock_65 rfl ?_
        refine dx_getr dRU_advanceClock_66 flRU_36 rfl rfl ?_
        refine dx_iload_n dRU_advanceClock_69 rfl ?_
        obtain ⟨pp, hm, hk⟩ := h
        refine dx_callvv [.inl x2] [] dRU_advanceClock_70 cvRU_246 rfl (Nat.le_of_ble_eq_true rfl) rfl hm (fun σ5 hp => ?_)
        have h := hk σ5 hp
        refine dx_iinc (v := v2 + (-1)) (L' := [some (.inr 4), none, some (.inl (v2 + (-1))), some (.inl x2)]) dRU_advanceClock_73 rfl rfl rfl ?_
        refine dx_goto 18 dRU_advanceClock_76 (by decide) ?_
        exact dx_less (L' := [some (.inr 4), none, some (.inl (v2 + (-1))), none]) ⟨rfl, rfl, trivial⟩ h
      · have h := h.2 q
        refine dx_aload_n dRU_advanceClock_59 rfl ?_
        refine dx_iconst (v := 4) dRU_advanceClock_60 (by decide) ?_
        refine dx_put dRU_advanceClock_61 fpRU_44 rfl rfl (Or.inl rfl) ?_
        exact dx_vret dRU_advanceClock_64 rfl h
    · have h := h.2 q
      exact dx_vret dRU_advanceClock_39 rfl h
def g_SE_chooseFor_12 (E : dx_E) (d : Nat) (po : dx_P) (v1 v2 : Int32) (σ : dx_V) : Prop := dx_G tX E d RSE cSE_chooseFor 3 (some .boolean) po 12 [some (.inr 6), some (.inl v1), some (.inl v2)] [] σ
def g_SE_chooseFor_66 (E : dx_E) (d : Nat) (po : dx_P) (v2 : Int32) (σ : dx_V) : Prop := dx_G tX E d RSE cSE_chooseFor 3 (some .boolean) po 66 [some (.inr 6), none, some (.inl v2)] [] σ
set_option maxRecDepth 100000 in
set_option maxHeartbeats 4000000 in
theorem r_SE_chooseFor {E : dx_E} {d : Nat} {a1 : Int32} {σ : dx_V} {po : dx_P} (h : g_SE_chooseFor_12 E (d + 1) po a1 1 (dx_u (dx_u σ 6 5 0) 6 6 0)) : m_SE_chooseFor E (d + 1) a1 σ po := by
  refine dx_entry (by decide) (Nat.le_of_ble_eq_true rfl) ?_
  show dx_G tX E (d + 1) RSE cSE_chooseFor 3 (some .boolean) po 0 [some (.inr 6), some (.inl a1), none] [] σ
  refine dx_aload_n dSE_chooseFor_0 rfl ?_
  refine dx_iconst (v := 0) dSE_chooseFor_1 (by decide) ?_
  refine dx_put dSE_chooseFor_2 fpSE_30 rfl rfl (Or.inl rfl) ?_
  refine dx_aload_n dSE_chooseFor_5 rfl ?_
  refine dx_iconst (v := 0) dSE_chooseFor_6 (by decide) ?_
  refine dx_put dSE_chooseFor_7 fpSE_34 rfl rfl (Or.inl rfl) ?_
  refine dx_iconst (v := 1) dSE_chooseFor_10 (by decide) ?_
  refine dx_istore_n (L' := [some (.inr 6), some (.inl a1), some (.inl 1)]) dSE_chooseFor_11 (Nat.le_of_ble_eq_true rfl) rfl ?_
  exact dx_less (L' := [some (.inr 6), some (.inl a1), some (.inl 1)]) ⟨rfl, rfl, rfl, trivial⟩ h
set_option maxRecDepth 100000 in
set_option maxHeartbeats 4000000 in
theorem r_SE_chooseFor_12 {E : dx_E} {d : Nat} {po : dx_P} {v1 v2 : Int32} {σ : dx_V} (h : ((σ 1 6) < v2 → g_SE_chooseFor_66 E (d + 1) po 0 σ) ∧ (¬ (σ 1 6) < v2 → dx_ci (m_MC_isIn E d v2 (σ 5 1) σ) (fun x2 σ1 => (x2 = 0 → g_SE_chooseFor_12 E (d + 1) po v1 (v2 + 1) σ1) ∧ (¬ x2 = 0 → dx_ci (m_ST_isAtomic E d v2 σ1) (fun x4 σ3 => (x4 = 0 → g_SE_chooseFor_12 E (d + 1) po v1 (v2 + 1) σ3) ∧ (¬ x4 = 0 → dx_ci (m_SE_nearestEnabled E d v2 v1 σ3) (fun x6 σ5 => dx_cu (m_SE_select E d x6 σ5) (fun σ7 => g_SE_chooseFor_12 E (d + 1) po v1 (v2 + 1) σ7)))))))) : g_SE_chooseFor_12 E (d + 1) po v1 v2 σ := by
  show dx_G tX E (d + 1) RSE cSE_chooseFor 3 (some .boolean) po 12 [some (.inr 6), some (.inl v1), some (.inl v2)] [] σ
  refine dx_iload_n dSE_chooseFor_12 rfl ?_
  refine dx_aload_n dSE_chooseFor_13 rfl ?_
  refine dx_getr dSE_chooseFor_14 flSE_18 rfl rfl ?_
  refine dx_geti dSE_chooseFor_17 flSE_37 rfl rfl ?_
  refine dx_icmp_gt 64 dSE_chooseFor_20 (by decide) (fun q => ?_) (fun q => ?_)
  · have h := h.1 q
    refine dx_iconst (v := 0) dSE_chooseFor_64 (by decide) ?_
    refine dx_istore_n (L' := [some (.inr 6), some (.inl v1), some (.inl 0)]) dSE_chooseFor_65 (Nat.le_of_ble_eq_true rfl) rfl ?_
    exact dx_less (L' := [some (.inr 6), none, some (.inl 0)]) ⟨rfl, rfl, trivial⟩ h
  · have h := h.2 q
    refine dx_iload_n dSE_chooseFor_23 rfl ?_
    refine dx_aload_n dSE_chooseFor_24 rfl ?_
    refine dx_getr dSE_chooseFor_25 flSE_26 rfl rfl ?_
    refine dx_geti dSE_chooseFor_28 flSE_42 rfl rfl ?_
    obtain ⟨pp, hm, hk⟩ := h
    refine dx_callsi [.inl v2, .inl (σ 5 1)] [] dSE_chooseFor_31 csSE_47 (Nat.le_of_ble_eq_true rfl) rfl hm (fun x2 σ1 hp => ?_)
    have h := hk x2 σ1 hp
    refine dx_if_eq 58 dSE_chooseFor_34 (by decide) (fun q => ?_) (fun q => ?_)
    · have h := h.1 q
      refine dx_iinc (v := v2 + 1) (L' := [some (.inr 6), some (.inl v1), some (.inl (v2 + 1))]) dSE_chooseFor_58 rfl rfl rfl ?_
      refine dx_goto 12 dSE_chooseFor_61 (by decide) ?_
      exact dx_less (L' := [some (.inr 6), some (.inl v1), some (.inl (v2 + 1))]) ⟨rfl, rfl, rfl, trivial⟩ h
    · have h := h.2 q
      refine dx_aload_n dSE_chooseFor_37 rfl ?_
      refine dx_getr dSE_chooseFor_38 flSE_18 rfl rfl ?_
      refine dx_iload_n dSE_chooseFor_41 rfl ?_
      obtain ⟨pp, hm, hk⟩ := h
      refine dx_callvi [.inl v2] [] dSE_chooseFor_42 cvSE_51 rfl (Nat.le_of_ble_eq_true rfl) rfl hm (fun x4 σ3 hp => ?_)
      have h := hk x4 σ3 hp
      refine dx_if_eq 58 dSE_chooseFor_45 (by decide) (fun q => ?_) (fun q => ?_)
      · have h := h.1 q
        refine dx_iinc (v := v2 + 1) (L' := [some (.inr 6), some (.inl v1), some (.inl (v2 + 1))]) dSE_chooseFor_58 rfl rfl rfl ?_
        refine dx_goto 12 dSE_chooseFor_61 (by decide) ?_
        exact dx_less (L' := [some (.inr 6), some (.inl v1), some (.inl (v2 + 1))]) ⟨rfl, rfl, rfl, trivial⟩ h
      · have h := h.2 q
        refine dx_aload_n dSE_chooseFor_48 rfl ?_
        refine dx_aload_n dSE_chooseFor_49 rfl ?_
        refine dx_iload_n dSE_chooseFor_50 rfl ?_
        refine dx_iload_n dSE_chooseFor_51 rfl ?_
        obtain ⟨pp, hm, hk⟩ := h
        refine dx_callvi [.inl v2, .inl v1] [.inr 6] dSE_chooseFor_52 cvSE_55 rfl (Nat.le_of_ble_eq_true rfl) rfl hm (fun x6 σ5 hp => ?_)
        have h := hk x6 σ5 hp
        obtain ⟨pp, hm, hk⟩ := h
        refine dx_callvv [.inl x6] [] dSE_chooseFor_55 cvSE_59 rfl (Nat.le_of_ble_eq_true rfl) rfl hm (fun σ7 hp => ?_)
        have h := hk σ7 hp
        refine dx_iinc (v := v2 + 1) (L' := [some (.inr 6), some (.inl v1), some (.inl (v2 + 1))]) dSE_chooseFor_58 rfl rfl rfl ?_
        refine dx_goto 12 dSE_chooseFor_61 (by decide) ?_
        exact dx_less (L' := [some (.inr 6), some (.inl v1), some (.inl (v2 + 1))]) ⟨rfl, rfl, rfl, trivial⟩ h
set_option maxRecDepth 100000 in
set_option maxHeartbeats 4000000 in
theorem r_SE_chooseFor_66 {E : dx_E} {d : Nat} {po : dx_P} {v2 : Int32} {σ : dx_V} (h : ((σ 6 5) ≤ v2 → ((σ 6 6) ≤ 0 → po (some 0) σ) ∧ (¬ (σ 6 6) ≤ 0 → po (some 1) σ)) ∧ (¬ (σ 6 5) ≤ v2 → vp_in v2 20 ∧ (dx_cu (m_SE_keepIfAllowed E d (σ 30 v2.toNatClampNeg) σ) (fun σ1 => g_SE_chooseFor_66 E (d + 1) po (v2 + 1) σ1)))) : g_SE_chooseFor_66 E (d + 1) po v2 σ := by
  show dx_G tX E (d + 1) RSE cSE_chooseFor 3 (some .boolean) po 66 [some (.inr 6), none, some (.inl v2)] [] σ
  refine dx_iload_n dSE_chooseFor_66 rfl ?_
  refine dx_aload_n dSE_chooseFor_67 rfl ?_
  refine dx_geti dSE_chooseFor_68 flSE_30 rfl rfl ?_
  refine dx_icmp_ge 90 dSE_chooseFor_71 (by decide) (fun q => ?_) (fun q => ?_)
  · have h := h.1 q
    refine dx_aload_n dSE_chooseFor_90 rfl ?_
    refine dx_geti dSE_chooseFor_91 flSE_34 rfl rfl ?_
    refine dx_if_le 101 dSE_chooseFor_94 (by decide) (fun q => ?_) (fun q => ?_)
    · have h := h.1 q
      refine dx_iconst (v := 0) dSE_chooseFor_101 (by decide) ?_
      exact dx_ret dSE_chooseFor_102 rfl rfl h
    · have h := h.2 q
      refine dx_iconst (v := 1) dSE_chooseFor_97 (by decide) ?_
      refine dx_goto 102 dSE_chooseFor_98 (by decide) ?_
      exact dx_ret dSE_chooseFor_102 rfl rfl h
  · have h := h.2 q
    refine dx_aload_n dSE_chooseFor_74 rfl ?_
    refine dx_aload_n dSE_chooseFor_75 rfl ?_
    refine dx_getr dSE_chooseFor_76 flSE_9 rfl rfl ?_
    refine dx_iload_n dSE_chooseFor_79 rfl ?_
    obtain ⟨hi, h⟩ := h
    refine dx_iaload dSE_chooseFor_80 rfl hi ?_
    obtain ⟨pp, hm, hk⟩ := h
    refine dx_callvv [.inl (σ 30 v2.toNatClampNeg)] [] dSE_chooseFor_81 cvSE_63 rfl (Nat.le_of_ble_eq_true rfl) rfl hm (fun σ1 hp => ?_)
    have h := hk σ1 hp
    refine dx_iinc (v := v2 + 1) (L' := [some (.inr 6), none, some (.inl (v2 + 1))]) dSE_chooseFor_84 rfl rfl rfl ?_
    refine dx_goto 66 dSE_chooseFor_87 (by decide) ?_
    exact dx_less (L' := [some (.inr 6), none, some (.inl (v2 + 1))]) ⟨rfl, rfl, trivial⟩ h
def g_SE_select_8 (E : dx_E) (d : Nat) (po : dx_P) (v1 v2 : Int32) (σ : dx_V) : Prop := dx_G tX E d RSE cSE_select 3 none po 8 [some (.inr 6), some (.inl v1), some (.inl v2)] [] σ
set_option maxRecDepth 100000 in
set_option maxHeartbeats 4000000 in
theorem r_SE_select {E : dx_E} {d : Nat} {a1 : Int32} {σ : dx_V} {po : dx_P} (h : (¬ a1 = (-1) → g_SE_select_8 E d po a1 0 σ) ∧ (a1 = (-1) → po none σ)) : m_SE_select E d a1 σ po := by
  refine dx_entry (by decide) (Nat.le_of_ble_eq_true rfl) ?_
  show dx_G tX E d RSE cSE_select 3 none po 0 [some (.inr 6), some (.inl a1), none] [] σ
  refine dx_iload_n dSE_select_0 rfl ?_
  refine dx_iconst (v := (-1)) dSE_select_1 (by decide) ?_
  refine dx_icmp_ne 6 dSE_select_2 (by decide) (fun q => ?_) (fun q => ?_)
  · have h := h.1 q
    refine dx_iconst (v := 0) dSE_select_6 (by decide) ?_
    refine dx_istore_n (L' := [some (.inr 6), some (.inl a1), some (.inl 0)]) dSE_select_7 (Nat.le_of_ble_eq_true rfl) rfl ?_
    exact dx_less (L' := [some (.inr 6), some (.inl a1), some (.inl 0)]) ⟨rfl, rfl, rfl, trivial⟩ h
  · have h := h.2 q
    exact dx_vret dSE_select_5 rfl h
set_option maxRecDepth 100000 in
set_option maxHeartbeats 4000000 in
theorem r_SE_select_8 {E : dx_E} {d : Nat} {po : dx_P} {v1 v2 : Int32} {σ : dx_V} (h : ((σ 6 5) ≤ v2 → vp_in (σ 6 5) 20 ∧ (po none (dx_u (dx_u σ 30 (σ 6 5).toNatClampNeg v1) 6 5 ((σ 6 5) + 1)))) ∧ (¬ (σ 6 5) ≤ v2 → vp_in v2 20 ∧ ((¬ (σ 30 v2.toNatClampNeg) = v1 → g_SE_select_8 E d po v1 (v2 + 1) σ) ∧ ((σ 30 v2.toNatClampNeg) = v1 → po none σ)))) : g_SE_select_8 E d po v1 v2 σ := by
  show dx_G tX E d RSE cSE_select 3 none po 8 [some (.inr 6), some (.inl v1), some (.inl v2)] [] σ
  refine dx_iload_n dSE_select_8 rfl ?_
  refine dx_aload_n dSE_select_9 rfl ?_
  refine dx_geti dSE_select_10 flSE_30 rfl rfl ?_
  refine dx_icmp_ge 33 dSE_select_13 (by decide) (fun q => ?_) (fun q => ?_)
  · have h := h.1 q
    refine dx_aload_n dSE_select_33 rfl ?_
    refine dx_getr dSE_select_34 flSE_9 rfl rfl ?_
    refine dx_aload_n dSE_select_37 rfl ?_
    refine dx_geti dSE_select_38 flSE_30 rfl rfl ?_
    refine dx_iload_n dSE_select_41 rfl ?_
    obtain ⟨hi, h⟩ := h
    refine dx_iastore dSE_select_42 rfl hi ?_
    refine dx_aload_n dSE_select_43 rfl ?_
    refine dx_dup dSE_select_44 ?_
    refine dx_geti dSE_select_45 flSE_30 rfl rfl ?_
    refine dx_iconst (v := 1) dSE_select_48 (by decide) ?_
    refine dx_iadd dSE_select_49 ?_
    refine dx_put dSE_select_50 fpSE_30 rfl rfl (Or.inl rfl) ?_
    exact dx_vret dSE_select_53 rfl h
  · have h := h.2 q
    refine dx_aload_n dSE_select_16 rfl ?_
    refine dx_getr dSE_select_17 flSE_9 rfl rfl ?_
    refine dx_iload_n dSE_select_20 rfl ?_
    obtain ⟨hi, h⟩ := h
    refine dx_iaload dSE_select_21 rfl hi ?_
    refine dx_iload_n dSE_select_22 rfl ?_
    refine dx_icmp_ne 27 dSE_select_23 (by decide) (fun q => ?_) (fun q => ?_)
    · have h := h.1 q
      refine dx_iinc (v := v2 + 1) (L' := [some (.inr 6), some (.inl v1), some (.inl (v2 + 1))]) dSE_select_27 rfl rfl rfl ?_
      refine dx_goto 8 dSE_select_30 (by decide) ?_
      exact dx_less (L' := [some (.inr 6), some (.inl v1), some (.inl (v2 + 1))]) ⟨rfl, rfl, rfl, trivial⟩ h
    · have h := h.2 q
      exact dx_vret dSE_select_26 rfl h
def g_SE_nearestEnabled_17 (E : dx_E) (d : Nat) (po : dx_P) (v2 v3 v4 : Int32) (σ : dx_V) : Prop := dx_G tX E d RSE cSE_nearestEnabled 6 (some .int) po 17 [some (.inr 6), none, some (.inl v2), some (.inl v3), some (.inl v4), none] [] σ
def g_SE_nearestEnabled_43 (E : dx_E) (d : Nat) (po : dx_P) (v2 v3 v4 w0 : Int32) (σ : dx_V) : Prop := dx_G tX E d RSE cSE_nearestEnabled 6 (some .int) po 43 [some (.inr 6), none, some (.inl v2), some (.inl v3), some (.inl v4), none] [.inl w0] σ
set_option maxRecDepth 100000 in
set_option maxHeartbeats 4000000 in
theorem r_SE_nearestEnabled {E : dx_E} {d : Nat} {a1 a2 : Int32} {σ : dx_V} {po : dx_P} (h : vp_in a1 16 ∧ (g_SE_nearestEnabled_17 E (d + 1) po a2 ((σ 15 a1.toNatClampNeg) ||| (1 <<< (a1 &&& 31))) a1 σ)) : m_SE_nearestEnabled E (d + 1) a1 a2 σ po := by
  refine dx_entry (by decide) (Nat.le_of_ble_eq_true rfl) ?_
  show dx_G tX E (d + 1) RSE cSE_nearestEnabled 6 (some .int) po 0 [some (.inr 6), some (.inl a1), some (.inl a2), none, none, none] [] σ
  refine dx_aload_n dSE_nearestEnabled_0 rfl ?_
  refine dx_getr dSE_nearestEnabled_1 flSE_18 rfl rfl ?_
  refine dx_getr dSE_nearestEnabled_4 flSE_66 rfl rfl ?_
  refine dx_iload_n dSE_nearestEnabled_7 rfl ?_
  obtain ⟨hi, h⟩ := h
  refine dx_iaload dSE_nearestEnabled_8 rfl hi ?_
  refine dx_iconst (v := 1) dSE_nearestEnabled_9 (by decide) ?_
  refine dx_iload_n dSE_nearestEnabled_10 rfl ?_
  refine dx_ishl dSE_nearestEnabled_11 ?_
  refine dx_ior dSE_nearestEnabled_12 ?_
  refine dx_istore_n (L' := [some (.inr 6), some (.inl a1), some (.inl a2), some (.inl ((σ 15 a1.toNatClampNeg) ||| (1 <<< (a1 &&& 31)))), none, none]) dSE_nearestEnabled_13 (Nat.le_of_ble_eq_true rfl) rfl ?_
  refine dx_iload_n dSE_nearestEnabled_14 rfl ?_
  refine dx_istore (L' := [some (.inr 6), some (.inl a1), some (.inl a2), some (.inl ((σ 15 a1.toNatClampNeg) ||| (1 <<< (a1 &&& 31)))), some (.inl a1), none]) dSE_nearestEnabled_15 (Nat.le_of_ble_eq_true rfl) rfl ?_
  exact dx_less (L' := [some (.inr 6), none, some (.inl a2), some (.inl ((σ 15 a1.toNatClampNeg) ||| (1 <<< (a1 &&& 31)))), some (.inl a1), none]) ⟨rfl, rfl, rfl, rfl, trivial⟩ h
set_option maxRecDepth 100000 in
set_option maxHeartbeats 4000000 in
theorem r_SE_nearestEnabled_17 {E : dx_E} {d : Nat} {po : dx_P} {v2 v3 v4 : Int32} {σ : dx_V} (h : (v4 < 1 → po (some (-1)) σ) ∧ (¬ v4 < 1 → dx_ci (m_MC_isIn E d v4 v3 σ) (fun x2 σ1 => (x2 = 0 → g_SE_nearestEnabled_43 E (d + 1) po v2 v3 v4 (-1) σ1) ∧ (¬ x2 = 0 → dx_ci (m_SE_leastEnabled E d v4 v2 σ1) (fun x4 σ3 => g_SE_nearestEnabled_43 E (d + 1) po v2 v3 v4 x4 σ3))))) : g_SE_nearestEnabled_17 E (d + 1) po v2 v3 v4 σ := by
  show dx_G tX E (d + 1) RSE cSE_nearestEnabled 6 (some .int) po 17 [some (.inr 6), none, some (.inl v2), some (.inl v3), some (.inl v4), none] [] σ
  refine dx_iload dSE_nearestEnabled_17 rfl ?_
  refine dx_iconst (v := 1) dSE_nearestEnabled_19 (by decide) ?_
  refine dx_icmp_lt 60 dSE_nearestEnabled_20 (by decide) (fun q => ?_) (fun q => ?_)
  · have h := h.1 q
    refine dx_iconst (v := (-1)) dSE_nearestEnabled_60 (by decide) ?_
    exact dx_ret dSE_nearestEnabled_61 rfl rfl h
  · have h := h.2 q
    refine dx_iload dSE_nearestEnabled_23 rfl ?_
    refine dx_iload_n dSE_nearestEnabled_25 rfl ?_
    obtain ⟨pp, hm, hk⟩ := h
    refine dx_callsi [.inl v4, .inl v3] [] dSE_nearestEnabled_26 csSE_47 (Nat.le_of_ble_eq_true rfl) rfl hm (fun x2 σ1 hp => ?_)
    have h := hk x2 σ1 hp
    refine dx_if_eq 42 dSE_nearestEnabled_29 (by decide) (fun q => ?_) (fun q => ?_)
    · have h := h.1 q
      refine dx_iconst (v := (-1)) dSE_nearestEnabled_42 (by decide) ?_
      exact dx_less (L' := [some (.inr 6), none, some (.inl v2), some (.inl v3), some (.inl v4), none]) ⟨rfl, rfl, rfl, rfl, trivial⟩ h
    · have h := h.2 q
      refine dx_aload_n dSE_nearestEnabled_32 rfl ?_
      refine dx_iload dSE_nearestEnabled_33 rfl ?_
      refine dx_iload_n dSE_nearestEnabled_35 rfl ?_
      obtain ⟨pp, hm, hk⟩ := h
      refine dx_callvi [.inl v4, .inl v2] [] dSE_nearestEnabled_36 cvSE_69 rfl (Nat.le_of_ble_eq_true rfl) rfl hm (fun x4 σ3 hp => ?_)
      have h := hk x4 σ3 hp
      refine dx_goto 43 dSE_nearestEnabled_39 (by decide) ?_
      exact dx_less (L' := [some (.inr 6), none, some (.inl v2), some (.inl v3), some (.inl v4), none]) ⟨rfl, rfl, rfl, rfl, trivial⟩ h
set_option maxRecDepth 100000 in
set_option maxHeartbeats 4000000 in
theorem r_SE_nearestEnabled_43 {E : dx_E} {d : Nat} {po : dx_P} {v2 v3 v4 w0 : Int32} {σ : dx_V} (h : (w0 = (-1) → g_SE_nearestEnabled_17 E (d + 1) po v2 v3 (v4 + (-1)) σ) ∧ (¬ w0 = (-1) → po (some w0) σ)) : g_SE_nearestEnabled_43 E (d + 1) po v2 v3 v4 w0 σ := by
  show dx_G tX E (d + 1) RSE cSE_nearestEnabled 6 (some .int) po 43 [some (.inr 6), none, some (.inl v2), some (.inl v3), some (.inl v4), none] [.inl w0] σ
  refine dx_istore (L' := [some (.inr 6), none, some (.inl v2), some (.inl v3), some (.inl v4), some (.inl w0)]) dSE_nearestEnabled_43 (Nat.le_of_ble_eq_true rfl) rfl ?_
  refine dx_iload dSE_nearestEnabled_45 rfl ?_
  refine dx_iconst (v := (-1)) dSE_nearestEnabled_47 (by decide) ?_
  refine dx_icmp_eq 54 dSE_nearestEnabled_48 (by decide) (fun q => ?_) (fun q => ?_)
  · have h := h.1 q
    refine dx_iinc (v := v4 + (-1)) (L' := [some (.inr 6), none, some (.inl v2), some (.inl v3), some (.inl (v4 + (-1))), some (.inl w0)]) dSE_nearestEnabled_54 rfl rfl rfl ?_
    refine dx_goto 17 dSE_nearestEnabled_57 (by decide) ?_
    exact dx_less (L' := [some (.inr 6), none, some (.inl v2), some (.inl v3), some (.inl (v4 + (-1))), none]) ⟨rfl, rfl, rfl, rfl, trivial⟩ h
  · have h := h.2 q
    refine dx_iload dSE_nearestEnabled_51 rfl ?_
    exact dx_ret dSE_nearestEnabled_53 rfl rfl h
