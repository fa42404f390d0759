/-! Entering, a microstep and a macrostep of the reference. -/
theorem y_run_end {r : q_R} {σ : dx_V} {Q : Prop} {v : Int32} (h : y_run r σ) (hv : q_out r = 1 → v = q_z Q) : y_run (q_sEnd r Q) (dx_u σ 0 18 v) := by
  obtain ⟨h1, h2, h3, h4, h5, h6, h7, h8, h9, h10, h11⟩ := h
  exact ⟨by rw [dx_uk (by decide)]; exact h1, by rw [dx_uk (by decide)]; exact h2, by rw [dx_uk (by decide)]; exact h3, fun q => by rw [dx_us]; exact hv q, h5, h6, h7, ⟨by rw [dx_uk (by decide)]; exact h8.1, h8.2⟩, ⟨by rw [dx_uk (by decide)]; exact h9.1, h9.2⟩, ⟨by rw [dx_uk (by decide)]; exact h10.1, h10.2⟩, ⟨by rw [dx_uk (by decide)]; exact h11.1, h11.2⟩⟩
theorem y_run_mi {r : q_R} {σ : dx_V} {k : Nat} {v : Int32} (h : y_run r σ) (hv : v = nI k) : y_run (q_sMi r k) (dx_u σ 0 19 v) := by
  obtain ⟨h1, h2, h3, h4, h5, h6, h7, h8, h9, h10, h11⟩ := h
  exact ⟨by rw [dx_uk (by decide)]; exact h1, by rw [dx_us]; exact hv, by rw [dx_uk (by decide)]; exact h3, fun q => by rw [dx_uk (by decide)]; exact h4 q, h5, h6, h7, ⟨by rw [dx_uk (by decide)]; exact h8.1, h8.2⟩, ⟨by rw [dx_uk (by decide)]; exact h9.1, h9.2⟩, ⟨by rw [dx_uk (by decide)]; exact h10.1, h10.2⟩, ⟨by rw [dx_uk (by decide)]; exact h11.1, h11.2⟩⟩
def y_Z : List Nat := [15, 16, 17, 18, 19, 20, 21, 22, 23, 24, 25, 26]
def y_T : List Nat := [17, 18, 19, 23, 25, 27, 30, 31, 33, 35]
theorem y_all_z {c : q_C} {r r' : q_R} {σ σ' : dx_V} (X : y_all c r σ) (f : y_fr y_Z y_T σ σ') (h : y_run r' σ') : y_all c r' σ' :=
  ⟨y_tree_fr X.1 f (by decide) (by decide), y_tr_fr X.2.1 f (by decide) (by decide), y_ac_fr X.2.2.1 f (by decide) (by decide), h⟩
theorem y_zw {σ σ' : dx_V} (f : y_fr y_W y_S σ σ') : y_fr y_Z y_T σ σ' := y_fr_w f (by decide) (by decide)
theorem y_zv {σ σ' : dx_V} (f : y_fr y_V y_U σ σ') : y_fr y_Z y_T σ σ' := y_fr_w f (by decide) (by decide)
theorem y_ze {σ σ' : dx_V} (f : y_fr [26] [] σ σ') : y_fr y_Z y_T σ σ' := y_fr_w f (by decide) (by decide)
theorem lv_finish {c : q_C} {r : q_R} {s : Nat} (h : q_lv r) : q_lv (q_finish c s r) := by
  by_cases h0 : q_par c s = 0
  · unfold q_finish; rw [if_pos h0]; exact h
  · rw [q_finish_no h0]
    by_cases hc : q_out (q_raise (nI (100 + q_par c s)) r) = 1 ∧ q_kd c (q_par c (q_par c s)) = 2 ∧ ∀ x, q_ch c (q_par c (q_par c s)) x → q_fin c (q_raise (nI (100 + q_par c s)) r) x
    · rw [q_if_t hc]; exact lv_ra (lv_ra h)
    · rw [q_if_f hc]; exact lv_ra h
theorem lv_take {c : q_C} : ∀ (l : List Nat) (r : q_R), q_lv r → q_lv (q_take c l r) := by
  intro l
  induction l with
  | nil => intro r h; exact h
  | cons t l ih =>
    intro r h
    refine ih _ ?_
    show q_lv (q_take1 c t r)
    unfold q_take1
    split
    · exact lv_act (lv_w h)
    · exact h
section MM1
variable {E : dx_E} {d : Nat} {po : dx_P} {c : q_C}
theorem t_fin52 {r : q_R} {g : Nat} {σ : dx_V} (ok : q_ok c) (X : y_all c r σ) (K : q_rok c r) (hg : g ≤ 15) (hp : ∀ σ' : dx_V, y_run (q_if (q_out r = 1 ∧ q_kd c g = 2 ∧ ∀ x, q_ch c g x → q_fin c r x) (q_raise (nI (100 + g)) r) r) σ' → y_fr y_W y_S σ σ' → po none σ') (lv : q_lv r) : ∀ (f i : Nat) (b : Int32), f + i = q_n c + 1 → 1 ≤ i → b = q_z (q_kd c g = 2 ∧ ∀ x, q_ch c g x → x < i → q_fin c r x) → g_MM_finish_52 E (d + 1) po (nI g) b (nI i) σ := by
  have h15 := ok.1
  intro f
  induction f with
  | zero =>
    intro i b hi i1 hb
    refine r_MM_finish_52 ?_
    rw [X.1.1, hb, i_a100]
    simp only [i_lt, i_n (show q_n c ≤ 100000 by omega), i_n (show i ≤ 100000 by omega)]
    have e : (q_kd c g = 2 ∧ ∀ x, q_ch c g x → x < i → q_fin c r x) ↔ (q_kd c g = 2 ∧ ∀ x, q_ch c g x → q_fin c r x) := ⟨fun z => ⟨z.1, fun x hx => z.2 x hx (by have := hx.1.2.1; omega)⟩, fun z => ⟨z.1, fun x hx _ => z.2 x hx⟩⟩
    rw [q_z_eq e]
    refine ⟨fun _ => q_zb (fun q => ?_) (fun q => dx_ci1 _ _ (fun po hp => t_failed X.2.2.2 K hp) (q_zc (fun q2 => ?_) (fun q2 => ?_))), fun q => absurd (by omega) q⟩
    · rw [q_if_f (fun z => q z.2)] at hp; exact hp σ X.2.2.2 y_fr_rf
    · rw [q_if_f (fun z => by omega)] at hp; exact hp σ X.2.2.2 y_fr_rf
    · rw [q_if_t ⟨lv.resolve_right (by omega), q⟩] at hp
      exact dx_cuR (fun σ1 => y_run (q_raise (nI (100 + g)) r) σ1 ∧ y_fr y_W y_S σ σ1) (fun po hpo => t_raise X.2.2.2 K (fun σ' z1 z2 => hpo σ' ⟨z1, z2⟩)) (fun σ1 z => hp σ1 z.1 z.2)
  | succ f ih =>
    intro i b hi i1 hb
    have hki := ok.2.2.2.2.1 i i1 (by omega)
    have hin : vp_in (nI i) 16 := i_in (by omega) (by omega)
    refine r_MM_finish_52 ?_
    rw [X.1.1, hb, i_cl (n := i) (by omega), X.1.2.1 i i1 (by omega), X.1.2.2.1 i (by omega), i_inc i]
    have ep : nI (q_par c i) = nI g ↔ q_par c i = g := ⟨fun z => i_nj z (by omega) (by omega), fun z => by rw [z]⟩
    have e3 : (3 : Int32) < nI (q_kd c i) ↔ ¬ q_kd c i ≤ 3 := by rw [i_lt, i_n (by omega), i_3]; omega
    rw [ep, e3]
    simp only [i_lt, i_n (show q_n c ≤ 100000 by omega), i_n (show i ≤ 100000 by omega)]
    refine ⟨fun q => absurd q (by omega), fun _ => q_zb (fun q => ih (i + 1) 0 (by omega) (by omega) (q_z_f (fun z => q ⟨z.1, fun x hx hl => z.2 x hx (by omega)⟩)).symm) (fun q => ⟨hin, ?_⟩)⟩
    have good : (q_ch c g i → q_fin c r i) → g_MM_finish_97 E (d + 1) po (nI g) (nI i) σ := fun z => by
      refine r_MM_finish_97 ?_
      rw [i_inc i]
      refine ih (i + 1) 1 (by omega) (by omega) (q_z_t ⟨q.1, fun x hx hl => ?_⟩).symm
      by_cases e : x = i
      · subst e; exact z hx
      · exact q.2 x hx (by omega)
    refine ⟨fun q2 => good (fun z => absurd z.2 q2), fun q2 => ⟨hin, fun q3 => good (fun z => absurd z.1.2.2 q3), fun q3 => dx_ci1 _ _ (fun po hp => t_done ok X (by omega) hp) (q_zb (fun q4 => ih (i + 1) 0 (by omega) (by omega) (q_z_f (fun z => q4 (z.2 i ⟨⟨i1, by omega, Classical.byContradiction q3⟩, q2⟩ (by omega)))).symm) (fun q4 => good (fun _ => q4)))⟩⟩
theorem t_finish {r : q_R} {s : Nat} {σ : dx_V} (ok : q_ok c) (X : y_all c r σ) (K : q_rok c r) (ho : q_out r = 1) (h1 : 1 ≤ s) (hn : s ≤ q_n c) (hp : ∀ σ' : dx_V, y_run (q_finish c s r) σ' → y_fr y_W y_S σ σ' → po none σ') : m_MM_finish E (d + 1) (nI s) σ po := by
  have h15 := ok.1
  have hk := ok.2.2.2.2.1 s h1 hn
  refine r_MM_finish ⟨i_in (by omega) (by omega), ?_⟩
  rw [i_cl (n := s) (by omega), X.1.2.1 s h1 hn, i_a100, i_cl (n := q_par c s) (by omega)]
  have e0 : nI (q_par c s) = 0 ↔ q_par c s = 0 := by rw [i_eq, i_n (by omega), i_0]; omega
  rw [e0]
  refine ⟨fun q => ?_, fun q => ?_⟩
  · have hk2 := ok.2.2.2.2.1 (q_par c s) (by omega) (by omega)
    rw [q_finish_no q] at hp
    refine dx_cuR (fun σ1 => y_run (q_raise (nI (100 + q_par c s)) r) σ1 ∧ y_fr y_W y_S σ σ1) (fun po hpo => t_raise X.2.2.2 K (fun σ' z1 z2 => hpo σ' ⟨z1, z2⟩)) ?_
    rintro σ1 ⟨a1, a2⟩
    have X1 := y_all_fr X a2 a1
    have K1 : q_rok c (q_raise (nI (100 + q_par c s)) r) := k_raise K
    have lv1 : q_lv (q_raise (nI (100 + q_par c s)) r) := lv_ra (Or.inl ho)
    generalize q_raise (nI (100 + q_par c s)) r = r1 at *
    rw [X1.1.2.1 (q_par c s) (by omega) (by omega), i_cl (n := q_par c (q_par c s)) (by omega), X1.1.2.2.1 (q_par c (q_par c s)) (by omega)]
    have e2 : nI (q_kd c (q_par c (q_par c s))) = 2 ↔ q_kd c (q_par c (q_par c s)) = 2 := by
      have : q_kd c (q_par c (q_par c s)) ≤ 2 := hk2.2.2.2.1
      rw [i_eq, i_n (by omega), i_2]; omega
    rw [e2]
    have key : ∀ b : Int32, b = q_z (q_kd c (q_par c (q_par c s)) = 2 ∧ ∀ x, q_ch c (q_par c (q_par c s)) x → x < 1 → q_fin c r1 x) → g_MM_finish_52 E (d + 1) po (nI (q_par c (q_par c s))) b 1 σ1 := fun b hb => t_fin52 ok X1 K1 (by omega) (fun σ' z1 z2 => hp σ' z1 (y_fr_t a2 z2)) lv1 (q_n c) 1 b (by omega) (by omega) hb
    exact ⟨i_in (by omega) (by omega), i_in (by omega) (by omega), fun q2 => key 0 (q_z_f (fun z => q2 z.1)).symm, fun q2 => key 1 (q_z_t ⟨q2, fun x hx hl => by have := hx.1.1; omega⟩).symm⟩
  · unfold q_finish at hp
    rw [if_pos q] at hp
    exact hp _ (y_run_end X.2.2.2 (fun _ => (q_z_t trivial).symm)) (y_fr_s y_fr_rf (by decide))
theorem t_ent89 {r : q_R} {σ : dx_V} (X : y_run r σ) (K : q_rok c r) (lv : q_lv r) (hp : ∀ σ' : dx_V, y_run (q_close r) σ' → y_fr y_W y_S σ σ' → po none σ') : g_MM_enterAll_89 E (d + 1) po σ := by
  unfold q_close at hp
  refine r_MM_enterAll_89 ?_
  by_cases ho : q_out r = 1
  · rw [X.2.2.2.1 ho]
    refine q_zb (fun q => ?_) (fun q => dx_ci1 _ _ (fun po hp => t_failed X K hp) (q_zc (fun q2 => absurd q2 (by omega)) (fun q2 => ?_)))
    · rw [q_if_f (fun z => q z.2)] at hp; exact hp σ X y_fr_rf
    · rw [q_if_t ⟨ho, q⟩] at hp
      exact hp _ (y_run_out X rfl (by decide)) (y_fr_s y_fr_rf (by decide))
  · have ho4 := lv.resolve_left ho
    rw [q_if_f (fun z => ho z.1)] at hp
    exact ⟨fun _ => hp σ X y_fr_rf, fun _ => dx_ci1 _ _ (fun po hp => t_failed X K hp) (q_zc (fun _ => hp σ X y_fr_rf) (fun q2 => absurd (by omega) q2))⟩
theorem t_ent6 {N : Nat → Prop} (ok : q_ok c) (hN : ∀ s, N s → q_st c s) : ∀ (f s : Nat) (r : q_R) (σ : dx_V), f + s = q_n c + 1 → 1 ≤ s → y_all c r σ → q_inv c r → q_lv r → y_ent N σ → (∀ σ' : dx_V, y_run (q_close (q_it (q_enter1 c N) f s r)) σ' → y_fr y_W y_S σ σ' → po none σ') → g_MM_enterAll_6 E (d + 3) po (nI s) σ := by
  have h15 := ok.1
  intro f
  induction f with
  | zero =>
    intro s r σ hi s1 X V lv he hp
    refine r_MM_enterAll_6 ?_
    rw [X.1.1]
    simp only [i_lt, i_n (show q_n c ≤ 100000 by omega), i_n (show s ≤ 100000 by omega)]
    exact ⟨fun _ => t_ent89 X.2.2.2 V.1 lv hp, fun q => absurd (by omega) q⟩
  | succ f ih =>
    intro s r σ hi s1 X V lv he hp
    have hp : ∀ σ' : dx_V, y_run (q_close (q_it (q_enter1 c N) f (s + 1) (q_enter1 c N s r))) σ' → y_fr y_W y_S σ σ' → po none σ' := hp
    have hk := ok.2.2.2.2.1 s s1 (by omega)
    have ins : vp_in (nI s) 16 := i_in (by omega) (by omega)
    refine r_MM_enterAll_6 ?_
    rw [X.1.1]
    simp only [i_lt, i_n (show q_n c ≤ 100000 by omega), i_n (show s ≤ 100000 by omega), i_1000, i_a100, i_inc, i_cl (show s ≤ 100000 by omega), nar1]
    refine ⟨fun q => absurd q (by omega), fun _ => dx_ci1 _ _ (fun po hp => t_failed X.2.2.2 V.1 hp) (q_zc (fun q => ?_) (fun q => ⟨ins, ?_⟩))⟩
    · rw [q_enter1_stop _ _ (by omega), q_it_stop q_enter1_stop _ _ _ (by omega)] at hp
      exact t_ent89 X.2.2.2 V.1 lv hp
    · have ho : q_out r = 1 := lv.resolve_right (by omega)
      rw [he s (by omega)]
      refine q_zb (fun q2 => ?_) (fun q2 => dx_cuR (fun σ1 => y_run (q_write (nI (1000 + s)) r) σ1 ∧ y_fr y_W y_S σ σ1) (fun po hpo => t_write X.2.2.2 V.1 (fun σ' z1 z2 => hpo σ' ⟨z1, z2⟩)) ?_)
      · rw [q_enter1_no q2] at hp
        exact ih (s + 1) r σ (by omega) (by omega) X V lv he hp
      · rintro σ1 ⟨a1, a2⟩
        rw [q_enter1_yes ho q2] at hp
        have X1 := y_all_fr X a2 a1
        have V1 : q_inv c (q_write (nI (1000 + s)) r) := v_write V
        have lv1 : q_lv (q_write (nI (1000 + s)) r) := lv_w (Or.inl ho)
        generalize q_write (nI (1000 + s)) r = r1 at *
        refine dx_ci1 _ _ (fun po hp => t_failed X1.2.2.2 V1.1 hp) (q_zc (fun q3 => ?_) (fun q3 => ⟨ins, ?_⟩))
        · rw [if_neg (by omega)] at hp
          refine r_MM_enterAll_61 ?_
          rw [i_inc s]
          exact dx_ci1 _ _ (fun po hp => t_failed X1.2.2.2 V1.1 hp) (q_zc (fun _ => ih (s + 1) r1 σ1 (by omega) (by omega) X1 V1 lv1 (fun x hx => by rw [a2.1 26 (by decide) (by decide)]; exact he x hx) (fun σ' z1 z2 => hp σ' z1 (y_fr_t a2 z2))) (fun q4 => absurd q3 q4))
        · have ho1 : q_out r1 = 1 := lv1.resolve_right (by omega)
          rw [if_pos ho1] at hp
          have hf : y_fr y_W y_S σ (dx_u σ1 15 s 1) := y_fr_a a2 (by decide) (by decide)
          have hon : y_run (q_sOn r1 (fun x => x = s ∨ q_on r1 x)) (dx_u σ1 15 s 1) := y_run_on X1.2.2.2 (q_z_t (Or.inl rfl)).symm (fun x hx => ⟨fun z => z.resolve_left hx, Or.inr⟩)
          have X2 := y_all_fr X hf hon
          have V2 : q_inv c (q_sOn r1 (fun x => x = s ∨ q_on r1 x)) := ⟨⟨fun x hx => hx.elim (fun e => by rw [e]; exact hN s q2) (fun z => V1.1.1 x z), V1.1.2⟩, V1.2⟩
          have lv2 : q_lv (q_sOn r1 (fun x => x = s ∨ q_on r1 x)) := lv1
          generalize q_sOn r1 (fun x => x = s ∨ q_on r1 x) = r2 at *
          refine dx_cuR (fun σ3 => y_run (q_act c (nI (100 + s)) r2) σ3 ∧ y_fr y_W y_S σ σ3) (fun po hpo => t_act ok X2 V2.1 lv2 (fun σ' z1 z2 => hpo σ' ⟨z1, y_fr_t hf z2⟩)) ?_
          rintro σ3 ⟨b1, b2⟩
          have X3 := y_all_fr X b2 b1
          have V3 : q_inv c (q_act c (nI (100 + s)) r2) := v_act V2
          have lv3 : q_lv (q_act c (nI (100 + s)) r2) := lv_act lv2
          have he3 : y_ent N σ3 := fun x hx => by rw [b2.1 26 (by decide) (by decide)]; exact he x hx
          generalize q_act c (nI (100 + s)) r2 = r3 at *
          refine r_MM_enterAll_61 ?_
          rw [i_inc s, i_cl (n := s) (by omega)]
          refine dx_ci1 _ _ (fun po hp => t_failed X3.2.2.2 V3.1 hp) (q_zc (fun q4 => ?_) (fun q4 => ⟨ins, ?_⟩))
          · rw [if_neg (fun z => by omega)] at hp
            exact ih (s + 1) r3 σ3 (by omega) (by omega) X3 V3 lv3 he3 (fun σ' z1 z2 => hp σ' z1 (y_fr_t b2 z2))
          · have ho3 : q_out r3 = 1 := lv3.resolve_right (by omega)
            rw [X3.1.2.2.1 s (by omega)]
            have e3 : nI (q_kd c s) = 3 ↔ q_kd c s = 3 := by rw [i_eq, i_n (by omega), i_3]; omega
            rw [e3]
            refine ⟨fun q5 => ?_, fun q5 => dx_cuR (fun σ4 => y_run (q_finish c s r3) σ4 ∧ y_fr y_W y_S σ3 σ4) (fun po hpo => t_finish ok X3 V3.1 ho3 s1 (by omega) (fun σ' z1 z2 => hpo σ' ⟨z1, z2⟩)) ?_⟩
            · rw [if_neg (fun z => q5 z.2)] at hp
              exact ih (s + 1) r3 σ3 (by omega) (by omega) X3 V3 lv3 he3 (fun σ' z1 z2 => hp σ' z1 (y_fr_t b2 z2))
            · rintro σ4 ⟨c1, c2⟩
              rw [if_pos ⟨ho3, q5⟩] at hp
              have f4 := y_fr_t b2 c2
              exact ih (s + 1) _ σ4 (by omega) (by omega) (y_all_fr X f4 c1) (v_finish V3) (lv_finish lv3) (fun x hx => by rw [f4.1 26 (by decide) (by decide)]; exact he x hx) (fun σ' z1 z2 => hp σ' z1 (y_fr_t f4 z2))
theorem t_enterAll {r : q_R} {B : Nat → Prop} {σ : dx_V} (ok : q_ok c) (X : y_all c r σ) (V : q_inv c r) (lv : q_lv r) (hB : ∀ x, B x → q_st c x) (he : y_ent B σ) (hp : ∀ σ' : dx_V, y_run (q_enter c (q_full c B) r) σ' → y_fr y_Z y_T σ σ' → po none σ') : m_MM_enterAll E (d + 3) σ po := by
  refine r_MM_enterAll (dx_cuR (fun σ1 => y_ent (q_full c B) σ1 ∧ y_fr [26] [] σ σ1) (fun po hpo => t_fill ok V.2.1 hB X.1 he (fun σ' z1 z2 => hpo σ' ⟨z1, z2⟩)) ?_)
  rintro σ1 ⟨a1, a2⟩
  have X1 := y_all_v X (y_fr_w (W' := y_V) (S' := y_U) a2 (by decide) (by decide))
  exact t_ent6 ok (q_full_st hB) (q_n c) 1 r σ1 (by omega) (by omega) X1 V lv a1 (fun σ' z1 z2 => hp σ' z1 (y_fr_t (y_ze a2) (y_zw z2)))
theorem t_mic101 {r : q_R} {l : List Nat} {σ0 : dx_V} (ok : q_ok c) (X0 : y_all c r σ0) (V : q_inv c r) (lv : q_lv r) (S0 : x_num l (σ0 0 35) (σ0 24)) (hl : l.length ≤ 20) (hb : ∀ u ∈ l, u < q_nt c) (hp : ∀ σ' : dx_V, y_run (q_enter c (q_full c (q_base c r l)) r) σ' → y_fr y_Z y_T σ0 σ' → po none σ') : ∀ (f i : Nat) (σ : dx_V), f + i = l.length → y_fr [26] [] σ0 σ → y_ent (q_base c r (l.take i)) σ → g_MM_microstep_101 E (d + 4) po (nI i) σ := by
  have h20 := ok.2.1
  have h15 := ok.1
  intro f
  induction f with
  | zero =>
    intro i σ hi fr he
    have X1 := y_all_v X0 (y_fr_w (W' := y_V) (S' := y_U) fr (by decide) (by decide))
    rw [List.take_of_length_le (by omega)] at he
    refine r_MM_microstep_101 ?_
    rw [fr.2 35 (by decide), S0.1]
    simp only [i_le, i_n (show l.length ≤ 100000 by omega), i_n (show i ≤ 100000 by omega)]
    refine ⟨fun _ => dx_cuR (fun σ1 => y_run (q_enter c (q_full c (q_base c r l)) r) σ1 ∧ y_fr y_Z y_T σ σ1) (fun po hpo => t_enterAll ok X1 V lv (q_base_st ok V.2 hb) he (fun σ' z1 z2 => hpo σ' ⟨z1, z2⟩)) (fun σ1 z => hp σ1 z.1 (y_fr_t (y_ze fr) z.2)), fun q => absurd (by omega) q⟩
  | succ f ih =>
    intro i σ hi fr he
    have X1 := y_all_v X0 (y_fr_w (W' := y_V) (S' := y_U) fr (by decide) (by decide))
    obtain ⟨u, hu⟩ : ∃ u, l[i]? = some u := ⟨l[i]'(by omega), List.getElem?_eq_getElem (by omega)⟩
    have hub := hb u (List.mem_of_getElem? hu)
    have htk : l.take (i + 1) = l.take i ++ [u] := by rw [List.take_add_one, hu]; rfl
    have htg := (ok.2.2.2.2.2.2.1 u hub).2.2.1
    have inI : vp_in (nI i) 20 := i_in (by omega) (by omega)
    refine r_MM_microstep_101 ?_
    rw [fr.2 35 (by decide), S0.1, i_cl (n := i) (by omega), fr.1 24 (by decide) (by decide), S0.2 i u hu, i_cl (n := u) (by omega), (X1.2.1.2.1 u hub).2.2.1, i_inc i]
    have e : (if q_tg c u = 0 then (-1 : Int32) else nI (q_tg c u)) = -1 ↔ q_tg c u = 0 := by
      by_cases h : q_tg c u = 0
      · rw [if_pos h]; exact ⟨fun _ => h, fun _ => rfl⟩
      · rw [if_neg h, i_eq, i_n (by omega), i_m1]; omega
    rw [e]
    simp only [i_le, i_n (show l.length ≤ 100000 by omega), i_n (show i ≤ 100000 by omega)]
    refine ⟨fun h => absurd h (by omega), fun _ => ⟨inI, i_in (by omega) (by omega), fun q => ih (i + 1) σ (by omega) fr (y_ent_eq he (fun x => ?_)), fun q => ⟨inI, dx_cuR (fun σ1 => y_ent (fun v => q_base c r (l.take i) v ∨ q_aim c r u v) σ1 ∧ y_fr [26] [] σ σ1) (fun po hpo => t_aim ok X1 V.2 hub q he (fun σ' z1 z2 => hpo σ' ⟨z1, z2⟩)) ?_⟩⟩⟩
    · rw [htk]
      unfold q_base
      constructor
      · rintro ⟨t, z1, z2⟩; exact ⟨t, List.mem_append_left _ z1, z2⟩
      · rintro ⟨t, z1, z2⟩
        rcases List.mem_append.mp z1 with z1 | z1
        · exact ⟨t, z1, z2⟩
        · rw [List.mem_singleton.mp z1] at z2; exact absurd q z2.1
    · rintro σ1 ⟨a1, a2⟩
      refine ih (i + 1) σ1 (by omega) (y_fr_t fr a2) (y_ent_eq a1 (fun x => ?_))
      rw [htk]
      unfold q_base
      constructor
      · rintro (⟨t, z1, z2⟩ | z)
        · exact ⟨t, List.mem_append_left _ z1, z2⟩
        · exact ⟨u, List.mem_append_right _ List.mem_cons_self, q, z⟩
      · rintro ⟨t, z1, z2⟩
        rcases List.mem_append.mp z1 with z1 | z1
        · exact Or.inl ⟨t, z1, z2⟩
        · rw [List.mem_singleton.mp z1] at z2; exact Or.inr z2.2
theorem t_mic35 {l : List Nat} (ok : q_ok c) (hl : l.length ≤ 20) (hb : ∀ u ∈ l, u < q_nt c) : ∀ (f i : Nat) (r : q_R) (σ : dx_V), f + i = l.length → y_all c r σ → q_inv c r → q_lv r → x_num l (σ 0 35) (σ 24) → (∀ σ' : dx_V, y_run (if q_out (q_take c (l.drop i) r) = 1 then q_enter c (q_full c (q_base c (q_take c (l.drop i) r) l)) (q_take c (l.drop i) r) else q_take c (l.drop i) r) σ' → y_fr y_Z y_T σ σ' → po none σ') → g_MM_microstep_35 E (d + 4) po (nI i) σ := by
  have h20 := ok.2.1
  -- behind the loop
  have tail : ∀ (r : q_R) (σ : dx_V), y_all c r σ → q_inv c r → q_lv r → x_num l (σ 0 35) (σ 24) → (∀ σ' : dx_V, y_run (if q_out r = 1 then q_enter c (q_full c (q_base c r l)) r else r) σ' → y_fr y_Z y_T σ σ' → po none σ') → g_MM_microstep_87 E (d + 4) po σ := by
    intro r σ X V lv S hp
    refine r_MM_microstep_87 (dx_ci1 _ _ (fun po hp => t_failed X.2.2.2 V.1 hp) (q_zb (fun q => ?_) (fun q => ?_)))
    · rw [if_pos (lv.resolve_right (by omega))] at hp
      refine dx_cuR (fun σ1 => y_ent (fun _ => False) σ1 ∧ y_fr [26] [] σ σ1) (fun po hpo => t_none (fun σ' z1 z2 => hpo σ' ⟨z1, z2⟩)) ?_
      rintro σ1 ⟨a1, a2⟩
      have X1 := y_all_v X (y_fr_w (W' := y_V) (S' := y_U) a2 (by decide) (by decide))
      have S1 : x_num l (σ1 0 35) (σ1 24) := by rw [a2.2 35 (by decide), a2.1 24 (by decide) (by decide)]; exact S
      refine t_mic101 ok X1 V lv S1 hl hb (fun σ' z1 z2 => hp σ' z1 (y_fr_t (y_ze a2) z2)) l.length 0 σ1 (by omega) y_fr_rf (y_ent_eq a1 (fun x => ⟨fun z => z.elim, fun ⟨t, z, _⟩ => ?_⟩))
      cases z
    · rw [if_neg (by omega)] at hp
      exact hp σ X.2.2.2 y_fr_rf
  intro f
  induction f with
  | zero =>
    intro i r σ hi X V lv S hp
    rw [List.drop_of_length_le (by omega)] at hp
    refine r_MM_microstep_35 ?_
    rw [S.1]
    simp only [i_le, i_n (show l.length ≤ 100000 by omega), i_n (show i ≤ 100000 by omega)]
    exact ⟨fun _ => tail r σ X V lv S hp, fun q => absurd (by omega) q⟩
  | succ f ih =>
    intro i r σ hi X V lv S hp
    obtain ⟨u, hu⟩ : ∃ u, l[i]? = some u := ⟨l[i]'(by omega), List.getElem?_eq_getElem (by omega)⟩
    have hub := hb u (List.mem_of_getElem? hu)
    have hdr : l.drop i = u :: l.drop (i + 1) := by
      obtain ⟨_, e⟩ := List.getElem?_eq_some_iff.mp hu
      rw [List.drop_eq_getElem_cons (by omega), e]
    have etk : q_take c (l.drop i) r = q_take c (l.drop (i + 1)) (q_take1 c u r) := by rw [hdr]; rfl
    rw [etk] at hp
    have stopT : ∀ (l : List Nat) (r : q_R), q_out r ≠ 1 → q_take c l r = r := by
      intro l
      induction l with
      | nil => intro r _; rfl
      | cons t l ih =>
        intro r h
        show q_take c l (q_take1 c t r) = r
        have : q_take1 c t r = r := by unfold q_take1; rw [if_neg h]
        rw [this]
        exact ih r h
    have inI : vp_in (nI i) 20 := i_in (by omega) (by omega)
    refine r_MM_microstep_35 ?_
    rw [S.1, i_cl (n := i) (by omega), i_inc i]
    simp only [i_le, i_n (show l.length ≤ 100000 by omega), i_n (show i ≤ 100000 by omega)]
    refine ⟨fun q => absurd q (by omega), fun _ => dx_ci1 _ _ (fun po hp => t_failed X.2.2.2 V.1 hp) (q_zc (fun q => ?_) (fun q => ⟨inI, ?_⟩))⟩
    · have e1 : q_take1 c u r = r := by unfold q_take1; rw [if_neg (by omega)]
      rw [e1, stopT _ _ (by omega)] at hp
      exact tail r σ X V lv S hp
    · have ho : q_out r = 1 := lv.resolve_right (by omega)
      have e1 : q_take1 c u r = q_act c (nI u) (q_write (nI (3000 + u)) r) := by unfold q_take1; rw [if_pos ho]
      rw [e1] at hp
      rw [S.2 i u hu, i_3000]
      refine dx_cuR (fun σ1 => y_run (q_write (nI (3000 + u)) r) σ1 ∧ y_fr y_W y_S σ σ1) (fun po hpo => t_write X.2.2.2 V.1 (fun σ' z1 z2 => hpo σ' ⟨z1, z2⟩)) ?_
      rintro σ1 ⟨a1, a2⟩
      have X1 := y_all_fr X a2 a1
      have V1 : q_inv c (q_write (nI (3000 + u)) r) := v_write V
      have lv1 : q_lv (q_write (nI (3000 + u)) r) := lv_w lv
      have S1 : x_num l (σ1 0 35) (σ1 24) := by rw [a2.2 35 (by decide), a2.1 24 (by decide) (by decide)]; exact S
      generalize q_write (nI (3000 + u)) r = r1 at *
      refine dx_ci1 _ _ (fun po hp => t_failed X1.2.2.2 V1.1 hp) (q_zc (fun q2 => ?_) (fun q2 => ⟨inI, ?_⟩))
      · rw [q_act_stop (by omega)] at hp
        exact ih (i + 1) r1 σ1 (by omega) X1 V1 lv1 S1 (fun σ' z1 z2 => hp σ' z1 (y_fr_t (y_zw a2) z2))
      · rw [S1.2 i u hu]
        refine dx_cuR (fun σ2 => y_run (q_act c (nI u) r1) σ2 ∧ y_fr y_W y_S σ σ2) (fun po hpo => t_act ok X1 V1.1 lv1 (fun σ' z1 z2 => hpo σ' ⟨z1, y_fr_t a2 z2⟩)) ?_
        rintro σ2 ⟨b1, b2⟩
        exact ih (i + 1) _ σ2 (by omega) (y_all_fr X b2 b1) (v_act V1) (lv_act lv1) (by rw [b2.2 35 (by decide), b2.1 24 (by decide) (by decide)]; exact S) (fun σ' z1 z2 => hp σ' z1 (y_fr_t (y_zw b2) z2))
theorem t_microstep {r : q_R} {sel : List Nat} {σ : dx_V} (ok : q_ok c) (X : y_all c r σ) (V : q_inv c r) (ho : q_out r = 1) (hsl : sel.length ≤ 20) (hsb : ∀ u ∈ sel, u < q_nt c) (hb : ∀ u ∈ q_settle c r sel, u < q_nt c) (hl : (q_settle c r sel).length ≤ 20) (S : x_num sel (σ 0 33) (σ 23)) (hp : ∀ σ' : dx_V, y_run (q_micro c sel r) σ' → y_fr y_Z y_T σ σ' → po none σ') : m_MM_microstep E (d + 6) σ po := by
  have hmi := V.1.2.2.2.2.2.1
  refine r_MM_microstep ?_
  rw [X.2.2.2.2.1, i_inc]
  have e30 : nI (q_mi r) = 30 ↔ q_mi r = 30 := by rw [i_eq, i_n (by omega), i_30]; omega
  rw [e30]
  unfold q_micro at hp
  refine ⟨fun q => ?_, fun q => ?_⟩
  · rw [if_neg q] at hp
    have x0 : y_run (q_sMi r (q_mi r + 1)) (dx_u σ 0 19 (nI (q_mi r + 1))) := y_run_mi X.2.2.2 rfl
    have f0 : y_fr y_Z y_T σ (dx_u σ 0 19 (nI (q_mi r + 1))) := y_fr_s y_fr_rf (by decide)
    have V0 : q_inv c (q_sMi r (q_mi r + 1)) := ⟨⟨V.1.1, V.1.2.1, V.1.2.2.1, V.1.2.2.2.1, V.1.2.2.2.2.1, (by show q_mi r + 1 ≤ 30; omega), V.1.2.2.2.2.2.2⟩, V.2⟩
    have lv0 : q_lv (q_sMi r (q_mi r + 1)) := Or.inl ho
    have es : q_settle c (q_sMi r (q_mi r + 1)) sel = q_settle c r sel := rfl
    have S0 : x_num sel ((dx_u σ 0 19 (nI (q_mi r + 1))) 0 33) ((dx_u σ 0 19 (nI (q_mi r + 1))) 23) := ⟨by rw [dx_uk (by decide)]; exact S.1, S.2⟩
    have hp : ∀ σ' : dx_V, y_run (if q_out (q_take c (q_settle c r sel) (q_dn (q_leave1 c (q_exits c (q_sMi r (q_mi r + 1)) (q_settle c r sel))) (q_n c) (q_sMem (q_sMi r (q_mi r + 1)) (q_rem c (q_sMi r (q_mi r + 1)) (q_exits c (q_sMi r (q_mi r + 1)) (q_settle c r sel)))))) = 1 then q_enter c (q_full c (q_base c (q_take c (q_settle c r sel) (q_dn (q_leave1 c (q_exits c (q_sMi r (q_mi r + 1)) (q_settle c r sel))) (q_n c) (q_sMem (q_sMi r (q_mi r + 1)) (q_rem c (q_sMi r (q_mi r + 1)) (q_exits c (q_sMi r (q_mi r + 1)) (q_settle c r sel)))))) (q_settle c r sel))) (q_take c (q_settle c r sel) (q_dn (q_leave1 c (q_exits c (q_sMi r (q_mi r + 1)) (q_settle c r sel))) (q_n c) (q_sMem (q_sMi r (q_mi r + 1)) (q_rem c (q_sMi r (q_mi r + 1)) (q_exits c (q_sMi r (q_mi r + 1)) (q_settle c r sel)))))) else q_take c (q_settle c r sel) (q_dn (q_leave1 c (q_exits c (q_sMi r (q_mi r + 1)) (q_settle c r sel))) (q_n c) (q_sMem (q_sMi r (q_mi r + 1)) (q_rem c (q_sMi r (q_mi r + 1)) (q_exits c (q_sMi r (q_mi r + 1)) (q_settle c r sel)))))) σ' → y_fr y_Z y_T σ σ' → po none σ' := hp
    have X0 := y_all_z X f0 x0
    rw [← es] at hb hl hp
    generalize dx_u σ 0 19 (nI (q_mi r + 1)) = σ0 at *
    generalize q_sMi r (q_mi r + 1) = r0 at *
    refine dx_cuR (fun σ1 => x_num (q_settle c r0 sel) (σ1 0 35) (σ1 24) ∧ y_fr y_V y_U σ0 σ1) (fun po hpo => t_settle ok X0 hsl hsb S0 (fun σ' z1 z2 => hpo σ' ⟨z1, z2⟩)) ?_
    rintro σ1 ⟨a1, a2⟩
    have X1 := y_all_v X0 a2
    have f1 := y_fr_t f0 (y_zv a2)
    generalize q_settle c r0 sel = keep at *
    refine dx_cuR (fun σ2 => y_run (q_dn (q_leave1 c (q_exits c r0 keep)) (q_n c) (q_sMem r0 (q_rem c r0 (q_exits c r0 keep)))) σ2 ∧ y_fr [15, 16, 17, 18, 19, 20, 21, 22, 25] y_S σ1 σ2) (fun po hpo => t_leaveAll ok X1 V0 lv0 a1 hl hb (fun σ' z1 z2 => hpo σ' ⟨z1, z2⟩)) ?_
    rintro σ2 ⟨b1, b2⟩
    have f2 := y_fr_t f1 (y_fr_w (W' := y_Z) (S' := y_T) b2 (by decide) (by decide))
    have X2 := y_all_z X f2 b1
    have V1 := v_rem (X := q_exits c r0 keep) ok V0
    have V2 := dn_keep (P := q_inv c) (g := q_leave1 c (q_exits c r0 keep)) (fun _ _ V => v_leave1 V) (q_n c) _ V1
    have lv2 : q_lv (q_dn (q_leave1 c (q_exits c r0 keep)) (q_n c) (q_sMem r0 (q_rem c r0 (q_exits c r0 keep)))) := dn_keep (P := q_lv) (g := q_leave1 c (q_exits c r0 keep)) (fun _ _ h => lv_leave1 h) (q_n c) _ lv0
    have S2 : x_num keep (σ2 0 35) (σ2 24) := by rw [b2.2 35 (by decide), b2.1 24 (by decide) (by decide)]; exact a1
    exact t_mic35 ok hl hb keep.length 0 _ σ2 (by omega) X2 V2 lv2 S2 (fun σ' z1 z2 => hp σ' z1 (y_fr_t f2 z2))
  · rw [if_pos q] at hp
    exact hp _ (y_run_out X.2.2.2 rfl (by decide)) (y_fr_s y_fr_rf (by decide))
end MM1
