/-! Leaving in the reference. -/
theorem y_run_mem {r : q_R} {σ σ' : dx_V} {m : Nat → Int32} (h : y_run r σ) (f : y_fr [16] [] σ σ') (hm : ∀ s, s < 16 → σ' 16 s = m s) : y_run (q_sMem r m) σ' := by
  obtain ⟨h1, h2, h3, h4, h5, h6, h7, h8, h9, h10, h11⟩ := h
  unfold y_run
  rw [f.1 15 (by decide) (by decide), f.1 17 (by decide) (by decide), f.1 18 (by decide) (by decide), f.1 19 (by decide) (by decide), f.1 20 (by decide) (by decide), f.1 21 (by decide) (by decide), f.1 22 (by decide) (by decide), f.2 17 (by decide), f.2 18 (by decide), f.2 19 (by decide), f.2 23 (by decide), f.2 25 (by decide), f.2 27 (by decide), f.2 30 (by decide), f.2 31 (by decide)]
  exact ⟨h1, h2, h3, h4, hm, h6, h7, h8, h9, h10, h11⟩
theorem y_run_on {r : q_R} {σ : dx_V} {P : Nat → Prop} {s : Nat} {v : Int32} (h : y_run r σ) (hv : v = q_z (P s)) (ho : ∀ x, x ≠ s → (P x ↔ q_on r x)) : y_run (q_sOn r P) (dx_u σ 15 s v) := by
  obtain ⟨h1, h2, h3, h4, h5, h6, h7, h8, h9, h10, h11⟩ := h
  refine ⟨h1, h2, h3, h4, h5, h6, fun x hx => ?_, h8, h9, h10, h11⟩
  show dx_u σ 15 s v 15 x = q_z (P x)
  by_cases e : x = s
  · subst e; rw [dx_us]; exact hv
  · rw [dx_uk e, h7 x hx]; exact (q_z_eq (ho x e)).symm
theorem b_or0 (x : Int32) : x ||| 0 = x := b_ext (fun i _ => by rw [b_or, b_0, Bool.or_false])
theorem nar0 : vp_nar .boolean 0 = 0 := by decide
theorem nar1 : vp_nar .boolean 1 = 1 := by decide
section MLV
variable {E : dx_E} {d : Nat} {po : dx_P} {c : q_C}
/-- what a history remembers of s -/
def q_mine (c : q_C) (h s : Nat) : Prop := if q_kd c h = 4 then q_par c s = q_par c h else q_bl c s (q_par c h) ∧ q_leaf c s
theorem t_rem43 {r : q_R} {h : Nat} {M : Nat → Int32} {σ0 : dx_V} (ok : q_ok c) (X0 : y_all c r σ0) (K : q_rok c r) (hw : q_whole c) (h1 : 1 ≤ h) (hn : h ≤ q_n c) (h4 : 4 ≤ q_kd c h) (hp : ∀ σ' : dx_V, (∀ x, bt (σ' 16 h) x = true ↔ q_on r x ∧ q_mine c h x) → (∀ j, j ≠ h → σ' 16 j = M j) → y_fr [16] [] σ0 σ' → g_MM_remember_2 E (d + 1) po (nI (h + 1)) σ') : ∀ (f s : Nat) (σ : dx_V), f + s = q_n c + 1 → 1 ≤ s → y_fr [16] [] σ0 σ → (∀ j, j ≠ h → σ 16 j = M j) → (∀ x, bt (σ 16 h) x = true ↔ (1 ≤ x ∧ x < s ∧ q_on r x ∧ q_mine c h x)) → g_MM_remember_43 E (d + 1) po (nI h) (nI s) σ := by
  have h15 := ok.1
  have hkh := ok.2.2.2.2.1 h h1 hn
  intro f
  induction f with
  | zero =>
    intro s σ hi s1 fr ho hb
    have T := y_tree_fr X0.1 fr (by decide) (by decide)
    refine r_MM_remember_43 ?_
    rw [T.1, i_inc h]
    simp only [i_lt, i_n (show q_n c ≤ 100000 by omega), i_n (show s ≤ 100000 by omega)]
    refine ⟨fun _ => hp σ (fun x => ?_) ho fr, fun q => absurd (by omega) q⟩
    rw [hb x]
    constructor
    · rintro ⟨-, -, z⟩; exact z
    · intro z
      have := K.1 x z.1
      exact ⟨this.1, by have := this.2.1; omega, z⟩
  | succ f ih =>
    intro s σ hi s1 fr ho hb
    have T := y_tree_fr X0.1 fr (by decide) (by decide)
    have hks := ok.2.2.2.2.1 s s1 (by omega)
    have inh : vp_in (nI h) 16 := i_in (by omega) (by omega)
    have ins : vp_in (nI s) 16 := i_in (by omega) (by omega)
    have eon : σ 15 s = q_z (q_on r s) := by rw [fr.1 15 (by decide) (by decide)]; exact X0.2.2.2.2.2.2.2.2.2.1 s (by omega)
    have key : ∀ w : Int32, (q_on r s → (w = 0 ↔ ¬ q_mine c h s)) → g_MM_remember_112 E (d + 1) po (nI h) (nI s) w σ := by
      intro w hwm
      refine r_MM_remember_112 ?_
      rw [i_cl (n := h) (by omega), i_cl (n := s) (by omega), eon, i_inc s, b_or0]
      have keep : ¬ (q_on r s ∧ q_mine c h s) → g_MM_remember_43 E (d + 1) po (nI h) (nI (s + 1)) (dx_u σ 16 h (σ 16 h)) := fun z => ih (s + 1) _ (by omega) (by omega) (y_fr_a fr (by decide) (by decide)) (fun j hj => by rw [dx_uk hj]; exact ho j hj) (fun x => by
        rw [dx_us, hb x]
        constructor
        · rintro ⟨a, b, y⟩; exact ⟨a, by omega, y⟩
        · rintro ⟨a, b, y⟩
          have : x ≠ s := fun e => z (e ▸ y)
          exact ⟨a, by omega, y⟩)
      refine ⟨inh, ins, q_zb (fun q => ⟨inh, keep (fun z => q z.1)⟩) (fun q => ⟨fun q2 => ⟨inh, keep (fun z => (hwm q).mp q2 z.2)⟩, fun q2 => ⟨inh, ?_⟩⟩)⟩
      have hm : q_mine c h s := Classical.byContradiction fun z => q2 ((hwm q).mpr z)
      refine ih (s + 1) _ (by omega) (by omega) (y_fr_a fr (by decide) (by decide)) (fun j hj => by rw [dx_uk hj]; exact ho j hj) (fun x => ?_)
      rw [dx_us, b_or, Bool.or_eq_true, b_one (by omega), hb x]
      constructor
      · rintro (⟨a, b, y⟩ | rfl)
        · exact ⟨a, by omega, y⟩
        · exact ⟨s1, by omega, q, hm⟩
      · rintro ⟨a, b, y⟩
        by_cases e : x = s
        · exact Or.inr e
        · exact Or.inl ⟨a, by omega, y⟩
    refine r_MM_remember_43 ?_
    rw [T.1, i_cl (n := h) (by omega), i_cl (n := s) (by omega), T.2.2.1 h hn, T.2.1 h h1 hn, T.2.1 s s1 (by omega)]
    have e4 : nI (q_kd c h) = 4 ↔ q_kd c h = 4 := by rw [i_eq, i_n (by omega), i_4]; omega
    have ep : nI (q_par c s) = nI (q_par c h) ↔ q_par c s = q_par c h := ⟨fun z => i_nj z (by omega) (by omega), fun z => by rw [z]⟩
    rw [e4, ep]
    simp only [i_lt, i_n (show q_n c ≤ 100000 by omega), i_n (show s ≤ 100000 by omega)]
    unfold q_mine at key
    refine ⟨fun q => absurd q (by omega), fun _ => ⟨inh, fun q => ⟨inh, dx_ci1 _ _ (fun po hp => t_below ok T (by omega) (by omega) hp) (q_zb (fun q2 => key 0 (fun _ => ?_)) (fun q2 => dx_ci1 _ _ (fun po hp => t_anyChild ok T (by omega) hp) (q_zc (fun q3 => key 0 (fun _ => ?_)) (fun q3 => key 1 (fun _ => ?_)))))⟩, fun q => ⟨ins, inh, fun q2 => key 0 (fun _ => ?_), fun q2 => key 1 (fun _ => ?_)⟩⟩⟩
    · rw [if_neg q]; exact ⟨fun _ z => q2 z.1, fun _ => rfl⟩
    · rw [if_neg q]; exact ⟨fun _ z => (q_leaf_kid hw s1 (by omega)).mp q3 z.2, fun _ => rfl⟩
    · rw [if_neg q]; exact ⟨fun z => absurd z (by decide), fun z => absurd ⟨q2, Classical.byContradiction fun y => q3 ((q_leaf_kid hw s1 (by omega)).mpr y)⟩ z⟩
    · rw [if_pos q]; exact ⟨fun _ z => q2 z, fun _ => rfl⟩
    · rw [if_pos q]; exact ⟨fun z => absurd z (by decide), fun z => absurd q2 z⟩
theorem t_rems {r : q_R} {X : Nat → Prop} {σ0 : dx_V} (ok : q_ok c) (X0 : y_all c r σ0) (K : q_rok c r) (hw : q_whole c) (hX : ∀ s, 1 ≤ s → s ≤ q_n c → σ0 25 s = q_z (X s)) (hp : ∀ σ' : dx_V, y_run (q_sMem r (q_rem c r X)) σ' → y_fr [16] [] σ0 σ' → po none σ') : ∀ (f h : Nat) (σ : dx_V), f + h = q_n c + 1 → 1 ≤ h → y_fr [16] [] σ0 σ → (∀ s, s < 16 → σ 16 s = if s < h then q_rem c r X s else q_mem r s) → g_MM_remember_2 E (d + 1) po (nI h) σ := by
  have h15 := ok.1
  intro f
  induction f with
  | zero =>
    intro h σ hi h1 fr hm
    have T := y_tree_fr X0.1 fr (by decide) (by decide)
    refine r_MM_remember_2 ?_
    rw [T.1]
    simp only [i_lt, i_n (show q_n c ≤ 100000 by omega), i_n (show h ≤ 100000 by omega)]
    refine ⟨fun _ => hp σ (y_run_mem X0.2.2.2 fr (fun s hs => ?_)) fr, fun q => absurd (by omega) q⟩
    rw [hm s hs]
    split
    · rfl
    · unfold q_rem
      rw [q_if_f (by omega)]
  | succ f ih =>
    intro h σ hi h1 fr hm
    have T := y_tree_fr X0.1 fr (by decide) (by decide)
    have hk := ok.2.2.2.2.1 h h1 (by omega)
    have hin : vp_in (nI h) 16 := i_in (by omega) (by omega)
    have skip : ¬ (1 ≤ h ∧ h ≤ q_n c ∧ 4 ≤ q_kd c h ∧ X (q_par c h)) → g_MM_remember_2 E (d + 1) po (nI (h + 1)) σ := fun hc => ih (h + 1) σ (by omega) (by omega) fr (fun s hs => by
      rw [hm s hs]
      by_cases e : s = h
      · subst e
        rw [if_neg (by omega), if_pos (by omega)]
        unfold q_rem
        rw [q_if_f hc]
      · by_cases e2 : s < h
        · rw [if_pos e2, if_pos (by omega)]
        · rw [if_neg e2, if_neg (by omega)])
    refine r_MM_remember_2 ?_
    rw [T.1, i_cl (n := h) (by omega), T.2.2.1 h (by omega), T.2.1 h h1 (by omega), i_inc h]
    simp only [i_lt, i_n (show q_n c ≤ 100000 by omega), i_n (show h ≤ 100000 by omega), i_n (show q_kd c h ≤ 100000 by omega), i_4]
    refine ⟨fun q => absurd q (by omega), fun _ => ⟨hin, fun q => skip (by omega), fun q => ⟨hin, i_in (by omega) (by omega), ?_⟩⟩⟩
    have hp0 : q_par c h ≠ 0 := fun e => by have := hk.2.2.2.2.2 e; omega
    rw [i_cl (n := q_par c h) (by omega), fr.1 25 (by decide) (by decide), hX (q_par c h) (by omega) (by omega)]
    refine q_zb (fun q2 => skip (fun z => q2 z.2.2.2)) (fun q2 => ⟨hin, ?_⟩)
    have hc : 1 ≤ h ∧ h ≤ q_n c ∧ 4 ≤ q_kd c h ∧ X (q_par c h) := ⟨h1, by omega, by omega, q2⟩
    refine t_rem43 (M := σ 16) ok X0 K hw h1 (by omega) (by omega) (fun σ' b1 b2 b3 => ?_) (q_n c) 1 _ (by omega) (by omega) (y_fr_a fr (by decide) (by decide)) (fun j hj => dx_uk hj) (fun x => ?_)
    · refine ih (h + 1) σ' (by omega) (by omega) b3 (fun s hs => ?_)
      by_cases e : s = h
      · subst e
        rw [if_pos (by omega)]
        refine b_ext (fun i _ => ?_)
        have e1 := b1 i
        have e2 := q_rem_bt (X := X) ok K hc (x := i)
        have e3 : bt (σ' 16 s) i = true ↔ bt (q_rem c r X s) i = true := by
          rw [e1, e2]
          unfold q_mine
          by_cases k4 : q_kd c s = 4
          · rw [if_pos k4, if_pos k4]
            constructor
            · rintro ⟨z1, z2⟩; exact ⟨z1, K.1 i z1, z2⟩
            · rintro ⟨z1, z2⟩; exact ⟨z1, z2.2⟩
          · rw [if_neg k4, if_neg k4]
        cases h9 : bt (σ' 16 s) i <;> cases h8 : bt (q_rem c r X s) i <;> simp_all
      · rw [b2 s e, hm s hs]
        by_cases e2 : s < h
        · rw [if_pos e2, if_pos (by omega)]
        · rw [if_neg e2, if_neg (by omega)]
    · rw [dx_us, b_0]
      constructor
      · intro z; cases z
      · rintro ⟨a, b, -⟩; omega
theorem t_remember {r : q_R} {X : Nat → Prop} {σ : dx_V} (ok : q_ok c) (X0 : y_all c r σ) (K : q_rok c r) (hw : q_whole c) (hX : ∀ s, 1 ≤ s → s ≤ q_n c → σ 25 s = q_z (X s)) (hp : ∀ σ' : dx_V, y_run (q_sMem r (q_rem c r X)) σ' → y_fr [16] [] σ σ' → po none σ') : m_MM_remember E (d + 1) σ po :=
  r_MM_remember (t_rems ok X0 K hw hX hp (q_n c) 1 σ (by omega) (by omega) y_fr_rf (fun s hs => by
    rw [X0.2.2.2.2.2.2.2.1 s hs]
    split
    · next h =>
      unfold q_rem
      rw [q_if_f (by omega)]
    · rfl))
theorem lv_leave1 {r : q_R} {X : Nat → Prop} {s : Nat} (h : q_lv r) : q_lv (q_leave1 c X s r) := by
  unfold q_leave1
  by_cases hc : q_out r = 1 ∧ X s
  · rw [q_if_t hc]
    have h2 : q_lv (q_act c (nI (200 + s)) (q_write (nI (2000 + s)) r)) := lv_act (lv_w h)
    show q_lv (if _ then _ else _)
    split
    · exact h2
    · exact h2
  · rw [q_if_f hc]; exact h
theorem t_lv82 {X : Nat → Prop} (ok : q_ok c) : ∀ (s : Nat) (r : q_R) (σ : dx_V), s ≤ q_n c → y_all c r σ → q_inv c r → q_lv r → (∀ x, 1 ≤ x → x ≤ q_n c → σ 25 x = q_z (X x)) → (∀ σ' : dx_V, y_run (q_dn (q_leave1 c X) s r) σ' → y_fr y_W y_S σ σ' → po none σ') → g_MM_leaveAll_82 E (d + 3) po (nI s) σ := by
  have h15 := ok.1
  intro s
  induction s with
  | zero =>
    intro r σ hs X0 V lv hX hp
    refine r_MM_leaveAll_82 ?_
    simp only [i_lt, i_1, i_n (show 0 ≤ 100000 by omega)]
    exact ⟨fun _ => hp σ X0.2.2.2 y_fr_rf, fun h => absurd (by omega) h⟩
  | succ s ih =>
    intro r σ hs X0 V lv hX hp
    have hp : ∀ σ' : dx_V, y_run (q_dn (q_leave1 c X) s (q_leave1 c X (s + 1) r)) σ' → y_fr y_W y_S σ σ' → po none σ' := hp
    have hin : vp_in (nI (s + 1)) 16 := i_in (by omega) (by omega)
    refine r_MM_leaveAll_82 ?_
    simp only [i_lt, i_1, i_n (show s + 1 ≤ 100000 by omega), i_2000, i_a200, i_dec]
    refine ⟨fun h => absurd h (by omega), fun _ => dx_ci1 _ _ (fun po hp => t_failed X0.2.2.2 V.1 hp) (q_zc (fun q => ?_) (fun q => ⟨hin, ?_⟩))⟩
    · rw [q_leave1_stop _ _ (by omega), q_dn_stop q_leave1_stop _ _ (by omega)] at hp
      exact hp σ X0.2.2.2 y_fr_rf
    · have ho : q_out r = 1 := lv.resolve_right (by omega)
      rw [i_cl (n := s + 1) (by omega), hX (s + 1) (by omega) hs]
      refine q_zb (fun q2 => ?_) (fun q2 => ?_)
      · rw [q_leave1_no q2] at hp
        exact ih r σ (by omega) X0 V lv hX hp
      · rw [q_leave1_yes ho q2] at hp
        refine dx_cuR (fun σ1 => y_run (q_write (nI (2000 + (s + 1))) r) σ1 ∧ y_fr y_W y_S σ σ1) (fun po hpo => t_write X0.2.2.2 V.1 (fun σ' z1 z2 => hpo σ' ⟨z1, z2⟩)) ?_
        rintro σ1 ⟨a1, a2⟩
        have X1 := y_all_fr X0 a2 a1
        have V1 : q_inv c (q_write (nI (2000 + (s + 1))) r) := v_write V
        have lv1 : q_lv (q_write (nI (2000 + (s + 1))) r) := lv_w lv
        -- behind the actions
        have tail : ∀ (r2 : q_R) (σ2 : dx_V), r2 = q_act c (nI (200 + (s + 1))) (q_write (nI (2000 + (s + 1))) r) → y_run r2 σ2 → y_fr y_W y_S σ σ2 → g_MM_leaveAll_128 E (d + 3) po (nI (s + 1)) σ2 := by
          intro r2 σ2 e2 b1 b2
          have V2 : q_inv c r2 := by rw [e2]; exact v_act V1
          have lv2 : q_lv r2 := by rw [e2]; exact lv_act lv1
          rw [← e2] at hp
          have X2 := y_all_fr X0 b2 b1
          have hX2 : ∀ x, 1 ≤ x → x ≤ q_n c → σ2 25 x = q_z (X x) := fun x x1 x2 => by rw [b2.1 25 (by decide) (by decide)]; exact hX x x1 x2
          refine r_MM_leaveAll_128 ?_
          rw [i_dec, i_cl (n := s + 1) (by omega), nar0]
          refine dx_ci1 _ _ (fun po hp => t_failed X2.2.2.2 V2.1 hp) (q_zc (fun q3 => ?_) (fun q3 => ⟨hin, ?_⟩))
          · rw [if_neg (by omega)] at hp
            exact ih r2 σ2 (by omega) X2 V2 lv2 hX2 (fun σ' z1 z2 => hp σ' z1 (y_fr_t b2 z2))
          · have ho2 : q_out r2 = 1 := lv2.resolve_right (by omega)
            rw [if_pos ho2] at hp
            have f3 : y_fr y_W y_S σ (dx_u σ2 15 (s + 1) 0) := y_fr_a b2 (by decide) (by decide)
            have x3 : y_run (q_sOn r2 (fun x => x ≠ s + 1 ∧ q_on r2 x)) (dx_u σ2 15 (s + 1) 0) := y_run_on X2.2.2.2 (q_z_f (fun z => z.1 rfl)).symm (fun x hx => ⟨fun z => z.2, fun z => ⟨hx, z⟩⟩)
            exact ih _ _ (by omega) (y_all_fr X0 f3 x3) ⟨⟨fun x hx => V2.1.1 x hx.2, V2.1.2⟩, V2.2⟩ (Or.inl ho2) (fun x x1 x2 => hX2 x x1 x2) (fun σ' z1 z2 => hp σ' z1 (y_fr_t f3 z2))
        refine dx_ci1 _ _ (fun po hp => t_failed X1.2.2.2 V1.1 hp) (q_zc (fun q3 => ?_) (fun q3 => ?_))
        · exact tail _ σ1 (q_act_stop (by omega)).symm a1 a2
        · refine dx_cuR (fun σ2 => y_run (q_act c (nI (200 + (s + 1))) (q_write (nI (2000 + (s + 1))) r)) σ2 ∧ y_fr y_W y_S σ σ2) (fun po hpo => t_act ok X1 V1.1 lv1 (fun σ' z1 z2 => hpo σ' ⟨z1, y_fr_t a2 z2⟩)) ?_
          rintro σ2 ⟨b1, b2⟩
          exact tail _ σ2 rfl b1 b2
theorem t_lv19 {r : q_R} {keep : List Nat} {s : Nat} {σ0 : dx_V} (ok : q_ok c) (X0 : y_all c r σ0) (S0 : x_num keep (σ0 0 35) (σ0 24)) (hl : keep.length ≤ 20) (hb : ∀ u ∈ keep, u < q_nt c) (s1 : 1 ≤ s) (hs : s ≤ q_n c) (hp : ∀ σ' : dx_V, σ' 25 s = q_z (q_exits c r keep s) → (∀ x, x ≠ s → σ' 25 x = σ0 25 x) → y_fr [25] [] σ0 σ' → g_MM_leaveAll_2 E (d + 4) po (nI (s + 1)) σ') : ∀ (f k : Nat) (σ : dx_V), f + k = keep.length → y_fr [25] [] σ0 σ → (∀ x, x ≠ s → σ 25 x = σ0 25 x) → σ 25 s = q_z (q_exits c r (keep.take k) s) → g_MM_leaveAll_19 E (d + 4) po (nI s) (nI k) σ := by
  have h15 := ok.1
  have h20 := ok.2.1
  intro f
  induction f with
  | zero =>
    intro k σ hi fr ho hv
    rw [List.take_of_length_le (by omega)] at hv
    refine r_MM_leaveAll_19 ?_
    rw [fr.2 35 (by decide), S0.1, i_inc s]
    simp only [i_le, i_n (show keep.length ≤ 100000 by omega), i_n (show k ≤ 100000 by omega)]
    exact ⟨fun _ => hp σ hv ho fr, fun q => absurd (by omega) q⟩
  | succ f ih =>
    intro k σ hi fr ho hv
    obtain ⟨u, hu⟩ : ∃ u, keep[k]? = some u := ⟨keep[k]'(by omega), List.getElem?_eq_getElem (by omega)⟩
    have hub := hb u (List.mem_of_getElem? hu)
    have htk : keep.take (k + 1) = keep.take k ++ [u] := by rw [List.take_add_one, hu]; rfl
    have X1 := y_all_v X0 (y_fr_w (W' := y_V) (S' := y_U) fr (by decide) (by decide))
    have ins : vp_in (nI s) 16 := i_in (by omega) (by omega)
    have ext : ∀ b : Prop, (b ↔ q_exits c r (keep.take (k + 1)) s) → ∀ w : Int32, w = q_z b → g_MM_leaveAll_19 E (d + 4) po (nI s) (nI (k + 1)) (dx_u σ 25 s w) := fun b hb2 w hw => ih (k + 1) _ (by omega) (y_fr_a fr (by decide) (by decide)) (fun x hx => by rw [dx_uk hx]; exact ho x hx) (by rw [dx_us, hw]; exact q_z_eq hb2)
    have e55 : q_exits c r (keep.take (k + 1)) s → g_MM_leaveAll_55 E (d + 4) po (nI s) (nI k) (nI s) σ := fun z => by
      refine r_MM_leaveAll_55 ⟨ins, ?_⟩
      rw [i_inc k, i_cl (n := s) (by omega), nar1]
      exact ext True ⟨fun _ => z, fun _ => trivial⟩ 1 (q_z_t trivial).symm
    have step : q_exits c r (keep.take (k + 1)) s ↔ q_exits c r (keep.take k) s ∨ q_leaves c r u s := by
      rw [htk]
      unfold q_exits
      constructor
      · rintro ⟨t, z1, z2⟩
        rcases List.mem_append.mp z1 with z1 | z1
        · exact Or.inl ⟨t, z1, z2⟩
        · rw [List.mem_singleton.mp z1] at z2; exact Or.inr z2
      · rintro (⟨t, z1, z2⟩ | z)
        · exact ⟨t, List.mem_append_left _ z1, z2⟩
        · exact ⟨u, List.mem_append_right _ List.mem_cons_self, z⟩
    refine r_MM_leaveAll_19 ?_
    rw [fr.2 35 (by decide), S0.1, i_inc k, i_cl (n := s) (by omega), i_cl (n := k) (by omega), hv, fr.1 24 (by decide) (by decide), S0.2 k u hu, nar0]
    simp only [i_le, i_n (show keep.length ≤ 100000 by omega), i_n (show k ≤ 100000 by omega)]
    refine ⟨fun q => absurd q (by omega), fun _ => ⟨ins, q_zc (fun q => e55 (step.mpr (Or.inl q))) (fun q => ⟨i_in (by omega) (by omega), dx_ci1 _ _ (fun po hp => t_leaves ok X1 hub hs hp) (q_zb (fun q2 => ⟨ins, ext False ⟨fun z => z.elim, fun z => (step.mp z).elim q q2⟩ 0 (q_z_f (fun z => z)).symm⟩) (fun q2 => e55 (step.mpr (Or.inr q2))))⟩)⟩⟩
theorem t_lv2 {r : q_R} {keep : List Nat} {σ0 : dx_V} (ok : q_ok c) (X0 : y_all c r σ0) (V : q_inv c r) (lv : q_lv r) (S0 : x_num keep (σ0 0 35) (σ0 24)) (hl : keep.length ≤ 20) (hb : ∀ u ∈ keep, u < q_nt c) (hp : ∀ σ' : dx_V, y_run (q_dn (q_leave1 c (q_exits c r keep)) (q_n c) (q_sMem r (q_rem c r (q_exits c r keep)))) σ' → y_fr [15, 16, 17, 18, 19, 20, 21, 22, 25] y_S σ0 σ' → po none σ') : ∀ (f s : Nat) (σ : dx_V), f + s = q_n c + 1 → 1 ≤ s → y_fr [25] [] σ0 σ → (∀ x, 1 ≤ x → x < s → σ 25 x = q_z (q_exits c r keep x)) → g_MM_leaveAll_2 E (d + 4) po (nI s) σ := by
  have h15 := ok.1
  intro f
  induction f with
  | zero =>
    intro s σ hi s1 fr hx
    have X1 := y_all_v X0 (y_fr_w (W' := y_V) (S' := y_U) fr (by decide) (by decide))
    refine r_MM_leaveAll_2 ?_
    rw [X1.1.1]
    simp only [i_lt, i_n (show q_n c ≤ 100000 by omega), i_n (show s ≤ 100000 by omega)]
    refine ⟨fun _ => dx_cuR (fun σ1 => y_run (q_sMem r (q_rem c r (q_exits c r keep))) σ1 ∧ y_fr [16] [] σ σ1) (fun po hpo => t_remember ok X1 V.1 V.2.1 (fun x x1 x2 => hx x x1 (by omega)) (fun σ' z1 z2 => hpo σ' ⟨z1, z2⟩)) ?_, fun q => absurd (by omega) q⟩
    rintro σ1 ⟨a1, a2⟩
    have X2 : y_all c (q_sMem r (q_rem c r (q_exits c r keep))) σ1 := y_all_fr X1 (y_fr_w a2 (by decide) (by decide)) a1
    rw [X2.1.1]
    refine t_lv82 ok (q_n c) _ σ1 (Nat.le_refl _) X2 (v_rem ok V) lv (fun x x1 x2 => by rw [a2.1 25 (by decide) (by decide)]; exact hx x x1 (by omega)) (fun σ' z1 z2 => hp σ' z1 ?_)
    exact y_fr_t (y_fr_w fr (by decide) (by decide)) (y_fr_t (y_fr_w a2 (by decide) (by decide)) (y_fr_w z2 (by decide) (by decide)))
  | succ f ih =>
    intro s σ hi s1 fr hx
    have X1 := y_all_v X0 (y_fr_w (W' := y_V) (S' := y_U) fr (by decide) (by decide))
    have ins : vp_in (nI s) 16 := i_in (by omega) (by omega)
    refine r_MM_leaveAll_2 ?_
    rw [X1.1.1, i_cl (n := s) (by omega), nar0]
    simp only [i_lt, i_n (show q_n c ≤ 100000 by omega), i_n (show s ≤ 100000 by omega)]
    refine ⟨fun q => absurd q (by omega), fun _ => ⟨ins, ?_⟩⟩
    have f1 : y_fr [25] [] σ (dx_u σ 25 s 0) := y_fr_a y_fr_rf (by decide) (by decide)
    have S1 : x_num keep (σ 0 35) (σ 24) := by rw [fr.2 35 (by decide), fr.1 24 (by decide) (by decide)]; exact S0
    refine t_lv19 (σ0 := σ) ok X1 S1 hl hb s1 (by omega) (fun σ' z1 z2 z3 => ?_) keep.length 0 _ (by omega) f1 (fun x hx2 => dx_uk hx2) ?_
    · refine ih (s + 1) σ' (by omega) (by omega) (y_fr_t fr z3) (fun x x1 x2 => ?_)
      by_cases e : x = s
      · subst e; exact z1
      · rw [z2 x e]; exact hx x x1 (by omega)
    · rw [dx_us]
      refine (q_z_f ?_).symm
      rintro ⟨t, z, -⟩
      cases z
theorem t_leaveAll {r : q_R} {keep : List Nat} {σ : dx_V} (ok : q_ok c) (X : y_all c r σ) (V : q_inv c r) (lv : q_lv r) (S : x_num keep (σ 0 35) (σ 24)) (hl : keep.length ≤ 20) (hb : ∀ u ∈ keep, u < q_nt c) (hp : ∀ σ' : dx_V, y_run (q_dn (q_leave1 c (q_exits c r keep)) (q_n c) (q_sMem r (q_rem c r (q_exits c r keep)))) σ' → y_fr [15, 16, 17, 18, 19, 20, 21, 22, 25] y_S σ σ' → po none σ') : m_MM_leaveAll E (d + 4) σ po :=
  r_MM_leaveAll (t_lv2 ok X V lv S hl hb hp (q_n c) 1 σ (by omega) (by omega) y_fr_rf (fun x a b => absurd b (by omega)))
end MLV
