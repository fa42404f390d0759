/-! Entering, a whole microstep and a macrostep of the class. -/
theorem x_run_end {r : q_R} {σ : dx_V} {Q : Prop} {v : Int32} (h : x_run r σ) (hv : q_out r = 1 → v = q_z Q) : x_run (q_sEnd r Q) (dx_u σ 4 13 v) := by
  obtain ⟨h1, h2, h3, h4, h5, h6, h7, h8, h9, h10, h11⟩ := h
  exact ⟨by rw [dx_uk (by decide)]; exact h1, by rw [dx_uk (by decide)]; exact h2, by rw [dx_uk (by decide)]; exact h3, fun q => by rw [dx_us]; exact hv q, h5, h6, h7, h8, h9, h10, h11⟩
theorem x_run_end0 {r : q_R} {σ : dx_V} {v : Int32} (h : x_run r σ) (hv : q_out r ≠ 1) : x_run r (dx_u σ 4 13 v) := by
  obtain ⟨h1, h2, h3, h4, h5, h6, h7, h8, h9, h10, h11⟩ := h
  exact ⟨by rw [dx_uk (by decide)]; exact h1, by rw [dx_uk (by decide)]; exact h2, by rw [dx_uk (by decide)]; exact h3, fun q => absurd q hv, h5, h6, h7, h8, h9, h10, h11⟩
theorem x_run_mi {r : q_R} {σ : dx_V} {k : Nat} {v : Int32} (h : x_run r σ) (hv : v = nI k) : x_run (q_sMi r k) (dx_u σ 4 11 v) := by
  obtain ⟨h1, h2, h3, h4, h5, h6, h7, h8, h9, h10, h11⟩ := h
  exact ⟨by rw [dx_uk (by decide)]; exact h1, by rw [dx_us]; exact hv, by rw [dx_uk (by decide)]; exact h3, fun q => by rw [dx_uk (by decide)]; exact h4 q, h5, h6, h7, h8, h9, h10, h11⟩
section XN
variable {E : dx_E} {d : Nat} {po : dx_P} {c : q_C}
theorem s_RU_hasf {s : Nat} {w : Int32} {r : q_R} {σ : dx_V} (ok : q_ok c) (X : x_all c r σ) (hw : ∀ x, bt w x = true ↔ q_ch c s x ∧ q_on r x) (hp : po (some (q_z (q_fin c r s))) σ) : ∀ (f i : Nat), f + i = q_n c + 1 → 1 ≤ i → (∀ x, 1 ≤ x → x < i → ¬ (q_par c x = s ∧ q_kd c x = 3 ∧ q_on r x)) → g_RU_hasActiveFinalChild_20 E (d + 1) po w (nI i) σ := by
  have h15 := ok.1
  intro f
  induction f with
  | zero =>
    intro i hi h1 hno
    refine r_RU_hasActiveFinalChild_20 ?_
    rw [X.1.1]
    simp only [i_lt, i_n (show q_n c ≤ 100000 by omega), i_n (show i ≤ 100000 by omega)]
    refine ⟨fun _ => q_p0 hp ?_, fun q => absurd (by omega) q⟩
    rintro ⟨x, a, b, z⟩
    exact hno x a (by omega) z
  | succ f ih =>
    intro i hi h1 hno
    have hk := ok.2.2.2.2.1 i h1 (by omega)
    refine r_RU_hasActiveFinalChild_20 ?_
    rw [X.1.1, i_inc i, i_cl (by omega)]
    simp only [i_lt, i_n (show q_n c ≤ 100000 by omega), i_n (show i ≤ 100000 by omega)]
    refine ⟨fun q => absurd q (by omega), fun _ => dx_ci1 _ _ (fun po hp => s_MC_isIn (by omega) hp) ?_⟩
    rw [q_z_eq (hw i), X.1.2.1 i (by omega)]
    refine q_zb (fun q => ih (i + 1) (by omega) (by omega) (fun x a b z => ?_)) (fun q => ⟨i_in (by omega) (by omega), fun q2 => ih (i + 1) (by omega) (by omega) (fun x a b z => ?_), fun q2 => q_p1 hp ⟨i, h1, by omega, q.1.2, i_nj (b := 3) q2 (by omega) (by omega), q.2⟩⟩)
    · by_cases e : x = i
      · subst e; exact q ⟨⟨⟨h1, by omega, by omega⟩, z.1⟩, z.2.2⟩
      · exact hno x a (by omega) z
    · by_cases e : x = i
      · subst e; exact q2 (by rw [z.2.1]; rfl)
      · exact hno x a (by omega) z
theorem s_RU_hasActiveFinalChild {s : Nat} {r : q_R} {σ : dx_V} (ok : q_ok c) (X : x_all c r σ) (hs : s ≤ 15) (hp : po (some (q_z (q_fin c r s))) σ) : m_RU_hasActiveFinalChild E (d + 1) (nI s) σ po := by
  refine r_RU_hasActiveFinalChild ⟨i_in (by omega) (by omega), ?_⟩
  refine s_RU_hasf ok X (fun x => ?_) hp (q_n c) 1 (by omega) (by omega) (fun x a b => absurd b (by omega))
  rw [b_and, Bool.and_eq_true, i_cl (by omega), X.1.2.2.2.2.1 s hs x, X.2.2.2.2.2.2.2.2.2.1 x]
theorem s_RU_alld {p : Nat} {r : q_R} {σ : dx_V} (ok : q_ok c) (X : x_all c r σ) (hs : p ≤ 15) (hp : po (some (q_z (∀ x, q_ch c p x → q_fin c r x))) σ) : ∀ (f i : Nat), f + i = q_n c + 1 → 1 ≤ i → (∀ x, q_ch c p x → x < i → q_fin c r x) → g_RU_allChildrenDone_2 E (d + 2) po (nI p) (nI i) σ := by
  have h15 := ok.1
  intro f
  induction f with
  | zero =>
    intro i hi h1 hno
    refine r_RU_allChildrenDone_2 ?_
    rw [X.1.1]
    simp only [i_lt, i_n (show q_n c ≤ 100000 by omega), i_n (show i ≤ 100000 by omega)]
    refine ⟨fun _ => q_p1 hp (fun x hx => hno x hx ?_), fun q => absurd (by omega) q⟩
    have := hx.1.2.1
    omega
  | succ f ih =>
    intro i hi h1 hno
    refine r_RU_allChildrenDone_2 ?_
    rw [X.1.1, i_inc i, i_cl (by omega)]
    simp only [i_lt, i_n (show q_n c ≤ 100000 by omega), i_n (show i ≤ 100000 by omega)]
    refine ⟨fun q => absurd q (by omega), fun _ => ⟨i_in (by omega) (by omega), dx_ci1 _ _ (fun po hp => s_MC_isIn (by omega) hp) ?_⟩⟩
    rw [q_z_eq (X.1.2.2.2.2.1 p hs i)]
    refine q_zb (fun q => ih (i + 1) (by omega) (by omega) (fun x hx b => ?_)) (fun q => dx_ci1 _ _ (fun po hp => s_RU_hasActiveFinalChild ok X (by omega) hp) (q_zc (fun q2 => ih (i + 1) (by omega) (by omega) (fun x hx b => ?_)) (fun q2 => q_p0 hp (fun z => q2 (z i q)))))
    · by_cases e : x = i
      · subst e; exact absurd hx q
      · exact hno x hx (by omega)
    · by_cases e : x = i
      · subst e; exact q2
      · exact hno x hx (by omega)
theorem s_RU_allChildrenDone {p : Nat} {r : q_R} {σ : dx_V} (ok : q_ok c) (X : x_all c r σ) (hs : p ≤ 15) (hp : po (some (q_z (∀ x, q_ch c p x → q_fin c r x))) σ) : m_RU_allChildrenDone E (d + 2) (nI p) σ po :=
  r_RU_allChildrenDone (s_RU_alld ok X hs hp (q_n c) 1 (by omega) (by omega) (fun x hx b => by have := hx.1.1; omega))
theorem q_finish_no {r : q_R} {s : Nat} (h : q_par c s ≠ 0) : q_finish c s r = q_if (q_out (q_raise (nI (100 + q_par c s)) r) = 1 ∧ q_kd c (q_par c (q_par c s)) = 2 ∧ ∀ x, q_ch c (q_par c (q_par c s)) x → q_fin c (q_raise (nI (100 + q_par c s)) r) x) (q_raise (nI (100 + q_par c (q_par c s))) (q_raise (nI (100 + q_par c s)) r)) (q_raise (nI (100 + q_par c s)) r) := by
  unfold q_finish
  rw [if_neg h]
theorem s_RU_announceFinal {s : Nat} {r : q_R} {σ : dx_V} (ok : q_ok c) (X : x_all c r σ) (K : q_rok c r) (h1 : 1 ≤ s) (hn : s ≤ q_n c) (hp : ∀ σ' : dx_V, x_run (if q_out r = 1 then q_finish c s r else r) σ' → x_fr x_W σ σ' → po none σ') : m_RU_announceFinal E (d + 3) (nI s) σ po := by
  have h15 := ok.1
  have hk := ok.2.2.2.2.1 s h1 hn
  refine r_RU_announceFinal ⟨i_in (by omega) (by omega), ?_⟩
  rw [i_cl (by omega), X.1.2.2.1 s h1 hn, i_a100, i_cl (by omega)]
  have e0 : nI (q_par c s) = 0 ↔ q_par c s = 0 := by rw [i_eq, i_n (by omega), i_0]; omega
  rw [e0]
  refine ⟨fun q => ?_, fun q => ?_⟩
  · have hk2 := ok.2.2.2.2.1 (q_par c s) (by omega) (by omega)
    rw [q_finish_no q] at hp
    refine dx_cuR (fun σ1 => x_run (if q_out r = 1 then q_raise (nI (100 + q_par c s)) r else r) σ1 ∧ x_fr x_W σ σ1) (fun po hpo => s_RU_putInternal X.2.2.2 K (fun σ' z1 z2 => hpo σ' ⟨z1, z2⟩)) ?_
    rintro σ1 ⟨a1, a2⟩
    have X1 := x_all_fr X a2 a1
    rw [X1.1.2.2.1 (q_par c s) (by omega) (by omega), i_cl (by omega), X1.1.2.1 (q_par c (q_par c s)) (by omega), i_a100]
    refine ⟨i_in (by omega) (by omega), i_in (by omega) (by omega), ?_⟩
    have e2 : nI (q_kd c (q_par c (q_par c s))) = 2 ↔ q_kd c (q_par c (q_par c s)) = 2 := by
      have : q_kd c (q_par c (q_par c s)) ≤ 2 := hk2.2.2.2.1
      rw [i_eq, i_n (by omega), i_2]; omega
    rw [e2]
    by_cases ho : q_out r = 1
    · rw [if_pos ho] at a1 X1
      rw [if_pos ho] at hp
      have K1 : q_rok c (q_raise (nI (100 + q_par c s)) r) := k_raise K
      generalize q_raise (nI (100 + q_par c s)) r = r1 at *
      refine ⟨fun q2 => ?_, fun q2 => dx_ci1 _ _ (fun po hp => s_RU_allChildrenDone ok X1 (by omega) hp) (q_zb (fun q3 => ?_) (fun q3 => dx_cuR (fun σ2 => x_run (if q_out r1 = 1 then q_raise (nI (100 + q_par c (q_par c s))) r1 else r1) σ2 ∧ x_fr x_W σ1 σ2) (fun po hpo => s_RU_putInternal X1.2.2.2 K1 (fun σ' z1 z2 => hpo σ' ⟨z1, z2⟩)) ?_))⟩
      · rw [q_if_f (fun z => q2 z.2.1)] at hp
        exact hp σ1 a1 a2
      · rw [q_if_f (fun z => q3 z.2.2)] at hp
        exact hp σ1 a1 a2
      · rintro σ2 ⟨b1, b2⟩
        refine hp σ2 ?_ (x_fr_tr a2 b2 (fun _ z => z))
        by_cases ho1 : q_out r1 = 1
        · rw [if_pos ho1] at b1
          rw [q_if_t ⟨ho1, q2, q3⟩]
          exact b1
        · rw [if_neg ho1] at b1
          rw [q_if_f (fun z => ho1 z.1)]
          exact b1
    · rw [if_neg ho] at a1 X1
      rw [if_neg ho] at hp
      refine ⟨fun q2 => hp σ1 a1 a2, fun q2 => dx_ci1 _ _ (fun po hp => s_RU_allChildrenDone ok X1 (by omega) hp) (q_zb (fun q3 => hp σ1 a1 a2) (fun q3 => dx_cuR (fun σ2 => x_run (if q_out r = 1 then q_raise (nI (100 + q_par c (q_par c s))) r else r) σ2 ∧ x_fr x_W σ1 σ2) (fun po hpo => s_RU_putInternal X1.2.2.2 K (fun σ' z1 z2 => hpo σ' ⟨z1, z2⟩)) ?_))⟩
      rintro σ2 ⟨b1, b2⟩
      rw [if_neg ho] at b1
      exact hp σ2 b1 (x_fr_tr a2 b2 (fun _ z => z))
  · refine hp _ ?_ (x_fr_u x_fr_rf (by decide))
    by_cases ho : q_out r = 1
    · rw [if_pos ho]
      unfold q_finish
      rw [if_pos q]
      exact x_run_end X.2.2.2 (fun _ => (q_z_t trivial).symm)
    · rw [if_neg ho]
      exact x_run_end0 X.2.2.2 ho
theorem q_enter1_stop {N : Nat → Prop} : ∀ i r, q_out r ≠ 1 → q_enter1 c N i r = r := fun i r h => by unfold q_enter1; rw [q_if_f (fun q => h q.1)]
theorem q_enter1_no {N : Nat → Prop} {s : Nat} {r : q_R} (h : ¬ N s) : q_enter1 c N s r = r := by unfold q_enter1; rw [q_if_f (fun q => h q.2)]
theorem q_enter1_yes {N : Nat → Prop} {s : Nat} {r : q_R} (ho : q_out r = 1) (h : N s) : q_enter1 c N s r = if q_out (q_write (nI (1000 + s)) r) = 1 then (if q_out (q_act c (nI (100 + s)) (q_sOn (q_write (nI (1000 + s)) r) (fun x => x = s ∨ q_on (q_write (nI (1000 + s)) r) x))) = 1 ∧ q_kd c s = 3 then q_finish c s (q_act c (nI (100 + s)) (q_sOn (q_write (nI (1000 + s)) r) (fun x => x = s ∨ q_on (q_write (nI (1000 + s)) r) x))) else q_act c (nI (100 + s)) (q_sOn (q_write (nI (1000 + s)) r) (fun x => x = s ∨ q_on (q_write (nI (1000 + s)) r) x))) else q_write (nI (1000 + s)) r := by
  unfold q_enter1
  rw [q_if_t ⟨ho, h⟩]
theorem s_RU_enters {v : Int32} {N : Nat → Prop} (ok : q_ok c) (hN : ∀ s, N s → q_st c s) (hv : ∀ x, bt v x = true ↔ N x) : ∀ (f s : Nat) (r : q_R) (σ : dx_V), f + s = q_n c + 1 → 1 ≤ s → x_all c r σ → q_inv c r → (∀ σ' : dx_V, x_run (q_it (q_enter1 c N) f s r) σ' → x_fr x_W σ σ' → po none σ') → g_RU_enter_2 E (d + 4) po v (nI s) σ := by
  have h15 := ok.1
  intro f
  induction f with
  | zero =>
    intro s r σ hi h1 X V hp
    refine r_RU_enter_2 ?_
    rw [X.1.1]
    simp only [i_lt, i_n (show q_n c ≤ 100000 by omega), i_n (show s ≤ 100000 by omega)]
    exact ⟨fun _ => hp σ X.2.2.2 x_fr_rf, fun q => absurd (by omega) q⟩
  | succ f ih =>
    intro s r σ hi h1 X V hp
    have hp : ∀ σ' : dx_V, x_run (q_it (q_enter1 c N) f (s + 1) (q_enter1 c N s r)) σ' → x_fr x_W σ σ' → po none σ' := hp
    have hk := ok.2.2.2.2.1 s h1 (by omega)
    refine r_RU_enter_2 ?_
    rw [X.1.1]
    simp only [i_lt, i_n (show q_n c ≤ 100000 by omega), i_n (show s ≤ 100000 by omega), i_1000, i_a100, i_inc, i_cl (show s ≤ 100000 by omega)]
    refine ⟨fun q => absurd q (by omega), fun _ => dx_ci1 _ _ (fun po hp => s_MC_isIn (by omega) hp) ?_⟩
    rw [q_z_eq (hv s)]
    refine q_zb (fun q => ?_) (fun q => dx_cuR (fun σ1 => x_run (if q_out r = 1 then q_write (nI (1000 + s)) r else r) σ1 ∧ x_fr x_W σ σ1) (fun po hpo => s_RU_putRecord X.2.2.2 V.1 (fun σ' z1 z2 => hpo σ' ⟨z1, z2⟩)) ?_)
    · rw [q_enter1_no q] at hp
      exact ih (s + 1) r σ (by omega) (by omega) X V hp
    · rintro σ1 ⟨a1, a2⟩
      by_cases ho : q_out r = 1
      · rw [if_pos ho] at a1
        rw [q_enter1_yes ho q] at hp
        have X1 := x_all_fr X a2 a1
        have V1 : q_inv c (q_write (nI (1000 + s)) r) := v_write V
        generalize q_write (nI (1000 + s)) r = r1 at *
        have hg := x_go X1.2.2.2 V1.1
        refine dx_ci1 _ _ (fun po hp => s_RU_isGoingOn hp) (q_zc (fun q2 => ?_) (fun q2 => ?_))
        · have ho1 := hg.mp q2
          rw [if_pos ho1] at hp
          have hon : x_run (q_sOn r1 (fun x => x = s ∨ q_on r1 x)) (dx_u σ1 5 1 ((σ1 5 1) ||| (1 <<< (nI s &&& 31)))) := x_run_on X1.2.2.2 (fun x => by
            rw [b_or, Bool.or_eq_true, b_one (by omega), X1.2.2.2.2.2.2.2.2.2.1 x]
            exact Or.comm)
          have hf : x_fr x_W σ (dx_u σ1 5 1 ((σ1 5 1) ||| (1 <<< (nI s &&& 31)))) := x_fr_u a2 (by decide)
          have X2 := x_all_fr X hf hon
          have V2 : q_inv c (q_sOn r1 (fun x => x = s ∨ q_on r1 x)) := ⟨⟨fun x hx => hx.elim (fun e => by rw [e]; exact hN s q) (fun z => V1.1.1 x z), V1.1.2⟩, V1.2⟩
          generalize q_sOn r1 (fun x => x = s ∨ q_on r1 x) = r2 at *
          refine dx_cuR (fun σ3 => x_run (q_act c (nI (100 + s)) r2) σ3 ∧ x_fr x_W σ σ3) (fun po hpo => s_RU_doActions ok X2 V2.1 (fun σ' z1 z2 => hpo σ' ⟨z1, x_fr_tr hf z2 (fun _ z => z)⟩)) ?_
          rintro σ3 ⟨b1, b2⟩
          have X3 := x_all_fr X b2 b1
          have V3 : q_inv c (q_act c (nI (100 + s)) r2) := v_act V2
          generalize q_act c (nI (100 + s)) r2 = r3 at *
          rw [X3.1.2.1 s (by omega)]
          have e3 : nI (q_kd c s) = 3 ↔ q_kd c s = 3 := by rw [i_eq, i_n (by omega), i_3]; omega
          rw [e3]
          refine ⟨i_in (by omega) (by omega), fun q3 => ?_, fun q3 => dx_cuR (fun σ4 => x_run (if q_out r3 = 1 then q_finish c s r3 else r3) σ4 ∧ x_fr x_W σ3 σ4) (fun po hpo => s_RU_announceFinal ok X3 V3.1 h1 (by omega) (fun σ' z1 z2 => hpo σ' ⟨z1, z2⟩)) ?_⟩
          · rw [if_neg (fun z => q3 z.2)] at hp
            exact ih (s + 1) r3 σ3 (by omega) (by omega) X3 V3 (fun σ' z1 z2 => hp σ' z1 (x_fr_tr b2 z2 (fun _ z => z)))
          · rintro σ4 ⟨c1, c2⟩
            have e4 : (if q_out r3 = 1 ∧ q_kd c s = 3 then q_finish c s r3 else r3) = (if q_out r3 = 1 then q_finish c s r3 else r3) := by
              by_cases ho3 : q_out r3 = 1
              · rw [if_pos ho3, if_pos ⟨ho3, q3⟩]
              · rw [if_neg ho3, if_neg (fun z => ho3 z.1)]
            rw [e4] at hp
            have V4 : q_inv c (if q_out r3 = 1 then q_finish c s r3 else r3) := by
              split
              · exact v_finish V3
              · exact V3
            have f4 := x_fr_tr b2 c2 (fun _ z => z)
            exact ih (s + 1) _ σ4 (by omega) (by omega) (x_all_fr X f4 c1) V4 (fun σ' z1 z2 => hp σ' z1 (x_fr_tr f4 z2 (fun _ z => z)))
        · have ho1 : q_out r1 ≠ 1 := fun z => q2 (hg.mpr z)
          rw [if_neg ho1, q_it_stop q_enter1_stop _ _ _ ho1] at hp
          exact hp σ1 a1 a2
      · rw [if_neg ho] at a1
        have X1 := x_all_fr X a2 a1
        have hg := x_go X1.2.2.2 V.1
        rw [q_enter1_stop _ _ ho, q_it_stop q_enter1_stop _ _ _ ho] at hp
        exact dx_ci1 _ _ (fun po hp => s_RU_isGoingOn hp) (q_zc (fun q2 => absurd (hg.mp q2) ho) (fun q2 => hp σ1 a1 a2))
theorem s_RU_enter {v : Int32} {N : Nat → Prop} {r : q_R} {σ : dx_V} (ok : q_ok c) (hN : ∀ s, N s → q_st c s) (hv : ∀ x, bt v x = true ↔ N x) (X : x_all c r σ) (V : q_inv c r) (hp : ∀ σ' : dx_V, x_run (q_it (q_enter1 c N) (q_n c) 1 r) σ' → x_fr x_W σ σ' → po none σ') : m_RU_enter E (d + 4) v σ po :=
  r_RU_enter (s_RU_enters ok hN hv (q_n c) 1 r σ (by omega) (by omega) X V hp)
theorem s_RU_finishIfEnded {r : q_R} {σ : dx_V} (X : x_run r σ) (K : q_rok c r) (hp : ∀ σ' : dx_V, x_run (q_close r) σ' → x_fr x_W σ σ' → po none σ') : m_RU_finishIfEnded E (d + 1) σ po := by
  have hg := x_go X K
  unfold q_close at hp
  refine r_RU_finishIfEnded (dx_ci1 _ _ (fun po hp => s_RU_isGoingOn hp) (q_zb (fun q => ?_) (fun q => ?_)))
  · rw [q_if_f (fun z => q (hg.mpr z.1))] at hp
    exact hp σ X x_fr_rf
  · have ho := hg.mp q
    rw [X.2.2.2.1 ho]
    refine q_zb (fun q2 => ?_) (fun q2 => ?_)
    · rw [q_if_f (fun z => q2 z.2)] at hp
      exact hp σ X x_fr_rf
    · rw [q_if_t ⟨ho, q2⟩] at hp
      exact hp _ (x_run_out X rfl (by decide)) (x_fr_u x_fr_rf (by decide))
theorem q_enter_stop {N : Nat → Prop} {r : q_R} (h : q_out r ≠ 1) : q_enter c N r = r := by
  unfold q_enter q_close
  rw [q_it_stop q_enter1_stop _ _ _ h, q_if_f (fun z => h z.1)]
theorem q_full_st {B : Nat → Prop} (hB : ∀ x, B x → q_st c x) : ∀ x, q_full c B x → q_st c x := by
  intro x h
  exact h.elim (hB x) (fun z => z.1)
theorem q_base_st {r : q_R} {l : List Nat} (ok : q_ok c) (M : q_mok c r) (hb : ∀ u ∈ l, u < q_nt c) : ∀ x, q_base c r l x → q_st c x := by
  rintro x ⟨t, ht, h0, h⟩
  obtain ⟨y, hy, hw⟩ := q_aim_iff.mp h
  have hy2 := q_meant_ok ok M (hb t ht) h0 hy
  rcases hw.1 with e | e
  · rw [e]; exact hy2.1
  · have hx0 : 1 ≤ x := Nat.one_le_iff_ne_zero.mpr (fun e => by subst e; exact q_bl_0 hw.2)
    exact q_bl_st ok y x hy2.1.2.1 e hx0
theorem q_exits_st {r : q_R} {l : List Nat} (K : q_rok c r) : ∀ s, q_exits c r l s → q_st c s := by
  rintro s ⟨t, -, h⟩
  exact K.1 s h.2.1
theorem v_micro {r : q_R} {sel : List Nat} (ok : q_ok c) (V : q_inv c r) (hb : ∀ u ∈ q_settle c r sel, u < q_nt c) : q_inv c (q_micro c sel r) := by
  unfold q_micro
  split
  · exact ⟨⟨V.1.1, V.1.2.1, V.1.2.2.1, V.1.2.2.2.1, V.1.2.2.2.2.1, V.1.2.2.2.2.2.1, (by decide : 3 ≤ 4)⟩, V.2⟩
  · next h30 =>
    have V0 : q_inv c (q_sMi r (q_mi r + 1)) := ⟨⟨V.1.1, V.1.2.1, V.1.2.2.1, V.1.2.2.2.1, V.1.2.2.2.2.1, (by have := V.1.2.2.2.2.2.1; show q_mi r + 1 ≤ 30; omega), V.1.2.2.2.2.2.2⟩, V.2⟩
    have V1 := v_rem (X := q_exits c (q_sMi r (q_mi r + 1)) (q_settle c (q_sMi r (q_mi r + 1)) sel)) ok V0
    have V2 := dn_keep (P := q_inv c) (g := q_leave1 c (q_exits c (q_sMi r (q_mi r + 1)) (q_settle c (q_sMi r (q_mi r + 1)) sel))) (fun _ _ V => v_leave1 V) (q_n c) _ V1
    have V3 := v_take (q_settle c (q_sMi r (q_mi r + 1)) sel) _ V2
    show q_inv c (if _ then _ else _)
    split
    · exact v_enter (q_full_st (q_base_st ok V3.2 hb)) V3
    · exact V3
theorem s_RU_microstep {r : q_R} {σ : dx_V} {sel : List Nat} (ok : q_ok c) (X : x_all c r σ) (V : q_inv c r) (ho : q_out r = 1) (hb : ∀ u ∈ q_settle c r sel, u < q_nt c) (hl : (q_settle c r sel).length ≤ 20) (S : x_num (q_settle c r sel) (σ 6 6) (σ 31)) (hp : ∀ σ' : dx_V, x_run (q_micro c sel r) σ' → x_fr x_W σ σ' → po none σ') : m_RU_microstep E (d + 5) σ po := by
  have hmi := V.1.2.2.2.2.2.1
  refine r_RU_microstep ?_
  rw [X.2.2.2.2.1, i_inc]
  have e30 : nI (q_mi r) = 30 ↔ q_mi r = 30 := by rw [i_eq, i_n (by omega), i_30]; omega
  rw [e30]
  unfold q_micro at hp
  refine ⟨fun q => ?_, fun q => ?_⟩
  · rw [if_neg q] at hp
    have x0 : x_run (q_sMi r (q_mi r + 1)) (dx_u σ 4 11 (nI (q_mi r + 1))) := x_run_mi X.2.2.2 rfl
    have f0 : x_fr x_W σ (dx_u σ 4 11 (nI (q_mi r + 1))) := x_fr_u x_fr_rf (by decide)
    have V0 : q_inv c (q_sMi r (q_mi r + 1)) := ⟨⟨V.1.1, V.1.2.1, V.1.2.2.1, V.1.2.2.2.1, V.1.2.2.2.2.1, (by show q_mi r + 1 ≤ 30; omega), V.1.2.2.2.2.2.2⟩, V.2⟩
    have ho0 : q_out (q_sMi r (q_mi r + 1)) = 1 := ho
    have es : q_settle c (q_sMi r (q_mi r + 1)) sel = q_settle c r sel := rfl
    have S0 := x_num_w S f0
    have hp : ∀ σ' : dx_V, x_run (if q_out (q_take c (q_settle c r sel) (q_dn (q_leave1 c (q_exits c (q_sMi r (q_mi r + 1)) (q_settle c r sel))) (q_n c) (q_sMem (q_sMi r (q_mi r + 1)) (q_rem c (q_sMi r (q_mi r + 1)) (q_exits c (q_sMi r (q_mi r + 1)) (q_settle c r sel)))))) = 1 then q_enter c (q_full c (q_base c (q_take c (q_settle c r sel) (q_dn (q_leave1 c (q_exits c (q_sMi r (q_mi r + 1)) (q_settle c r sel))) (q_n c) (q_sMem (q_sMi r (q_mi r + 1)) (q_rem c (q_sMi r (q_mi r + 1)) (q_exits c (q_sMi r (q_mi r + 1)) (q_settle c r sel)))))) (q_settle c r sel))) (q_take c (q_settle c r sel) (q_dn (q_leave1 c (q_exits c (q_sMi r (q_mi r + 1)) (q_settle c r sel))) (q_n c) (q_sMem (q_sMi r (q_mi r + 1)) (q_rem c (q_sMi r (q_mi r + 1)) (q_exits c (q_sMi r (q_mi r + 1)) (q_settle c r sel)))))) else q_take c (q_settle c r sel) (q_dn (q_leave1 c (q_exits c (q_sMi r (q_mi r + 1)) (q_settle c r sel))) (q_n c) (q_sMem (q_sMi r (q_mi r + 1)) (q_rem c (q_sMi r (q_mi r + 1)) (q_exits c (q_sMi r (q_mi r + 1)) (q_settle c r sel)))))) σ' → x_fr x_W σ σ' → po none σ' := hp
    have X0 := x_all_fr X f0 x0
    generalize q_settle c r sel = keep at *
    generalize dx_u σ 4 11 (nI (q_mi r + 1)) = σ0 at *
    generalize q_sMi r (q_mi r + 1) = r0 at *
    refine dx_ciR (fun x σ1 => σ1 = σ0 ∧ ∀ s, bt x s = true ↔ q_exits c r0 keep s) (fun po hpo => s_SE_allExits ok X0 V0.1 S0 hl hb (fun x hx => hpo x σ0 ⟨rfl, hx⟩)) ?_
    rintro x σ0' ⟨rfl, hx⟩
    refine dx_cuR (fun σ1 => x_run (q_sMem r0 (q_rem c r0 (q_exits c r0 keep))) σ1 ∧ x_fr x_W σ σ1) (fun po hpo => s_RU_rememberBefore ok X0 V0.1 hx (fun σ' z1 z2 => hpo σ' ⟨z1, x_fr_tr f0 z2 (fun _ z => z)⟩)) ?_
    rintro σ1 ⟨a1, a2⟩
    have X1 := x_all_fr X a2 a1
    have V1 := v_rem (X := q_exits c r0 keep) ok V0
    have ho1 : q_out (q_sMem r0 (q_rem c r0 (q_exits c r0 keep))) = 1 := ho0
    have hst := q_exits_st (l := keep) V0.1
    generalize q_sMem r0 (q_rem c r0 (q_exits c r0 keep)) = r1 at *
    generalize q_exits c r0 keep = ex at *
    refine dx_cuR (fun σ2 => x_run (q_dn (q_leave1 c ex) (q_n c) r1) σ2 ∧ x_fr x_W σ σ2) (fun po hpo => s_RU_leave ok X1 V1.1 ho1 hst hx (fun σ' z1 z2 => hpo σ' ⟨z1, x_fr_tr a2 z2 (fun _ z => z)⟩)) ?_
    rintro σ2 ⟨b1, b2⟩
    have X2 := x_all_fr X b2 b1
    have V2 := dn_keep (P := q_inv c) (g := q_leave1 c ex) (fun _ _ V => v_leave1 V) (q_n c) _ V1
    generalize q_dn (q_leave1 c ex) (q_n c) r1 = r2 at *
    refine dx_cuR (fun σ3 => x_run (q_take c keep r2) σ3 ∧ x_fr x_W σ σ3) (fun po hpo => s_RU_takeTransitions ok hl hb X2 V2.1 (x_num_w S b2) (fun σ' z1 z2 => hpo σ' ⟨z1, x_fr_tr b2 z2 (fun _ z => z)⟩)) ?_
    rintro σ3 ⟨c1, c2⟩
    have X3 := x_all_fr X c2 c1
    have V3 := v_take keep _ V2
    generalize q_take c keep r2 = r3 at *
    refine dx_ciR (fun x σ4 => σ4 = σ3 ∧ ∀ s, bt x s = true ↔ q_full c (q_base c r3 keep) s) (fun po hpo => s_RU_entrySet ok X3 V3.2 (x_num_w S c2) hl hb (fun x hx => hpo x σ3 ⟨rfl, hx⟩)) ?_
    rintro w σ3' ⟨rfl, hw⟩
    have hN := q_full_st (q_base_st (l := keep) ok V3.2 hb)
    have ee : (if q_out r3 = 1 then q_enter c (q_full c (q_base c r3 keep)) r3 else r3) = q_enter c (q_full c (q_base c r3 keep)) r3 := by
      by_cases ho3 : q_out r3 = 1
      · rw [if_pos ho3]
      · rw [if_neg ho3, q_enter_stop ho3]
    rw [ee] at hp
    unfold q_enter at hp
    refine dx_cuR (fun σ4 => x_run (q_it (q_enter1 c (q_full c (q_base c r3 keep))) (q_n c) 1 r3) σ4 ∧ x_fr x_W σ σ4) (fun po hpo => s_RU_enter ok hN hw X3 V3 (fun σ' z1 z2 => hpo σ' ⟨z1, x_fr_tr c2 z2 (fun _ z => z)⟩)) ?_
    rintro σ4 ⟨d1, d2⟩
    have V4 := it_keep (P := q_inv c) (g := q_enter1 c (q_full c (q_base c r3 keep))) (fun _ _ V => v_enter1 hN V) (q_n c) 1 _ V3
    exact dx_cuR (fun σ5 => x_run (q_close (q_it (q_enter1 c (q_full c (q_base c r3 keep))) (q_n c) 1 r3)) σ5 ∧ x_fr x_W σ4 σ5) (fun po hpo => s_RU_finishIfEnded d1 V4.1 (fun σ' z1 z2 => hpo σ' ⟨z1, z2⟩)) (fun σ5 z => hp σ5 z.1 (x_fr_tr d2 z.2 (fun _ z => z)))
  · rw [if_pos q] at hp
    exact hp _ (x_run_out X.2.2.2 rfl (by decide)) (x_fr_u x_fr_rf (by decide))
end XN
