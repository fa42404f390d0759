/-! The reference: step and tick. -/
section MCN
variable {E : dx_E} {d : Nat} {po : dx_P} {c : q_C} {r : q_R} {σ : dx_V}
theorem t_st39 {v : Int32} (l : List Int32) (hc : l.length < 16) : ∀ (n j : Nat) (σ : dx_V), n = l.length - j → j ≤ l.length → σ 0 25 = nI l.length → (∀ i w, l[i]? = some w → i < j → σ 19 i = w) → (∀ i w, l[i]? = some w → j ≤ i → σ 19 (i + 1) = w) → (∀ σ' : dx_V, x_line l (σ' 0 25) (σ' 19) → y_fr [19] [25] σ σ' → dx_cu (m_MM_select E d v (dx_u (dx_u σ' 0 31 0) 0 19 0)) (fun σ1 => ((σ1 0 33) ≤ 0 → g_MM_step_93 E (d + 1) po σ1) ∧ (¬ (σ1 0 33) ≤ 0 → dx_cu (m_MM_microstep E d σ1) (fun σ2 => g_MM_step_93 E (d + 1) po σ2)))) → g_MM_step_39 E (d + 1) po v (nI j) σ := by
  intro n
  induction n with
  | zero =>
    intro j σ hn hj hcnt h1 h2 hp
    refine r_MM_step_39 ?_
    rw [hcnt, i_le, i_n (show l.length ≤ 100000 by omega), i_n (show j ≤ 100000 by omega)]
    refine ⟨fun h => hp _ ⟨hcnt, fun i w hi => h1 i w hi ?_⟩ y_fr_rf, fun h => absurd (by omega) h⟩
    have := (List.getElem?_eq_some_iff.mp hi).1
    omega
  | succ n ih =>
    intro j σ hn hj hcnt h1 h2 hp
    refine r_MM_step_39 ?_
    rw [hcnt, i_inc, i_cl (n := j) (by omega), i_cl (n := j + 1) (by omega), i_le, i_n (show l.length ≤ 100000 by omega), i_n (show j ≤ 100000 by omega)]
    refine ⟨fun h => absurd h (by omega), fun h => ⟨i_in (by omega) (by omega), i_in (by omega) (by omega), ?_⟩⟩
    refine ih (j + 1) _ (by omega) (by omega) (by rw [dx_un (by decide)]; exact hcnt) (fun i w hi hlt => ?_) (fun i w hi hge => ?_) (fun σ' q1 q2 => hp σ' q1 (y_fr_t (y_fr_a y_fr_rf (by decide) (by decide)) q2))
    · by_cases hij : i = j
      · subst hij
        rw [dx_us]
        exact h2 i w hi (Nat.le_refl _)
      · rw [dx_uk hij]
        exact h1 i w hi (by omega)
    · rw [dx_uk (by omega)]
      exact h2 i w hi (by omega)
theorem t_step (H : mm c r σ) (hp : ∀ σ', mm (cl_step c r).2.1 (cl_step c r).2.2 σ' → po (some (cl_step c r).1) σ') : m_MM_step E (d + 8) σ po := by
  have ok := H.1
  have h20 := ok.2.1
  unfold cl_step at hp
  refine r_MM_step ?_
  rw [mm_1 H]
  refine ⟨fun q => ?_, fun q => ?_⟩
  · rw [if_neg (fun z => z q)] at hp
    obtain ⟨V, xr⟩ := H.2.2.2.2.2.2 (by omega)
    have X := mm_all H (by omega)
    have h16 := V.1.2.2.1
    have xl := xr.2.2.2.2.2.2.2.2.1
    have e0 : σ 0 25 = 0 ↔ (q_ex r).length = 0 := by rw [xl.1, i_eq, i_n (by omega), i_0]; omega
    rw [e0]
    refine ⟨fun q2 => ?_, fun q2 => ?_⟩
    · cases hex : q_ex r with
      | nil => rw [hex] at q2; exact absurd rfl q2
      | cons e l =>
        rw [hex] at hp xl
        simp only at hp
        rw [hex, List.length_cons] at h16
        refine ⟨i_in2 (by decide) (by decide), ?_⟩
        rw [xl.1, List.length_cons, nI_pred, show (0 : Int32).toNatClampNeg = 0 from rfl, xl.2 0 e rfl]
        refine t_st39 l (by omega) l.length 0 _ (by omega) (by omega) dx_us (fun i w _ h => absurd h (by omega)) (fun i w hi _ => by rw [dx_un (by decide)]; exact xl.2 (i + 1) w hi) (fun σ1 z1 z2 => ?_)
        have f1 : y_fr [19] [25] σ σ1 := y_fr_t (y_fr_s y_fr_rf (by decide)) z2
        have x1 := y_run_ex xr f1 z1
        have x2 : y_run (q_sMi (q_sRc (q_sEx r l) []) 0) (dx_u (dx_u σ1 0 31 0) 0 19 0) := y_run_mi (y_run_rc x1 (y_fr_s y_fr_rf (by decide)) ⟨by rw [dx_us]; rfl, fun i v h => by cases h⟩) rfl
        have f2 : y_fr y_Z y_T σ (dx_u (dx_u σ1 0 31 0) 0 19 0) := y_fr_s (y_fr_s (y_fr_w f1 (by decide) (by decide)) (by decide)) (by decide)
        have X2 := y_all_z X f2 x2
        generalize dx_u (dx_u σ1 0 31 0) 0 19 0 = σ2 at x2 f2 X2
        have V1 : q_inv c (q_sMi (q_sRc (q_sEx r l) []) 0) := ⟨⟨V.1.1, V.1.2.1, (by show l.length ≤ 16; omega), Nat.zero_le _, V.1.2.2.2.2.1, Nat.zero_le _, V.1.2.2.2.2.2.2⟩, V.2⟩
        have o1 : q_out (q_sMi (q_sRc (q_sEx r l) []) 0) = 1 := q
        have es : q_step c e l r = q_macro c 31 (if q_select c (q_sMi (q_sRc (q_sEx r l) []) 0) e = [] then q_sMi (q_sRc (q_sEx r l) []) 0 else q_micro c (q_select c (q_sMi (q_sRc (q_sEx r l) []) 0) e) (q_sMi (q_sRc (q_sEx r l) []) 0)) := rfl
        rw [es] at hp
        generalize q_sMi (q_sRc (q_sEx r l) []) 0 = r1 at hp x2 X2 V1 o1
        have fin : ∀ (r2 : q_R) (σ3 : dx_V), r2 = (if q_select c r1 e = [] then r1 else q_micro c (q_select c r1 e) r1) → y_run r2 σ3 → y_fr y_Z y_T σ σ3 → q_inv c r2 → g_MM_step_93 E (d + 8) po σ3 := by
          intro r2 σ3 er y1 y2 V2
          rw [← er] at hp
          have X3 := y_all_z X y2 y1
          refine r_MM_step_93 (dx_cuR (fun σ4 => y_run (q_macro c 31 r2) σ4 ∧ y_fr y_Z y_T σ3 σ4) (fun po hpo => t_macrostep ok X3 V2 (fun σ' z1 z2 => hpo σ' ⟨z1, z2⟩)) ?_)
          rintro σ4 ⟨b1, b2⟩
          rw [b1.2.1]
          exact hp σ4 (mm_run H (y_fr_t y2 b2) b1 (v_macro ok 31 _ V2))
        refine dx_cuR (fun σ3 => x_num (q_select c r1 e) (σ3 0 33) (σ3 23) ∧ y_fr y_V y_U σ2 σ3) (fun po hpo => t_select ok X2 V1.1 V1.2.1 (fun σ' z1 z2 => hpo σ' ⟨z1, z2⟩)) ?_
        rintro σ3 ⟨b1, b2⟩
        have X3 := y_all_v X2 b2
        have f3 := y_fr_t f2 (y_zv b2)
        have hsel := q_select_ok (c := c) (r := r1) (e := e)
        have hlen := q_nd _ _ hsel.1 hsel.2
        rw [b1.1]
        have e0 : nI (q_select c r1 e).length ≤ 0 ↔ q_select c r1 e = [] := by rw [i_le, i_n (by omega), i_0]; exact ⟨fun z => List.eq_nil_of_length_eq_zero (by omega), fun z => by rw [z]; exact Int.le_refl _⟩
        rw [e0]
        refine ⟨fun q3 => fin r1 σ3 (by rw [if_pos q3]) X3.2.2.2 f3 V1, fun q3 => ?_⟩
        obtain ⟨hb, hl⟩ := q_set_ok (r := r1) (r' := r1) ok (Or.inr ⟨e, rfl⟩)
        refine dx_cuR (fun σ4 => y_run (q_micro c (q_select c r1 e) r1) σ4 ∧ y_fr y_Z y_T σ3 σ4) (fun po hpo => t_microstep ok X3 V1 o1 (by omega) hsel.2 hb hl b1 (fun σ' w1 w2 => hpo σ' ⟨w1, w2⟩)) ?_
        rintro σ4 ⟨c1, c2⟩
        exact fin _ σ4 (by rw [if_neg q3]) c1 (y_fr_t f3 c2) (v_micro ok V1 hb)
    · have hex : q_ex r = [] := List.eq_nil_of_length_eq_zero q2
      rw [hex] at hp
      exact hp σ H
  · rw [if_pos q] at hp
    exact hp σ H
theorem t_tk145 {v2 : Int32} {l : List (Int32 × Int32)} (hl : l.length < 12) : ∀ (f i : Nat) (σ : dx_V), f + i = l.length → σ 0 27 = nI l.length → (∀ j v, l[j]? = some v → j < i → σ 20 j = v.1 ∧ σ 21 j = v.2) → (∀ j v, l[j]? = some v → i ≤ j → σ 20 (j + 1) = v.1 ∧ σ 21 (j + 1) = v.2) → (∀ σ' : dx_V, x_sent l (σ' 0 27) (σ' 20) (σ' 21) → y_fr [20, 21] [27] σ σ' → g_MM_tick_33 E (d + 1) po v2 σ') → g_MM_tick_145 E (d + 1) po v2 (nI i) σ := by
  intro f
  induction f with
  | zero =>
    intro i σ hi hc h1 h2 hp
    refine r_MM_tick_145 ?_
    rw [hc]
    simp only [i_le, i_n (show l.length ≤ 100000 by omega), i_n (show i ≤ 100000 by omega)]
    refine ⟨fun _ => hp σ ⟨hc, fun j v hv => h1 j v hv ?_⟩ y_fr_rf, fun q => absurd (by omega) q⟩
    have := (List.getElem?_eq_some_iff.mp hv).1
    omega
  | succ f ih =>
    intro i σ hi hc h1 h2 hp
    refine r_MM_tick_145 ?_
    rw [hc, i_inc i, i_cl (n := i) (by omega), i_cl (n := i + 1) (by omega)]
    simp only [i_le, i_n (show l.length ≤ 100000 by omega), i_n (show i ≤ 100000 by omega)]
    have in1 : vp_in (nI i) 12 := i_in (by omega) (by omega)
    have in2 : vp_in (nI (i + 1)) 12 := i_in (by omega) (by omega)
    refine ⟨fun q => absurd q (by omega), fun _ => ⟨in2, in1, in2, in1, ?_⟩⟩
    refine ih (i + 1) _ (by omega) hc (fun j v hv hj => ?_) (fun j v hv hj => ?_) (fun σ' z1 z2 => hp σ' z1 (y_fr_t (y_fr_a (y_fr_a y_fr_rf (by decide) (by decide)) (by decide) (by decide)) z2))
    · by_cases e : j = i
      · subst e
        have := h2 j v hv (Nat.le_refl _)
        rw [dx_us, dx_un (by decide), dx_us]
        exact this
      · have := h1 j v hv (by omega)
        exact ⟨by rw [dx_un (by decide), dx_uk e]; exact this.1, by rw [dx_uk e, dx_un (by decide)]; exact this.2⟩
    · have := h2 j v hv (by omega)
      exact ⟨by rw [dx_un (by decide), dx_uk (by omega)]; exact this.1, by rw [dx_uk (by omega), dx_un (by decide)]; exact this.2⟩
theorem t_tk42 {l : List (Int32 × Int32)} {σ : dx_V} (S : x_sent l (σ 0 27) (σ 20) (σ 21)) (hl : l.length ≤ 12) : ∀ (f i : Nat) (b : Option Nat), f + i = l.length → (∀ j, b = some j → j < l.length) → (q_be l (σ 0 30) f i b = none → g_MM_tick_103 E (d + 1) po (-1) 0 σ) → (∀ p, q_be l (σ 0 30) f i b = some p → g_MM_tick_103 E (d + 1) po (nI p) 1 σ) → g_MM_tick_42 E (d + 1) po (q_oi b) (nI i) σ := by
  intro f
  induction f with
  | zero =>
    intro i b hi hb hp hp2
    refine r_MM_tick_42 ?_
    rw [S.1, i_le, i_n (show l.length ≤ 100000 by omega), i_n (show i ≤ 100000 by omega), q_oi_lt (fun j hj => by have := hb j hj; omega)]
    refine ⟨fun _ => ⟨fun q => ?_, fun q => ?_⟩, fun q => absurd (by omega) q⟩
    · subst q; exact hp rfl
    · cases b with
      | none => exact absurd rfl q
      | some p => exact hp2 p rfl
  | succ f ih =>
    intro i b hi hb hp hp2
    have hin : vp_in (nI i) 12 := i_in (by omega) (by omega)
    have e1 := (x_sent_at S (show i < l.length by omega)).2
    unfold q_be at hp hp2
    refine r_MM_tick_42 ?_
    rw [S.1, i_cl (n := i) (by omega), e1, i_inc i]
    rw [i_le (x := nI l.length), i_n (show l.length ≤ 100000 by omega), i_n (show i ≤ 100000 by omega)]
    refine ⟨fun q => absurd q (by omega), fun _ => ⟨hin, fun q => ?_, fun q => ?_⟩⟩
    · rw [q_if_f (fun z => by have := z.1; rw [i_le] at this; rw [i_lt] at q; omega)] at hp hp2
      exact ih (i + 1) b (by omega) hb hp hp2
    · have hle : (l.getD i (0, 0)).2 ≤ σ 0 30 := by rw [i_lt] at q; rw [i_le]; omega
      rw [q_oi_lt (fun j hj => by have := hb j hj; omega)]
      refine ⟨fun q2 => ?_, fun q2 => ?_⟩
      · subst q2
        rw [q_if_t ⟨hle, fun j hj => by cases hj⟩] at hp hp2
        exact ih (i + 1) (some i) (by omega) (fun j hj => by cases hj; omega) hp hp2
      · cases b with
        | none => exact absurd rfl q2
        | some j =>
          have hj := hb j rfl
          have e2 := (x_sent_at S hj).2
          show vp_in (nI i) 12 ∧ (vp_in (nI j) 12 ∧ ((σ 21 (nI j).toNatClampNeg ≤ (l.getD i (0, 0)).2 → _) ∧ (¬ σ 21 (nI j).toNatClampNeg ≤ (l.getD i (0, 0)).2 → _)))
          rw [i_cl (n := j) (by omega), e2]
          refine ⟨hin, i_in (by omega) (by omega), fun q3 => ?_, fun q3 => ?_⟩
          · rw [q_if_f (fun z => by have := z.2 j rfl; rw [i_lt] at this; rw [i_le] at q3; omega)] at hp hp2
            exact ih (i + 1) (some j) (by omega) hb hp hp2
          · rw [q_if_t ⟨hle, fun j' hj' => by cases hj'; rw [i_le] at q3; rw [i_lt]; omega⟩] at hp hp2
            exact ih (i + 1) (some i) (by omega) (fun j hj => by cases hj; omega) hp hp2
theorem t_tk33 : ∀ (f : Nat) (r : q_R) (σ : dx_V), (q_se r).length = f → y_run r σ → q_rok c r → (∀ σ' : dx_V, y_run (q_tk f r) σ' → y_fr y_W y_S σ σ' → po (some (q_ck (q_tk f r))) σ') → g_MM_tick_33 E (d + 1) po 1 σ := by
  intro f
  induction f with
  | zero =>
    intro r σ hf X K hp
    have S := X.2.2.2.2.2.2.2.2.2.2
    have hn : q_be (q_se r) (σ 0 30) (q_se r).length 0 none = none := by rw [hf]; rfl
    refine r_MM_tick_33 ⟨fun z => absurd z (by decide), fun _ => t_tk42 S (by omega) (q_se r).length 0 none (by omega) (fun j h => by cases h) (fun _ => r_MM_tick_103 ⟨fun _ => r_MM_tick_128 ⟨fun _ => r_MM_tick_33 ⟨fun _ => ?_, fun z => absurd rfl z⟩, fun z => absurd rfl z⟩, fun z => absurd rfl z⟩) (fun p h => by rw [hn] at h; cases h)⟩
    have := hp σ X y_fr_rf
    rw [X.1]
    exact this
  | succ f ih =>
    intro r σ hf X K hp
    have h12 := K.2.2.2.2.1
    have S := X.2.2.2.2.2.2.2.2.2.2
    unfold q_tk at hp
    have eb : q_be (q_se r) (σ 0 30) (q_se r).length 0 none = q_best (q_se r) (q_ck r) := by rw [X.1]; rfl
    refine r_MM_tick_33 ⟨fun z => absurd z (by decide), fun _ => t_tk42 S (by omega) (q_se r).length 0 none (by omega) (fun j h => by cases h) (fun hb => ?_) (fun p hb => ?_)⟩
    · rw [eb] at hb
      rw [hb] at hp
      refine r_MM_tick_103 ⟨fun _ => r_MM_tick_128 ⟨fun _ => r_MM_tick_33 ⟨fun _ => ?_, fun z => absurd rfl z⟩, fun z => absurd rfl z⟩, fun z => absurd rfl z⟩
      have := hp σ X y_fr_rf
      rw [X.1]
      exact this
    · rw [eb] at hb
      rw [hb] at hp
      simp only at hp
      have hpl := q_best_lt hb
      have hlen : ((q_se r).eraseIdx p).length = f := by rw [List.length_eraseIdx, if_pos hpl]; omega
      refine r_MM_tick_103 ⟨fun z => absurd z (by decide), fun _ => ⟨i_in (by omega) (by omega), ?_⟩⟩
      rw [i_cl (n := p) (by omega), (x_sent_at S hpl).1]
      refine dx_ciR (fun v σ1 => ((q_ex r).length = 16 ∧ v = 0 ∧ σ1 = σ) ∨ ((q_ex r).length < 16 ∧ v = 1 ∧ y_run (q_sEx r (q_ex r ++ [((q_se r).getD p (0, 0)).1])) σ1 ∧ y_fr [19] [25] σ σ1)) (fun po hpo => t_queue X K (fun q => hpo 0 σ (Or.inl ⟨q, rfl, rfl⟩)) (fun q σ' q1 q2 => hpo 1 σ' (Or.inr ⟨q, rfl, q1, q2⟩))) ?_
      rintro v σ1 (⟨q1, rfl, rfl⟩ | ⟨q1, rfl, q2, q3⟩)
      · rw [if_pos q1] at hp
        refine ⟨fun z => absurd rfl z, fun _ => r_MM_tick_128 ⟨fun _ => r_MM_tick_33 ⟨fun _ => ?_, fun z => absurd rfl z⟩, fun z => absurd rfl z⟩⟩
        have := hp _ (y_run_out X rfl (by decide)) (y_fr_s y_fr_rf (by decide))
        rw [dx_uk (by decide), X.1]
        exact this
      · rw [if_neg (by omega)] at hp
        have S1 : x_sent (q_se r) (σ1 0 27) (σ1 20) (σ1 21) := q2.2.2.2.2.2.2.2.2.2.2
        refine ⟨fun _ => r_MM_tick_128 ⟨fun z => absurd z (by decide), fun _ => ?_⟩, fun z => absurd z (by decide)⟩
        rw [S1.1, hf, nI_pred]
        refine t_tk145 (l := (q_se r).eraseIdx p) (by omega) (f - p) p _ (by omega) (by rw [dx_us, hlen]) (fun j v hv hj => ?_) (fun j v hv hj => ?_) (fun σ2 z1 z2 => ?_)
        · rw [dx_un (by decide), dx_un (by decide)]
          rw [List.getElem?_eraseIdx_of_lt hj] at hv
          exact S1.2 j v hv
        · rw [dx_un (by decide), dx_un (by decide)]
          rw [List.getElem?_eraseIdx_of_ge hj] at hv
          exact S1.2 (j + 1) v hv
        · have f2 : y_fr [20, 21] [27] σ1 σ2 := y_fr_t (y_fr_s y_fr_rf (by decide)) z2
          have x2 := y_run_se q2 f2 z1
          have ff : y_fr y_W y_S σ σ2 := y_fr_t (y_fr_w q3 (by decide) (by decide)) (y_fr_w f2 (by decide) (by decide))
          have K2 : q_rok c (q_sSe (q_sEx r (q_ex r ++ [((q_se r).getD p (0, 0)).1])) ((q_se r).eraseIdx p)) := by
            refine ⟨K.1, K.2.1, ?_, K.2.2.2.1, ?_, K.2.2.2.2.2⟩
            · show (q_ex r ++ [_]).length ≤ 16
              rw [List.length_append, List.length_singleton]; omega
            · show ((q_se r).eraseIdx p).length ≤ 12
              omega
          exact ih (q_sSe (q_sEx r (q_ex r ++ [((q_se r).getD p (0, 0)).1])) ((q_se r).eraseIdx p)) σ2 hlen x2 K2 (fun σ' w1 w2 => hp σ' w1 (y_fr_t ff w2))
theorem t_tick {n : Int32} (H : mm c r σ) (hp : ∀ σ', mm (cl_tick c r n).2.1 (cl_tick c r n).2.2 σ' → po (some (cl_tick c r n).1) σ') : m_MM_tick E (d + 1) n σ po := by
  unfold cl_tick at hp
  refine r_MM_tick ?_
  rw [mm_1 H]
  simp only [i_lt, i_le, i_1, i_50]
  refine ⟨fun q => ?_, fun q => ⟨fun q2 => ?_, fun q2 => ⟨fun q3 => ?_, fun q3 => ?_⟩⟩⟩
  · rw [q_if_f (fun z => q z.1)] at hp; exact hp σ H
  · rw [q_if_f (fun z => by omega)] at hp; exact hp σ H
  · rw [q_if_t ⟨q, by omega, q3⟩] at hp
    obtain ⟨V, xr⟩ := H.2.2.2.2.2.2 (by omega)
    rw [xr.1]
    exact t_tk33 (c := c) _ (q_sCk r (q_ck r + n)) _ rfl (y_run_ck xr) V.1 (fun σ' z1 z2 => hp σ' (mm_run H (y_zw (y_fr_t (y_fr_s y_fr_rf (by decide)) z2)) z1 (v_tick V)))
  · rw [q_if_f (fun z => q3 z.2.2)] at hp; exact hp σ H
end MCN
