/-! The clock. -/
noncomputable def q_be (l : List (Int32 × Int32)) (ck : Int32) : Nat → Nat → Option Nat → Option Nat
  | 0, _, b => b
  | f + 1, i, b => q_be l ck f (i + 1) (q_if ((l.getD i (0, 0)).2 ≤ ck ∧ ∀ j, b = some j → (l.getD i (0, 0)).2 < (l.getD j (0, 0)).2) (some i) b)
noncomputable def q_best (l : List (Int32 × Int32)) (ck : Int32) : Option Nat := q_be l ck l.length 0 none
noncomputable def q_tk : Nat → q_R → q_R
  | 0, r => r
  | f + 1, r => match q_best (q_se r) (q_ck r) with
    | none => r
    | some p => if (q_ex r).length = 16 then q_fail r else q_tk f (q_sSe (q_sEx r (q_ex r ++ [((q_se r).getD p (0, 0)).1])) ((q_se r).eraseIdx p))
noncomputable def q_tick (n : Int32) (r : q_R) : q_R := q_tk (q_se r).length (q_sCk r (q_ck r + n))
theorem q_be_lt {l : List (Int32 × Int32)} {ck : Int32} : ∀ (f i : Nat) (b : Option Nat) (p : Nat), f + i = l.length → (∀ j, b = some j → j < l.length) → q_be l ck f i b = some p → p < l.length := by
  intro f
  induction f with
  | zero => intro i b p _ hb h; exact hb p h
  | succ f ih =>
    intro i b p hi hb h
    unfold q_be at h
    refine ih (i + 1) _ p (by omega) (fun j hj => ?_) h
    by_cases hc : (l.getD i (0, 0)).2 ≤ ck ∧ ∀ j, b = some j → (l.getD i (0, 0)).2 < (l.getD j (0, 0)).2
    · rw [q_if_t hc] at hj; cases hj; omega
    · rw [q_if_f hc] at hj; exact hb j hj
theorem q_best_lt {l : List (Int32 × Int32)} {ck : Int32} {p : Nat} (h : q_best l ck = some p) : p < l.length := q_be_lt _ _ _ _ (by omega) (fun j h => by cases h) h
theorem x_sent_at {l : List (Int32 × Int32)} {n : Int32} {f g : Nat → Int32} (h : x_sent l n f g) {i : Nat} (hi : i < l.length) : f i = (l.getD i (0, 0)).1 ∧ g i = (l.getD i (0, 0)).2 := by
  have := h.2 i l[i] (List.getElem?_eq_getElem hi)
  rw [List.getD_eq_getElem?_getD, List.getElem?_eq_getElem hi]
  exact this
section XK
variable {E : dx_E} {d : Nat} {po : dx_P} {c : q_C}
theorem s_SV_place {l : List (Int32 × Int32)} {ck : Int32} {σ : dx_V} (S : x_sent l (σ 10 2) (σ 35) (σ 36)) (hl : l.length ≤ 12) : ∀ (f i : Nat) (b : Option Nat), f + i = l.length → (∀ j, b = some j → j < l.length) → po (some (q_oi (q_be l ck f i b))) σ → g_SV_placeOfEarliest_4 E d po ck (q_oi b) (nI i) σ := by
  intro f
  induction f with
  | zero =>
    intro i b hi hb hp
    refine r_SV_placeOfEarliest_4 ?_
    rw [S.1]
    simp only [i_le, i_n (show l.length ≤ 100000 by omega), i_n (show i ≤ 100000 by omega)]
    exact ⟨fun _ => hp, fun q => absurd (by omega) q⟩
  | succ f ih =>
    intro i b hi hb hp
    have hin : vp_in (nI i) 12 := i_in (by omega) (by omega)
    have e1 := (x_sent_at S (show i < l.length by omega)).2
    unfold q_be at hp
    refine r_SV_placeOfEarliest_4 ?_
    rw [S.1, i_cl (n := i) (by omega), e1, i_inc i]
    rw [i_le (x := nI l.length), i_n (show l.length ≤ 100000 by omega), i_n (show i ≤ 100000 by omega)]
    refine ⟨fun q => absurd q (by omega), fun _ => ⟨hin, fun q => ?_, fun q => ?_⟩⟩
    · rw [q_if_f (fun z => by have := z.1; rw [i_le] at this; rw [i_lt] at q; omega)] at hp
      exact ih (i + 1) b (by omega) hb hp
    · have hle : (l.getD i (0, 0)).2 ≤ ck := by rw [i_lt] at q; rw [i_le]; omega
      rw [q_oi_no (fun j hj => by have := hb j hj; omega)]
      refine ⟨fun q2 => ?_, fun q2 => ?_⟩
      · subst q2
        rw [q_if_t ⟨hle, fun j hj => by cases hj⟩] at hp
        exact ih (i + 1) (some i) (by omega) (fun j hj => by cases hj; omega) hp
      · cases b with
        | none => exact absurd rfl q2
        | some j =>
          have hj := hb j rfl
          have e2 := (x_sent_at S hj).2
          show vp_in (nI i) 12 ∧ (vp_in (nI j) 12 ∧ ((σ 36 (nI j).toNatClampNeg ≤ (l.getD i (0, 0)).2 → _) ∧ (¬ σ 36 (nI j).toNatClampNeg ≤ (l.getD i (0, 0)).2 → _)))
          rw [i_cl (n := j) (by omega), e2]
          refine ⟨hin, i_in (by omega) (by omega), fun q3 => ?_, fun q3 => ?_⟩
          · rw [q_if_f (fun z => by have := z.2 j rfl; rw [i_lt] at this; rw [i_le] at q3; omega)] at hp
            exact ih (i + 1) (some j) (by omega) hb hp
          · rw [q_if_t ⟨hle, fun j' hj' => by cases hj'; rw [i_le] at q3; rw [i_lt]; omega⟩] at hp
            exact ih (i + 1) (some i) (by omega) (fun j hj => by cases hj; omega) hp
theorem s_SV_placeOfEarliest {l : List (Int32 × Int32)} {ck : Int32} {σ : dx_V} (S : x_sent l (σ 10 2) (σ 35) (σ 36)) (hl : l.length ≤ 12) (hp : po (some (q_oi (q_best l ck))) σ) : m_SV_placeOfEarliest E d ck σ po :=
  r_SV_placeOfEarliest (s_SV_place S hl l.length 0 none (by omega) (fun j h => by cases h) hp)
theorem s_SV_drops {l : List (Int32 × Int32)} (hl : l.length < 12) : ∀ (f i : Nat) (σ : dx_V), f + i = l.length → σ 10 2 = nI l.length → (∀ j v, l[j]? = some v → j < i → σ 35 j = v.1 ∧ σ 36 j = v.2) → (∀ j v, l[j]? = some v → i ≤ j → σ 35 (j + 1) = v.1 ∧ σ 36 (j + 1) = v.2) → (∀ σ' : dx_V, x_sent l (σ' 10 2) (σ' 35) (σ' 36) → x_fr [10, 35, 36] σ σ' → po none σ') → g_SV_drop_25 E d po (nI i) σ := by
  intro f
  induction f with
  | zero =>
    intro i σ hi hc h1 h2 hp
    refine r_SV_drop_25 ?_
    rw [hc]
    simp only [i_le, i_n (show l.length ≤ 100000 by omega), i_n (show i ≤ 100000 by omega)]
    refine ⟨fun _ => hp σ ⟨hc, fun j v hv => h1 j v hv ?_⟩ x_fr_rf, fun q => absurd (by omega) q⟩
    have := (List.getElem?_eq_some_iff.mp hv).1
    omega
  | succ f ih =>
    intro i σ hi hc h1 h2 hp
    refine r_SV_drop_25 ?_
    rw [hc, i_inc i, i_cl (n := i) (by omega), i_cl (n := i + 1) (by omega)]
    simp only [i_le, i_n (show l.length ≤ 100000 by omega), i_n (show i ≤ 100000 by omega)]
    have in1 : vp_in (nI i) 12 := i_in (by omega) (by omega)
    have in2 : vp_in (nI (i + 1)) 12 := i_in (by omega) (by omega)
    refine ⟨fun q => absurd q (by omega), fun _ => ⟨in2, in1, in2, in1, ?_⟩⟩
    refine ih (i + 1) _ (by omega) hc (fun j v hv hj => ?_) (fun j v hv hj => ?_) (fun σ' z1 z2 => hp σ' z1 (x_fr_tr (x_fr_u (x_fr_u x_fr_rf (by decide)) (by decide)) z2 (fun _ z => z)))
    · by_cases e : j = i
      · subst e
        have := h2 j v hv (Nat.le_refl _)
        rw [dx_us, dx_un (by decide), dx_us]
        exact this
      · have := h1 j v hv (by omega)
        exact ⟨by rw [dx_un (by decide), dx_uk e]; exact this.1, by rw [dx_uk e, dx_un (by decide)]; exact this.2⟩
    · have := h2 j v hv (by omega)
      exact ⟨by rw [dx_un (by decide), dx_uk (by omega)]; exact this.1, by rw [dx_uk (by omega), dx_un (by decide)]; exact this.2⟩
theorem s_SV_drop {l : List (Int32 × Int32)} {p : Nat} {σ : dx_V} (S : x_sent l (σ 10 2) (σ 35) (σ 36)) (hl : l.length ≤ 12) (hpl : p < l.length) (hp : ∀ σ' : dx_V, x_sent (l.eraseIdx p) (σ' 10 2) (σ' 35) (σ' 36) → x_fr [10, 35, 36] σ σ' → po none σ') : m_SV_drop E d (nI p) σ po := by
  have hlen : (l.eraseIdx p).length = l.length - 1 := by rw [List.length_eraseIdx, if_pos hpl]
  have hdec : nI l.length - 1 = nI (l.length - 1) := by
    have := nI_pred (l.length - 1)
    rw [show l.length - 1 + 1 = l.length by omega] at this
    exact this
  refine r_SV_drop ?_
  rw [S.1, hdec]
  simp only [i_lt, i_n (show l.length ≤ 100000 by omega), i_n (show p ≤ 100000 by omega), i_0]
  refine ⟨fun q => absurd q (by omega), fun _ => ⟨fun _ => ?_, fun q => absurd (by omega) q⟩⟩
  refine s_SV_drops (l := l.eraseIdx p) (by omega) (l.length - 1 - p) p _ (by omega) (by rw [dx_us, hlen]) (fun j v hv hj => ?_) (fun j v hv hj => ?_) (fun σ' z1 z2 => hp σ' z1 (x_fr_tr (x_fr_u x_fr_rf (by decide)) z2 (fun _ z => z)))
  · rw [dx_un (by decide), dx_un (by decide)]
    rw [List.getElem?_eraseIdx_of_lt hj] at hv
    exact S.2 j v hv
  · rw [dx_un (by decide), dx_un (by decide)]
    rw [List.getElem?_eraseIdx_of_ge hj] at hv
    exact S.2 (j + 1) v hv
theorem s_RU_clock : ∀ (f : Nat) (r : q_R) (σ : dx_V), (q_se r).length = f → x_run r σ → q_rok c r → (∀ σ' : dx_V, x_run (q_tk f r) σ' → x_fr x_W σ σ' → po none σ') → g_RU_advanceClock_18 E (d + 1) po (nI f) σ := by
  intro f
  induction f with
  | zero =>
    intro r σ hf X K hp
    refine r_RU_advanceClock_18 ?_
    simp only [i_le, i_n (show 0 ≤ 100000 by omega), i_0]
    exact ⟨fun _ => hp σ X x_fr_rf, fun q => absurd (by omega) q⟩
  | succ f ih =>
    intro r σ hf X K hp
    have h12 := K.2.2.2.2.1
    refine r_RU_advanceClock_18 ?_
    rw [X.1]
    simp only [i_le, i_n (show f + 1 ≤ 100000 by omega), i_0, i_dec]
    unfold q_tk at hp
    refine ⟨fun q => absurd q (by omega), fun _ => dx_ci1 _ _ (fun po hp => s_SV_placeOfEarliest X.2.2.2.2.2.2.2.2.2.2 h12 hp) ?_⟩
    rw [q_oi_no (fun j hj => by have := q_best_lt hj; omega)]
    cases hb : q_best (q_se r) (q_ck r) with
    | none =>
      rw [hb] at hp
      exact ⟨fun q => absurd rfl q, fun _ => hp σ X x_fr_rf⟩
    | some p =>
      rw [hb] at hp
      simp only at hp
      have hpl := q_best_lt hb
      refine ⟨fun _ => ?_, fun q => by cases q⟩
      show vp_in (nI p) 12 ∧ (dx_ci (m_LN_put_8 E d (σ 35 (nI p).toNatClampNeg) σ) _)
      rw [i_cl (n := p) (by omega), (x_sent_at X.2.2.2.2.2.2.2.2.2.2 hpl).1]
      refine ⟨i_in (by omega) (by omega), dx_ciR (fun v σ1 => ((q_ex r).length = 16 ∧ v = 0 ∧ σ1 = σ) ∨ ((q_ex r).length < 16 ∧ v = 1 ∧ x_line (q_ex r ++ [((q_se r).getD p (0, 0)).1]) (σ1 8 1) (σ1 33) ∧ x_fr [8, 33] σ σ1)) (fun po hpo => s_LN_put_8 X.2.2.2.2.2.2.2.2.1 K.2.2.1 (fun q => hpo 0 σ (Or.inl ⟨q, rfl, rfl⟩)) (fun q σ' q1 q2 => hpo 1 σ' (Or.inr ⟨q, rfl, q1, q2⟩))) ?_⟩
      rintro v σ1 (⟨q1, rfl, rfl⟩ | ⟨q1, rfl, q2, q3⟩)
      · rw [if_pos q1] at hp
        exact ⟨fun z => absurd rfl z, fun _ => hp _ (x_run_out X rfl (by decide)) (x_fr_u x_fr_rf (by decide))⟩
      · rw [if_neg (by omega)] at hp
        have x1 := x_run_l8 X q3 q2
        refine ⟨fun _ => dx_cuR (fun σ2 => x_sent ((q_se r).eraseIdx p) (σ2 10 2) (σ2 35) (σ2 36) ∧ x_fr [10, 35, 36] σ1 σ2) (fun po hpo => s_SV_drop x1.2.2.2.2.2.2.2.2.2.2 h12 hpl (fun σ' z1 z2 => hpo σ' ⟨z1, z2⟩)) ?_, fun z => absurd z (by decide)⟩
        rintro σ2 ⟨b1, b2⟩
        have x2 := x_run_l10 x1 b2 b1
        have f2 : x_fr x_W σ σ2 := x_fr_tr (x_fr_w q3 x_W8) (x_fr_w b2 x_W10) (fun _ z => z)
        have K2 : q_rok c (q_sSe (q_sEx r (q_ex r ++ [((q_se r).getD p (0, 0)).1])) ((q_se r).eraseIdx p)) := by
          refine ⟨K.1, K.2.1, ?_, K.2.2.2.1, ?_, K.2.2.2.2.2⟩
          · show (q_ex r ++ [_]).length ≤ 16
            rw [List.length_append, List.length_singleton]; omega
          · show ((q_se r).eraseIdx p).length ≤ 12
            rw [List.length_eraseIdx, if_pos hpl]; omega
        refine ih _ σ2 ?_ x2 K2 (fun σ' z1 z2 => hp σ' z1 (x_fr_tr f2 z2 (fun _ z => z)))
        show ((q_se r).eraseIdx p).length = f
        rw [List.length_eraseIdx, if_pos hpl]
        omega
theorem s_RU_advanceClock {n : Int32} {r : q_R} {σ : dx_V} (X : x_run r σ) (K : q_rok c r) (hp : ∀ σ' : dx_V, x_run (q_tick n r) σ' → x_fr x_W σ σ' → po none σ') : m_RU_advanceClock E (d + 1) n σ po := by
  refine r_RU_advanceClock ?_
  rw [X.1, X.2.2.2.2.2.2.2.2.2.2.1]
  exact s_RU_clock (c := c) _ (q_sCk r (q_ck r + n)) _ rfl (x_run_ck X) K (fun σ' z1 z2 => hp σ' z1 (x_fr_tr (x_fr_u x_fr_rf (by decide)) z2 (fun _ z => z)))
theorem k_tk : ∀ (f : Nat) (r : q_R), q_inv c r → q_inv c (q_tk f r) := by
  intro f
  induction f with
  | zero => intro r V; exact V
  | succ f ih =>
    intro r V
    unfold q_tk
    split
    · exact V
    · next p hb =>
      have hpl := q_best_lt hb
      split
      · exact ⟨k_fail V.1, V.2⟩
      · next h16 =>
        refine ih _ ⟨⟨V.1.1, V.1.2.1, ?_, V.1.2.2.2.1, ?_, V.1.2.2.2.2.2⟩, V.2⟩
        · show (q_ex r ++ [_]).length ≤ 16
          have := V.1.2.2.1
          rw [List.length_append, List.length_singleton]; omega
        · show ((q_se r).eraseIdx p).length ≤ 12
          have := V.1.2.2.2.2.1
          rw [List.length_eraseIdx, if_pos hpl]; omega
theorem v_tick {n : Int32} {r : q_R} (V : q_inv c r) : q_inv c (q_tick n r) := k_tk _ _ V
end XK
