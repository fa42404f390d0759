/-! Macrosteps, begin, the clock of the class. -/
def x_Z : List Nat := [4, 5, 6, 7, 8, 9, 10, 28, 29, 30, 31, 32, 33, 34, 35, 36]
theorem x_ZW : ∀ k, k ∈ x_W → k ∈ x_Z := by decide
theorem x_ZV : ∀ k, k ∈ x_V → k ∈ x_Z := by decide
theorem x_all_z {c : q_C} {r r' : q_R} {σ σ' : dx_V} (X : x_all c r σ) (f : x_fr x_Z σ σ') (h : x_run r' σ') : x_all c r' σ' :=
  ⟨x_tree_fr X.1 f (by decide), x_tr_fr X.2.1 f (by decide), x_ac_fr X.2.2.1 f (by decide), h⟩
theorem q_pick_ok {c : q_C} : ∀ (f : Nat) (r : q_R), q_inv c r → q_inv c (q_pick c f r).2 ∧ q_out (q_pick c f r).2 = q_out r ∧ ((q_pick c f r).1 = [] ∨ ∃ e, (q_pick c f r).1 = q_select c (q_pick c f r).2 e) := by
  intro f
  induction f with
  | zero => intro r V; exact ⟨V, rfl, Or.inl rfl⟩
  | succ f ih =>
    intro r V
    unfold q_pick
    split
    · exact ⟨V, rfl, Or.inl rfl⟩
    · next e l h =>
      have V1 : q_inv c (q_sIn r l) := ⟨⟨V.1.1, (by have := V.1.2.1; rw [h] at this; show l.length ≤ 16; simp only [List.length_cons] at this; omega), V.1.2.2⟩, V.2⟩
      by_cases hs : q_select c (q_sIn r l) e = []
      · rw [q_if_t hs]; exact ih _ V1
      · rw [q_if_f hs]; exact ⟨V1, rfl, Or.inr ⟨e, rfl⟩⟩
theorem q_next_ok {c : q_C} {r : q_R} (V : q_inv c r) : q_inv c (q_next c r).2 ∧ q_out (q_next c r).2 = q_out r ∧ ((q_next c r).1 = [] ∨ ∃ e, (q_next c r).1 = q_select c (q_next c r).2 e) := by
  unfold q_next
  by_cases hs : q_select c r 0 = []
  · rw [q_if_t hs]; exact q_pick_ok _ _ V
  · rw [q_if_f hs]; exact ⟨V, rfl, Or.inr ⟨0, rfl⟩⟩
theorem q_set_ok {c : q_C} {r r' : q_R} {l : List Nat} (ok : q_ok c) (h : l = [] ∨ ∃ e, l = q_select c r e) : (∀ u ∈ q_settle c r' l, u < q_nt c) ∧ (q_settle c r' l).length ≤ 20 := by
  have h20 := ok.2.1
  rcases h with rfl | ⟨e, rfl⟩
  · exact ⟨fun u h => (List.not_mem_nil h).elim, Nat.zero_le _⟩
  · refine ⟨q_settle_lt, ?_⟩
    have h1 := q_settle_len (c := c) (r := r') (q_select c r e) []
    have h2 := q_nd _ _ (q_select_ok (c := c) (r := r) (e := e)).1 (q_select_ok (c := c) (r := r) (e := e)).2
    simp only [List.length_nil] at h1
    unfold q_settle
    omega
theorem x_run_ck {r : q_R} {σ : dx_V} {v : Int32} (h : x_run r σ) : x_run (q_sCk r v) (dx_u σ 4 10 v) := by
  obtain ⟨h1, h2, h3, h4, h5, h6, h7, h8, h9, h10, h11⟩ := h
  exact ⟨by rw [dx_us]; rfl, by rw [dx_uk (by decide)]; exact h2, by rw [dx_uk (by decide)]; exact h3, fun q => by rw [dx_uk (by decide)]; exact h4 q, h5, h6, h7, h8, h9, h10, h11⟩
section XO
variable {E : dx_E} {d : Nat} {po : dx_P} {c : q_C}
theorem s_RU_choose21 (ok : q_ok c) : ∀ (f : Nat) (r : q_R) (σ : dx_V), (q_in r).length = f → x_all c r σ → q_inv c r → (∀ σ' : dx_V, x_run (q_pick c f r).2 σ' → ((q_pick c f r).1 ≠ [] → x_num (q_settle c (q_pick c f r).2 (q_pick c f r).1) (σ' 6 6) (σ' 31)) → x_fr x_Z σ σ' → po (some (q_z ((q_pick c f r).1 ≠ []))) σ') → g_RU_chooseNext_21 E (d + 5) po (nI f) σ := by
  intro f
  induction f with
  | zero =>
    intro r σ hf X V hp
    refine r_RU_chooseNext_21 ?_
    simp only [i_le, i_n (show 0 ≤ 100000 by omega), i_0]
    exact ⟨fun _ => q_p0 (hp σ X.2.2.2 (fun h => absurd rfl h) x_fr_rf) (fun h => h rfl), fun q => absurd (by omega) q⟩
  | succ f ih =>
    intro r σ hf X V hp
    have h16 := V.1.2.1
    obtain ⟨e, l, hin⟩ : ∃ e l, q_in r = e :: l := by
      cases h : q_in r with
      | nil => rw [h] at hf; cases hf
      | cons e l => exact ⟨e, l, rfl⟩
    have hl : l.length = f := by rw [hin, List.length_cons] at hf; omega
    refine r_RU_chooseNext_21 ?_
    simp only [i_le, i_n (show f + 1 ≤ 100000 by omega), i_0, i_dec]
    unfold q_pick at hp
    rw [hin] at hp
    simp only at hp
    have V1 : q_inv c (q_sIn r l) := ⟨⟨V.1.1, (by show l.length ≤ 16; omega), V.1.2.2⟩, V.2⟩
    refine ⟨fun q => absurd q (by omega), fun _ => dx_ciR (fun x σ1 => x = e ∧ x_line l (σ1 7 1) (σ1 32) ∧ x_fr [7, 32] σ σ1) (fun po hpo => s_LN_takeFirst_7 (l := l) (v := e) (by have := X.2.2.2.2.2.2.2.2.2.2.1; rw [hin] at this; exact this) (by omega) (fun σ' z1 z2 => hpo e σ' ⟨rfl, z1, z2⟩)) ?_⟩
    rintro x σ1 ⟨rfl, a1, a2⟩
    have x1 := x_run_l7 X.2.2.2 a2 a1
    have f1 : x_fr x_Z σ σ1 := x_fr_w a2 (by decide)
    have X1 := x_all_z X f1 x1
    refine dx_ciR (fun v σ2 => v = q_z (q_select c (q_sIn r l) x ≠ []) ∧ x_num (q_settle c (q_sIn r l) (q_select c (q_sIn r l) x)) (σ2 6 6) (σ2 31) ∧ x_fr x_V σ1 σ2) (fun po hpo => s_SE_chooseFor ok X1 V1.1 (fun σ' z1 z2 => hpo _ σ' ⟨rfl, z1, z2⟩)) ?_
    rintro v σ2 ⟨rfl, b1, b2⟩
    have X2 := x_all_v X1 b2
    have f2 : x_fr x_Z σ σ2 := x_fr_tr f1 (x_fr_w b2 x_ZV) (fun _ z => z)
    refine q_zb (fun q => ?_) (fun q => ?_)
    · have hs : q_select c (q_sIn r l) x = [] := Classical.byContradiction q
      rw [q_if_t hs] at hp
      exact ih (q_sIn r l) σ2 hl X2 V1 (fun σ' z1 z2 z3 => hp σ' z1 z2 (x_fr_tr f2 z3 (fun _ z => z)))
    · rw [q_if_f q] at hp
      exact q_p1 (hp σ2 X2.2.2.2 (fun _ => b1) f2) q
theorem s_RU_chooseNext {r : q_R} {σ : dx_V} (ok : q_ok c) (X : x_all c r σ) (V : q_inv c r) (hp : ∀ σ' : dx_V, x_run (q_next c r).2 σ' → ((q_next c r).1 ≠ [] → x_num (q_settle c (q_next c r).2 (q_next c r).1) (σ' 6 6) (σ' 31)) → x_fr x_Z σ σ' → po (some (q_z ((q_next c r).1 ≠ []))) σ') : m_RU_chooseNext E (d + 5) σ po := by
  refine r_RU_chooseNext (dx_ciR (fun v σ2 => v = q_z (q_select c r 0 ≠ []) ∧ x_num (q_settle c r (q_select c r 0)) (σ2 6 6) (σ2 31) ∧ x_fr x_V σ σ2) (fun po hpo => s_SE_chooseFor ok X V.1 (fun σ' z1 z2 => hpo _ σ' ⟨rfl, z1, z2⟩)) ?_)
  rintro v σ2 ⟨rfl, b1, b2⟩
  have X2 := x_all_v X b2
  have f2 : x_fr x_Z σ σ2 := x_fr_w b2 x_ZV
  unfold q_next at hp
  refine q_zb (fun q => ?_) (fun q => ?_)
  · have hs : q_select c r 0 = [] := Classical.byContradiction q
    rw [q_if_t hs] at hp
    rw [X2.2.2.2.2.2.2.2.2.2.2.1.1]
    exact s_RU_choose21 ok _ r σ2 rfl X2 V (fun σ' z1 z2 z3 => hp σ' z1 z2 (x_fr_tr f2 z3 (fun _ z => z)))
  · rw [q_if_f q] at hp
    exact q_p1 (hp σ2 X2.2.2.2 (fun _ => b1) f2) q
theorem s_RU_macros (ok : q_ok c) : ∀ (f k : Nat) (r : q_R) (σ : dx_V), f + k = 31 → x_all c r σ → q_inv c r → (∀ σ' : dx_V, x_run (q_macro c f r) σ' → x_fr x_Z σ σ' → po none σ') → g_RU_macrostep_2 E (d + 6) po (nI k) σ := by
  intro f
  induction f with
  | zero =>
    intro k r σ hf X V hp
    refine r_RU_macrostep_2 ?_
    simp only [i_lt, i_n (show k ≤ 100000 by omega), i_30]
    exact ⟨fun _ => hp σ X.2.2.2 x_fr_rf, fun q => absurd (by omega) q⟩
  | succ f ih =>
    intro k r σ hf X V hp
    have hg := x_go X.2.2.2 V.1
    refine r_RU_macrostep_2 ?_
    simp only [i_lt, i_n (show k ≤ 100000 by omega), i_30, i_inc]
    refine ⟨fun q => absurd q (by omega), fun _ => dx_ci1 _ _ (fun po hp => s_RU_isGoingOn hp) (q_zb (fun q => ?_) (fun q => ?_))⟩
    · unfold q_macro at hp
      rw [if_neg (fun z => q (hg.mpr z))] at hp
      exact hp σ X.2.2.2 x_fr_rf
    · have ho := hg.mp q
      have hp : ∀ σ' : dx_V, x_run (if (q_next c r).1 = [] then (q_next c r).2 else q_macro c f (q_micro c (q_next c r).1 (q_next c r).2)) σ' → x_fr x_Z σ σ' → po none σ' := by
        unfold q_macro at hp
        rw [if_pos ho] at hp
        exact hp
      obtain ⟨V1, o1, hsel⟩ := q_next_ok V
      refine dx_ciR (fun v σ2 => v = q_z ((q_next c r).1 ≠ []) ∧ x_run (q_next c r).2 σ2 ∧ ((q_next c r).1 ≠ [] → x_num (q_settle c (q_next c r).2 (q_next c r).1) (σ2 6 6) (σ2 31)) ∧ x_fr x_Z σ σ2) (fun po hpo => s_RU_chooseNext ok X V (fun σ' z1 z2 z3 => hpo _ σ' ⟨rfl, z1, z2, z3⟩)) ?_
      rintro v σ2 ⟨rfl, b1, b2, b3⟩
      have X2 := x_all_z X b3 b1
      refine q_zc (fun q2 => ?_) (fun q2 => ?_)
      · rw [if_neg q2] at hp
        obtain ⟨hb, hl⟩ := q_set_ok (r' := (q_next c r).2) ok hsel
        refine dx_cuR (fun σ3 => x_run (q_micro c (q_next c r).1 (q_next c r).2) σ3 ∧ x_fr x_W σ2 σ3) (fun po hpo => s_RU_microstep ok X2 V1 (o1.trans ho) hb hl (b2 q2) (fun σ' z1 z2 => hpo σ' ⟨z1, z2⟩)) ?_
        rintro σ3 ⟨c1, c2⟩
        have f3 := x_fr_tr b3 (x_fr_w c2 x_ZW) (fun _ z => z)
        exact ih (k + 1) _ σ3 (by omega) (x_all_z X f3 c1) (v_micro ok V1 hb) (fun σ' z1 z2 => hp σ' z1 (x_fr_tr f3 z2 (fun _ z => z)))
      · rw [if_pos (Classical.byContradiction q2)] at hp
        exact hp σ2 b1 b3
theorem s_RU_macrostep {r : q_R} {σ : dx_V} (ok : q_ok c) (X : x_all c r σ) (V : q_inv c r) (hp : ∀ σ' : dx_V, x_run (q_macro c 31 r) σ' → x_fr x_Z σ σ' → po none σ') : m_RU_macrostep E (d + 6) σ po :=
  r_RU_macrostep (s_RU_macros ok 31 0 r σ (by omega) X V hp)
theorem v_macro (ok : q_ok c) : ∀ (f : Nat) (r : q_R), q_inv c r → q_inv c (q_macro c f r) := by
  intro f
  induction f with
  | zero => intro r V; exact V
  | succ f ih =>
    intro r V
    unfold q_macro
    split
    · obtain ⟨V1, o1, hsel⟩ := q_next_ok V
      show q_inv c (if _ then _ else _)
      split
      · exact V1
      · exact ih _ (v_micro ok V1 (q_set_ok ok hsel).1)
    · exact V
theorem s_RU_takeExternalEvent {r : q_R} {σ : dx_V} {e : Int32} {l : List Int32} (ok : q_ok c) (X : x_all c r σ) (V : q_inv c r) (ho : q_out r = 1) (hex : q_ex r = e :: l) (hp : ∀ σ' : dx_V, x_run (if q_select c (q_sMi (q_sRc (q_sEx r l) []) 0) e = [] then q_sMi (q_sRc (q_sEx r l) []) 0 else q_micro c (q_select c (q_sMi (q_sRc (q_sEx r l) []) 0) e) (q_sMi (q_sRc (q_sEx r l) []) 0)) σ' → x_fr x_Z σ σ' → po none σ') : m_RU_takeExternalEvent E (d + 6) σ po := by
  have h16 := V.1.2.2.1
  rw [hex, List.length_cons] at h16
  refine r_RU_takeExternalEvent (dx_cu1 _ (fun po hp => s_LN_clear_9 hp) ?_)
  have xr : x_run (q_sRc r []) (dx_u σ 9 1 0) := x_run_l9 X.2.2.2 (x_fr_u x_fr_rf (by decide)) ⟨by rw [dx_us]; rfl, fun i v h => by cases h⟩
  have xm : x_run (q_sMi (q_sRc r []) 0) (dx_u (dx_u σ 9 1 0) 4 11 0) := x_run_mi xr rfl
  have fm : x_fr x_Z σ (dx_u (dx_u σ 9 1 0) 4 11 0) := x_fr_u (x_fr_u x_fr_rf (by decide)) (by decide)
  refine dx_ciR (fun x σ1 => x = e ∧ x_line l (σ1 8 1) (σ1 33) ∧ x_fr [8, 33] (dx_u (dx_u σ 9 1 0) 4 11 0) σ1) (fun po hpo => s_LN_takeFirst_8 (l := l) (v := e) (by have := xm.2.2.2.2.2.2.2.2.1; rw [show q_ex (q_sMi (q_sRc r []) 0) = e :: l from hex] at this; exact this) (by omega) (fun σ' z1 z2 => hpo e σ' ⟨rfl, z1, z2⟩)) ?_
  rintro x σ1 ⟨rfl, a1, a2⟩
  have x1 : x_run (q_sMi (q_sRc (q_sEx r l) []) 0) σ1 := x_run_l8 xm a2 a1
  have f1 : x_fr x_Z σ σ1 := x_fr_tr fm (x_fr_w a2 (by decide)) (fun _ z => z)
  have X1 := x_all_z X f1 x1
  have V1 : q_inv c (q_sMi (q_sRc (q_sEx r l) []) 0) := ⟨⟨V.1.1, V.1.2.1, (by show l.length ≤ 16; omega), Nat.zero_le _, V.1.2.2.2.2.1, Nat.zero_le _, V.1.2.2.2.2.2.2⟩, V.2⟩
  have ho1 : q_out (q_sMi (q_sRc (q_sEx r l) []) 0) = 1 := ho
  generalize q_sMi (q_sRc (q_sEx r l) []) 0 = r1 at *
  refine dx_ciR (fun v σ2 => v = q_z (q_select c r1 x ≠ []) ∧ x_num (q_settle c r1 (q_select c r1 x)) (σ2 6 6) (σ2 31) ∧ x_fr x_V σ1 σ2) (fun po hpo => s_SE_chooseFor ok X1 V1.1 (fun σ' z1 z2 => hpo _ σ' ⟨rfl, z1, z2⟩)) ?_
  rintro v σ2 ⟨rfl, b1, b2⟩
  have X2 := x_all_v X1 b2
  have f2 : x_fr x_Z σ σ2 := x_fr_tr f1 (x_fr_w b2 x_ZV) (fun _ z => z)
  refine q_zb (fun q => ?_) (fun q => ?_)
  · rw [if_pos (Classical.byContradiction q)] at hp
    exact hp σ2 X2.2.2.2 f2
  · rw [if_neg q] at hp
    obtain ⟨hb, hl⟩ := q_set_ok (r := r1) (r' := r1) ok (Or.inr ⟨x, rfl⟩)
    exact dx_cuR (fun σ3 => x_run (q_micro c (q_select c r1 x) r1) σ3 ∧ x_fr x_W σ2 σ3) (fun po hpo => s_RU_microstep ok X2 V1 ho1 hb hl b1 (fun σ' z1 z2 => hpo σ' ⟨z1, z2⟩)) (fun σ3 z => hp σ3 z.1 (x_fr_tr f2 (x_fr_w z.2 x_ZW) (fun _ z => z)))
theorem s_AR_fl28 {σ0 : dx_V} : ∀ (f i : Nat) (σ : dx_V), f + i = 16 → (∀ j, j < i → σ 28 j = 0) → x_fr [28] σ0 σ → (∀ σ' : dx_V, (∀ j, j < 16 → σ' 28 j = 0) → x_fr [28] σ0 σ' → po none σ') → g_AR_fill_28_5 E d po 0 (nI i) 16 σ := by
  intro f
  induction f with
  | zero =>
    intro i σ hi h fr hp
    refine r_AR_fill_28_5 ?_
    simp only [i_le, i_n (show i ≤ 100000 by omega), i_16]
    exact ⟨fun _ => hp σ (fun j hj => h j (by omega)) fr, fun q => absurd (by omega) q⟩
  | succ f ih =>
    intro i σ hi h fr hp
    refine r_AR_fill_28_5 ?_
    simp only [i_le, i_n (show i ≤ 100000 by omega), i_16, i_inc, i_cl (show i ≤ 100000 by omega)]
    refine ⟨fun q => absurd q (by omega), fun _ => ⟨i_in (by omega) (by omega), ih (i + 1) _ (by omega) (fun j hj => ?_) (x_fr_u fr (by decide)) hp⟩⟩
    by_cases e : j = i
    · subst e; exact dx_us
    · rw [dx_uk e]; exact h j (by omega)
theorem s_AR_fl29 {σ0 : dx_V} : ∀ (f i : Nat) (σ : dx_V), f + i = 4 → (∀ j, j < i → σ 29 j = 0) → x_fr [29] σ0 σ → (∀ σ' : dx_V, (∀ j, j < 4 → σ' 29 j = 0) → x_fr [29] σ0 σ' → po none σ') → g_AR_fill_29_5 E d po 0 (nI i) 4 σ := by
  intro f
  induction f with
  | zero =>
    intro i σ hi h fr hp
    refine r_AR_fill_29_5 ?_
    simp only [i_le, i_n (show i ≤ 100000 by omega), i_4]
    exact ⟨fun _ => hp σ (fun j hj => h j (by omega)) fr, fun q => absurd (by omega) q⟩
  | succ f ih =>
    intro i σ hi h fr hp
    refine r_AR_fill_29_5 ?_
    simp only [i_le, i_n (show i ≤ 100000 by omega), i_4, i_inc, i_cl (show i ≤ 100000 by omega)]
    refine ⟨fun q => absurd q (by omega), fun _ => ⟨i_in (by omega) (by omega), ih (i + 1) _ (by omega) (fun j hj => ?_) (x_fr_u fr (by decide)) hp⟩⟩
    by_cases e : j = i
    · subst e; exact dx_us
    · rw [dx_uk e]; exact h j (by omega)
theorem v_r0 (hw : q_whole c) : q_inv c q_r0 := ⟨⟨fun x h => h.elim, Nat.zero_le _, Nat.zero_le _, Nat.zero_le _, Nat.zero_le _, Nat.zero_le _, (by decide : 1 ≤ 4)⟩, hw, fun h s _ _ _ hb => by
  have hb : bt 0 s = true := hb
  rw [b_0] at hb
  cases hb⟩
theorem s_RU_open {σ : dx_V} (ok : q_ok c) (hw : q_whole c) (T : x_tree c σ) (T2 : x_tr c σ) (T3 : x_ac c σ) (hp : ∀ σ' : dx_V, x_run (q_enter c (q_full c (fun u => u = q_ini c 0)) q_r0) σ' → x_fr x_Z σ σ' → po none σ') : m_RU_open E (d + 5) σ po := by
  have h15 := ok.1
  have hini := q_ini_ch ok hw.1
  have hip := q_ch_par ok hini
  refine r_RU_open (dx_cuR (fun σ1 => (∀ j, j < 4 → σ1 29 j = 0) ∧ σ1 5 1 = 0 ∧ x_fr [5, 29] σ σ1) (fun po hpo => r_SI_clear (dx_cuR (fun σ0 => (∀ j, j < 4 → σ0 29 j = 0) ∧ x_fr [29] σ σ0) (fun po hpo => r_AR_fill_29 (s_AR_fl29 4 0 σ rfl (fun j hj => absurd hj (by omega)) x_fr_rf (fun σ' z1 z2 => hpo σ' ⟨z1, z2⟩))) (fun σ0 z => hpo _ ⟨z.1, dx_us, x_fr_u (x_fr_w z.2 (by decide)) (by decide)⟩))) ?_)
  rintro σ1 ⟨a1, a2, a3⟩
  refine dx_cu1 _ (fun po hp => s_LN_clear_7 hp) (dx_cu1 _ (fun po hp => s_LN_clear_8 hp) (dx_cu1 _ (fun po hp => s_LN_clear_9 hp) ?_))
  refine dx_cuR (fun σ5 => (∀ j, j < 16 → σ5 28 j = 0) ∧ x_fr [28] (dx_u (dx_u (dx_u (dx_u σ1 7 1 0) 8 1 0) 9 1 0) 10 2 0) σ5) (fun po hpo => r_AR_fill_28 (s_AR_fl28 16 0 _ rfl (fun j hj => absurd hj (by omega)) x_fr_rf (fun σ' z1 z2 => hpo σ' ⟨z1, z2⟩))) ?_
  rintro σ5 ⟨b1, b2⟩
  have e5 : σ5 5 1 = 0 := by rw [b2 5 (by decide)]; exact a2
  have e29 : ∀ j, j < 4 → σ5 29 j = 0 := fun j hj => by rw [b2 29 (by decide)]; exact a1 j hj
  have e7 : σ5 7 1 = 0 := by rw [b2 7 (by decide)]; rfl
  have e8 : σ5 8 1 = 0 := by rw [b2 8 (by decide)]; rfl
  have e9 : σ5 9 1 = 0 := by rw [b2 9 (by decide)]; rfl
  have e10 : σ5 10 2 = 0 := by rw [b2 10 (by decide)]; exact dx_us
  have f5 : x_fr x_Z σ σ5 := x_fr_tr (x_fr_u (x_fr_u (x_fr_u (x_fr_u (x_fr_w a3 (by decide : ∀ k, k ∈ ([5, 29] : List Nat) → k ∈ x_Z)) (by decide)) (by decide)) (by decide)) (by decide)) (x_fr_w b2 (by decide)) (fun _ z => z)
  have T5 := x_tree_fr T f5 (by decide)
  refine ⟨i_in2 (by decide) (by decide), ?_⟩
  rw [show (0 : Int32).toNatClampNeg = 0 from rfl, T5.2.2.2.1 0 (by omega) hw.1]
  have f6 : x_fr x_Z σ (dx_u (dx_u (dx_u (dx_u σ5 4 10 0) 4 11 0) 4 13 0) 4 12 1) := x_fr_u (x_fr_u (x_fr_u (x_fr_u f5 (by decide)) (by decide)) (by decide)) (by decide)
  have x6 : x_run q_r0 (dx_u (dx_u (dx_u (dx_u σ5 4 10 0) 4 11 0) 4 13 0) 4 12 1) := by
    refine ⟨?_, ?_, ?_, fun _ => ?_, b1, e29, fun x => ?_, ⟨e7, fun i v h => by cases h⟩, ⟨e8, fun i v h => by cases h⟩, ⟨e9, fun i v h => by cases h⟩, ⟨e10, fun i v h => by cases h⟩⟩
    · rw [dx_uk (by decide), dx_uk (by decide), dx_uk (by decide), dx_us]; rfl
    · rw [dx_uk (by decide), dx_uk (by decide), dx_us]; rfl
    · rw [dx_us]; rfl
    · rw [dx_uk (by decide), dx_us]; exact (q_z_f (fun h => h)).symm
    · show bt (σ5 5 1) x = true ↔ False
      rw [e5, b_0]
      constructor
      · intro h; cases h
      · intro h; exact h.elim
  have X6 : x_all c q_r0 (dx_u (dx_u (dx_u (dx_u σ5 4 10 0) 4 11 0) 4 13 0) 4 12 1) := ⟨x_tree_fr T f6 (by decide), x_tr_fr T2 f6 (by decide), x_ac_fr T3 f6 (by decide), x6⟩
  generalize dx_u (dx_u (dx_u (dx_u σ5 4 10 0) 4 11 0) 4 13 0) 4 12 1 = σ6 at *
  refine dx_ciR (fun w σ7 => σ7 = σ6 ∧ ∀ x, bt w x = true ↔ q_full c (fun u => u = q_ini c 0) x) (fun po hpo => s_ST_completed (B := fun u => u = q_ini c 0) ok X6.1 (fun x => b_one (by omega)) (fun w hw => hpo w σ6 ⟨rfl, hw⟩)) ?_
  rintro w σ7 ⟨rfl, hw7⟩
  have hN : ∀ x, q_full c (fun u => u = q_ini c 0) x → q_st c x := q_full_st (fun x e => by rw [e]; exact hini.1)
  unfold q_enter at hp
  refine dx_cuR (fun σ8 => x_run (q_it (q_enter1 c (q_full c (fun u => u = q_ini c 0))) (q_n c) 1 q_r0) σ8 ∧ x_fr x_Z σ σ8) (fun po hpo => s_RU_enter ok hN hw7 X6 (v_r0 hw) (fun σ' z1 z2 => hpo σ' ⟨z1, x_fr_tr f6 (x_fr_w z2 x_ZW) (fun _ z => z)⟩)) ?_
  rintro σ8 ⟨d1, d2⟩
  have V4 := it_keep (P := q_inv c) (g := q_enter1 c (q_full c (fun u => u = q_ini c 0))) (fun _ _ V => v_enter1 hN V) (q_n c) 1 _ (v_r0 hw)
  exact dx_cuR (fun σ9 => x_run (q_close (q_it (q_enter1 c (q_full c (fun u => u = q_ini c 0))) (q_n c) 1 q_r0)) σ9 ∧ x_fr x_W σ8 σ9) (fun po hpo => s_RU_finishIfEnded d1 V4.1 (fun σ' z1 z2 => hpo σ' ⟨z1, z2⟩)) (fun σ9 z => hp σ9 z.1 (x_fr_tr d2 (x_fr_w z.2 x_ZW) (fun _ z => z)))
end XO
