/-! Macrosteps, begin, step, the clock of the reference. -/
theorem mi_write {r : q_R} {x : Int32} : q_mi (q_write x r) = q_mi r := by unfold q_write; split <;> rfl
theorem mi_raise {r : q_R} {x : Int32} : q_mi (q_raise x r) = q_mi r := by unfold q_raise; split <;> rfl
theorem mi_send {r : q_R} {x y : Int32} : q_mi (q_send x y r) = q_mi r := by
  unfold q_send
  split
  · split <;> rfl
  · split <;> rfl
theorem mi_do {r : q_R} {op : Nat} {a b : Int32} : q_mi (q_do op a b r) = q_mi r := by
  unfold q_do
  split
  · rfl
  · split
    · rfl
    · split
      · exact mi_raise
      · exact mi_send
theorem mi_act {c : q_C} {r : q_R} {who : Int32} : q_mi (q_act c who r) = q_mi r := it_keep (P := fun r' => q_mi r' = q_mi r) (g := q_act1 c who) (fun i r' h => by
  unfold q_act1
  split
  · exact mi_do.trans h
  · exact h) _ _ _ rfl
theorem mi_leave1 {c : q_C} {r : q_R} {X : Nat → Prop} {s : Nat} : q_mi (q_leave1 c X s r) = q_mi r := by
  by_cases h : q_out r = 1 ∧ X s
  · rw [q_leave1_yes h.1 h.2]
    split
    · exact mi_act.trans mi_write
    · exact mi_act.trans mi_write
  · unfold q_leave1; rw [q_if_f h]
theorem mi_take {c : q_C} : ∀ (l : List Nat) (r : q_R), q_mi (q_take c l r) = q_mi r := by
  intro l
  induction l with
  | nil => intro r; rfl
  | cons t l ih =>
    intro r
    refine (ih (q_take1 c t r)).trans ?_
    unfold q_take1
    split
    · exact mi_act.trans mi_write
    · rfl
theorem mi_finish {c : q_C} {r : q_R} {s : Nat} : q_mi (q_finish c s r) = q_mi r := by
  by_cases h0 : q_par c s = 0
  · unfold q_finish; rw [if_pos h0]; rfl
  · rw [q_finish_no h0]
    by_cases hc : q_out (q_raise (nI (100 + q_par c s)) r) = 1 ∧ q_kd c (q_par c (q_par c s)) = 2 ∧ ∀ x, q_ch c (q_par c (q_par c s)) x → q_fin c (q_raise (nI (100 + q_par c s)) r) x
    · rw [q_if_t hc]; exact mi_raise.trans mi_raise
    · rw [q_if_f hc]; exact mi_raise
theorem mi_enter1 {c : q_C} {r : q_R} {N : Nat → Prop} {s : Nat} : q_mi (q_enter1 c N s r) = q_mi r := by
  by_cases h : q_out r = 1 ∧ N s
  · rw [q_enter1_yes h.1 h.2]
    have e : q_mi (q_act c (nI (100 + s)) (q_sOn (q_write (nI (1000 + s)) r) (fun x => x = s ∨ q_on (q_write (nI (1000 + s)) r) x))) = q_mi r := mi_act.trans (show q_mi (q_write (nI (1000 + s)) r) = q_mi r from mi_write)
    split
    · split
      · exact mi_finish.trans e
      · exact e
    · exact mi_write
  · unfold q_enter1; rw [q_if_f h]
theorem mi_enter {c : q_C} {r : q_R} {N : Nat → Prop} : q_mi (q_enter c N r) = q_mi r := by
  have h : q_mi (q_it (q_enter1 c N) (q_n c) 1 r) = q_mi r := it_keep (P := fun r' => q_mi r' = q_mi r) (g := q_enter1 c N) (fun i r' h => mi_enter1.trans h) _ _ _ rfl
  unfold q_enter q_close
  by_cases hc : q_out (q_it (q_enter1 c N) (q_n c) 1 r) = 1 ∧ q_end (q_it (q_enter1 c N) (q_n c) 1 r)
  · rw [q_if_t hc]; exact h
  · rw [q_if_f hc]; exact h
theorem mi_micro {c : q_C} {r : q_R} {sel : List Nat} (h30 : q_mi r ≠ 30) : q_mi (q_micro c sel r) = q_mi r + 1 := by
  unfold q_micro
  rw [if_neg h30]
  have e : q_mi (q_take c (q_settle c (q_sMi r (q_mi r + 1)) sel) (q_dn (q_leave1 c (q_exits c (q_sMi r (q_mi r + 1)) (q_settle c (q_sMi r (q_mi r + 1)) sel))) (q_n c) (q_sMem (q_sMi r (q_mi r + 1)) (q_rem c (q_sMi r (q_mi r + 1)) (q_exits c (q_sMi r (q_mi r + 1)) (q_settle c (q_sMi r (q_mi r + 1)) sel)))))) = q_mi r + 1 := by
    rw [mi_take]
    exact dn_keep (P := fun r' => q_mi r' = q_mi r + 1) (g := q_leave1 c (q_exits c (q_sMi r (q_mi r + 1)) (q_settle c (q_sMi r (q_mi r + 1)) sel))) (fun i r' h => mi_leave1.trans h) _ _ rfl
  show q_mi (if _ then _ else _) = _
  split
  · exact mi_enter.trans e
  · exact e
theorem q_macro_stop {c : q_C} {f : Nat} {r : q_R} (h : q_out r ≠ 1) : q_macro c f r = r := by
  cases f with
  | zero => rfl
  | succ f => unfold q_macro; rw [if_neg h]
section MMA
variable {E : dx_E} {d : Nat} {po : dx_P} {c : q_C}
theorem t_take19 {v : Int32} (l : List Int32) (hc : l.length < 16) : ∀ (n j : Nat) (σ : dx_V), n = l.length - j → j ≤ l.length → σ 0 23 = nI l.length → (∀ i w, l[i]? = some w → i < j → σ 18 i = w) → (∀ i w, l[i]? = some w → j ≤ i → σ 18 (i + 1) = w) → (∀ σ' : dx_V, x_line l (σ' 0 23) (σ' 18) → y_fr [18] [23] σ σ' → po (some v) σ') → g_MM_take_19 E d po v (nI j) σ := by
  intro n
  induction n with
  | zero =>
    intro j σ hn hj hcnt h1 h2 hp
    refine r_MM_take_19 ?_
    rw [hcnt]
    simp only [i_le, i_n (show l.length ≤ 100000 by omega), i_n (show j ≤ 100000 by omega)]
    refine ⟨fun h => hp _ ⟨hcnt, fun i w hi => h1 i w hi ?_⟩ y_fr_rf, fun h => absurd h (by omega)⟩
    have := (List.getElem?_eq_some_iff.mp hi).1
    omega
  | succ n ih =>
    intro j σ hn hj hcnt h1 h2 hp
    refine r_MM_take_19 ?_
    rw [hcnt, i_inc, i_cl (n := j) (by omega), i_cl (n := j + 1) (by omega)]
    simp only [i_le, i_n (show l.length ≤ 100000 by omega), i_n (show j ≤ 100000 by omega)]
    refine ⟨fun h => absurd h (by omega), fun h => ⟨i_in (by omega) (by omega), i_in (by omega) (by omega), ?_⟩⟩
    refine ih (j + 1) _ (by omega) (by omega) (by rw [dx_un (by decide)]; exact hcnt) (fun i w hi hlt => ?_) (fun i w hi hge => ?_) (fun σ' q1 q2 => hp σ' q1 (y_fr_t (y_fr_a y_fr_rf (by decide) (by decide)) q2))
    · by_cases hij : i = j
      · subst hij
        rw [dx_us]
        exact h2 i w hi (Nat.le_refl _)
      · rw [dx_uk hij]
        exact h1 i w hi (by omega)
    · rw [dx_uk (by omega)]
      exact h2 i w hi (by omega)
theorem t_take {v : Int32} {l : List Int32} {σ : dx_V} (hl : x_line (v :: l) (σ 0 23) (σ 18)) (hc : l.length < 16) (hp : ∀ σ' : dx_V, x_line l (σ' 0 23) (σ' 18) → y_fr [18] [23] σ σ' → po (some v) σ') : m_MM_take E d σ po := by
  refine r_MM_take ⟨i_in2 (by decide) (by decide), ?_⟩
  rw [hl.1, List.length_cons, nI_pred, show (0 : Int32).toNatClampNeg = 0 from rfl, hl.2 0 v rfl]
  exact t_take19 l hc l.length 0 _ (by omega) (by omega) dx_us (fun i w _ h => absurd h (by omega)) (fun i w hi _ => by rw [dx_un (by decide)]; exact hl.2 (i + 1) w hi) (fun σ' q1 q2 => hp σ' q1 (y_fr_t (y_fr_s y_fr_rf (by decide)) q2))
theorem t_mac19 (ok : q_ok c) : ∀ (f : Nat) (r : q_R) (l : List Nat) (σ : dx_V), (q_in r).length = f → y_all c r σ → q_inv c r → l.length ≤ 20 → x_num l (σ 0 33) (σ 23) → (∀ x : List Nat × q_R, ((l ≠ [] ∧ x = (l, r)) ∨ (l = [] ∧ x = q_pick c f r)) → ∀ σ' : dx_V, y_run x.2 σ' → x_num x.1 (σ' 0 33) (σ' 23) → y_fr y_Z y_T σ σ' → g_MM_macrostep_46 E (d + 3) po σ') → g_MM_macrostep_19 E (d + 3) po σ := by
  intro f
  induction f with
  | zero =>
    intro r l σ hf X V hl S hp
    have hin : q_in r = [] := List.eq_nil_of_length_eq_zero hf
    refine r_MM_macrostep_19 ?_
    rw [S.1, X.2.2.2.2.2.2.2.2.2.2.1.1, hin]
    have e0 : nI l.length = 0 ↔ l = [] := by rw [i_eq, i_n (by omega), i_0]; exact ⟨fun z => List.eq_nil_of_length_eq_zero (by omega), fun z => by rw [z]; rfl⟩
    rw [e0]
    exact ⟨fun q => hp _ (Or.inl ⟨q, rfl⟩) σ X.2.2.2 S y_fr_rf, fun q => ⟨fun _ => hp _ (Or.inr ⟨q, rfl⟩) σ X.2.2.2 (by rw [q] at S; exact S) y_fr_rf, fun z => absurd (by decide) z⟩⟩
  | succ f ih =>
    intro r l σ hf X V hl S hp
    have h16 := V.1.2.1
    obtain ⟨e, l', hin⟩ : ∃ e l', q_in r = e :: l' := by
      cases h : q_in r with
      | nil => rw [h] at hf; cases hf
      | cons e l => exact ⟨e, l, rfl⟩
    have hl' : l'.length = f := by rw [hin, List.length_cons] at hf; omega
    refine r_MM_macrostep_19 ?_
    have e0 : nI l.length = 0 ↔ l = [] := by rw [i_eq, i_n (by omega), i_0]; exact ⟨fun z => List.eq_nil_of_length_eq_zero (by omega), fun z => by rw [z]; rfl⟩
    rw [S.1, X.2.2.2.2.2.2.2.2.2.2.1.1, e0, hf]
    simp only [i_le, i_n (show f + 1 ≤ 100000 by omega), i_0]
    refine ⟨fun q => hp _ (Or.inl ⟨q, rfl⟩) σ X.2.2.2 S y_fr_rf, fun q => ⟨fun z => absurd z (by omega), fun _ => ?_⟩⟩
    have V1 : q_inv c (q_sIn r l') := ⟨⟨V.1.1, (by show l'.length ≤ 16; omega), V.1.2.2⟩, V.2⟩
    refine dx_ciR (fun x σ1 => x = e ∧ x_line l' (σ1 0 23) (σ1 18) ∧ y_fr [18] [23] σ σ1) (fun po hpo => t_take (l := l') (v := e) (by have := X.2.2.2.2.2.2.2.2.2.2.1; rw [hin] at this; exact this) (by omega) (fun σ' z1 z2 => hpo e σ' ⟨rfl, z1, z2⟩)) ?_
    rintro x σ1 ⟨rfl, a1, a2⟩
    have x1 := y_run_in X.2.2.2 a2 a1
    have f1 : y_fr y_Z y_T σ σ1 := y_fr_w a2 (by decide) (by decide)
    have X1 := y_all_z X f1 x1
    refine dx_cuR (fun σ2 => x_num (q_select c (q_sIn r l') x) (σ2 0 33) (σ2 23) ∧ y_fr y_V y_U σ1 σ2) (fun po hpo => t_select ok X1 V1.1 V1.2.1 (fun σ' z1 z2 => hpo σ' ⟨z1, z2⟩)) ?_
    rintro σ2 ⟨b1, b2⟩
    have X2 := y_all_v X1 b2
    have f2 := y_fr_t f1 (y_zv b2)
    have hsel := q_select_ok (c := c) (r := q_sIn r l') (e := x)
    have h20 := ok.2.1
    have hlen := q_nd _ _ hsel.1 hsel.2
    refine ih (q_sIn r l') _ σ2 hl' X2 V1 (by omega) b1 (fun y hy σ' z1 z2 z3 => hp y (Or.inr ⟨q, ?_⟩) σ' z1 z2 (y_fr_t f2 z3))
    have ep : q_pick c (f + 1) r = q_if (q_select c (q_sIn r l') x = []) (q_pick c f (q_sIn r l')) (q_select c (q_sIn r l') x, q_sIn r l') := by
      conv => lhs; unfold q_pick
      rw [hin]
    rw [ep]
    rcases hy with ⟨y1, y2⟩ | ⟨y1, y2⟩
    · rw [q_if_f y1]; exact y2
    · rw [q_if_t y1]; exact y2
theorem t_macs (ok : q_ok c) : ∀ (f : Nat) (r : q_R) (σ : dx_V), 31 ≤ f + q_mi r → y_all c r σ → q_inv c r → (∀ σ' : dx_V, y_run (q_macro c f r) σ' → y_fr y_Z y_T σ σ' → po none σ') → g_MM_macrostep_2 E (d + 7) po 1 σ := by
  intro f
  induction f with
  | zero =>
    intro r σ hf X V hp
    have := V.1.2.2.2.2.2.1
    omega
  | succ f ih =>
    intro r σ hf X V hp
    have hol := V.1.2.2.2.2.2.2
    refine r_MM_macrostep_2 ⟨fun z => absurd z (by decide), fun _ => ?_⟩
    have e1 : σ 0 17 = 1 ↔ q_out r = 1 := by rw [X.2.2.2.2.2.1, i_eq, i_n (by omega), i_1]; omega
    rw [e1]
    refine ⟨fun q => ?_, fun q => ?_⟩
    · rw [q_macro_stop q] at hp
      exact hp σ X.2.2.2 y_fr_rf
    · have hp : ∀ σ' : dx_V, y_run (if (q_next c r).1 = [] then (q_next c r).2 else q_macro c f (q_micro c (q_next c r).1 (q_next c r).2)) σ' → y_fr y_Z y_T σ σ' → po none σ' := by
        unfold q_macro at hp
        rw [if_pos q] at hp
        exact hp
      obtain ⟨Vn, on, hsn⟩ := q_next_ok V
      have hsel0 := q_select_ok (c := c) (r := r) (e := 0)
      have h20 := ok.2.1
      have hlen0 := q_nd _ _ hsel0.1 hsel0.2
      refine dx_cuR (fun σ1 => x_num (q_select c r 0) (σ1 0 33) (σ1 23) ∧ y_fr y_V y_U σ σ1) (fun po hpo => t_select ok X V.1 V.2.1 (fun σ' z1 z2 => hpo σ' ⟨z1, z2⟩)) ?_
      rintro σ1 ⟨a1, a2⟩
      have X1 := y_all_v X a2
      refine t_mac19 ok _ r (q_select c r 0) σ1 rfl X1 V (by omega) a1 (fun x hx σ2 z1 z2 z3 => ?_)
      have ex : x = q_next c r := by
        unfold q_next
        rcases hx with ⟨y1, y2⟩ | ⟨y1, y2⟩
        · rw [q_if_f y1]; exact y2
        · rw [q_if_t y1]; exact y2
      subst ex
      have f2 := y_fr_t (y_zv a2) z3
      have X2 := y_all_z X f2 z1
      have hsl : (q_next c r).1.length ≤ 20 ∧ ∀ u ∈ (q_next c r).1, u < q_nt c := by
        rcases hsn with h | ⟨e, h⟩
        · rw [h]; exact ⟨Nat.zero_le _, fun u hu => by cases hu⟩
        · have hs := q_select_ok (c := c) (r := (q_next c r).2) (e := e)
          have hl := q_nd _ _ hs.1 hs.2
          rw [← h] at hl hs
          exact ⟨by omega, hs.2⟩
      have hmi : q_mi (q_next c r).2 = q_mi r := by
        unfold q_next
        have hpk : ∀ (f : Nat) (r : q_R), q_mi (q_pick c f r).2 = q_mi r := by
          intro f
          induction f with
          | zero => intro r; rfl
          | succ f ih =>
            intro r
            unfold q_pick
            split
            · rfl
            · next e l h =>
              by_cases hs : q_select c (q_sIn r l) e = []
              · rw [q_if_t hs]; exact ih _
              · rw [q_if_f hs]; rfl
        by_cases hs : q_select c r 0 = []
        · rw [q_if_t hs]; exact hpk _ _
        · rw [q_if_f hs]
      generalize hxx : (q_next c r).1 = l at *
      generalize (q_next c r).2 = r2 at *
      refine r_MM_macrostep_46 ?_
      rw [z2.1]
      have e0 : nI l.length ≤ 0 ↔ l = [] := by rw [i_le, i_n (by omega), i_0]; exact ⟨fun z => List.eq_nil_of_length_eq_zero (by omega), fun z => by rw [z]; exact Int.le_refl _⟩
      rw [e0]
      refine ⟨fun q2 => ?_, fun q2 => ?_⟩
      · rw [if_pos q2] at hp
        exact r_MM_macrostep_58 ⟨fun _ => r_MM_macrostep_2 ⟨fun _ => hp σ2 z1 f2, fun z => absurd rfl z⟩, fun z => absurd rfl z⟩
      · rw [if_neg q2] at hp
        obtain ⟨hb, hl⟩ := q_set_ok (r := r2) (r' := r2) ok hsn
        refine r_MM_macrostep_58 ⟨fun z => absurd z (by decide), fun _ => dx_cuR (fun σ3 => y_run (q_micro c l r2) σ3 ∧ y_fr y_Z y_T σ2 σ3) (fun po hpo => t_microstep ok X2 Vn (on.trans q) hsl.1 hsl.2 hb hl z2 (fun σ' w1 w2 => hpo σ' ⟨w1, w2⟩)) ?_⟩
        rintro σ3 ⟨c1, c2⟩
        have f3 := y_fr_t f2 c2
        have X3 := y_all_z X f3 c1
        have V3 := v_micro ok Vn hb
        by_cases h30 : q_mi r2 = 30
        · have e3 : q_micro c l r2 = q_sOut r2 3 := by unfold q_micro; rw [if_pos h30]
          have ho3 : q_out (q_micro c l r2) ≠ 1 := by rw [e3]; exact (by decide : (3 : Nat) ≠ 1)
          rw [q_macro_stop ho3] at hp
          have hol3 := V3.1.2.2.2.2.2.2
          have e1 : σ3 0 17 = 1 ↔ q_out (q_micro c l r2) = 1 := by rw [c1.2.2.1, i_eq, i_n (by omega), i_1]; omega
          refine r_MM_macrostep_2 ⟨fun z => absurd z (by decide), fun _ => ?_⟩
          rw [e1]
          exact ⟨fun _ => hp σ3 c1 f3, fun z => absurd z ho3⟩
        · have hm3 := mi_micro (c := c) (r := r2) (sel := l) h30
          exact ih _ σ3 (by omega) X3 V3 (fun σ' w1 w2 => hp σ' w1 (y_fr_t f3 w2))
theorem t_macrostep {r : q_R} {σ : dx_V} (ok : q_ok c) (X : y_all c r σ) (V : q_inv c r) (hp : ∀ σ' : dx_V, y_run (q_macro c 31 r) σ' → y_fr y_Z y_T σ σ' → po none σ') : m_MM_macrostep E (d + 7) σ po :=
  r_MM_macrostep (t_macs ok 31 r σ (by omega) X V hp)
theorem t_ills {σ : dx_V} (ok : q_ok c) (T : y_tree c σ) (hp : po (some (q_z (¬ q_whole c))) σ) : ∀ (f s : Nat) (b : Int32), f + s = q_n c + 1 → 1 ≤ s → b = q_z (¬ ((∃ x, q_ch c 0 x) ∧ ∀ x, 1 ≤ x → x < s → (q_kd c x = 2 ∨ ∃ y, q_kid c x y) → ∃ y, q_ch c x y)) → g_MM_ill_17 E (d + 1) po b (nI s) σ := by
  have h15 := ok.1
  intro f
  induction f with
  | zero =>
    intro s b hi s1 hb
    refine r_MM_ill_17 ?_
    rw [T.1, hb]
    simp only [i_lt, i_n (show q_n c ≤ 100000 by omega), i_n (show s ≤ 100000 by omega)]
    refine ⟨fun _ => ⟨q_z_01 _, ?_⟩, fun q => absurd (by omega) q⟩
    rw [q_z_eq (show (¬ ((∃ x, q_ch c 0 x) ∧ ∀ x, 1 ≤ x → x < s → (q_kd c x = 2 ∨ ∃ y, q_kid c x y) → ∃ y, q_ch c x y)) ↔ ¬ q_whole c from ?_)]
    · exact hp
    · refine not_congr ⟨fun z => ⟨z.1, fun x x1 x2 h => z.2 x x1 (by omega) h⟩, fun z => ⟨z.1, fun x x1 x2 h => z.2 x x1 (by omega) h⟩⟩
  | succ f ih =>
    intro s b hi s1 hb
    have hk := ok.2.2.2.2.1 s s1 (by omega)
    have ins : vp_in (nI s) 16 := i_in (by omega) (by omega)
    refine r_MM_ill_17 ?_
    rw [T.1, hb]
    simp only [i_lt, i_n (show q_n c ≤ 100000 by omega), i_n (show s ≤ 100000 by omega)]
    refine ⟨fun q => absurd q (by omega), fun _ => dx_ci1 _ _ (fun po hp => t_stChild ok T (by omega) hp) ?_⟩
    rw [i_cl (n := s) (by omega), T.2.2.1 s (by omega), i_inc s]
    have e2 : nI (q_kd c s) = 2 ↔ q_kd c s = 2 := by rw [i_eq, i_n (by omega), i_2]; omega
    have e1 : nI (q_kd c s) = 1 ↔ q_kd c s = 1 := by rw [i_eq, i_n (by omega), i_1]; omega
    rw [e2, e1]
    have bad : ((∃ x, q_ch c 0 x) ∧ (∀ x, 1 ≤ x → x < s + 1 → (q_kd c x = 2 ∨ ∃ y, q_kid c x y) → ∃ y, q_ch c x y) → False) → g_MM_ill_69 E (d + 1) po (nI s) σ := fun z => by
      refine r_MM_ill_69 ?_
      rw [i_inc s]
      exact ih (s + 1) 1 (by omega) (by omega) (q_z_t z).symm
    have good : ((∃ x, q_ch c 0 x) ∧ (∀ x, 1 ≤ x → x < s + 1 → (q_kd c x = 2 ∨ ∃ y, q_kid c x y) → ∃ y, q_ch c x y)) → g_MM_ill_17 E (d + 1) po 0 (nI (s + 1)) σ := fun z => ih (s + 1) 0 (by omega) (by omega) (q_z_f (fun y => y z)).symm
    refine q_zc (fun q => bad (fun z => q ⟨z.1, fun x x1 x2 => z.2 x x1 (by omega)⟩)) (fun q => ?_)
    have q := Classical.byContradiction q
    have ext : ((q_kd c s = 2 ∨ ∃ y, q_kid c s y) → ∃ y, q_ch c s y) → g_MM_ill_17 E (d + 1) po 0 (nI (s + 1)) σ := fun z => good ⟨q.1, fun x x1 x2 => by
      by_cases e : x = s
      · subst e; exact z
      · exact q.2 x x1 (by omega)⟩
    refine q_zc (fun q2 => ext (fun _ => q2)) (fun q2 => ⟨ins, fun q3 => bad (fun z => q2 (z.2 s s1 (by omega) (Or.inl q3))), fun q3 => ⟨ins, fun q4 => ext (fun z => ?_), fun q4 => dx_ci1 _ _ (fun po hp => t_anyChild ok T (by omega) hp) (q_zb (fun q5 => ext (fun z => absurd z (fun z => z.elim q3 q5))) (fun q5 => bad (fun z => q2 (z.2 s s1 (by omega) (Or.inr q5)))))⟩⟩)
    rcases z with z | ⟨y, z⟩
    · exact absurd z q3
    · have hky := ok.2.2.2.2.1 y z.1 z.2.1
      have : q_kd c s ≤ 2 := by rw [← z.2.2]; exact hky.2.2.2.1
      omega
theorem t_ill {σ : dx_V} (ok : q_ok c) (T : y_tree c σ) (hp : po (some (q_z (¬ q_whole c))) σ) : m_MM_ill E (d + 1) σ po := by
  refine r_MM_ill (dx_ci1 _ _ (fun po hp => t_stChild (s := 0) ok T (by omega) hp) (q_zc (fun q => ?_) (fun q => ?_)))
  · exact t_ills ok T hp (q_n c) 1 0 (by omega) (by omega) (q_z_f (fun z => z ⟨q, fun x a b => absurd b (by omega)⟩)).symm
  · exact t_ills ok T hp (q_n c) 1 1 (by omega) (by omega) (q_z_t (fun z => q z.1)).symm
end MMA
