/-! Records, events, actions of the reference. -/
def y_W : List Nat := [15, 16, 17, 18, 19, 20, 21, 22]
def y_S : List Nat := [17, 18, 19, 23, 25, 27, 30, 31]
theorem y_all_fr {c : q_C} {r r' : q_R} {σ σ' : dx_V} (X : y_all c r σ) (f : y_fr y_W y_S σ σ') (h : y_run r' σ') : y_all c r' σ' :=
  ⟨y_tree_fr X.1 f (by decide) (by decide), y_tr_fr X.2.1 f (by decide) (by decide), y_ac_fr X.2.2.1 f (by decide) (by decide), h⟩
theorem y_run_rc {r : q_R} {σ σ' : dx_V} {l : List Int32} (h : y_run r σ) (f : y_fr [22] [31] σ σ') (hl : x_line l (σ' 0 31) (σ' 22)) : y_run (q_sRc r l) σ' := by
  obtain ⟨h1, h2, h3, h4, h5, h6, h7, h8, h9, h10, h11⟩ := h
  unfold y_run
  rw [f.1 15 (by decide) (by decide), f.1 16 (by decide) (by decide), f.1 17 (by decide) (by decide), f.1 18 (by decide) (by decide), f.1 19 (by decide) (by decide), f.1 20 (by decide) (by decide), f.1 21 (by decide) (by decide), f.2 17 (by decide), f.2 18 (by decide), f.2 19 (by decide), f.2 23 (by decide), f.2 25 (by decide), f.2 27 (by decide), f.2 30 (by decide)]
  exact ⟨h1, h2, h3, h4, h5, h6, h7, h8, h9, hl, h11⟩
theorem y_run_in {r : q_R} {σ σ' : dx_V} {l : List Int32} (h : y_run r σ) (f : y_fr [18] [23] σ σ') (hl : x_line l (σ' 0 23) (σ' 18)) : y_run (q_sIn r l) σ' := by
  obtain ⟨h1, h2, h3, h4, h5, h6, h7, h8, h9, h10, h11⟩ := h
  unfold y_run
  rw [f.1 15 (by decide) (by decide), f.1 16 (by decide) (by decide), f.1 17 (by decide) (by decide), f.1 22 (by decide) (by decide), f.1 19 (by decide) (by decide), f.1 20 (by decide) (by decide), f.1 21 (by decide) (by decide), f.2 17 (by decide), f.2 18 (by decide), f.2 19 (by decide), f.2 31 (by decide), f.2 25 (by decide), f.2 27 (by decide), f.2 30 (by decide)]
  exact ⟨h1, h2, h3, h4, h5, h6, h7, hl, h9, h10, h11⟩
theorem y_run_ex {r : q_R} {σ σ' : dx_V} {l : List Int32} (h : y_run r σ) (f : y_fr [19] [25] σ σ') (hl : x_line l (σ' 0 25) (σ' 19)) : y_run (q_sEx r l) σ' := by
  obtain ⟨h1, h2, h3, h4, h5, h6, h7, h8, h9, h10, h11⟩ := h
  unfold y_run
  rw [f.1 15 (by decide) (by decide), f.1 16 (by decide) (by decide), f.1 17 (by decide) (by decide), f.1 22 (by decide) (by decide), f.1 18 (by decide) (by decide), f.1 20 (by decide) (by decide), f.1 21 (by decide) (by decide), f.2 17 (by decide), f.2 18 (by decide), f.2 19 (by decide), f.2 31 (by decide), f.2 23 (by decide), f.2 27 (by decide), f.2 30 (by decide)]
  exact ⟨h1, h2, h3, h4, h5, h6, h7, h8, hl, h10, h11⟩
theorem y_run_se {r : q_R} {σ σ' : dx_V} {l : List (Int32 × Int32)} (h : y_run r σ) (f : y_fr [20, 21] [27] σ σ') (hl : x_sent l (σ' 0 27) (σ' 20) (σ' 21)) : y_run (q_sSe r l) σ' := by
  obtain ⟨h1, h2, h3, h4, h5, h6, h7, h8, h9, h10, h11⟩ := h
  unfold y_run
  rw [f.1 15 (by decide) (by decide), f.1 16 (by decide) (by decide), f.1 17 (by decide) (by decide), f.1 22 (by decide) (by decide), f.1 18 (by decide) (by decide), f.1 19 (by decide) (by decide), f.2 17 (by decide), f.2 18 (by decide), f.2 19 (by decide), f.2 31 (by decide), f.2 23 (by decide), f.2 25 (by decide), f.2 30 (by decide)]
  exact ⟨h1, h2, h3, h4, h5, h6, h7, h8, h9, h10, hl⟩
theorem y_run_out {r : q_R} {σ : dx_V} {k : Nat} {v : Int32} (h : y_run r σ) (hv : v = nI k) (hk : k ≠ 1) : y_run (q_sOut r k) (dx_u σ 0 17 v) := by
  obtain ⟨h1, h2, h3, h4, h5, h6, h7, h8, h9, h10, h11⟩ := h
  exact ⟨by rw [dx_uk (by decide)]; exact h1, by rw [dx_uk (by decide)]; exact h2, by rw [dx_us]; exact hv, fun q => absurd q hk, h5, h6, h7, ⟨by rw [dx_uk (by decide)]; exact h8.1, h8.2⟩, ⟨by rw [dx_uk (by decide)]; exact h9.1, h9.2⟩, ⟨by rw [dx_uk (by decide)]; exact h10.1, h10.2⟩, ⟨by rw [dx_uk (by decide)]; exact h11.1, h11.2⟩⟩
theorem y_run_same {r : q_R} {σ : dx_V} {v : Int32} (h : y_run r σ) (hv : v = σ 0 17) : y_run r (dx_u σ 0 17 v) := by
  obtain ⟨h1, h2, h3, h4, h5, h6, h7, h8, h9, h10, h11⟩ := h
  exact ⟨by rw [dx_uk (by decide)]; exact h1, by rw [dx_uk (by decide)]; exact h2, by rw [dx_us, hv]; exact h3, fun q => by rw [dx_uk (by decide)]; exact h4 q, h5, h6, h7, ⟨by rw [dx_uk (by decide)]; exact h8.1, h8.2⟩, ⟨by rw [dx_uk (by decide)]; exact h9.1, h9.2⟩, ⟨by rw [dx_uk (by decide)]; exact h10.1, h10.2⟩, ⟨by rw [dx_uk (by decide)]; exact h11.1, h11.2⟩⟩
theorem y_run_var {r : q_R} {σ : dx_V} {j : Nat} {v : Int32} (h : y_run r σ) : y_run (q_sVar r (upd (q_var r) j v)) (dx_u σ 17 j v) := by
  obtain ⟨h1, h2, h3, h4, h5, h6, h7, h8, h9, h10, h11⟩ := h
  refine ⟨h1, h2, h3, h4, h5, fun i hi => ?_, h7, h8, h9, h10, h11⟩
  show dx_u σ 17 j v 17 i = upd (q_var r) j v i
  by_cases hij : i = j
  · subst hij; rw [dx_us]; simp [upd]
  · rw [dx_uk hij, h6 i hi]; simp [upd, hij]
/-- a run that goes on, or has failed for want of room -/
def q_lv (r : q_R) : Prop := q_out r = 1 ∨ q_out r = 4
theorem lv_w {r : q_R} {x : Int32} (h : q_lv r) : q_lv (q_write x r) := by
  unfold q_write; split
  · exact Or.inr rfl
  · exact h
theorem lv_ra {r : q_R} {x : Int32} (h : q_lv r) : q_lv (q_raise x r) := by
  unfold q_raise; split
  · exact Or.inr rfl
  · exact h
theorem lv_se {r : q_R} {x y : Int32} (h : q_lv r) : q_lv (q_send x y r) := by
  unfold q_send; split
  · split
    · exact Or.inr rfl
    · exact h
  · split
    · exact Or.inr rfl
    · exact h
theorem lv_do {r : q_R} {op : Nat} {a b : Int32} (h : q_lv r) : q_lv (q_do op a b r) := by
  unfold q_do; split
  · exact h
  · split
    · exact h
    · split
      · exact lv_ra h
      · exact lv_se h
theorem lv_act1 {c : q_C} {r : q_R} {who : Int32} {i : Nat} (h : q_lv r) : q_lv (q_act1 c who i r) := by
  unfold q_act1; split
  · exact lv_do h
  · exact h
theorem lv_act {c : q_C} {r : q_R} {who : Int32} (h : q_lv r) : q_lv (q_act c who r) := it_keep (P := q_lv) (fun _ _ h => lv_act1 h) _ _ _ h
/-- one more at the end of a line, the count in a slot of the object -/
theorem y_app {l : List Int32} {σ : dx_V} {k j : Nat} {a : Int32} (hl : x_line l (σ 0 j) (σ k)) (k0 : k ≠ 0) : x_line (l ++ [a]) ((dx_u (dx_u σ k l.length a) 0 j (nI (l.length + 1))) 0 j) ((dx_u (dx_u σ k l.length a) 0 j (nI (l.length + 1))) k) := by
  refine ⟨by rw [dx_us, List.length_append]; rfl, fun i v hi => ?_⟩
  rw [dx_un k0]
  by_cases h2 : i = l.length
  · subst h2
    rw [dx_us]
    rw [List.getElem?_append_right (Nat.le_refl _), Nat.sub_self] at hi
    cases hi
    rfl
  · have h3 : i < l.length := by
      have := (List.getElem?_eq_some_iff.mp hi).1
      rw [List.length_append] at this
      simp only [List.length_cons, List.length_nil] at this
      omega
    rw [dx_uk h2]
    rw [List.getElem?_append_left h3] at hi
    exact hl.2 i v hi
section MA
variable {E : dx_E} {d : Nat} {po : dx_P} {c : q_C} {r : q_R} {σ : dx_V}
theorem t_failed (X : y_run r σ) (K : q_rok c r) (hp : po (some (q_z (2 < q_out r))) σ) : m_MM_failed E d σ po := by
  have := K.2.2.2.2.2.2
  refine r_MM_failed ?_
  rw [X.2.2.1]
  simp only [i_le, i_2, i_n (show q_out r ≤ 100000 by omega)]
  exact ⟨fun q => q_p0 hp (by omega), fun q => q_p1 hp (by omega)⟩
theorem t_write {x : Int32} (X : y_run r σ) (K : q_rok c r) (hp : ∀ σ' : dx_V, y_run (q_write x r) σ' → y_fr y_W y_S σ σ' → po none σ') : m_MM_write E d x σ po := by
  have h200 := K.2.2.2.1
  have hl := X.2.2.2.2.2.2.2.2.2.1
  refine r_MM_write ?_
  rw [hl.1, i_cl (by omega), i_inc]
  unfold q_write at hp
  have e : nI (q_rc r).length = 200 ↔ (q_rc r).length = 200 := by rw [i_eq, i_n (by omega), i_200]; omega
  rw [e]
  refine ⟨fun q => ⟨i_in (by omega) (by omega), ?_⟩, fun q => ?_⟩
  · rw [if_neg q] at hp
    have f : y_fr [22] [31] σ (dx_u (dx_u σ 22 (q_rc r).length x) 0 31 (nI ((q_rc r).length + 1))) := y_fr_s (y_fr_a y_fr_rf (by decide) (by decide)) (by decide)
    exact hp _ (y_run_rc X f (y_app hl (by decide))) (y_fr_w f (by decide) (by decide))
  · rw [if_pos q] at hp
    exact hp _ (y_run_out X rfl (by decide)) (y_fr_s y_fr_rf (by decide))
theorem t_raise {x : Int32} (X : y_run r σ) (K : q_rok c r) (hp : ∀ σ' : dx_V, y_run (q_raise x r) σ' → y_fr y_W y_S σ σ' → po none σ') : m_MM_raise E d x σ po := by
  have h16 := K.2.1
  have hl := X.2.2.2.2.2.2.2.1
  refine r_MM_raise ?_
  rw [hl.1, i_cl (by omega), i_inc]
  unfold q_raise at hp
  have e : nI (q_in r).length = 16 ↔ (q_in r).length = 16 := by rw [i_eq, i_n (by omega), i_16]; omega
  rw [e]
  refine ⟨fun q => ⟨i_in (by omega) (by omega), ?_⟩, fun q => ?_⟩
  · rw [if_neg q] at hp
    have f : y_fr [18] [23] σ (dx_u (dx_u σ 18 (q_in r).length x) 0 23 (nI ((q_in r).length + 1))) := y_fr_s (y_fr_a y_fr_rf (by decide) (by decide)) (by decide)
    exact hp _ (y_run_in X f (y_app hl (by decide))) (y_fr_w f (by decide) (by decide))
  · rw [if_pos q] at hp
    exact hp _ (y_run_out X rfl (by decide)) (y_fr_s y_fr_rf (by decide))
theorem t_queue {x : Int32} (X : y_run r σ) (K : q_rok c r) (hf : (q_ex r).length = 16 → po (some 0) σ) (hp : (q_ex r).length < 16 → ∀ σ' : dx_V, y_run (q_sEx r (q_ex r ++ [x])) σ' → y_fr [19] [25] σ σ' → po (some 1) σ') : m_MM_queue E d x σ po := by
  have h16 := K.2.2.1
  have hl := X.2.2.2.2.2.2.2.2.1
  refine r_MM_queue ?_
  rw [hl.1, i_cl (by omega), i_inc]
  have e : nI (q_ex r).length = 16 ↔ (q_ex r).length = 16 := by rw [i_eq, i_n (by omega), i_16]; omega
  rw [e]
  refine ⟨fun q => ⟨i_in (by omega) (by omega), ?_⟩, fun q => hf q⟩
  have f : y_fr [19] [25] σ (dx_u (dx_u σ 19 (q_ex r).length x) 0 25 (nI ((q_ex r).length + 1))) := y_fr_s (y_fr_a y_fr_rf (by decide) (by decide)) (by decide)
  exact hp (by omega) _ (y_run_ex X f (y_app hl (by decide))) f
theorem t_send {x y : Int32} (X : y_run r σ) (K : q_rok c r) (hp : ∀ σ' : dx_V, y_run (q_send x y r) σ' → y_fr y_W y_S σ σ' → po none σ') : m_MM_send E (d + 1) x y σ po := by
  have h12 := K.2.2.2.2.1
  have hl := X.2.2.2.2.2.2.2.2.2.2
  refine r_MM_send ?_
  rw [hl.1, i_cl (by omega), i_inc, X.1]
  unfold q_send at hp
  have e : nI (q_se r).length = 12 ↔ (q_se r).length = 12 := by rw [i_eq, i_n (by omega), i_12]; omega
  rw [e]
  refine ⟨fun q => ?_, fun q => ?_⟩
  · rw [if_neg q] at hp
    refine ⟨fun q2 => ⟨i_in (by omega) (by omega), i_in (by omega) (by omega), ?_⟩, fun q2 => ?_⟩
    · rw [if_neg q2] at hp
      have f : y_fr [20, 21] [27] σ (dx_u (dx_u (dx_u σ 20 (q_se r).length x) 21 (q_se r).length (q_ck r + y)) 0 27 (nI ((q_se r).length + 1))) := y_fr_s (y_fr_a (y_fr_a y_fr_rf (by decide) (by decide)) (by decide) (by decide)) (by decide)
      refine hp _ (y_run_se X f ⟨by rw [dx_us, List.length_append]; rfl, fun i v hi => ?_⟩) (y_fr_w f (by decide) (by decide))
      rw [dx_un (by decide), dx_un (by decide), dx_un (k := 0) (by decide)]
      by_cases h2 : i = (q_se r).length
      · subst h2
        rw [dx_us, dx_us]
        rw [List.getElem?_append_right (Nat.le_refl _), Nat.sub_self] at hi
        cases hi
        exact ⟨rfl, rfl⟩
      · have h3 : i < (q_se r).length := by
          have := (List.getElem?_eq_some_iff.mp hi).1
          rw [List.length_append] at this
          simp only [List.length_cons, List.length_nil] at this
          omega
        rw [dx_uk h2, dx_uk h2, dx_un (by decide)]
        rw [List.getElem?_append_left h3] at hi
        exact hl.2 i v hi
    · rw [if_pos q2] at hp
      exact hp _ (y_run_out X rfl (by decide)) (y_fr_s y_fr_rf (by decide))
  · rw [if_pos q] at hp
    refine dx_ciR (fun v σ1 => ((q_ex r).length = 16 ∧ v = 0 ∧ σ1 = σ) ∨ ((q_ex r).length < 16 ∧ v = 1 ∧ y_run (q_sEx r (q_ex r ++ [x])) σ1 ∧ y_fr [19] [25] σ σ1)) (fun po hpo => t_queue X K (fun q => hpo 0 σ (Or.inl ⟨q, rfl, rfl⟩)) (fun q σ' q1 q2 => hpo 1 σ' (Or.inr ⟨q, rfl, q1, q2⟩))) ?_
    rintro v σ1 (⟨q1, rfl, rfl⟩ | ⟨q1, rfl, q2, q3⟩)
    · rw [if_pos q1] at hp
      exact ⟨fun _ => r_MM_send_21 (hp _ (y_run_out X rfl (by decide)) (y_fr_s y_fr_rf (by decide))), fun z => absurd rfl z⟩
    · rw [if_neg (by omega)] at hp
      exact ⟨fun z => absurd z (by decide), fun _ => r_MM_send_21 (hp _ (y_run_same q2 rfl) (y_fr_s (y_fr_w q3 (by decide) (by decide)) (by decide)))⟩
end MA
section MB
variable {E : dx_E} {d : Nat} {po : dx_P} {c : q_C}
theorem t_acts {who : Int32} (ok : q_ok c) : ∀ (f i : Nat) (r : q_R) (σ : dx_V), f + i = q_na c → y_all c r σ → q_rok c r → q_lv r → (∀ σ' : dx_V, y_run (q_it (q_act1 c who) f i r) σ' → y_fr y_W y_S σ σ' → po none σ') → g_MM_act_2 E (d + 2) po who (nI i) σ := by
  have h32 := ok.2.2.1
  intro f
  induction f with
  | zero =>
    intro i r σ hi X K lv hp
    refine r_MM_act_2 ?_
    rw [X.2.2.1.1]
    simp only [i_le, i_n (show q_na c ≤ 100000 by omega), i_n (show i ≤ 100000 by omega)]
    exact ⟨fun _ => hp σ X.2.2.2 y_fr_rf, fun h => absurd h (by omega)⟩
  | succ f ih =>
    intro i r σ hi X K lv hp
    obtain ⟨a1, a2, a3, a4⟩ := X.2.2.1.2 i (by omega)
    obtain ⟨o1, o2⟩ := ok.2.2.2.2.2.2.2 i (by omega)
    have hin : vp_in (nI i) 32 := i_in (by omega) (by omega)
    refine r_MM_act_2 ?_
    rw [X.2.2.1.1]
    simp only [i_le, i_n (show q_na c ≤ 100000 by omega), i_n (show i ≤ 100000 by omega)]
    refine ⟨fun h => absurd h (by omega), fun _ => dx_ci1 _ _ (fun po hp => t_failed X.2.2.2 K hp) (q_zc (fun h => ?_) (fun h => ⟨hin, ?_⟩))⟩
    · refine hp σ ?_ y_fr_rf
      rw [q_it_stop q_act1_stop _ _ _ (by omega)]
      exact X.2.2.2
    · have ho : q_out r = 1 := lv.resolve_right (by omega)
      rw [i_cl (by omega), a1, a2, a3, a4, i_inc]
      have hp2 : ∀ σ' : dx_V, y_run (q_it (q_act1 c who) f (i + 1) (q_act1 c who i r)) σ' → y_fr y_W y_S σ σ' → po none σ' := hp
      have e0 : nI (q_op c i) = 0 ↔ q_op c i = 0 := by rw [i_eq, i_n (by omega), i_0]; omega
      have e1 : nI (q_op c i) = 1 ↔ q_op c i = 1 := by rw [i_eq, i_n (by omega), i_1]; omega
      have e2 : nI (q_op c i) = 2 ↔ q_op c i = 2 := by rw [i_eq, i_n (by omega), i_2]; omega
      rw [e0, e1, e2]
      refine ⟨fun hw => ?_, fun hw => ⟨hin, fun q0 => ⟨hin, fun q1 => ⟨hin, fun q2 => ⟨hin, hin, ?_⟩, fun q2 => ⟨hin, ?_⟩⟩, fun q1 => ⟨hin, ?_⟩⟩, fun q0 => ⟨hin, hin, ?_⟩⟩⟩
      · have : q_act1 c who i r = r := by unfold q_act1; rw [if_neg (fun q => hw q.2)]
        rw [this] at hp2
        exact ih (i + 1) r σ (by omega) X K lv hp2
      all_goals
        have ea : q_act1 c who i r = q_do (q_op c i) (q_a c i) (q_b c i) r := by unfold q_act1; rw [if_pos ⟨ho, hw⟩]
        rw [ea] at hp2
      · have ed : q_do (q_op c i) (q_a c i) (q_b c i) r = q_send (q_a c i) (q_b c i) r := by unfold q_do; rw [if_neg q0, if_neg q1, if_neg q2]
        rw [ed] at hp2
        refine dx_cuR (fun σ1 => y_run (q_send (q_a c i) (q_b c i) r) σ1 ∧ y_fr y_W y_S σ σ1) (fun po hpo => t_send X.2.2.2 K (fun σ' z1 z2 => hpo σ' ⟨z1, z2⟩)) ?_
        rintro σ1 ⟨z1, z2⟩
        exact ih (i + 1) _ σ1 (by omega) (y_all_fr X z2 z1) (k_send K) (lv_se lv) (fun σ' y1 y2 => hp2 σ' y1 (y_fr_t z2 y2))
      · have ed : q_do (q_op c i) (q_a c i) (q_b c i) r = q_raise (q_a c i) r := by unfold q_do; rw [if_neg q0, if_neg q1, if_pos q2]
        rw [ed] at hp2
        refine dx_cuR (fun σ1 => y_run (q_raise (q_a c i) r) σ1 ∧ y_fr y_W y_S σ σ1) (fun po hpo => t_raise X.2.2.2 K (fun σ' z1 z2 => hpo σ' ⟨z1, z2⟩)) ?_
        rintro σ1 ⟨z1, z2⟩
        exact ih (i + 1) _ σ1 (by omega) (y_all_fr X z2 z1) (k_raise K) (lv_ra lv) (fun σ' y1 y2 => hp2 σ' y1 (y_fr_t z2 y2))
      · obtain ⟨v, hv, ev⟩ := o1 (by omega)
        rw [ev, i_cl (n := v) (by omega), X.2.2.2.2.2.2.2.2.1 v (by omega)]
        have ed : q_do (q_op c i) (q_a c i) (q_b c i) r = q_sVar r (upd (q_var r) v (q_var r v + q_b c i)) := by unfold q_do; rw [if_neg q0, if_pos q1, ev, i_cl (n := v) (by omega)]
        rw [ed] at hp2
        have hv2 : vp_in (nI v) 4 := i_in (by omega) (by omega)
        have f2 : y_fr y_W y_S σ (dx_u σ 17 v (q_var r v + q_b c i)) := y_fr_a y_fr_rf (by decide) (by decide)
        exact ⟨hv2, hin, hv2, ih (i + 1) _ _ (by omega) (y_all_fr X f2 (y_run_var X.2.2.2)) K lv (fun σ' y1 y2 => hp2 σ' y1 (y_fr_t f2 y2))⟩
      · obtain ⟨v, hv, ev⟩ := o1 (by omega)
        rw [ev, i_cl (n := v) (by omega)]
        have ed : q_do (q_op c i) (q_a c i) (q_b c i) r = q_sVar r (upd (q_var r) v (q_b c i)) := by unfold q_do; rw [if_pos q0, ev, i_cl (n := v) (by omega)]
        rw [ed] at hp2
        have f2 : y_fr y_W y_S σ (dx_u σ 17 v (q_b c i)) := y_fr_a y_fr_rf (by decide) (by decide)
        exact ⟨i_in (by omega) (by omega), ih (i + 1) _ _ (by omega) (y_all_fr X f2 (y_run_var X.2.2.2)) K lv (fun σ' y1 y2 => hp2 σ' y1 (y_fr_t f2 y2))⟩
theorem t_act {who : Int32} {r : q_R} {σ : dx_V} (ok : q_ok c) (X : y_all c r σ) (K : q_rok c r) (lv : q_lv r) (hp : ∀ σ' : dx_V, y_run (q_act c who r) σ' → y_fr y_W y_S σ σ' → po none σ') : m_MM_act E (d + 2) who σ po :=
  r_MM_act (t_acts ok (q_na c) 0 r σ (by omega) X K lv hp)
end MB
