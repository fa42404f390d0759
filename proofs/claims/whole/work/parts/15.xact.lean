/-! Records, events, actions of the class. -/
def x_W : List Nat := [4, 5, 7, 8, 9, 10, 28, 29, 32, 33, 34, 35, 36]
theorem x_all_fr {c : q_C} {r r' : q_R} {σ σ' : dx_V} (X : x_all c r σ) (f : x_fr x_W σ σ') (h : x_run r' σ') : x_all c r' σ' :=
  ⟨x_tree_fr X.1 f (by decide), x_tr_fr X.2.1 f (by decide), x_ac_fr X.2.2.1 f (by decide), h⟩
theorem x_run_l7 {r : q_R} {σ σ' : dx_V} {l : List Int32} (h : x_run r σ) (f : x_fr [7, 32] σ σ') (hl : x_line l (σ' 7 1) (σ' 32)) : x_run (q_sIn r l) σ' := by
  obtain ⟨h1, h2, h3, h4, h5, h6, h7, h8, h9, h10, h11⟩ := h
  have e4 := f 4 (by decide); have e5 := f 5 (by decide); have e28 := f 28 (by decide); have e29 := f 29 (by decide); have e8 := f 8 (by decide); have e33 := f 33 (by decide); have e9 := f 9 (by decide); have e34 := f 34 (by decide); have e10 := f 10 (by decide); have e35 := f 35 (by decide); have e36 := f 36 (by decide)
  unfold x_run
  rw [e4, e5, e28, e29, e8, e33, e9, e34, e10, e35, e36]
  exact ⟨h1, h2, h3, h4, h5, h6, h7, hl, h9, h10, h11⟩
theorem x_run_l8 {r : q_R} {σ σ' : dx_V} {l : List Int32} (h : x_run r σ) (f : x_fr [8, 33] σ σ') (hl : x_line l (σ' 8 1) (σ' 33)) : x_run (q_sEx r l) σ' := by
  obtain ⟨h1, h2, h3, h4, h5, h6, h7, h8, h9, h10, h11⟩ := h
  have e4 := f 4 (by decide); have e5 := f 5 (by decide); have e28 := f 28 (by decide); have e29 := f 29 (by decide); have e7 := f 7 (by decide); have e32 := f 32 (by decide); have e9 := f 9 (by decide); have e34 := f 34 (by decide); have e10 := f 10 (by decide); have e35 := f 35 (by decide); have e36 := f 36 (by decide)
  unfold x_run
  rw [e4, e5, e28, e29, e7, e32, e9, e34, e10, e35, e36]
  exact ⟨h1, h2, h3, h4, h5, h6, h7, h8, hl, h10, h11⟩
theorem x_run_l9 {r : q_R} {σ σ' : dx_V} {l : List Int32} (h : x_run r σ) (f : x_fr [9, 34] σ σ') (hl : x_line l (σ' 9 1) (σ' 34)) : x_run (q_sRc r l) σ' := by
  obtain ⟨h1, h2, h3, h4, h5, h6, h7, h8, h9, h10, h11⟩ := h
  have e4 := f 4 (by decide); have e5 := f 5 (by decide); have e28 := f 28 (by decide); have e29 := f 29 (by decide); have e7 := f 7 (by decide); have e32 := f 32 (by decide); have e8 := f 8 (by decide); have e33 := f 33 (by decide); have e10 := f 10 (by decide); have e35 := f 35 (by decide); have e36 := f 36 (by decide)
  unfold x_run
  rw [e4, e5, e28, e29, e7, e32, e8, e33, e10, e35, e36]
  exact ⟨h1, h2, h3, h4, h5, h6, h7, h8, h9, hl, h11⟩
theorem x_run_l10 {r : q_R} {σ σ' : dx_V} {l : List (Int32 × Int32)} (h : x_run r σ) (f : x_fr [10, 35, 36] σ σ') (hl : x_sent l (σ' 10 2) (σ' 35) (σ' 36)) : x_run (q_sSe r l) σ' := by
  obtain ⟨h1, h2, h3, h4, h5, h6, h7, h8, h9, h10, h11⟩ := h
  have e4 := f 4 (by decide); have e5 := f 5 (by decide); have e28 := f 28 (by decide); have e29 := f 29 (by decide); have e7 := f 7 (by decide); have e32 := f 32 (by decide); have e8 := f 8 (by decide); have e33 := f 33 (by decide); have e9 := f 9 (by decide); have e34 := f 34 (by decide)
  unfold x_run
  rw [e4, e5, e28, e29, e7, e32, e8, e33, e9, e34]
  exact ⟨h1, h2, h3, h4, h5, h6, h7, h8, h9, h10, hl⟩
theorem x_run_out {r : q_R} {σ : dx_V} {k : Nat} {v : Int32} (h : x_run r σ) (hv : v = nI k) (hk : k ≠ 1) : x_run (q_sOut r k) (dx_u σ 4 12 v) := by
  obtain ⟨h1, h2, h3, h4, h5, h6, h7, h8, h9, h10, h11⟩ := h
  exact ⟨by rw [dx_uk (by decide)]; exact h1, by rw [dx_uk (by decide)]; exact h2, by rw [dx_us]; exact hv, fun q => absurd q hk, h5, h6, h7, h8, h9, h10, h11⟩
theorem x_run_var {r : q_R} {σ : dx_V} {j : Nat} {v : Int32} (h : x_run r σ) : x_run (q_sVar r (upd (q_var r) j v)) (dx_u σ 29 j v) := by
  obtain ⟨h1, h2, h3, h4, h5, h6, h7, h8, h9, h10, h11⟩ := h
  refine ⟨h1, h2, h3, h4, h5, fun i hi => ?_, h7, h8, h9, h10, h11⟩
  show dx_u σ 29 j v 29 i = upd (q_var r) j v i
  by_cases hij : i = j
  · subst hij; rw [dx_us]; simp [upd]
  · rw [dx_uk hij, h6 i hi]; simp [upd, hij]
theorem x_W7 : ∀ k, k ∈ ([7, 32] : List Nat) → k ∈ x_W := by decide
theorem x_W8 : ∀ k, k ∈ ([8, 33] : List Nat) → k ∈ x_W := by decide
theorem x_W9 : ∀ k, k ∈ ([9, 34] : List Nat) → k ∈ x_W := by decide
theorem x_W10 : ∀ k, k ∈ ([10, 35, 36] : List Nat) → k ∈ x_W := by decide
theorem x_fr_w {W W' : List Nat} {σ σ' : dx_V} (h : x_fr W σ σ') (hs : ∀ k, k ∈ W → k ∈ W') : x_fr W' σ σ' := fun k hk => h k (fun q => hk (hs k q))
section XA
variable {E : dx_E} {d : Nat} {σ : dx_V} {po : dx_P} {c : q_C} {r : q_R}
theorem s_SV_put {a b : Int32} {l : List (Int32 × Int32)} (hl : x_sent l (σ 10 2) (σ 35) (σ 36)) (hc : l.length ≤ 12) (hf : l.length = 12 → po (some 0) σ) (hp : l.length < 12 → ∀ σ' : dx_V, x_sent (l ++ [(a, b)]) (σ' 10 2) (σ' 35) (σ' 36) → x_fr [10, 35, 36] σ σ' → po (some 1) σ') : m_SV_put E d a b σ po := by
  refine r_SV_put ?_
  rw [hl.1, i_cl (by omega)]
  simp only [i_eq (x := nI _), i_n (show l.length ≤ 100000 by omega), i_12]
  refine ⟨fun h => ⟨i_in (by omega) (by omega), i_in (by omega) (by omega), hp (by omega) _ ⟨?_, ?_⟩ ?_⟩, fun h => hf (by omega)⟩
  · rw [dx_us, i_inc, List.length_append]; rfl
  · intro i v hi
    rw [dx_un (by decide), dx_un (by decide), dx_un (k := 10) (by decide)]
    by_cases h2 : i = l.length
    · subst h2
      rw [dx_us, dx_us]
      rw [List.getElem?_append_right (Nat.le_refl _), Nat.sub_self] at hi
      cases hi
      exact ⟨rfl, rfl⟩
    · have h3 : i < l.length := by
        have := (List.getElem?_eq_some_iff.mp hi).1
        rw [List.length_append] at this
        simp only [List.length_cons, List.length_nil] at this
        omega
      rw [dx_uk h2, dx_uk h2, dx_un (by decide)]
      rw [List.getElem?_append_left h3] at hi
      exact hl.2 i v hi
  · exact x_fr_u (x_fr_u (x_fr_u x_fr_rf (by decide)) (by decide)) (by decide)
theorem x_go (X : x_run r σ) (K : q_rok c r) : σ 4 12 = 1 ↔ q_out r = 1 := by
  have := K.2.2.2.2.2.2
  rw [X.2.2.1, i_eq, i_n (by omega), i_1]
  omega
theorem s_RU_failUnless {x : Int32} (hp : po none (if x = 0 then dx_u σ 4 12 4 else σ)) : m_RU_failUnless E d x σ po := by
  refine r_RU_failUnless ⟨fun h => ?_, fun h => ?_⟩
  · rw [if_neg h] at hp; exact hp
  · rw [if_pos h] at hp; exact hp
theorem s_RU_putRecord {x : Int32} (X : x_run r σ) (K : q_rok c r) (hp : ∀ σ' : dx_V, x_run (if q_out r = 1 then q_write x r else r) σ' → x_fr x_W σ σ' → po none σ') : m_RU_putRecord E (d + 1) x σ po := by
  have hg := x_go X K
  refine r_RU_putRecord (dx_ci1 _ _ (fun po hp => s_RU_isGoingOn hp) (q_zb (fun h => ?_) (fun h => ?_)))
  · rw [if_neg (fun q => h (hg.mpr q))] at hp
    exact hp σ X x_fr_rf
  · rw [if_pos (hg.mp h)] at hp
    unfold q_write at hp
    refine dx_ciR (fun v σ1 => ((q_rc r).length = 200 ∧ v = 0 ∧ σ1 = σ) ∨ ((q_rc r).length < 200 ∧ v = 1 ∧ x_line (q_rc r ++ [x]) (σ1 9 1) (σ1 34) ∧ x_fr [9, 34] σ σ1)) (fun po hpo => s_LN_put_9 X.2.2.2.2.2.2.2.2.2.1 K.2.2.2.1 (fun q => hpo 0 σ (Or.inl ⟨q, rfl, rfl⟩)) (fun q σ' q1 q2 => hpo 1 σ' (Or.inr ⟨q, rfl, q1, q2⟩))) ?_
    rintro v σ1 (⟨q1, rfl, rfl⟩ | ⟨q1, rfl, q2, q3⟩)
    · rw [if_pos q1] at hp
      exact dx_cu1 _ (fun po hp => s_RU_failUnless hp) (hp _ (x_run_out X rfl (by decide)) (x_fr_u x_fr_rf (by decide)))
    · rw [if_neg (by omega)] at hp
      exact dx_cu1 _ (fun po hp => s_RU_failUnless hp) (hp _ (x_run_l9 X q3 q2) (x_fr_w q3 x_W9))
theorem s_RU_putInternal {x : Int32} (X : x_run r σ) (K : q_rok c r) (hp : ∀ σ' : dx_V, x_run (if q_out r = 1 then q_raise x r else r) σ' → x_fr x_W σ σ' → po none σ') : m_RU_putInternal E (d + 1) x σ po := by
  have hg := x_go X K
  refine r_RU_putInternal (dx_ci1 _ _ (fun po hp => s_RU_isGoingOn hp) (q_zb (fun h => ?_) (fun h => ?_)))
  · rw [if_neg (fun q => h (hg.mpr q))] at hp
    exact hp σ X x_fr_rf
  · rw [if_pos (hg.mp h)] at hp
    unfold q_raise at hp
    refine dx_ciR (fun v σ1 => ((q_in r).length = 16 ∧ v = 0 ∧ σ1 = σ) ∨ ((q_in r).length < 16 ∧ v = 1 ∧ x_line (q_in r ++ [x]) (σ1 7 1) (σ1 32) ∧ x_fr [7, 32] σ σ1)) (fun po hpo => s_LN_put_7 X.2.2.2.2.2.2.2.1 K.2.1 (fun q => hpo 0 σ (Or.inl ⟨q, rfl, rfl⟩)) (fun q σ' q1 q2 => hpo 1 σ' (Or.inr ⟨q, rfl, q1, q2⟩))) ?_
    rintro v σ1 (⟨q1, rfl, rfl⟩ | ⟨q1, rfl, q2, q3⟩)
    · rw [if_pos q1] at hp
      exact dx_cu1 _ (fun po hp => s_RU_failUnless hp) (hp _ (x_run_out X rfl (by decide)) (x_fr_u x_fr_rf (by decide)))
    · rw [if_neg (by omega)] at hp
      exact dx_cu1 _ (fun po hp => s_RU_failUnless hp) (hp _ (x_run_l7 X q3 q2) (x_fr_w q3 x_W7))
theorem s_RU_doAction {op : Nat} {a b : Int32} (X : x_run r σ) (K : q_rok c r) (ho : op ≤ 3) (ha : op ≤ 1 → ∃ v, v ≤ 3 ∧ a = nI v) (hp : ∀ σ' : dx_V, x_run (q_do op a b r) σ' → x_fr x_W σ σ' → po none σ') : m_RU_doAction E (d + 1) (nI op) a b σ po := by
  have e0 : nI op = 0 ↔ op = 0 := by rw [i_eq, i_n (by omega), i_0]; omega
  have e1 : nI op = 1 ↔ op = 1 := by rw [i_eq, i_n (by omega), i_1]; omega
  have e2 : nI op = 2 ↔ op = 2 := by rw [i_eq, i_n (by omega), i_2]; omega
  unfold q_do at hp
  refine r_RU_doAction ⟨fun h => ?_, fun h => ?_, fun h => ?_, fun h => ?_⟩
  · have h := e0.mp h
    rw [if_pos h] at hp
    obtain ⟨v, hv, rfl⟩ := ha (by omega)
    exact ⟨i_in (by omega) (by omega), hp _ (x_run_var X) (x_fr_u x_fr_rf (by decide))⟩
  · have h := e1.mp h
    rw [if_neg (by omega), if_pos h] at hp
    obtain ⟨v, hv, rfl⟩ := ha (by omega)
    refine ⟨i_in (by omega) (by omega), i_in (by omega) (by omega), ?_⟩
    rw [i_cl (by omega)] at hp ⊢
    rw [X.2.2.2.2.2.1 v (by omega)]
    exact hp _ (x_run_var X) (x_fr_u x_fr_rf (by decide))
  · have h := e2.mp h
    rw [if_neg (by omega), if_neg (by omega), if_pos h] at hp
    unfold q_raise at hp
    refine dx_ciR (fun v σ1 => ((q_in r).length = 16 ∧ v = 0 ∧ σ1 = σ) ∨ ((q_in r).length < 16 ∧ v = 1 ∧ x_line (q_in r ++ [a]) (σ1 7 1) (σ1 32) ∧ x_fr [7, 32] σ σ1)) (fun po hpo => s_LN_put_7 X.2.2.2.2.2.2.2.1 K.2.1 (fun q => hpo 0 σ (Or.inl ⟨q, rfl, rfl⟩)) (fun q σ' q1 q2 => hpo 1 σ' (Or.inr ⟨q, rfl, q1, q2⟩))) ?_
    rintro v σ1 (⟨q1, rfl, rfl⟩ | ⟨q1, rfl, q2, q3⟩)
    · rw [if_pos q1] at hp
      exact dx_cu1 _ (fun po hp => s_RU_failUnless hp) (hp _ (x_run_out X rfl (by decide)) (x_fr_u x_fr_rf (by decide)))
    · rw [if_neg (by omega)] at hp
      exact dx_cu1 _ (fun po hp => s_RU_failUnless hp) (hp _ (x_run_l7 X q3 q2) (x_fr_w q3 x_W7))
  · rw [if_neg (fun q => h.1 (e0.mpr q)), if_neg (fun q => h.2.1 (e1.mpr q)), if_neg (fun q => h.2.2 (e2.mpr q))] at hp
    unfold q_send at hp
    refine ⟨fun hb => ?_, fun hb => ?_⟩
    · rw [if_neg hb] at hp
      rw [X.1]
      refine dx_ciR (fun v σ1 => ((q_se r).length = 12 ∧ v = 0 ∧ σ1 = σ) ∨ ((q_se r).length < 12 ∧ v = 1 ∧ x_sent (q_se r ++ [(a, q_ck r + b)]) (σ1 10 2) (σ1 35) (σ1 36) ∧ x_fr [10, 35, 36] σ σ1)) (fun po hpo => s_SV_put X.2.2.2.2.2.2.2.2.2.2 K.2.2.2.2.1 (fun q => hpo 0 σ (Or.inl ⟨q, rfl, rfl⟩)) (fun q σ' q1 q2 => hpo 1 σ' (Or.inr ⟨q, rfl, q1, q2⟩))) ?_
      rintro v σ1 (⟨q1, rfl, rfl⟩ | ⟨q1, rfl, q2, q3⟩)
      · rw [if_pos q1] at hp
        exact r_RU_doAction_102 (dx_cu1 _ (fun po hp => s_RU_failUnless hp) (hp _ (x_run_out X rfl (by decide)) (x_fr_u x_fr_rf (by decide))))
      · rw [if_neg (by omega)] at hp
        exact r_RU_doAction_102 (dx_cu1 _ (fun po hp => s_RU_failUnless hp) (hp _ (x_run_l10 X q3 q2) (x_fr_w q3 x_W10)))
    · rw [if_pos hb] at hp
      refine dx_ciR (fun v σ1 => ((q_ex r).length = 16 ∧ v = 0 ∧ σ1 = σ) ∨ ((q_ex r).length < 16 ∧ v = 1 ∧ x_line (q_ex r ++ [a]) (σ1 8 1) (σ1 33) ∧ x_fr [8, 33] σ σ1)) (fun po hpo => s_LN_put_8 X.2.2.2.2.2.2.2.2.1 K.2.2.1 (fun q => hpo 0 σ (Or.inl ⟨q, rfl, rfl⟩)) (fun q σ' q1 q2 => hpo 1 σ' (Or.inr ⟨q, rfl, q1, q2⟩))) ?_
      rintro v σ1 (⟨q1, rfl, rfl⟩ | ⟨q1, rfl, q2, q3⟩)
      · rw [if_pos q1] at hp
        exact r_RU_doAction_102 (dx_cu1 _ (fun po hp => s_RU_failUnless hp) (hp _ (x_run_out X rfl (by decide)) (x_fr_u x_fr_rf (by decide))))
      · rw [if_neg (by omega)] at hp
        exact r_RU_doAction_102 (dx_cu1 _ (fun po hp => s_RU_failUnless hp) (hp _ (x_run_l8 X q3 q2) (x_fr_w q3 x_W8)))
end XA
-- what a run keeps is kept
theorem k_fail {c : q_C} {r : q_R} (K : q_rok c r) : q_rok c (q_fail r) := ⟨K.1, K.2.1, K.2.2.1, K.2.2.2.1, K.2.2.2.2.1, K.2.2.2.2.2.1, Nat.le_refl 4⟩
theorem k_write {c : q_C} {r : q_R} {x : Int32} (K : q_rok c r) : q_rok c (q_write x r) := by
  unfold q_write
  split
  · exact k_fail K
  · refine ⟨K.1, K.2.1, K.2.2.1, ?_, K.2.2.2.2.1, K.2.2.2.2.2.1, K.2.2.2.2.2.2⟩
    show (q_rc r ++ [x]).length ≤ 200
    have := K.2.2.2.1
    rw [List.length_append, List.length_singleton]; omega
theorem k_raise {c : q_C} {r : q_R} {x : Int32} (K : q_rok c r) : q_rok c (q_raise x r) := by
  unfold q_raise
  split
  · exact k_fail K
  · refine ⟨K.1, ?_, K.2.2.1, K.2.2.2.1, K.2.2.2.2.1, K.2.2.2.2.2.1, K.2.2.2.2.2.2⟩
    show (q_in r ++ [x]).length ≤ 16
    have := K.2.1
    rw [List.length_append, List.length_singleton]; omega
theorem k_send {c : q_C} {r : q_R} {x y : Int32} (K : q_rok c r) : q_rok c (q_send x y r) := by
  unfold q_send
  split
  · split
    · exact k_fail K
    · refine ⟨K.1, K.2.1, ?_, K.2.2.2.1, K.2.2.2.2.1, K.2.2.2.2.2.1, K.2.2.2.2.2.2⟩
      show (q_ex r ++ [x]).length ≤ 16
      have := K.2.2.1
      rw [List.length_append, List.length_singleton]; omega
  · split
    · exact k_fail K
    · refine ⟨K.1, K.2.1, K.2.2.1, K.2.2.2.1, ?_, K.2.2.2.2.2.1, K.2.2.2.2.2.2⟩
      show (q_se r ++ [(x, q_ck r + y)]).length ≤ 12
      have := K.2.2.2.2.1
      rw [List.length_append, List.length_singleton]; omega
theorem k_do {c : q_C} {r : q_R} {op : Nat} {a b : Int32} (K : q_rok c r) : q_rok c (q_do op a b r) := by
  unfold q_do
  split
  · exact K
  · split
    · exact K
    · split
      · exact k_raise K
      · exact k_send K
theorem k_act1 {c : q_C} {r : q_R} {who : Int32} {k : Nat} (K : q_rok c r) : q_rok c (q_act1 c who k r) := by
  unfold q_act1
  split
  · exact k_do K
  · exact K
theorem k_it {c : q_C} {g : Nat → q_R → q_R} (hg : ∀ i r, q_rok c r → q_rok c (g i r)) : ∀ (f i : Nat) (r : q_R), q_rok c r → q_rok c (q_it g f i r) := by
  intro f
  induction f with
  | zero => intro i r K; exact K
  | succ f ih => intro i r K; exact ih _ _ (hg i r K)
theorem k_act {c : q_C} {r : q_R} {who : Int32} (K : q_rok c r) : q_rok c (q_act c who r) := k_it (fun _ _ K => k_act1 K) _ _ _ K
section XB
variable {E : dx_E} {d : Nat} {po : dx_P} {c : q_C}
theorem s_RU_acts {who : Int32} (ok : q_ok c) : ∀ (f i : Nat) (r : q_R) (σ : dx_V), f + i = q_na c → x_all c r σ → q_rok c r → (∀ σ' : dx_V, x_run (q_it (q_act1 c who) f i r) σ' → x_fr x_W σ σ' → po none σ') → g_RU_doActions_2 E (d + 2) po who (nI i) σ := by
  have h32 := ok.2.2.1
  intro f
  induction f with
  | zero =>
    intro i r σ hi X K hp
    refine r_RU_doActions_2 ?_
    rw [X.2.2.1.1]
    simp only [i_le, i_n (show q_na c ≤ 100000 by omega), i_n (show i ≤ 100000 by omega)]
    exact ⟨fun _ => hp σ X.2.2.2 x_fr_rf, fun h => absurd h (by omega)⟩
  | succ f ih =>
    intro i r σ hi X K hp
    have hg := x_go X.2.2.2 K
    obtain ⟨a1, a2, a3, a4⟩ := X.2.2.1.2 i (by omega)
    obtain ⟨o1, o2⟩ := ok.2.2.2.2.2.2.2 i (by omega)
    refine r_RU_doActions_2 ?_
    rw [X.2.2.1.1]
    simp only [i_le, i_n (show q_na c ≤ 100000 by omega), i_n (show i ≤ 100000 by omega)]
    refine ⟨fun h => absurd h (by omega), fun _ => dx_ci1 _ _ (fun po hp => s_RU_isGoingOn hp) (q_zb (fun h => ?_) (fun h => ⟨i_in (by omega) (by omega), ?_⟩))⟩
    · refine hp σ ?_ x_fr_rf
      rw [q_it_stop q_act1_stop _ _ _ (fun q => h (hg.mpr q))]
      exact X.2.2.2
    · rw [i_cl (by omega), a1, a2, a3, a4, i_inc]
      have hp2 : ∀ σ' : dx_V, x_run (q_it (q_act1 c who) f (i + 1) (q_act1 c who i r)) σ' → x_fr x_W σ σ' → po none σ' := hp
      unfold q_act1 at hp2
      refine ⟨fun hw => ?_, fun hw => ⟨i_in (by omega) (by omega), i_in (by omega) (by omega), i_in (by omega) (by omega), ?_⟩⟩
      · rw [if_neg (fun q => hw q.2)] at hp2
        exact ih (i + 1) r σ (by omega) X K hp2
      · rw [if_pos ⟨hg.mp h, hw⟩] at hp2
        refine dx_cuR (fun σ1 => x_run (q_do (q_op c i) (q_a c i) (q_b c i) r) σ1 ∧ x_fr x_W σ σ1) (fun po hpo => s_RU_doAction X.2.2.2 K o2 o1 (fun σ' q1 q2 => hpo σ' ⟨q1, q2⟩)) ?_
        rintro σ1 ⟨q1, q2⟩
        exact ih (i + 1) _ σ1 (by omega) (x_all_fr X q2 q1) (k_do K) (fun σ' z1 z2 => hp2 σ' z1 (x_fr_tr q2 z2 (fun _ z => z)))
theorem s_RU_doActions {who : Int32} {r : q_R} {σ : dx_V} (ok : q_ok c) (X : x_all c r σ) (K : q_rok c r) (hp : ∀ σ' : dx_V, x_run (q_act c who r) σ' → x_fr x_W σ σ' → po none σ') : m_RU_doActions E (d + 2) who σ po :=
  r_RU_doActions (s_RU_acts ok (q_na c) 0 r σ (by omega) X K hp)
end XB
