/-! More leaves of the class: what may be built; lines. -/
section XM
variable {E : dx_E} {d : Nat} {σ : dx_V} {po : dx_P} {c : q_C} {r : q_R}
theorem i_sub100 {a : Int32} {s : Nat} (hs : s ≤ 15) : a - 100 = nI s ↔ a.toInt = 100 + s := by
  have e : nI s + 100 = nI (s + 100) := nI_add s 100
  constructor
  · intro h
    have : a = nI (s + 100) := by rw [← e, ← h]; exact (Int32.sub_add_cancel a 100).symm
    rw [this, i_n (by omega)]; omega
  · intro h
    have : a = nI (s + 100) := i_eq.mpr (by rw [i_n (by omega), h]; omega)
    rw [this, ← e]; exact Int32.add_sub_cancel _ _
theorem i_sub200 {a : Int32} {s : Nat} (hs : s ≤ 15) : a - 200 = nI s ↔ a.toInt = 200 + s := by
  have e : nI s + 200 = nI (s + 200) := nI_add s 200
  constructor
  · intro h
    have : a = nI (s + 200) := by rw [← e, ← h]; exact (Int32.sub_add_cancel a 200).symm
    rw [this, i_n (by omega)]; omega
  · intro h
    have : a = nI (s + 200) := i_eq.mpr (by rw [i_n (by omega), h]; omega)
    rw [this, ← e]; exact Int32.add_sub_cancel _ _
/-- an event that a transition may await -/
def q_await (c : q_C) (a : Int32) : Prop := (0 ≤ a.toInt ∧ a.toInt ≤ 20) ∨ ∃ s : Nat, a.toInt = 100 + s ∧ q_st c s
theorem s_MC_mayAwait {a : Int32} (ok : q_ok c) (T : x_tree c σ) (hp : po (some (q_z (q_await c a))) σ) : m_MC_mayAwait E (d + 2) a σ po := by
  have h15 := ok.1
  refine r_MC_mayAwait ⟨fun h => r_MC_mayAwait_25 (q_p1 hp (Or.inl (by rw [h]; decide))), fun h => dx_ci1 _ _ (fun po hp => s_MC_isEvent hp) (q_zc (fun h2 => r_MC_mayAwait_25 (q_p1 hp (Or.inl (by omega)))) (fun h2 => dx_ci1 _ _ (fun po hp => s_ST_isMadeState ok T hp) (q_zb (fun h3 => q_p0 hp ?_) (fun h3 => r_MC_mayAwait_25 (q_p1 hp (Or.inr ?_))))))⟩
  · rintro (q | ⟨s, q1, q2⟩)
    · have : a.toInt = 0 := by omega
      exact h (i_eq.mpr (by rw [this, i_0]))
    · have := q2.2.1
      exact h3 ⟨s, (i_sub100 (by omega)).mpr q1, q2⟩
  · obtain ⟨s, q1, q2⟩ := h3
    have := q2.2.1
    exact ⟨s, (i_sub100 (by omega)).mp q1, q2⟩
/-- a guard that may be -/
def q_mayG (c : q_C) (w o v : Int32) : Prop := (0 ≤ o.toInt ∧ o.toInt ≤ 2 ∧ 0 ≤ w.toInt ∧ w.toInt ≤ 3) ∨ (o = 3 ∧ w = 0 ∧ ∃ s, v = nI s ∧ q_st c s)
theorem s_MC_mayGuard {w o v : Int32} (ok : q_ok c) (T : x_tree c σ) (hp : po (some (q_z (q_mayG c w o v))) σ) : m_MC_mayGuard E (d + 2) w o v σ po := by
  refine r_MC_mayGuard ⟨fun h => ?_, fun h => ⟨fun h2 => q_p0 hp ?_, fun h2 => dx_ci1 _ _ (fun po hp => s_ST_isMadeState ok T hp) (q_zb (fun h3 => q_p0 hp ?_) (fun h3 => q_p1 hp (Or.inr ⟨h, h2, h3⟩)))⟩⟩
  · simp only [i_lt, i_0, i_2]
    refine ⟨fun h2 => q_p0 hp ?_, fun h2 => ⟨fun h3 => q_p0 hp ?_, fun h3 => dx_ci1 _ _ (fun po hp => s_MC_isVariable hp) (q_zb (fun h4 => q_p0 hp ?_) (fun h4 => q_p1 hp (Or.inl (by omega))))⟩⟩
    · rintro (q | q)
      · omega
      · exact h q.1
    · rintro (q | q)
      · omega
      · exact h q.1
    · rintro (q | q)
      · omega
      · exact h q.1
  · rintro (q | q)
    · rw [h, i_3] at q; omega
    · exact h2 q.2.1
  · rintro (q | q)
    · rw [h, i_3] at q; omega
    · exact h3 q.2.2
/-- who may own an action -/
def q_own (c : q_C) (a : Int32) : Prop := (0 ≤ a.toInt ∧ a.toInt < q_nt c) ∨ (∃ s : Nat, a.toInt = 100 + s ∧ q_st c s) ∨ ∃ s : Nat, a.toInt = 200 + s ∧ q_st c s
theorem s_MC_mayOwn {a : Int32} (ok : q_ok c) (T : x_tree c σ) (T2 : x_tr c σ) (hp : po (some (q_z (q_own c a))) σ) : m_MC_mayOwn E (d + 2) a σ po := by
  have h15 := ok.1
  refine r_MC_mayOwn (dx_ci1 _ _ (fun po hp => s_TT_has ok T2 hp) (q_zc (fun h => r_MC_mayOwn_40 (q_p1 hp (Or.inl h))) (fun h => dx_ci1 _ _ (fun po hp => s_ST_isMadeState ok T hp) (q_zc (fun h2 => r_MC_mayOwn_40 (q_p1 hp (Or.inr (Or.inl ?_)))) (fun h2 => dx_ci1 _ _ (fun po hp => s_ST_isMadeState ok T hp) (q_zb (fun h3 => q_p0 hp ?_) (fun h3 => r_MC_mayOwn_40 (q_p1 hp (Or.inr (Or.inr ?_))))))))))
  · obtain ⟨s, q1, q2⟩ := h2
    have := q2.2.1
    exact ⟨s, (i_sub100 (by omega)).mp q1, q2⟩
  · rintro (q | ⟨s, q1, q2⟩ | ⟨s, q1, q2⟩)
    · exact h q
    · have := q2.2.1
      exact h2 ⟨s, (i_sub100 (by omega)).mpr q1, q2⟩
    · have := q2.2.1
      exact h3 ⟨s, (i_sub200 (by omega)).mpr q1, q2⟩
  · obtain ⟨s, q1, q2⟩ := h3
    have := q2.2.1
    exact ⟨s, (i_sub200 (by omega)).mp q1, q2⟩
/-- a deed that may be -/
def q_mayD (o a b : Int32) : Prop := (0 ≤ o.toInt ∧ o.toInt ≤ 1 ∧ 0 ≤ a.toInt ∧ a.toInt ≤ 3) ∨ (o.toInt = 2 ∧ 1 ≤ a.toInt ∧ a.toInt ≤ 20 ∧ b = 0) ∨ (o.toInt = 3 ∧ 1 ≤ a.toInt ∧ a.toInt ≤ 20 ∧ 0 ≤ b.toInt ∧ b.toInt ≤ 50)
theorem s_MC_mayDo {o a b : Int32} (hp : po (some (q_z (q_mayD o a b))) σ) : m_MC_mayDo E (d + 1) o a b σ po := by
  refine r_MC_mayDo ⟨fun h => ?_, fun h => ?_, fun h => ?_, fun h => ?_, fun h => ?_⟩
  · subst h
    refine dx_ci1 _ _ (fun po hp => s_MC_isVariable hp) ⟨q_z_01 _, ?_⟩
    rw [show q_z (0 ≤ a.toInt ∧ a.toInt ≤ 3) = q_z (q_mayD 0 a b) from q_z_eq (by unfold q_mayD; rw [i_0]; omega)]
    exact hp
  · subst h
    refine dx_ci1 _ _ (fun po hp => s_MC_isVariable hp) ⟨q_z_01 _, ?_⟩
    rw [show q_z (0 ≤ a.toInt ∧ a.toInt ≤ 3) = q_z (q_mayD 1 a b) from q_z_eq (by unfold q_mayD; rw [i_1]; omega)]
    exact hp
  · subst h
    have e : q_mayD 2 a b ↔ (1 ≤ a.toInt ∧ a.toInt ≤ 20) ∧ b = 0 := by
      unfold q_mayD
      rw [i_2]
      constructor
      · rintro (q | q | q)
        · omega
        · exact ⟨by omega, q.2.2.2⟩
        · omega
      · intro q
        exact Or.inr (Or.inl ⟨rfl, q.1.1, q.1.2, q.2⟩)
    rw [q_z_eq e] at hp
    exact dx_ci1 _ _ (fun po hp => s_MC_isEvent hp) (q_zb (fun h2 => q_p0 hp (fun q => h2 q.1)) (fun h2 => ⟨fun h3 => q_p0 hp (fun q => h3 q.2), fun h3 => q_p1 hp ⟨h2, h3⟩⟩))
  · subst h
    have e : q_mayD 3 a b ↔ (1 ≤ a.toInt ∧ a.toInt ≤ 20) ∧ 0 ≤ b.toInt ∧ b.toInt ≤ 50 := by
      unfold q_mayD
      rw [i_3]
      omega
    rw [q_z_eq e] at hp
    refine dx_ci1 _ _ (fun po hp => s_MC_isEvent hp) (q_zb (fun h2 => q_p0 hp (fun q => h2 q.1)) (fun h2 => ?_))
    simp only [i_lt, i_0, i_50]
    exact ⟨fun h3 => q_p0 hp (by omega), fun h3 => ⟨fun h4 => q_p0 hp (by omega), fun h4 => q_p1 hp (by omega)⟩⟩
  · simp only [i_eq (x := o), i_0, i_1, i_2, i_3] at h
    refine q_p0 hp ?_
    unfold q_mayD
    omega
/-- a state that may be made -/
def q_mayS (c : q_C) (p k : Int32) : Prop := ∃ s, p = nI s ∧ s ≤ q_n c ∧ 1 ≤ k.toInt ∧ k.toInt ≤ 5 ∧ ((q_kd c s = 2 ∧ k.toInt ≠ 3) ∨ (q_kd c s = 1 ∧ (s ≠ 0 ∨ k.toInt ≤ 3)))
theorem s_ST_mayHold {a k : Int32} (ok : q_ok c) (T : x_tree c σ) (hp : po (some (q_z (q_mayS c a k))) σ) : m_ST_mayHold E d a k σ po := by
  have h15 := ok.1
  refine r_ST_mayHold ?_
  rw [T.1]
  simp only [i_lt, i_le, i_0, i_1, i_5, i_3, i_n (show q_n c ≤ 100000 by omega)]
  refine ⟨fun h => q_p0 hp ?_, fun h => ⟨fun h2 => q_p0 hp ?_, fun h2 => ⟨fun h3 => q_p0 hp ?_, fun h3 => ⟨fun h4 => ?_, fun h4 => q_p0 hp ?_⟩⟩⟩⟩
  · rintro ⟨s, q⟩; omega
  · rintro ⟨s, q⟩; omega
  · rintro ⟨s, rfl, q⟩; rw [i_n (by omega)] at h3; omega
  · obtain ⟨e1, e2⟩ := i_ix (x := a) (by omega)
    generalize a.toNatClampNeg = s at e1 e2
    subst e1
    have hs : s ≤ q_n c := by omega
    have hk : q_kd c s ≤ 5 := by
      by_cases h0 : s = 0
      · subst h0; rw [ok.2.2.2.1]; omega
      · exact (ok.2.2.2.2.1 s (by omega) hs).2.2.1
    have hP : q_mayS c (nI s) k ↔ (q_kd c s = 2 ∧ k.toInt ≠ 3) ∨ (q_kd c s = 1 ∧ (s ≠ 0 ∨ k.toInt ≤ 3)) := by
      constructor
      · rintro ⟨s', e, q⟩
        have : s = s' := i_nj e (by omega) (by omega)
        subst this
        exact q.2.2.2
      · intro q
        exact ⟨s, rfl, hs, by omega, by omega, q⟩
    rw [q_z_eq hP] at hp
    rw [T.2.1 s hs]
    simp only [i_eq (x := nI _), i_eq (x := k), i_n (show q_kd c s ≤ 100000 by omega), i_n (show s ≤ 100000 by omega), i_0, i_1, i_2, i_3]
    exact ⟨i_in (by omega) (by omega), fun q => ⟨i_in (by omega) (by omega), fun q2 => q_p0 hp (by omega), fun q2 => ⟨fun q3 => r_ST_mayHold_64 (q_p1 hp (by omega)), fun q3 => ⟨fun q4 => q_p0 hp (by omega), fun q4 => r_ST_mayHold_64 (q_p1 hp (by omega))⟩⟩⟩, fun q => ⟨fun q2 => q_p0 hp (by omega), fun q2 => q_p1 hp (by omega)⟩⟩
  · rintro ⟨s, rfl, q⟩; rw [i_n (by omega)] at h4; omega
theorem s_LN_put_7 {a : Int32} {l : List Int32} (hl : x_line l (σ 7 1) (σ 32)) (hc : l.length ≤ 16) (hf : l.length = 16 → po (some 0) σ) (hp : l.length < 16 → ∀ σ' : dx_V, x_line (l ++ [a]) (σ' 7 1) (σ' 32) → x_fr [7, 32] σ σ' → po (some 1) σ') : m_LN_put_7 E d a σ po := by
  refine r_LN_put_7 ?_
  rw [hl.1, i_cl (by omega)]
  simp only [i_eq (x := nI _), i_n (show l.length ≤ 100000 by omega), i_16]
  refine ⟨fun h => ⟨i_in (by omega) (by omega), hp (by omega) _ ⟨?_, ?_⟩ ?_⟩, fun h => hf (by omega)⟩
  · rw [dx_us, i_inc, List.length_append]; rfl
  · intro i v hi
    rw [dx_un (by decide)]
    by_cases h2 : i = l.length
    · subst h2
      rw [dx_us]
      rw [List.getElem?_append_right (Nat.le_refl _), Nat.sub_self] at hi
      cases hi
      rfl
    · have h3 : i < l.length := by
        have := (List.getElem?_eq_some_iff.mp hi).1
        rw [List.length_append] at this
        simp only [List.length_cons, List.length_nil] at this
        omega
      rw [dx_uk h2]
      rw [List.getElem?_append_left h3] at hi
      exact hl.2 i v hi
  · exact x_fr_u (x_fr_u x_fr_rf (by decide)) (by decide)
theorem s_LN_clear_7 (hp : po none (dx_u σ 7 1 0)) : m_LN_clear_7 E d σ po := r_LN_clear_7 hp
theorem s_LN_take_7 {v : Int32} (l : List Int32) (hc : l.length < 16) : ∀ (n j : Nat) (σ : dx_V), n = l.length - j → j ≤ l.length → σ 7 1 = nI l.length → (∀ i w, l[i]? = some w → i < j → σ 32 i = w) → (∀ i w, l[i]? = some w → j ≤ i → σ 32 (i + 1) = w) → (∀ σ' : dx_V, x_line l (σ' 7 1) (σ' 32) → x_fr [7, 32] σ σ' → po (some v) σ') → g_LN_takeFirst_7_28 E d po v (nI j) σ := by
  intro n
  induction n with
  | zero =>
    intro j σ hn hj hcnt h1 h2 hp
    refine r_LN_takeFirst_7_28 ?_
    rw [hcnt]
    simp only [i_le, i_n (show l.length ≤ 100000 by omega), i_n (show j ≤ 100000 by omega)]
    refine ⟨fun h => hp _ ⟨hcnt, fun i w hi => h1 i w hi ?_⟩ x_fr_rf, fun h => absurd h (by omega)⟩
    have := (List.getElem?_eq_some_iff.mp hi).1
    omega
  | succ n ih =>
    intro j σ hn hj hcnt h1 h2 hp
    refine r_LN_takeFirst_7_28 ?_
    rw [hcnt, i_inc, i_cl (by omega), i_cl (by omega)]
    simp only [i_le, i_n (show l.length ≤ 100000 by omega), i_n (show j ≤ 100000 by omega)]
    refine ⟨fun h => absurd h (by omega), fun h => ⟨i_in (by omega) (by omega), i_in (by omega) (by omega), ?_⟩⟩
    refine ih (j + 1) _ (by omega) (by omega) (by rw [dx_un (by decide)]; exact hcnt) (fun i w hi hlt => ?_) (fun i w hi hge => ?_) (fun σ' q1 q2 => hp σ' q1 (x_fr_tr (x_fr_u x_fr_rf (by decide)) q2 (fun _ z => z)))
    · by_cases hij : i = j
      · subst hij
        rw [dx_us]
        exact h2 i w hi (Nat.le_refl _)
      · rw [dx_uk hij]
        exact h1 i w hi (by omega)
    · rw [dx_uk (by omega)]
      exact h2 i w hi (by omega)
/-- the first of a line that isn't empty -/
theorem s_LN_takeFirst_7 {v : Int32} {l : List Int32} (hl : x_line (v :: l) (σ 7 1) (σ 32)) (hc : l.length < 16) (hp : ∀ σ' : dx_V, x_line l (σ' 7 1) (σ' 32) → x_fr [7, 32] σ σ' → po (some v) σ') : m_LN_takeFirst_7 E d σ po := by
  refine r_LN_takeFirst_7 ?_
  rw [hl.1, List.length_cons, nI_pred]
  refine ⟨fun _ => ⟨i_in2 (by decide) (by decide), ?_⟩, fun h => ?_⟩
  · rw [show (0 : Int32).toNatClampNeg = 0 from rfl, hl.2 0 v rfl]
    exact s_LN_take_7 l hc l.length 0 _ (by omega) (by omega) dx_us (fun i w _ h => absurd h (by omega)) (fun i w hi _ => by rw [dx_un (by decide)]; exact hl.2 (i + 1) w hi) (fun σ' q1 q2 => hp σ' q1 (x_fr_tr (x_fr_u x_fr_rf (by decide)) q2 (fun _ z => z)))
  · rw [i_eq, i_n (by omega), i_0] at h
    omega
theorem s_LN_put_8 {a : Int32} {l : List Int32} (hl : x_line l (σ 8 1) (σ 33)) (hc : l.length ≤ 16) (hf : l.length = 16 → po (some 0) σ) (hp : l.length < 16 → ∀ σ' : dx_V, x_line (l ++ [a]) (σ' 8 1) (σ' 33) → x_fr [8, 33] σ σ' → po (some 1) σ') : m_LN_put_8 E d a σ po := by
  refine r_LN_put_8 ?_
  rw [hl.1, i_cl (by omega)]
  simp only [i_eq (x := nI _), i_n (show l.length ≤ 100000 by omega), i_16]
  refine ⟨fun h => ⟨i_in (by omega) (by omega), hp (by omega) _ ⟨?_, ?_⟩ ?_⟩, fun h => hf (by omega)⟩
  · rw [dx_us, i_inc, List.length_append]; rfl
  · intro i v hi
    rw [dx_un (by decide)]
    by_cases h2 : i = l.length
    · subst h2
      rw [dx_us]
      rw [List.getElem?_append_right (Nat.le_refl _), Nat.sub_self] at hi
      cases hi
      rfl
    · have h3 : i < l.length := by
        have := (List.getElem?_eq_some_iff.mp hi).1
        rw [List.length_append] at this
        simp only [List.length_cons, List.length_nil] at this
        omega
      rw [dx_uk h2]
      rw [List.getElem?_append_left h3] at hi
      exact hl.2 i v hi
  · exact x_fr_u (x_fr_u x_fr_rf (by decide)) (by decide)
theorem s_LN_clear_8 (hp : po none (dx_u σ 8 1 0)) : m_LN_clear_8 E d σ po := r_LN_clear_8 hp
theorem s_LN_take_8 {v : Int32} (l : List Int32) (hc : l.length < 16) : ∀ (n j : Nat) (σ : dx_V), n = l.length - j → j ≤ l.length → σ 8 1 = nI l.length → (∀ i w, l[i]? = some w → i < j → σ 33 i = w) → (∀ i w, l[i]? = some w → j ≤ i → σ 33 (i + 1) = w) → (∀ σ' : dx_V, x_line l (σ' 8 1) (σ' 33) → x_fr [8, 33] σ σ' → po (some v) σ') → g_LN_takeFirst_8_28 E d po v (nI j) σ := by
  intro n
  induction n with
  | zero =>
    intro j σ hn hj hcnt h1 h2 hp
    refine r_LN_takeFirst_8_28 ?_
    rw [hcnt]
    simp only [i_le, i_n (show l.length ≤ 100000 by omega), i_n (show j ≤ 100000 by omega)]
    refine ⟨fun h => hp _ ⟨hcnt, fun i w hi => h1 i w hi ?_⟩ x_fr_rf, fun h => absurd h (by omega)⟩
    have := (List.getElem?_eq_some_iff.mp hi).1
    omega
  | succ n ih =>
    intro j σ hn hj hcnt h1 h2 hp
    refine r_LN_takeFirst_8_28 ?_
    rw [hcnt, i_inc, i_cl (by omega), i_cl (by omega)]
    simp only [i_le, i_n (show l.length ≤ 100000 by omega), i_n (show j ≤ 100000 by omega)]
    refine ⟨fun h => absurd h (by omega), fun h => ⟨i_in (by omega) (by omega), i_in (by omega) (by omega), ?_⟩⟩
    refine ih (j + 1) _ (by omega) (by omega) (by rw [dx_un (by decide)]; exact hcnt) (fun i w hi hlt => ?_) (fun i w hi hge => ?_) (fun σ' q1 q2 => hp σ' q1 (x_fr_tr (x_fr_u x_fr_rf (by decide)) q2 (fun _ z => z)))
    · by_cases hij : i = j
      · subst hij
        rw [dx_us]
        exact h2 i w hi (Nat.le_refl _)
      · rw [dx_uk hij]
        exact h1 i w hi (by omega)
    · rw [dx_uk (by omega)]
      exact h2 i w hi (by omega)
/-- the first of a line that isn't empty -/
theorem s_LN_takeFirst_8 {v : Int32} {l : List Int32} (hl : x_line (v :: l) (σ 8 1) (σ 33)) (hc : l.length < 16) (hp : ∀ σ' : dx_V, x_line l (σ' 8 1) (σ' 33) → x_fr [8, 33] σ σ' → po (some v) σ') : m_LN_takeFirst_8 E d σ po := by
  refine r_LN_takeFirst_8 ?_
  rw [hl.1, List.length_cons, nI_pred]
  refine ⟨fun _ => ⟨i_in2 (by decide) (by decide), ?_⟩, fun h => ?_⟩
  · rw [show (0 : Int32).toNatClampNeg = 0 from rfl, hl.2 0 v rfl]
    exact s_LN_take_8 l hc l.length 0 _ (by omega) (by omega) dx_us (fun i w _ h => absurd h (by omega)) (fun i w hi _ => by rw [dx_un (by decide)]; exact hl.2 (i + 1) w hi) (fun σ' q1 q2 => hp σ' q1 (x_fr_tr (x_fr_u x_fr_rf (by decide)) q2 (fun _ z => z)))
  · rw [i_eq, i_n (by omega), i_0] at h
    omega
theorem s_LN_put_9 {a : Int32} {l : List Int32} (hl : x_line l (σ 9 1) (σ 34)) (hc : l.length ≤ 200) (hf : l.length = 200 → po (some 0) σ) (hp : l.length < 200 → ∀ σ' : dx_V, x_line (l ++ [a]) (σ' 9 1) (σ' 34) → x_fr [9, 34] σ σ' → po (some 1) σ') : m_LN_put_9 E d a σ po := by
  refine r_LN_put_9 ?_
  rw [hl.1, i_cl (by omega)]
  simp only [i_eq (x := nI _), i_n (show l.length ≤ 100000 by omega), i_200]
  refine ⟨fun h => ⟨i_in (by omega) (by omega), hp (by omega) _ ⟨?_, ?_⟩ ?_⟩, fun h => hf (by omega)⟩
  · rw [dx_us, i_inc, List.length_append]; rfl
  · intro i v hi
    rw [dx_un (by decide)]
    by_cases h2 : i = l.length
    · subst h2
      rw [dx_us]
      rw [List.getElem?_append_right (Nat.le_refl _), Nat.sub_self] at hi
      cases hi
      rfl
    · have h3 : i < l.length := by
        have := (List.getElem?_eq_some_iff.mp hi).1
        rw [List.length_append] at this
        simp only [List.length_cons, List.length_nil] at this
        omega
      rw [dx_uk h2]
      rw [List.getElem?_append_left h3] at hi
      exact hl.2 i v hi
  · exact x_fr_u (x_fr_u x_fr_rf (by decide)) (by decide)
theorem s_LN_clear_9 (hp : po none (dx_u σ 9 1 0)) : m_LN_clear_9 E d σ po := r_LN_clear_9 hp
theorem s_LN_take_9 {v : Int32} (l : List Int32) (hc : l.length < 200) : ∀ (n j : Nat) (σ : dx_V), n = l.length - j → j ≤ l.length → σ 9 1 = nI l.length → (∀ i w, l[i]? = some w → i < j → σ 34 i = w) → (∀ i w, l[i]? = some w → j ≤ i → σ 34 (i + 1) = w) → (∀ σ' : dx_V, x_line l (σ' 9 1) (σ' 34) → x_fr [9, 34] σ σ' → po (some v) σ') → g_LN_takeFirst_9_28 E d po v (nI j) σ := by
  intro n
  induction n with
  | zero =>
    intro j σ hn hj hcnt h1 h2 hp
    refine r_LN_takeFirst_9_28 ?_
    rw [hcnt]
    simp only [i_le, i_n (show l.length ≤ 100000 by omega), i_n (show j ≤ 100000 by omega)]
    refine ⟨fun h => hp _ ⟨hcnt, fun i w hi => h1 i w hi ?_⟩ x_fr_rf, fun h => absurd h (by omega)⟩
    have := (List.getElem?_eq_some_iff.mp hi).1
    omega
  | succ n ih =>
    intro j σ hn hj hcnt h1 h2 hp
    refine r_LN_takeFirst_9_28 ?_
    rw [hcnt, i_inc, i_cl (by omega), i_cl (by omega)]
    simp only [i_le, i_n (show l.length ≤ 100000 by omega), i_n (show j ≤ 100000 by omega)]
    refine ⟨fun h => absurd h (by omega), fun h => ⟨i_in (by omega) (by omega), i_in (by omega) (by omega), ?_⟩⟩
    refine ih (j + 1) _ (by omega) (by omega) (by rw [dx_un (by decide)]; exact hcnt) (fun i w hi hlt => ?_) (fun i w hi hge => ?_) (fun σ' q1 q2 => hp σ' q1 (x_fr_tr (x_fr_u x_fr_rf (by decide)) q2 (fun _ z => z)))
    · by_cases hij : i = j
      · subst hij
        rw [dx_us]
        exact h2 i w hi (Nat.le_refl _)
      · rw [dx_uk hij]
        exact h1 i w hi (by omega)
    · rw [dx_uk (by omega)]
      exact h2 i w hi (by omega)
/-- the first of a line that isn't empty -/
theorem s_LN_takeFirst_9 {v : Int32} {l : List Int32} (hl : x_line (v :: l) (σ 9 1) (σ 34)) (hc : l.length < 200) (hp : ∀ σ' : dx_V, x_line l (σ' 9 1) (σ' 34) → x_fr [9, 34] σ σ' → po (some v) σ') : m_LN_takeFirst_9 E d σ po := by
  refine r_LN_takeFirst_9 ?_
  rw [hl.1, List.length_cons, nI_pred]
  refine ⟨fun _ => ⟨i_in2 (by decide) (by decide), ?_⟩, fun h => ?_⟩
  · rw [show (0 : Int32).toNatClampNeg = 0 from rfl, hl.2 0 v rfl]
    exact s_LN_take_9 l hc l.length 0 _ (by omega) (by omega) dx_us (fun i w _ h => absurd h (by omega)) (fun i w hi _ => by rw [dx_un (by decide)]; exact hl.2 (i + 1) w hi) (fun σ' q1 q2 => hp σ' q1 (x_fr_tr (x_fr_u x_fr_rf (by decide)) q2 (fun _ z => z)))
  · rw [i_eq, i_n (by omega), i_0] at h
    omega
end XM
