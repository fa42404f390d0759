/-! The class's leaves. -/
section XL
variable {E : dx_E} {d : Nat} {σ : dx_V} {po : dx_P} {c : q_C} {r : q_R}
theorem s_MC_isIn {k : Nat} {x : Int32} (hk : k < 32) (hp : po (some (q_z (bt x k = true))) σ) : m_MC_isIn E d (nI k) x σ po :=
  r_MC_isIn ⟨fun h => q_p0 hp ((b_in hk).mp h), fun h => q_p1 hp (Classical.byContradiction fun n => h ((b_in hk).mpr n))⟩
theorem s_MC_isEvent {a : Int32} (hp : po (some (q_z (1 ≤ a.toInt ∧ a.toInt ≤ 20))) σ) : m_MC_isEvent E d a σ po := by
  refine r_MC_isEvent ?_
  simp only [i_lt, i_1, i_20]
  exact ⟨fun h => q_p0 hp (by omega), fun h => ⟨fun h2 => q_p0 hp (by omega), fun h2 => q_p1 hp (by omega)⟩⟩
theorem s_MC_isVariable {a : Int32} (hp : po (some (q_z (0 ≤ a.toInt ∧ a.toInt ≤ 3))) σ) : m_MC_isVariable E d a σ po := by
  refine r_MC_isVariable ?_
  simp only [i_lt, i_le, i_0, i_4]
  exact ⟨fun h => q_p0 hp (by omega), fun h => ⟨fun h2 => q_p0 hp (by omega), fun h2 => q_p1 hp (by omega)⟩⟩
theorem s_MC_isBuilding (hp : po (some (q_z (σ 4 12 = 0))) σ) : m_MC_isBuilding E d σ po :=
  r_MC_isBuilding ⟨fun h => q_p0 hp h, fun h => q_p1 hp h⟩
theorem s_RU_isGoingOn (hp : po (some (q_z (σ 4 12 = 1))) σ) : m_RU_isGoingOn E d σ po :=
  r_RU_isGoingOn ⟨fun h => q_p0 hp h, fun h => q_p1 hp h⟩
theorem s_ST_isMade {a : Int32} (ok : q_ok c) (T : x_tree c σ) (hp : po (some (q_z (1 ≤ a.toInt ∧ a.toInt ≤ q_n c))) σ) : m_ST_isMade E d a σ po := by
  refine r_ST_isMade ?_
  have := ok.1
  rw [T.1]
  simp only [i_lt, i_1, i_n (show q_n c ≤ 100000 by omega)]
  exact ⟨fun h => q_p0 hp (by omega), fun h => ⟨fun h2 => q_p0 hp (by omega), fun h2 => q_p1 hp (by omega)⟩⟩
theorem s_ST_isHistory {s : Nat} (ok : q_ok c) (T : x_tree c σ) (hs : s ≤ q_n c) (hp : po (some (q_z (4 ≤ q_kd c s))) σ) : m_ST_isHistory E d (nI s) σ po := by
  have h15 := ok.1
  have hk : 1 ≤ q_kd c s ∧ q_kd c s ≤ 5 := by
    by_cases h0 : s = 0
    · subst h0; rw [ok.2.2.2.1]; omega
    · exact ⟨(ok.2.2.2.2.1 s (by omega) hs).2.1, (ok.2.2.2.2.1 s (by omega) hs).2.2.1⟩
  refine r_ST_isHistory ?_
  rw [i_cl (by omega), T.2.1 s hs]
  simp only [i_eq (x := nI _), i_n (show q_kd c s ≤ 100000 by omega), i_4, i_5]
  exact ⟨i_in (by omega) (by omega), fun h => r_ST_isHistory_20 (q_p1 hp (by omega)), fun h => ⟨i_in (by omega) (by omega), fun h2 => q_p0 hp (by omega), fun h2 => r_ST_isHistory_20 (q_p1 hp (by omega))⟩⟩
theorem s_ST_isMadeState {a : Int32} (ok : q_ok c) (T : x_tree c σ) (hp : po (some (q_z (∃ s, a = nI s ∧ q_st c s))) σ) : m_ST_isMadeState E (d + 1) a σ po := by
  have h15 := ok.1
  refine r_ST_isMadeState (dx_ci1 _ _ (fun po hp => s_ST_isMade ok T hp) (q_zb (fun h => q_p0 hp ?_) (fun h => ?_)))
  · rintro ⟨s, rfl, h1, h2, h3⟩
    rw [i_n (by omega)] at h
    omega
  · obtain ⟨e1, e2⟩ := i_ix (x := a) (by omega)
    generalize a.toNatClampNeg = s at e1 e2
    subst e1
    have hs : 1 ≤ s ∧ s ≤ q_n c := by omega
    refine dx_ci1 _ _ (fun po hp => s_ST_isHistory ok T hs.2 hp) (q_zc (fun h4 => q_p0 hp ?_) (fun h4 => q_p1 hp ⟨s, rfl, hs.1, hs.2, by omega⟩))
    rintro ⟨s', e, h1, h2, h3⟩
    have : s = s' := i_nj e (by omega) (by omega)
    subst this
    omega
theorem s_ST_isAtomic {s : Nat} (T : x_tree c σ) (hs : s ≤ 15) (hp : po (some (q_z (q_leaf c s))) σ) : m_ST_isAtomic E d (nI s) σ po := by
  have hz : σ 14 s = 0 ↔ q_leaf c s := by
    rw [b_z]
    constructor
    · intro h x q
      have := (T.2.2.2.2.1 s hs x).mpr q
      rw [h x] at this
      cases this
    · intro h x
      cases hb : bt (σ 14 s) x with
      | false => rfl
      | true => exact absurd ((T.2.2.2.2.1 s hs x).mp hb) (h x)
  refine r_ST_isAtomic ?_
  rw [i_cl (by omega), hz]
  exact ⟨i_in (by omega) (by omega), fun h => q_p0 hp h, fun h => q_p1 hp h⟩
theorem s_ST_isCompound {s : Nat} (ok : q_ok c) (T : x_tree c σ) (hs : s ≤ q_n c) (hp : po (some (q_z (q_kd c s = 1 ∧ ¬ q_leaf c s))) σ) : m_ST_isCompound E d (nI s) σ po := by
  have h15 := ok.1
  have hk : q_kd c s ≤ 5 := by
    by_cases h0 : s = 0
    · subst h0; rw [ok.2.2.2.1]; omega
    · exact (ok.2.2.2.2.1 s (by omega) hs).2.2.1
  have hz : σ 14 s = 0 ↔ q_leaf c s := by
    rw [b_z]
    constructor
    · intro h x q
      have := (T.2.2.2.2.1 s (by omega) x).mpr q
      rw [h x] at this
      cases this
    · intro h x
      cases hb : bt (σ 14 s) x with
      | false => rfl
      | true => exact absurd ((T.2.2.2.2.1 s (by omega) x).mp hb) (h x)
  refine r_ST_isCompound ?_
  rw [i_cl (by omega), hz, T.2.1 s hs]
  simp only [i_eq (x := nI _), i_n (show q_kd c s ≤ 100000 by omega), i_1]
  exact ⟨i_in (by omega) (by omega), fun h => q_p0 hp (fun q => h (by omega)), fun h => ⟨i_in (by omega) (by omega), fun h2 => q_p0 hp (fun q => q.2 h2), fun h2 => q_p1 hp ⟨by omega, h2⟩⟩⟩
theorem s_TT_has {a : Int32} (ok : q_ok c) (T : x_tr c σ) (hp : po (some (q_z (0 ≤ a.toInt ∧ a.toInt < q_nt c))) σ) : m_TT_has E d a σ po := by
  refine r_TT_has ?_
  have := ok.2.1
  rw [T.1]
  simp only [i_lt, i_le, i_0, i_n (show q_nt c ≤ 100000 by omega)]
  exact ⟨fun h => q_p0 hp (by omega), fun h => ⟨fun h2 => q_p0 hp (by omega), fun h2 => q_p1 hp (by omega)⟩⟩
theorem s_MC_maySource {a : Int32} (ok : q_ok c) (T : x_tree c σ) (hp : po (some (q_z (∃ s, a = nI s ∧ q_st c s ∧ q_kd c s ≠ 3))) σ) : m_MC_maySource E (d + 2) a σ po := by
  have h15 := ok.1
  refine r_MC_maySource (dx_ci1 _ _ (fun po hp => s_ST_isMadeState ok T hp) (q_zb (fun h => q_p0 hp ?_) (fun h => ?_)))
  · rintro ⟨s, e, h1, h2⟩
    exact h ⟨s, e, h1⟩
  · obtain ⟨s, rfl, h1, h2, h3⟩ := h
    rw [i_cl (by omega), T.2.1 s h2]
    simp only [i_eq (x := nI _), i_n (show q_kd c s ≤ 100000 by omega), i_3]
    refine ⟨i_in (by omega) (by omega), fun h => q_p0 hp ?_, fun h => q_p1 hp ⟨s, rfl, ⟨h1, h2, h3⟩, by omega⟩⟩
    rintro ⟨s', e, h4, h5⟩
    have : s = s' := by have := h4.2.1; exact i_nj e (by omega) (by omega)
    subst this
    omega
theorem s_MC_mayTarget {a : Int32} (ok : q_ok c) (T : x_tree c σ) (hp : po (some (q_z (a = -1 ∨ (1 ≤ a.toInt ∧ a.toInt ≤ q_n c)))) σ) : m_MC_mayTarget E (d + 1) a σ po :=
  r_MC_mayTarget ⟨fun h => r_MC_mayTarget_16 (q_p1 hp (Or.inl h)), fun h => dx_ci1 _ _ (fun po hp => s_ST_isMade ok T hp) (q_zb (fun h2 => q_p0 hp (fun q => q.elim h h2)) (fun h2 => r_MC_mayTarget_16 (q_p1 hp (Or.inr h2))))⟩
end XL
