/-! What a microstep enters, in the class. -/
theorem q_domain_ok {c : q_C} (ok : q_ok c) {tgt : Nat} : ∀ (f u : Nat), u ≤ q_n c → q_domain c tgt f u = 0 ∨ (q_kd c (q_domain c tgt f u) = 1 ∧ q_bl c tgt (q_domain c tgt f u)) := by
  intro f
  induction f with
  | zero => intro u _; exact Or.inl rfl
  | succ f ih =>
    intro u hu
    unfold q_domain
    split
    · exact Or.inl rfl
    · next h0 =>
      have hlt := (ok.2.2.2.2.1 u (by omega) hu).1
      by_cases h : q_kd c u = 1 ∧ q_bl c tgt u
      · rw [q_if_t h]; exact Or.inr h
      · rw [q_if_f h]; exact ih _ (by omega)
theorem q_dom_ok {c : q_C} (ok : q_ok c) {t : Nat} (ht : t < q_nt c) (h0 : q_tg c t ≠ 0) : (q_dom c t = 0 ∨ q_kd c (q_dom c t) = 1) ∧ q_bl c (q_tg c t) (q_dom c t) := by
  obtain ⟨a, -, b, -⟩ := ok.2.2.2.2.2.2.1 t ht
  have hb := b.resolve_left h0
  have hlt := (ok.2.2.2.2.1 _ a.1 a.2.1).1
  have := a.2.1
  rcases q_domain_ok ok (tgt := q_tg c t) 16 (q_par c (q_src c t)) (by omega) with h | h
  · refine ⟨Or.inl h, ?_⟩
    unfold q_dom
    rw [h]
    exact q_bl_root ok _ hb.1 hb.2
  · exact ⟨Or.inr h.1, h.2⟩
theorem q_bl_st {c : q_C} (ok : q_ok c) : ∀ (x u : Nat), x ≤ q_n c → q_bl c x u → 1 ≤ u → q_st c u := by
  intro x
  induction x using Nat.strongRecOn with
  | _ x ih =>
    intro u hn h h1
    by_cases h0 : x = 0
    · subst h0; exact absurd h q_bl_0
    · have hk := ok.2.2.2.2.1 x (by omega) hn
      rcases (q_bl_s ok (by omega) hn).mp h with h | h
      · subst h; exact ⟨h1, by omega, by omega⟩
      · exact ih _ hk.1 u (by omega) h h1
/-- the states that a target means -/
noncomputable def q_meant (c : q_C) (r : q_R) (tg x : Nat) : Prop :=
  if q_kd c tg ≤ 3 then x = tg else if q_mem r tg = 0 then x = (if q_kd c (q_par c tg) = 2 then q_par c tg else q_ini c (q_par c tg)) else 1 ≤ x ∧ x ≤ q_n c ∧ bt (q_mem r tg) x = true
theorem q_aim_iff {c : q_C} {r : q_R} {t u : Nat} : q_aim c r t u ↔ ∃ x, q_meant c r (q_tg c t) x ∧ q_want c x (q_dom c t) u := by
  unfold q_aim q_meant
  by_cases h1 : q_kd c (q_tg c t) ≤ 3
  · simp only [if_pos h1]
    exact ⟨fun h => ⟨_, rfl, h⟩, fun ⟨x, e, h⟩ => e ▸ h⟩
  · simp only [if_neg h1]
    by_cases h2 : q_mem r (q_tg c t) = 0
    · simp only [if_pos h2]
      exact ⟨fun h => ⟨_, rfl, h⟩, fun ⟨x, e, h⟩ => e ▸ h⟩
    · simp only [if_neg h2]
      constructor
      · rintro ⟨s, a, b, e, h⟩; exact ⟨s, ⟨a, b, e⟩, h⟩
      · rintro ⟨s, ⟨a, b, e⟩, h⟩; exact ⟨s, a, b, e, h⟩
/-- what a target means lies below its domain -/
theorem q_meant_ok {c : q_C} {r : q_R} (ok : q_ok c) (M : q_mok c r) {t x : Nat} (ht : t < q_nt c) (h0 : q_tg c t ≠ 0) (h : q_meant c r (q_tg c t) x) : q_st c x ∧ q_bl c x (q_dom c t) := by
  obtain ⟨-, -, b, -⟩ := ok.2.2.2.2.2.2.1 t ht
  have hb := b.resolve_left h0
  obtain ⟨d1, d2⟩ := q_dom_ok ok ht h0
  have hk := ok.2.2.2.2.1 _ hb.1 hb.2
  unfold q_meant at h
  by_cases h1 : q_kd c (q_tg c t) ≤ 3
  · rw [if_pos h1] at h
    subst h
    exact ⟨⟨hb.1, hb.2, h1⟩, d2⟩
  · rw [if_neg h1] at h
    have hp0 : q_par c (q_tg c t) ≠ 0 := fun z => h1 (hk.2.2.2.2.2 z)
    have hpn : q_par c (q_tg c t) ≤ q_n c := by omega
    have key : ∀ y, q_st c y → q_bl c y (q_par c (q_tg c t)) → q_bl c y (q_dom c t) := by
      intro y hy hyp
      rcases (q_bl_s ok hb.1 hb.2).mp d2 with z | z
      · rw [← z]; exact hyp
      · exact q_bl_tr ok y _ _ hy.2.1 hyp z
    by_cases h2 : q_mem r (q_tg c t) = 0
    · rw [if_pos h2] at h
      by_cases h3 : q_kd c (q_par c (q_tg c t)) = 2
      · rw [if_pos h3] at h
        subst h
        refine ⟨⟨by omega, hpn, by omega⟩, ?_⟩
        rcases (q_bl_s ok hb.1 hb.2).mp d2 with z | z
        · exfalso
          rcases d1 with d1 | d1
          · rw [d1] at z; exact hp0 z
          · rw [← z] at d1; omega
        · exact z
      · rw [if_neg h3] at h
        have hex := M.1.2 (q_par c (q_tg c t)) (by omega) hpn (Or.inr ⟨_, hb.1, hb.2, rfl⟩)
        have hini := q_ini_ch ok hex
        subst h
        exact ⟨hini.1, key _ hini.1 ((q_bl_s ok hini.1.1 hini.1.2.1).mpr (Or.inl hini.2))⟩
    · rw [if_neg h2] at h
      obtain ⟨m1, m2⟩ := M.2 (q_tg c t) x hb.1 hb.2 (by omega) h.2.2
      exact ⟨m1, key x m1 m2⟩
section XE
variable {E : dx_E} {d : Nat} {σ : dx_V} {po : dx_P} {c : q_C} {r : q_R}
theorem s_RU_meantBy {tg : Nat} (ok : q_ok c) (X : x_all c r σ) (M : q_mok c r) (h1 : 1 ≤ tg) (hn : tg ≤ q_n c) (hp : ∀ w : Int32, (∀ x, bt w x = true ↔ q_meant c r tg x) → po (some w) σ) : m_RU_meantBy E (d + 1) (nI tg) σ po := by
  have h15 := ok.1
  have hk := ok.2.2.2.2.1 tg h1 hn
  have hin : vp_in (nI tg) 16 := i_in (by omega) (by omega)
  refine r_RU_meantBy (dx_ci1 _ _ (fun po hp => s_ST_isHistory ok X.1 hn hp) (q_zc (fun q => ⟨hin, ?_⟩) (fun q => hp _ (fun x => ?_))))
  · rw [i_cl (by omega), X.2.2.2.2.2.2.2.1 tg (by omega), X.1.2.2.1 tg h1 hn]
    have hp0 : q_par c tg ≠ 0 := fun z => by have := hk.2.2.2.2.2 z; omega
    refine ⟨fun q2 => ⟨hin, i_in (by omega) (by omega), ?_⟩, fun q2 => ⟨hin, hp _ (fun x => ?_)⟩⟩
    · rw [i_cl (by omega), X.1.2.1 (q_par c tg) (by omega)]
      refine ⟨fun q3 => ⟨i_in (by omega) (by omega), ?_⟩, fun q3 => hp _ (fun x => ?_)⟩
      · have hex := M.1.2 (q_par c tg) (by omega) (by omega) (Or.inr ⟨tg, h1, hn, rfl⟩)
        have := q_ch_par ok (q_ini_ch ok hex)
        rw [X.1.2.2.2.1 (q_par c tg) (by omega) hex]
        refine hp _ (fun x => ?_)
        unfold q_meant
        rw [if_neg (by omega), if_pos q2, if_neg (fun z => q3 (by rw [z]; rfl))]
        exact b_one (by omega)
      · unfold q_meant
        rw [if_neg (by omega), if_pos q2, if_pos (i_nj (b := 2) q3 (by omega) (by omega))]
        exact b_one (by omega)
    · unfold q_meant
      rw [if_neg (by omega), if_neg q2]
      constructor
      · intro z
        have := (M.2 tg x h1 hn q z).1
        exact ⟨this.1, this.2.1, z⟩
      · intro z; exact z.2.2
  · unfold q_meant
    rw [if_pos (by omega)]
    exact b_one (by omega)
theorem s_RU_entries {l : List Nat} (ok : q_ok c) (X : x_all c r σ) (M : q_mok c r) (S : x_num l (σ 6 6) (σ 31)) (hl : l.length ≤ 20) (hb : ∀ u ∈ l, u < q_nt c) (hp : ∀ w : Int32, (∀ x, bt w x = true ↔ q_full c (q_base c r l) x) → po (some w) σ) : ∀ (f i : Nat) (w : Int32), f + i = l.length → (∀ x, bt w x = true ↔ q_base c r (l.take i) x) → g_RU_entrySet_4 E (d + 2) po w (nI i) σ := by
  have h20 := ok.2.1
  have h15 := ok.1
  intro f
  induction f with
  | zero =>
    intro i w hi hw
    rw [List.take_of_length_le (by omega)] at hw
    refine r_RU_entrySet_4 ?_
    rw [S.1]
    simp only [i_le, i_n (show l.length ≤ 100000 by omega), i_n (show i ≤ 100000 by omega)]
    refine ⟨fun _ => dx_ciR (fun x σ1 => σ1 = σ ∧ ∀ s, bt x s = true ↔ q_full c (q_base c r l) s) (fun po hpo => s_ST_completed ok X.1 hw (fun x hx => hpo x σ ⟨rfl, hx⟩)) ?_, fun h => absurd h (by omega)⟩
    rintro x σ1 ⟨rfl, hx⟩
    exact hp x hx
  | succ f ih =>
    intro i w hi hw
    obtain ⟨u, hu⟩ : ∃ u, l[i]? = some u := ⟨l[i]'(by omega), List.getElem?_eq_getElem (by omega)⟩
    have hub := hb u (List.mem_of_getElem? hu)
    have htk : l.take (i + 1) = l.take i ++ [u] := by rw [List.take_add_one, hu]; rfl
    obtain ⟨-, -, g3, g4, -⟩ := X.2.1.2 u hub
    have htg := (ok.2.2.2.2.2.2.1 u hub).2.2.1
    have hin : vp_in (nI u) 20 := i_in (by omega) (by omega)
    refine r_RU_entrySet_4 ?_
    rw [S.1, i_cl (n := i) (by omega), S.2 i u hu, i_inc i, i_cl (n := u) (by omega), g3]
    simp only [i_le, i_n (show l.length ≤ 100000 by omega), i_n (show i ≤ 100000 by omega)]
    refine ⟨fun h => absurd h (by omega), fun _ => ⟨i_in (by omega) (by omega), hin, fun q => ?_, fun q => ⟨hin, ?_⟩⟩⟩
    · have h0 : q_tg c u = 0 := Classical.byContradiction fun z => by
        rw [if_neg z, i_eq, i_n (by omega), i_m1] at q
        omega
      refine ih (i + 1) w (by omega) (fun x => ?_)
      rw [hw, htk]
      unfold q_base
      constructor
      · rintro ⟨t, z1, z2⟩; exact ⟨t, List.mem_append_left _ z1, z2⟩
      · rintro ⟨t, z1, z2⟩
        rcases List.mem_append.mp z1 with z1 | z1
        · exact ⟨t, z1, z2⟩
        · rw [List.mem_singleton.mp z1] at z2; exact absurd h0 z2.1
    · have h0 : q_tg c u ≠ 0 := fun z => q (by rw [if_pos z])
      have ht2 := htg.resolve_left h0
      have hd := q_domt_le ok hub
      rw [if_neg h0]
      refine dx_ciR (fun y σ1 => σ1 = σ ∧ ∀ x, bt y x = true ↔ q_meant c r (q_tg c u) x) (fun po hpo => s_RU_meantBy ok X M ht2.1 ht2.2 (fun x hx => hpo x σ ⟨rfl, hx⟩)) ?_
      rintro y σ1 ⟨rfl, hy⟩
      rw [g4 h0]
      refine ⟨hin, dx_ciR (fun z σ2 => σ2 = σ1 ∧ ∀ x, bt z x = true ↔ (bt y x = true ∨ ∃ v, 1 ≤ v ∧ v ≤ q_n c ∧ bt y v = true ∧ q_bl c v x ∧ q_st c x ∧ q_bl c x (q_dom c u))) (fun po hpo => s_RU_withPath ok X.1 hd (fun x hx => hpo x _ ⟨rfl, hx⟩)) ?_⟩
      rintro z σ2 ⟨rfl, hz⟩
      refine ih (i + 1) _ (by omega) (fun x => ?_)
      have e1 : bt z x = true ↔ q_aim c r u x := by
        rw [hz x, q_aim_iff]
        unfold q_want
        constructor
        · rintro (h | ⟨v, v1, v2, v3, v4, v5, v6⟩)
          · exact ⟨x, (hy x).mp h, Or.inl rfl, (q_meant_ok ok M hub h0 ((hy x).mp h)).2⟩
          · exact ⟨v, (hy v).mp v3, Or.inr v4, v6⟩
        · rintro ⟨v, v1, rfl | v2, v3⟩
          · exact Or.inl ((hy x).mpr v1)
          · have hv := (q_meant_ok ok M hub h0 v1).1
            have hx0 : 1 ≤ x := Nat.one_le_iff_ne_zero.mpr (fun e => by subst e; exact q_bl_0 v3)
            exact Or.inr ⟨v, hv.1, hv.2.1, (hy v).mpr v1, v2, q_bl_st ok v x hv.2.1 v2 hx0, v3⟩
      rw [b_or, Bool.or_eq_true, hw, e1, htk]
      unfold q_base
      constructor
      · rintro (⟨t, z1, z2⟩ | h)
        · exact ⟨t, List.mem_append_left _ z1, z2⟩
        · exact ⟨u, List.mem_append_right _ List.mem_cons_self, h0, h⟩
      · rintro ⟨t, z1, z2⟩
        rcases List.mem_append.mp z1 with z1 | z1
        · exact Or.inl ⟨t, z1, z2⟩
        · rw [List.mem_singleton.mp z1] at z2; exact Or.inr z2.2
theorem s_RU_entrySet {l : List Nat} (ok : q_ok c) (X : x_all c r σ) (M : q_mok c r) (S : x_num l (σ 6 6) (σ 31)) (hl : l.length ≤ 20) (hb : ∀ u ∈ l, u < q_nt c) (hp : ∀ w : Int32, (∀ x, bt w x = true ↔ q_full c (q_base c r l) x) → po (some w) σ) : m_RU_entrySet E (d + 2) σ po :=
  r_RU_entrySet (s_RU_entries ok X M S hl hb hp l.length 0 0 (by omega) (fun x => by
    rw [b_0]
    constructor
    · intro q; cases q
    · rintro ⟨t, q, -⟩; cases q))
end XE
