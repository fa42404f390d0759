/-! What the reference's cells hold; its reading methods. -/
def y_tree (c : q_C) (σ : dx_V) : Prop := σ 0 0 = nI (q_n c) ∧ (∀ s, 1 ≤ s → s ≤ q_n c → σ 1 s = nI (q_par c s)) ∧ (∀ s, s ≤ q_n c → σ 2 s = nI (q_kd c s)) ∧ ∀ s, s ≤ 15 → σ 3 s = nI (q_nam c s)
def y_tr (c : q_C) (σ : dx_V) : Prop := σ 0 4 = nI (q_nt c) ∧ (∀ t, t < q_nt c → σ 4 t = nI (q_src c t) ∧ σ 5 t = q_ev c t ∧ σ 6 t = (if q_tg c t = 0 then -1 else nI (q_tg c t)) ∧ (q_gd c t = none → σ 7 t = 0) ∧ (∀ w o v, q_gd c t = some (w, o, v) → σ 7 t = 1 ∧ σ 8 t = nI w ∧ σ 9 t = nI o ∧ σ 10 t = v)) ∧ ∀ t, q_nt c ≤ t → t < 20 → σ 7 t = 0
def y_ac (c : q_C) (σ : dx_V) : Prop := σ 0 12 = nI (q_na c) ∧ ∀ k, k < q_na c → σ 11 k = q_ow c k ∧ σ 12 k = nI (q_op c k) ∧ σ 13 k = q_a c k ∧ σ 14 k = q_b c k
def y_run (r : q_R) (σ : dx_V) : Prop :=
  σ 0 30 = q_ck r ∧ σ 0 19 = nI (q_mi r) ∧ σ 0 17 = nI (q_out r) ∧ (q_out r = 1 → σ 0 18 = q_z (q_end r)) ∧
  (∀ s, s < 16 → σ 16 s = q_mem r s) ∧ (∀ v, v < 4 → σ 17 v = q_var r v) ∧ (∀ x, x < 16 → σ 15 x = q_z (q_on r x)) ∧
  x_line (q_in r) (σ 0 23) (σ 18) ∧ x_line (q_ex r) (σ 0 25) (σ 19) ∧ x_line (q_rc r) (σ 0 31) (σ 22) ∧ x_sent (q_se r) (σ 0 27) (σ 20) (σ 21)
def y_all (c : q_C) (r : q_R) (σ : dx_V) : Prop := y_tree c σ ∧ y_tr c σ ∧ y_ac c σ ∧ y_run r σ
/-- nothing but the arrays W and the slots S has changed -/
def y_fr (W S : List Nat) (σ σ' : dx_V) : Prop := (∀ k, k ≠ 0 → k ∉ W → σ' k = σ k) ∧ ∀ j, j ∉ S → σ' 0 j = σ 0 j
theorem y_fr_rf {W S : List Nat} {σ : dx_V} : y_fr W S σ σ := ⟨fun _ _ _ => rfl, fun _ _ => rfl⟩
theorem y_fr_tr {W W' S S' : List Nat} {σ σ' σ'' : dx_V} (h : y_fr W S σ σ') (h' : y_fr W' S' σ' σ'') (hs : ∀ k, k ∈ W → k ∈ W') (hs2 : ∀ k, k ∈ S → k ∈ S') : y_fr W' S' σ σ'' := ⟨fun k k0 hk => (h'.1 k k0 hk).trans (h.1 k k0 (fun q => hk (hs k q))), fun j hj => (h'.2 j hj).trans (h.2 j (fun q => hj (hs2 j q)))⟩
theorem y_fr_t {W S : List Nat} {σ σ' σ'' : dx_V} (h : y_fr W S σ σ') (h' : y_fr W S σ' σ'') : y_fr W S σ σ'' := y_fr_tr h h' (fun _ z => z) (fun _ z => z)
theorem y_fr_w {W W' S S' : List Nat} {σ σ' : dx_V} (h : y_fr W S σ σ') (hs : ∀ k, k ∈ W → k ∈ W') (hs2 : ∀ k, k ∈ S → k ∈ S') : y_fr W' S' σ σ' := ⟨fun k k0 hk => h.1 k k0 (fun q => hk (hs k q)), fun j hj => h.2 j (fun q => hj (hs2 j q))⟩
theorem y_fr_a {W S : List Nat} {σ σ' : dx_V} {k j : Nat} {x : Int32} (h : y_fr W S σ σ') (k0 : k ≠ 0) (hk : k ∈ W) : y_fr W S σ (dx_u σ' k j x) := ⟨fun q q0 hq => by
  rw [dx_un (fun e => hq (by rw [e]; exact hk))]
  exact h.1 q q0 hq, fun q hq => by
  rw [dx_un (fun e => k0 e.symm)]
  exact h.2 q hq⟩
theorem y_fr_s {W S : List Nat} {σ σ' : dx_V} {j : Nat} {x : Int32} (h : y_fr W S σ σ') (hj : j ∈ S) : y_fr W S σ (dx_u σ' 0 j x) := ⟨fun q q0 hq => by
  rw [dx_un q0]
  exact h.1 q q0 hq, fun q hq => by
  rw [dx_uk (fun e => hq (by rw [e]; exact hj))]
  exact h.2 q hq⟩
theorem y_tree_fr {c : q_C} {σ σ' : dx_V} {W S : List Nat} (h : y_tree c σ) (f : y_fr W S σ σ') (hw : ∀ k ∈ ([1, 2, 3] : List Nat), k ∉ W) (hs : 0 ∉ S) : y_tree c σ' := by
  unfold y_tree
  rw [f.1 1 (by decide) (hw 1 (by decide)), f.1 2 (by decide) (hw 2 (by decide)), f.1 3 (by decide) (hw 3 (by decide)), f.2 0 hs]
  exact h
theorem y_tr_fr {c : q_C} {σ σ' : dx_V} {W S : List Nat} (h : y_tr c σ) (f : y_fr W S σ σ') (hw : ∀ k ∈ ([4, 5, 6, 7, 8, 9, 10] : List Nat), k ∉ W) (hs : 4 ∉ S) : y_tr c σ' := by
  unfold y_tr
  rw [f.1 4 (by decide) (hw 4 (by decide)), f.1 5 (by decide) (hw 5 (by decide)), f.1 6 (by decide) (hw 6 (by decide)), f.1 7 (by decide) (hw 7 (by decide)), f.1 8 (by decide) (hw 8 (by decide)), f.1 9 (by decide) (hw 9 (by decide)), f.1 10 (by decide) (hw 10 (by decide)), f.2 4 hs]
  exact h
theorem y_ac_fr {c : q_C} {σ σ' : dx_V} {W S : List Nat} (h : y_ac c σ) (f : y_fr W S σ σ') (hw : ∀ k ∈ ([11, 12, 13, 14] : List Nat), k ∉ W) (hs : 12 ∉ S) : y_ac c σ' := by
  unfold y_ac
  rw [f.1 11 (by decide) (hw 11 (by decide)), f.1 12 (by decide) (hw 12 (by decide)), f.1 13 (by decide) (hw 13 (by decide)), f.1 14 (by decide) (hw 14 (by decide)), f.2 12 hs]
  exact h
theorem y_run_fr {r : q_R} {σ σ' : dx_V} {W S : List Nat} (h : y_run r σ) (f : y_fr W S σ σ') (hw : ∀ k ∈ ([15, 16, 17, 18, 19, 20, 21, 22] : List Nat), k ∉ W) (hs : ∀ k ∈ ([17, 18, 19, 23, 25, 27, 30, 31] : List Nat), k ∉ S) : y_run r σ' := by
  unfold y_run
  rw [f.1 15 (by decide) (hw 15 (by decide)), f.1 16 (by decide) (hw 16 (by decide)), f.1 17 (by decide) (hw 17 (by decide)), f.1 18 (by decide) (hw 18 (by decide)), f.1 19 (by decide) (hw 19 (by decide)), f.1 20 (by decide) (hw 20 (by decide)), f.1 21 (by decide) (hw 21 (by decide)), f.1 22 (by decide) (hw 22 (by decide)), f.2 17 (hs 17 (by decide)), f.2 18 (hs 18 (by decide)), f.2 19 (hs 19 (by decide)), f.2 23 (hs 23 (by decide)), f.2 25 (hs 25 (by decide)), f.2 27 (hs 27 (by decide)), f.2 30 (hs 30 (by decide)), f.2 31 (hs 31 (by decide))]
  exact h
/-- a child of any kind -/
def q_kid (c : q_C) (s x : Nat) : Prop := 1 ≤ x ∧ x ≤ q_n c ∧ q_par c x = s
section ML
variable {E : dx_E} {d : Nat} {σ : dx_V} {po : dx_P} {c : q_C} {r : q_R}
theorem t_is {a : Int32} (ok : q_ok c) (T : y_tree c σ) (hp : po (some (q_z (∃ s, a = nI s ∧ q_st c s))) σ) : m_MM_is E d a σ po := by
  have h15 := ok.1
  refine r_MM_is ?_
  rw [T.1]
  simp only [i_lt, i_1, i_3, i_n (show q_n c ≤ 100000 by omega)]
  refine ⟨fun h => q_p0 hp ?_, fun h => ⟨fun h2 => q_p0 hp ?_, fun h2 => ?_⟩⟩
  · rintro ⟨s, rfl, z⟩; have := z.1; have := z.2.1; rw [i_n (by omega)] at h; omega
  · rintro ⟨s, rfl, z⟩; have := z.1; have := z.2.1; rw [i_n (by omega)] at h2; omega
  · obtain ⟨e1, e2⟩ := i_ix (x := a) (by omega)
    generalize a.toNatClampNeg = s at e1 e2
    subst e1
    have hs : 1 ≤ s ∧ s ≤ q_n c := by omega
    have hk := ok.2.2.2.2.1 s hs.1 hs.2
    rw [T.2.2.1 s hs.2, i_n (by omega)]
    refine ⟨i_in (by omega) (by omega), fun z => q_p0 hp ?_, fun z => q_p1 hp ⟨s, rfl, hs.1, hs.2, by omega⟩⟩
    rintro ⟨s', e, z2⟩
    have := z2.2.1
    have e : s = s' := i_nj e (by omega) (by omega)
    subst e
    have := z2.2.2
    omega
theorem t_hasc {s : Nat} {b : Int32} (ok : q_ok c) (T : y_tree c σ) (hs : s ≤ 15) (hp : po (some (q_z (∃ x, q_kid c s x ∧ (b ≠ 0 ∨ q_kd c x ≤ 3)))) σ) : ∀ (f i : Nat), f + i = q_n c + 1 → 1 ≤ i → (∀ x, x < i → ¬ (q_kid c s x ∧ (b ≠ 0 ∨ q_kd c x ≤ 3))) → g_MM_hasChild_2 E d po (nI s) b (nI i) σ := by
  have h15 := ok.1
  intro f
  induction f with
  | zero =>
    intro i hi h1 hno
    refine r_MM_hasChild_2 ?_
    rw [T.1]
    simp only [i_lt, i_n (show q_n c ≤ 100000 by omega), i_n (show i ≤ 100000 by omega)]
    refine ⟨fun _ => q_p0 hp ?_, fun q => absurd (by omega) q⟩
    rintro ⟨x, z⟩
    have := z.1.2.1
    exact hno x (by omega) z
  | succ f ih =>
    intro i hi h1 hno
    have hk := ok.2.2.2.2.1 i h1 (by omega)
    have hin : vp_in (nI i) 16 := i_in (by omega) (by omega)
    refine r_MM_hasChild_2 ?_
    rw [T.1, i_cl (n := i) (by omega), T.2.1 i h1 (by omega), T.2.2.1 i (by omega), i_inc i]
    have e1 : nI (q_par c i) = nI s ↔ q_par c i = s := ⟨fun z => i_nj z (by omega) (by omega), fun z => by rw [z]⟩
    rw [e1]
    simp only [i_lt, i_3, i_n (show q_n c ≤ 100000 by omega), i_n (show i ≤ 100000 by omega), i_n (show q_kd c i ≤ 100000 by omega)]
    have next : ¬ (q_kid c s i ∧ (b ≠ 0 ∨ q_kd c i ≤ 3)) → g_MM_hasChild_2 E d po (nI s) b (nI (i + 1)) σ := fun hB => ih (i + 1) (by omega) (by omega) (fun x hx => by
      by_cases e : x = i
      · subst e; exact hB
      · exact hno x (by omega))
    refine ⟨fun q => absurd q (by omega), fun _ => ⟨hin, fun q => next (fun z => q z.1.2.2), fun q => ⟨fun q2 => q_p1 hp ⟨i, ⟨h1, by omega, q⟩, Or.inl q2⟩, fun q2 => ⟨hin, fun q3 => next (fun z => z.2.elim (fun y => y q2) (fun y => by omega)), fun q3 => q_p1 hp ⟨i, ⟨h1, by omega, q⟩, Or.inr (by omega)⟩⟩⟩⟩⟩
theorem t_hasChild {s : Nat} {b : Int32} (ok : q_ok c) (T : y_tree c σ) (hs : s ≤ 15) (hp : po (some (q_z (∃ x, q_kid c s x ∧ (b ≠ 0 ∨ q_kd c x ≤ 3)))) σ) : m_MM_hasChild E d (nI s) b σ po :=
  r_MM_hasChild (t_hasc ok T hs hp (q_n c) 1 (by omega) (by omega) (fun x hx z => by have := z.1.1; omega))
theorem t_anyChild {s : Nat} (ok : q_ok c) (T : y_tree c σ) (hs : s ≤ 15) (hp : po (some (q_z (∃ x, q_kid c s x))) σ) : m_MM_hasChild E d (nI s) 1 σ po := by
  refine t_hasChild ok T hs ?_
  rw [q_z_eq (show (∃ x, q_kid c s x ∧ ((1 : Int32) ≠ 0 ∨ q_kd c x ≤ 3)) ↔ ∃ x, q_kid c s x from ⟨fun ⟨x, z⟩ => ⟨x, z.1⟩, fun ⟨x, z⟩ => ⟨x, z, Or.inl (by decide)⟩⟩)]
  exact hp
theorem t_stChild {s : Nat} (ok : q_ok c) (T : y_tree c σ) (hs : s ≤ 15) (hp : po (some (q_z (∃ x, q_ch c s x))) σ) : m_MM_hasChild E d (nI s) 0 σ po := by
  refine t_hasChild ok T hs ?_
  rw [q_z_eq (show (∃ x, q_kid c s x ∧ ((0 : Int32) ≠ 0 ∨ q_kd c x ≤ 3)) ↔ ∃ x, q_ch c s x from ⟨fun ⟨x, z⟩ => ⟨x, ⟨z.1.1, z.1.2.1, z.2.resolve_left (fun q => q rfl)⟩, z.1.2.2⟩, fun ⟨x, z⟩ => ⟨x, ⟨z.1.1, z.1.2.1, z.2⟩, Or.inr z.1.2.2⟩⟩)]
  exact hp
theorem t_compound {s : Nat} (ok : q_ok c) (T : y_tree c σ) (hs : s ≤ q_n c) (hp : po (some (q_z (q_kd c s = 1 ∧ ∃ x, q_kid c s x))) σ) : m_MM_compound E (d + 1) (nI s) σ po := by
  have h15 := ok.1
  have hk : q_kd c s ≤ 5 := by
    by_cases h0 : s = 0
    · subst h0; rw [ok.2.2.2.1]; omega
    · exact (ok.2.2.2.2.1 s (by omega) hs).2.2.1
  refine r_MM_compound ?_
  rw [i_cl (n := s) (by omega), T.2.2.1 s hs]
  have e1 : nI (q_kd c s) = 1 ↔ q_kd c s = 1 := by rw [i_eq, i_n (by omega), i_1]; omega
  rw [e1]
  exact ⟨i_in (by omega) (by omega), fun q => q_p0 hp (fun z => q z.1), fun q => dx_ci1 _ _ (fun po hp => t_anyChild ok T (by omega) hp) (q_zb (fun q2 => q_p0 hp (fun z => q2 z.2)) (fun q2 => q_p1 hp ⟨q, q2⟩))⟩
theorem t_bel {b : Nat} (ok : q_ok c) (T : y_tree c σ) (hb : b ≤ 15) : ∀ (u : Nat), u ≤ q_n c → po (some (q_z (q_bl c u b))) σ → g_MM_below_2 E d po (nI b) (nI u) σ := by
  have h15 := ok.1
  intro u
  induction u using Nat.strongRecOn with
  | _ u ih =>
    intro hn hp
    refine r_MM_below_2 ?_
    have e0 : nI u = 0 ↔ u = 0 := by rw [i_eq, i_n (by omega), i_0]; omega
    rw [e0]
    refine ⟨fun q => q_p0 hp (by subst q; exact q_bl_0), fun q => ⟨i_in (by omega) (by omega), ?_⟩⟩
    have hk := ok.2.2.2.2.1 u (by omega) hn
    rw [i_cl (n := u) (by omega), T.2.1 u (by omega) hn]
    have e1 : nI (q_par c u) = nI b ↔ q_par c u = b := ⟨fun z => i_nj z (by omega) (by omega), fun z => by rw [z]⟩
    rw [e1]
    rw [q_z_eq (q_bl_s ok (by omega) hn)] at hp
    refine ⟨fun q2 => ih _ hk.1 (by omega) ?_, fun q2 => q_p1 hp (Or.inl q2)⟩
    rw [q_z_eq (show q_bl c (q_par c u) b ↔ q_par c u = b ∨ q_bl c (q_par c u) b from ⟨Or.inr, fun z => z.resolve_left q2⟩)]
    exact hp
theorem t_below {a b : Nat} (ok : q_ok c) (T : y_tree c σ) (ha : a ≤ q_n c) (hb : b ≤ 15) (hp : po (some (q_z (q_bl c a b))) σ) : m_MM_below E d (nI a) (nI b) σ po := r_MM_below (t_bel ok T hb a ha hp)
theorem t_ini18 {s : Nat} (ok : q_ok c) (T : y_tree c σ) (hs : s ≤ 15) {x : Nat} (hx : q_ch c s x) (hl : ∀ y, y < x → ¬ q_ch c s y) (hp : po (some (nI x)) σ) : ∀ (f i : Nat), f + i = x → 1 ≤ i → g_MM_initialOf_18 E d po (nI s) (nI i) σ := by
  have h15 := ok.1
  have hxn := hx.1.2.1
  intro f
  induction f with
  | zero =>
    intro i hi h1
    obtain rfl : i = x := by omega
    have hk := ok.2.2.2.2.1 i h1 (by omega)
    have hin : vp_in (nI i) 16 := i_in (by omega) (by omega)
    refine r_MM_initialOf_18 ?_
    rw [T.1, i_cl (n := i) (by omega), T.2.1 i h1 (by omega), T.2.2.1 i (by omega)]
    simp only [i_le, i_3, i_n (show q_n c ≤ 100000 by omega), i_n (show i ≤ 100000 by omega), i_n (show q_kd c i ≤ 100000 by omega)]
    have := hx.1.2.2
    exact ⟨fun _ => hp, fun _ => ⟨hin, fun q => absurd (by rw [hx.2]) q, fun _ => ⟨hin, fun _ => hp, fun q => absurd (by omega) q⟩⟩⟩
  | succ f ih =>
    intro i hi h1
    have hk := ok.2.2.2.2.1 i h1 (by omega)
    have hin : vp_in (nI i) 16 := i_in (by omega) (by omega)
    refine r_MM_initialOf_18 ?_
    rw [T.1, i_cl (n := i) (by omega), T.2.1 i h1 (by omega), T.2.2.1 i (by omega), i_inc i]
    have e1 : nI (q_par c i) = nI s ↔ q_par c i = s := ⟨fun z => i_nj z (by omega) (by omega), fun z => by rw [z]⟩
    rw [e1]
    simp only [i_le, i_3, i_n (show q_n c ≤ 100000 by omega), i_n (show i ≤ 100000 by omega), i_n (show q_kd c i ≤ 100000 by omega)]
    have nx := ih (i + 1) (by omega) (by omega)
    exact ⟨fun q => absurd q (by omega), fun _ => ⟨hin, fun _ => nx, fun q => ⟨hin, fun q2 => absurd ⟨⟨h1, by omega, by omega⟩, q⟩ (hl i (by omega)), fun _ => nx⟩⟩⟩
theorem t_initialOf {s : Nat} (ok : q_ok c) (T : y_tree c σ) (hc : ∃ x, q_ch c s x) (hp : po (some (nI (q_ini c s))) σ) : m_MM_initialOf E d (nI s) σ po := by
  have h15 := ok.1
  have hs := (q_ch_par ok hc.choose_spec).2.1
  refine r_MM_initialOf ?_
  have hin : vp_in (nI s) 16 := i_in (by omega) (by omega)
  rw [i_cl (n := s) (by omega), T.2.2.2 s (by omega)]
  have hnm : q_nam c s ≤ 15 := by
    rcases ok.2.2.2.2.2.1 s with z | z
    · omega
    · have := z.1.2.1; omega
  have e0 : nI (q_nam c s) ≤ 0 ↔ q_nam c s = 0 := by rw [i_le, i_n (by omega), i_0]; omega
  rw [e0]
  unfold q_ini at hp
  refine ⟨hin, fun q => ?_, fun q => ⟨hin, ?_⟩⟩
  · rw [if_pos q] at hp
    obtain ⟨x, x1, x2⟩ := q_least_ch hc
    have := x1.1.1
    have := x1.1.2.1
    rw [q_first_is x1 16 1 (by omega) (by omega) (fun y _ y2 => x2 y y2)] at hp
    exact t_ini18 ok T (by omega) x1 x2 hp (x - 1) 1 (by omega) (by omega)
  · rw [if_neg q] at hp; exact hp
theorem t_holds {t : Nat} (ok : q_ok c) (X : y_all c r σ) (ht : t < q_nt c) (hp : po (some (q_z (q_holds c r t))) σ) : m_MM_holds E d (nI t) σ po := by
  have h20 := ok.2.1
  have h15 := ok.1
  obtain ⟨-, -, -, g1, g2⟩ := X.2.1.2.1 t ht
  have gk := (ok.2.2.2.2.2.2.1 t ht).2.2.2
  refine r_MM_holds ?_
  rw [i_cl (n := t) (by omega)]
  have hin : vp_in (nI t) 20 := i_in (by omega) (by omega)
  refine ⟨hin, ?_⟩
  cases hg : q_gd c t with
  | none =>
    rw [g1 hg]
    refine ⟨fun q => absurd rfl q, fun _ => q_p1 hp ?_⟩
    intro g h
    rw [hg] at h
    cases h
  | some g =>
    obtain ⟨w, o, v⟩ := g
    obtain ⟨e0, e1, e2, e3⟩ := g2 w o v hg
    have hP : q_holds c r t ↔ (if o = 0 then q_var r w < v else if o = 1 then q_var r w = v else if o = 2 then v < q_var r w else q_on r v.toNatClampNeg) := by
      unfold q_holds
      rw [hg]
      constructor
      · intro h; exact h (w, o, v) rfl
      · intro h g hh; cases hh; exact h
    rw [q_z_eq hP] at hp
    have ho : o ≤ 3 := by rcases gk _ hg with q | q <;> (have := q.1; simp only at this; omega)
    rw [e0, e1, e2, e3]
    have en : ∀ k : Nat, k ≤ 3 → (nI o = nI k ↔ o = k) := fun k hk => ⟨fun q => i_nj q (by omega) (by omega), fun q => by rw [q]⟩
    have n0 : (nI o = 0 ↔ o = 0) := en 0 (by omega)
    have n1 : (nI o = 1 ↔ o = 1) := en 1 (by omega)
    have n3 : (nI o = 3 ↔ o = 3) := en 3 (by omega)
    rw [n0, n1, n3]
    refine ⟨fun _ => ⟨hin, fun q => ?_, fun q => ⟨hin, ?_⟩⟩, fun q => absurd q (by decide)⟩
    · have hw : w ≤ 3 := by rcases gk _ hg with z | z <;> (have q1 := z.1; simp only at q1; omega)
      rw [i_cl (n := w) (by omega), X.2.2.2.2.2.2.2.2.1 w (by omega)]
      refine ⟨hin, i_in (by omega) (by omega), hin, fun q2 => ⟨hin, fun q3 => ⟨hin, ?_, ?_⟩, fun q3 => ⟨hin, ?_, ?_⟩⟩, fun q2 => ⟨hin, ?_, ?_⟩⟩
      · intro z; rw [if_neg q2, if_neg q3, if_pos (by omega)] at hp; exact q_p0 hp (by rw [i_le] at z; rw [i_lt]; omega)
      · intro z; rw [if_neg q2, if_neg q3, if_pos (by omega)] at hp; exact q_p1 hp (by rw [i_le] at z; rw [i_lt]; omega)
      · intro z; rw [if_neg q2, if_pos q3] at hp; exact q_p0 hp z
      · intro z; rw [if_neg q2, if_pos q3] at hp; exact q_p1 hp z
      · intro z; rw [if_pos q2] at hp; exact q_p0 hp (by rw [i_le] at z; rw [i_lt]; omega)
      · intro z; rw [if_pos q2] at hp; exact q_p1 hp (by rw [i_le] at z; rw [i_lt]; omega)
    · rcases gk _ hg with z | ⟨z, u, q1, q2⟩
      · have q1 := z.1; simp only at q1; omega
      · simp only at q2
        subst q2
        have hu := q1.2.1
        rw [i_cl (n := u) (by omega)] at hp ⊢
        rw [X.2.2.2.2.2.2.2.2.2.1 u (by omega)]
        rw [if_neg (by omega), if_neg (by omega), if_neg (by omega)] at hp
        exact ⟨i_in (by omega) (by omega), q_z_01 _, hp⟩
theorem t_waits {s : Nat} {e : Int32} (ok : q_ok c) (X : y_all c r σ) (hs : s ≤ 15) : ∀ (f i : Nat), f + i = q_nt c → po (some (q_oi (q_fd (fun t => q_src c t = s ∧ q_ev c t = e ∧ q_holds c r t) f i))) σ → g_MM_waiter_2 E (d + 1) po (nI s) e (nI i) σ := by
  have h20 := ok.2.1
  have h15 := ok.1
  intro f
  induction f with
  | zero =>
    intro i hi hp
    refine r_MM_waiter_2 ?_
    rw [X.2.1.1]
    simp only [i_le, i_n (show q_nt c ≤ 100000 by omega), i_n (show i ≤ 100000 by omega)]
    exact ⟨fun _ => hp, fun h => absurd h (by omega)⟩
  | succ f ih =>
    intro i hi hp
    obtain ⟨g1, g2, -⟩ := X.2.1.2.1 i (by omega)
    have hsr := (ok.2.2.2.2.2.2.1 i (by omega)).1.2.1
    refine r_MM_waiter_2 ?_
    rw [X.2.1.1, i_cl (by omega), g1, g2, i_inc]
    simp only [i_le, i_n (show q_nt c ≤ 100000 by omega), i_n (show i ≤ 100000 by omega)]
    have hin : vp_in (nI i) 20 := i_in (by omega) (by omega)
    unfold q_fd at hp
    refine ⟨fun h => absurd h (by omega), fun _ => ⟨hin, fun q => ?_, fun q => ⟨hin, fun q2 => ?_, fun q2 => dx_ci1 _ _ (fun po hp => t_holds ok X (by omega) hp) (q_zb (fun q3 => ?_) (fun q3 => ?_))⟩⟩⟩
    · rw [q_if_f (fun z => q (by rw [z.1]))] at hp
      exact ih (i + 1) (by omega) hp
    · rw [q_if_f (fun z => q2 z.2.1)] at hp
      exact ih (i + 1) (by omega) hp
    · rw [q_if_f (fun z => q3 z.2.2)] at hp
      exact ih (i + 1) (by omega) hp
    · rw [q_if_t ⟨i_nj q (by omega) (by omega), q2, q3⟩] at hp
      exact hp
theorem t_waiter {s : Nat} {e : Int32} (ok : q_ok c) (X : y_all c r σ) (hs : s ≤ 15) (hp : po (some (q_oi (q_wait c r e s))) σ) : m_MM_waiter E (d + 1) (nI s) e σ po :=
  r_MM_waiter (t_waits ok X hs (q_nt c) 0 (by omega) hp)
theorem t_dom {t : Nat} (ok : q_ok c) (X : y_all c r σ) (ht : t < q_nt c) (h0 : q_tg c t ≠ 0) : ∀ (u : Nat), u ≤ q_n c → (u = 0 ∨ ∃ x, q_kid c u x) → po (some (nI (q_domain c (q_tg c t) 16 u))) σ → g_MM_domain_12 E (d + 2) po (nI t) (nI u) σ := by
  have h20 := ok.2.1
  have h15 := ok.1
  have htg := (ok.2.2.2.2.2.2.1 t ht).2.2.1.resolve_left h0
  have g3 := (X.2.1.2.1 t ht).2.2.1
  rw [if_neg h0] at g3
  intro u
  induction u using Nat.strongRecOn with
  | _ u ih =>
    intro hn hk hp
    refine r_MM_domain_12 ?_
    have e0 : nI u = 0 ↔ u = 0 := by rw [i_eq, i_n (by omega), i_0]; omega
    rw [e0]
    refine ⟨fun q => ?_, fun q => ?_⟩
    · subst q; rw [q_domain_0] at hp; exact hp
    · have hlt := (ok.2.2.2.2.1 u (by omega) hn).1
      rw [q_domain_s ok (by omega) hn] at hp
      have next : ¬ (q_kd c u = 1 ∧ q_bl c (q_tg c t) u) → g_MM_domain_38 E (d + 2) po (nI t) (nI u) σ := by
        intro hB
        rw [q_if_f hB] at hp
        refine r_MM_domain_38 ⟨i_in (by omega) (by omega), ?_⟩
        rw [i_cl (n := u) (by omega), X.1.2.1 u (by omega) hn]
        exact ih _ hlt (by omega) (Or.inr ⟨u, by omega, hn, rfl⟩) hp
      refine dx_ci1 _ _ (fun po hp => t_compound ok X.1 hn hp) (q_zb (fun q2 => next (fun z => q2 ⟨z.1, hk.resolve_left q⟩)) (fun q2 => ⟨i_in (by omega) (by omega), ?_⟩))
      rw [i_cl (n := t) (by omega), g3]
      refine dx_ci1 _ _ (fun po hp => t_below ok X.1 htg.2 (by omega) hp) (q_zc (fun q3 => ?_) (fun q3 => next (fun z => q3 z.2)))
      rw [q_if_t ⟨q2.1, q3⟩] at hp
      exact hp
theorem t_domain {t : Nat} (ok : q_ok c) (X : y_all c r σ) (ht : t < q_nt c) (h0 : q_tg c t ≠ 0) (hp : po (some (nI (q_dom c t))) σ) : m_MM_domain E (d + 2) (nI t) σ po := by
  have h20 := ok.2.1
  have h15 := ok.1
  have hs := (ok.2.2.2.2.2.2.1 t ht).1
  have hsn := hs.2.1
  have hk := ok.2.2.2.2.1 _ hs.1 hs.2.1
  refine r_MM_domain ⟨i_in (by omega) (by omega), ?_⟩
  rw [i_cl (n := t) (by omega), (X.2.1.2.1 t ht).1, i_cl (n := q_src c t) (by omega), X.1.2.1 _ hs.1 hs.2.1]
  exact ⟨i_in (by omega) (by omega), t_dom ok X ht h0 _ (by omega) (Or.inr ⟨_, hs.1, hs.2.1, rfl⟩) hp⟩
theorem t_leaves {t s : Nat} (ok : q_ok c) (X : y_all c r σ) (ht : t < q_nt c) (hs : s ≤ q_n c) (hp : po (some (q_z (q_leaves c r t s))) σ) : m_MM_leaves E (d + 3) (nI t) (nI s) σ po := by
  have h20 := ok.2.1
  have h15 := ok.1
  have htg := (ok.2.2.2.2.2.2.1 t ht).2.2.1
  refine r_MM_leaves ⟨i_in (by omega) (by omega), ?_⟩
  rw [i_cl (n := t) (by omega), (X.2.1.2.1 t ht).2.2.1, i_cl (n := s) (by omega), X.2.2.2.2.2.2.2.2.2.1 s (by omega)]
  have e : (if q_tg c t = 0 then (-1 : Int32) else nI (q_tg c t)) = -1 ↔ q_tg c t = 0 := by
    by_cases h : q_tg c t = 0
    · rw [if_pos h]; exact ⟨fun _ => h, fun _ => rfl⟩
    · rw [if_neg h, i_eq, i_n (by omega), i_m1]; omega
  rw [e]
  refine ⟨fun q => q_p0 hp (fun z => z.1 q), fun q => ⟨i_in (by omega) (by omega), q_zb (fun q2 => q_p0 hp (fun z => q2 z.2.1)) (fun q2 => dx_ci1 _ _ (fun po hp => t_domain ok X ht q hp) (dx_ci1 _ _ (fun po hp => t_below ok X.1 hs (by have := q_domt_le ok ht; omega) hp) (q_zb (fun q3 => q_p0 hp (fun z => q3 z.2.2)) (fun q3 => q_p1 hp ⟨q, q2, q3⟩))))⟩⟩
theorem t_clashes {t u : Nat} (ok : q_ok c) (X : y_all c r σ) (ht : t < q_nt c) (hu : u < q_nt c) (hp : po (some (q_z (q_clash c r t u))) σ) : ∀ (f s : Nat), f + s = q_n c + 1 → 1 ≤ s → (∀ x, 1 ≤ x → x < s → ¬ (q_leaves c r t x ∧ q_leaves c r u x)) → g_MM_clash_2 E (d + 4) po (nI t) (nI u) (nI s) σ := by
  have h15 := ok.1
  intro f
  induction f with
  | zero =>
    intro s hi h1 hno
    refine r_MM_clash_2 ?_
    rw [X.1.1]
    simp only [i_lt, i_n (show q_n c ≤ 100000 by omega), i_n (show s ≤ 100000 by omega)]
    refine ⟨fun _ => q_p0 hp ?_, fun q => absurd (by omega) q⟩
    rintro ⟨x, a, b, z⟩
    exact hno x a (by omega) z
  | succ f ih =>
    intro s hi h1 hno
    refine r_MM_clash_2 ?_
    rw [X.1.1, i_inc s]
    simp only [i_lt, i_n (show q_n c ≤ 100000 by omega), i_n (show s ≤ 100000 by omega)]
    have next : ¬ (q_leaves c r t s ∧ q_leaves c r u s) → g_MM_clash_2 E (d + 4) po (nI t) (nI u) (nI (s + 1)) σ := fun hB => ih (s + 1) (by omega) (by omega) (fun x a b => by
      by_cases e : x = s
      · subst e; exact hB
      · exact hno x a (by omega))
    exact ⟨fun q => absurd q (by omega), fun _ => dx_ci1 _ _ (fun po hp => t_leaves ok X ht (by omega) hp) (q_zb (fun q => next (fun z => q z.1)) (fun q => dx_ci1 _ _ (fun po hp => t_leaves ok X hu (by omega) hp) (q_zb (fun q2 => next (fun z => q2 z.2)) (fun q2 => q_p1 hp ⟨s, h1, by omega, q, q2⟩))))⟩
theorem t_clash {t u : Nat} (ok : q_ok c) (X : y_all c r σ) (ht : t < q_nt c) (hu : u < q_nt c) (hp : po (some (q_z (q_clash c r t u))) σ) : m_MM_clash E (d + 4) (nI t) (nI u) σ po :=
  r_MM_clash (t_clashes ok X ht hu hp (q_n c) 1 (by omega) (by omega) (fun x a b => absurd b (by omega)))
theorem t_dones {s : Nat} (ok : q_ok c) (X : y_all c r σ) (hs : s ≤ 15) (hp : po (some (q_z (q_fin c r s))) σ) : ∀ (f i : Nat), f + i = q_n c + 1 → 1 ≤ i → (∀ x, 1 ≤ x → x < i → ¬ (q_par c x = s ∧ q_kd c x = 3 ∧ q_on r x)) → g_MM_done_2 E d po (nI s) (nI i) σ := by
  have h15 := ok.1
  intro f
  induction f with
  | zero =>
    intro i hi h1 hno
    refine r_MM_done_2 ?_
    rw [X.1.1]
    simp only [i_lt, i_n (show q_n c ≤ 100000 by omega), i_n (show i ≤ 100000 by omega)]
    refine ⟨fun _ => q_p0 hp ?_, fun q => absurd (by omega) q⟩
    rintro ⟨x, a, b, z⟩
    exact hno x a (by omega) z
  | succ f ih =>
    intro i hi h1 hno
    have hk := ok.2.2.2.2.1 i h1 (by omega)
    have hin : vp_in (nI i) 16 := i_in (by omega) (by omega)
    refine r_MM_done_2 ?_
    rw [X.1.1, i_cl (n := i) (by omega), X.1.2.1 i h1 (by omega), X.1.2.2.1 i (by omega), X.2.2.2.2.2.2.2.2.2.1 i (by omega), i_inc i]
    have e1 : nI (q_par c i) = nI s ↔ q_par c i = s := ⟨fun z => i_nj z (by omega) (by omega), fun z => by rw [z]⟩
    have e3 : nI (q_kd c i) = 3 ↔ q_kd c i = 3 := by rw [i_eq, i_n (by omega), i_3]; omega
    rw [e1, e3]
    simp only [i_lt, i_n (show q_n c ≤ 100000 by omega), i_n (show i ≤ 100000 by omega)]
    have next : ¬ (q_par c i = s ∧ q_kd c i = 3 ∧ q_on r i) → g_MM_done_2 E d po (nI s) (nI (i + 1)) σ := fun hB => ih (i + 1) (by omega) (by omega) (fun x a b => by
      by_cases e : x = i
      · subst e; exact hB
      · exact hno x a (by omega))
    exact ⟨fun q => absurd q (by omega), fun _ => ⟨hin, fun q => next (fun z => q z.1), fun q => ⟨hin, fun q2 => next (fun z => q2 z.2.1), fun q2 => ⟨hin, q_zb (fun q3 => next (fun z => q3 z.2.2)) (fun q3 => q_p1 hp ⟨i, h1, by omega, q, q2, q3⟩)⟩⟩⟩⟩
theorem t_done {s : Nat} (ok : q_ok c) (X : y_all c r σ) (hs : s ≤ 15) (hp : po (some (q_z (q_fin c r s))) σ) : m_MM_done E d (nI s) σ po :=
  r_MM_done (t_dones ok X hs hp (q_n c) 1 (by omega) (by omega) (fun x a b => absurd b (by omega)))
end ML
