/-! What the reference enters. -/
def y_ent (B : Nat → Prop) (σ : dx_V) : Prop := ∀ s, s ≤ 15 → σ 26 s = q_z (B s)
theorem y_ent_eq {B B' : Nat → Prop} {σ : dx_V} (h : y_ent B σ) (e : ∀ s, B s ↔ B' s) : y_ent B' σ := fun s hs => by rw [h s hs]; exact q_z_eq (e s)
theorem y_ent_set {B : Nat → Prop} {σ : dx_V} {u : Nat} (h : y_ent B σ) : y_ent (fun v => B v ∨ v = u) (dx_u σ 26 u 1) := fun s hs => by
  by_cases e : s = u
  · subst e; rw [dx_us]; exact (q_z_t (Or.inr rfl)).symm
  · rw [dx_uk e, h s hs]; exact q_z_eq ⟨Or.inl, fun z => z.resolve_right e⟩
theorem b_in1 {k : Nat} {x : Int32} (hk : k < 32) : ((x >>> (nI k &&& 31)) &&& 1) = 1 ↔ bt x k = true := by
  constructor
  · intro h
    refine Classical.byContradiction fun n => ?_
    rw [(b_in hk).mpr n] at h
    exact absurd h (by decide)
  · intro h
    refine b_ext (fun i hi => ?_)
    rw [b_and, b_1]
    by_cases e : i = 0
    · subst e
      rw [b_sshr k hk x (by omega : 0 < 32), if_pos (by omega), Nat.add_zero, h]
      rfl
    · simp [e]
theorem q_want_s {c : q_C} (ok : q_ok c) {u dm : Nat} (h1 : 1 ≤ u) (hn : u ≤ q_n c) (hb : q_bl c u dm) (v : Nat) : q_want c u dm v ↔ v = u ∨ q_want c (q_par c u) dm v := by
  unfold q_want
  rw [q_bl_s ok h1 hn]
  constructor
  · rintro ⟨z | z | z, z2⟩
    · exact Or.inl z
    · exact Or.inr ⟨Or.inl z.symm, z2⟩
    · exact Or.inr ⟨Or.inr z, z2⟩
  · rintro (z | ⟨z | z, z2⟩)
    · exact ⟨Or.inl z, by rw [z]; exact hb⟩
    · exact ⟨Or.inr (Or.inl z.symm), z2⟩
    · exact ⟨Or.inr (Or.inr z), z2⟩
theorem q_want_self {c : q_C} (ok : q_ok c) {dm v : Nat} (hn : dm ≤ q_n c) (hv : q_want c dm dm v) (hvn : v ≤ q_n c) : False := by
  have h2 := q_bl_lt ok v dm hvn hv.2
  rcases hv.1 with z | z
  · omega
  · have := q_bl_lt ok dm v hn z; omega
theorem q_full_full {c : q_C} (ok : q_ok c) {B : Nat → Prop} : ∀ x, q_full c (q_full c B) x → q_full c B x := by
  intro x
  induction x using Nat.strongRecOn with
  | _ x ih =>
    intro h
    rcases (q_full_s ok).mp h with z | ⟨z1, z2, z3, z4⟩
    · exact z
    · have hlt := (ok.2.2.2.2.1 x z1.1 z1.2.1).1
      have z3 := ih _ hlt z3
      refine (q_full_s ok).mpr (Or.inr ⟨z1, z2, z3, ?_⟩)
      rcases z4 with z4 | ⟨z4, z5, z6⟩
      · exact Or.inl z4
      · exact Or.inr ⟨z4, fun y hy hB => z5 y hy (Or.inl hB), z6⟩
section MF
variable {E : dx_E} {d : Nat} {po : dx_P} {c : q_C}
theorem t_wants {dm : Nat} {σ0 : dx_V} (ok : q_ok c) (T0 : y_tree c σ0) (hd : dm ≤ q_n c) : ∀ (u : Nat) (B : Nat → Prop) (σ : dx_V), u ≤ q_n c → (u = dm ∨ q_bl c u dm) → y_fr [26] [] σ0 σ → y_ent B σ → (∀ σ' : dx_V, y_ent (fun v => B v ∨ q_want c u dm v) σ' → y_fr [26] [] σ0 σ' → po none σ') → g_MM_want_2 E d po (nI dm) (nI u) σ := by
  have h15 := ok.1
  intro u
  induction u using Nat.strongRecOn with
  | _ u ih =>
    intro B σ hn hb fr he hp
    have T := y_tree_fr T0 fr (by decide) (by decide)
    refine r_MM_want_2 ?_
    have e1 : nI u = nI dm ↔ u = dm := ⟨fun z => i_nj z (by omega) (by omega), fun z => by rw [z]⟩
    have e0 : nI u = 0 ↔ u = 0 := by rw [i_eq, i_n (by omega), i_0]; omega
    rw [e1, e0]
    refine ⟨fun q => hp σ ?_ fr, fun q => ⟨fun q2 => ?_, fun q2 => ⟨i_in (by omega) (by omega), i_in (by omega) (by omega), ?_⟩⟩⟩
    · intro s hs
      rw [he s hs]
      refine q_z_eq ⟨Or.inl, fun z => z.resolve_right (fun z => ?_)⟩
      subst q
      have hsn : s ≤ q_n c := by
        rcases z.1 with y | y
        · omega
        · have := q_bl_lt ok u s hd y; omega
      exact q_want_self ok hd z hsn
    · exfalso
      have := hb.resolve_left q
      rw [q2] at this
      exact q_bl_0 this
    · have hbl := hb.resolve_left q
      have hlt := (ok.2.2.2.2.1 u (by omega) hn).1
      rw [i_cl (n := u) (by omega), T.2.1 u (by omega) hn, nar1]
      refine ih _ hlt _ _ (by omega) ?_ (y_fr_a fr (by decide) (by decide)) (y_ent_set he) (fun σ' z1 z2 => hp σ' (y_ent_eq z1 (fun v => ?_)) z2)
      · rcases (q_bl_s ok (by omega) hn).mp hbl with z | z
        · exact Or.inl z
        · exact Or.inr z
      · rw [q_want_s ok (by omega) hn hbl v]
        constructor
        · rintro ((z | z) | z)
          · exact Or.inl z
          · exact Or.inr (Or.inl z)
          · exact Or.inr (Or.inr z)
        · rintro (z | z | z)
          · exact Or.inl (Or.inl z)
          · exact Or.inl (Or.inr z)
          · exact Or.inr z
theorem t_want {x dm : Nat} {B : Nat → Prop} {σ : dx_V} (ok : q_ok c) (T : y_tree c σ) (hd : dm ≤ q_n c) (hn : x ≤ q_n c) (hb : q_bl c x dm) (he : y_ent B σ) (hp : ∀ σ' : dx_V, y_ent (fun v => B v ∨ q_want c x dm v) σ' → y_fr [26] [] σ σ' → po none σ') : m_MM_want E d (nI x) (nI dm) σ po :=
  r_MM_want (t_wants ok T hd x B σ hn (Or.inr hb) y_fr_rf he hp)
theorem t_aim82 {r : q_R} {B : Nat → Prop} {t : Nat} {σ0 : dx_V} (ok : q_ok c) (X0 : y_all c r σ0) (M : q_mok c r) (ht : t < q_nt c) (h0 : q_tg c t ≠ 0) (h4 : ¬ q_kd c (q_tg c t) ≤ 3) (hm : ¬ q_mem r (q_tg c t) = 0) (hp : ∀ σ' : dx_V, y_ent (fun v => B v ∨ q_aim c r t v) σ' → y_fr [26] [] σ0 σ' → po none σ') : ∀ (f s : Nat) (σ : dx_V), f + s = q_n c + 1 → 1 ≤ s → y_fr [26] [] σ0 σ → y_ent (fun v => B v ∨ ∃ x, 1 ≤ x ∧ x < s ∧ bt (q_mem r (q_tg c t)) x = true ∧ q_want c x (q_dom c t) v) σ → g_MM_aim_82 E (d + 1) po (nI (q_tg c t)) (nI (q_dom c t)) (nI s) σ := by
  have h15 := ok.1
  have htg := (ok.2.2.2.2.2.2.1 t ht).2.2.1.resolve_left h0
  have hd := q_domt_le ok ht
  intro f
  induction f with
  | zero =>
    intro s σ hi s1 fr he
    have T := y_tree_fr X0.1 fr (by decide) (by decide)
    refine r_MM_aim_82 ?_
    rw [T.1]
    simp only [i_lt, i_n (show q_n c ≤ 100000 by omega), i_n (show s ≤ 100000 by omega)]
    refine ⟨fun _ => hp σ (y_ent_eq he (fun v => ?_)) fr, fun q => absurd (by omega) q⟩
    have : q_aim c r t v ↔ ∃ x, 1 ≤ x ∧ x ≤ q_n c ∧ bt (q_mem r (q_tg c t)) x = true ∧ q_want c x (q_dom c t) v := by
      unfold q_aim
      rw [if_neg h4, if_neg hm]
    rw [this]
    constructor
    · rintro (z | ⟨x, a, b, y⟩)
      · exact Or.inl z
      · exact Or.inr ⟨x, a, by omega, y⟩
    · rintro (z | ⟨x, a, b, y⟩)
      · exact Or.inl z
      · exact Or.inr ⟨x, a, by omega, y⟩
  | succ f ih =>
    intro s σ hi s1 fr he
    have T := y_tree_fr X0.1 fr (by decide) (by decide)
    refine r_MM_aim_82 ?_
    rw [T.1, i_inc s, i_cl (n := q_tg c t) (by omega), fr.1 16 (by decide) (by decide), X0.2.2.2.2.2.2.2.1 (q_tg c t) (by omega), b_in1 (show s < 32 by omega)]
    simp only [i_lt, i_n (show q_n c ≤ 100000 by omega), i_n (show s ≤ 100000 by omega)]
    refine ⟨fun q => absurd q (by omega), fun _ => ⟨i_in (by omega) (by omega), fun q => ih (s + 1) σ (by omega) (by omega) fr (y_ent_eq he (fun v => ?_)), fun q => ?_⟩⟩
    · constructor
      · rintro (z | ⟨x, a, b, y⟩)
        · exact Or.inl z
        · exact Or.inr ⟨x, a, by omega, y⟩
      · rintro (z | ⟨x, a, b, y⟩)
        · exact Or.inl z
        · have : x ≠ s := fun e => q (e ▸ y.1)
          exact Or.inr ⟨x, a, by omega, y⟩
    · have hme : q_meant c r (q_tg c t) s := by unfold q_meant; rw [if_neg h4, if_neg hm]; exact ⟨s1, by omega, q⟩
      have hbl := (q_meant_ok ok M ht h0 hme).2
      refine dx_cuR (fun σ1 => y_ent (fun v => (B v ∨ ∃ x, 1 ≤ x ∧ x < s ∧ bt (q_mem r (q_tg c t)) x = true ∧ q_want c x (q_dom c t) v) ∨ q_want c s (q_dom c t) v) σ1 ∧ y_fr [26] [] σ σ1) (fun po hpo => t_want ok T hd (by omega) hbl he (fun σ' z1 z2 => hpo σ' ⟨z1, z2⟩)) ?_
      rintro σ1 ⟨a1, a2⟩
      refine ih (s + 1) σ1 (by omega) (by omega) (y_fr_t fr a2) (y_ent_eq a1 (fun v => ?_))
      constructor
      · rintro ((z | ⟨x, a, b, y⟩) | z)
        · exact Or.inl z
        · exact Or.inr ⟨x, a, by omega, y⟩
        · exact Or.inr ⟨s, s1, by omega, q, z⟩
      · rintro (z | ⟨x, a, b, y⟩)
        · exact Or.inl (Or.inl z)
        · by_cases e : x = s
          · subst e; exact Or.inr y.2
          · exact Or.inl (Or.inr ⟨x, a, by omega, y⟩)
theorem t_aim {r : q_R} {B : Nat → Prop} {t : Nat} {σ : dx_V} (ok : q_ok c) (X : y_all c r σ) (M : q_mok c r) (ht : t < q_nt c) (h0 : q_tg c t ≠ 0) (he : y_ent B σ) (hp : ∀ σ' : dx_V, y_ent (fun v => B v ∨ q_aim c r t v) σ' → y_fr [26] [] σ σ' → po none σ') : m_MM_aim E (d + 3) (nI t) σ po := by
  have h15 := ok.1
  have h20 := ok.2.1
  have htg := (ok.2.2.2.2.2.2.1 t ht).2.2.1.resolve_left h0
  have hk := ok.2.2.2.2.1 _ htg.1 htg.2
  have hd := q_domt_le ok ht
  have g3 := (X.2.1.2.1 t ht).2.2.1
  rw [if_neg h0] at g3
  have inT : vp_in (nI (q_tg c t)) 16 := i_in (by omega) (by omega)
  refine r_MM_aim ⟨i_in (by omega) (by omega), dx_ci1 _ _ (fun po hp => t_domain ok X ht h0 hp) ?_⟩
  rw [i_cl (n := t) (by omega), g3, i_cl (n := q_tg c t) (by omega), X.1.2.2.1 _ htg.2, X.2.2.2.2.2.2.2.1 (q_tg c t) (by omega), X.1.2.1 _ htg.1 htg.2, i_cl (n := q_par c (q_tg c t)) (by omega), X.1.2.2.1 (q_par c (q_tg c t)) (by omega)]
  have e3 : (3 : Int32) < nI (q_kd c (q_tg c t)) ↔ ¬ q_kd c (q_tg c t) ≤ 3 := by rw [i_lt, i_n (by omega), i_3]; omega
  have e2 : nI (q_kd c (q_par c (q_tg c t))) = 2 ↔ q_kd c (q_par c (q_tg c t)) = 2 := by rw [i_eq, i_n (by omega), i_2]; omega
  rw [e3, e2]
  -- one state is meant
  have one : ∀ x, (∀ y, q_meant c r (q_tg c t) y ↔ y = x) → ∀ (po' : dx_P), (∀ σ', y_ent (fun v => B v ∨ q_aim c r t v) σ' → y_fr [26] [] σ σ' → po' none σ') → m_MM_want E (d + 2) (nI x) (nI (q_dom c t)) σ po' := by
    intro x hx po' hp'
    have hm := q_meant_ok ok M ht h0 ((hx x).mpr rfl)
    refine t_want ok X.1 hd hm.1.2.1 hm.2 he (fun σ' z1 z2 => hp' σ' (y_ent_eq z1 (fun v => ?_)) z2)
    rw [q_aim_iff]
    constructor
    · rintro (z | z)
      · exact Or.inl z
      · exact Or.inr ⟨x, (hx x).mpr rfl, z⟩
    · rintro (z | ⟨y, y1, y2⟩)
      · exact Or.inl z
      · rw [(hx y).mp y1] at y2; exact Or.inr y2
  refine ⟨inT, fun q => ⟨inT, fun q2 => ?_, fun q2 => ⟨inT, i_in (by omega) (by omega), fun q3 => ?_, fun q3 => ?_⟩⟩, fun q => ?_⟩
  · exact t_aim82 ok X M ht h0 q q2 hp (q_n c) 1 σ (by omega) (by omega) y_fr_rf (y_ent_eq he (fun v => ⟨Or.inl, fun z => z.elim id (fun ⟨x, a, b, _⟩ => absurd b (by omega))⟩))
  · have hp0 : q_par c (q_tg c t) ≠ 0 := fun e => q (hk.2.2.2.2.2 e)
    have hex := M.1.2 (q_par c (q_tg c t)) (by omega) (by omega) (Or.inr ⟨_, htg.1, htg.2, rfl⟩)
    refine dx_ci1 _ _ (fun po hp => t_initialOf ok X.1 hex hp) (r_MM_aim_72 (dx_cuR (fun σ1 => y_ent (fun v => B v ∨ q_aim c r t v) σ1 ∧ y_fr [26] [] σ σ1) (fun po hpo => one _ (fun y => ?_) po (fun σ' z1 z2 => hpo σ' ⟨z1, z2⟩)) (fun σ1 z => hp σ1 z.1 z.2)))
    unfold q_meant
    rw [if_neg q, if_pos q2, if_neg q3]
  · refine r_MM_aim_72 (dx_cuR (fun σ1 => y_ent (fun v => B v ∨ q_aim c r t v) σ1 ∧ y_fr [26] [] σ σ1) (fun po hpo => one _ (fun y => ?_) po (fun σ' z1 z2 => hpo σ' ⟨z1, z2⟩)) (fun σ1 z => hp σ1 z.1 z.2))
    unfold q_meant
    rw [if_neg q, if_pos q2, if_pos q3]
  · refine dx_cuR (fun σ1 => y_ent (fun v => B v ∨ q_aim c r t v) σ1 ∧ y_fr [26] [] σ σ1) (fun po hpo => one _ (fun y => ?_) po (fun σ' z1 z2 => hpo σ' ⟨z1, z2⟩)) (fun σ1 z => hp σ1 z.1 z.2)
    unfold q_meant
    rw [if_pos (Classical.byContradiction q)]
theorem t_nones {σ0 : dx_V} (hp : ∀ σ' : dx_V, y_ent (fun _ => False) σ' → y_fr [26] [] σ0 σ' → po none σ') : ∀ (f s : Nat) (σ : dx_V), f + s = 16 → y_fr [26] [] σ0 σ → (∀ x, x < s → σ 26 x = 0) → g_MM_none_2 E d po (nI s) σ := by
  intro f
  induction f with
  | zero =>
    intro s σ hi fr h
    refine r_MM_none_2 ?_
    simp only [i_lt, i_15, i_n (show s ≤ 100000 by omega)]
    exact ⟨fun _ => hp σ (fun x hx => by rw [h x (by omega)]; exact (q_z_f (fun z => z)).symm) fr, fun q => absurd (by omega) q⟩
  | succ f ih =>
    intro s σ hi fr h
    refine r_MM_none_2 ?_
    rw [i_inc s, i_cl (n := s) (by omega), nar0]
    simp only [i_lt, i_15, i_n (show s ≤ 100000 by omega)]
    refine ⟨fun q => absurd q (by omega), fun _ => ⟨i_in (by omega) (by omega), ih (s + 1) _ (by omega) (y_fr_a fr (by decide) (by decide)) (fun x hx => ?_)⟩⟩
    by_cases e : x = s
    · subst e; exact dx_us
    · rw [dx_uk e]; exact h x (by omega)
theorem t_none {σ : dx_V} (hp : ∀ σ' : dx_V, y_ent (fun _ => False) σ' → y_fr [26] [] σ σ' → po none σ') : m_MM_none E d σ po :=
  r_MM_none (t_nones hp 16 0 σ rfl y_fr_rf (fun x hx => absurd hx (by omega)))
/-- entered while the children of s below i have been gone through -/
def q_mid (c : q_C) (B : Nat → Prop) (s i x : Nat) : Prop := q_upto c B s x ∨ (q_full c B s ∧ q_kd c s = 2 ∧ q_ch c s x ∧ x < i)
theorem q_mid_full {B : Nat → Prop} (ok : q_ok c) {s i x : Nat} (h1 : 1 ≤ s) (h : q_mid c B s i x) : q_full c B x := by
  rcases h with z | ⟨z1, z2, z3, -⟩
  · rcases z with z | ⟨y1, y2, y3, y4, y5⟩
    · exact (q_full_s ok).mpr (Or.inl z)
    · exact (q_full_s ok).mpr (Or.inr ⟨y1, y2, y4, y5⟩)
  · obtain ⟨z3, rfl⟩ := z3
    exact (q_full_s ok).mpr (Or.inr ⟨z3, by omega, z1, Or.inl z2⟩)
theorem q_mid_s {B : Nat → Prop} (ok : q_ok c) {s i : Nat} (h1 : 1 ≤ s) : q_mid c B s i s ↔ q_full c B s := by
  constructor
  · exact q_mid_full ok h1
  · intro z; exact Or.inl ((q_upto_self ok).mpr z)
theorem t_fill23 {B : Nat → Prop} {s : Nat} {σ0 : dx_V} (ok : q_ok c) (hw : q_whole c) (hB : ∀ x, B x → q_st c x) (T0 : y_tree c σ0) (s1 : 1 ≤ s) (hs : s ≤ q_n c) (hp : ∀ (m : Int32) (σ' : dx_V), (m = 0 ∨ m = 1) → ((∀ x, q_full c B x → B x) → m = 0) → y_ent (q_upto c B (s + 1)) σ' → y_fr [26] [] σ0 σ' → g_MM_fill_10 E (d + 2) po m (nI (s + 1)) σ') : ∀ (f i : Nat) (m b : Int32) (σ : dx_V), f + i = q_n c + 1 → 1 ≤ i → (m = 0 ∨ m = 1) → ((∀ x, q_full c B x → B x) → m = 0) → y_fr [26] [] σ0 σ → y_ent (q_mid c B s i) σ → (q_kd c s ≠ 2 → b = q_z (∃ x, q_kid c s x ∧ x < i ∧ q_upto c B s x)) → g_MM_fill_23 E (d + 2) po m (nI s) b (nI i) σ := by
  have h15 := ok.1
  have hks := ok.2.2.2.2.1 s s1 hs
  have hfst : ∀ x, q_full c B x → q_st c x := q_full_st hB
  intro f
  induction f with
  | zero =>
    intro i m b σ hi i1 m01 mc fr he hbv
    have T := y_tree_fr T0 fr (by decide) (by decide)
    refine r_MM_fill_23 ?_
    rw [T.1, i_cl (n := s) (by omega), i_inc s, he s (by omega), q_z_eq (q_mid_s ok s1)]
    simp only [i_lt, i_n (show q_n c ≤ 100000 by omega), i_n (show i ≤ 100000 by omega)]
    have go : (∀ x, q_mid c B s i x ↔ q_upto c B (s + 1) x) → g_MM_fill_10 E (d + 2) po m (nI (s + 1)) σ := fun z => hp m σ m01 mc (y_ent_eq he z) fr
    refine ⟨fun _ => ⟨i_in (by omega) (by omega), q_zb (fun q => go (fun x => ?_)) (fun q => dx_ci1 _ _ (fun po hp => t_compound ok T hs hp) (q_zb (fun q2 => go (fun x => ?_)) (fun q2 => ?_)))⟩, fun q => absurd (by omega) q⟩
    · rw [q_upto_s s1]
      unfold q_mid
      constructor
      · rintro (z | z)
        · exact Or.inl z
        · exact absurd z.1 q
      · rintro (z | z)
        · exact Or.inl z
        · exact absurd z.2.1 q
    · rw [q_upto_s s1]
      unfold q_mid
      constructor
      · rintro (z | z)
        · exact Or.inl z
        · exact Or.inr ⟨z.2.2.1, z.1, Or.inl z.2.1⟩
      · rintro (z | ⟨z1, z2, z3 | z3⟩)
        · exact Or.inl z
        · have := z1.1.2.1
          exact Or.inr ⟨z2, z3, z1, by omega⟩
        · exact absurd ⟨z3.1, x, z1.1.1, z1.1.2.1, z1.2⟩ q2
    · have k2 : q_kd c s ≠ 2 := by omega
      rw [hbv k2]
      have hex := hw.2 s s1 hs (Or.inr q2.2)
      have hini := q_ini_ch ok hex
      have hip := q_ch_par ok hini
      have some_iff : (∃ x, q_kid c s x ∧ x < i ∧ q_upto c B s x) ↔ ∃ x, q_ch c s x ∧ B x := by
        constructor
        · rintro ⟨x, z1, z2, z3⟩
          have hx := hfst x (q_mid_full (i := i) ok s1 (Or.inl z3))
          have hch : q_ch c s x := ⟨hx, z1.2.2⟩
          exact ⟨x, hch, (q_upto_kid hch).mp z3⟩
        · rintro ⟨x, z1, z2⟩
          have := z1.1.2.1
          exact ⟨x, ⟨z1.1.1, z1.1.2.1, z1.2⟩, by omega, Or.inl z2⟩
      rw [q_z_eq some_iff]
      refine q_zc (fun q3 => go (fun x => ?_)) (fun q3 => dx_ci1 _ _ (fun po hp => t_initialOf ok T hex hp) ⟨i_in (by omega) (by omega), ?_⟩)
      · rw [q_upto_s s1]
        unfold q_mid
        constructor
        · rintro (z | z)
          · exact Or.inl z
          · exact absurd z.2.1 k2
        · rintro (z | ⟨z1, z2, z3 | z3⟩)
          · exact Or.inl z
          · exact absurd z3 k2
          · obtain ⟨y, y1, y2⟩ := q3
            exact absurd y2 (z3.2.1 y y1)
      · rw [i_cl (n := q_ini c s) (by omega), nar1]
        have nob : ∀ y, q_ch c s y → ¬ B y := fun y hy hBy => q3 ⟨y, hy, hBy⟩
        have hfull : q_full c B (q_ini c s) := (q_full_s ok).mpr (Or.inr ⟨hini.1, by rw [hini.2]; omega, by rw [hini.2]; exact q, Or.inr ⟨by rw [hini.2]; exact q2.1, by rw [hini.2]; exact nob, by rw [hini.2]⟩⟩)
        refine hp 1 _ (Or.inr rfl) (fun z => absurd (z _ hfull) (nob _ hini)) (y_ent_eq (y_ent_set he) (fun x => ?_)) (y_fr_a fr (by decide) (by decide))
        rw [q_upto_s s1]
        unfold q_mid
        constructor
        · rintro ((z | z) | z)
          · exact Or.inl z
          · exact absurd z.2.1 k2
          · exact Or.inr ⟨by rw [z]; exact hini, q, Or.inr ⟨q2.1, nob, z⟩⟩
        · rintro (z | ⟨z1, z2, z3 | z3⟩)
          · exact Or.inl (Or.inl z)
          · exact absurd z3 k2
          · exact Or.inr z3.2.2
  | succ f ih =>
    intro i m b σ hi i1 m01 mc fr he hbv
    have T := y_tree_fr T0 fr (by decide) (by decide)
    have hki := ok.2.2.2.2.1 i i1 (by omega)
    have ini_ : vp_in (nI i) 16 := i_in (by omega) (by omega)
    have ins : vp_in (nI s) 16 := i_in (by omega) (by omega)
    have ep : nI (q_par c i) = nI s ↔ q_par c i = s := ⟨fun z => i_nj z (by omega) (by omega), fun z => by rw [z]⟩
    have ei : σ 26 i = q_z (q_mid c B s i i) := he i (by omega)
    -- the tail: the child i of an entered parallel s
    have tail : ∀ b' : Int32, (q_kd c s ≠ 2 → b' = q_z (∃ x, q_kid c s x ∧ x < i + 1 ∧ q_upto c B s x)) → g_MM_fill_62 E (d + 2) po m (nI s) (nI i) b' σ := by
      intro b' hb'
      refine r_MM_fill_62 ?_
      rw [i_cl (n := s) (by omega), i_cl (n := i) (by omega), i_inc i, he s (by omega), q_z_eq (q_mid_s ok s1), ei, T.2.2.1 s hs, T.2.2.1 i (by omega), T.2.1 i i1 (by omega), nar1]
      have e2 : nI (q_kd c s) = 2 ↔ q_kd c s = 2 := by rw [i_eq, i_n (by omega), i_2]; omega
      have e3 : (3 : Int32) < nI (q_kd c i) ↔ ¬ q_kd c i ≤ 3 := by rw [i_lt, i_n (by omega), i_3]; omega
      rw [e2, e3, ep]
      have go : (∀ x, q_mid c B s i x ↔ q_mid c B s (i + 1) x) → g_MM_fill_23 E (d + 2) po m (nI s) b' (nI (i + 1)) σ := fun z => ih (i + 1) m b' σ (by omega) (by omega) m01 mc fr (y_ent_eq he z) hb'
      have same : ¬ (q_full c B s ∧ q_kd c s = 2 ∧ q_ch c s i) → ∀ x, q_mid c B s i x ↔ q_mid c B s (i + 1) x := by
        intro hn x
        unfold q_mid
        constructor
        · rintro (z | ⟨z1, z2, z3, z4⟩)
          · exact Or.inl z
          · exact Or.inr ⟨z1, z2, z3, by omega⟩
        · rintro (z | ⟨z1, z2, z3, z4⟩)
          · exact Or.inl z
          · have : x ≠ i := fun e => hn ⟨z1, z2, e ▸ z3⟩
            exact Or.inr ⟨z1, z2, z3, by omega⟩
      refine ⟨ins, q_zb (fun q => go (same (fun z => q z.1))) (fun q => ⟨ins, fun q2 => go (same (fun z => q2 z.2.1)), fun q2 => ⟨ini_, fun q3 => go (same (fun z => q3 z.2.2.2)), fun q3 => ⟨ini_, fun q4 => go (same (fun z => q4 z.2.2.1.2.2)), fun q4 => ⟨ini_, q_zc (fun q5 => go (fun x => ?_)) (fun q5 => ⟨ini_, ?_⟩)⟩⟩⟩⟩)⟩
      · unfold q_mid
        constructor
        · rintro (z | ⟨z1, z2, z3, z4⟩)
          · exact Or.inl z
          · exact Or.inr ⟨z1, z2, z3, by omega⟩
        · rintro (z | ⟨z1, z2, z3, z4⟩)
          · exact Or.inl z
          · by_cases e : x = i
            · subst e; exact q5
            · exact Or.inr ⟨z1, z2, z3, by omega⟩
      · have hch : q_ch c s i := ⟨⟨i1, by omega, Classical.byContradiction q4⟩, q3⟩
        have hfull : q_full c B i := q_mid_full (i := i + 1) ok s1 (Or.inr ⟨q, q2, hch, by omega⟩)
        refine ih (i + 1) 1 b' _ (by omega) (by omega) (Or.inr rfl) (fun z => absurd (Or.inl (Or.inl (z _ hfull))) q5) (y_fr_a fr (by decide) (by decide)) (y_ent_eq (y_ent_set he) (fun x => ?_)) hb'
        unfold q_mid
        constructor
        · rintro ((z | ⟨z1, z2, z3, z4⟩) | z)
          · exact Or.inl z
          · exact Or.inr ⟨z1, z2, z3, by omega⟩
          · exact Or.inr ⟨q, q2, by rw [z]; exact hch, by omega⟩
        · rintro (z | ⟨z1, z2, z3, z4⟩)
          · exact Or.inl (Or.inl z)
          · by_cases e : x = i
            · exact Or.inr e
            · exact Or.inl (Or.inr ⟨z1, z2, z3, by omega⟩)
    refine r_MM_fill_23 ?_
    rw [T.1, i_cl (n := i) (by omega), T.2.1 i i1 (by omega), ep, ei]
    simp only [i_lt, i_n (show q_n c ≤ 100000 by omega), i_n (show i ≤ 100000 by omega)]
    refine ⟨fun q => absurd q (by omega), fun _ => ⟨fun q => r_MM_fill_57 (tail 1 (fun k2 => ?_)), fun q => ⟨ini_, fun q2 => tail 0 (fun k2 => ?_), fun q2 => ⟨ini_, q_zb (fun q3 => tail 0 (fun k2 => ?_)) (fun q3 => r_MM_fill_57 (tail 1 (fun k2 => ?_)))⟩⟩⟩⟩
    · rw [hbv k2] at q
      have : ∃ x, q_kid c s x ∧ x < i ∧ q_upto c B s x := Classical.byContradiction fun n => q (q_z_f n)
      obtain ⟨x, z1, z2, z3⟩ := this
      exact (q_z_t ⟨x, z1, by omega, z3⟩).symm
    · rw [hbv k2, q_z_0] at q
      refine (q_z_f ?_).symm
      rintro ⟨x, z1, z2, z3⟩
      by_cases e : x = i
      · subst e; exact q2 z1.2.2
      · exact q ⟨x, z1, by omega, z3⟩
    · rw [hbv k2, q_z_0] at q
      refine (q_z_f ?_).symm
      rintro ⟨x, z1, z2, z3⟩
      by_cases e : x = i
      · subst e; exact q3 (Or.inl z3)
      · exact q ⟨x, z1, by omega, z3⟩
    · refine (q_z_t ⟨i, ⟨i1, by omega, q2⟩, by omega, ?_⟩).symm
      rcases q3 with z | z
      · exact z
      · exact absurd z.2.1 k2
theorem t_fill10 {B : Nat → Prop} {σ0 : dx_V} (ok : q_ok c) (hw : q_whole c) (hB : ∀ x, B x → q_st c x) (T0 : y_tree c σ0) (hp : ∀ (m : Int32) (σ' : dx_V), (m = 0 ∨ m = 1) → ((∀ x, q_full c B x → B x) → m = 0) → y_ent (q_full c B) σ' → y_fr [26] [] σ0 σ' → g_MM_fill_2 E (d + 2) po m σ') : ∀ (f s : Nat) (m : Int32) (σ : dx_V), f + s = q_n c + 1 → 1 ≤ s → (m = 0 ∨ m = 1) → ((∀ x, q_full c B x → B x) → m = 0) → y_fr [26] [] σ0 σ → y_ent (q_upto c B s) σ → g_MM_fill_10 E (d + 2) po m (nI s) σ := by
  have h15 := ok.1
  intro f
  induction f with
  | zero =>
    intro s m σ hi s1 m01 mc fr he
    have T := y_tree_fr T0 fr (by decide) (by decide)
    refine r_MM_fill_10 ?_
    rw [T.1]
    simp only [i_lt, i_n (show q_n c ≤ 100000 by omega), i_n (show s ≤ 100000 by omega)]
    exact ⟨fun _ => hp m σ m01 mc (y_ent_eq he (fun x => q_upto_end ok (by omega))) fr, fun q => absurd (by omega) q⟩
  | succ f ih =>
    intro s m σ hi s1 m01 mc fr he
    have T := y_tree_fr T0 fr (by decide) (by decide)
    refine r_MM_fill_10 ?_
    rw [T.1]
    simp only [i_lt, i_n (show q_n c ≤ 100000 by omega), i_n (show s ≤ 100000 by omega)]
    refine ⟨fun q => absurd q (by omega), fun _ => t_fill23 ok hw hB T0 s1 (by omega) (fun m' σ' z1 z2 z3 z4 => ih (s + 1) m' σ' (by omega) (by omega) z1 z2 z4 z3) (q_n c) 1 m 0 σ (by omega) (by omega) m01 mc fr (y_ent_eq he (fun x => ?_)) (fun _ => (q_z_f ?_).symm)⟩
    · unfold q_mid
      constructor
      · exact Or.inl
      · rintro (z | ⟨z1, z2, z3, z4⟩)
        · exact z
        · have := z3.1.1; omega
    · rintro ⟨x, z1, z2, -⟩
      have := z1.1
      omega
theorem t_fill {B : Nat → Prop} {σ : dx_V} (ok : q_ok c) (hw : q_whole c) (hB : ∀ x, B x → q_st c x) (T : y_tree c σ) (he : y_ent B σ) (hp : ∀ σ' : dx_V, y_ent (q_full c B) σ' → y_fr [26] [] σ σ' → po none σ') : m_MM_fill E (d + 2) σ po := by
  have pass : ∀ (B' : Nat → Prop) (σ1 : dx_V), (∀ x, B' x → q_st c x) → y_ent B' σ1 → y_fr [26] [] σ σ1 → (∀ (m : Int32) (σ' : dx_V), (m = 0 ∨ m = 1) → ((∀ x, q_full c B' x → B' x) → m = 0) → y_ent (q_full c B') σ' → y_fr [26] [] σ σ' → g_MM_fill_2 E (d + 2) po m σ') → g_MM_fill_2 E (d + 2) po 1 σ1 := by
    intro B' σ1 hB' he' fr' hk
    refine r_MM_fill_2 ⟨fun z => absurd z (by decide), fun _ => ?_⟩
    exact t_fill10 ok hw hB' T hk (q_n c) 1 0 σ1 (by omega) (by omega) (Or.inl rfl) (fun _ => rfl) fr' (y_ent_eq he' (fun x => q_upto_1.symm))
  refine r_MM_fill (pass B σ hB he y_fr_rf (fun m σ1 m01 _ he1 fr1 => ?_))
  rcases m01 with rfl | rfl
  · exact r_MM_fill_2 ⟨fun _ => hp σ1 he1 fr1, fun z => absurd rfl z⟩
  · refine pass (q_full c B) σ1 (q_full_st hB) he1 fr1 (fun m σ2 _ hc he2 fr2 => ?_)
    rw [hc (q_full_full ok)]
    refine r_MM_fill_2 ⟨fun _ => hp σ2 (y_ent_eq he2 (fun x => ⟨q_full_full ok x, fun z => Or.inl z⟩)) fr2, fun z => absurd rfl z⟩
end MF
