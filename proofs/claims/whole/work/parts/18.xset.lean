/-! Sets of states in the class: completed, with the path, meant by a target. -/
def q_whole (c : q_C) : Prop := (∃ x, q_ch c 0 x) ∧ ∀ s, 1 ≤ s → s ≤ q_n c → (q_kd c s = 2 ∨ ∃ x, 1 ≤ x ∧ x ≤ q_n c ∧ q_par c x = s) → ∃ x, q_ch c s x
def q_mok (c : q_C) (r : q_R) : Prop := q_whole c ∧ ∀ h s, 1 ≤ h → h ≤ q_n c → 4 ≤ q_kd c h → bt (q_mem r h) s = true → q_st c s ∧ q_bl c s (q_par c h)
theorem q_first_ch {c : q_C} {s : Nat} : ∀ (f i : Nat), (∃ x, i ≤ x ∧ x < i + f ∧ q_ch c s x) → q_ch c s (q_first c s f i) := by
  intro f
  induction f with
  | zero => rintro i ⟨x, h1, h2, -⟩; omega
  | succ f ih =>
    rintro i ⟨x, h1, h2, h3⟩
    unfold q_first
    by_cases h : q_ch c s i
    · rw [q_if_t h]; exact h
    · rw [q_if_f h]
      refine ih (i + 1) ⟨x, ?_, by omega, h3⟩
      have : x ≠ i := fun e => h (e ▸ h3)
      omega
theorem q_ini_ch {c : q_C} {s : Nat} (ok : q_ok c) (h : ∃ x, q_ch c s x) : q_ch c s (q_ini c s) := by
  unfold q_ini
  split
  · obtain ⟨x, hx⟩ := h
    have := hx.1.1
    have := hx.1.2.1
    have := ok.1
    exact q_first_ch 16 1 ⟨x, by omega, by omega, hx⟩
  · next h0 => exact (ok.2.2.2.2.2.1 s).resolve_left h0
theorem q_ch_par {c : q_C} (ok : q_ok c) {s x : Nat} (h : q_ch c s x) : s < x ∧ s ≤ q_n c ∧ x ≤ 15 ∧ q_kd c s ≤ 2 := by
  obtain ⟨⟨h1, h2, h3⟩, rfl⟩ := h
  have := (ok.2.2.2.2.1 x h1 h2)
  have := ok.1
  exact ⟨by omega, by omega, by omega, by omega⟩
theorem q_fl_any {c : q_C} (ok : q_ok c) {B : Nat → Prop} : ∀ (x f g : Nat), x ≤ f → x ≤ g → (q_fl c B f x ↔ q_fl c B g x) := by
  intro x
  induction x using Nat.strongRecOn with
  | _ x ih =>
    intro f g hf hg
    by_cases hs : q_st c x
    · have hlt := (ok.2.2.2.2.1 x hs.1 hs.2.1).1
      have := hs.1
      obtain ⟨f, rfl⟩ : ∃ f', f = f' + 1 := ⟨f - 1, by omega⟩
      obtain ⟨g, rfl⟩ : ∃ g', g = g' + 1 := ⟨g - 1, by omega⟩
      have := ih _ hlt f g (by omega) (by omega)
      unfold q_fl
      rw [this]
    · have key : ∀ f, q_fl c B f x ↔ B x := by
        intro f
        cases f with
        | zero => exact Iff.rfl
        | succ f => exact ⟨fun h => h.elim id (fun q => absurd q.1 hs), Or.inl⟩
      rw [key, key]
theorem q_full_s {c : q_C} (ok : q_ok c) {B : Nat → Prop} {x : Nat} : q_full c B x ↔ B x ∨ (q_st c x ∧ q_par c x ≠ 0 ∧ q_full c B (q_par c x) ∧ (q_kd c (q_par c x) = 2 ∨ (q_kd c (q_par c x) = 1 ∧ (∀ y, q_ch c (q_par c x) y → ¬ B y) ∧ x = q_ini c (q_par c x)))) := by
  by_cases hs : q_st c x
  · have hlt := (ok.2.2.2.2.1 x hs.1 hs.2.1).1
    have := hs.2.1
    have := ok.1
    unfold q_full
    rw [q_fl_any ok (q_par c x) 16 15 (by omega) (by omega)]
    exact Iff.rfl
  · exact ⟨fun h => h.elim Or.inl (fun q => absurd q.1 hs), fun h => h.elim Or.inl (fun q => absurd q.1 hs)⟩
/-- filled as far as the parents below s go -/
def q_upto (c : q_C) (B : Nat → Prop) (s x : Nat) : Prop := B x ∨ (q_st c x ∧ q_par c x ≠ 0 ∧ q_par c x < s ∧ q_full c B (q_par c x) ∧ (q_kd c (q_par c x) = 2 ∨ (q_kd c (q_par c x) = 1 ∧ (∀ y, q_ch c (q_par c x) y → ¬ B y) ∧ x = q_ini c (q_par c x))))
theorem q_upto_self {c : q_C} (ok : q_ok c) {B : Nat → Prop} {s : Nat} : q_upto c B s s ↔ q_full c B s := by
  rw [q_full_s ok]
  unfold q_upto
  constructor
  · rintro (h | ⟨h1, h2, h3, h4⟩)
    · exact Or.inl h
    · exact Or.inr ⟨h1, h2, h4⟩
  · rintro (h | ⟨h1, h2, h4⟩)
    · exact Or.inl h
    · exact Or.inr ⟨h1, h2, (ok.2.2.2.2.1 s h1.1 h1.2.1).1, h4⟩
theorem q_upto_end {c : q_C} (ok : q_ok c) {B : Nat → Prop} {x s : Nat} (hs : q_n c < s) : q_upto c B s x ↔ q_full c B x := by
  rw [q_full_s ok]
  unfold q_upto
  constructor
  · rintro (h | ⟨h1, h2, h3, h4⟩)
    · exact Or.inl h
    · exact Or.inr ⟨h1, h2, h4⟩
  · rintro (h | ⟨h1, h2, h4⟩)
    · exact Or.inl h
    · have := (ok.2.2.2.2.1 x h1.1 h1.2.1).1
      have := h1.2.1
      exact Or.inr ⟨h1, h2, by omega, h4⟩
theorem q_upto_1 {c : q_C} {B : Nat → Prop} {x : Nat} : q_upto c B 1 x ↔ B x := by
  unfold q_upto
  constructor
  · rintro (h | ⟨h1, h2, h3, h4⟩)
    · exact h
    · omega
  · exact Or.inl
theorem q_upto_s {c : q_C} {B : Nat → Prop} {s x : Nat} (h1 : 1 ≤ s) : q_upto c B (s + 1) x ↔ q_upto c B s x ∨ (q_ch c s x ∧ q_full c B s ∧ (q_kd c s = 2 ∨ (q_kd c s = 1 ∧ (∀ y, q_ch c s y → ¬ B y) ∧ x = q_ini c s))) := by
  unfold q_upto
  constructor
  · rintro (h | ⟨g1, g2, g3, g4, g5⟩)
    · exact Or.inl (Or.inl h)
    · by_cases e : q_par c x = s
      · subst e; exact Or.inr ⟨⟨g1, rfl⟩, g4, g5⟩
      · exact Or.inl (Or.inr ⟨g1, g2, by omega, g4, g5⟩)
  · rintro ((h | ⟨g1, g2, g3, g4, g5⟩) | ⟨⟨g1, rfl⟩, g4, g5⟩)
    · exact Or.inl h
    · exact Or.inr ⟨g1, g2, by omega, g4, g5⟩
    · exact Or.inr ⟨g1, by omega, by omega, g4, g5⟩
theorem q_upto_kid {c : q_C} {B : Nat → Prop} {s y : Nat} (h : q_ch c s y) : q_upto c B s y ↔ B y := by
  unfold q_upto
  constructor
  · rintro (h2 | ⟨h1, h2, h3, h4⟩)
    · exact h2
    · rw [h.2] at h3; omega
  · exact Or.inl
section XT
variable {E : dx_E} {d : Nat} {σ : dx_V} {po : dx_P} {c : q_C} {r : q_R}
theorem s_ST_compl {B : Nat → Prop} (ok : q_ok c) (T : x_tree c σ) (hp : ∀ w : Int32, (∀ x, bt w x = true ↔ q_full c B x) → po (some w) σ) : ∀ (f s : Nat) (w : Int32), f + s = q_n c + 1 → 1 ≤ s → (∀ x, bt w x = true ↔ q_upto c B s x) → g_ST_completed_4 E (d + 1) po w (nI s) σ := by
  have h15 := ok.1
  intro f
  induction f with
  | zero =>
    intro s w hi h1 hw
    refine r_ST_completed_4 ?_
    rw [T.1]
    simp only [i_lt, i_n (show q_n c ≤ 100000 by omega), i_n (show s ≤ 100000 by omega)]
    exact ⟨fun _ => hp w (fun x => by rw [hw x]; exact q_upto_end ok (by omega)), fun h => absurd (by omega) h⟩
  | succ f ih =>
    intro s w hi h1 hw
    have hk := ok.2.2.2.2.1 s h1 (by omega)
    have hin : vp_in (nI s) 16 := i_in (by omega) (by omega)
    refine r_ST_completed_4 ?_
    rw [T.1, i_inc s, i_cl (by omega)]
    simp only [i_lt, i_n (show q_n c ≤ 100000 by omega), i_n (show s ≤ 100000 by omega)]
    refine ⟨fun h => absurd h (by omega), fun _ => dx_ci1 _ _ (fun po hp => s_MC_isIn (by omega) hp) ?_⟩
    rw [T.2.1 s (by omega)]
    rw [q_z_eq ((hw s).trans (q_upto_self ok))]
    refine q_zc (fun q => ⟨hin, fun q2 => dx_ci1 _ _ (fun po hp => s_ST_isCompound ok T (by omega) hp) (q_zb (fun q3 => ?_) (fun q3 => ⟨hin, fun q4 => ?_, fun q4 => ⟨hin, ?_⟩⟩)), fun q2 => ⟨hin, ?_⟩⟩) (fun q => ?_)
    · refine ih (s + 1) w (by omega) (by omega) (fun x => ?_)
      rw [hw x, q_upto_s h1]
      have k2 : ¬ q_kd c s = 2 := fun z => q2 (by rw [z]; rfl)
      constructor
      · exact Or.inl
      · rintro (z | ⟨z1, z2, z3 | z3⟩)
        · exact z
        · exact absurd z3 k2
        · exact absurd ⟨z3.1, fun l => l x z1⟩ q3
    · refine ih (s + 1) w (by omega) (by omega) (fun x => ?_)
      rw [hw x, q_upto_s h1]
      have k2 : ¬ q_kd c s = 2 := fun z => q2 (by rw [z]; rfl)
      constructor
      · exact Or.inl
      · rintro (z | ⟨z1, z2, z3 | z3⟩)
        · exact z
        · exact absurd z3 k2
        · exfalso
          apply q4
          rw [b_z]
          intro i
          cases hb : bt (σ 14 s &&& w) i with
          | false => rfl
          | true =>
            rw [b_and, Bool.and_eq_true, T.2.2.2.2.1 s (by omega), hw] at hb
            exact absurd ((q_upto_kid hb.1).mp hb.2) (z3.2.1 i hb.1)
    · have hex : ∃ x, q_ch c s x := Classical.byContradiction fun n => q3.2 (fun x hx => n ⟨x, hx⟩)
      have hini := q_ini_ch ok hex
      have := q_ch_par ok hini
      rw [T.2.2.2.1 s (by omega) hex]
      refine ih (s + 1) _ (by omega) (by omega) (fun x => ?_)
      rw [b_or, Bool.or_eq_true, b_one (by omega), hw x, q_upto_s h1]
      have nob : ∀ y, q_ch c s y → ¬ B y := by
        intro y hy hB
        have := b_z.mp q4 y
        rw [b_and, (T.2.2.2.2.1 s (by omega) y).mpr hy, (hw y).mpr (Or.inl hB)] at this
        cases this
      constructor
      · rintro (z | z)
        · exact Or.inl z
        · exact Or.inr ⟨by rw [z]; exact hini, q, Or.inr ⟨q3.1, nob, z⟩⟩
      · rintro (z | ⟨z1, z2, z3 | z3⟩)
        · exact Or.inl z
        · exact absurd z3 (by omega)
        · exact Or.inr z3.2.2
    · have k2 : q_kd c s = 2 := i_nj q2 (by omega) (by omega)
      refine ih (s + 1) _ (by omega) (by omega) (fun x => ?_)
      rw [b_or, Bool.or_eq_true, hw x, T.2.2.2.2.1 s (by omega) x, q_upto_s h1]
      constructor
      · rintro (z | z)
        · exact Or.inl z
        · exact Or.inr ⟨z, q, Or.inl k2⟩
      · rintro (z | ⟨z1, z2, z3⟩)
        · exact Or.inl z
        · exact Or.inr z1
    · refine ih (s + 1) w (by omega) (by omega) (fun x => ?_)
      rw [hw x, q_upto_s h1]
      exact ⟨Or.inl, fun z => z.elim id (fun z => absurd z.2.1 q)⟩
theorem s_ST_completed {B : Nat → Prop} {w : Int32} (ok : q_ok c) (T : x_tree c σ) (hw : ∀ x, bt w x = true ↔ B x) (hp : ∀ w : Int32, (∀ x, bt w x = true ↔ q_full c B x) → po (some w) σ) : m_ST_completed E (d + 1) w σ po :=
  r_ST_completed (s_ST_compl ok T hp (q_n c) 1 w (by omega) (by omega) (fun x => by rw [hw x]; exact q_upto_1.symm))
theorem s_ST_among {v : Int32} (ok : q_ok c) (T : x_tree c σ) (hp : ∀ w : Int32, (∀ x, bt w x = true ↔ (1 ≤ x ∧ x ≤ q_n c ∧ bt v x = true ∧ q_leaf c x)) → po (some w) σ) : ∀ (f s : Nat) (w : Int32), f + s = q_n c + 1 → 1 ≤ s → (∀ x, bt w x = true ↔ (1 ≤ x ∧ x < s ∧ bt v x = true ∧ q_leaf c x)) → g_ST_atomicAmong_4 E (d + 1) po v w (nI s) σ := by
  have h15 := ok.1
  intro f
  induction f with
  | zero =>
    intro s w hi h1 hw
    refine r_ST_atomicAmong_4 ?_
    rw [T.1]
    simp only [i_lt, i_n (show q_n c ≤ 100000 by omega), i_n (show s ≤ 100000 by omega)]
    refine ⟨fun _ => hp w (fun x => ?_), fun h => absurd (by omega) h⟩
    rw [hw x]
    constructor
    · rintro ⟨a, b, z⟩; exact ⟨a, by omega, z⟩
    · rintro ⟨a, b, z⟩; exact ⟨a, by omega, z⟩
  | succ f ih =>
    intro s w hi h1 hw
    refine r_ST_atomicAmong_4 ?_
    rw [T.1, i_inc s]
    simp only [i_lt, i_n (show q_n c ≤ 100000 by omega), i_n (show s ≤ 100000 by omega)]
    refine ⟨fun h => absurd h (by omega), fun _ => dx_ci1 _ _ (fun po hp => s_MC_isIn (by omega) hp) (q_zb (fun q => ?_) (fun q => dx_ci1 _ _ (fun po hp => s_ST_isAtomic T (by omega) hp) (q_zb (fun q2 => ?_) (fun q2 => ?_))))⟩
    · refine ih (s + 1) w (by omega) (by omega) (fun x => ?_)
      rw [hw x]
      constructor
      · rintro ⟨a, b, z⟩; exact ⟨a, by omega, z⟩
      · rintro ⟨a, b, z⟩
        have : x ≠ s := fun e => q (e ▸ z.1)
        exact ⟨a, by omega, z⟩
    · refine ih (s + 1) w (by omega) (by omega) (fun x => ?_)
      rw [hw x]
      constructor
      · rintro ⟨a, b, z⟩; exact ⟨a, by omega, z⟩
      · rintro ⟨a, b, z⟩
        have : x ≠ s := fun e => q2 (e ▸ z.2)
        exact ⟨a, by omega, z⟩
    · refine ih (s + 1) _ (by omega) (by omega) (fun x => ?_)
      rw [b_or, Bool.or_eq_true, b_one (by omega), hw x]
      constructor
      · rintro (⟨a, b, z⟩ | rfl)
        · exact ⟨a, by omega, z⟩
        · exact ⟨h1, by omega, q, q2⟩
      · rintro ⟨a, b, z⟩
        by_cases e : x = s
        · exact Or.inr e
        · exact Or.inl ⟨a, by omega, z⟩
theorem s_ST_atomicAmong {v : Int32} (ok : q_ok c) (T : x_tree c σ) (hp : ∀ w : Int32, (∀ x, bt w x = true ↔ (1 ≤ x ∧ x ≤ q_n c ∧ bt v x = true ∧ q_leaf c x)) → po (some w) σ) : m_ST_atomicAmong E (d + 1) v σ po :=
  r_ST_atomicAmong (s_ST_among ok T hp (q_n c) 1 0 (by omega) (by omega) (fun x => by
    rw [b_0]
    constructor
    · intro q; cases q
    · rintro ⟨a, b, -⟩; omega))
theorem s_RU_path {v : Int32} {dm : Nat} (ok : q_ok c) (T : x_tree c σ) (hd : dm ≤ q_n c) (hp : ∀ w : Int32, (∀ x, bt w x = true ↔ (bt v x = true ∨ ∃ y, 1 ≤ y ∧ y ≤ q_n c ∧ bt v y = true ∧ q_bl c y x ∧ q_st c x ∧ q_bl c x dm)) → po (some w) σ) : ∀ (f s : Nat) (w : Int32), f + s = q_n c + 1 → 1 ≤ s → (∀ x, bt w x = true ↔ (bt v x = true ∨ ∃ y, 1 ≤ y ∧ y < s ∧ bt v y = true ∧ q_bl c y x ∧ q_st c x ∧ q_bl c x dm)) → g_RU_withPath_5 E (d + 1) po v (nI dm) w (nI s) σ := by
  have h15 := ok.1
  intro f
  induction f with
  | zero =>
    intro s w hi h1 hw
    refine r_RU_withPath_5 ?_
    rw [T.1]
    simp only [i_lt, i_n (show q_n c ≤ 100000 by omega), i_n (show s ≤ 100000 by omega)]
    refine ⟨fun _ => hp w (fun x => ?_), fun h => absurd (by omega) h⟩
    rw [hw x, show s = q_n c + 1 by omega]
    simp only [Nat.lt_succ_iff]
  | succ f ih =>
    intro s w hi h1 hw
    refine r_RU_withPath_5 ?_
    rw [T.1, i_inc s]
    simp only [i_lt, i_n (show q_n c ≤ 100000 by omega), i_n (show s ≤ 100000 by omega)]
    refine ⟨fun h => absurd h (by omega), fun _ => dx_ci1 _ _ (fun po hp => s_MC_isIn (by omega) hp) (q_zb (fun q => ?_) (fun q => ⟨i_in (by omega) (by omega), i_in (by omega) (by omega), ?_⟩))⟩
    · refine ih (s + 1) w (by omega) (by omega) (fun x => ?_)
      rw [hw x]
      constructor
      · rintro (z | ⟨y, a, b, z⟩)
        · exact Or.inl z
        · exact Or.inr ⟨y, a, by omega, z⟩
      · rintro (z | ⟨y, a, b, z⟩)
        · exact Or.inl z
        · have : y ≠ s := fun e => q (e ▸ z.1)
          exact Or.inr ⟨y, a, by omega, z⟩
    · refine ih (s + 1) _ (by omega) (by omega) (fun x => ?_)
      rw [b_or, Bool.or_eq_true, b_and, Bool.and_eq_true, i_cl (by omega), i_cl (by omega), T.2.2.2.2.2.1 s (by omega) x, T.2.2.2.2.2.2 dm (by omega) x, hw x]
      constructor
      · rintro ((z | ⟨y, a, b, z⟩) | z)
        · exact Or.inl z
        · exact Or.inr ⟨y, a, by omega, z⟩
        · exact Or.inr ⟨s, h1, by omega, q, z.1, z.2.1, z.2.2⟩
      · rintro (z | ⟨y, a, b, z⟩)
        · exact Or.inl (Or.inl z)
        · by_cases e : y = s
          · subst e; exact Or.inr ⟨z.2.1, z.2.2.1, z.2.2.2⟩
          · exact Or.inl (Or.inr ⟨y, a, by omega, z⟩)
theorem s_RU_withPath {v : Int32} {dm : Nat} (ok : q_ok c) (T : x_tree c σ) (hd : dm ≤ q_n c) (hp : ∀ w : Int32, (∀ x, bt w x = true ↔ (bt v x = true ∨ ∃ y, 1 ≤ y ∧ y ≤ q_n c ∧ bt v y = true ∧ q_bl c y x ∧ q_st c x ∧ q_bl c x dm)) → po (some w) σ) : m_RU_withPath E (d + 1) v (nI dm) σ po :=
  r_RU_withPath (s_RU_path ok T hd hp (q_n c) 1 v (by omega) (by omega) (fun x => by
    constructor
    · exact Or.inl
    · rintro (z | ⟨y, a, b, -⟩)
      · exact z
      · omega))
end XT
