/-! Domains, tables, the check of a chart; what the calls do. -/
theorem q_domain_any {c : q_C} (ok : q_ok c) {tgt : Nat} : ∀ (u f g : Nat), u ≤ q_n c → u ≤ f → u ≤ g → q_domain c tgt f u = q_domain c tgt g u := by
  intro u
  induction u using Nat.strongRecOn with
  | _ u ih =>
    intro f g hn hf hg
    by_cases h0 : u = 0
    · subst h0
      cases f <;> cases g <;> simp [q_domain]
    · obtain ⟨f, rfl⟩ : ∃ f', f = f' + 1 := ⟨f - 1, by omega⟩
      obtain ⟨g, rfl⟩ : ∃ g', g = g' + 1 := ⟨g - 1, by omega⟩
      have hlt := (ok.2.2.2.2.1 u (by omega) hn).1
      have := ih _ hlt f g (by omega) (by omega) (by omega)
      unfold q_domain
      rw [if_neg h0, if_neg h0, this]
theorem q_domain_s {c : q_C} (ok : q_ok c) {tgt u : Nat} (h1 : 1 ≤ u) (hn : u ≤ q_n c) : q_domain c tgt 16 u = q_if (q_kd c u = 1 ∧ q_bl c tgt u) u (q_domain c tgt 16 (q_par c u)) := by
  have hlt := (ok.2.2.2.2.1 u h1 hn).1
  have h15 := ok.1
  rw [q_domain_any ok (q_par c u) 16 15 (by omega) (by omega) (by omega)]
  conv => lhs; unfold q_domain
  rw [if_neg (by omega)]
theorem q_domain_0 {c : q_C} {tgt : Nat} : q_domain c tgt 16 0 = 0 := by unfold q_domain; rw [if_pos rfl]
section XTB
variable {E : dx_E} {d : Nat} {po : dx_P} {c : q_C}
theorem s_ST_nearest {tgt : Nat} {w : Int32} {σ : dx_V} (ok : q_ok c) (T : x_tree c σ) : ∀ (j u : Nat), u ≤ j → j ≤ 15 → u ≤ q_n c → (u = 0 ∨ ¬ q_leaf c u) → (∀ x, 1 ≤ x → x ≤ j → (bt w x = true ↔ (x = u ∨ q_bl c u x) ∧ q_bl c tgt x)) → po (some (nI (q_domain c tgt 16 u))) σ → g_ST_nearestCompoundAbove_18 E (d + 1) po w (nI j) σ := by
  have h15 := ok.1
  intro j
  induction j with
  | zero =>
    intro u hu hj hn hl hw hp
    obtain rfl : u = 0 := by omega
    rw [q_domain_0] at hp
    refine r_ST_nearestCompoundAbove_18 ?_
    simp only [i_lt, i_1, i_n (show 0 ≤ 100000 by omega)]
    exact ⟨fun _ => hp, fun q => absurd (by omega) q⟩
  | succ j ih =>
    intro u hu hj hn hl hw hp
    refine r_ST_nearestCompoundAbove_18 ?_
    simp only [i_lt, i_1, i_n (show j + 1 ≤ 100000 by omega), i_dec]
    refine ⟨fun q => absurd q (by omega), fun _ => dx_ci1 _ _ (fun po hp => s_MC_isIn (by omega) hp) ?_⟩
    rw [q_z_eq (hw (j + 1) (by omega) (Nat.le_refl _))]
    by_cases e : u = j + 1
    · subst e
      have hlt := (ok.2.2.2.2.1 (j + 1) (by omega) hn)
      have hleaf := hl.resolve_left (by omega)
      have hpar : q_par c (j + 1) = 0 ∨ ¬ q_leaf c (q_par c (j + 1)) := Or.inr (fun z => by
        refine z (j + 1) ⟨⟨by omega, hn, ?_⟩, rfl⟩
        obtain ⟨x, hx⟩ : ∃ x, q_ch c (j + 1) x := Classical.byContradiction fun n => hleaf (fun x hx => n ⟨x, hx⟩)
        have := (q_ch_par ok hx).2.2.2
        omega)
      have hw2 : ∀ x, 1 ≤ x → x ≤ j → (bt w x = true ↔ (x = q_par c (j + 1) ∨ q_bl c (q_par c (j + 1)) x) ∧ q_bl c tgt x) := by
        intro x x1 x2
        rw [hw x x1 (by omega), q_bl_s ok (by omega) hn]
        constructor
        · rintro ⟨z | z | z, z2⟩
          · omega
          · exact ⟨Or.inl z.symm, z2⟩
          · exact ⟨Or.inr z, z2⟩
        · rintro ⟨z | z, z2⟩
          · exact ⟨Or.inr (Or.inl z.symm), z2⟩
          · exact ⟨Or.inr (Or.inr z), z2⟩
      rw [q_domain_s ok (by omega) hn] at hp
      refine q_zb (fun q => ?_) (fun q => dx_ci1 _ _ (fun po hp => s_ST_isCompound ok T hn hp) (q_zb (fun q2 => ?_) (fun q2 => ?_)))
      · rw [q_if_f (fun z => q ⟨Or.inl rfl, z.2⟩)] at hp
        exact ih _ (by omega) (by omega) (by omega) hpar hw2 hp
      · rw [q_if_f (fun z => q2 ⟨z.1, hleaf⟩)] at hp
        exact ih _ (by omega) (by omega) (by omega) hpar hw2 hp
      · rw [q_if_t ⟨q2.1, q.2⟩] at hp
        exact hp
    · refine q_zb (fun q => ih u (by omega) (by omega) hn hl (fun x x1 x2 => hw x x1 (by omega)) hp) (fun q => ?_)
      exfalso
      rcases q.1 with z | z
      · exact e z.symm
      · have := q_bl_lt ok u (j + 1) hn z; omega
theorem s_ST_nearestCompoundAbove {s t : Nat} {σ : dx_V} (ok : q_ok c) (T : x_tree c σ) (hs : q_st c s) (h1 : 1 ≤ t) (ht : t ≤ q_n c) (hp : po (some (nI (q_domain c t 16 (q_par c s)))) σ) : m_ST_nearestCompoundAbove E (d + 1) (nI s) (nI t) σ po := by
  have h15 := ok.1
  have hk := ok.2.2.2.2.1 s hs.1 hs.2.1
  have hsn := hs.2.1
  refine r_ST_nearestCompoundAbove ⟨i_in (by omega) (by omega), i_in (by omega) (by omega), ?_⟩
  rw [i_cl (n := s) (by omega), i_cl (n := t) (by omega)]
  refine s_ST_nearest ok T 15 (q_par c s) (by omega) (by omega) (by omega) (Or.inr (fun z => z s ⟨hs, rfl⟩)) (fun x x1 x2 => ?_) hp
  rw [b_and, Bool.and_eq_true, T.2.2.2.2.2.1 s hsn x, T.2.2.2.2.2.1 t ht x, q_bl_s ok hs.1 hsn]
  constructor
  · rintro ⟨z | z, z2⟩
    · exact ⟨Or.inl z.symm, z2⟩
    · exact ⟨Or.inr z, z2⟩
  · rintro ⟨z | z, z2⟩
    · exact ⟨Or.inl z.symm, z2⟩
    · exact ⟨Or.inr z, z2⟩
theorem q_whole_iff (ok : q_ok c) : q_whole c ↔ ¬ q_leaf c 0 ∧ ∀ s, 1 ≤ s → s ≤ q_n c → ¬ (q_kd c s = 2 ∧ q_leaf c s) ∧ ¬ (4 ≤ q_kd c s ∧ q_leaf c (q_par c s)) := by
  have nl : ∀ s, (∃ x, q_ch c s x) ↔ ¬ q_leaf c s := fun s => ⟨fun ⟨x, hx⟩ z => z x hx, fun z => Classical.byContradiction fun n => z (fun x hx => n ⟨x, hx⟩)⟩
  constructor
  · rintro ⟨w1, w2⟩
    refine ⟨(nl 0).mp w1, fun s s1 s2 => ⟨fun z => (nl s).mp (w2 s s1 s2 (Or.inl z.1)) z.2, fun z => ?_⟩⟩
    have hk := ok.2.2.2.2.1 s s1 s2
    have hp0 : q_par c s ≠ 0 := fun e => by have := hk.2.2.2.2.2 e; omega
    exact (nl _).mp (w2 (q_par c s) (by omega) (by omega) (Or.inr ⟨s, s1, s2, rfl⟩)) z.2
  · rintro ⟨w1, w2⟩
    refine ⟨(nl 0).mpr w1, fun s s1 s2 h => (nl s).mpr (fun z => ?_)⟩
    rcases h with h | ⟨x, x1, x2, rfl⟩
    · exact (w2 s s1 s2).1 ⟨h, z⟩
    · by_cases hx : q_kd c x ≤ 3
      · exact z x ⟨⟨x1, x2, hx⟩, rfl⟩
      · exact (w2 x x1 x2).2 ⟨by omega, z⟩
theorem s_ST_wholes {σ : dx_V} (ok : q_ok c) (T : x_tree c σ) (h0 : ¬ q_leaf c 0) (hp : po (some (q_z (q_whole c))) σ) : ∀ (f s : Nat), f + s = q_n c + 1 → 1 ≤ s → (∀ x, 1 ≤ x → x < s → ¬ (q_kd c x = 2 ∧ q_leaf c x) ∧ ¬ (4 ≤ q_kd c x ∧ q_leaf c (q_par c x))) → g_ST_isWhole_12 E (d + 1) po (nI s) σ := by
  have h15 := ok.1
  intro f
  induction f with
  | zero =>
    intro s hi h1 hno
    refine r_ST_isWhole_12 ?_
    rw [T.1]
    simp only [i_lt, i_n (show q_n c ≤ 100000 by omega), i_n (show s ≤ 100000 by omega)]
    exact ⟨fun _ => q_p1 hp ((q_whole_iff ok).mpr ⟨h0, fun x x1 x2 => hno x x1 (by omega)⟩), fun q => absurd (by omega) q⟩
  | succ f ih =>
    intro s hi h1 hno
    have hk := ok.2.2.2.2.1 s h1 (by omega)
    have hin : vp_in (nI s) 16 := i_in (by omega) (by omega)
    have next : ¬ (q_kd c s = 2 ∧ q_leaf c s) → g_ST_isWhole_40 E (d + 1) po (nI s) σ := by
      intro hA
      refine r_ST_isWhole_40 ?_
      rw [i_cl (n := s) (by omega), i_inc s]
      have go : ¬ (4 ≤ q_kd c s ∧ q_leaf c (q_par c s)) → g_ST_isWhole_12 E (d + 1) po (nI (s + 1)) σ := fun hB => ih (s + 1) (by omega) (by omega) (fun x x1 x2 => by
        by_cases e : x = s
        · subst e; exact ⟨hA, hB⟩
        · exact hno x x1 (by omega))
      refine dx_ci1 _ _ (fun po hp => s_ST_isHistory ok T (by omega) hp) (q_zb (fun q => go (fun z => q z.1)) (fun q => ⟨hin, ?_⟩))
      rw [T.2.2.1 s h1 (by omega)]
      refine dx_ci1 _ _ (fun po hp => s_ST_isAtomic T (by omega) hp) (q_zb (fun q2 => go (fun z => q2 z.2)) (fun q2 => q_p0 hp (fun z => ?_)))
      exact (((q_whole_iff ok).mp z).2 s h1 (by omega)).2 ⟨q, q2⟩
    refine r_ST_isWhole_12 ?_
    rw [T.1, i_cl (n := s) (by omega), T.2.1 s (by omega)]
    have e2 : nI (q_kd c s) = 2 ↔ q_kd c s = 2 := by rw [i_eq, i_n (by omega), i_2]; omega
    rw [e2]
    simp only [i_lt, i_n (show q_n c ≤ 100000 by omega), i_n (show s ≤ 100000 by omega)]
    refine ⟨fun q => absurd q (by omega), fun _ => ⟨hin, fun q => next (fun z => q z.1), fun q => dx_ci1 _ _ (fun po hp => s_ST_isAtomic T (by omega) hp) (q_zb (fun q2 => next (fun z => q2 z.2)) (fun q2 => q_p0 hp (fun z => ?_)))⟩⟩
    exact (((q_whole_iff ok).mp z).2 s h1 (by omega)).1 ⟨q, q2⟩
theorem s_ST_isWhole {σ : dx_V} (ok : q_ok c) (T : x_tree c σ) (hp : po (some (q_z (q_whole c))) σ) : m_ST_isWhole E (d + 1) σ po := by
  refine r_ST_isWhole ?_
  refine dx_ci1 _ _ (fun po hp => s_ST_isAtomic (s := 0) T (by omega) hp) (q_zb (fun q => ?_) (fun q => ?_))
  · exact s_ST_wholes ok T q hp (q_n c) 1 (by omega) (by omega) (fun x x1 x2 => absurd x2 (by omega))
  · exact q_p0 hp (fun z => ((q_whole_iff ok).mp z).1 q)
end XTB
-- charts that the calls make
def q_setI (c : q_C) (s x : Nat) : q_C := ((q_n c, q_par c, q_kd c, fun i => if i = s then x else q_nam c i), c.2)
def q_addT (c : q_C) (s : Nat) (e : Int32) (t : Nat) : q_C := (c.1, (q_nt c + 1, fun i => if i = q_nt c then s else q_src c i, fun i => if i = q_nt c then e else q_ev c i, fun i => if i = q_nt c then t else q_tg c i, fun i => if i = q_nt c then none else q_gd c i), c.2.2)
def q_setG (c : q_C) (t : Nat) (g : Nat × Nat × Int32) : q_C := (c.1, (q_nt c, q_src c, q_ev c, q_tg c, fun i => if i = t then some g else q_gd c i), c.2.2)
def q_addA (c : q_C) (w : Int32) (o : Nat) (a b : Int32) : q_C := (c.1, c.2.1, (q_na c + 1, fun i => if i = q_na c then w else q_ow c i, fun i => if i = q_na c then o else q_op c i, fun i => if i = q_na c then a else q_a c i, fun i => if i = q_na c then b else q_b c i))
theorem q_domain_cong {c c' : q_C} (h : c'.1 = c.1) {tgt : Nat} : ∀ (f u : Nat), q_domain c' tgt f u = q_domain c tgt f u := by
  obtain ⟨a, b⟩ := c
  obtain ⟨a', b'⟩ := c'
  cases h
  intro f
  induction f with
  | zero => intro u; rfl
  | succ f ih =>
    intro u
    unfold q_domain
    rw [ih]
    rfl
theorem q_first_cong {c c' : q_C} {s : Nat} (h : ∀ i, q_ch c' s i ↔ q_ch c s i) : ∀ (f i : Nat), q_first c' s f i = q_first c s f i := by
  intro f
  induction f with
  | zero => intro i; rfl
  | succ f ih =>
    intro i
    unfold q_first
    rw [ih, propext (h i)]
theorem ok_setI {c : q_C} (ok : q_ok c) {s x : Nat} (h : q_ch c s x) : q_ok (q_setI c s x) := by
  obtain ⟨o1, o2, o3, o4, o5, o6, o7, o8⟩ := ok
  refine ⟨o1, o2, o3, o4, o5, fun i => ?_, o7, o8⟩
  show (if i = s then x else q_nam c i) = 0 ∨ q_ch c i (if i = s then x else q_nam c i)
  by_cases e : i = s
  · rw [if_pos e]; subst e; exact Or.inr h
  · rw [if_neg e]; exact o6 i
theorem ok_addT {c : q_C} (ok : q_ok c) {s t : Nat} {e : Int32} (hn : q_nt c < 20) (hs : q_st c s) (h3 : q_kd c s ≠ 3) (ht : t = 0 ∨ (1 ≤ t ∧ t ≤ q_n c)) : q_ok (q_addT c s e t) := by
  obtain ⟨o1, o2, o3, o4, o5, o6, o7, o8⟩ := ok
  refine ⟨o1, (by show q_nt c + 1 ≤ 20; omega), o3, o4, o5, o6, fun i hi => ?_, o8⟩
  have hi : i < q_nt c + 1 := hi
  show q_st c (if i = q_nt c then s else q_src c i) ∧ q_kd c (if i = q_nt c then s else q_src c i) ≠ 3 ∧ ((if i = q_nt c then t else q_tg c i) = 0 ∨ (1 ≤ (if i = q_nt c then t else q_tg c i) ∧ (if i = q_nt c then t else q_tg c i) ≤ q_n c)) ∧ ∀ g, (if i = q_nt c then none else q_gd c i) = some g → _
  by_cases e : i = q_nt c
  · simp only [if_pos e]
    exact ⟨hs, h3, ht, fun g hg => by cases hg⟩
  · simp only [if_neg e]
    exact o7 i (by omega)
theorem ok_setG {c : q_C} (ok : q_ok c) {t : Nat} {g : Nat × Nat × Int32} (hg : (g.2.1 ≤ 2 ∧ g.1 ≤ 3) ∨ (g.2.1 = 3 ∧ ∃ v, q_st c v ∧ g.2.2 = nI v)) : q_ok (q_setG c t g) := by
  obtain ⟨o1, o2, o3, o4, o5, o6, o7, o8⟩ := ok
  refine ⟨o1, o2, o3, o4, o5, o6, fun i hi => ?_, o8⟩
  obtain ⟨a1, a2, a3, a4⟩ := o7 i hi
  refine ⟨a1, a2, a3, fun g' hg' => ?_⟩
  have hg' : (if i = t then some g else q_gd c i) = some g' := hg'
  by_cases e : i = t
  · rw [if_pos e] at hg'; cases hg'; exact hg
  · rw [if_neg e] at hg'; exact a4 g' hg'
theorem ok_addA {c : q_C} (ok : q_ok c) {w a b : Int32} {o : Nat} (hn : q_na c < 32) (ho : o ≤ 3) (ha : o ≤ 1 → ∃ v, v ≤ 3 ∧ a = nI v) : q_ok (q_addA c w o a b) := by
  obtain ⟨o1, o2, o3, o4, o5, o6, o7, o8⟩ := ok
  refine ⟨o1, o2, (by show q_na c + 1 ≤ 32; omega), o4, o5, o6, o7, fun i hi => ?_⟩
  have hi : i < q_na c + 1 := hi
  show ((if i = q_na c then o else q_op c i) ≤ 1 → ∃ v, v ≤ 3 ∧ (if i = q_na c then a else q_a c i) = nI v) ∧ (if i = q_na c then o else q_op c i) ≤ 3
  by_cases e : i = q_na c
  · simp only [if_pos e]; exact ⟨ha, ho⟩
  · simp only [if_neg e]; exact o8 i (by omega)
