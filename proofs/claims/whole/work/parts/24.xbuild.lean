/-! Building the tree. -/
def q_addS (c : q_C) (p k : Nat) : q_C := ((q_n c + 1, fun s => if s = q_n c + 1 then p else q_par c s, fun s => if s = q_n c + 1 then k else q_kd c s, q_nam c), c.2)
def q_mayA (c : q_C) (p k : Nat) : Prop := p ≤ q_n c ∧ q_n c < 15 ∧ 1 ≤ k ∧ k ≤ 5 ∧ q_kd c p ≤ 2 ∧ (q_kd c p = 2 → k ≠ 3) ∧ (p = 0 → k ≤ 3)
section BA
variable {c : q_C} {p k : Nat}
theorem as_n : q_n (q_addS c p k) = q_n c + 1 := rfl
theorem as_par {s : Nat} : q_par (q_addS c p k) s = if s = q_n c + 1 then p else q_par c s := rfl
theorem as_kd {s : Nat} : q_kd (q_addS c p k) s = if s = q_n c + 1 then k else q_kd c s := rfl
theorem as_st {x : Nat} : q_st (q_addS c p k) x ↔ q_st c x ∨ (x = q_n c + 1 ∧ k ≤ 3) := by
  unfold q_st
  rw [as_n, as_kd]
  by_cases h : x = q_n c + 1
  · rw [if_pos h]
    constructor
    · intro z; exact Or.inr ⟨h, z.2.2⟩
    · rintro (z | z)
      · omega
      · exact ⟨by omega, by omega, z.2⟩
  · rw [if_neg h]
    constructor
    · intro z; exact Or.inl ⟨z.1, by omega, z.2.2⟩
    · rintro (z | z)
      · exact ⟨z.1, by omega, z.2.2⟩
      · omega
theorem as_ch {s x : Nat} : q_ch (q_addS c p k) s x ↔ q_ch c s x ∨ (x = q_n c + 1 ∧ k ≤ 3 ∧ s = p) := by
  unfold q_ch
  rw [as_st, as_par]
  by_cases h : x = q_n c + 1
  · rw [if_pos h]
    constructor
    · rintro ⟨z1 | z1, z2⟩
      · have := z1.2.1; omega
      · exact Or.inr ⟨h, z1.2, z2.symm⟩
    · rintro (z | z)
      · have := z.1.2.1; omega
      · exact ⟨Or.inr ⟨h, z.2.1⟩, z.2.2.symm⟩
  · rw [if_neg h]
    constructor
    · rintro ⟨z1 | z1, z2⟩
      · exact Or.inl ⟨z1, z2⟩
      · exact absurd z1.1 h
    · rintro (z | z)
      · exact ⟨Or.inl z.1, z.2⟩
      · exact absurd z.1 h
theorem as_ok (ok : q_ok c) (h : q_mayA c p k) : q_ok (q_addS c p k) := by
  obtain ⟨h1, h2, h3, h4, h5, h6, h7⟩ := h
  obtain ⟨o1, o2, o3, o4, o5, o6, o7, o8⟩ := ok
  refine ⟨by rw [as_n]; omega, o2, o3, by rw [as_kd, if_neg (by omega)]; exact o4, fun s s1 s2 => ?_, fun s => ?_, fun t ht => ?_, o8⟩
  · rw [as_n] at s2
    by_cases e : s = q_n c + 1
    · rw [as_par, if_pos e, as_kd, if_pos e, as_kd, if_neg (by omega)]
      exact ⟨by omega, h3, h4, h5, h6, h7⟩
    · have := o5 s s1 (by omega)
      rw [as_par, if_neg e, as_kd, if_neg e, as_kd, if_neg (by omega)]
      exact this
  · rcases o6 s with z | z
    · exact Or.inl z
    · exact Or.inr (as_ch.mpr (Or.inl z))
  · obtain ⟨t1, t2, t3, t4⟩ := o7 t ht
    have := t1.2.1
    refine ⟨as_st.mpr (Or.inl t1), ?_, ?_, fun g hg => ?_⟩
    · show q_kd (q_addS c p k) (q_src c t) ≠ 3
      rw [as_kd, if_neg (by omega)]; exact t2
    · rcases t3 with z | z
      · exact Or.inl z
      · exact Or.inr ⟨z.1, Nat.le_succ_of_le z.2⟩
    · rcases t4 g hg with z | ⟨z1, v, z2, z3⟩
      · exact Or.inl z
      · exact Or.inr ⟨z1, v, as_st.mpr (Or.inl z2), z3⟩
theorem as_bl (ok : q_ok c) (h : q_mayA c p k) : ∀ (a b : Nat), a ≤ q_n c → (q_bl (q_addS c p k) a b ↔ q_bl c a b) := by
  have ok' := as_ok ok h
  intro a
  induction a using Nat.strongRecOn with
  | _ a ih =>
    intro b hn
    by_cases h0 : a = 0
    · subst h0; exact ⟨fun z => absurd z q_bl_0, fun z => absurd z q_bl_0⟩
    · have hlt := (ok.2.2.2.2.1 a (by omega) hn).1
      rw [q_bl_s ok (by omega) hn, q_bl_s ok' (by omega) (by rw [as_n]; omega), as_par, if_neg (by omega), ih _ hlt b (by omega)]
theorem as_bln (ok : q_ok c) (h : q_mayA c p k) {b : Nat} : q_bl (q_addS c p k) (q_n c + 1) b ↔ b = p ∨ q_bl c p b := by
  have ok' := as_ok ok h
  rw [q_bl_s ok' (by omega) (by rw [as_n]; omega), as_par, if_pos rfl, as_bl ok h p b h.1]
  constructor
  · rintro (z | z)
    · exact Or.inl z.symm
    · exact Or.inr z
  · rintro (z | z)
    · exact Or.inl z.symm
    · exact Or.inr z
theorem q_first_is {s x : Nat} (hx : q_ch c s x) : ∀ (f i : Nat), i ≤ x → x < i + f → (∀ y, i ≤ y → y < x → ¬ q_ch c s y) → q_first c s f i = x := by
  intro f
  induction f with
  | zero => intro i h1 h2; omega
  | succ f ih =>
    intro i h1 h2 h3
    unfold q_first
    by_cases e : i = x
    · subst e; rw [q_if_t hx]
    · rw [q_if_f (h3 i (Nat.le_refl _) (by omega))]
      exact ih (i + 1) (by omega) (by omega) (fun y y1 y2 => h3 y (by omega) y2)
theorem q_least_ch {s : Nat} (h : ∃ x, q_ch c s x) : ∃ x, q_ch c s x ∧ ∀ y, y < x → ¬ q_ch c s y := by
  obtain ⟨x, h1, h2⟩ := pk_least (fun x => q_ch c s x) h
  exact ⟨x, h1, h2⟩
theorem as_ini (ok : q_ok c) (h : q_mayA c p k) {s : Nat} (hc : ∃ x, q_ch c s x) : q_ini (q_addS c p k) s = q_ini c s := by
  have h15 := ok.1
  unfold q_ini
  show (if q_nam c s = 0 then _ else q_nam c s) = _
  split
  · obtain ⟨x, x1, x2⟩ := q_least_ch hc
    have := x1.1.1
    have := x1.1.2.1
    rw [q_first_is x1 16 1 (by omega) (by omega) (fun y _ y2 => x2 y y2)]
    refine q_first_is (as_ch.mpr (Or.inl x1)) 16 1 (by omega) (by omega) (fun y _ y2 => ?_)
    rw [as_ch]
    rintro (z | z)
    · exact x2 y y2 z
    · omega
  · rfl
theorem as_ini0 (ok : q_ok c) (h : q_mayA c p k) (hk : k ≤ 3) (hc : ¬ ∃ x, q_ch c p x) : q_ini (q_addS c p k) p = q_n c + 1 := by
  have h2 := h.2.1
  unfold q_ini
  have h0 : q_nam c p = 0 := (ok.2.2.2.2.2.1 p).resolve_right (fun z => hc ⟨_, z⟩)
  show (if q_nam c p = 0 then _ else q_nam c p) = _
  rw [if_pos h0]
  refine q_first_is (as_ch.mpr (Or.inr ⟨rfl, hk, rfl⟩)) 16 1 (by omega) (by omega) (fun y _ y2 => ?_)
  rw [as_ch]
  rintro (z | z)
  · exact hc ⟨y, z⟩
  · omega
theorem as_domain (ok : q_ok c) (h : q_mayA c p k) {tgt : Nat} (ht : tgt ≤ q_n c) : ∀ (f u : Nat), u ≤ q_n c → q_domain (q_addS c p k) tgt f u = q_domain c tgt f u := by
  intro f
  induction f with
  | zero => intro u _; rfl
  | succ f ih =>
    intro u hu
    unfold q_domain
    by_cases h0 : u = 0
    · rw [if_pos h0, if_pos h0]
    · have hlt := (ok.2.2.2.2.1 u (by omega) hu).1
      rw [if_neg h0, if_neg h0, as_kd, if_neg (by omega), as_par, if_neg (by omega), ih _ (by omega), propext (as_bl ok h tgt u ht)]
theorem as_dom (ok : q_ok c) (h : q_mayA c p k) {t : Nat} (ht : t < q_nt c) : q_dom (q_addS c p k) t = q_dom c t := by
  obtain ⟨t1, t2, t3, t4⟩ := ok.2.2.2.2.2.2.1 t ht
  have := t1.2.1
  have hlt := (ok.2.2.2.2.1 _ t1.1 t1.2.1).1
  unfold q_dom
  show q_domain (q_addS c p k) (q_tg c t) 16 (q_par (q_addS c p k) (q_src c t)) = _
  rw [as_par, if_neg (by omega)]
  exact as_domain ok h (by omega) 16 _ (by omega)
theorem as_tr (ok : q_ok c) (h : q_mayA c p k) {σ : dx_V} (T : x_tr c σ) : x_tr (q_addS c p k) σ := by
  refine ⟨T.1, fun t ht => ?_⟩
  obtain ⟨a1, a2, a3, a4, a5, a6⟩ := T.2 t ht
  exact ⟨a1, a2, a3, fun h0 => by rw [as_dom ok h ht]; exact a4 h0, a5, a6⟩
end BA
section XBU
variable {E : dx_E} {d : Nat} {po : dx_P} {c : q_C}
theorem s_hist_raw {s k : Nat} {σ : dx_V} (hs : s ≤ 15) (hk : k ≤ 5) (e : σ 11 s = nI k) (hp : po (some (q_z (4 ≤ k))) σ) : m_ST_isHistory E d (nI s) σ po := by
  refine r_ST_isHistory ?_
  rw [i_cl (by omega), e]
  simp only [i_eq (x := nI _), i_n (show k ≤ 100000 by omega), i_4, i_5]
  exact ⟨i_in (by omega) (by omega), fun h => r_ST_isHistory_20 (q_p1 hp (by omega)), fun h => ⟨i_in (by omega) (by omega), fun h2 => q_p0 hp (by omega), fun h2 => r_ST_isHistory_20 (q_p1 hp (by omega))⟩⟩
theorem s_ST_child30 {x : Nat} {σ0 : dx_V} (hx : x ≤ 15) (hp : ∀ σ' : dx_V, (∀ s, s ≤ 15 → ∀ i, bt (σ' 16 s) i = true ↔ (bt (σ0 16 s) i = true ∨ (s < x ∧ bt (σ0 15 x) s = true ∧ i = x))) → x_fr [16] σ0 σ' → po none σ') : ∀ (f s : Nat) (σ : dx_V), f + s = x → x_fr [16] σ0 σ → (∀ u, u ≤ 15 → ∀ i, bt (σ 16 u) i = true ↔ (bt (σ0 16 u) i = true ∨ (u < s ∧ bt (σ0 15 x) u = true ∧ i = x))) → g_ST_addChild_30 E (d + 1) po (nI x) (nI s) σ := by
  intro f
  induction f with
  | zero =>
    intro s σ hi fr hb
    refine r_ST_addChild_30 ?_
    simp only [i_le, i_n (show x ≤ 100000 by omega), i_n (show s ≤ 100000 by omega)]
    refine ⟨fun _ => hp σ (fun u hu i => ?_) fr, fun q => absurd (by omega) q⟩
    rw [hb u hu i, show s = x by omega]
  | succ f ih =>
    intro s σ hi fr hb
    refine r_ST_addChild_30 ?_
    rw [i_cl (n := x) (by omega), i_cl (n := s) (by omega), i_inc s, fr 15 (by decide)]
    simp only [i_le, i_n (show x ≤ 100000 by omega), i_n (show s ≤ 100000 by omega)]
    refine ⟨fun q => absurd q (by omega), fun _ => ⟨i_in (by omega) (by omega), dx_ci1 _ _ (fun po hp => s_MC_isIn (by omega) hp) (q_zb (fun q => ?_) (fun q => ⟨i_in (by omega) (by omega), i_in (by omega) (by omega), ?_⟩))⟩⟩
    · refine ih (s + 1) σ (by omega) fr (fun u hu i => ?_)
      rw [hb u hu i]
      constructor
      · rintro (z | ⟨z1, z2, z3⟩)
        · exact Or.inl z
        · exact Or.inr ⟨by omega, z2, z3⟩
      · rintro (z | ⟨z1, z2, z3⟩)
        · exact Or.inl z
        · have : u ≠ s := fun e => q (e ▸ z2)
          exact Or.inr ⟨by omega, z2, z3⟩
    · refine ih (s + 1) _ (by omega) (x_fr_u fr (by decide)) (fun u hu i => ?_)
      by_cases e : u = s
      · subst e
        rw [dx_us, b_or, Bool.or_eq_true, b_one (by omega), hb u hu i]
        constructor
        · rintro ((z | ⟨z1, z2, z3⟩) | z)
          · exact Or.inl z
          · exact Or.inr ⟨by omega, z2, z3⟩
          · exact Or.inr ⟨by omega, q, z⟩
        · rintro (z | ⟨z1, z2, z3⟩)
          · exact Or.inl (Or.inl z)
          · exact Or.inr z3
      · rw [dx_uk e, hb u hu i]
        constructor
        · rintro (z | ⟨z1, z2, z3⟩)
          · exact Or.inl z
          · exact Or.inr ⟨by omega, z2, z3⟩
        · rintro (z | ⟨z1, z2, z3⟩)
          · exact Or.inl z
          · exact Or.inr ⟨by omega, z2, z3⟩
theorem s_ST_addChild {p x : Nat} {σ : dx_V} (hpp : p ≤ 15) (hx : x ≤ 15) (hp : ∀ σ' : dx_V, (∀ s, σ' 13 s = if s = p ∧ σ 14 p = 0 then nI x else σ 13 s) → (∀ s, s ≤ 15 → ∀ i, bt (σ' 14 s) i = true ↔ (bt (σ 14 s) i = true ∨ (s = p ∧ i = x))) → (∀ s, s ≤ 15 → ∀ i, bt (σ' 16 s) i = true ↔ (bt (σ 16 s) i = true ∨ (s < x ∧ bt (σ 15 x) s = true ∧ i = x))) → x_fr [13, 14, 16] σ σ' → po none σ') : m_ST_addChild E (d + 1) (nI p) (nI x) σ po := by
  have hin : vp_in (nI p) 16 := i_in (by omega) (by omega)
  have key : ∀ σ1 : dx_V, (∀ s, σ1 13 s = if s = p ∧ σ 14 p = 0 then nI x else σ 13 s) → x_fr [13] σ σ1 → g_ST_addChild_16 E (d + 1) po (nI p) (nI x) σ1 := by
    intro σ1 h13 f13
    refine r_ST_addChild_16 ?_
    rw [i_cl (n := p) (by omega)]
    refine ⟨hin, hin, ?_⟩
    have f2 : x_fr [13, 14, 16] σ (dx_u σ1 14 p ((σ1 14 p) ||| (1 <<< (nI x &&& 31)))) := x_fr_u (x_fr_w f13 (by decide)) (by decide)
    refine s_ST_child30 hx (fun σ' z1 z2 => hp σ' (fun s => ?_) (fun s hs i => ?_) (fun s hs i => ?_) (x_fr_tr f2 (x_fr_w z2 (by decide)) (fun _ z => z))) x 0 _ (by omega) x_fr_rf (fun u hu i => ?_)
    · rw [z2 13 (by decide), dx_un (by decide)]; exact h13 s
    · rw [z2 14 (by decide)]
      by_cases e : s = p
      · subst e
        rw [dx_us, b_or, Bool.or_eq_true, b_one (by omega), f13 14 (by decide)]
        simp
      · rw [dx_uk e, f13 14 (by decide)]
        simp [e]
    · rw [z1 s hs i, dx_un (by decide), dx_un (by decide), f13 16 (by decide), f13 15 (by decide)]
    · constructor
      · exact Or.inl
      · rintro (z | z)
        · exact z
        · omega
  refine r_ST_addChild ?_
  rw [i_cl (n := p) (by omega)]
  refine ⟨hin, fun q => key σ (fun s => ?_) x_fr_rf, fun q => ⟨hin, key _ (fun s => ?_) (x_fr_u x_fr_rf (by decide))⟩⟩
  · rw [if_neg (fun z => q z.2)]
  · by_cases e : s = p
    · subst e; rw [dx_us, if_pos ⟨rfl, q⟩]
    · rw [dx_uk e, if_neg (fun z => e z.1)]
def x_Y : List Nat := [1, 11, 12, 13, 14, 15, 16]
theorem s_ST_add {p k : Nat} {σ : dx_V} (ok : q_ok c) (T : x_tree c σ) (h : q_mayA c p k) (hp : ∀ σ' : dx_V, x_tree (q_addS c p k) σ' → x_fr x_Y σ σ' → po (some (nI (q_n c + 1))) σ') : m_ST_add E (d + 2) (nI p) (nI k) σ po := by
  have ok' := as_ok ok h
  obtain ⟨h1, h2, h3, h4, h5, h6, h7⟩ := id h
  have hin : vp_in (nI (q_n c + 1)) 16 := i_in (by omega) (by omega)
  refine r_ST_add ?_
  rw [T.1, i_inc, i_cl (n := q_n c + 1) (by omega), i_cl (n := p) (by omega)]
  refine ⟨hin, hin, i_in (by omega) (by omega), hin, ?_⟩
  have f1 : x_fr x_Y σ (dx_u (dx_u (dx_u (dx_u σ 1 6 (nI (q_n c + 1))) 11 (q_n c + 1) (nI k)) 12 (q_n c + 1) (nI p)) 15 (q_n c + 1) ((σ 15 p) ||| (1 <<< (nI p &&& 31)))) := x_fr_u (x_fr_u (x_fr_u (x_fr_u x_fr_rf (by decide)) (by decide)) (by decide)) (by decide)
  have e1 : (dx_u (dx_u (dx_u (dx_u σ 1 6 (nI (q_n c + 1))) 11 (q_n c + 1) (nI k)) 12 (q_n c + 1) (nI p)) 15 (q_n c + 1) ((σ 15 p) ||| (1 <<< (nI p &&& 31)))) 1 6 = nI (q_n c + 1) := rfl
  have e11 : ∀ s, s ≤ q_n c + 1 → (dx_u (dx_u (dx_u (dx_u σ 1 6 (nI (q_n c + 1))) 11 (q_n c + 1) (nI k)) 12 (q_n c + 1) (nI p)) 15 (q_n c + 1) ((σ 15 p) ||| (1 <<< (nI p &&& 31)))) 11 s = nI (q_kd (q_addS c p k) s) := by
    intro s hs
    rw [dx_un (by decide), dx_un (by decide), as_kd]
    by_cases e : s = q_n c + 1
    · rw [if_pos e, e, dx_us]
    · rw [if_neg e, dx_uk e, dx_un (by decide), T.2.1 s (by omega)]
  have e12 : ∀ s, 1 ≤ s → s ≤ q_n c + 1 → (dx_u (dx_u (dx_u (dx_u σ 1 6 (nI (q_n c + 1))) 11 (q_n c + 1) (nI k)) 12 (q_n c + 1) (nI p)) 15 (q_n c + 1) ((σ 15 p) ||| (1 <<< (nI p &&& 31)))) 12 s = nI (q_par (q_addS c p k) s) := by
    intro s s1 hs
    rw [dx_un (by decide), as_par]
    by_cases e : s = q_n c + 1
    · rw [if_pos e, e, dx_us]
    · rw [if_neg e, dx_uk e, dx_un (by decide), dx_un (by decide), T.2.2.1 s s1 (by omega)]
  have e15 : ∀ s, s ≤ q_n c + 1 → ∀ x, bt ((dx_u (dx_u (dx_u (dx_u σ 1 6 (nI (q_n c + 1))) 11 (q_n c + 1) (nI k)) 12 (q_n c + 1) (nI p)) 15 (q_n c + 1) ((σ 15 p) ||| (1 <<< (nI p &&& 31)))) 15 s) x = true ↔ q_bl (q_addS c p k) s x := by
    intro s hs x
    by_cases e : s = q_n c + 1
    · rw [e, dx_us, as_bln ok h, b_or, Bool.or_eq_true, b_one (by omega), T.2.2.2.2.2.1 p h1 x]
      exact Or.comm
    · rw [dx_uk e, dx_un (by decide), dx_un (by decide), dx_un (by decide), as_bl ok h s x (by omega), T.2.2.2.2.2.1 s (by omega) x]
  have e13 : (dx_u (dx_u (dx_u (dx_u σ 1 6 (nI (q_n c + 1))) 11 (q_n c + 1) (nI k)) 12 (q_n c + 1) (nI p)) 15 (q_n c + 1) ((σ 15 p) ||| (1 <<< (nI p &&& 31)))) 13 = σ 13 := rfl
  have e14 : (dx_u (dx_u (dx_u (dx_u σ 1 6 (nI (q_n c + 1))) 11 (q_n c + 1) (nI k)) 12 (q_n c + 1) (nI p)) 15 (q_n c + 1) ((σ 15 p) ||| (1 <<< (nI p &&& 31)))) 14 = σ 14 := rfl
  have e16 : (dx_u (dx_u (dx_u (dx_u σ 1 6 (nI (q_n c + 1))) 11 (q_n c + 1) (nI k)) 12 (q_n c + 1) (nI p)) 15 (q_n c + 1) ((σ 15 p) ||| (1 <<< (nI p &&& 31)))) 16 = σ 16 := rfl
  generalize dx_u (dx_u (dx_u (dx_u σ 1 6 (nI (q_n c + 1))) 11 (q_n c + 1) (nI k)) 12 (q_n c + 1) (nI p)) 15 (q_n c + 1) ((σ 15 p) ||| (1 <<< (nI p &&& 31))) = σ1 at *
  have ek : σ1 11 (q_n c + 1) = nI k := by rw [e11 _ (Nat.le_refl _), as_kd, if_pos rfl]
  refine dx_ci1 _ _ (fun po hp => s_hist_raw (by omega) h4 ek hp) (q_zc (fun q => ?_) (fun q => ?_))
  · rw [e1]
    refine hp σ1 ⟨e1, e11, e12, fun s hs hc => ?_, fun s hs x => ?_, e15, fun s hs x => ?_⟩ f1
    · have hc2 : ∃ x, q_ch c s x := by
        obtain ⟨x, hx⟩ := hc
        rcases as_ch.mp hx with z | z
        · exact ⟨x, z⟩
        · omega
      have := q_ch_par ok hc2.choose_spec
      rw [e13, as_ini ok h hc2]
      exact T.2.2.2.1 s (by omega) hc2
    · rw [e14, T.2.2.2.2.1 s hs x, as_ch]
      constructor
      · exact Or.inl
      · rintro (z | z)
        · exact z
        · omega
    · rw [e16, T.2.2.2.2.2.2 s hs x, as_st]
      constructor
      · rintro ⟨z1, z2⟩; exact ⟨Or.inl z1, (as_bl ok h x s z1.2.1).mpr z2⟩
      · rintro ⟨z1 | z1, z2⟩
        · exact ⟨z1, (as_bl ok h x s z1.2.1).mp z2⟩
        · omega
  · rw [e1]
    refine dx_cuR (fun σ2 => x_tree (q_addS c p k) σ2 ∧ x_fr x_Y σ σ2) (fun po hpo => s_ST_addChild (by omega) (by omega) (fun σ' z13 z14 z16 zf => hpo σ' ⟨⟨?_, fun s hs => ?_, fun s s1 hs => ?_, fun s hs hc => ?_, fun s hs x => ?_, fun s hs x => ?_, fun s hs x => ?_⟩, x_fr_tr f1 (x_fr_w zf (by decide)) (fun _ z => z)⟩)) ?_
    · rw [zf 1 (by decide)]; exact e1
    · rw [zf 11 (by decide)]; exact e11 s hs
    · rw [zf 12 (by decide)]; exact e12 s s1 hs
    · rw [z13 s, e13, e14]
      by_cases hc2 : ∃ x, q_ch c s x
      · have hz : ¬ (s = p ∧ σ 14 p = 0) := by
          rintro ⟨rfl, z⟩
          obtain ⟨x, hx⟩ := hc2
          have := (T.2.2.2.2.1 s (by omega) x).mpr hx
          rw [z, b_0] at this
          cases this
        have := q_ch_par ok hc2.choose_spec
        rw [if_neg hz, as_ini ok h hc2]
        exact T.2.2.2.1 s (by omega) hc2
      · obtain ⟨x, hx⟩ := hc
        rcases as_ch.mp hx with z | z
        · exact absurd ⟨x, z⟩ hc2
        · obtain ⟨-, -, rfl⟩ := z
          have hz : σ 14 s = 0 := b_z.mpr (fun i => by
            cases hb : bt (σ 14 s) i with
            | false => rfl
            | true => exact absurd ⟨i, (T.2.2.2.2.1 s (by omega) i).mp hb⟩ hc2)
          rw [if_pos ⟨rfl, hz⟩, as_ini0 ok h (by omega) hc2]
    · rw [z14 s hs x, e14, T.2.2.2.2.1 s hs x, as_ch]
      constructor
      · rintro (z | ⟨z1, z2⟩)
        · exact Or.inl z
        · exact Or.inr ⟨z2, by omega, z1⟩
      · rintro (z | ⟨z1, z2, z3⟩)
        · exact Or.inl z
        · exact Or.inr ⟨z3, z1⟩
    · rw [zf 15 (by decide)]; exact e15 s hs x
    · rw [z16 s hs x, e16, T.2.2.2.2.2.2 s hs x, as_st, e15 (q_n c + 1) (Nat.le_refl _) s]
      constructor
      · rintro (⟨z1, z2⟩ | ⟨z1, z2, rfl⟩)
        · exact ⟨Or.inl z1, (as_bl ok h x s z1.2.1).mpr z2⟩
        · exact ⟨Or.inr ⟨rfl, by omega⟩, z2⟩
      · rintro ⟨z1 | z1, z2⟩
        · exact Or.inl ⟨z1, (as_bl ok h x s z1.2.1).mp z2⟩
        · obtain ⟨rfl, z1⟩ := z1
          have := q_bl_lt ok' _ _ (by rw [as_n]; omega) z2
          exact Or.inr ⟨this, z2, rfl⟩
    · rintro σ2 ⟨T2, f2⟩
      rw [T2.1, as_n]
      exact hp σ2 T2 f2
end XBU
