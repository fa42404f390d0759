/-! Enabled transitions, selection, exit sets of the class. -/
def q_oi (t : Option Nat) : Int32 := match t with
  | none => -1
  | some t => nI t
theorem q_fd_lt {P : Nat → Prop} : ∀ (f i t : Nat), q_fd P f i = some t → t < f + i ∧ P t := by
  intro f
  induction f with
  | zero => intro i t h; cases h
  | succ f ih =>
    intro i t h
    unfold q_fd at h
    by_cases hp : P i
    · rw [q_if_t hp] at h; cases h; exact ⟨by omega, hp⟩
    · rw [q_if_f hp] at h; have := ih (i + 1) t h; exact ⟨by omega, this.2⟩
theorem q_near_any {c : q_C} {r : q_R} {e : Int32} (ok : q_ok c) : ∀ (s f g : Nat), s ≤ q_n c → s ≤ f → s ≤ g → q_near c r e f s = q_near c r e g s := by
  intro s
  induction s using Nat.strongRecOn with
  | _ s ih =>
    intro f g hn hf hg
    by_cases h0 : s = 0
    · subst h0
      cases f <;> cases g <;> simp [q_near]
    · obtain ⟨f, rfl⟩ : ∃ f', f = f' + 1 := ⟨f - 1, by omega⟩
      obtain ⟨g, rfl⟩ : ∃ g', g = g' + 1 := ⟨g - 1, by omega⟩
      have hlt := (ok.2.2.2.2.1 s (by omega) hn).1
      have := ih _ hlt f g (by omega) (by omega) (by omega)
      unfold q_near
      rw [if_neg h0, if_neg h0, this]
theorem q_near_s {c : q_C} {r : q_R} {e : Int32} {s : Nat} (ok : q_ok c) (h1 : 1 ≤ s) (hn : s ≤ q_n c) : q_near c r e 16 s = match q_wait c r e s with
    | some t => some t
    | none => q_near c r e 16 (q_par c s) := by
  have hlt := (ok.2.2.2.2.1 s h1 hn).1
  have h15 := ok.1
  rw [q_near_any ok (q_par c s) 16 15 (by omega) (by omega) (by omega)]
  conv => lhs; unfold q_near
  rw [if_neg (by omega)]
  cases q_wait c r e s <;> rfl
theorem q_near_0 {c : q_C} {r : q_R} {e : Int32} : q_near c r e 16 0 = none := by
  unfold q_near; rw [if_pos rfl]
theorem q_near_lt {c : q_C} {r : q_R} {e : Int32} : ∀ (f s t : Nat), q_near c r e f s = some t → t < q_nt c := by
  intro f
  induction f with
  | zero => intro s t h; cases h
  | succ f ih =>
    intro s t h
    unfold q_near at h
    split at h
    · cases h
    · split at h
      · next t' ht => cases h; exact (q_fd_lt _ _ _ ht).1
      · exact ih _ _ h
/-- a list without repetition of numbers below n -/
theorem q_nd : ∀ (n : Nat) (l : List Nat), l.Nodup → (∀ x ∈ l, x < n) → l.length ≤ n := by
  intro n
  induction n with
  | zero =>
    intro l _ h
    cases l with
    | nil => exact Nat.le_refl 0
    | cons a l => exact absurd (h a List.mem_cons_self) (by omega)
  | succ n ih =>
    intro l hd h
    have h1 : (l.erase n).length ≤ n := by
      refine ih _ (hd.erase n) (fun x hx => ?_)
      have h2 := (hd.mem_erase_iff).mp hx
      have := h x h2.2
      have := h2.1
      omega
    rw [List.length_erase] at h1
    split at h1 <;> omega
def x_num (l : List Nat) (n : Int32) (f : Nat → Int32) : Prop := n = nI l.length ∧ ∀ i t, l[i]? = some t → f i = nI t
section XS
variable {E : dx_E} {d : Nat} {σ : dx_V} {po : dx_P} {c : q_C} {r : q_R}
theorem s_SI_satisfies {t : Nat} (ok : q_ok c) (X : x_all c r σ) (K : q_rok c r) (ht : t < q_nt c) (hp : po (some (q_z (q_holds c r t))) σ) : m_SI_satisfies E (d + 1) (nI t) σ po := by
  have h20 := ok.2.1
  have h15 := ok.1
  obtain ⟨-, -, -, -, g1, g2⟩ := X.2.1.2 t ht
  have gk := (ok.2.2.2.2.2.2.1 t ht).2.2.2
  refine r_SI_satisfies ?_
  rw [i_cl (by omega)]
  have hin : vp_in (nI t) 20 := i_in (by omega) (by omega)
  refine ⟨hin, hin, ?_⟩
  cases hg : q_gd c t with
  | none =>
    rw [g1 hg]
    refine ⟨fun q => absurd q (by decide), fun q => absurd q (by decide), fun q => absurd q (by decide), fun q => absurd q (by decide), fun q => q_p1 hp ?_⟩
    intro g h
    rw [hg] at h
    cases h
  | some g =>
    obtain ⟨w, o, v⟩ := g
    obtain ⟨e1, e2, e3⟩ := g2 w o v hg
    have hP : q_holds c r t ↔ (if o = 0 then q_var r w < v else if o = 1 then q_var r w = v else if o = 2 then v < q_var r w else q_on r v.toNatClampNeg) := by
      unfold q_holds
      rw [hg]
      constructor
      · intro h; exact h (w, o, v) rfl
      · intro h g hh; cases hh; exact h
    have ho : o ≤ 3 := by rcases gk _ hg with q | q <;> (have := q.1; simp only at this; omega)
    rw [e1, e2, e3]
    have e0 : ∀ k : Nat, k ≤ 3 → (nI o = nI k ↔ o = k) := fun k hk => ⟨fun q => i_nj q (by omega) (by omega), fun q => by rw [q]⟩
    refine ⟨fun q => ?_, fun q => ?_, fun q => ?_, fun q => ?_, fun q => ?_⟩
    · have q := (e0 0 (by omega)).mp q
      subst q
      rw [if_pos rfl] at hP
      have hw : w ≤ 3 := by rcases gk _ hg with q | q <;> (have q1 := q.1; simp only at q1; omega)
      rw [i_cl (by omega), X.2.2.2.2.2.2.2.2.1 w (by omega)]
      rw [q_z_eq hP] at hp
      refine ⟨hin, i_in (by omega) (by omega), fun z => q_p0 hp ?_, fun z => q_p1 hp ?_⟩
      · rw [i_le] at z; rw [i_lt]; omega
      · rw [i_le] at z; rw [i_lt]; omega
    · have q := (e0 1 (by omega)).mp q
      subst q
      rw [if_neg (by decide), if_pos rfl] at hP
      have hw : w ≤ 3 := by rcases gk _ hg with q | q <;> (have q1 := q.1; simp only at q1; omega)
      rw [i_cl (by omega), X.2.2.2.2.2.2.2.2.1 w (by omega)]
      rw [q_z_eq hP] at hp
      exact ⟨hin, i_in (by omega) (by omega), fun z => q_p0 hp z, fun z => q_p1 hp z⟩
    · have q := (e0 2 (by omega)).mp q
      subst q
      rw [if_neg (by decide), if_neg (by decide), if_pos rfl] at hP
      have hw : w ≤ 3 := by rcases gk _ hg with q | q <;> (have q1 := q.1; simp only at q1; omega)
      rw [i_cl (by omega), X.2.2.2.2.2.2.2.2.1 w (by omega)]
      rw [q_z_eq hP] at hp
      refine ⟨hin, i_in (by omega) (by omega), fun z => q_p0 hp ?_, fun z => q_p1 hp ?_⟩
      · rw [i_le] at z; rw [i_lt]; omega
      · rw [i_le] at z; rw [i_lt]; omega
    · have q := (e0 3 (by omega)).mp q
      subst q
      rw [if_neg (by decide), if_neg (by decide), if_neg (by decide)] at hP
      rcases gk _ hg with q | ⟨q, u, q1, q2⟩
      · have q1 := q.1; simp only at q1; omega
      · simp only at q2
        subst q2
        have hu := q1.2.1
        rw [i_cl (by omega)] at hP
        refine dx_ci1 _ _ (fun po hp => s_MC_isIn (by omega) hp) ⟨q_z_01 _, ?_⟩
        rw [q_z_eq (X.2.2.2.2.2.2.2.2.2.1 u), ← q_z_eq hP]
        exact hp
    · exfalso
      have z0 : ¬ o = 0 := fun z => q.1 ((e0 0 (by omega)).mpr z)
      have z1 : ¬ o = 1 := fun z => q.2.1 ((e0 1 (by omega)).mpr z)
      have z2 : ¬ o = 2 := fun z => q.2.2.1 ((e0 2 (by omega)).mpr z)
      have z3 : ¬ o = 3 := fun z => q.2.2.2 ((e0 3 (by omega)).mpr z)
      omega
theorem s_SE_least {s : Nat} {e : Int32} (ok : q_ok c) (X : x_all c r σ) (K : q_rok c r) (hs : s ≤ 15) : ∀ (f i : Nat), f + i = q_nt c → po (some (q_oi (q_fd (fun t => q_src c t = s ∧ q_ev c t = e ∧ q_holds c r t) f i))) σ → g_SE_leastEnabled_2 E (d + 2) po (nI s) e (nI i) σ := by
  have h20 := ok.2.1
  have h15 := ok.1
  intro f
  induction f with
  | zero =>
    intro i hi hp
    refine r_SE_leastEnabled_2 ?_
    rw [X.2.1.1]
    simp only [i_le, i_n (show q_nt c ≤ 100000 by omega), i_n (show i ≤ 100000 by omega)]
    exact ⟨fun _ => hp, fun h => absurd h (by omega)⟩
  | succ f ih =>
    intro i hi hp
    obtain ⟨g1, g2, -⟩ := X.2.1.2 i (by omega)
    have hsr := (ok.2.2.2.2.2.2.1 i (by omega)).1.2.1
    refine r_SE_leastEnabled_2 ?_
    rw [X.2.1.1, i_cl (by omega), g1, g2, i_inc]
    simp only [i_le, i_n (show q_nt c ≤ 100000 by omega), i_n (show i ≤ 100000 by omega)]
    have hin : vp_in (nI i) 20 := i_in (by omega) (by omega)
    unfold q_fd at hp
    refine ⟨fun h => absurd h (by omega), fun _ => ⟨hin, fun q => ?_, fun q => ⟨hin, fun q2 => ?_, fun q2 => dx_ci1 _ _ (fun po hp => s_SI_satisfies ok X K (by omega) hp) (q_zb (fun q3 => ?_) (fun q3 => ?_))⟩⟩⟩
    · rw [q_if_f (fun z => q (by rw [z.1]))] at hp
      exact ih (i + 1) (by omega) hp
    · rw [q_if_f (fun z => q2 z.2.1)] at hp
      exact ih (i + 1) (by omega) hp
    · rw [q_if_f (fun z => q3 z.2.2)] at hp
      exact ih (i + 1) (by omega) hp
    · rw [q_if_t ⟨i_nj q (by omega) (by omega), q2, q3⟩] at hp
      exact hp
theorem s_SE_leastEnabled {s : Nat} {e : Int32} (ok : q_ok c) (X : x_all c r σ) (K : q_rok c r) (hs : s ≤ 15) (hp : po (some (q_oi (q_wait c r e s))) σ) : m_SE_leastEnabled E (d + 2) (nI s) e σ po :=
  r_SE_leastEnabled (s_SE_least ok X K hs (q_nt c) 0 (by omega) hp)
theorem q_oi_no {t : Option Nat} (h : ∀ u, t = some u → u ≤ 20) : q_oi t = -1 ↔ t = none := by
  cases t with
  | none => exact ⟨fun _ => rfl, fun _ => rfl⟩
  | some u =>
    have hu := h u rfl
    constructor
    · intro q
      have q : nI u = -1 := q
      rw [i_eq, i_n (by omega), i_m1] at q
      omega
    · intro q; cases q
theorem s_SE_nears {e path : Int32} (ok : q_ok c) (X : x_all c r σ) (K : q_rok c r) : ∀ (j u : Nat), u ≤ j → j ≤ q_n c → (∀ x, 1 ≤ x → x ≤ j → (bt path x = true ↔ x = u ∨ q_bl c u x)) → po (some (q_oi (q_near c r e 16 u))) σ → g_SE_nearestEnabled_17 E (d + 3) po e path (nI j) σ := by
  have h20 := ok.2.1
  have h15 := ok.1
  intro j
  induction j with
  | zero =>
    intro u hu hn hb hp
    refine r_SE_nearestEnabled_17 ?_
    obtain rfl : u = 0 := by omega
    rw [q_near_0] at hp
    simp only [i_lt, i_1, i_n (show 0 ≤ 100000 by omega)]
    exact ⟨fun _ => hp, fun h => absurd h (by decide)⟩
  | succ j ih =>
    intro u hu hn hb hp
    refine r_SE_nearestEnabled_17 ?_
    simp only [i_lt, i_1, i_n (show j + 1 ≤ 100000 by omega)]
    refine ⟨fun h => absurd h (by omega), fun _ => dx_ci1 _ _ (fun po hp => s_MC_isIn (by omega) hp) ?_⟩
    rw [q_z_eq (hb (j + 1) (by omega) (Nat.le_refl _))]
    refine q_zb (fun q => ?_) (fun q => ?_)
    · refine r_SE_nearestEnabled_43 ⟨fun _ => ?_, fun z => absurd rfl z⟩
      rw [i_dec]
      have : u ≠ j + 1 := fun z => q (Or.inl z.symm)
      exact ih u (by omega) (by omega) (fun x h1 h2 => hb x h1 (by omega)) hp
    · have hu2 : u = j + 1 := by
        rcases q with q | q
        · exact q.symm
        · have := q_bl_lt ok u (j + 1) (by omega) q; omega
      subst hu2
      refine dx_ci1 _ _ (fun po hp => s_SE_leastEnabled ok X K (by omega) hp) (r_SE_nearestEnabled_43 ?_)
      have hlt := (ok.2.2.2.2.1 (j + 1) (by omega) hn).1
      rw [q_near_s ok (by omega) hn] at hp
      have hw : ∀ t, q_wait c r e (j + 1) = some t → t ≤ 20 := fun t h => by have := (q_fd_lt _ _ _ h).1; omega
      rw [q_oi_no hw, i_dec]
      refine ⟨fun z => ?_, fun z => ?_⟩
      · rw [z] at hp
        refine ih (q_par c (j + 1)) (by omega) (by omega) (fun x h1 h2 => ?_) hp
        rw [hb x h1 (by omega), q_bl_s ok (by omega) hn]
        constructor
        · rintro (z | z | z)
          · omega
          · exact Or.inl z.symm
          · exact Or.inr z
        · rintro (z | z)
          · exact Or.inr (Or.inl z.symm)
          · exact Or.inr (Or.inr z)
      · cases hw2 : q_wait c r e (j + 1) with
        | none => exact absurd hw2 z
        | some t => rw [hw2] at hp; exact hp
theorem s_SE_nearestEnabled {s : Nat} {e : Int32} (ok : q_ok c) (X : x_all c r σ) (K : q_rok c r) (hs : s ≤ q_n c) (hp : po (some (q_oi (q_near c r e 16 s))) σ) : m_SE_nearestEnabled E (d + 3) (nI s) e σ po := by
  have h15 := ok.1
  refine r_SE_nearestEnabled ⟨i_in (by omega) (by omega), ?_⟩
  refine s_SE_nears ok X K s s (Nat.le_refl _) hs (fun x h1 h2 => ?_) hp
  rw [b_or, Bool.or_eq_true, i_cl (by omega), X.1.2.2.2.2.2.1 s hs x, b_one (by omega)]
  exact Or.comm
theorem s_SE_sel {t : Nat} {l : List Nat} (S : x_num l (σ 6 5) (σ 30)) (hl : l.length ≤ 20) (hn : t ∉ l → l.length < 20) (ht : t ≤ 20) (hb : ∀ u ∈ l, u ≤ 20) (hp : ∀ σ' : dx_V, x_num (q_add l (some t)) (σ' 6 5) (σ' 30) → σ' 6 6 = σ 6 6 → x_fr [6, 30] σ σ' → po none σ') : ∀ (f i : Nat), f + i = l.length → (∀ j, j < i → l[j]? ≠ some t) → g_SE_select_8 E d po (nI t) (nI i) σ := by
  intro f
  induction f with
  | zero =>
    intro i hi hno
    have hnl : t ∉ l := fun q => by
      obtain ⟨j, hj, e⟩ := List.getElem_of_mem q
      exact hno j (by omega) (by rw [List.getElem?_eq_getElem hj, e])
    have := hn hnl
    refine r_SE_select_8 ?_
    rw [S.1, i_cl (by omega)]
    simp only [i_le, i_n (show l.length ≤ 100000 by omega), i_n (show i ≤ 100000 by omega)]
    refine ⟨fun _ => ⟨i_in (by omega) (by omega), hp _ ⟨?_, fun q u hu => ?_⟩ ?_ (x_fr_u (x_fr_u x_fr_rf (by decide)) (by decide))⟩, fun h => absurd h (by omega)⟩
    · rw [dx_us, i_inc, q_add, if_neg hnl, List.length_append]; rfl
    · rw [q_add, if_neg hnl] at hu
      rw [dx_un (by decide)]
      by_cases h2 : q = l.length
      · subst h2
        rw [dx_us]
        rw [List.getElem?_append_right (Nat.le_refl _), Nat.sub_self] at hu
        cases hu
        rfl
      · have h3 : q < l.length := by
          have := (List.getElem?_eq_some_iff.mp hu).1
          rw [List.length_append] at this
          simp only [List.length_cons, List.length_nil] at this
          omega
        rw [dx_uk h2]
        rw [List.getElem?_append_left h3] at hu
        exact S.2 q u hu
    · rw [dx_uk (by decide), dx_un (by decide)]
  | succ f ih =>
    intro i hi hno
    obtain ⟨u, hu⟩ : ∃ u, l[i]? = some u := ⟨l[i]'(by omega), List.getElem?_eq_getElem (by omega)⟩
    have hub := hb u (List.mem_of_getElem? hu)
    refine r_SE_select_8 ?_
    rw [S.1, i_cl (n := i) (by omega), S.2 i u hu, i_inc i]
    simp only [i_le, i_n (show l.length ≤ 100000 by omega), i_n (show i ≤ 100000 by omega)]
    refine ⟨fun h => absurd h (by omega), fun _ => ⟨i_in (by omega) (by omega), fun q => ih (i + 1) (by omega) (fun j hj z => ?_), fun q => ?_⟩⟩
    · by_cases hji : j = i
      · subst hji; rw [hu] at z; cases z; exact q rfl
      · exact hno j (by omega) z
    · have : u = t := i_nj q (by omega) (by omega)
      subst this
      have hm : u ∈ l := List.mem_of_getElem? hu
      have hp := hp σ
      rw [q_add, if_pos hm] at hp
      exact hp S rfl x_fr_rf
theorem s_SE_select {t : Option Nat} {l : List Nat} (S : x_num l (σ 6 5) (σ 30)) (hl : l.length ≤ 20) (hn : ∀ u, t = some u → u ∉ l → l.length < 20) (ht : ∀ u, t = some u → u ≤ 20) (hb : ∀ u ∈ l, u ≤ 20) (hp : ∀ σ' : dx_V, x_num (q_add l t) (σ' 6 5) (σ' 30) → σ' 6 6 = σ 6 6 → x_fr [6, 30] σ σ' → po none σ') : m_SE_select E d (q_oi t) σ po := by
  refine r_SE_select ?_
  rw [q_oi_no ht]
  cases t with
  | none => exact ⟨fun z => absurd rfl z, fun _ => hp σ S rfl x_fr_rf⟩
  | some t => exact ⟨fun _ => s_SE_sel S hl (hn t rfl) (ht t rfl) hb hp l.length 0 (by omega) (fun j hj => absurd hj (by omega)), fun z => by cases z⟩
theorem q_dom_le {c : q_C} (ok : q_ok c) {tgt : Nat} : ∀ (f u : Nat), u ≤ q_n c → q_domain c tgt f u ≤ q_n c := by
  intro f
  induction f with
  | zero => intro u _; exact Nat.zero_le _
  | succ f ih =>
    intro u hu
    unfold q_domain
    split
    · exact Nat.zero_le _
    · next h0 =>
      have hlt := (ok.2.2.2.2.1 u (by omega) hu).1
      by_cases h : q_kd c u = 1 ∧ q_bl c tgt u
      · rw [q_if_t h]; exact hu
      · rw [q_if_f h]; exact ih _ (by omega)
theorem q_domt_le {c : q_C} (ok : q_ok c) {t : Nat} (ht : t < q_nt c) : q_dom c t ≤ q_n c := by
  have h := (ok.2.2.2.2.2.2.1 t ht).1
  have hlt := (ok.2.2.2.2.1 _ h.1 h.2.1).1
  have := h.2.1
  exact q_dom_le ok _ _ (by omega)
theorem s_SE_exitSet {t : Nat} (ok : q_ok c) (X : x_all c r σ) (K : q_rok c r) (ht : t < q_nt c) (hp : ∀ x : Int32, (∀ s, bt x s = true ↔ q_leaves c r t s) → po (some x) σ) : m_SE_exitSet E d (nI t) σ po := by
  have h20 := ok.2.1
  have h15 := ok.1
  obtain ⟨-, -, g3, g4, -⟩ := X.2.1.2 t ht
  have hin : vp_in (nI t) 20 := i_in (by omega) (by omega)
  have htg := (ok.2.2.2.2.2.2.1 t ht).2.2.1
  refine r_SE_exitSet ?_
  rw [i_cl (by omega), g3]
  refine ⟨hin, fun q => ?_, fun q => hp 0 (fun s => ?_)⟩
  · have h0 : q_tg c t ≠ 0 := fun z => q (by rw [if_pos z])
    have hd := q_domt_le ok ht
    rw [g4 h0, i_cl (by omega)]
    refine ⟨hin, i_in (by omega) (by omega), hp _ (fun s => ?_)⟩
    rw [b_and, Bool.and_eq_true, X.2.2.2.2.2.2.2.2.2.1 s, X.1.2.2.2.2.2.2 _ (by omega) s]
    unfold q_leaves
    constructor
    · intro z; exact ⟨h0, z.1, z.2.2⟩
    · intro z; exact ⟨z.2.1, K.1 s z.2.1, z.2.2⟩
  · have h0 : q_tg c t = 0 := Classical.byContradiction fun z => by
      rw [if_neg z, i_eq, i_n (by omega), i_m1] at q
      omega
    rw [b_0]
    constructor
    · intro z; cases z
    · intro z; exact absurd h0 z.1
theorem s_SE_conflict {t u : Nat} (ok : q_ok c) (X : x_all c r σ) (K : q_rok c r) (ht : t < q_nt c) (hu : u < q_nt c) (hp : po (some (q_z (q_clash c r t u))) σ) : m_SE_conflict E (d + 1) (nI t) (nI u) σ po := by
  refine r_SE_conflict (dx_ciR (fun x σ1 => σ1 = σ ∧ ∀ s, bt x s = true ↔ q_leaves c r t s) (fun po hpo => s_SE_exitSet ok X K ht (fun x hx => hpo x σ ⟨rfl, hx⟩)) ?_)
  rintro x σ1 ⟨rfl, hx⟩
  refine dx_ciR (fun y σ2 => σ2 = σ1 ∧ ∀ s, bt y s = true ↔ q_leaves c r u s) (fun po hpo => s_SE_exitSet ok X K hu (fun x hx => hpo x _ ⟨rfl, hx⟩)) ?_
  rintro y σ2 ⟨rfl, hy⟩
  have e : x &&& y = 0 ↔ ¬ q_clash c r t u := by
    rw [b_z]
    constructor
    · rintro h ⟨s, h1, h2, h3, h4⟩
      have := h s
      rw [b_and, (hx s).mpr h3, (hy s).mpr h4] at this
      cases this
    · intro h s
      cases hb : bt (x &&& y) s with
      | false => rfl
      | true =>
        rw [b_and, Bool.and_eq_true, hx, hy] at hb
        have := K.1 s hb.1.2.1
        exact absurd ⟨s, this.1, this.2.1, hb.1, hb.2⟩ h
  exact ⟨fun q => q_p0 hp (e.mp q), fun q => q_p1 hp (Classical.byContradiction fun n => q (e.mpr n))⟩
theorem s_SE_outranks {t u : Nat} (ok : q_ok c) (X : x_all c r σ) (ht : t < q_nt c) (hu : u < q_nt c) (hp : po (some (q_z (q_bl c (q_src c t) (q_src c u)))) σ) : m_SE_outranks E (d + 1) (nI t) (nI u) σ po := by
  have h20 := ok.2.1
  have h15 := ok.1
  have s1 := (ok.2.2.2.2.2.2.1 t ht).1.2.1
  have s2 := (ok.2.2.2.2.2.2.1 u hu).1.2.1
  refine r_SE_outranks ?_
  rw [i_cl (by omega), i_cl (by omega), (X.2.1.2 t ht).1, (X.2.1.2 u hu).1, i_cl (by omega)]
  refine ⟨i_in (by omega) (by omega), i_in (by omega) (by omega), i_in (by omega) (by omega), dx_ci1 _ _ (fun po hp => s_MC_isIn (by omega) hp) ⟨q_z_01 _, ?_⟩⟩
  rw [q_z_eq (X.1.2.2.2.2.2.1 _ s1 _)]
  exact hp
end XS
