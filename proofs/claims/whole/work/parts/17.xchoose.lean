/-! Conflicts and choosing in the class. -/
theorem q_keep1_mem {c : q_C} {r : q_R} {l : List Nat} {t u : Nat} (h : u ∈ q_keep1 c r l t) : u ∈ l ∨ u = t := by
  unfold q_keep1 at h
  by_cases hb : ∃ u ∈ l, q_clash c r t u ∧ ¬ q_bl c (q_src c t) (q_src c u)
  · rw [q_if_t hb] at h; exact Or.inl h
  · rw [q_if_f hb] at h
    rcases List.mem_append.mp h with h | h
    · exact Or.inl (List.mem_filter.mp h).1
    · exact Or.inr (List.mem_singleton.mp h)
theorem q_keep1_len {c : q_C} {r : q_R} {l : List Nat} {t : Nat} : (q_keep1 c r l t).length ≤ l.length + 1 := by
  unfold q_keep1
  by_cases hb : ∃ u ∈ l, q_clash c r t u ∧ ¬ q_bl c (q_src c t) (q_src c u)
  · rw [q_if_t hb]; omega
  · rw [q_if_f hb, List.length_append, List.length_singleton]
    have := List.length_filter_le (fun u => @decide (¬ q_clash c r t u) (Classical.propDecidable _)) l
    omega
theorem q_keep1_ne {c : q_C} {r : q_R} {l : List Nat} {t : Nat} : q_keep1 c r l t ≠ [] := by
  unfold q_keep1
  by_cases hb : ∃ u ∈ l, q_clash c r t u ∧ ¬ q_bl c (q_src c t) (q_src c u)
  · rw [q_if_t hb]
    obtain ⟨u, hu, -⟩ := hb
    intro h
    rw [h] at hu
    cases hu
  · rw [q_if_f hb]
    simp
theorem q_settle_mem {c : q_C} {r : q_R} : ∀ (l k : List Nat) (u : Nat), u ∈ l.foldl (q_keep1 c r) k → u ∈ k ∨ u ∈ l := by
  intro l
  induction l with
  | nil => intro k u h; exact Or.inl h
  | cons t l ih =>
    intro k u h
    rcases ih _ u h with h | h
    · rcases q_keep1_mem h with h | h
      · exact Or.inl h
      · exact Or.inr (by rw [h]; exact List.mem_cons_self)
    · exact Or.inr (List.mem_cons_of_mem _ h)
theorem q_settle_len {c : q_C} {r : q_R} : ∀ (l k : List Nat), (l.foldl (q_keep1 c r) k).length ≤ k.length + l.length := by
  intro l
  induction l with
  | nil => intro k; exact Nat.le_refl _
  | cons t l ih =>
    intro k
    have h1 := ih (q_keep1 c r k t)
    have h2 := q_keep1_len (c := c) (r := r) (l := k) (t := t)
    rw [List.foldl_cons, List.length_cons]
    omega
theorem q_settle_ne {c : q_C} {r : q_R} : ∀ (l k : List Nat), k ≠ [] ∨ l ≠ [] → l.foldl (q_keep1 c r) k ≠ [] := by
  intro l
  induction l with
  | nil => intro k h; exact h.elim id (fun q => absurd rfl q)
  | cons t l ih => intro k _; exact ih _ (Or.inl q_keep1_ne)
theorem q_add_ok {l : List Nat} {t : Option Nat} {n : Nat} (hd : l.Nodup) (hl : ∀ u ∈ l, u < n) (ht : ∀ u, t = some u → u < n) : (q_add l t).Nodup ∧ ∀ u ∈ q_add l t, u < n := by
  cases t with
  | none => exact ⟨hd, hl⟩
  | some t =>
    show (if t ∈ l then l else l ++ [t]).Nodup ∧ ∀ u ∈ (if t ∈ l then l else l ++ [t]), u < n
    by_cases h : t ∈ l
    · rw [if_pos h]; exact ⟨hd, hl⟩
    · rw [if_neg h]
      refine ⟨?_, fun u hu => ?_⟩
      · rw [List.nodup_append]
        refine ⟨hd, by simp, fun a ha b hb => ?_⟩
        rw [List.mem_singleton.mp hb]
        intro q
        exact h (q ▸ ha)
      · rcases List.mem_append.mp hu with hu | hu
        · exact hl u hu
        · rw [List.mem_singleton.mp hu]; exact ht t rfl
theorem q_sel_ok {c : q_C} {r : q_R} {e : Int32} : ∀ (f s : Nat) (l : List Nat), l.Nodup → (∀ u ∈ l, u < q_nt c) → (q_sel c r e f s l).Nodup ∧ ∀ u ∈ q_sel c r e f s l, u < q_nt c := by
  intro f
  induction f with
  | zero => intro s l hd hl; exact ⟨hd, hl⟩
  | succ f ih =>
    intro s l hd hl
    unfold q_sel
    by_cases h : q_on r s ∧ q_leaf c s
    · rw [q_if_t h]
      obtain ⟨h1, h2⟩ := q_add_ok hd hl (fun u hu => q_near_lt _ _ _ hu)
      exact ih _ _ h1 h2
    · rw [q_if_f h]; exact ih _ _ hd hl
theorem q_select_ok {c : q_C} {r : q_R} {e : Int32} : (q_select c r e).Nodup ∧ ∀ u ∈ q_select c r e, u < q_nt c := q_sel_ok _ _ _ List.nodup_nil (fun u h => by cases h)
theorem q_settle_lt {c : q_C} {r r' : q_R} {e : Int32} : ∀ u ∈ q_settle c r' (q_select c r e), u < q_nt c := fun u h => by
  rcases q_settle_mem _ _ _ h with h | h
  · cases h
  · exact q_select_ok.2 u h
theorem x_run_fr {r : q_R} {σ σ' : dx_V} {W : List Nat} (h : x_run r σ) (f : x_fr W σ σ') (hw : ∀ k ∈ x_W, k ∉ W) : x_run r σ' := by
  unfold x_run
  rw [f 4 (hw 4 (by decide)), f 5 (hw 5 (by decide)), f 7 (hw 7 (by decide)), f 8 (hw 8 (by decide)), f 9 (hw 9 (by decide)), f 10 (hw 10 (by decide)), f 28 (hw 28 (by decide)), f 29 (hw 29 (by decide)), f 32 (hw 32 (by decide)), f 33 (hw 33 (by decide)), f 34 (hw 34 (by decide)), f 35 (hw 35 (by decide)), f 36 (hw 36 (by decide))]
  exact h
def x_V : List Nat := [6, 30, 31]
theorem x_all_v {c : q_C} {r : q_R} {σ σ' : dx_V} (X : x_all c r σ) (f : x_fr x_V σ σ') : x_all c r σ' :=
  ⟨x_tree_fr X.1 f (by decide), x_tr_fr X.2.1 f (by decide), x_ac_fr X.2.2.1 f (by decide), x_run_fr X.2.2.2 f (by decide)⟩
section XC
variable {E : dx_E} {d : Nat} {po : dx_P} {c : q_C} {r : q_R}
theorem s_SE_keep49 {t : Nat} {l : List Nat} (ok : q_ok c) (K : q_rok c r) (ht : t < q_nt c) (hl : l.length < 20) (hb : ∀ u ∈ l, u < q_nt c) : ∀ (f i : Nat) (σ : dx_V) (m : List Nat), f + i = l.length → x_all c r σ → m = (l.take i).filter (fun u => @decide (¬ q_clash c r t u) (Classical.propDecidable _)) → σ 6 6 = nI l.length → (∀ j u, m[j]? = some u → σ 31 j = nI u) → (∀ j u, l[j]? = some u → i ≤ j → σ 31 j = nI u) →
    (∀ σ' : dx_V, x_num (l.filter (fun u => @decide (¬ q_clash c r t u) (Classical.propDecidable _)) ++ [t]) (σ' 6 6) (σ' 31) → σ' 6 5 = σ 6 5 → x_fr [6, 31] σ σ' → po none σ') → g_SE_keepIfAllowed_49 E (d + 2) po (nI t) (nI m.length) (nI i) σ := by
  have h20 := ok.2.1
  intro f
  induction f with
  | zero =>
    intro i σ m hi X hm hc h1 h2 hp
    have hmi : m.length ≤ i := by rw [hm]; exact Nat.le_trans (List.length_filter_le _ _) (List.length_take_le _ _)
    refine r_SE_keepIfAllowed_49 ?_
    rw [hc, i_cl (by omega), i_inc]
    simp only [i_le, i_n (show l.length ≤ 100000 by omega), i_n (show i ≤ 100000 by omega)]
    rw [List.take_of_length_le (by omega)] at hm
    rw [← hm] at hp
    refine ⟨fun _ => ⟨i_in (by omega) (by omega), hp _ ⟨?_, fun j u hu => ?_⟩ ?_ (x_fr_u (x_fr_u x_fr_rf (by decide)) (by decide))⟩, fun h => absurd h (by omega)⟩
    · rw [dx_us, List.length_append]; rfl
    · rw [dx_un (by decide)]
      by_cases h3 : j = m.length
      · subst h3
        rw [dx_us]
        rw [List.getElem?_append_right (Nat.le_refl _), Nat.sub_self] at hu
        cases hu
        rfl
      · have h4 : j < m.length := by
          have := (List.getElem?_eq_some_iff.mp hu).1
          rw [List.length_append] at this
          simp only [List.length_cons, List.length_nil] at this
          omega
        rw [dx_uk h3]
        rw [List.getElem?_append_left h4] at hu
        exact h1 j u hu
    · rw [dx_uk (by decide), dx_un (by decide)]
  | succ f ih =>
    intro i σ m hi X hm hc h1 h2 hp
    have hmi : m.length ≤ i := by rw [hm]; exact Nat.le_trans (List.length_filter_le _ _) (List.length_take_le _ _)
    obtain ⟨u, hu⟩ : ∃ u, l[i]? = some u := ⟨l[i]'(by omega), List.getElem?_eq_getElem (by omega)⟩
    have hub := hb u (List.mem_of_getElem? hu)
    have htk : l.take (i + 1) = l.take i ++ [u] := by rw [List.take_add_one, hu]; rfl
    refine r_SE_keepIfAllowed_49 ?_
    rw [hc, i_cl (n := i) (by omega), i_cl (n := m.length) (by omega), h2 i u hu (Nat.le_refl _), i_inc i, i_inc m.length]
    simp only [i_le, i_n (show l.length ≤ 100000 by omega), i_n (show i ≤ 100000 by omega)]
    have hin : vp_in (nI i) 20 := i_in (by omega) (by omega)
    refine ⟨fun h => absurd h (by omega), fun _ => ⟨hin, dx_ci1 _ _ (fun po hp => s_SE_conflict ok X K ht hub hp) (q_zc (fun q => ?_) (fun q => ⟨hin, i_in (by omega) (by omega), ?_⟩))⟩⟩
    · refine ih (i + 1) σ m (by omega) X ?_ hc h1 (fun j u hj hge => h2 j u hj (by omega)) hp
      rw [htk, List.filter_append, ← hm]
      simp [q]
    · rw [h2 i u hu (Nat.le_refl _)]
      have e : m ++ [u] = (l.take (i + 1)).filter (fun u => @decide (¬ q_clash c r t u) (Classical.propDecidable _)) := by
        rw [htk, List.filter_append, ← hm]
        simp [q]
      have := ih (i + 1) (dx_u σ 31 m.length (nI u)) (m ++ [u]) (by omega) (x_all_v X (x_fr_u x_fr_rf (by decide))) e hc (fun j w hw => ?_) (fun j w hj hge => ?_) (fun σ' q1 q2 q3 => hp σ' q1 q2 (x_fr_tr (x_fr_u x_fr_rf (by decide)) q3 (fun _ z => z)))
      · rw [List.length_append] at this; exact this
      · by_cases h3 : j = m.length
        · subst h3
          rw [dx_us]
          rw [List.getElem?_append_right (Nat.le_refl _), Nat.sub_self] at hw
          cases hw
          rfl
        · have h4 : j < m.length := by
            have := (List.getElem?_eq_some_iff.mp hw).1
            rw [List.length_append] at this
            simp only [List.length_cons, List.length_nil] at this
            omega
          rw [dx_uk h3]
          rw [List.getElem?_append_left h4] at hw
          exact h1 j w hw
      · rw [dx_uk (by omega)]
        exact h2 j w hj (by omega)
theorem s_SE_keep2 {t : Nat} {l : List Nat} {σ : dx_V} (ok : q_ok c) (X : x_all c r σ) (K : q_rok c r) (S : x_num l (σ 6 6) (σ 31)) (ht : t < q_nt c) (hl : l.length < 20) (hb : ∀ u ∈ l, u < q_nt c) (hp : ∀ σ' : dx_V, x_num (q_keep1 c r l t) (σ' 6 6) (σ' 31) → σ' 6 5 = σ 6 5 → x_fr [6, 31] σ σ' → po none σ') : ∀ (f i : Nat), f + i = l.length → (∀ j u, l[j]? = some u → j < i → ¬ (q_clash c r t u ∧ ¬ q_bl c (q_src c t) (q_src c u))) → g_SE_keepIfAllowed_2 E (d + 2) po (nI t) (nI i) σ := by
  have h20 := ok.2.1
  intro f
  induction f with
  | zero =>
    intro i hi hno
    have hnb : ¬ ∃ u ∈ l, q_clash c r t u ∧ ¬ q_bl c (q_src c t) (q_src c u) := by
      rintro ⟨u, hu, q⟩
      obtain ⟨j, hj, e⟩ := List.getElem_of_mem hu
      exact hno j u (by rw [List.getElem?_eq_getElem hj, e]) (by omega) q
    unfold q_keep1 at hp
    rw [q_if_f hnb] at hp
    refine r_SE_keepIfAllowed_2 ?_
    rw [S.1]
    simp only [i_le, i_n (show l.length ≤ 100000 by omega), i_n (show i ≤ 100000 by omega)]
    exact ⟨fun _ => s_SE_keep49 ok K ht hl hb l.length 0 σ [] (by omega) X (by simp) S.1 (fun j u h => by cases h) (fun j u h _ => S.2 j u h) hp, fun h => absurd h (by omega)⟩
  | succ f ih =>
    intro i hi hno
    obtain ⟨u, hu⟩ : ∃ u, l[i]? = some u := ⟨l[i]'(by omega), List.getElem?_eq_getElem (by omega)⟩
    have hum := List.mem_of_getElem? hu
    have hub := hb u hum
    have hin : vp_in (nI i) 20 := i_in (by omega) (by omega)
    refine r_SE_keepIfAllowed_2 ?_
    rw [S.1, i_cl (n := i) (by omega), S.2 i u hu, i_inc i]
    simp only [i_le, i_n (show l.length ≤ 100000 by omega), i_n (show i ≤ 100000 by omega)]
    refine ⟨fun h => absurd h (by omega), fun _ => ⟨hin, dx_ci1 _ _ (fun po hp => s_SE_conflict ok X K ht hub hp) (q_zb (fun q => ?_) (fun q => ⟨hin, ?_⟩))⟩⟩
    · refine ih (i + 1) (by omega) (fun j w hw hj => ?_)
      by_cases hji : j = i
      · subst hji; rw [hu] at hw; cases hw; exact fun z => q z.1
      · exact hno j w hw (by omega)
    · rw [S.2 i u hu]
      refine dx_ci1 _ _ (fun po hp => s_SE_outranks ok X ht hub hp) (q_zc (fun q2 => ?_) (fun q2 => ?_))
      · refine ih (i + 1) (by omega) (fun j w hw hj => ?_)
        by_cases hji : j = i
        · subst hji; rw [hu] at hw; cases hw; exact fun z => z.2 q2
        · exact hno j w hw (by omega)
      · unfold q_keep1 at hp
        rw [q_if_t ⟨u, hum, q, q2⟩] at hp
        exact hp σ S rfl x_fr_rf
theorem s_SE_keepIfAllowed {t : Nat} {l : List Nat} {σ : dx_V} (ok : q_ok c) (X : x_all c r σ) (K : q_rok c r) (S : x_num l (σ 6 6) (σ 31)) (ht : t < q_nt c) (hl : l.length < 20) (hb : ∀ u ∈ l, u < q_nt c) (hp : ∀ σ' : dx_V, x_num (q_keep1 c r l t) (σ' 6 6) (σ' 31) → σ' 6 5 = σ 6 5 → x_fr [6, 31] σ σ' → po none σ') : m_SE_keepIfAllowed E (d + 2) (nI t) σ po :=
  r_SE_keepIfAllowed (s_SE_keep2 ok X K S ht hl hb hp l.length 0 (by omega) (fun j u _ h => absurd h (by omega)))
theorem s_SE_exits {l : List Nat} {σ : dx_V} (ok : q_ok c) (X : x_all c r σ) (K : q_rok c r) (S : x_num l (σ 6 6) (σ 31)) (hl : l.length ≤ 20) (hb : ∀ u ∈ l, u < q_nt c) (hp : ∀ x : Int32, (∀ s, bt x s = true ↔ q_exits c r l s) → po (some x) σ) : ∀ (f i : Nat) (x : Int32), f + i = l.length → (∀ s, bt x s = true ↔ q_exits c r (l.take i) s) → g_SE_allExits_4 E (d + 1) po x (nI i) σ := by
  have h20 := ok.2.1
  intro f
  induction f with
  | zero =>
    intro i x hi hx
    rw [List.take_of_length_le (by omega)] at hx
    refine r_SE_allExits_4 ?_
    rw [S.1]
    simp only [i_le, i_n (show l.length ≤ 100000 by omega), i_n (show i ≤ 100000 by omega)]
    exact ⟨fun _ => hp x hx, fun h => absurd h (by omega)⟩
  | succ f ih =>
    intro i x hi hx
    obtain ⟨u, hu⟩ : ∃ u, l[i]? = some u := ⟨l[i]'(by omega), List.getElem?_eq_getElem (by omega)⟩
    have hub := hb u (List.mem_of_getElem? hu)
    have htk : l.take (i + 1) = l.take i ++ [u] := by rw [List.take_add_one, hu]; rfl
    refine r_SE_allExits_4 ?_
    rw [S.1, i_cl (n := i) (by omega), S.2 i u hu, i_inc i]
    simp only [i_le, i_n (show l.length ≤ 100000 by omega), i_n (show i ≤ 100000 by omega)]
    refine ⟨fun h => absurd h (by omega), fun _ => ⟨i_in (by omega) (by omega), dx_ciR (fun y σ1 => σ1 = σ ∧ ∀ s, bt y s = true ↔ q_leaves c r u s) (fun po hpo => s_SE_exitSet ok X K hub (fun x hx => hpo x σ ⟨rfl, hx⟩)) ?_⟩⟩
    rintro y σ1 ⟨rfl, hy⟩
    refine ih (i + 1) _ (by omega) (fun s => ?_)
    rw [b_or, Bool.or_eq_true, hx, hy, htk]
    unfold q_exits
    constructor
    · rintro (⟨t, q1, q2⟩ | q)
      · exact ⟨t, List.mem_append_left _ q1, q2⟩
      · exact ⟨u, List.mem_append_right _ List.mem_cons_self, q⟩
    · rintro ⟨t, q1, q2⟩
      rcases List.mem_append.mp q1 with q1 | q1
      · exact Or.inl ⟨t, q1, q2⟩
      · rw [List.mem_singleton.mp q1] at q2; exact Or.inr q2
theorem s_SE_allExits {l : List Nat} {σ : dx_V} (ok : q_ok c) (X : x_all c r σ) (K : q_rok c r) (S : x_num l (σ 6 6) (σ 31)) (hl : l.length ≤ 20) (hb : ∀ u ∈ l, u < q_nt c) (hp : ∀ x : Int32, (∀ s, bt x s = true ↔ q_exits c r l s) → po (some x) σ) : m_SE_allExits E (d + 1) σ po :=
  r_SE_allExits (s_SE_exits ok X K S hl hb hp l.length 0 0 (by omega) (fun s => by
    rw [b_0]
    constructor
    · intro q; cases q
    · rintro ⟨t, q, -⟩; cases q))
theorem s_SE_choose66 {sel : List Nat} (ok : q_ok c) (K : q_rok c r) (hl : sel.length ≤ 20) (hb : ∀ u ∈ sel, u < q_nt c) : ∀ (f i : Nat) (σ : dx_V), f + i = sel.length → x_all c r σ → x_num sel (σ 6 5) (σ 30) → x_num ((sel.take i).foldl (q_keep1 c r) []) (σ 6 6) (σ 31) →
    (∀ σ' : dx_V, x_num (q_settle c r sel) (σ' 6 6) (σ' 31) → x_fr x_V σ σ' → po (some (q_z (sel ≠ []))) σ') → g_SE_chooseFor_66 E (d + 3) po (nI i) σ := by
  have h20 := ok.2.1
  intro f
  induction f with
  | zero =>
    intro i σ hi X S S2 hp
    rw [List.take_of_length_le (by omega)] at S2
    have hlen : (sel.foldl (q_keep1 c r) []).length ≤ 20 := by have := q_settle_len (c := c) (r := r) sel []; simp only [List.length_nil] at this; omega
    refine r_SE_chooseFor_66 ?_
    rw [S.1, S2.1]
    simp only [i_le, i_n (show sel.length ≤ 100000 by omega), i_n (show i ≤ 100000 by omega), i_n (show (sel.foldl (q_keep1 c r) []).length ≤ 100000 by omega), i_0]
    refine ⟨fun _ => ⟨fun q => ?_, fun q => ?_⟩, fun h => absurd h (by omega)⟩
    · refine q_p0 (hp σ S2 x_fr_rf) (fun z => ?_)
      have := q_settle_ne (c := c) (r := r) sel [] (Or.inr z)
      have : (sel.foldl (q_keep1 c r) []).length = 0 := by omega
      exact q_settle_ne (c := c) (r := r) sel [] (Or.inr z) (List.eq_nil_of_length_eq_zero this)
    · refine q_p1 (hp σ S2 x_fr_rf) (fun z => ?_)
      subst z
      simp at q
  | succ f ih =>
    intro i σ hi X S S2 hp
    obtain ⟨u, hu⟩ : ∃ u, sel[i]? = some u := ⟨sel[i]'(by omega), List.getElem?_eq_getElem (by omega)⟩
    have hub := hb u (List.mem_of_getElem? hu)
    have htk : sel.take (i + 1) = sel.take i ++ [u] := by rw [List.take_add_one, hu]; rfl
    have hlen : ((sel.take i).foldl (q_keep1 c r) []).length ≤ i := by
      have := q_settle_len (c := c) (r := r) (sel.take i) []
      have h2 := List.length_take_le i sel
      simp only [List.length_nil] at this
      omega
    refine r_SE_chooseFor_66 ?_
    rw [S.1, i_cl (n := i) (by omega), S.2 i u hu, i_inc i]
    simp only [i_le, i_n (show sel.length ≤ 100000 by omega), i_n (show i ≤ 100000 by omega)]
    refine ⟨fun h => absurd h (by omega), fun _ => ⟨i_in (by omega) (by omega), dx_cuR (fun σ1 => x_num (q_keep1 c r ((sel.take i).foldl (q_keep1 c r) []) u) (σ1 6 6) (σ1 31) ∧ σ1 6 5 = σ 6 5 ∧ x_fr [6, 31] σ σ1) (fun po hpo => s_SE_keepIfAllowed ok X K S2 hub (by omega) (fun w hw => ?_) (fun σ' q1 q2 q3 => hpo σ' ⟨q1, q2, q3⟩)) ?_⟩⟩
    · rcases q_settle_mem _ _ _ hw with q | q
      · cases q
      · exact hb w (List.mem_of_mem_take q)
    · rintro σ1 ⟨q1, q2, q3⟩
      have f3 : x_fr x_V σ σ1 := x_fr_w q3 (by decide)
      refine ih (i + 1) σ1 (by omega) (x_all_v X f3) ⟨by rw [q2]; exact S.1, fun j t ht => by rw [q3 30 (by decide)]; exact S.2 j t ht⟩ ?_ (fun σ' z1 z2 => hp σ' z1 (x_fr_tr f3 z2 (fun _ z => z)))
      rw [htk, List.foldl_append]
      exact q1
theorem s_SE_choose12 {e : Int32} (ok : q_ok c) (K : q_rok c r) : ∀ (f s : Nat) (σ : dx_V) (l : List Nat), f + s = q_n c + 1 → 1 ≤ s → x_all c r σ → l.Nodup → (∀ u ∈ l, u < q_nt c) → x_num l (σ 6 5) (σ 30) → x_num [] (σ 6 6) (σ 31) →
    (∀ σ' : dx_V, x_num (q_settle c r (q_sel c r e f s l)) (σ' 6 6) (σ' 31) → x_fr x_V σ σ' → po (some (q_z (q_sel c r e f s l ≠ []))) σ') → g_SE_chooseFor_12 E (d + 4) po e (nI s) σ := by
  have h20 := ok.2.1
  have h15 := ok.1
  intro f
  induction f with
  | zero =>
    intro s σ l hi h1 X hd hl S S2 hp
    have hlen := q_nd _ l hd hl
    refine r_SE_chooseFor_12 ?_
    rw [X.1.1]
    simp only [i_lt, i_n (show q_n c ≤ 100000 by omega), i_n (show s ≤ 100000 by omega)]
    exact ⟨fun _ => s_SE_choose66 ok K (by omega) hl l.length 0 σ (by omega) X S S2 hp, fun h => absurd (by omega) h⟩
  | succ f ih =>
    intro s σ l hi h1 X hd hl S S2 hp
    have hlen := q_nd _ l hd hl
    refine r_SE_chooseFor_12 ?_
    rw [X.1.1, i_inc s]
    simp only [i_lt, i_n (show q_n c ≤ 100000 by omega), i_n (show s ≤ 100000 by omega)]
    unfold q_sel at hp
    refine ⟨fun h => absurd h (by omega), fun _ => dx_ci1 _ _ (fun po hp => s_MC_isIn (by omega) hp) ?_⟩
    rw [q_z_eq (X.2.2.2.2.2.2.2.2.2.1 s)]
    refine q_zb (fun q => ?_) (fun q => dx_ci1 _ _ (fun po hp => s_ST_isAtomic X.1 (by omega) hp) (q_zb (fun q2 => ?_) (fun q2 => ?_)))
    · rw [q_if_f (fun z => q z.1)] at hp
      exact ih (s + 1) σ l (by omega) (by omega) X hd hl S S2 hp
    · rw [q_if_f (fun z => q2 z.2)] at hp
      exact ih (s + 1) σ l (by omega) (by omega) X hd hl S S2 hp
    · rw [q_if_t ⟨q, q2⟩] at hp
      have hnl : ∀ u, q_near c r e 16 s = some u → u < q_nt c := fun u hu => q_near_lt _ _ _ hu
      refine dx_ci1 _ _ (fun po hp => s_SE_nearestEnabled ok X K (by omega) hp) ?_
      refine dx_cuR (fun σ1 => x_num (q_add l (q_near c r e 16 s)) (σ1 6 5) (σ1 30) ∧ σ1 6 6 = σ 6 6 ∧ x_fr [6, 30] σ σ1) (fun po hpo => s_SE_select S (by omega) (fun u hu hm => ?_) (fun u hu => by have := hnl u hu; omega) (fun u hu => by have := hl u hu; omega) (fun σ' q1 q2 q3 => hpo σ' ⟨q1, q2, q3⟩)) ?_
      · have := q_nd (q_nt c) (u :: l) (List.nodup_cons.mpr ⟨hm, hd⟩) (fun x hx => by
          rcases List.mem_cons.mp hx with rfl | hx
          · exact hnl _ hu
          · exact hl x hx)
        rw [List.length_cons] at this
        omega
      · rintro σ1 ⟨q1, q2, q3⟩
        have f3 : x_fr x_V σ σ1 := x_fr_w q3 (by decide)
        obtain ⟨z1, z2⟩ := q_add_ok hd hl hnl
        exact ih (s + 1) σ1 _ (by omega) (by omega) (x_all_v X f3) z1 z2 q1 ⟨by rw [q2]; exact S2.1, fun j t ht => by cases ht⟩ (fun σ' w1 w2 => hp σ' w1 (x_fr_tr f3 w2 (fun _ z => z)))
theorem s_SE_chooseFor {e : Int32} {σ : dx_V} (ok : q_ok c) (X : x_all c r σ) (K : q_rok c r) (hp : ∀ σ' : dx_V, x_num (q_settle c r (q_select c r e)) (σ' 6 6) (σ' 31) → x_fr x_V σ σ' → po (some (q_z (q_select c r e ≠ []))) σ') : m_SE_chooseFor E (d + 4) e σ po := by
  refine r_SE_chooseFor ?_
  have f3 : x_fr x_V σ (dx_u (dx_u σ 6 5 0) 6 6 0) := x_fr_u (x_fr_u x_fr_rf (by decide)) (by decide)
  exact s_SE_choose12 ok K (q_n c) 1 _ [] (by omega) (by omega) (x_all_v X f3) List.nodup_nil (fun u h => by cases h) ⟨by rw [dx_uk (by decide), dx_us]; rfl, fun j t h => by cases h⟩ ⟨by rw [dx_us]; rfl, fun j t h => by cases h⟩ (fun σ' q1 q2 => hp σ' q1 (x_fr_tr f3 q2 (fun _ z => z)))
end XC
