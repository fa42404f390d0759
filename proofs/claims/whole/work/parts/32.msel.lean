/-! Selecting and settling of the reference. -/
def y_V : List Nat := [23, 24, 25, 26]
def y_U : List Nat := [33, 35]
theorem y_all_v {c : q_C} {r : q_R} {σ σ' : dx_V} (X : y_all c r σ) (f : y_fr y_V y_U σ σ') : y_all c r σ' :=
  ⟨y_tree_fr X.1 f (by decide) (by decide), y_tr_fr X.2.1 f (by decide) (by decide), y_ac_fr X.2.2.1 f (by decide) (by decide), y_run_fr X.2.2.2 f (by decide) (by decide)⟩
theorem q_leaf_kid {c : q_C} (hw : q_whole c) {s : Nat} (h1 : 1 ≤ s) (hn : s ≤ q_n c) : (∃ x, q_kid c s x) ↔ ¬ q_leaf c s := by
  constructor
  · rintro ⟨x, hx⟩ z
    obtain ⟨y, hy⟩ := hw.2 s h1 hn (Or.inr ⟨x, hx⟩)
    exact z y hy
  · intro z
    obtain ⟨x, hx⟩ : ∃ x, q_ch c s x := Classical.byContradiction fun n => z (fun x hx => n ⟨x, hx⟩)
    exact ⟨x, hx.1.1, hx.1.2.1, hx.2⟩
theorem q_oi_lt {t : Option Nat} (h : ∀ u, t = some u → u ≤ 20) : q_oi t < 0 ↔ t = none := by
  cases t with
  | none => exact ⟨fun _ => rfl, fun _ => by decide⟩
  | some u =>
    have hu := h u rfl
    show nI u < 0 ↔ _
    rw [i_lt, i_n (by omega), i_0]
    constructor
    · intro q; omega
    · intro q; cases q
theorem q_oi_ge {t : Option Nat} (h : ∀ u, t = some u → u ≤ 20) : 0 ≤ q_oi t ↔ ¬ t = none := by
  rw [← q_oi_lt h, i_lt, i_le, i_0]
  omega
section MS
variable {E : dx_E} {d : Nat} {po : dx_P} {c : q_C}
theorem t_sel90 {r : q_R} {e : Int32} {s : Nat} {l : List Nat} {t : Option Nat} {σ : dx_V} (S : x_num l (σ 0 33) (σ 23)) (hl : l.length ≤ 20) (hn : ∀ u, t = some u → u ∉ l → l.length < 20) (ht : ∀ u, t = some u → u ≤ 20) (hb : ∀ u ∈ l, u ≤ 20) (hp : ∀ σ' : dx_V, x_num (q_add l t) (σ' 0 33) (σ' 23) → y_fr [23] [33] σ σ' → g_MM_select_7 E (d + 1) po e (nI (s + 1)) σ') : ∀ (f i : Nat) (b : Int32), f + i = l.length → b = q_z (∃ u, t = some u ∧ ∀ j, j < i → l[j]? ≠ some u) → g_MM_select_90 E (d + 1) po e (nI s) (q_oi t) b (nI i) σ := by
  intro f
  induction f with
  | zero =>
    intro i b hi hbv
    refine r_MM_select_90 ?_
    rw [S.1, i_cl (n := l.length) (by omega), i_inc l.length, i_inc s]
    simp only [i_le, i_n (show l.length ≤ 100000 by omega), i_n (show i ≤ 100000 by omega)]
    refine ⟨fun _ => ?_, fun q => absurd (by omega) q⟩
    rw [hbv]
    refine q_zb (fun q => ?_) (fun q => ?_)
    · have ea : q_add l t = l := by
        cases t with
        | none => rfl
        | some u =>
          show (if u ∈ l then l else l ++ [u]) = l
          rw [if_pos]
          refine Classical.byContradiction fun hu => q ⟨u, rfl, fun j hj z => hu (List.mem_of_getElem? z)⟩
      rw [ea] at hp
      exact hp σ S y_fr_rf
    · obtain ⟨u, rfl, hu⟩ := q
      have hnl : u ∉ l := fun z => by
        obtain ⟨j, hj, e⟩ := List.getElem_of_mem z
        exact hu j (by omega) (by rw [List.getElem?_eq_getElem hj, e])
      have := hn u rfl hnl
      have ea : q_add l (some u) = l ++ [u] := by show (if u ∈ l then l else l ++ [u]) = _; rw [if_neg hnl]
      rw [ea] at hp
      refine ⟨i_in (by omega) (by omega), hp _ ⟨by rw [dx_us, List.length_append]; rfl, fun q w hw => ?_⟩ (y_fr_s (y_fr_a y_fr_rf (by decide) (by decide)) (by decide))⟩
      rw [dx_un (by decide)]
      by_cases h2 : q = l.length
      · subst h2
        rw [dx_us]
        rw [List.getElem?_append_right (Nat.le_refl _), Nat.sub_self] at hw
        cases hw
        rfl
      · have h3 : q < l.length := by
          have := (List.getElem?_eq_some_iff.mp hw).1
          rw [List.length_append] at this
          simp only [List.length_cons, List.length_nil] at this
          omega
        rw [dx_uk h2]
        rw [List.getElem?_append_left h3] at hw
        exact S.2 q w hw
  | succ f ih =>
    intro i b hi hbv
    obtain ⟨w, hw⟩ : ∃ w, l[i]? = some w := ⟨l[i]'(by omega), List.getElem?_eq_getElem (by omega)⟩
    have hwb := hb w (List.mem_of_getElem? hw)
    refine r_MM_select_90 ?_
    rw [S.1, i_cl (n := i) (by omega), S.2 i w hw, i_inc i]
    simp only [i_le, i_n (show l.length ≤ 100000 by omega), i_n (show i ≤ 100000 by omega)]
    refine ⟨fun q => absurd q (by omega), fun _ => ?_⟩
    rw [hbv]
    refine q_zb (fun q => ih (i + 1) 0 (by omega) (q_z_f ?_).symm) (fun q => ⟨i_in (by omega) (by omega), fun q2 => ih (i + 1) 0 (by omega) (q_z_f ?_).symm, fun q2 => ih (i + 1) 1 (by omega) (q_z_t ?_).symm⟩)
    · rintro ⟨u, z1, z2⟩
      exact q ⟨u, z1, fun j hj => z2 j (by omega)⟩
    · rintro ⟨u, rfl, z2⟩
      have := ht u rfl
      have e : w = u := i_nj q2 (by omega) (by omega)
      exact z2 i (by omega) (by rw [hw, e])
    · obtain ⟨u, rfl, z2⟩ := q
      refine ⟨u, rfl, fun j hj z => ?_⟩
      by_cases e : j = i
      · subst e; rw [hw] at z; cases z; exact q2 rfl
      · exact z2 j (by omega) z
theorem t_sel43 {r : q_R} {e : Int32} {s : Nat} {σ : dx_V} (ok : q_ok c) (X : y_all c r σ) (hp : g_MM_select_75 E (d + 2) po e (nI s) (q_oi (q_near c r e 16 s)) σ) : ∀ (u : Nat), 1 ≤ u → u ≤ q_n c → q_near c r e 16 u = q_near c r e 16 s → g_MM_select_43 E (d + 2) po e (nI s) (nI u) (q_oi (q_wait c r e u)) σ := by
  have h15 := ok.1
  have h20 := ok.2.1
  have hw : ∀ u t, q_wait c r e u = some t → t ≤ 20 := fun u t h => by have := (q_fd_lt _ _ _ h).1; omega
  intro u
  induction u using Nat.strongRecOn with
  | _ u ih =>
    intro h1 hn he
    have hlt := (ok.2.2.2.2.1 u h1 hn).1
    rw [q_near_s ok h1 hn] at he
    refine r_MM_select_43 ?_
    rw [q_oi_ge (hw u), i_cl (n := u) (by omega), X.1.2.1 u h1 hn]
    refine ⟨fun q => ?_, fun q => ⟨i_in (by omega) (by omega), ?_⟩⟩
    · cases hq : q_wait c r e u with
      | none => exact absurd hq q
      | some t =>
        rw [hq] at he
        simp only at he
        rw [he]
        exact hp
    · have hq : q_wait c r e u = none := Classical.byContradiction q
      rw [hq] at he
      simp only at he
      have e0 : nI (q_par c u) = 0 ↔ q_par c u = 0 := by rw [i_eq, i_n (by omega), i_0]; omega
      rw [e0]
      refine ⟨fun q2 => ?_, fun q2 => ⟨i_in (by omega) (by omega), dx_ci1 _ _ (fun po hp => t_waiter ok X (by omega) hp) (ih _ hlt (by omega) (by omega) he)⟩⟩
      rw [hq]
      rw [q2, q_near_0] at he
      rw [← he] at hp
      exact hp
theorem t_sel7 {r : q_R} {e : Int32} (ok : q_ok c) (K : q_rok c r) (hw : q_whole c) : ∀ (f s : Nat) (σ : dx_V) (l : List Nat), f + s = q_n c + 1 → 1 ≤ s → y_all c r σ → l.Nodup → (∀ u ∈ l, u < q_nt c) → x_num l (σ 0 33) (σ 23) → (∀ σ' : dx_V, x_num (q_sel c r e f s l) (σ' 0 33) (σ' 23) → y_fr [23] [33] σ σ' → po none σ') → g_MM_select_7 E (d + 2) po e (nI s) σ := by
  have h20 := ok.2.1
  have h15 := ok.1
  intro f
  induction f with
  | zero =>
    intro s σ l hi h1 X hd hl S hp
    refine r_MM_select_7 ?_
    rw [X.1.1]
    simp only [i_lt, i_n (show q_n c ≤ 100000 by omega), i_n (show s ≤ 100000 by omega)]
    exact ⟨fun _ => hp σ S y_fr_rf, fun h => absurd (by omega) h⟩
  | succ f ih =>
    intro s σ l hi h1 X hd hl S hp
    have hlen := q_nd _ l hd hl
    refine r_MM_select_7 ?_
    rw [X.1.1, i_inc s, i_cl (n := s) (by omega), X.2.2.2.2.2.2.2.2.2.1 s (by omega)]
    simp only [i_lt, i_n (show q_n c ≤ 100000 by omega), i_n (show s ≤ 100000 by omega)]
    unfold q_sel at hp
    refine ⟨fun h => absurd h (by omega), fun _ => ⟨i_in (by omega) (by omega), q_zb (fun q => ?_) (fun q => dx_ci1 _ _ (fun po hp => t_anyChild ok X.1 (by omega) hp) (q_zc (fun q2 => ?_) (fun q2 => ?_)))⟩⟩
    · rw [q_if_f (fun z => q z.1)] at hp
      exact ih (s + 1) σ l (by omega) (by omega) X hd hl S hp
    · rw [q_if_f (fun z => (q_leaf_kid hw h1 (by omega)).mp q2 z.2)] at hp
      exact ih (s + 1) σ l (by omega) (by omega) X hd hl S hp
    · have hleaf : q_leaf c s := Classical.byContradiction fun z => q2 ((q_leaf_kid hw h1 (by omega)).mpr z)
      rw [q_if_t ⟨q, hleaf⟩] at hp
      have hnl : ∀ u, q_near c r e 16 s = some u → u < q_nt c := fun u hu => q_near_lt _ _ _ hu
      refine dx_ci1 _ _ (fun po hp => t_waiter ok X (by omega) hp) (t_sel43 ok X ?_ s h1 (by omega) rfl)
      have key : ∀ b : Int32, b = q_z (∃ u, q_near c r e 16 s = some u ∧ ∀ j, j < 0 → l[j]? ≠ some u) → g_MM_select_90 E (d + 2) po e (nI s) (q_oi (q_near c r e 16 s)) b 0 σ := by
        intro b hb
        refine t_sel90 (r := r) S (by omega) (fun u hu hm => ?_) (fun u hu => by have := hnl u hu; omega) (fun u hu => by have := hl u hu; omega) (fun σ' z1 z2 => ?_) l.length 0 b (by omega) hb
        · have := q_nd (q_nt c) (u :: l) (List.nodup_cons.mpr ⟨hm, hd⟩) (fun x hx => by
            rcases List.mem_cons.mp hx with rfl | hx
            · exact hnl _ hu
            · exact hl x hx)
          rw [List.length_cons] at this
          omega
        · obtain ⟨y1, y2⟩ := q_add_ok hd hl hnl
          exact ih (s + 1) σ' _ (by omega) (by omega) (y_all_v X (y_fr_w z2 (by decide) (by decide))) y1 y2 z1 (fun σ'' w1 w2 => hp σ'' w1 (y_fr_t z2 w2))
      refine r_MM_select_75 ?_
      rw [q_oi_lt (fun u hu => by have := hnl u hu; omega)]
      refine ⟨fun z => key 0 (q_z_f ?_).symm, fun z => key 1 (q_z_t ?_).symm⟩
      · rintro ⟨u, y, -⟩; rw [z] at y; cases y
      · cases hq : q_near c r e 16 s with
        | none => exact absurd hq z
        | some u => exact ⟨u, rfl, fun j hj => absurd hj (by omega)⟩
theorem t_select {r : q_R} {e : Int32} {σ : dx_V} (ok : q_ok c) (X : y_all c r σ) (K : q_rok c r) (hw : q_whole c) (hp : ∀ σ' : dx_V, x_num (q_select c r e) (σ' 0 33) (σ' 23) → y_fr y_V y_U σ σ' → po none σ') : m_MM_select E (d + 2) e σ po := by
  refine r_MM_select ?_
  have f1 : y_fr y_V y_U σ (dx_u σ 0 33 0) := y_fr_s y_fr_rf (by decide)
  exact t_sel7 ok K hw (q_n c) 1 _ [] (by omega) (by omega) (y_all_v X f1) List.nodup_nil (fun u h => by cases h) ⟨by rw [dx_us]; rfl, fun j t h => by cases h⟩ (fun σ' z1 z2 => hp σ' z1 (y_fr_t f1 (y_fr_w z2 (by decide) (by decide))))
theorem t_set102 {r : q_R} {k t : Nat} {l : List Nat} (ok : q_ok c) (ht : t < q_nt c) (hl : l.length < 20) (hb : ∀ u ∈ l, u < q_nt c) : ∀ (f i : Nat) (σ : dx_V) (m : List Nat), f + i = l.length → y_all c r σ → m = (l.take i).filter (fun u => @decide (¬ q_clash c r t u) (Classical.propDecidable _)) → σ 0 35 = nI l.length → (∀ j u, m[j]? = some u → σ 24 j = nI u) → (∀ j u, l[j]? = some u → i ≤ j → σ 24 j = nI u) →
    (∀ σ' : dx_V, x_num (l.filter (fun u => @decide (¬ q_clash c r t u) (Classical.propDecidable _)) ++ [t]) (σ' 0 35) (σ' 24) → y_fr [24] [35] σ σ' → g_MM_settle_7 E (d + 5) po (nI (k + 1)) σ') → g_MM_settle_102 E (d + 5) po (nI k) (nI t) (nI m.length) (nI i) σ := by
  have h20 := ok.2.1
  intro f
  induction f with
  | zero =>
    intro i σ m hi X hm hc h1 h2 hp
    have hmi : m.length ≤ i := by rw [hm]; exact Nat.le_trans (List.length_filter_le _ _) (List.length_take_le _ _)
    refine r_MM_settle_102 ?_
    rw [hc, i_cl (n := m.length) (by omega), i_inc m.length, i_inc k]
    simp only [i_le, i_n (show l.length ≤ 100000 by omega), i_n (show i ≤ 100000 by omega)]
    rw [List.take_of_length_le (by omega)] at hm
    rw [← hm] at hp
    refine ⟨fun _ => ⟨i_in (by omega) (by omega), hp _ ⟨by rw [dx_us, List.length_append]; rfl, fun j u hu => ?_⟩ (y_fr_s (y_fr_a y_fr_rf (by decide) (by decide)) (by decide))⟩, fun h => absurd h (by omega)⟩
    rw [dx_un (by decide)]
    by_cases h3 : j = m.length
    · subst h3
      rw [dx_us]
      rw [List.getElem?_append_right (Nat.le_refl _), Nat.sub_self] at hu
      cases hu
      rfl
    · have h4 : j < m.length := by
        have := (List.getElem?_eq_some_iff.mp hu).1
        rw [List.length_append] at this
        simp only [List.length_cons, List.length_nil] at this
        omega
      rw [dx_uk h3]
      rw [List.getElem?_append_left h4] at hu
      exact h1 j u hu
  | succ f ih =>
    intro i σ m hi X hm hc h1 h2 hp
    have hmi : m.length ≤ i := by rw [hm]; exact Nat.le_trans (List.length_filter_le _ _) (List.length_take_le _ _)
    obtain ⟨u, hu⟩ : ∃ u, l[i]? = some u := ⟨l[i]'(by omega), List.getElem?_eq_getElem (by omega)⟩
    have hub := hb u (List.mem_of_getElem? hu)
    have htk : l.take (i + 1) = l.take i ++ [u] := by rw [List.take_add_one, hu]; rfl
    refine r_MM_settle_102 ?_
    rw [hc, i_cl (n := i) (by omega), i_cl (n := m.length) (by omega), h2 i u hu (Nat.le_refl _), i_inc i, i_inc m.length]
    simp only [i_le, i_n (show l.length ≤ 100000 by omega), i_n (show i ≤ 100000 by omega)]
    have hin : vp_in (nI i) 20 := i_in (by omega) (by omega)
    refine ⟨fun h => absurd h (by omega), fun _ => ⟨hin, dx_ci1 _ _ (fun po hp => t_clash ok X ht hub hp) (q_zc (fun q => ?_) (fun q => ⟨hin, i_in (by omega) (by omega), ?_⟩))⟩⟩
    · refine ih (i + 1) σ m (by omega) X ?_ hc h1 (fun j u hj hge => h2 j u hj (by omega)) hp
      rw [htk, List.filter_append, ← hm]
      simp [q]
    · rw [h2 i u hu (Nat.le_refl _)]
      have e : m ++ [u] = (l.take (i + 1)).filter (fun u => @decide (¬ q_clash c r t u) (Classical.propDecidable _)) := by
        rw [htk, List.filter_append, ← hm]
        simp [q]
      have f9 : y_fr [24] [35] σ (dx_u σ 24 m.length (nI u)) := y_fr_a y_fr_rf (by decide) (by decide)
      have := ih (i + 1) (dx_u σ 24 m.length (nI u)) (m ++ [u]) (by omega) (y_all_v X (y_fr_w f9 (by decide) (by decide))) e hc (fun j w hw => ?_) (fun j w hj hge => ?_) (fun σ' q1 q3 => hp σ' q1 (y_fr_t f9 q3))
      · rw [List.length_append] at this; exact this
      · by_cases h3 : j = m.length
        · subst h3
          rw [dx_us]
          rw [List.getElem?_append_right (Nat.le_refl _), Nat.sub_self] at hw
          cases hw
          rfl
        · have h4 : j < m.length := by
            have := (List.getElem?_eq_some_iff.mp hw).1
            rw [List.length_append] at this
            simp only [List.length_cons, List.length_nil] at this
            omega
          rw [dx_uk h3]
          rw [List.getElem?_append_left h4] at hw
          exact h1 j w hw
      · rw [dx_uk (by omega)]
        exact h2 j w hj (by omega)
theorem t_set27 {r : q_R} {k t : Nat} {l : List Nat} {σ : dx_V} (ok : q_ok c) (X : y_all c r σ) (S : x_num l (σ 0 35) (σ 24)) (ht : t < q_nt c) (hl : l.length < 20) (hb : ∀ u ∈ l, u < q_nt c) (hp : ∀ σ' : dx_V, x_num (q_keep1 c r l t) (σ' 0 35) (σ' 24) → y_fr [24] [35] σ σ' → g_MM_settle_7 E (d + 5) po (nI (k + 1)) σ') : ∀ (f i : Nat) (b : Int32), f + i = l.length → b = q_z (∀ j u, l[j]? = some u → j < i → ¬ (q_clash c r t u ∧ ¬ q_bl c (q_src c t) (q_src c u))) → g_MM_settle_27 E (d + 5) po (nI k) (nI t) b (nI i) σ := by
  have h20 := ok.2.1
  have h15 := ok.1
  have hst := (ok.2.2.2.2.2.2.1 t ht).1
  have hst2 := hst.2.1
  intro f
  induction f with
  | zero =>
    intro i b hi hbv
    unfold q_keep1 at hp
    refine r_MM_settle_27 ?_
    rw [S.1, i_inc k]
    simp only [i_le, i_n (show l.length ≤ 100000 by omega), i_n (show i ≤ 100000 by omega)]
    refine ⟨fun _ => ?_, fun h => absurd h (by omega)⟩
    rw [hbv]
    refine q_zb (fun q => ?_) (fun q => ?_)
    · have hb2 : ∃ u ∈ l, q_clash c r t u ∧ ¬ q_bl c (q_src c t) (q_src c u) := Classical.byContradiction fun n => q (fun j u hj _ z => n ⟨u, List.mem_of_getElem? hj, z⟩)
      rw [q_if_t hb2] at hp
      exact hp σ S y_fr_rf
    · have hnb : ¬ ∃ u ∈ l, q_clash c r t u ∧ ¬ q_bl c (q_src c t) (q_src c u) := by
        rintro ⟨u, hu, z⟩
        obtain ⟨j, hj, e⟩ := List.getElem_of_mem hu
        exact q j u (by rw [List.getElem?_eq_getElem hj, e]) (by omega) z
      rw [q_if_f hnb] at hp
      exact t_set102 ok ht hl hb l.length 0 σ [] (by omega) X (by simp) S.1 (fun j u h => by cases h) (fun j u h _ => S.2 j u h) hp
  | succ f ih =>
    intro i b hi hbv
    obtain ⟨u, hu⟩ : ∃ u, l[i]? = some u := ⟨l[i]'(by omega), List.getElem?_eq_getElem (by omega)⟩
    have hub := hb u (List.mem_of_getElem? hu)
    have hsu := (ok.2.2.2.2.2.2.1 u hub).1.2.1
    have hin : vp_in (nI i) 20 := i_in (by omega) (by omega)
    refine r_MM_settle_27 ?_
    rw [S.1, i_cl (n := i) (by omega), S.2 i u hu, i_inc i]
    simp only [i_le, i_n (show l.length ≤ 100000 by omega), i_n (show i ≤ 100000 by omega)]
    refine ⟨fun h => absurd h (by omega), fun _ => ?_⟩
    rw [hbv]
    have bad : (q_clash c r t u ∧ ¬ q_bl c (q_src c t) (q_src c u)) → g_MM_settle_27 E (d + 5) po (nI k) (nI t) 0 (nI (i + 1)) σ := fun z => ih (i + 1) 0 (by omega) (q_z_f (fun y => y i u hu (by omega) z)).symm
    refine q_zb (fun q => ih (i + 1) 0 (by omega) (q_z_f (fun z => q (fun j w hj hlt => z j w hj (by omega)))).symm) (fun q => ⟨hin, ?_⟩)
    have good : ¬ (q_clash c r t u ∧ ¬ q_bl c (q_src c t) (q_src c u)) → g_MM_settle_80 E (d + 5) po (nI k) (nI t) (nI i) σ := fun z => by
      refine r_MM_settle_80 ?_
      rw [i_inc i]
      refine ih (i + 1) 1 (by omega) (q_z_t (fun j w hj hlt => ?_)).symm
      by_cases e : j = i
      · subst e; rw [hu] at hj; cases hj; exact z
      · exact q j w hj (by omega)
    refine dx_ci1 _ _ (fun po hp => t_clash ok X ht hub hp) (q_zb (fun q2 => good (fun z => q2 z.1)) (fun q2 => ?_))
    rw [i_cl (n := t) (by omega), (X.2.1.2.1 t ht).1, S.2 i u hu, i_cl (n := u) (by omega), (X.2.1.2.1 u hub).1]
    exact ⟨i_in (by omega) (by omega), hin, i_in (by omega) (by omega), dx_ci1 _ _ (fun po hp => t_below ok X.1 hst2 (by omega) hp) (q_zb (fun q3 => bad ⟨q2, q3⟩) (fun q3 => good (fun z => z.2 q3)))⟩
theorem t_set7 {r : q_R} {sel : List Nat} (ok : q_ok c) (hl : sel.length ≤ 20) (hb : ∀ u ∈ sel, u < q_nt c) : ∀ (f i : Nat) (σ : dx_V), f + i = sel.length → y_all c r σ → x_num sel (σ 0 33) (σ 23) → x_num ((sel.take i).foldl (q_keep1 c r) []) (σ 0 35) (σ 24) →
    (∀ σ' : dx_V, x_num (q_settle c r sel) (σ' 0 35) (σ' 24) → y_fr [24] [35] σ σ' → po none σ') → g_MM_settle_7 E (d + 5) po (nI i) σ := by
  have h20 := ok.2.1
  intro f
  induction f with
  | zero =>
    intro i σ hi X S S2 hp
    rw [List.take_of_length_le (by omega)] at S2
    refine r_MM_settle_7 ?_
    rw [S.1]
    simp only [i_le, i_n (show sel.length ≤ 100000 by omega), i_n (show i ≤ 100000 by omega)]
    exact ⟨fun _ => hp σ S2 y_fr_rf, fun h => absurd h (by omega)⟩
  | succ f ih =>
    intro i σ hi X S S2 hp
    obtain ⟨u, hu⟩ : ∃ u, sel[i]? = some u := ⟨sel[i]'(by omega), List.getElem?_eq_getElem (by omega)⟩
    have hub := hb u (List.mem_of_getElem? hu)
    have htk : sel.take (i + 1) = sel.take i ++ [u] := by rw [List.take_add_one, hu]; rfl
    have hlen : ((sel.take i).foldl (q_keep1 c r) []).length ≤ i := by
      have := q_settle_len (c := c) (r := r) (sel.take i) []
      have h2 := List.length_take_le i sel
      simp only [List.length_nil] at this
      omega
    refine r_MM_settle_7 ?_
    rw [S.1, i_cl (n := i) (by omega), S.2 i u hu]
    simp only [i_le, i_n (show sel.length ≤ 100000 by omega), i_n (show i ≤ 100000 by omega)]
    refine ⟨fun h => absurd h (by omega), fun _ => ⟨i_in (by omega) (by omega), ?_⟩⟩
    refine t_set27 (k := i) ok X S2 hub (by omega) (fun w hw => ?_) (fun σ1 q1 q3 => ?_) _ 0 1 (Nat.add_zero _) (q_z_t (fun j u _ h => absurd h (by omega))).symm
    · rcases q_settle_mem _ _ _ hw with q | q
      · cases q
      · exact hb w (List.mem_of_mem_take q)
    · refine ih (i + 1) σ1 (by omega) (y_all_v X (y_fr_w q3 (by decide) (by decide))) ?_ ?_ (fun σ' z1 z2 => hp σ' z1 (y_fr_t q3 z2))
      · rw [q3.1 23 (by decide) (by decide), q3.2 33 (by decide)]; exact S
      · rw [htk, List.foldl_append]
        exact q1
theorem t_settle {r : q_R} {sel : List Nat} {σ : dx_V} (ok : q_ok c) (X : y_all c r σ) (hl : sel.length ≤ 20) (hb : ∀ u ∈ sel, u < q_nt c) (S : x_num sel (σ 0 33) (σ 23)) (hp : ∀ σ' : dx_V, x_num (q_settle c r sel) (σ' 0 35) (σ' 24) → y_fr y_V y_U σ σ' → po none σ') : m_MM_settle E (d + 5) σ po := by
  refine r_MM_settle ?_
  have f1 : y_fr y_V y_U σ (dx_u σ 0 35 0) := y_fr_s y_fr_rf (by decide)
  exact t_set7 ok hl hb sel.length 0 _ (by omega) (y_all_v X f1) ⟨by rw [dx_uk (by decide)]; exact S.1, S.2⟩ ⟨by rw [dx_us]; rfl, fun j t h => by cases h⟩ (fun σ' z1 z2 => hp σ' z1 (y_fr_t f1 (y_fr_w z2 (by decide) (by decide))))
end MS
