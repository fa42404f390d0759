/-! What the class's cells hold, and small rows. -/
theorem q_p0 {P : Prop} {po : dx_P} {σ : dx_V} (hp : po (some (q_z P)) σ) (h : ¬ P) : po (some 0) σ := by rw [q_z_f h] at hp; exact hp
theorem q_p1 {P : Prop} {po : dx_P} {σ : dx_V} (hp : po (some (q_z P)) σ) (h : P) : po (some 1) σ := by rw [q_z_t h] at hp; exact hp
theorem q_zb {P A B : Prop} (ha : ¬ P → A) (hb : P → B) : (q_z P = 0 → A) ∧ (¬ q_z P = 0 → B) := ⟨fun h => ha (q_z_0.mp h), fun h => hb (Classical.byContradiction fun n => h (q_z_0.mpr n))⟩
theorem q_zc {P A B : Prop} (hb : P → B) (ha : ¬ P → A) : (¬ q_z P = 0 → B) ∧ (q_z P = 0 → A) := ⟨(q_zb ha hb).2, (q_zb ha hb).1⟩
theorem i_lt {x y : Int32} : x < y ↔ x.toInt < y.toInt := Int32.lt_iff_toInt_lt
theorem i_le {x y : Int32} : x ≤ y ↔ x.toInt ≤ y.toInt := Int32.le_iff_toInt_le
theorem i_eq {x y : Int32} : x = y ↔ x.toInt = y.toInt := ⟨fun h => by rw [h], Int32.toInt_inj.mp⟩
theorem i_m1 : (-1 : Int32).toInt = -1 := by decide
theorem i_0 : (0 : Int32).toInt = 0 := by decide
theorem i_1 : (1 : Int32).toInt = 1 := by decide
theorem i_2 : (2 : Int32).toInt = 2 := by decide
theorem i_3 : (3 : Int32).toInt = 3 := by decide
theorem i_4 : (4 : Int32).toInt = 4 := by decide
theorem i_5 : (5 : Int32).toInt = 5 := by decide
theorem i_12 : (12 : Int32).toInt = 12 := by decide
theorem i_15 : (15 : Int32).toInt = 15 := by decide
theorem i_16 : (16 : Int32).toInt = 16 := by decide
theorem i_20 : (20 : Int32).toInt = 20 := by decide
theorem i_30 : (30 : Int32).toInt = 30 := by decide
theorem i_32 : (32 : Int32).toInt = 32 := by decide
theorem i_50 : (50 : Int32).toInt = 50 := by decide
theorem i_100 : (100 : Int32).toInt = 100 := by decide
theorem i_200 : (200 : Int32).toInt = 200 := by decide
theorem i_n {n : Nat} (h : n ≤ 100000) : (nI n).toInt = (n : Int) := nI_toInt (by omega)
theorem i_cl {n : Nat} (h : n ≤ 100000) : (nI n).toNatClampNeg = n := nI_clamp (by omega)
theorem i_in {n N : Nat} (h : n < N) (hN : N ≤ 100000) : vp_in (nI n) N := vp_in_nI h (by omega)
theorem i_in2 {x : Int32} {N : Nat} (h0 : 0 ≤ x.toInt) (h : x.toInt < N) : vp_in x N := vp_in_iff.mpr ⟨h0, h⟩
/-- a number that isn't negative is the number of its index -/
theorem i_ix {x : Int32} (h0 : 0 ≤ x.toInt) : x = nI x.toNatClampNeg ∧ (x.toNatClampNeg : Int) = x.toInt := by
  obtain ⟨j, hj, rfl⟩ := nI_of (x := x) (by rw [i_lt, i_0]; omega)
  rw [nI_clamp hj, nI_toInt hj]
  exact ⟨rfl, rfl⟩
theorem i_nj {a b : Nat} (e : nI a = nI b) (ha : a ≤ 100000) (hb : b ≤ 100000) : a = b := by
  have := congrArg Int32.toInt e
  rw [i_n ha, i_n hb] at this
  omega
theorem i_inc (n : Nat) : nI n + 1 = nI (n + 1) := nI_1 n
theorem i_dec (n : Nat) : nI (n + 1) + (-1) = nI n := pk_m1 n
theorem b_1 (i : Nat) : bt 1 i = decide (i = 0) := by
  rcases Nat.lt_or_ge i 32 with h | h
  · exact (by decide +kernel : ∀ i, i < 32 → bt 1 i = decide (i = 0)) i h
  · rw [b_big h, decide_eq_false (by omega)]
theorem b_z {x : Int32} : x = 0 ↔ ∀ i, bt x i = false := by
  constructor
  · intro h i; rw [h]; exact b_0 i
  · intro h; exact b_ext (fun i _ => by rw [h i, b_0])
theorem b_one {k i : Nat} (hk : k < 32) : bt ((1 : Int32) <<< (nI k &&& 31)) i = true ↔ i = k := by
  rcases Nat.lt_or_ge i 32 with h | h
  · rw [b_shl k hk 1 h, b_1]
    simp only [Bool.and_eq_true, decide_eq_true_eq]
    omega
  · rw [b_big h]
    constructor
    · intro q; cases q
    · intro q; omega
theorem b_in {k : Nat} {x : Int32} (hk : k < 32) : ((x >>> (nI k &&& 31)) &&& 1) = 0 ↔ ¬ bt x k = true := by
  rw [b_z]
  constructor
  · intro h q
    have := h 0
    rw [b_and, b_sshr k hk x (by omega : 0 < 32), b_1, if_pos (by omega), Nat.add_zero, q] at this
    cases this
  · intro h i
    rw [b_and, b_1]
    by_cases hi : i = 0
    · subst hi
      rw [b_sshr k hk x (by omega : 0 < 32), if_pos (by omega), Nat.add_zero]
      simp only [Bool.not_eq_true] at h
      rw [h]
      rfl
    · simp [hi]
-- the tree in its cells
def x_tree (c : q_C) (σ : dx_V) : Prop :=
  σ 1 6 = nI (q_n c) ∧ (∀ s, s ≤ q_n c → σ 11 s = nI (q_kd c s)) ∧ (∀ s, 1 ≤ s → s ≤ q_n c → σ 12 s = nI (q_par c s)) ∧
  (∀ s, s ≤ q_n c → (∃ x, q_ch c s x) → σ 13 s = nI (q_ini c s)) ∧ (∀ s, s ≤ 15 → ∀ x, bt (σ 14 s) x = true ↔ q_ch c s x) ∧
  (∀ s, s ≤ q_n c → ∀ x, bt (σ 15 s) x = true ↔ q_bl c s x) ∧ (∀ s, s ≤ 15 → ∀ x, bt (σ 16 s) x = true ↔ (q_st c x ∧ q_bl c x s))
def x_tr (c : q_C) (σ : dx_V) : Prop :=
  σ 2 7 = nI (q_nt c) ∧ ∀ t, t < q_nt c → σ 17 t = nI (q_src c t) ∧ σ 18 t = q_ev c t ∧ σ 19 t = (if q_tg c t = 0 then -1 else nI (q_tg c t)) ∧ (q_tg c t ≠ 0 → σ 20 t = nI (q_dom c t)) ∧
    (q_gd c t = none → σ 21 t = -1) ∧ (∀ w o v, q_gd c t = some (w, o, v) → σ 21 t = nI o ∧ σ 22 t = nI w ∧ σ 23 t = v)
def x_ac (c : q_C) (σ : dx_V) : Prop :=
  σ 3 4 = nI (q_na c) ∧ ∀ k, k < q_na c → σ 24 k = q_ow c k ∧ σ 25 k = nI (q_op c k) ∧ σ 26 k = q_a c k ∧ σ 27 k = q_b c k
def x_line (l : List Int32) (n : Int32) (f : Nat → Int32) : Prop := n = nI l.length ∧ ∀ i v, l[i]? = some v → f i = v
def x_sent (l : List (Int32 × Int32)) (n : Int32) (f g : Nat → Int32) : Prop := n = nI l.length ∧ ∀ i v, l[i]? = some v → f i = v.1 ∧ g i = v.2
/-- the run in its cells -/
def x_run (r : q_R) (σ : dx_V) : Prop :=
  σ 4 10 = q_ck r ∧ σ 4 11 = nI (q_mi r) ∧ σ 4 12 = nI (q_out r) ∧ (q_out r = 1 → σ 4 13 = q_z (q_end r)) ∧
  (∀ s, s < 16 → σ 28 s = q_mem r s) ∧ (∀ v, v < 4 → σ 29 v = q_var r v) ∧ (∀ x, bt (σ 5 1) x = true ↔ q_on r x) ∧
  x_line (q_in r) (σ 7 1) (σ 32) ∧ x_line (q_ex r) (σ 8 1) (σ 33) ∧ x_line (q_rc r) (σ 9 1) (σ 34) ∧ x_sent (q_se r) (σ 10 2) (σ 35) (σ 36)
-- what a run always keeps
def q_rok (c : q_C) (r : q_R) : Prop := (∀ x, q_on r x → q_st c x) ∧ (q_in r).length ≤ 16 ∧ (q_ex r).length ≤ 16 ∧ (q_rc r).length ≤ 200 ∧ (q_se r).length ≤ 12 ∧ q_mi r ≤ 30 ∧ q_out r ≤ 4
def x_all (c : q_C) (r : q_R) (σ : dx_V) : Prop := x_tree c σ ∧ x_tr c σ ∧ x_ac c σ ∧ x_run r σ
/-- nothing but the cells W has changed -/
def x_fr (W : List Nat) (σ σ' : dx_V) : Prop := ∀ k, k ∉ W → σ' k = σ k
theorem x_fr_rf {W : List Nat} {σ : dx_V} : x_fr W σ σ := fun _ _ => rfl
theorem x_fr_tr {W W' : List Nat} {σ σ' σ'' : dx_V} (h : x_fr W σ σ') (h' : x_fr W' σ' σ'') (hs : ∀ k, k ∈ W → k ∈ W') : x_fr W' σ σ'' := fun k hk => (h' k hk).trans (h k (fun q => hk (hs k q)))
theorem x_fr_u {W : List Nat} {σ σ' : dx_V} {k j : Nat} {x : Int32} (h : x_fr W σ σ') (hk : k ∈ W) : x_fr W σ (dx_u σ' k j x) := fun q hq => by
  rw [dx_un (fun e => hq (by rw [e]; exact hk))]
  exact h q hq
theorem x_tree_fr {c : q_C} {σ σ' : dx_V} {W : List Nat} (h : x_tree c σ) (f : x_fr W σ σ') (hw : ∀ k ∈ ([1, 11, 12, 13, 14, 15, 16] : List Nat), k ∉ W) : x_tree c σ' := by
  unfold x_tree
  rw [f 1 (hw 1 (by decide)), f 11 (hw 11 (by decide)), f 12 (hw 12 (by decide)), f 13 (hw 13 (by decide)), f 14 (hw 14 (by decide)), f 15 (hw 15 (by decide)), f 16 (hw 16 (by decide))]
  exact h
theorem x_tr_fr {c : q_C} {σ σ' : dx_V} {W : List Nat} (h : x_tr c σ) (f : x_fr W σ σ') (hw : ∀ k ∈ ([2, 17, 18, 19, 20, 21, 22, 23] : List Nat), k ∉ W) : x_tr c σ' := by
  unfold x_tr
  rw [f 2 (hw 2 (by decide)), f 17 (hw 17 (by decide)), f 18 (hw 18 (by decide)), f 19 (hw 19 (by decide)), f 20 (hw 20 (by decide)), f 21 (hw 21 (by decide)), f 22 (hw 22 (by decide)), f 23 (hw 23 (by decide))]
  exact h
theorem x_ac_fr {c : q_C} {σ σ' : dx_V} {W : List Nat} (h : x_ac c σ) (f : x_fr W σ σ') (hw : ∀ k ∈ ([3, 24, 25, 26, 27] : List Nat), k ∉ W) : x_ac c σ' := by
  unfold x_ac
  rw [f 3 (hw 3 (by decide)), f 24 (hw 24 (by decide)), f 25 (hw 25 (by decide)), f 26 (hw 26 (by decide)), f 27 (hw 27 (by decide))]
  exact h
