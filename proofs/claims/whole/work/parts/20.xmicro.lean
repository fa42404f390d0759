/-! A microstep of the class. -/
theorem it_keep {P : q_R → Prop} {g : Nat → q_R → q_R} (hg : ∀ i r, P r → P (g i r)) : ∀ (f i : Nat) (r : q_R), P r → P (q_it g f i r) := by
  intro f
  induction f with
  | zero => intro i r K; exact K
  | succ f ih => intro i r K; exact ih _ _ (hg i r K)
theorem dn_keep {P : q_R → Prop} {g : Nat → q_R → q_R} (hg : ∀ i r, P r → P (g i r)) : ∀ (i : Nat) (r : q_R), P r → P (q_dn g i r) := by
  intro i
  induction i with
  | zero => intro r K; exact K
  | succ i ih => intro r K; exact ih _ (hg _ r K)
theorem m_fail {c : q_C} {r : q_R} (M : q_mok c r) : q_mok c (q_fail r) := M
theorem m_write {c : q_C} {r : q_R} {x : Int32} (M : q_mok c r) : q_mok c (q_write x r) := by unfold q_write; split <;> exact M
theorem m_raise {c : q_C} {r : q_R} {x : Int32} (M : q_mok c r) : q_mok c (q_raise x r) := by unfold q_raise; split <;> exact M
theorem m_send {c : q_C} {r : q_R} {x y : Int32} (M : q_mok c r) : q_mok c (q_send x y r) := by
  unfold q_send
  split
  · split <;> exact M
  · split <;> exact M
theorem m_do {c : q_C} {r : q_R} {op : Nat} {a b : Int32} (M : q_mok c r) : q_mok c (q_do op a b r) := by
  unfold q_do
  split
  · exact M
  · split
    · exact M
    · split
      · exact m_raise M
      · exact m_send M
theorem m_act {c : q_C} {r : q_R} {who : Int32} (M : q_mok c r) : q_mok c (q_act c who r) := it_keep (P := q_mok c) (fun i r M => by
  unfold q_act1
  split
  · exact m_do M
  · exact M) _ _ _ M
/-- both: what a run keeps -/
def q_inv (c : q_C) (r : q_R) : Prop := q_rok c r ∧ q_mok c r
theorem v_write {c : q_C} {r : q_R} {x : Int32} (V : q_inv c r) : q_inv c (q_write x r) := ⟨k_write V.1, m_write V.2⟩
theorem v_raise {c : q_C} {r : q_R} {x : Int32} (V : q_inv c r) : q_inv c (q_raise x r) := ⟨k_raise V.1, m_raise V.2⟩
theorem v_act {c : q_C} {r : q_R} {who : Int32} (V : q_inv c r) : q_inv c (q_act c who r) := ⟨k_act V.1, m_act V.2⟩
theorem v_leave1 {c : q_C} {r : q_R} {X : Nat → Prop} {s : Nat} (V : q_inv c r) : q_inv c (q_leave1 c X s r) := by
  unfold q_leave1
  by_cases h : q_out r = 1 ∧ X s
  · rw [q_if_t h]
    have V2 : q_inv c (q_act c (nI (200 + s)) (q_write (nI (2000 + s)) r)) := v_act (v_write V)
    show q_inv c (if _ then _ else _)
    split
    · exact ⟨⟨fun x hx => V2.1.1 x hx.2, V2.1.2⟩, V2.2⟩
    · exact V2
  · rw [q_if_f h]; exact V
theorem v_take {c : q_C} : ∀ (l : List Nat) (r : q_R), q_inv c r → q_inv c (q_take c l r) := by
  intro l
  induction l with
  | nil => intro r V; exact V
  | cons t l ih =>
    intro r V
    refine ih _ ?_
    show q_inv c (q_take1 c t r)
    unfold q_take1
    split
    · exact v_act (v_write V)
    · exact V
theorem v_finish {c : q_C} {r : q_R} {s : Nat} (V : q_inv c r) : q_inv c (q_finish c s r) := by
  unfold q_finish
  split
  · exact V
  · have V1 : q_inv c (q_raise (nI (100 + q_par c s)) r) := v_raise V
    show q_inv c (q_if (q_out (q_raise (nI (100 + q_par c s)) r) = 1 ∧ q_kd c (q_par c (q_par c s)) = 2 ∧ ∀ x, q_ch c (q_par c (q_par c s)) x → q_fin c (q_raise (nI (100 + q_par c s)) r) x) (q_raise (nI (100 + q_par c (q_par c s))) (q_raise (nI (100 + q_par c s)) r)) (q_raise (nI (100 + q_par c s)) r))
    by_cases h : q_out (q_raise (nI (100 + q_par c s)) r) = 1 ∧ q_kd c (q_par c (q_par c s)) = 2 ∧ ∀ x, q_ch c (q_par c (q_par c s)) x → q_fin c (q_raise (nI (100 + q_par c s)) r) x
    · rw [q_if_t h]; exact v_raise V1
    · rw [q_if_f h]; exact V1
theorem v_enter1 {c : q_C} {r : q_R} {N : Nat → Prop} {s : Nat} (hN : ∀ s, N s → q_st c s) (V : q_inv c r) : q_inv c (q_enter1 c N s r) := by
  unfold q_enter1
  by_cases h : q_out r = 1 ∧ N s
  · rw [q_if_t h]
    have V1 : q_inv c (q_write (nI (1000 + s)) r) := v_write V
    show q_inv c (if q_out (q_write (nI (1000 + s)) r) = 1 then _ else _)
    split
    · have V2 : q_inv c (q_act c (nI (100 + s)) (q_sOn (q_write (nI (1000 + s)) r) (fun x => x = s ∨ q_on (q_write (nI (1000 + s)) r) x))) := v_act ⟨⟨fun x hx => hx.elim (fun e => by rw [e]; exact hN s h.2) (fun z => V1.1.1 x z), V1.1.2⟩, V1.2⟩
      show q_inv c (if _ then _ else _)
      split
      · exact v_finish V2
      · exact V2
    · exact V1
  · rw [q_if_f h]; exact V
theorem v_close {c : q_C} {r : q_R} (V : q_inv c r) : q_inv c (q_close r) := by
  unfold q_close
  by_cases h : q_out r = 1 ∧ q_end r
  · rw [q_if_t h]; exact ⟨⟨V.1.1, V.1.2.1, V.1.2.2.1, V.1.2.2.2.1, V.1.2.2.2.2.1, V.1.2.2.2.2.2.1, (by decide : 2 ≤ 4)⟩, V.2⟩
  · rw [q_if_f h]; exact V
theorem v_enter {c : q_C} {r : q_R} {N : Nat → Prop} (hN : ∀ s, N s → q_st c s) (V : q_inv c r) : q_inv c (q_enter c N r) := v_close (it_keep (P := q_inv c) (fun _ _ V => v_enter1 hN V) _ _ _ V)
theorem q_mask_bt {P : Nat → Prop} : ∀ (n x : Nat), n ≤ 31 → (bt (q_mask P n) x = true ↔ 1 ≤ x ∧ x ≤ n ∧ P x) := by
  intro n
  induction n with
  | zero =>
    intro x _
    show bt 0 x = true ↔ _
    rw [b_0]
    constructor
    · intro q; cases q
    · rintro ⟨a, b, -⟩; omega
  | succ n ih =>
    intro x hn
    unfold q_mask
    rw [b_or, Bool.or_eq_true, ih x (by omega)]
    by_cases h : P (n + 1)
    · rw [q_if_t h, b_one (by omega)]
      constructor
      · rintro (⟨a, b, z⟩ | rfl)
        · exact ⟨a, by omega, z⟩
        · exact ⟨by omega, by omega, h⟩
      · rintro ⟨a, b, z⟩
        by_cases e : x = n + 1
        · exact Or.inr e
        · exact Or.inl ⟨a, by omega, z⟩
    · rw [q_if_f h, b_0]
      constructor
      · rintro (⟨a, b, z⟩ | z)
        · exact ⟨a, by omega, z⟩
        · cases z
      · rintro ⟨a, b, z⟩
        have : x ≠ n + 1 := fun e => h (e ▸ z)
        exact Or.inl ⟨a, by omega, z⟩
theorem q_rem_bt {c : q_C} {r : q_R} {X : Nat → Prop} (ok : q_ok c) (K : q_rok c r) {h x : Nat} (hc : 1 ≤ h ∧ h ≤ q_n c ∧ 4 ≤ q_kd c h ∧ X (q_par c h)) : bt (q_rem c r X h) x = true ↔ q_on r x ∧ (if q_kd c h = 4 then q_ch c (q_par c h) x else q_bl c x (q_par c h) ∧ q_leaf c x) := by
  unfold q_rem
  rw [q_if_t hc, q_mask_bt 15 x (by omega)]
  have := ok.1
  constructor
  · rintro ⟨-, -, z⟩; exact z
  · intro z
    have := K.1 x z.1
    exact ⟨this.1, by have := this.2.1; omega, z⟩
theorem v_rem {c : q_C} {r : q_R} {X : Nat → Prop} (ok : q_ok c) (V : q_inv c r) : q_inv c (q_sMem r (q_rem c r X)) := by
  refine ⟨V.1, V.2.1, fun h s h1 h2 h3 hb => ?_⟩
  have hb : bt (q_rem c r X h) s = true := hb
  by_cases hc : 1 ≤ h ∧ h ≤ q_n c ∧ 4 ≤ q_kd c h ∧ X (q_par c h)
  · rw [q_rem_bt ok V.1 hc] at hb
    refine ⟨V.1.1 s hb.1, ?_⟩
    by_cases h4 : q_kd c h = 4
    · rw [if_pos h4] at hb
      exact (q_bl_s ok hb.2.1.1 hb.2.1.2.1).mpr (Or.inl hb.2.2)
    · rw [if_neg h4] at hb
      exact hb.2.1
  · unfold q_rem at hb
    rw [q_if_f hc] at hb
    exact V.2.2 h s h1 h2 h3 hb
theorem x_run_mem {r : q_R} {σ σ' : dx_V} {m : Nat → Int32} (h : x_run r σ) (f : x_fr [28] σ σ') (hm : ∀ s, s < 16 → σ' 28 s = m s) : x_run (q_sMem r m) σ' := by
  obtain ⟨h1, h2, h3, h4, h5, h6, h7, h8, h9, h10, h11⟩ := h
  unfold x_run
  rw [f 4 (by decide), f 5 (by decide), f 29 (by decide), f 7 (by decide), f 32 (by decide), f 8 (by decide), f 33 (by decide), f 9 (by decide), f 34 (by decide), f 10 (by decide), f 35 (by decide), f 36 (by decide)]
  exact ⟨h1, h2, h3, h4, hm, h6, h7, h8, h9, h10, h11⟩
theorem x_run_on {r : q_R} {σ : dx_V} {P : Nat → Prop} {v : Int32} (h : x_run r σ) (hv : ∀ x, bt v x = true ↔ P x) : x_run (q_sOn r P) (dx_u σ 5 1 v) := by
  obtain ⟨h1, h2, h3, h4, h5, h6, h7, h8, h9, h10, h11⟩ := h
  exact ⟨h1, h2, h3, h4, h5, h6, fun x => by rw [dx_us]; exact hv x, h8, h9, h10, h11⟩
theorem x_num_w {l : List Nat} {σ σ' : dx_V} (S : x_num l (σ 6 6) (σ 31)) (f : x_fr x_W σ σ') : x_num l (σ' 6 6) (σ' 31) := by
  rw [f 6 (by decide), f 31 (by decide)]; exact S
theorem i_2000 (s : Nat) : (2000 : Int32) + nI s = nI (2000 + s) := nI_add 2000 s
theorem i_1000 (s : Nat) : (1000 : Int32) + nI s = nI (1000 + s) := nI_add 1000 s
theorem i_3000 (s : Nat) : (3000 : Int32) + nI s = nI (3000 + s) := nI_add 3000 s
theorem i_a200 (s : Nat) : (200 : Int32) + nI s = nI (200 + s) := nI_add 200 s
theorem i_a100 (s : Nat) : (100 : Int32) + nI s = nI (100 + s) := nI_add 100 s
section XU
variable {E : dx_E} {d : Nat} {po : dx_P} {c : q_C}
theorem s_RU_rems {v : Int32} {X : Nat → Prop} {r : q_R} {σ0 : dx_V} (ok : q_ok c) (X0 : x_all c r σ0) (K : q_rok c r) (hv : ∀ x, bt v x = true ↔ X x) (hp : ∀ σ' : dx_V, x_run (q_sMem r (q_rem c r X)) σ' → x_fr x_W σ0 σ' → po none σ') : ∀ (f h : Nat) (σ : dx_V), f + h = q_n c + 1 → 1 ≤ h → x_fr [28] σ0 σ → (∀ s, s < 16 → σ 28 s = if s < h then q_rem c r X s else q_mem r s) → g_RU_rememberBefore_2 E (d + 2) po v (nI h) σ := by
  have h15 := ok.1
  intro f
  induction f with
  | zero =>
    intro h σ hi h1 fr hm
    have T := x_tree_fr X0.1 fr (by decide)
    refine r_RU_rememberBefore_2 ?_
    rw [T.1]
    simp only [i_lt, i_n (show q_n c ≤ 100000 by omega), i_n (show h ≤ 100000 by omega)]
    refine ⟨fun _ => hp σ (x_run_mem X0.2.2.2 fr (fun s hs => ?_)) (x_fr_w fr (by decide)), fun q => absurd (by omega) q⟩
    rw [hm s hs]
    split
    · rfl
    · unfold q_rem
      rw [q_if_f (by omega)]
  | succ f ih =>
    intro h σ hi h1 fr hm
    have T := x_tree_fr X0.1 fr (by decide)
    have hk := ok.2.2.2.2.1 h h1 (by omega)
    have hin : vp_in (nI h) 16 := i_in (by omega) (by omega)
    have hin2 : vp_in (nI (q_par c h)) 16 := i_in (by omega) (by omega)
    have skip : ¬ (1 ≤ h ∧ h ≤ q_n c ∧ 4 ≤ q_kd c h ∧ X (q_par c h)) → g_RU_rememberBefore_2 E (d + 2) po v (nI (h + 1)) σ := fun hc => ih (h + 1) σ (by omega) (by omega) fr (fun s hs => by
      rw [hm s hs]
      by_cases e : s = h
      · subst e
        rw [if_neg (by omega), if_pos (by omega)]
        unfold q_rem
        rw [q_if_f hc]
      · by_cases e2 : s < h
        · rw [if_pos e2, if_pos (by omega)]
        · rw [if_neg e2, if_neg (by omega)])
    have put : (1 ≤ h ∧ h ≤ q_n c ∧ 4 ≤ q_kd c h ∧ X (q_par c h)) → ∀ w : Int32, (∀ x, bt w x = true ↔ q_on r x ∧ (if q_kd c h = 4 then q_ch c (q_par c h) x else q_bl c x (q_par c h) ∧ q_leaf c x)) → g_RU_rememberBefore_2 E (d + 2) po v (nI (h + 1)) (dx_u σ 28 h w) := fun hc w hw => ih (h + 1) _ (by omega) (by omega) (x_fr_u fr (by decide)) (fun s hs => by
      by_cases e : s = h
      · subst e
        rw [dx_us, if_pos (by omega)]
        refine b_ext (fun i _ => ?_)
        have e1 := hw i
        have e2 := q_rem_bt (X := X) ok K hc (x := i)
        have e3 := e1.trans e2.symm
        cases h9 : bt w i <;> cases h8 : bt (q_rem c r X s) i <;> simp_all
      · rw [dx_uk e, hm s hs]
        by_cases e2 : s < h
        · rw [if_pos e2, if_pos (by omega)]
        · rw [if_neg e2, if_neg (by omega)])
    refine r_RU_rememberBefore_2 ?_
    rw [T.1, i_inc h]
    simp only [i_lt, i_n (show q_n c ≤ 100000 by omega), i_n (show h ≤ 100000 by omega)]
    refine ⟨fun q => absurd q (by omega), fun _ => dx_ci1 _ _ (fun po hp => s_ST_isHistory ok T (by omega) hp) (q_zb (fun q => skip (by omega)) (fun q => ⟨hin, ?_⟩))⟩
    rw [i_cl (by omega), T.2.2.1 h h1 (by omega)]
    refine dx_ci1 _ _ (fun po hp => s_MC_isIn (by omega) hp) ?_
    rw [q_z_eq (hv (q_par c h))]
    refine q_zc (fun q2 => ⟨hin, hin, ?_⟩) (fun q2 => skip (fun z => q2 z.2.2.2))
    rw [T.2.1 h (by omega), T.2.2.1 h h1 (by omega), i_cl (n := q_par c h) (by omega)]
    have hact : ∀ x, bt (σ 5 1) x = true ↔ q_on r x := fun x => by rw [fr 5 (by decide)]; exact X0.2.2.2.2.2.2.2.2.2.1 x
    refine ⟨fun q3 => ⟨hin2, ?_⟩, fun q3 => ⟨hin2, hin, put ⟨h1, by omega, q, q2⟩ _ (fun x => ?_)⟩⟩
    · have k4 : ¬ q_kd c h = 4 := fun z => q3 (by rw [z]; rfl)
      refine dx_ciR (fun w σ1 => σ1 = σ ∧ ∀ x, bt w x = true ↔ (1 ≤ x ∧ x ≤ q_n c ∧ bt (σ 5 1 &&& σ 16 (q_par c h)) x = true ∧ q_leaf c x)) (fun po hpo => s_ST_atomicAmong ok T (fun w hw => hpo w σ ⟨rfl, hw⟩)) ?_
      rintro w σ1 ⟨rfl, hw⟩
      refine ⟨hin, put ⟨h1, by omega, q, q2⟩ w (fun x => ?_)⟩
      rw [hw x, if_neg k4, b_and, Bool.and_eq_true, hact, T.2.2.2.2.2.2 _ (by omega)]
      constructor
      · rintro ⟨a, b, ⟨z1, z2, z3⟩, z4⟩; exact ⟨z1, z3, z4⟩
      · rintro ⟨z1, z3, z4⟩
        have := K.1 x z1
        exact ⟨this.1, this.2.1, ⟨z1, this, z3⟩, z4⟩
    · have k4 : q_kd c h = 4 := i_nj (b := 4) q3 (by omega) (by omega)
      rw [if_pos k4, b_and, Bool.and_eq_true, hact, T.2.2.2.2.1 _ (by omega)]
theorem s_RU_rememberBefore {v : Int32} {X : Nat → Prop} {r : q_R} {σ : dx_V} (ok : q_ok c) (X0 : x_all c r σ) (K : q_rok c r) (hv : ∀ x, bt v x = true ↔ X x) (hp : ∀ σ' : dx_V, x_run (q_sMem r (q_rem c r X)) σ' → x_fr x_W σ σ' → po none σ') : m_RU_rememberBefore E (d + 2) v σ po :=
  r_RU_rememberBefore (s_RU_rems ok X0 K hv hp (q_n c) 1 σ (by omega) (by omega) x_fr_rf (fun s hs => by
    rw [X0.2.2.2.2.2.2.2.1 s hs]
    split
    · next h =>
      unfold q_rem
      rw [q_if_f (by omega)]
    · rfl))
theorem q_leave1_stop {X : Nat → Prop} : ∀ i r, q_out r ≠ 1 → q_leave1 c X i r = r := fun i r h => by unfold q_leave1; rw [q_if_f (fun q => h q.1)]
theorem q_leave1_no {X : Nat → Prop} {s : Nat} {r : q_R} (h : ¬ X s) : q_leave1 c X s r = r := by unfold q_leave1; rw [q_if_f (fun q => h q.2)]
theorem q_leave1_yes {X : Nat → Prop} {s : Nat} {r : q_R} (ho : q_out r = 1) (h : X s) : q_leave1 c X s r = if q_out (q_act c (nI (200 + s)) (q_write (nI (2000 + s)) r)) = 1 then q_sOn (q_act c (nI (200 + s)) (q_write (nI (2000 + s)) r)) (fun x => x ≠ s ∧ q_on (q_act c (nI (200 + s)) (q_write (nI (2000 + s)) r)) x) else q_act c (nI (200 + s)) (q_write (nI (2000 + s)) r) := by unfold q_leave1; rw [q_if_t ⟨ho, h⟩]
theorem s_RU_leaves {v : Int32} {X : Nat → Prop} (ok : q_ok c) (hv : ∀ x, bt v x = true ↔ X x) : ∀ (s : Nat) (r : q_R) (σ : dx_V), s ≤ 15 → x_all c r σ → q_rok c r → q_out r = 1 → (∀ σ' : dx_V, x_run (q_dn (q_leave1 c X) s r) σ' → x_fr x_W σ σ' → po none σ') → g_RU_leave_3 E (d + 3) po v (nI s) σ := by
  intro s
  induction s with
  | zero =>
    intro r σ hs X0 K ho hp
    refine r_RU_leave_3 ?_
    simp only [i_lt, i_1, i_n (show 0 ≤ 100000 by omega)]
    exact ⟨fun _ => hp σ X0.2.2.2 x_fr_rf, fun h => absurd (by omega) h⟩
  | succ s ih =>
    intro r σ hs X0 K ho hp
    have hp : ∀ σ' : dx_V, x_run (q_dn (q_leave1 c X) s (q_leave1 c X (s + 1) r)) σ' → x_fr x_W σ σ' → po none σ' := hp
    refine r_RU_leave_3 ?_
    simp only [i_lt, i_1, i_n (show s + 1 ≤ 100000 by omega), i_2000, i_a200, i_dec]
    refine ⟨fun h => absurd h (by omega), fun _ => dx_ci1 _ _ (fun po hp => s_MC_isIn (by omega) hp) ?_⟩
    rw [q_z_eq (hv (s + 1))]
    refine q_zb (fun q => ?_) (fun q => ?_)
    · rw [q_leave1_no q] at hp
      exact ih r σ (by omega) X0 K ho hp
    · rw [q_leave1_yes ho q] at hp
      refine dx_cuR (fun σ1 => x_run (q_write (nI (2000 + (s + 1))) r) σ1 ∧ x_fr x_W σ σ1) (fun po hpo => s_RU_putRecord X0.2.2.2 K (fun σ' z1 z2 => hpo σ' ⟨by rw [if_pos ho] at z1; exact z1, z2⟩)) ?_
      rintro σ1 ⟨a1, a2⟩
      have X1 := x_all_fr X0 a2 a1
      have K1 : q_rok c (q_write (nI (2000 + (s + 1))) r) := k_write K
      refine dx_cuR (fun σ2 => x_run (q_act c (nI (200 + (s + 1))) (q_write (nI (2000 + (s + 1))) r)) σ2 ∧ x_fr x_W σ σ2) (fun po hpo => s_RU_doActions ok X1 K1 (fun σ' z1 z2 => hpo σ' ⟨z1, x_fr_tr a2 z2 (fun _ z => z)⟩)) ?_
      rintro σ2 ⟨b1, b2⟩
      have X2 := x_all_fr X0 b2 b1
      have K2 : q_rok c (q_act c (nI (200 + (s + 1))) (q_write (nI (2000 + (s + 1))) r)) := k_act K1
      generalize q_act c (nI (200 + (s + 1))) (q_write (nI (2000 + (s + 1))) r) = r2 at *
      have hg := x_go X2.2.2.2 K2
      refine dx_ci1 _ _ (fun po hp => s_RU_isGoingOn hp) (q_zc (fun q2 => ?_) (fun q2 => ?_))
      · have ho2 := hg.mp q2
        simp only [if_pos ho2] at hp
        have hx := x_run_on (P := fun x => x ≠ s + 1 ∧ q_on r2 x) (v := (σ2 5 1) &&& ((1 <<< (nI (s + 1) &&& 31)) ^^^ (-1))) X2.2.2.2 (fun x => by
          rw [b_and, b_xor, Bool.and_eq_true, X2.2.2.2.2.2.2.2.2.2.1 x]
          rcases Nat.lt_or_ge x 32 with h32 | h32
          · rw [b_m1 x h32]
            have := b_one (k := s + 1) (i := x) (by omega)
            constructor
            · rintro ⟨z1, z2⟩
              refine ⟨fun e => ?_, z1⟩
              rw [this.mpr e] at z2
              cases z2
            · rintro ⟨z1, z2⟩
              refine ⟨z2, ?_⟩
              cases h9 : bt (1 <<< (nI (s + 1) &&& 31)) x with
              | false => rfl
              | true => exact absurd (this.mp h9) z1
          · constructor
            · rintro ⟨z1, z2⟩
              have := (K2.1 x z1).2.1
              have := ok.1
              omega
            · rintro ⟨z1, z2⟩
              have := (K2.1 x z2).2.1
              have := ok.1
              omega)
        have hf : x_fr x_W σ (dx_u σ2 5 1 ((σ2 5 1) &&& ((1 <<< (nI (s + 1) &&& 31)) ^^^ (-1)))) := x_fr_u b2 (by decide)
        exact ih _ _ (by omega) (x_all_fr X0 hf hx) ⟨fun x hx => K2.1 x hx.2, K2.2⟩ ho2 (fun σ' z1 z2 => hp σ' z1 (x_fr_tr hf z2 (fun _ z => z)))
      · have ho2 : q_out r2 ≠ 1 := fun z => q2 (hg.mpr z)
        simp only [if_neg ho2] at hp
        rw [q_dn_stop q_leave1_stop _ _ ho2] at hp
        exact hp σ2 b1 b2
theorem q_dn_top {X : Nat → Prop} {n : Nat} (hX : ∀ s, n < s → ¬ X s) : ∀ (j : Nat) (r : q_R), q_dn (q_leave1 c X) (n + j) r = q_dn (q_leave1 c X) n r := by
  intro j
  induction j with
  | zero => intro r; rfl
  | succ j ih =>
    intro r
    show q_dn (q_leave1 c X) (n + j) (q_leave1 c X (n + j + 1) r) = _
    rw [q_leave1_no (hX _ (by omega))]
    exact ih r
theorem s_RU_leave {v : Int32} {X : Nat → Prop} {r : q_R} {σ : dx_V} (ok : q_ok c) (X0 : x_all c r σ) (K : q_rok c r) (ho : q_out r = 1) (hX : ∀ s, X s → q_st c s) (hv : ∀ x, bt v x = true ↔ X x) (hp : ∀ σ' : dx_V, x_run (q_dn (q_leave1 c X) (q_n c) r) σ' → x_fr x_W σ σ' → po none σ') : m_RU_leave E (d + 3) v σ po := by
  have h15 := ok.1
  have e := q_dn_top (c := c) (X := X) (n := q_n c) (fun s hs hx => by have := (hX s hx).2.1; omega) (15 - q_n c) r
  rw [show q_n c + (15 - q_n c) = 15 by omega] at e
  exact r_RU_leave (s_RU_leaves ok hv 15 r σ (by omega) X0 K ho (fun σ' z1 z2 => hp σ' (e ▸ z1) z2))
theorem s_RU_takes {l : List Nat} (ok : q_ok c) (hl : l.length ≤ 20) (hb : ∀ u ∈ l, u < q_nt c) : ∀ (f i : Nat) (r : q_R) (σ : dx_V), f + i = l.length → x_all c r σ → q_rok c r → x_num l (σ 6 6) (σ 31) → (∀ σ' : dx_V, x_run (q_take c (l.drop i) r) σ' → x_fr x_W σ σ' → po none σ') → g_RU_takeTransitions_2 E (d + 3) po (nI i) σ := by
  have h20 := ok.2.1
  intro f
  induction f with
  | zero =>
    intro i r σ hi X0 K S hp
    refine r_RU_takeTransitions_2 ?_
    rw [S.1]
    simp only [i_le, i_n (show l.length ≤ 100000 by omega), i_n (show i ≤ 100000 by omega)]
    rw [List.drop_of_length_le (by omega)] at hp
    exact ⟨fun _ => hp σ X0.2.2.2 x_fr_rf, fun h => absurd h (by omega)⟩
  | succ f ih =>
    intro i r σ hi X0 K S hp
    obtain ⟨u, hu⟩ : ∃ u, l[i]? = some u := ⟨l[i]'(by omega), List.getElem?_eq_getElem (by omega)⟩
    have hub := hb u (List.mem_of_getElem? hu)
    have hdr : l.drop i = u :: l.drop (i + 1) := by
      obtain ⟨_, e⟩ := List.getElem?_eq_some_iff.mp hu
      rw [List.drop_eq_getElem_cons (by omega), e]
    rw [hdr] at hp
    have hp : ∀ σ' : dx_V, x_run (q_take c (l.drop (i + 1)) (q_take1 c u r)) σ' → x_fr x_W σ σ' → po none σ' := hp
    have hin : vp_in (nI i) 20 := i_in (by omega) (by omega)
    refine r_RU_takeTransitions_2 ?_
    rw [S.1, i_cl (n := i) (by omega), S.2 i u hu, i_inc i, i_3000]
    simp only [i_le, i_n (show l.length ≤ 100000 by omega), i_n (show i ≤ 100000 by omega)]
    refine ⟨fun h => absurd h (by omega), fun _ => ⟨hin, dx_cuR (fun σ1 => x_run (if q_out r = 1 then q_write (nI (3000 + u)) r else r) σ1 ∧ x_fr x_W σ σ1) (fun po hpo => s_RU_putRecord X0.2.2.2 K (fun σ' z1 z2 => hpo σ' ⟨z1, z2⟩)) ?_⟩⟩
    rintro σ1 ⟨a1, a2⟩
    have X1 := x_all_fr X0 a2 a1
    have K1 : q_rok c (if q_out r = 1 then q_write (nI (3000 + u)) r else r) := by
      split
      · exact k_write K
      · exact K
    have S1 := x_num_w S a2
    rw [S1.2 i u hu]
    have e : q_act c (nI u) (if q_out r = 1 then q_write (nI (3000 + u)) r else r) = q_take1 c u r := by
      unfold q_take1
      by_cases ho : q_out r = 1
      · rw [if_pos ho, if_pos ho]
      · rw [if_neg ho, if_neg ho]; exact q_act_stop ho
    refine ⟨hin, dx_cuR (fun σ2 => x_run (q_take1 c u r) σ2 ∧ x_fr x_W σ σ2) (fun po hpo => s_RU_doActions ok X1 K1 (fun σ' z1 z2 => hpo σ' ⟨e ▸ z1, x_fr_tr a2 z2 (fun _ z => z)⟩)) ?_⟩
    rintro σ2 ⟨b1, b2⟩
    exact ih (i + 1) _ σ2 (by omega) (x_all_fr X0 b2 b1) (e ▸ k_act K1) (x_num_w S b2) (fun σ' z1 z2 => hp σ' z1 (x_fr_tr b2 z2 (fun _ z => z)))
theorem s_RU_takeTransitions {l : List Nat} {r : q_R} {σ : dx_V} (ok : q_ok c) (hl : l.length ≤ 20) (hb : ∀ u ∈ l, u < q_nt c) (X0 : x_all c r σ) (K : q_rok c r) (S : x_num l (σ 6 6) (σ 31)) (hp : ∀ σ' : dx_V, x_run (q_take c l r) σ' → x_fr x_W σ σ' → po none σ') : m_RU_takeTransitions E (d + 3) σ po :=
  r_RU_takeTransitions (s_RU_takes ok hl hb l.length 0 r σ (by omega) X0 K S hp)
end XU
