/-! The calls, and the class's part in each. -/
abbrev q_A : Type := Int32 × q_C × q_R
noncomputable def cl_state (c : q_C) (r : q_R) (a k : Int32) : q_A := q_if (q_out r = 0 ∧ q_mayS c a k) (if q_n c = 15 then (-2, c, r) else (nI (q_n c + 1), q_addS c a.toNatClampNeg k.toNatClampNeg, r)) (-1, c, r)
noncomputable def cl_initial (c : q_C) (r : q_R) (a : Int32) : q_A := q_if (q_out r = 0 ∧ ∃ s, a = nI s ∧ q_st c s ∧ q_kd c (q_par c s) = 1) (1, q_setI c (q_par c a.toNatClampNeg) a.toNatClampNeg, r) (0, c, r)
noncomputable def cl_transition (c : q_C) (r : q_R) (a e t : Int32) : q_A := q_if (q_out r = 0 ∧ (∃ s, a = nI s ∧ q_st c s ∧ q_kd c s ≠ 3) ∧ q_await c e ∧ (t = -1 ∨ (1 ≤ t.toInt ∧ t.toInt ≤ q_n c))) (if q_nt c = 20 then (-2, c, r) else (nI (q_nt c), q_addT c a.toNatClampNeg e t.toNatClampNeg, r)) (-1, c, r)
noncomputable def cl_guard (c : q_C) (r : q_R) (t w o v : Int32) : q_A := q_if (q_out r = 0 ∧ (0 ≤ t.toInt ∧ t.toInt < q_nt c) ∧ q_mayG c w o v) (1, q_setG c t.toNatClampNeg (w.toNatClampNeg, o.toNatClampNeg, v), r) (0, c, r)
noncomputable def cl_action (c : q_C) (r : q_R) (w o a b : Int32) : q_A := q_if (q_out r = 0 ∧ q_own c w ∧ q_mayD o a b ∧ q_na c ≠ 32) (1, q_addA c w o.toNatClampNeg a b, r) (0, c, r)
noncomputable def cl_begin (c : q_C) (r : q_R) : q_A := if q_out r ≠ 0 then (-1, c, r) else q_if (q_whole c) (nI (q_mi (q_begin c)), c, q_begin c) (-3, c, r)
noncomputable def cl_post (c : q_C) (r : q_R) (e : Int32) : q_A := q_if (q_out r = 1 ∧ (1 ≤ e.toInt ∧ e.toInt ≤ 20) ∧ (q_ex r).length < 16) (1, c, q_sEx r (q_ex r ++ [e])) (0, c, r)
noncomputable def cl_step (c : q_C) (r : q_R) : q_A := if q_out r ≠ 1 then (-1, c, r) else match q_ex r with
  | [] => (-4, c, r)
  | e :: l => (nI (q_mi (q_step c e l r)), c, q_step c e l r)
noncomputable def cl_tick (c : q_C) (r : q_R) (n : Int32) : q_A := q_if (q_out r = 1 ∧ 1 ≤ n.toInt ∧ n.toInt ≤ 50) (q_ck (q_tick n r), c, q_tick n r) (-1, c, r)
def cl_reset (c : q_C) (r : q_R) : q_A := (0, c, q_sOut r 0)
def cl_outcome (c : q_C) (r : q_R) : q_A := (nI (q_out r), c, r)
noncomputable def cl_active (c : q_C) (r : q_R) : q_A := (if q_out r = 0 then 0 else q_mask (q_on r) 15, c, r)
noncomputable def cl_remembered (c : q_C) (r : q_R) (h : Int32) : q_A := (if q_out r ≠ 0 ∧ 1 ≤ h.toInt ∧ h.toInt ≤ q_n c then q_mem r h.toNatClampNeg else 0, c, r)
def cl_variable (c : q_C) (r : q_R) (v : Int32) : q_A := (if q_out r ≠ 0 ∧ 0 ≤ v.toInt ∧ v.toInt ≤ 3 then q_var r v.toNatClampNeg else 0, c, r)
def cl_listed (c : q_C) (r : q_R) (i : Int32) : q_A := (if q_out r ≠ 0 ∧ 0 ≤ i.toInt ∧ i.toInt < (q_rc r).length then (q_rc r).getD i.toNatClampNeg 0 else -1, c, r)
def cl_waiting (c : q_C) (r : q_R) (w : Int32) : q_A := (if w.toInt < 0 ∨ 2 < w.toInt then -1 else if q_out r = 0 then 0 else if w.toInt = 0 then nI (q_in r).length else if w.toInt = 1 then nI (q_ex r).length else nI (q_se r).length, c, r)
/-- the class holds chart and run -/
def xx (c : q_C) (r : q_R) (σ : dx_V) : Prop := q_ok c ∧ x_tree c σ ∧ x_tr c σ ∧ x_ac c σ ∧ σ 4 12 = nI (q_out r) ∧ q_out r ≤ 4 ∧ (q_out r ≠ 0 → q_inv c r ∧ x_run r σ)
theorem xx_run {c : q_C} {r r' : q_R} {σ σ' : dx_V} (H : xx c r σ) (f : x_fr x_Z σ σ') (h : x_run r' σ') (V : q_inv c r') : xx c r' σ' :=
  ⟨H.1, x_tree_fr H.2.1 f (by decide), x_tr_fr H.2.2.1 f (by decide), x_ac_fr H.2.2.2.1 f (by decide), h.2.2.1, V.1.2.2.2.2.2.2, fun _ => ⟨V, h⟩⟩
theorem xx_0 {c : q_C} {r : q_R} {σ : dx_V} (H : xx c r σ) : σ 4 12 = 0 ↔ q_out r = 0 := by
  have := H.2.2.2.2.2.1
  rw [H.2.2.2.2.1, i_eq, i_n (by omega), i_0]; omega
theorem xx_1 {c : q_C} {r : q_R} {σ : dx_V} (H : xx c r σ) : σ 4 12 = 1 ↔ q_out r = 1 := by
  have := H.2.2.2.2.2.1
  rw [H.2.2.2.2.1, i_eq, i_n (by omega), i_1]; omega
theorem xx_all {c : q_C} {r : q_R} {σ : dx_V} (H : xx c r σ) (h : q_out r ≠ 0) : x_all c r σ := ⟨H.2.1, H.2.2.1, H.2.2.2.1, (H.2.2.2.2.2.2 h).2⟩
section XCL
variable {E : dx_E} {d : Nat} {po : dx_P} {c : q_C} {r : q_R} {σ : dx_V}
theorem s_MC_state {a k : Int32} (H : xx c r σ) (hp : ∀ σ', xx (cl_state c r a k).2.1 (cl_state c r a k).2.2 σ' → po (some (cl_state c r a k).1) σ') : m_MC_state E (d + 3) a k σ po := by
  have ok := H.1
  have h15 := ok.1
  unfold cl_state at hp
  refine r_MC_state (dx_ci1 _ _ (fun po hp => s_MC_isBuilding hp) ?_)
  rw [q_z_eq (xx_0 H)]
  refine q_zb (fun q => ?_) (fun q => dx_ci1 _ _ (fun po hp => s_ST_mayHold ok H.2.1 hp) (q_zc (fun q2 => ?_) (fun q2 => ?_)))
  · rw [q_if_f (fun z => q z.1)] at hp
    exact hp σ H
  · rw [q_if_t ⟨q, q2⟩] at hp
    have e15 : σ 1 6 = 15 ↔ q_n c = 15 := by rw [H.2.1.1, i_eq, i_n (by omega), i_15]; omega
    rw [e15]
    obtain ⟨s, rfl, s1, k1, k2, k3⟩ := q2
    obtain ⟨e1, e2⟩ := i_ix (x := k) (by omega)
    generalize k.toNatClampNeg = kk at e1 e2 hp
    subst e1
    rw [i_cl (n := s) (by omega)] at hp
    refine ⟨fun q3 => ?_, fun q3 => ?_⟩
    · rw [if_neg q3] at hp
      have hA : q_mayA c s kk := ⟨s1, by omega, by omega, by omega, by omega, by omega, fun z => by subst z; have := ok.2.2.2.1; omega⟩
      refine dx_ciR (fun v σ1 => v = nI (q_n c + 1) ∧ x_tree (q_addS c s kk) σ1 ∧ x_fr x_Y σ σ1) (fun po hpo => s_ST_add ok H.2.1 hA (fun σ' z1 z2 => hpo _ σ' ⟨rfl, z1, z2⟩)) ?_
      rintro v σ1 ⟨rfl, z1, z2⟩
      refine hp σ1 ⟨as_ok ok hA, z1, as_tr ok hA (x_tr_fr H.2.2.1 z2 (by decide)), x_ac_fr (c := c) H.2.2.2.1 z2 (by decide), ?_, H.2.2.2.2.2.1, fun z => absurd q z⟩
      rw [z2 4 (by decide)]; exact H.2.2.2.2.1
    · rw [if_pos q3] at hp
      exact hp σ H
  · rw [q_if_f (fun z => q2 z.2)] at hp
    exact hp σ H
theorem s_MC_initial {a : Int32} (H : xx c r σ) (hp : ∀ σ', xx (cl_initial c r a).2.1 (cl_initial c r a).2.2 σ' → po (some (cl_initial c r a).1) σ') : m_MC_initial E (d + 2) a σ po := by
  have ok := H.1
  have h15 := ok.1
  have T := H.2.1
  unfold cl_initial at hp
  refine r_MC_initial (dx_ci1 _ _ (fun po hp => s_MC_isBuilding hp) ?_)
  rw [q_z_eq (xx_0 H)]
  refine q_zb (fun q => ?_) (fun q => dx_ci1 _ _ (fun po hp => s_ST_isMadeState ok T hp) (q_zb (fun q2 => ?_) (fun q2 => ?_)))
  · rw [q_if_f (fun z => q z.1)] at hp
    exact hp σ H
  · rw [q_if_f (fun z => q2 (by obtain ⟨-, s, z1, z2, -⟩ := z; exact ⟨s, z1, z2⟩))] at hp
    exact hp σ H
  · obtain ⟨s, rfl, hs⟩ := q2
    have hsn := hs.2.1
    have hk := ok.2.2.2.2.1 s hs.1 hs.2.1
    have in1 : vp_in (nI s) 16 := i_in (by omega) (by omega)
    rw [i_cl (n := s) (by omega)] at hp
    rw [i_cl (n := s) (by omega), T.2.2.1 s hs.1 hsn, i_cl (n := q_par c s) (by omega), T.2.1 (q_par c s) (by omega)]
    have in2 : vp_in (nI (q_par c s)) 16 := i_in (by omega) (by omega)
    have e1 : nI (q_kd c (q_par c s)) = 1 ↔ q_kd c (q_par c s) = 1 := by rw [i_eq, i_n (by omega), i_1]; omega
    rw [e1]
    refine ⟨in1, in2, fun q3 => ⟨in1, in2, ?_⟩, fun q3 => ?_⟩
    · rw [q_if_t ⟨q, s, rfl, hs, q3⟩] at hp
      have hch : q_ch c (q_par c s) s := ⟨hs, rfl⟩
      refine hp _ ⟨ok_setI ok hch, ⟨T.1, T.2.1, T.2.2.1, fun u hu hc => ?_, T.2.2.2.2.1, T.2.2.2.2.2.1, T.2.2.2.2.2.2⟩, ⟨H.2.2.1.1, fun t ht => ?_⟩, H.2.2.2.1, H.2.2.2.2.1, H.2.2.2.2.2.1, fun z => absurd q z⟩
      · have eq1 : q_ini (q_setI c (q_par c s) s) u = if u = q_par c s then s else q_ini c u := by
          unfold q_ini
          show (if (if u = q_par c s then s else q_nam c u) = 0 then _ else (if u = q_par c s then s else q_nam c u)) = _
          by_cases e : u = q_par c s
          · rw [if_pos e, if_pos e, if_neg (by have := hs.1; omega)]
          · rw [if_neg e, if_neg e, q_first_cong (c' := q_setI c (q_par c s) s) (c := c) (fun i => Iff.rfl)]
        rw [eq1]
        by_cases e : u = q_par c s
        · rw [if_pos e, e, dx_us]
        · rw [if_neg e, dx_uk e]; exact T.2.2.2.1 u hu hc
      · obtain ⟨a1, a2, a3, a4, a5, a6⟩ := H.2.2.1.2 t ht
        refine ⟨a1, a2, a3, fun h0 => ?_, a5, a6⟩
        have : q_dom (q_setI c (q_par c s) s) t = q_dom c t := by
          have okI := ok_setI ok hch
          have key : ∀ (f u : Nat), q_domain (q_setI c (q_par c s) s) (q_tg c t) f u = q_domain c (q_tg c t) f u := by
            intro f
            induction f with
            | zero => intro u; rfl
            | succ f ih => intro u; unfold q_domain; rw [ih]; rfl
          exact key 16 _
        rw [this]
        exact a4 h0
    · rw [q_if_f (fun z => by
        obtain ⟨-, s', z1, z2, z3⟩ := z
        have := z2.2.1
        have e : s = s' := i_nj z1 (by omega) (by omega)
        subst e
        exact q3 z3)] at hp
      exact hp σ H
theorem s_MC_transition {a e t : Int32} (H : xx c r σ) (hp : ∀ σ', xx (cl_transition c r a e t).2.1 (cl_transition c r a e t).2.2 σ' → po (some (cl_transition c r a e t).1) σ') : m_MC_transition E (d + 3) a e t σ po := by
  have ok := H.1
  have h15 := ok.1
  have h20 := ok.2.1
  have T := H.2.1
  have T2 := H.2.2.1
  unfold cl_transition at hp
  refine r_MC_transition (dx_ci1 _ _ (fun po hp => s_MC_isBuilding hp) ?_)
  rw [q_z_eq (xx_0 H)]
  refine q_zb (fun q => ?_) (fun q => dx_ci1 _ _ (fun po hp => s_MC_maySource ok T hp) (q_zb (fun q2 => ?_) (fun q2 => dx_ci1 _ _ (fun po hp => s_MC_mayAwait ok T hp) (q_zb (fun q3 => ?_) (fun q3 => dx_ci1 _ _ (fun po hp => s_MC_mayTarget ok T hp) (q_zc (fun q4 => ?_) (fun q4 => ?_)))))))
  · rw [q_if_f (fun z => q z.1)] at hp; exact hp σ H
  · rw [q_if_f (fun z => q2 z.2.1)] at hp; exact hp σ H
  · rw [q_if_f (fun z => q3 z.2.2.1)] at hp; exact hp σ H
  · rw [q_if_t ⟨q, q2, q3, q4⟩] at hp
    obtain ⟨s, rfl, hs, hs3⟩ := q2
    have hsn := hs.2.1
    rw [i_cl (n := s) (by omega)] at hp
    have e20 : σ 2 7 = 20 ↔ q_nt c = 20 := by rw [T2.1, i_eq, i_n (by omega), i_20]; omega
    rw [e20]
    refine ⟨fun q5 => ?_, fun q5 => ?_⟩
    · rw [if_neg q5] at hp
      -- the target as a number, 0 for none
      have fin : ∀ (tg : Nat) (w : Int32), (tg = 0 ∨ (1 ≤ tg ∧ tg ≤ q_n c)) → t.toNatClampNeg = tg → t = (if tg = 0 then -1 else nI tg) → (tg ≠ 0 → w = nI (q_domain c tg 16 (q_par c s))) → g_MC_transition_66 E (d + 3) po (nI s) e t w σ := by
        intro tg w ht1 ht2 ht3 hw
        rw [ht2] at hp
        have in1 : vp_in (nI (q_nt c)) 20 := i_in (by omega) (by omega)
        refine r_MC_transition_66 (dx_ciR (fun v σ1 => v = nI (q_nt c) ∧ σ1 = dx_u (dx_u (dx_u (dx_u (dx_u (dx_u σ 17 (q_nt c) (nI s)) 18 (q_nt c) e) 19 (q_nt c) t) 20 (q_nt c) w) 21 (q_nt c) (-1)) 2 7 (nI (q_nt c + 1))) (fun po hpo => r_TT_add ?_) ?_)
        · rw [T2.1, i_cl (n := q_nt c) (by omega), i_inc]
          exact ⟨in1, in1, in1, in1, in1, hpo _ _ ⟨rfl, rfl⟩⟩
        · rintro v σ1 ⟨rfl, rfl⟩
          refine hp _ ⟨ok_addT ok (by omega) hs hs3 ht1, T, ⟨rfl, fun i hi => ?_⟩, H.2.2.2.1, H.2.2.2.2.1, H.2.2.2.2.2.1, fun z => absurd q z⟩
          have hi : i < q_nt c + 1 := hi
          by_cases ei : i = q_nt c
          · subst ei
            refine ⟨?_, ?_, ?_, fun h0 => ?_, fun _ => ?_, fun w' o v' hg => ?_⟩
            · show dx_u _ 17 _ _ 17 _ = nI (if q_nt c = q_nt c then s else q_src c (q_nt c)); rw [if_pos rfl, dx_us]
            · show dx_u _ 18 _ _ 18 _ = (if q_nt c = q_nt c then e else q_ev c (q_nt c)); rw [if_pos rfl, dx_us]
            · show dx_u _ 19 _ _ 19 _ = (if (if q_nt c = q_nt c then tg else q_tg c (q_nt c)) = 0 then -1 else nI (if q_nt c = q_nt c then tg else q_tg c (q_nt c))); rw [if_pos rfl, dx_us]; exact ht3
            · show dx_u _ 20 _ _ 20 _ = nI (q_domain (q_addT c s e tg) (if q_nt c = q_nt c then tg else q_tg c (q_nt c)) 16 (q_par c (if q_nt c = q_nt c then s else q_src c (q_nt c))))
              have h0 : (if q_nt c = q_nt c then tg else q_tg c (q_nt c)) ≠ 0 := h0
              rw [if_pos rfl] at h0
              rw [if_pos rfl, if_pos rfl, dx_us, q_domain_cong (c' := q_addT c s e tg) (c := c) rfl]
              exact hw h0
            · show dx_u _ 21 _ _ 21 _ = _; rw [dx_us]
            · have hg : (if q_nt c = q_nt c then none else q_gd c (q_nt c)) = some (w', o, v') := hg
              rw [if_pos rfl] at hg
              cases hg
          · obtain ⟨a1, a2, a3, a4, a5, a6⟩ := T2.2 i (by omega)
            refine ⟨?_, ?_, ?_, fun h0 => ?_, fun hg => ?_, fun w' o v' hg => ?_⟩
            · show dx_u _ 17 _ _ 17 _ = nI (if i = q_nt c then s else q_src c i); rw [if_neg ei, dx_uk ei]; exact a1
            · show dx_u _ 18 _ _ 18 _ = (if i = q_nt c then e else q_ev c i); rw [if_neg ei, dx_uk ei]; exact a2
            · show dx_u _ 19 _ _ 19 _ = (if (if i = q_nt c then tg else q_tg c i) = 0 then -1 else nI (if i = q_nt c then tg else q_tg c i)); rw [if_neg ei, dx_uk ei]; exact a3
            · show dx_u _ 20 _ _ 20 _ = nI (q_domain (q_addT c s e tg) (if i = q_nt c then tg else q_tg c i) 16 (q_par c (if i = q_nt c then s else q_src c i)))
              have h0 : (if i = q_nt c then tg else q_tg c i) ≠ 0 := h0
              rw [if_neg ei] at h0
              rw [if_neg ei, if_neg ei, dx_uk ei, q_domain_cong (c' := q_addT c s e tg) (c := c) rfl]
              exact a4 h0
            · show dx_u _ 21 _ _ 21 _ = _
              have hg : (if i = q_nt c then none else q_gd c i) = none := hg
              rw [if_neg ei] at hg
              rw [dx_uk ei]; exact a5 hg
            · have hg : (if i = q_nt c then none else q_gd c i) = some (w', o, v') := hg
              rw [if_neg ei] at hg
              refine ⟨?_, (a6 w' o v' hg).2⟩
              show dx_u _ 21 _ _ 21 _ = _
              rw [dx_uk ei]; exact (a6 w' o v' hg).1
      refine ⟨fun q6 => ?_, fun q6 => ?_⟩
      · have q4 := q4.resolve_left q6
        obtain ⟨f1, f2⟩ := i_ix (x := t) (by omega)
        generalize htg : t.toNatClampNeg = tg at f1 f2
        subst f1
        have b1 : 1 ≤ tg ∧ tg ≤ q_n c := by omega
        exact dx_ci1 _ _ (fun po hp => s_ST_nearestCompoundAbove ok T hs b1.1 b1.2 hp) (fin tg _ (Or.inr b1) htg (by rw [if_neg (by omega)]) (fun _ => rfl))
      · subst q6
        exact fin 0 (-1) (Or.inl rfl) rfl (by rw [if_pos rfl]) (fun z => absurd rfl z)
    · rw [if_pos q5] at hp; exact hp σ H
  · rw [q_if_f (fun z => q4 z.2.2.2)] at hp; exact hp σ H
theorem s_MC_guard {t w o v : Int32} (H : xx c r σ) (hp : ∀ σ', xx (cl_guard c r t w o v).2.1 (cl_guard c r t w o v).2.2 σ' → po (some (cl_guard c r t w o v).1) σ') : m_MC_guard E (d + 3) t w o v σ po := by
  have ok := H.1
  have h15 := ok.1
  have h20 := ok.2.1
  have T := H.2.1
  have T2 := H.2.2.1
  unfold cl_guard at hp
  refine r_MC_guard (dx_ci1 _ _ (fun po hp => s_MC_isBuilding hp) ?_)
  rw [q_z_eq (xx_0 H)]
  refine q_zb (fun q => ?_) (fun q => dx_ci1 _ _ (fun po hp => s_TT_has ok T2 hp) (q_zb (fun q2 => ?_) (fun q2 => dx_ci1 _ _ (fun po hp => s_MC_mayGuard ok T hp) (q_zc (fun q3 => ?_) (fun q3 => ?_)))))
  · rw [q_if_f (fun z => q z.1)] at hp; exact hp σ H
  · rw [q_if_f (fun z => q2 z.2.1)] at hp; exact hp σ H
  · rw [q_if_t ⟨q, q2, q3⟩] at hp
    obtain ⟨f1, f2⟩ := i_ix (x := t) (by omega)
    generalize t.toNatClampNeg = tn at f1 f2 hp
    subst f1
    have ow : 0 ≤ o.toInt ∧ o.toInt ≤ 3 ∧ 0 ≤ w.toInt ∧ w.toInt ≤ 3 := by
      rcases q3 with z | ⟨z1, z2, -⟩
      · omega
      · have z5 : o.toInt = 3 := by rw [z1]; exact i_3
        have z6 : w.toInt = 0 := by rw [z2]; exact i_0
        omega
    obtain ⟨g1, g2⟩ := i_ix (x := o) (by omega)
    obtain ⟨g3, g4⟩ := i_ix (x := w) (by omega)
    have hg : (((w.toNatClampNeg, o.toNatClampNeg, v) : Nat × Nat × Int32).2.1 ≤ 2 ∧ ((w.toNatClampNeg, o.toNatClampNeg, v) : Nat × Nat × Int32).1 ≤ 3) ∨ (((w.toNatClampNeg, o.toNatClampNeg, v) : Nat × Nat × Int32).2.1 = 3 ∧ ∃ u, q_st c u ∧ ((w.toNatClampNeg, o.toNatClampNeg, v) : Nat × Nat × Int32).2.2 = nI u) := by
      rcases q3 with z | ⟨z1, z2, s, z3, z4⟩
      · refine Or.inl ⟨?_, ?_⟩
        · show o.toNatClampNeg ≤ 2; omega
        · show w.toNatClampNeg ≤ 3; omega
      · refine Or.inr ⟨?_, s, z4, z3⟩
        have z5 : o.toInt = 3 := by rw [z1]; exact i_3
        show o.toNatClampNeg = 3
        omega
    generalize o.toNatClampNeg = on at g1 g2 hp hg
    generalize w.toNatClampNeg = wn at g3 g4 hp hg
    subst g1; subst g3
    have in1 : vp_in (nI tn) 20 := i_in (by omega) (by omega)
    refine dx_cuR (fun σ1 => σ1 = dx_u (dx_u (dx_u σ 21 tn (nI on)) 22 tn (nI wn)) 23 tn v) (fun po hpo => r_TT_putGuard ?_) ?_
    · rw [i_cl (n := tn) (by omega)]
      exact ⟨in1, in1, in1, hpo _ rfl⟩
    · rintro σ1 rfl
      refine hp _ ⟨ok_setG ok hg, T, ⟨T2.1, fun i hi => ?_⟩, H.2.2.2.1, H.2.2.2.2.1, H.2.2.2.2.2.1, fun z => absurd q z⟩
      obtain ⟨a1, a2, a3, a4, a5, a6⟩ := T2.2 i hi
      refine ⟨a1, a2, a3, fun h0 => ?_, fun hg => ?_, fun w' o' v' hg => ?_⟩
      · show σ 20 i = nI (q_domain (q_setG c tn (wn, on, v)) (q_tg c i) 16 (q_par c (q_src c i)))
        rw [q_domain_cong (c' := q_setG c tn (wn, on, v)) (c := c) rfl]
        exact a4 h0
      · have hg : (if i = tn then some (wn, on, v) else q_gd c i) = none := hg
        by_cases ei : i = tn
        · rw [if_pos ei] at hg; cases hg
        · rw [if_neg ei] at hg
          show dx_u _ 21 _ _ 21 _ = _
          rw [dx_uk ei]; exact a5 hg
      · have hg : (if i = tn then some (wn, on, v) else q_gd c i) = some (w', o', v') := hg
        by_cases ei : i = tn
        · rw [if_pos ei] at hg; cases hg
          subst ei
          exact ⟨by rw [dx_un (by decide), dx_un (by decide), dx_us], by rw [dx_un (by decide), dx_us], dx_us⟩
        · rw [if_neg ei] at hg
          obtain ⟨y1, y2, y3⟩ := a6 w' o' v' hg
          exact ⟨by rw [dx_un (by decide), dx_un (by decide), dx_uk ei]; exact y1, by rw [dx_un (by decide), dx_uk ei, dx_un (by decide)]; exact y2, by rw [dx_uk ei, dx_un (by decide), dx_un (by decide)]; exact y3⟩
  · rw [q_if_f (fun z => q3 z.2.2)] at hp; exact hp σ H
theorem s_MC_action {w o a b : Int32} (H : xx c r σ) (hp : ∀ σ', xx (cl_action c r w o a b).2.1 (cl_action c r w o a b).2.2 σ' → po (some (cl_action c r w o a b).1) σ') : m_MC_action E (d + 3) w o a b σ po := by
  have ok := H.1
  have h32 := ok.2.2.1
  have T := H.2.1
  have T3 := H.2.2.2.1
  unfold cl_action at hp
  refine r_MC_action (dx_ci1 _ _ (fun po hp => s_MC_isBuilding hp) ?_)
  rw [q_z_eq (xx_0 H)]
  refine q_zb (fun q => ?_) (fun q => dx_ci1 _ _ (fun po hp => s_MC_mayOwn ok T H.2.2.1 hp) (q_zb (fun q2 => ?_) (fun q2 => dx_ci1 _ _ (fun po hp => s_MC_mayDo hp) (q_zb (fun q3 => ?_) (fun q3 => ?_)))))
  · rw [q_if_f (fun z => q z.1)] at hp; exact hp σ H
  · rw [q_if_f (fun z => q2 z.2.1)] at hp; exact hp σ H
  · rw [q_if_f (fun z => q3 z.2.2.1)] at hp; exact hp σ H
  · have e32 : σ 3 4 = 32 ↔ q_na c = 32 := by rw [T3.1, i_eq, i_n (by omega), i_32]; omega
    rw [e32]
    refine ⟨fun q4 => ?_, fun q4 => ?_⟩
    · rw [q_if_t ⟨q, q2, q3, q4⟩] at hp
      have ho : 0 ≤ o.toInt ∧ o.toInt ≤ 3 := by unfold q_mayD at q3; omega
      obtain ⟨g1, g2⟩ := i_ix (x := o) (by omega)
      have ha : o.toNatClampNeg ≤ 1 → ∃ v, v ≤ 3 ∧ a = nI v := by
        intro z
        have ha : 0 ≤ a.toInt ∧ a.toInt ≤ 3 := by unfold q_mayD at q3; omega
        obtain ⟨g3, g4⟩ := i_ix (x := a) (by omega)
        exact ⟨_, by omega, g3⟩
      generalize o.toNatClampNeg = on at g1 g2 hp ha
      subst g1
      have in1 : vp_in (nI (q_na c)) 32 := i_in (by omega) (by omega)
      refine dx_cuR (fun σ1 => σ1 = dx_u (dx_u (dx_u (dx_u (dx_u σ 24 (q_na c) w) 25 (q_na c) (nI on)) 26 (q_na c) a) 27 (q_na c) b) 3 4 (nI (q_na c + 1))) (fun po hpo => r_AT_add ?_) ?_
      · rw [T3.1, i_cl (n := q_na c) (by omega), i_inc]
        exact ⟨in1, in1, in1, in1, hpo _ rfl⟩
      · rintro σ1 rfl
        refine hp _ ⟨ok_addA ok (by omega) (by omega) ha, T, ⟨H.2.2.1.1, fun t ht => ?_⟩, ⟨rfl, fun i hi => ?_⟩, H.2.2.2.2.1, H.2.2.2.2.2.1, fun z => absurd q z⟩
        · obtain ⟨a1, a2, a3, a4, a5, a6⟩ := H.2.2.1.2 t ht
          refine ⟨a1, a2, a3, fun h0 => ?_, a5, a6⟩
          show σ 20 t = nI (q_domain (q_addA c w on a b) (q_tg c t) 16 (q_par c (q_src c t)))
          rw [q_domain_cong (c' := q_addA c w on a b) (c := c) rfl]
          exact a4 h0
        · have hi : i < q_na c + 1 := hi
          show dx_u _ 24 _ _ 24 i = (if i = q_na c then w else q_ow c i) ∧ dx_u _ 25 _ _ 25 i = nI (if i = q_na c then on else q_op c i) ∧ dx_u _ 26 _ _ 26 i = (if i = q_na c then a else q_a c i) ∧ dx_u _ 27 _ _ 27 i = (if i = q_na c then b else q_b c i)
          by_cases ei : i = q_na c
          · subst ei
            rw [if_pos rfl, if_pos rfl, if_pos rfl, if_pos rfl, dx_us, dx_us, dx_us, dx_us]
            exact ⟨rfl, rfl, rfl, rfl⟩
          · rw [if_neg ei, if_neg ei, if_neg ei, if_neg ei, dx_uk ei, dx_uk ei, dx_uk ei, dx_uk ei]
            exact T3.2 i (by omega)
    · rw [q_if_f (fun z => z.2.2.2 q4)] at hp; exact hp σ H
theorem s_MC_begin (H : xx c r σ) (hp : ∀ σ', xx (cl_begin c r).2.1 (cl_begin c r).2.2 σ' → po (some (cl_begin c r).1) σ') : m_MC_begin E (d + 7) σ po := by
  have ok := H.1
  unfold cl_begin at hp
  refine r_MC_begin (dx_ci1 _ _ (fun po hp => s_MC_isBuilding hp) ?_)
  rw [q_z_eq (xx_0 H)]
  refine q_zc (fun q => dx_ci1 _ _ (fun po hp => s_ST_isWhole ok H.2.1 hp) (q_zc (fun q2 => ?_) (fun q2 => ?_))) (fun q => ?_)
  · rw [if_neg (fun z => z q), q_if_t q2] at hp
    have hN : ∀ x, q_full c (fun u => u = q_ini c 0) x → q_st c x := q_full_st (fun x e => by rw [e]; exact (q_ini_ch ok q2.1).1)
    have V1 : q_inv c (q_enter c (q_full c (fun u => u = q_ini c 0)) q_r0) := v_enter hN (v_r0 q2)
    refine dx_cuR (fun σ1 => x_run (q_enter c (q_full c (fun u => u = q_ini c 0)) q_r0) σ1 ∧ x_fr x_Z σ σ1) (fun po hpo => s_RU_open ok q2 H.2.1 H.2.2.1 H.2.2.2.1 (fun σ' z1 z2 => hpo σ' ⟨z1, z2⟩)) ?_
    rintro σ1 ⟨a1, a2⟩
    have X1 : x_all c _ σ1 := ⟨x_tree_fr H.2.1 a2 (by decide), x_tr_fr H.2.2.1 a2 (by decide), x_ac_fr H.2.2.2.1 a2 (by decide), a1⟩
    refine dx_cuR (fun σ2 => x_run (q_begin c) σ2 ∧ x_fr x_Z σ1 σ2) (fun po hpo => s_RU_macrostep ok X1 V1 (fun σ' z1 z2 => hpo σ' ⟨z1, z2⟩)) ?_
    rintro σ2 ⟨b1, b2⟩
    rw [b1.2.1]
    exact hp σ2 (xx_run H (x_fr_tr a2 b2 (fun _ z => z)) b1 (v_macro ok 31 _ V1))
  · rw [if_neg (fun z => z q), q_if_f q2] at hp
    exact hp σ H
  · rw [if_pos q] at hp
    exact hp σ H
theorem s_MC_step (H : xx c r σ) (hp : ∀ σ', xx (cl_step c r).2.1 (cl_step c r).2.2 σ' → po (some (cl_step c r).1) σ') : m_MC_step E (d + 7) σ po := by
  have ok := H.1
  unfold cl_step at hp
  refine r_MC_step (dx_ci1 _ _ (fun po hp => s_RU_isGoingOn hp) ?_)
  rw [q_z_eq (xx_1 H)]
  refine q_zc (fun q => ?_) (fun q => ?_)
  · rw [if_neg (fun z => z q)] at hp
    obtain ⟨V, xr⟩ := H.2.2.2.2.2.2 (by omega)
    have X := xx_all H (by omega)
    have h16 := V.1.2.2.1
    have e0 : σ 8 1 = 0 ↔ (q_ex r).length = 0 := by rw [xr.2.2.2.2.2.2.2.2.1.1, i_eq, i_n (by omega), i_0]; omega
    rw [e0]
    refine ⟨fun q2 => ?_, fun q2 => ?_⟩
    · cases hex : q_ex r with
      | nil => rw [hex] at q2; exact absurd rfl q2
      | cons e l =>
        rw [hex] at hp
        simp only at hp
        rw [hex, List.length_cons] at h16
        refine dx_cuR (fun σ1 => x_run (if q_select c (q_sMi (q_sRc (q_sEx r l) []) 0) e = [] then q_sMi (q_sRc (q_sEx r l) []) 0 else q_micro c (q_select c (q_sMi (q_sRc (q_sEx r l) []) 0) e) (q_sMi (q_sRc (q_sEx r l) []) 0)) σ1 ∧ x_fr x_Z σ σ1) (fun po hpo => s_RU_takeExternalEvent ok X V q hex (fun σ' z1 z2 => hpo σ' ⟨z1, z2⟩)) ?_
        rintro σ1 ⟨a1, a2⟩
        have V1 : q_inv c (q_sMi (q_sRc (q_sEx r l) []) 0) := ⟨⟨V.1.1, V.1.2.1, (by show l.length ≤ 16; omega), Nat.zero_le _, V.1.2.2.2.2.1, Nat.zero_le _, V.1.2.2.2.2.2.2⟩, V.2⟩
        have V2 : q_inv c (if q_select c (q_sMi (q_sRc (q_sEx r l) []) 0) e = [] then q_sMi (q_sRc (q_sEx r l) []) 0 else q_micro c (q_select c (q_sMi (q_sRc (q_sEx r l) []) 0) e) (q_sMi (q_sRc (q_sEx r l) []) 0)) := by
          split
          · exact V1
          · exact v_micro ok V1 (q_set_ok (r := q_sMi (q_sRc (q_sEx r l) []) 0) ok (Or.inr ⟨e, rfl⟩)).1
        have X1 := x_all_z X a2 a1
        refine dx_cuR (fun σ2 => x_run (q_step c e l r) σ2 ∧ x_fr x_Z σ1 σ2) (fun po hpo => s_RU_macrostep ok X1 V2 (fun σ' z1 z2 => hpo σ' ⟨z1, z2⟩)) ?_
        rintro σ2 ⟨b1, b2⟩
        rw [b1.2.1]
        exact hp σ2 (xx_run H (x_fr_tr a2 b2 (fun _ z => z)) b1 (v_macro ok 31 _ V2))
    · have hex : q_ex r = [] := List.eq_nil_of_length_eq_zero q2
      rw [hex] at hp
      exact hp σ H
  · rw [if_pos q] at hp
    exact hp σ H
theorem s_MC_tick {n : Int32} (H : xx c r σ) (hp : ∀ σ', xx (cl_tick c r n).2.1 (cl_tick c r n).2.2 σ' → po (some (cl_tick c r n).1) σ') : m_MC_tick E (d + 2) n σ po := by
  unfold cl_tick at hp
  refine r_MC_tick (dx_ci1 _ _ (fun po hp => s_RU_isGoingOn hp) ?_)
  rw [q_z_eq (xx_1 H)]
  simp only [i_lt, i_le, i_1, i_50]
  refine q_zb (fun q => ?_) (fun q => ⟨fun q2 => ?_, fun q2 => ⟨fun q3 => ?_, fun q3 => ?_⟩⟩)
  · rw [q_if_f (fun z => q z.1)] at hp; exact hp σ H
  · rw [q_if_f (fun z => by omega)] at hp; exact hp σ H
  · rw [q_if_t ⟨q, by omega, q3⟩] at hp
    obtain ⟨V, xr⟩ := H.2.2.2.2.2.2 (by omega)
    refine dx_cuR (fun σ1 => x_run (q_tick n r) σ1 ∧ x_fr x_W σ σ1) (fun po hpo => s_RU_advanceClock xr V.1 (fun σ' z1 z2 => hpo σ' ⟨z1, z2⟩)) ?_
    rintro σ1 ⟨a1, a2⟩
    rw [a1.1]
    exact hp σ1 (xx_run H (x_fr_w a2 x_ZW) a1 (v_tick V))
  · rw [q_if_f (fun z => q3 z.2.2)] at hp; exact hp σ H
theorem s_MC_post {e : Int32} (H : xx c r σ) (hp : ∀ σ', xx (cl_post c r e).2.1 (cl_post c r e).2.2 σ' → po (some (cl_post c r e).1) σ') : m_MC_post E (d + 1) e σ po := by
  unfold cl_post at hp
  refine r_MC_post (dx_ci1 _ _ (fun po hp => s_RU_isGoingOn hp) ?_)
  rw [q_z_eq (xx_1 H)]
  refine q_zb (fun q => ?_) (fun q => dx_ci1 _ _ (fun po hp => s_MC_isEvent hp) (q_zb (fun q2 => ?_) (fun q2 => ?_)))
  · rw [q_if_f (fun z => q z.1)] at hp; exact hp σ H
  · rw [q_if_f (fun z => q2 z.2.1)] at hp; exact hp σ H
  · obtain ⟨V, xr⟩ := H.2.2.2.2.2.2 (by omega)
    refine dx_ciR (fun v σ1 => ((q_ex r).length = 16 ∧ v = 0 ∧ σ1 = σ) ∨ ((q_ex r).length < 16 ∧ v = 1 ∧ x_line (q_ex r ++ [e]) (σ1 8 1) (σ1 33) ∧ x_fr [8, 33] σ σ1)) (fun po hpo => s_LN_put_8 xr.2.2.2.2.2.2.2.2.1 V.1.2.2.1 (fun q => hpo 0 σ (Or.inl ⟨q, rfl, rfl⟩)) (fun q σ' q1 q2 => hpo 1 σ' (Or.inr ⟨q, rfl, q1, q2⟩))) ?_
    rintro v σ1 (⟨q1, rfl, rfl⟩ | ⟨q1, rfl, z2, z3⟩)
    · rw [q_if_f (fun z => by omega)] at hp
      exact ⟨fun _ => hp _ H, fun z => absurd rfl z⟩
    · rw [q_if_t ⟨q, q2, q1⟩] at hp
      refine ⟨fun z => absurd z (by decide), fun _ => hp σ1 (xx_run H (x_fr_w z3 (by decide)) (x_run_l8 xr z3 z2) ⟨⟨V.1.1, V.1.2.1, ?_, V.1.2.2.2⟩, V.2⟩)⟩
      show (q_ex r ++ [e]).length ≤ 16
      rw [List.length_append, List.length_singleton]; omega
theorem s_MC_reset (H : xx c r σ) (hp : ∀ σ', xx (cl_reset c r).2.1 (cl_reset c r).2.2 σ' → po none σ') : m_MC_reset E d σ po :=
  r_MC_reset (hp _ ⟨H.1, H.2.1, H.2.2.1, H.2.2.2.1, rfl, Nat.zero_le _, fun z => absurd rfl z⟩)
theorem s_MC_outcome (H : xx c r σ) (hp : ∀ σ', xx (cl_outcome c r).2.1 (cl_outcome c r).2.2 σ' → po (some (cl_outcome c r).1) σ') : m_MC_outcome E d σ po := by
  refine r_MC_outcome ?_
  rw [H.2.2.2.2.1]
  exact hp σ H
theorem s_MC_active (H : xx c r σ) (hp : ∀ σ', xx (cl_active c r).2.1 (cl_active c r).2.2 σ' → po (some (cl_active c r).1) σ') : m_MC_active E (d + 1) σ po := by
  have h15 := H.1.1
  unfold cl_active at hp
  refine r_MC_active (dx_ci1 _ _ (fun po hp => s_MC_isBuilding hp) ?_)
  rw [q_z_eq (xx_0 H)]
  refine q_zb (fun q => ?_) (fun q => ?_)
  · rw [if_neg q] at hp
    obtain ⟨V, xr⟩ := H.2.2.2.2.2.2 q
    have e : σ 5 1 = q_mask (q_on r) 15 := b_ext (fun i _ => by
      have e1 := xr.2.2.2.2.2.2.1 i
      have e2 := q_mask_bt (P := q_on r) 15 i (by omega)
      have e3 : bt (σ 5 1) i = true ↔ bt (q_mask (q_on r) 15) i = true := by
        rw [e1, e2]
        constructor
        · intro z; have := V.1.1 i z; exact ⟨this.1, by have := this.2.1; omega, z⟩
        · intro z; exact z.2.2
      cases h9 : bt (σ 5 1) i <;> cases h8 : bt (q_mask (q_on r) 15) i <;> simp_all)
    rw [e]
    exact hp σ H
  · rw [if_pos q] at hp
    exact hp σ H
theorem s_MC_remembered {h : Int32} (H : xx c r σ) (hp : ∀ σ', xx (cl_remembered c r h).2.1 (cl_remembered c r h).2.2 σ' → po (some (cl_remembered c r h).1) σ') : m_MC_remembered E (d + 1) h σ po := by
  have h15 := H.1.1
  unfold cl_remembered at hp
  refine r_MC_remembered (dx_ci1 _ _ (fun po hp => s_MC_isBuilding hp) ?_)
  rw [q_z_eq (xx_0 H)]
  refine q_zc (fun q => ?_) (fun q => dx_ci1 _ _ (fun po hp => s_ST_isMade H.1 H.2.1 hp) (q_zc (fun q2 => ?_) (fun q2 => ?_)))
  · rw [if_neg (fun z => z.1 q)] at hp; exact hp σ H
  · rw [if_pos ⟨q, q2⟩] at hp
    obtain ⟨V, xr⟩ := H.2.2.2.2.2.2 q
    obtain ⟨f1, f2⟩ := i_ix (x := h) (by omega)
    rw [xr.2.2.2.2.1 _ (by omega)]
    exact ⟨i_in2 (by omega) (by omega), hp σ H⟩
  · rw [if_neg (fun z => q2 z.2)] at hp; exact hp σ H
theorem s_MC_variable {v : Int32} (H : xx c r σ) (hp : ∀ σ', xx (cl_variable c r v).2.1 (cl_variable c r v).2.2 σ' → po (some (cl_variable c r v).1) σ') : m_MC_variable E (d + 1) v σ po := by
  unfold cl_variable at hp
  refine r_MC_variable (dx_ci1 _ _ (fun po hp => s_MC_isBuilding hp) ?_)
  rw [q_z_eq (xx_0 H)]
  refine q_zc (fun q => ?_) (fun q => dx_ci1 _ _ (fun po hp => s_MC_isVariable hp) (q_zc (fun q2 => ?_) (fun q2 => ?_)))
  · rw [if_neg (fun z => z.1 q)] at hp; exact r_MC_variable_14 (hp σ H)
  · rw [if_pos ⟨q, q2⟩] at hp
    obtain ⟨V, xr⟩ := H.2.2.2.2.2.2 q
    obtain ⟨f1, f2⟩ := i_ix (x := v) (by omega)
    rw [xr.2.2.2.2.2.1 _ (by omega)]
    exact ⟨i_in2 (by omega) (by omega), hp σ H⟩
  · rw [if_neg (fun z => q2 z.2)] at hp; exact r_MC_variable_14 (hp σ H)
theorem s_MC_listed {i : Int32} (H : xx c r σ) (hp : ∀ σ', xx (cl_listed c r i).2.1 (cl_listed c r i).2.2 σ' → po (some (cl_listed c r i).1) σ') : m_MC_listed E (d + 1) i σ po := by
  unfold cl_listed at hp
  refine r_MC_listed (dx_ci1 _ _ (fun po hp => s_MC_isBuilding hp) ?_)
  rw [q_z_eq (xx_0 H)]
  refine q_zb (fun q => dx_ci1 _ σ (fun po hpo => ?_) (hp σ H)) (fun q => ?_)
  · obtain ⟨V, xr⟩ := H.2.2.2.2.2.2 q
    have h200 := V.1.2.2.2.1
    have xl := xr.2.2.2.2.2.2.2.2.2.1
    refine r_LN_at_9 ?_
    rw [xl.1]
    simp only [i_lt, i_le, i_0, i_n (show (q_rc r).length ≤ 100000 by omega)]
    refine ⟨fun z => ?_, fun z => ⟨fun z2 => ?_, fun z2 => ⟨i_in2 (by omega) (by omega), ?_⟩⟩⟩
    · rw [if_neg (by omega)] at hpo; exact hpo
    · rw [if_neg (by omega)] at hpo; exact hpo
    · rw [if_pos ⟨q, by omega, by omega⟩] at hpo
      obtain ⟨f1, f2⟩ := i_ix (x := i) (by omega)
      have hl : i.toNatClampNeg < (q_rc r).length := by omega
      rw [xl.2 i.toNatClampNeg _ (List.getElem?_eq_getElem hl)]
      rw [List.getD_eq_getElem?_getD, List.getElem?_eq_getElem hl] at hpo
      exact hpo
  · rw [if_neg (fun z => z.1 q)] at hp; exact hp σ H
theorem s_MC_waiting {w : Int32} (H : xx c r σ) (hp : ∀ σ', xx (cl_waiting c r w).2.1 (cl_waiting c r w).2.2 σ' → po (some (cl_waiting c r w).1) σ') : m_MC_waiting E (d + 1) w σ po := by
  have hp := hp σ H
  have e0 : w = 0 ↔ w.toInt = 0 := by rw [i_eq, i_0]
  have e2 : w = 2 ↔ w.toInt = 2 := by rw [i_eq, i_2]
  unfold cl_waiting at hp
  refine r_MC_waiting ?_
  simp only [i_lt, i_le, i_0, i_2, e0, e2]
  refine ⟨fun z => ?_, fun z => ⟨fun z2 => dx_ci1 _ _ (fun po hp => s_MC_isBuilding hp) ?_, fun z2 => ?_⟩⟩
  · rw [if_pos (by omega)] at hp; exact hp
  · rw [if_neg (by omega)] at hp
    rw [q_z_eq (xx_0 H)]
    refine q_zb (fun q => ?_) (fun q => ?_)
    · rw [if_neg q] at hp
      obtain ⟨V, xr⟩ := H.2.2.2.2.2.2 q
      rw [xr.2.2.2.2.2.2.2.1.1, xr.2.2.2.2.2.2.2.2.1.1, xr.2.2.2.2.2.2.2.2.2.2.1]
      refine ⟨fun y => ⟨fun y2 => ?_, fun y2 => ?_⟩, fun y => ?_⟩
      · rw [if_neg y2, if_pos (by omega)] at hp; exact hp
      · rw [if_pos y2] at hp; exact hp
      · rw [if_neg (by omega), if_neg (by omega)] at hp; exact hp
    · rw [if_pos q] at hp; exact hp
  · rw [if_pos (by omega)] at hp; exact hp
end XCL
