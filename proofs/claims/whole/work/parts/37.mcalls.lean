/-! The reference's part in each call. -/
def mm (c : q_C) (r : q_R) (σ : dx_V) : Prop := q_ok c ∧ y_tree c σ ∧ y_tr c σ ∧ y_ac c σ ∧ σ 0 17 = nI (q_out r) ∧ q_out r ≤ 4 ∧ (q_out r ≠ 0 → q_inv c r ∧ y_run r σ)
theorem mm_run {c : q_C} {r r' : q_R} {σ σ' : dx_V} (H : mm c r σ) (f : y_fr y_Z y_T σ σ') (h : y_run r' σ') (V : q_inv c r') : mm c r' σ' :=
  ⟨H.1, y_tree_fr H.2.1 f (by decide) (by decide), y_tr_fr H.2.2.1 f (by decide) (by decide), y_ac_fr H.2.2.2.1 f (by decide) (by decide), h.2.2.1, V.1.2.2.2.2.2.2, fun _ => ⟨V, h⟩⟩
theorem mm_0 {c : q_C} {r : q_R} {σ : dx_V} (H : mm c r σ) : σ 0 17 = 0 ↔ q_out r = 0 := by
  have := H.2.2.2.2.2.1
  rw [H.2.2.2.2.1, i_eq, i_n (by omega), i_0]; omega
theorem mm_1 {c : q_C} {r : q_R} {σ : dx_V} (H : mm c r σ) : σ 0 17 = 1 ↔ q_out r = 1 := by
  have := H.2.2.2.2.2.1
  rw [H.2.2.2.2.1, i_eq, i_n (by omega), i_1]; omega
theorem mm_all {c : q_C} {r : q_R} {σ : dx_V} (H : mm c r σ) (h : q_out r ≠ 0) : y_all c r σ := ⟨H.2.1, H.2.2.1, H.2.2.2.1, (H.2.2.2.2.2.2 h).2⟩
theorem i_115 : (115 : Int32).toInt = 115 := by decide
theorem i_300 : (300 : Int32).toInt = 300 := by decide
section MCL
variable {E : dx_E} {d : Nat} {po : dx_P} {c : q_C} {r : q_R} {σ : dx_V}
theorem t_state {a k : Int32} (H : mm c r σ) (hp : ∀ σ', mm (cl_state c r a k).2.1 (cl_state c r a k).2.2 σ' → po (some (cl_state c r a k).1) σ') : m_MM_state E d a k σ po := by
  have ok := H.1
  have h15 := ok.1
  have T := H.2.1
  unfold cl_state at hp
  have no : ∀ w : Int32, w = 0 → ¬ q_mayS c a k → g_MM_state_37 E d po a k w σ := by
    intro w hw hn
    rw [q_if_f (fun z => hn z.2)] at hp
    exact r_MM_state_37 ⟨fun _ => hp σ H, fun _ => ⟨fun _ => hp σ H, fun z => absurd hw z⟩⟩
  refine r_MM_state ?_
  rw [T.1]
  simp only [i_lt, i_0, i_1, i_2, i_5, i_n (show q_n c ≤ 100000 by omega)]
  refine ⟨fun q => no 0 rfl ?_, fun q => ⟨fun q2 => no 0 rfl ?_, fun q2 => ?_⟩⟩
  · rintro ⟨s, rfl, z⟩; rw [i_n (by omega)] at q; omega
  · rintro ⟨s, rfl, z⟩; rw [i_n (by omega)] at q2; omega
  · obtain ⟨e1, e2⟩ := i_ix (x := a) (by omega)
    generalize a.toNatClampNeg = s at e1 e2 hp
    subst e1
    have hs : s ≤ q_n c := by omega
    have hk : 1 ≤ q_kd c s ∧ q_kd c s ≤ 5 := by
      by_cases h0 : s = 0
      · subst h0; rw [ok.2.2.2.1]; omega
      · exact ⟨(ok.2.2.2.2.1 s (by omega) hs).2.1, (ok.2.2.2.2.1 s (by omega) hs).2.2.1⟩
    have hP : q_mayS c (nI s) k ↔ 1 ≤ k.toInt ∧ k.toInt ≤ 5 ∧ ((q_kd c s = 2 ∧ k.toInt ≠ 3) ∨ (q_kd c s = 1 ∧ (s ≠ 0 ∨ k.toInt ≤ 3))) := by
      constructor
      · rintro ⟨s', e, q⟩
        have : s = s' := i_nj e (by omega) (by omega)
        subst this
        exact q.2
      · intro q
        exact ⟨s, rfl, hs, q⟩
    rw [hP] at no hp
    rw [T.2.2.1 s hs, i_n (show q_kd c s ≤ 100000 by omega)]
    refine ⟨i_in (by omega) (by omega), fun q3 => no 0 rfl (by omega), fun q3 => ⟨fun q4 => no 0 rfl (by omega), fun q4 => ⟨fun q5 => no 0 rfl (by omega), fun q5 => ?_⟩⟩⟩
    have bad : ¬ (q_out r = 0 ∧ 1 ≤ k.toInt ∧ k.toInt ≤ 5 ∧ ((q_kd c s = 2 ∧ k.toInt ≠ 3) ∨ (q_kd c s = 1 ∧ (s ≠ 0 ∨ k.toInt ≤ 3)))) → po (some (-1)) σ := fun z => by
      rw [q_if_f z] at hp; exact hp σ H
    have g75 : (q_out r = 0 ∧ 1 ≤ k.toInt ∧ k.toInt ≤ 5 ∧ ((q_kd c s = 2 ∧ k.toInt ≠ 3) ∨ (q_kd c s = 1 ∧ (s ≠ 0 ∨ k.toInt ≤ 3)))) → g_MM_state_75 E d po (nI s) k σ := by
      intro z
      rw [q_if_t z] at hp
      refine r_MM_state_75 ?_
      have e15 : nI (q_n c) = 15 ↔ q_n c = 15 := by rw [i_eq, i_n (by omega), i_15]; omega
      rw [T.1, e15, i_inc, i_cl (n := q_n c + 1) (by omega)]
      refine ⟨fun q6 => ⟨i_in (by omega) (by omega), i_in (by omega) (by omega), ?_⟩, fun q6 => by rw [if_pos q6] at hp; exact hp σ H⟩
      rw [if_neg q6] at hp
      obtain ⟨f1, f2⟩ := i_ix (x := k) (by omega)
      generalize k.toNatClampNeg = kk at f1 f2 hp
      subst f1
      have hA : q_mayA c s kk := ⟨hs, by omega, by omega, by omega, by omega, by omega, fun y => by subst y; have := ok.2.2.2.1; omega⟩
      refine hp _ ⟨as_ok ok hA, ⟨rfl, fun x x1 x2 => ?_, fun x x2 => ?_, fun x x2 => T.2.2.2 x x2⟩, ?_, H.2.2.2.1, H.2.2.2.2.1, H.2.2.2.2.2.1, fun y => absurd z.1 y⟩
      · show dx_u _ 2 _ _ 1 x = _
        rw [dx_un (by decide)]
        show _ = nI (q_par (q_addS c s kk) x)
        rw [as_par]
        by_cases e : x = q_n c + 1
        · rw [if_pos e, e, dx_us]
        · rw [if_neg e, dx_uk e, dx_un (by decide)]
          have x2 : x ≤ q_n c + 1 := x2
          exact T.2.1 x x1 (by omega)
      · show dx_u _ 2 _ _ 2 x = nI (q_kd (q_addS c s kk) x)
        rw [as_kd]
        by_cases e : x = q_n c + 1
        · rw [if_pos e, e, dx_us]
        · rw [if_neg e, dx_uk e, dx_un (by decide), dx_un (by decide)]
          have x2 : x ≤ q_n c + 1 := x2
          exact T.2.2.1 x (by omega)
      · exact H.2.2.1
    have g64 : (q_out r = 0) → (q_kd c s = 2 → k.toInt ≠ 3) → g_MM_state_64 E d po (nI s) k σ := by
      intro z1 z2
      refine r_MM_state_64 ?_
      have e0 : nI s = 0 ↔ s = 0 := by rw [i_eq, i_n (by omega), i_0]; omega
      rw [e0, i_lt, i_4]
      exact ⟨fun y => g75 (by omega), fun y => ⟨fun y2 => g75 (by omega), fun y2 => bad (fun w => by subst y; have := ok.2.2.2.1; omega)⟩⟩
    refine r_MM_state_37 ?_
    have e2' : nI (q_kd c s) = 2 ↔ q_kd c s = 2 := by rw [i_eq, i_n (by omega), i_2]; omega
    have e3' : k = 3 ↔ k.toInt = 3 := by rw [i_eq, i_3]
    rw [mm_0 H, i_cl (n := s) (by omega), T.2.2.1 s hs, e2', e3']
    exact ⟨fun y => bad (fun w => y w.1), fun y => ⟨fun y2 => absurd y2 (by decide), fun _ => ⟨i_in (by omega) (by omega), fun y2 => g64 y (fun y3 => absurd y3 y2), fun y2 => ⟨fun y3 => bad (fun w => by omega), fun y3 => g64 y (fun _ => y3)⟩⟩⟩⟩
theorem t_initial {a : Int32} (H : mm c r σ) (hp : ∀ σ', mm (cl_initial c r a).2.1 (cl_initial c r a).2.2 σ' → po (some (cl_initial c r a).1) σ') : m_MM_initial E (d + 1) a σ po := by
  have ok := H.1
  have h15 := ok.1
  have T := H.2.1
  unfold cl_initial at hp
  refine r_MM_initial ?_
  rw [mm_0 H]
  refine ⟨fun q => ?_, fun q => dx_ci1 _ _ (fun po hp => t_is ok T hp) (q_zb (fun q2 => ?_) (fun q2 => ?_))⟩
  · rw [q_if_f (fun z => q z.1)] at hp; exact hp σ H
  · rw [q_if_f (fun z => q2 (by obtain ⟨-, s, z1, z2, -⟩ := z; exact ⟨s, z1, z2⟩))] at hp; exact hp σ H
  · obtain ⟨s, rfl, hs⟩ := q2
    have hsn := hs.2.1
    have hk := ok.2.2.2.2.1 s hs.1 hs.2.1
    have in1 : vp_in (nI s) 16 := i_in (by omega) (by omega)
    rw [i_cl (n := s) (by omega)] at hp
    rw [i_cl (n := s) (by omega), T.2.1 s hs.1 hsn, i_cl (n := q_par c s) (by omega), T.2.2.1 (q_par c s) (by omega)]
    have in2 : vp_in (nI (q_par c s)) 16 := i_in (by omega) (by omega)
    have e1 : nI (q_kd c (q_par c s)) = 1 ↔ q_kd c (q_par c s) = 1 := by rw [i_eq, i_n (by omega), i_1]; omega
    rw [e1]
    refine ⟨in1, in2, fun q3 => ⟨in1, in2, ?_⟩, fun q3 => ?_⟩
    · rw [q_if_t ⟨q, s, rfl, hs, q3⟩] at hp
      have hch : q_ch c (q_par c s) s := ⟨hs, rfl⟩
      refine hp _ ⟨ok_setI ok hch, ⟨T.1, T.2.1, T.2.2.1, fun u hu => ?_⟩, H.2.2.1, H.2.2.2.1, H.2.2.2.2.1, H.2.2.2.2.2.1, fun z => absurd q z⟩
      show dx_u _ 3 _ _ 3 u = nI (if u = q_par c s then s else q_nam c u)
      by_cases e : u = q_par c s
      · rw [if_pos e, e, dx_us]
      · rw [if_neg e, dx_uk e]; exact T.2.2.2 u hu
    · rw [q_if_f (fun z => by
        obtain ⟨-, s', z1, z2, z3⟩ := z
        have := z2.2.1
        have e : s = s' := i_nj z1 (by omega) (by omega)
        subst e
        exact q3 z3)] at hp
      exact hp σ H
theorem t_transition {a e t : Int32} (H : mm c r σ) (hp : ∀ σ', mm (cl_transition c r a e t).2.1 (cl_transition c r a e t).2.2 σ' → po (some (cl_transition c r a e t).1) σ') : m_MM_transition E (d + 1) a e t σ po := by
  have ok := H.1
  have h15 := ok.1
  have h20 := ok.2.1
  have T := H.2.1
  have T2 := H.2.2.1
  unfold cl_transition at hp
  -- the end, with what was heard and where it goes
  have g63 : ∀ (w1 w2 : Int32), w1 = q_z (q_await c e) → w2 = q_z (t = -1 ∨ (1 ≤ t.toInt ∧ t.toInt ≤ q_n c)) → g_MM_transition_63 E (d + 1) po a e t w1 w2 σ := by
    intro w1 w2 h1 h2
    refine r_MM_transition_63 ?_
    rw [mm_0 H, h1, h2]
    refine ⟨fun q => ?_, fun q => dx_ci1 _ _ (fun po hp => t_is ok T hp) (q_zb (fun q2 => ?_) (fun q2 => ?_))⟩
    · rw [q_if_f (fun z => q z.1)] at hp; exact hp σ H
    · rw [q_if_f (fun z => q2 (by obtain ⟨-, ⟨s, y1, y2, -⟩, -⟩ := z; exact ⟨s, y1, y2⟩))] at hp; exact hp σ H
    · obtain ⟨s, rfl, hs⟩ := q2
      have hsn := hs.2.1
      have hk := ok.2.2.2.2.1 s hs.1 hs.2.1
      rw [i_cl (n := s) (by omega)] at hp
      rw [i_cl (n := s) (by omega), T.2.2.1 s hsn]
      have e3 : nI (q_kd c s) = 3 ↔ q_kd c s = 3 := by rw [i_eq, i_n (by omega), i_3]; omega
      rw [e3]
      refine ⟨i_in (by omega) (by omega), fun q3 => ?_, fun q3 => q_zb (fun q4 => ?_) (fun q4 => q_zc (fun q5 => ?_) (fun q5 => ?_))⟩
      · rw [q_if_f (fun z => by
          obtain ⟨-, ⟨s', y1, y2, y3⟩, -⟩ := z
          have := y2.2.1
          have e : s = s' := i_nj y1 (by omega) (by omega)
          subst e
          exact y3 q3)] at hp
        exact hp σ H
      · rw [q_if_f (fun z => q4 z.2.2.1)] at hp; exact hp σ H
      · rw [q_if_t ⟨q, ⟨s, rfl, hs, q3⟩, q4, q5⟩] at hp
        have e20 : σ 0 4 = 20 ↔ q_nt c = 20 := by rw [T2.1, i_eq, i_n (by omega), i_20]; omega
        rw [e20]
        refine ⟨fun q6 => ?_, fun q6 => by rw [if_pos q6] at hp; exact hp σ H⟩
        rw [if_neg q6] at hp
        have in1 : vp_in (nI (q_nt c)) 20 := i_in (by omega) (by omega)
        rw [T2.1, i_cl (n := q_nt c) (by omega), i_inc, nI_pred]
        obtain ⟨tg, ht1, ht2, ht3⟩ : ∃ tg : Nat, (tg = 0 ∨ (1 ≤ tg ∧ tg ≤ q_n c)) ∧ t.toNatClampNeg = tg ∧ t = (if tg = 0 then -1 else nI tg) := by
          by_cases ht : t = -1
          · subst ht; exact ⟨0, Or.inl rfl, rfl, by rw [if_pos rfl]⟩
          · have q5 := q5.resolve_left ht
            obtain ⟨f1, f2⟩ := i_ix (x := t) (by omega)
            exact ⟨_, Or.inr (by omega), rfl, by rw [if_neg (by omega)]; exact f1⟩
        rw [ht2] at hp
        refine ⟨in1, in1, in1, hp _ ⟨ok_addT ok (by omega) hs q3 ht1, T, ⟨rfl, fun i hi => ?_, fun i hi hi2 => ?_⟩, H.2.2.2.1, H.2.2.2.2.1, H.2.2.2.2.2.1, fun z => absurd q z⟩⟩
        · have hi : i < q_nt c + 1 := hi
          by_cases ei : i = q_nt c
          · subst ei
            refine ⟨?_, ?_, ?_, fun _ => ?_, fun w' o v' hg => ?_⟩
            · show dx_u _ 4 _ _ 4 _ = nI (if q_nt c = q_nt c then s else q_src c (q_nt c)); rw [if_pos rfl, dx_us]
            · show dx_u _ 5 _ _ 5 _ = (if q_nt c = q_nt c then e else q_ev c (q_nt c)); rw [if_pos rfl, dx_us]
            · show dx_u _ 6 _ _ 6 _ = (if (if q_nt c = q_nt c then tg else q_tg c (q_nt c)) = 0 then -1 else nI (if q_nt c = q_nt c then tg else q_tg c (q_nt c))); rw [if_pos rfl, dx_us]; exact ht3
            · show σ 7 (q_nt c) = 0; exact T2.2.2 _ (Nat.le_refl _) (by omega)
            · have hg : (if q_nt c = q_nt c then none else q_gd c (q_nt c)) = some (w', o, v') := hg
              rw [if_pos rfl] at hg
              cases hg
          · obtain ⟨a1, a2, a3, a5, a6⟩ := T2.2.1 i (by omega)
            refine ⟨?_, ?_, ?_, fun hg => ?_, fun w' o v' hg => ?_⟩
            · show dx_u _ 4 _ _ 4 _ = nI (if i = q_nt c then s else q_src c i); rw [if_neg ei, dx_uk ei]; exact a1
            · show dx_u _ 5 _ _ 5 _ = (if i = q_nt c then e else q_ev c i); rw [if_neg ei, dx_uk ei]; exact a2
            · show dx_u _ 6 _ _ 6 _ = (if (if i = q_nt c then tg else q_tg c i) = 0 then -1 else nI (if i = q_nt c then tg else q_tg c i)); rw [if_neg ei, dx_uk ei]; exact a3
            · have hg : (if i = q_nt c then none else q_gd c i) = none := hg
              rw [if_neg ei] at hg
              exact a5 hg
            · have hg : (if i = q_nt c then none else q_gd c i) = some (w', o, v') := hg
              rw [if_neg ei] at hg
              exact a6 w' o v' hg
        · have hi : q_nt c + 1 ≤ i := hi
          exact T2.2.2 i (by omega) hi2
      · rw [q_if_f (fun z => q5 z.2.2.2)] at hp; exact hp σ H
  have g38 : ∀ w1 : Int32, w1 = q_z (q_await c e) → g_MM_transition_38 E (d + 1) po a e t w1 σ := by
    intro w1 h1
    refine r_MM_transition_38 ?_
    rw [T.1]
    simp only [i_lt, i_1, i_n (show q_n c ≤ 100000 by omega)]
    exact ⟨fun q => r_MM_transition_58 (g63 w1 1 h1 (q_z_t (Or.inl q)).symm), fun q => ⟨fun q2 => g63 w1 0 h1 (q_z_f (fun z => z.elim q (by omega))).symm, fun q2 => ⟨fun q3 => g63 w1 0 h1 (q_z_f (fun z => z.elim q (by omega))).symm, fun q3 => r_MM_transition_58 (g63 w1 1 h1 (q_z_t (Or.inr (by omega))).symm)⟩⟩⟩
  have no : ¬ (0 ≤ e.toInt ∧ e.toInt ≤ 20) → g_MM_transition_10 E (d + 1) po a e t σ := by
    intro hn
    refine r_MM_transition_10 ?_
    simp only [i_lt, i_le, i_100, i_115]
    have f : (∀ s : Nat, e.toInt = 100 + s → ¬ q_st c s) → g_MM_transition_38 E (d + 1) po a e t 0 σ := fun z => g38 0 (q_z_f (fun y => y.elim hn (fun ⟨s, y1, y2⟩ => z s y1 y2))).symm
    refine ⟨fun q => f (fun s y1 y2 => by have := y2.1; omega), fun q => ⟨fun q2 => f (fun s y1 y2 => by have := y2.2.1; omega), fun q2 => dx_ci1 _ _ (fun po hp => t_is ok T hp) (q_zb (fun q3 => f (fun s y1 y2 => q3 ⟨s, (i_sub100 (by have := y2.2.1; omega)).mpr y1, y2⟩)) (fun q3 => r_MM_transition_33 (g38 1 (q_z_t (Or.inr ?_)).symm)))⟩⟩
    obtain ⟨s, y1, y2⟩ := q3
    exact ⟨s, (i_sub100 (by have := y2.2.1; omega)).mp y1, y2⟩
  refine r_MM_transition ?_
  simp only [i_lt, i_le, i_0, i_20]
  exact ⟨fun q => no (by omega), fun q => ⟨fun q2 => r_MM_transition_33 (g38 1 (q_z_t (Or.inl (by omega))).symm), fun q2 => no (by omega)⟩⟩
theorem t_guard {t w o v : Int32} (H : mm c r σ) (hp : ∀ σ', mm (cl_guard c r t w o v).2.1 (cl_guard c r t w o v).2.2 σ' → po (some (cl_guard c r t w o v).1) σ') : m_MM_guard E (d + 1) t w o v σ po := by
  have ok := H.1
  have h15 := ok.1
  have h20 := ok.2.1
  have T := H.2.1
  have T2 := H.2.2.1
  unfold cl_guard at hp
  have bad : ¬ (q_out r = 0 ∧ (0 ≤ t.toInt ∧ t.toInt < q_nt c) ∧ q_mayG c w o v) → po (some 0) σ := fun z => by
    rw [q_if_f z] at hp; exact hp σ H
  have good : (q_out r = 0 ∧ (0 ≤ t.toInt ∧ t.toInt < q_nt c) ∧ q_mayG c w o v) → g_MM_guard_62 E (d + 1) po t w o v σ := by
    rintro ⟨q, q2, q3⟩
    rw [q_if_t ⟨q, q2, q3⟩] at hp
    obtain ⟨f1, f2⟩ := i_ix (x := t) (by omega)
    generalize t.toNatClampNeg = tn at f1 f2 hp
    subst f1
    have ow : 0 ≤ o.toInt ∧ o.toInt ≤ 3 ∧ 0 ≤ w.toInt ∧ w.toInt ≤ 3 := by
      rcases q3 with z | ⟨z1, z2, -⟩
      · omega
      · have z5 : o.toInt = 3 := by rw [z1]; exact i_3
        have z6 : w.toInt = 0 := by rw [z2]; exact i_0
        omega
    obtain ⟨g1, g2⟩ := i_ix (x := o) (by omega)
    obtain ⟨g3, g4⟩ := i_ix (x := w) (by omega)
    have hg : (((w.toNatClampNeg, o.toNatClampNeg, v) : Nat × Nat × Int32).2.1 ≤ 2 ∧ ((w.toNatClampNeg, o.toNatClampNeg, v) : Nat × Nat × Int32).1 ≤ 3) ∨ (((w.toNatClampNeg, o.toNatClampNeg, v) : Nat × Nat × Int32).2.1 = 3 ∧ ∃ u, q_st c u ∧ ((w.toNatClampNeg, o.toNatClampNeg, v) : Nat × Nat × Int32).2.2 = nI u) := by
      rcases q3 with z | ⟨z1, z2, s, z3, z4⟩
      · refine Or.inl ⟨?_, ?_⟩
        · show o.toNatClampNeg ≤ 2; omega
        · show w.toNatClampNeg ≤ 3; omega
      · refine Or.inr ⟨?_, s, z4, z3⟩
        have z5 : o.toInt = 3 := by rw [z1]; exact i_3
        show o.toNatClampNeg = 3
        omega
    generalize o.toNatClampNeg = on at g1 g2 hp hg
    generalize w.toNatClampNeg = wn at g3 g4 hp hg
    subst g1; subst g3
    have in1 : vp_in (nI tn) 20 := i_in (by omega) (by omega)
    refine r_MM_guard_62 ?_
    rw [i_cl (n := tn) (by omega), nar1]
    refine ⟨in1, in1, in1, in1, hp _ ⟨ok_setG ok hg, T, ⟨T2.1, fun i hi => ?_, fun i hi hi2 => ?_⟩, H.2.2.2.1, H.2.2.2.2.1, H.2.2.2.2.2.1, fun z => absurd q z⟩⟩
    · obtain ⟨a1, a2, a3, a5, a6⟩ := T2.2.1 i hi
      refine ⟨a1, a2, a3, fun hg => ?_, fun w' o' v' hg => ?_⟩
      · have hg : (if i = tn then some (wn, on, v) else q_gd c i) = none := hg
        by_cases ei : i = tn
        · rw [if_pos ei] at hg; cases hg
        · rw [if_neg ei] at hg
          rw [dx_un (by decide), dx_un (by decide), dx_un (by decide), dx_uk ei]; exact a5 hg
      · have hg : (if i = tn then some (wn, on, v) else q_gd c i) = some (w', o', v') := hg
        by_cases ei : i = tn
        · rw [if_pos ei] at hg; cases hg
          subst ei
          exact ⟨by rw [dx_un (by decide), dx_un (by decide), dx_un (by decide), dx_us], by rw [dx_un (by decide), dx_un (by decide), dx_us], by rw [dx_un (by decide), dx_us], dx_us⟩
        · rw [if_neg ei] at hg
          obtain ⟨y1, y2, y3, y4⟩ := a6 w' o' v' hg
          exact ⟨by rw [dx_un (by decide), dx_un (by decide), dx_un (by decide), dx_uk ei]; exact y1, by rw [dx_un (by decide), dx_un (by decide), dx_uk ei, dx_un (by decide)]; exact y2, by rw [dx_un (by decide), dx_uk ei, dx_un (by decide), dx_un (by decide)]; exact y3, by rw [dx_uk ei, dx_un (by decide), dx_un (by decide), dx_un (by decide)]; exact y4⟩
    · have ht : i ≠ tn := fun e => by
        have hi : q_nt c ≤ i := hi
        omega
      rw [dx_un (by decide), dx_un (by decide), dx_un (by decide), dx_uk ht]; exact T2.2.2 i hi hi2
  refine r_MM_guard ?_
  have e3 : o = 3 ↔ o.toInt = 3 := by rw [i_eq, i_3]
  have e0 : w = 0 ↔ w.toInt = 0 := by rw [i_eq, i_0]
  rw [mm_0 H, T2.1]
  rw [e3, e0]
  unfold q_mayG at bad good
  rw [e3, e0] at bad good
  simp only [i_lt, i_le, i_0, i_3, i_n (show q_nt c ≤ 100000 by omega)]
  refine ⟨fun q => bad (fun z => q z.1), fun q => ⟨fun q2 => bad (fun z => by omega), fun q2 => ⟨fun q3 => bad (fun z => by omega), fun q3 => ⟨fun q4 => bad (fun z => by omega), fun q4 => ⟨fun q5 => ⟨fun q6 => ⟨fun q7 => bad (fun z => by omega), fun q7 => ⟨fun q8 => good ⟨q, by omega, Or.inl (by omega)⟩, fun q8 => bad (fun z => by omega)⟩⟩, fun q6 => ⟨fun q7 => bad (fun z => by omega), fun q7 => dx_ci1 _ _ (fun po hp => t_is ok T hp) (q_zc (fun q8 => good ⟨q, by omega, Or.inr ⟨q6, q7, q8⟩⟩) (fun q8 => bad (fun z => z.2.2.elim (fun y => by omega) (fun y => q8 y.2.2))))⟩⟩, fun q5 => bad (fun z => by omega)⟩⟩⟩⟩⟩
end MCL
