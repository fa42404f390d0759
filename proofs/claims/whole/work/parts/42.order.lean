/-! The new objects are the shapes, at their start. -/
def kx_mi {α β : Type} (f : Nat → α → β) : Nat → List α → List β
  | _, [] => []
  | n, a :: l => f n a :: kx_mi f (n + 1) l
theorem kx_mi_ok {α β : Type} (f : Nat → α → β) : ∀ (l : List α) (n : Nat), l.mapIdx (fun i => f (i + n)) = kx_mi f n l := by
  intro l
  induction l with
  | nil => intro n; rfl
  | cons a l ih =>
    intro n
    rw [List.mapIdx_cons, Nat.zero_add]
    show f n a :: _ = f n a :: _
    rw [← ih (n + 1)]
    congr 1
    congr 1
    funext i
    rw [show i + 1 + n = i + (n + 1) by omega]
def kx_e (E : dx_E) (g : Nat → Int32) (c : dx_c) : va_E := match c with
  | .inl b => .inl (dx_a E b.1, b.2, .inl g)
  | .inr o => .inr (o.1, kx_mi (dx_f E.2.2.1 g) 0 o.2)
theorem kx_e_ok (E : dx_E) (g : Nat → Int32) (c : dx_c) : dx_e E g c = kx_e E g c := by
  cases c with
  | inl b => rfl
  | inr o =>
    show Sum.inr (o.1, o.2.mapIdx (dx_f E.2.2.1 g)) = Sum.inr (o.1, kx_mi (dx_f E.2.2.1 g) 0 o.2)
    rw [← kx_mi_ok]
    rfl
def kx_al (E : dx_E) (σ : dx_V) (ws : va_W) : List dx_c → List Nat → Nat → Prop
  | [], _, _ => True
  | c :: r, i :: is, k => ws[i]? = some (E.2.2.1 k, kx_e E (σ k) c) ∧ kx_al E σ ws r is (k + 1)
  | _ :: _, [], _ => False
theorem kx_al_ok {E : dx_E} {σ : dx_V} {ws : va_W} : ∀ (cs : List dx_c) (is : List Nat) (k : Nat), kx_al E σ ws cs is k → ∀ (j : Nat) (c : dx_c), cs[j]? = some c → ws[is.getD j 0]? = some (E.2.2.1 (k + j), kx_e E (σ (k + j)) c) := by
  intro cs
  induction cs with
  | nil => intro is k _ j c h; cases h
  | cons c0 cs ih =>
    intro is k h j c hj
    cases is with
    | nil => exact h.elim
    | cons i is =>
      cases j with
      | zero => cases hj; exact h.1
      | succ j =>
        have := ih is (k + 1) h.2 j c hj
        rw [show k + 1 + j = k + (j + 1) by omega] at this
        exact this
theorem kx_ord {t : dx_T} {E : dx_E} {σ : dx_V} {ws : va_W} (is : List Nat) (h : kx_al E σ ws t.2.2.2 is 0) (k : Nat) (q : Nat × va_E) (hq : (dx_w t E σ)[k]? = some q) : ws[is.getD k 0]? = some q := by
  unfold dx_w at hq
  rw [List.getElem?_mapIdx] at hq
  cases hc : t.2.2.2[k]? with
  | none => rw [hc] at hq; cases hq
  | some c =>
    rw [hc] at hq
    have := kx_al_ok t.2.2.2 is 0 h k c hc
    rw [Nat.zero_add, ← kx_e_ok] at this
    rw [this]
    exact hq
def kx_ad (l : List Nat) : Nat → Nat := fun k => l.getD k 0
def sX : dx_V := fun k => match k with
  | 11 => upd (fun _ => 0) 0 1
  | 12 => upd (fun _ => 0) 0 (-1)
  | _ => fun _ => 0
def sM : dx_V := fun k => match k with
  | 2 => upd (fun _ => 0) 0 1
  | _ => fun _ => 0
set_option maxRecDepth 100000 in
theorem o_X {J : kx_E} {h0 : Nat} {w : va_W} (h : ∃ q1 q2 q3 q4 q5 q6 q7 q8 q9 q10 q11 q12 q13 q14 q15 q16 q17 q18 q19 q20 q21 q22 q23 q24 q25 q26 q27 q28 q29 q30 q31 q32 q33 q34 q35 q36 : Nat, w = [(h0, .inr (0, [.ref q1, .ref q8, .ref q16, .ref q21])), (q1, .inr (1, [.ref q2, .ref q3, .ref q4, .ref q5, .ref q6, .ref q7, .int 0])), (q2, .inl (J.2.2.1, 16, .inl (upd (fun _ => 0) 0 1))), (q3, .inl (J.2.2.1, 16, .inl (upd (fun _ => 0) 0 (-1)))), (q4, .inl (J.2.2.1, 16, .inl (fun _ => 0))), (q5, .inl (J.2.2.1, 16, .inl (fun _ => 0))), (q6, .inl (J.2.2.1, 16, .inl (fun _ => 0))), (q7, .inl (J.2.2.1, 16, .inl (fun _ => 0))), (q8, .inr (2, [.ref q9, .ref q10, .ref q11, .ref q12, .ref q13, .ref q14, .ref q15, .int 0])), (q9, .inl (J.2.2.1, 20, .inl (fun _ => 0))), (q10, .inl (J.2.2.1, 20, .inl (fun _ => 0))), (q11, .inl (J.2.2.1, 20, .inl (fun _ => 0))), (q12, .inl (J.2.2.1, 20, .inl (fun _ => 0))), (q13, .inl (J.2.2.1, 20, .inl (fun _ => 0))), (q14, .inl (J.2.2.1, 20, .inl (fun _ => 0))), (q15, .inl (J.2.2.1, 20, .inl (fun _ => 0))), (q16, .inr (3, [.ref q17, .ref q18, .ref q19, .ref q20, .int 0])), (q17, .inl (J.2.2.1, 32, .inl (fun _ => 0))), (q18, .inl (J.2.2.1, 32, .inl (fun _ => 0))), (q19, .inl (J.2.2.1, 32, .inl (fun _ => 0))), (q20, .inl (J.2.2.1, 32, .inl (fun _ => 0))), (q21, .inr (4, [.ref q1, .ref q8, .ref q16, .ref q22, .ref q34, .ref q24, .ref q26, .ref q28, .ref q30, .ref q33, .int 0, .int 0, .int 0, .int 0])), (q22, .inr (5, [.ref q23, .int 0])), (q23, .inl (J.2.2.1, 4, .inl (fun _ => 0))), (q24, .inr (7, [.ref q25, .int 0])), (q25, .inl (J.2.2.1, 16, .inl (fun _ => 0))), (q26, .inr (7, [.ref q27, .int 0])), (q27, .inl (J.2.2.1, 16, .inl (fun _ => 0))), (q28, .inr (7, [.ref q29, .int 0])), (q29, .inl (J.2.2.1, 200, .inl (fun _ => 0))), (q30, .inr (8, [.ref q31, .ref q32, .int 0])), (q31, .inl (J.2.2.1, 12, .inl (fun _ => 0))), (q32, .inl (J.2.2.1, 12, .inl (fun _ => 0))), (q33, .inl (J.2.2.1, 16, .inl (fun _ => 0))), (q34, .inr (6, [.ref q1, .ref q8, .ref q22, .ref q35, .ref q36, .int 0, .int 0])), (q35, .inl (J.2.2.1, 20, .inl (fun _ => 0))), (q36, .inl (J.2.2.1, 20, .inl (fun _ => 0)))]) : ∃ ad : Nat → Nat, ad 0 = h0 ∧ (∀ (H : Heap), va_P J.2.1 dx_cl w H → va_P J.2.1 dx_cl (dx_w tX (J.1, J.2.1, ad, J.2.2) sX) H) ∧ ∀ A : Nat → Prop, va_D A w → va_D A (dx_w tX (J.1, J.2.1, ad, J.2.2) sX) := by
  obtain ⟨q1, q2, q3, q4, q5, q6, q7, q8, q9, q10, q11, q12, q13, q14, q15, q16, q17, q18, q19, q20, q21, q22, q23, q24, q25, q26, q27, q28, q29, q30, q31, q32, q33, q34, q35, q36, rfl⟩ := h
  have h1 : kx_al (J.1, J.2.1, kx_ad [h0, q1, q8, q16, q21, q22, q34, q24, q26, q28, q30, q2, q3, q4, q5, q6, q7, q9, q10, q11, q12, q13, q14, q15, q17, q18, q19, q20, q33, q23, q35, q36, q25, q27, q29, q31, q32], J.2.2) sX [(h0, .inr (0, [.ref q1, .ref q8, .ref q16, .ref q21])), (q1, .inr (1, [.ref q2, .ref q3, .ref q4, .ref q5, .ref q6, .ref q7, .int 0])), (q2, .inl (J.2.2.1, 16, .inl (upd (fun _ => 0) 0 1))), (q3, .inl (J.2.2.1, 16, .inl (upd (fun _ => 0) 0 (-1)))), (q4, .inl (J.2.2.1, 16, .inl (fun _ => 0))), (q5, .inl (J.2.2.1, 16, .inl (fun _ => 0))), (q6, .inl (J.2.2.1, 16, .inl (fun _ => 0))), (q7, .inl (J.2.2.1, 16, .inl (fun _ => 0))), (q8, .inr (2, [.ref q9, .ref q10, .ref q11, .ref q12, .ref q13, .ref q14, .ref q15, .int 0])), (q9, .inl (J.2.2.1, 20, .inl (fun _ => 0))), (q10, .inl (J.2.2.1, 20, .inl (fun _ => 0))), (q11, .inl (J.2.2.1, 20, .inl (fun _ => 0))), (q12, .inl (J.2.2.1, 20, .inl (fun _ => 0))), (q13, .inl (J.2.2.1, 20, .inl (fun _ => 0))), (q14, .inl (J.2.2.1, 20, .inl (fun _ => 0))), (q15, .inl (J.2.2.1, 20, .inl (fun _ => 0))), (q16, .inr (3, [.ref q17, .ref q18, .ref q19, .ref q20, .int 0])), (q17, .inl (J.2.2.1, 32, .inl (fun _ => 0))), (q18, .inl (J.2.2.1, 32, .inl (fun _ => 0))), (q19, .inl (J.2.2.1, 32, .inl (fun _ => 0))), (q20, .inl (J.2.2.1, 32, .inl (fun _ => 0))), (q21, .inr (4, [.ref q1, .ref q8, .ref q16, .ref q22, .ref q34, .ref q24, .ref q26, .ref q28, .ref q30, .ref q33, .int 0, .int 0, .int 0, .int 0])), (q22, .inr (5, [.ref q23, .int 0])), (q23, .inl (J.2.2.1, 4, .inl (fun _ => 0))), (q24, .inr (7, [.ref q25, .int 0])), (q25, .inl (J.2.2.1, 16, .inl (fun _ => 0))), (q26, .inr (7, [.ref q27, .int 0])), (q27, .inl (J.2.2.1, 16, .inl (fun _ => 0))), (q28, .inr (7, [.ref q29, .int 0])), (q29, .inl (J.2.2.1, 200, .inl (fun _ => 0))), (q30, .inr (8, [.ref q31, .ref q32, .int 0])), (q31, .inl (J.2.2.1, 12, .inl (fun _ => 0))), (q32, .inl (J.2.2.1, 12, .inl (fun _ => 0))), (q33, .inl (J.2.2.1, 16, .inl (fun _ => 0))), (q34, .inr (6, [.ref q1, .ref q8, .ref q22, .ref q35, .ref q36, .int 0, .int 0])), (q35, .inl (J.2.2.1, 20, .inl (fun _ => 0))), (q36, .inl (J.2.2.1, 20, .inl (fun _ => 0)))] tX.2.2.2 [0, 1, 8, 16, 21, 22, 34, 24, 26, 28, 30, 2, 3, 4, 5, 6, 7, 9, 10, 11, 12, 13, 14, 15, 17, 18, 19, 20, 33, 23, 35, 36, 25, 27, 29, 31, 32] 0 := ⟨rfl, rfl, rfl, rfl, rfl, rfl, rfl, rfl, rfl, rfl, rfl, rfl, rfl, rfl, rfl, rfl, rfl, rfl, rfl, rfl, rfl, rfl, rfl, rfl, rfl, rfl, rfl, rfl, rfl, rfl, rfl, rfl, rfl, rfl, rfl, rfl, rfl, trivial⟩
  exact ⟨kx_ad [h0, q1, q8, q16, q21, q22, q34, q24, q26, q28, q30, q2, q3, q4, q5, q6, q7, q9, q10, q11, q12, q13, q14, q15, q17, q18, q19, q20, q33, q23, q35, q36, q25, q27, q29, q31, q32], rfl, fun H hP => hP.by _ (kx_ord [0, 1, 8, 16, 21, 22, 34, 24, 26, 28, 30, 2, 3, 4, 5, 6, 7, 9, 10, 11, 12, 13, 14, 15, 17, 18, 19, 20, 33, 23, 35, 36, 25, 27, 29, 31, 32] h1), fun A hD => hD.by _ (kx_ord [0, 1, 8, 16, 21, 22, 34, 24, 26, 28, 30, 2, 3, 4, 5, 6, 7, 9, 10, 11, 12, 13, 14, 15, 17, 18, 19, 20, 33, 23, 35, 36, 25, 27, 29, 31, 32] h1) (by
    have hl : (dx_w tX (J.1, J.2.1, kx_ad [h0, q1, q8, q16, q21, q22, q34, q24, q26, q28, q30, q2, q3, q4, q5, q6, q7, q9, q10, q11, q12, q13, q14, q15, q17, q18, q19, q20, q33, q23, q35, q36, q25, q27, q29, q31, q32], J.2.2) sX).length = 37 := by unfold dx_w; rw [List.length_mapIdx]; rfl
    rw [hl]
    exact fun i j hi hj e => (by decide +kernel : ∀ i, i < 37 → ∀ j, j < 37 → [0, 1, 8, 16, 21, 22, 34, 24, 26, 28, 30, 2, 3, 4, 5, 6, 7, 9, 10, 11, 12, 13, 14, 15, 17, 18, 19, 20, 33, 23, 35, 36, 25, 27, 29, 31, 32].getD i 0 = [0, 1, 8, 16, 21, 22, 34, 24, 26, 28, 30, 2, 3, 4, 5, 6, 7, 9, 10, 11, 12, 13, 14, 15, 17, 18, 19, 20, 33, 23, 35, 36, 25, 27, 29, 31, 32].getD j 0 → i = j) i hi j hj e)⟩
set_option maxRecDepth 100000 in
theorem o_M {J : kx_E} {h0 : Nat} {w : va_W} (h : ∃ q1 q2 q3 q4 q5 q6 q7 q8 q9 q10 q11 q12 q13 q14 q15 q16 q17 q18 q19 q20 q21 q22 q23 q24 q25 q26 : Nat, w = [(h0, .inr (9, [.int 0, .ref q1, .ref q2, .ref q3, .int 0, .ref q4, .ref q5, .ref q6, .ref q7, .ref q8, .ref q9, .ref q10, .int 0, .ref q11, .ref q12, .ref q13, .ref q14, .int 0, .int 0, .int 0, .ref q15, .ref q16, .ref q17, .int 0, .ref q18, .int 0, .ref q19, .int 0, .ref q20, .ref q21, .int 0, .int 0, .ref q22, .int 0, .ref q23, .int 0, .ref q24, .ref q25, .ref q26])), (q1, .inl (J.2.2.1, 16, .inl (fun _ => 0))), (q2, .inl (J.2.2.1, 16, .inl (upd (fun _ => 0) 0 1))), (q3, .inl (J.2.2.1, 16, .inl (fun _ => 0))), (q4, .inl (J.2.2.1, 20, .inl (fun _ => 0))), (q5, .inl (J.2.2.1, 20, .inl (fun _ => 0))), (q6, .inl (J.2.2.1, 20, .inl (fun _ => 0))), (q7, .inl (J.2.2.2, 20, .inl (fun _ => 0))), (q8, .inl (J.2.2.1, 20, .inl (fun _ => 0))), (q9, .inl (J.2.2.1, 20, .inl (fun _ => 0))), (q10, .inl (J.2.2.1, 20, .inl (fun _ => 0))), (q11, .inl (J.2.2.1, 32, .inl (fun _ => 0))), (q12, .inl (J.2.2.1, 32, .inl (fun _ => 0))), (q13, .inl (J.2.2.1, 32, .inl (fun _ => 0))), (q14, .inl (J.2.2.1, 32, .inl (fun _ => 0))), (q15, .inl (J.2.2.2, 16, .inl (fun _ => 0))), (q16, .inl (J.2.2.1, 16, .inl (fun _ => 0))), (q17, .inl (J.2.2.1, 4, .inl (fun _ => 0))), (q18, .inl (J.2.2.1, 16, .inl (fun _ => 0))), (q19, .inl (J.2.2.1, 16, .inl (fun _ => 0))), (q20, .inl (J.2.2.1, 12, .inl (fun _ => 0))), (q21, .inl (J.2.2.1, 12, .inl (fun _ => 0))), (q22, .inl (J.2.2.1, 200, .inl (fun _ => 0))), (q23, .inl (J.2.2.1, 20, .inl (fun _ => 0))), (q24, .inl (J.2.2.1, 20, .inl (fun _ => 0))), (q25, .inl (J.2.2.2, 16, .inl (fun _ => 0))), (q26, .inl (J.2.2.2, 16, .inl (fun _ => 0)))]) : ∃ ad : Nat → Nat, ad 0 = h0 ∧ (∀ (H : Heap), va_P J.2.1 dx_cl w H → va_P J.2.1 dx_cl (dx_w tM (J.1, J.2.1, ad, J.2.2) sM) H) ∧ ∀ A : Nat → Prop, va_D A w → va_D A (dx_w tM (J.1, J.2.1, ad, J.2.2) sM) := by
  obtain ⟨q1, q2, q3, q4, q5, q6, q7, q8, q9, q10, q11, q12, q13, q14, q15, q16, q17, q18, q19, q20, q21, q22, q23, q24, q25, q26, rfl⟩ := h
  have h1 : kx_al (J.1, J.2.1, kx_ad [h0, q1, q2, q3, q4, q5, q6, q7, q8, q9, q10, q11, q12, q13, q14, q15, q16, q17, q18, q19, q20, q21, q22, q23, q24, q25, q26], J.2.2) sM [(h0, .inr (9, [.int 0, .ref q1, .ref q2, .ref q3, .int 0, .ref q4, .ref q5, .ref q6, .ref q7, .ref q8, .ref q9, .ref q10, .int 0, .ref q11, .ref q12, .ref q13, .ref q14, .int 0, .int 0, .int 0, .ref q15, .ref q16, .ref q17, .int 0, .ref q18, .int 0, .ref q19, .int 0, .ref q20, .ref q21, .int 0, .int 0, .ref q22, .int 0, .ref q23, .int 0, .ref q24, .ref q25, .ref q26])), (q1, .inl (J.2.2.1, 16, .inl (fun _ => 0))), (q2, .inl (J.2.2.1, 16, .inl (upd (fun _ => 0) 0 1))), (q3, .inl (J.2.2.1, 16, .inl (fun _ => 0))), (q4, .inl (J.2.2.1, 20, .inl (fun _ => 0))), (q5, .inl (J.2.2.1, 20, .inl (fun _ => 0))), (q6, .inl (J.2.2.1, 20, .inl (fun _ => 0))), (q7, .inl (J.2.2.2, 20, .inl (fun _ => 0))), (q8, .inl (J.2.2.1, 20, .inl (fun _ => 0))), (q9, .inl (J.2.2.1, 20, .inl (fun _ => 0))), (q10, .inl (J.2.2.1, 20, .inl (fun _ => 0))), (q11, .inl (J.2.2.1, 32, .inl (fun _ => 0))), (q12, .inl (J.2.2.1, 32, .inl (fun _ => 0))), (q13, .inl (J.2.2.1, 32, .inl (fun _ => 0))), (q14, .inl (J.2.2.1, 32, .inl (fun _ => 0))), (q15, .inl (J.2.2.2, 16, .inl (fun _ => 0))), (q16, .inl (J.2.2.1, 16, .inl (fun _ => 0))), (q17, .inl (J.2.2.1, 4, .inl (fun _ => 0))), (q18, .inl (J.2.2.1, 16, .inl (fun _ => 0))), (q19, .inl (J.2.2.1, 16, .inl (fun _ => 0))), (q20, .inl (J.2.2.1, 12, .inl (fun _ => 0))), (q21, .inl (J.2.2.1, 12, .inl (fun _ => 0))), (q22, .inl (J.2.2.1, 200, .inl (fun _ => 0))), (q23, .inl (J.2.2.1, 20, .inl (fun _ => 0))), (q24, .inl (J.2.2.1, 20, .inl (fun _ => 0))), (q25, .inl (J.2.2.2, 16, .inl (fun _ => 0))), (q26, .inl (J.2.2.2, 16, .inl (fun _ => 0)))] tM.2.2.2 [0, 1, 2, 3, 4, 5, 6, 7, 8, 9, 10, 11, 12, 13, 14, 15, 16, 17, 18, 19, 20, 21, 22, 23, 24, 25, 26] 0 := ⟨rfl, rfl, rfl, rfl, rfl, rfl, rfl, rfl, rfl, rfl, rfl, rfl, rfl, rfl, rfl, rfl, rfl, rfl, rfl, rfl, rfl, rfl, rfl, rfl, rfl, rfl, rfl, trivial⟩
  exact ⟨kx_ad [h0, q1, q2, q3, q4, q5, q6, q7, q8, q9, q10, q11, q12, q13, q14, q15, q16, q17, q18, q19, q20, q21, q22, q23, q24, q25, q26], rfl, fun H hP => hP.by _ (kx_ord [0, 1, 2, 3, 4, 5, 6, 7, 8, 9, 10, 11, 12, 13, 14, 15, 16, 17, 18, 19, 20, 21, 22, 23, 24, 25, 26] h1), fun A hD => hD.by _ (kx_ord [0, 1, 2, 3, 4, 5, 6, 7, 8, 9, 10, 11, 12, 13, 14, 15, 16, 17, 18, 19, 20, 21, 22, 23, 24, 25, 26] h1) (by
    have hl : (dx_w tM (J.1, J.2.1, kx_ad [h0, q1, q2, q3, q4, q5, q6, q7, q8, q9, q10, q11, q12, q13, q14, q15, q16, q17, q18, q19, q20, q21, q22, q23, q24, q25, q26], J.2.2) sM).length = 27 := by unfold dx_w; rw [List.length_mapIdx]; rfl
    rw [hl]
    exact fun i j hi hj e => (by decide +kernel : ∀ i, i < 27 → ∀ j, j < 27 → [0, 1, 2, 3, 4, 5, 6, 7, 8, 9, 10, 11, 12, 13, 14, 15, 16, 17, 18, 19, 20, 21, 22, 23, 24, 25, 26].getD i 0 = [0, 1, 2, 3, 4, 5, 6, 7, 8, 9, 10, 11, 12, 13, 14, 15, 16, 17, 18, 19, 20, 21, 22, 23, 24, 25, 26].getD j 0 → i = j) i hi j hj e)⟩
-- the empty chart
def c0 : q_C := ((0, fun _ => 0, fun _ => 1, fun _ => 0), (0, fun _ => 0, fun _ => 0, fun _ => 0, fun _ => none), (0, fun _ => 0, fun _ => 0, fun _ => 0, fun _ => 0))
def r0 : q_R := q_sOut q_r0 0
theorem c0_st {s : Nat} : ¬ q_st c0 s := fun h => by
  have h1 := h.1
  have h2 : s ≤ 0 := h.2.1
  omega
theorem ok0 : q_ok c0 := ⟨by decide, by decide, by decide, rfl, fun s h1 h2 => absurd (show s ≤ 0 from h2) (by omega), fun s => Or.inl rfl, fun t h => absurd (show t < 0 from h) (by omega), fun k h => absurd (show k < 0 from h) (by omega)⟩
theorem xx0 : xx c0 r0 sX := by
  refine ⟨ok0, ⟨rfl, fun s h => ?_, fun s h1 h2 => absurd (show s ≤ 0 from h2) (by omega), fun s h ⟨x, hx⟩ => absurd hx.1 c0_st, fun s h x => ?_, fun s h x => ?_, fun s h x => ?_⟩, ⟨rfl, fun t h => absurd (show t < 0 from h) (by omega)⟩, ⟨rfl, fun k h => absurd (show k < 0 from h) (by omega)⟩, rfl, by decide, fun h => absurd rfl h⟩
  · have h0 : s = 0 := by have : s ≤ 0 := h; omega
    subst h0; rfl
  · constructor
    · intro z
      have z : bt 0 x = true := z
      rw [b_0] at z; cases z
    · intro z; exact absurd z.1 c0_st
  · have h0 : s = 0 := by have : s ≤ 0 := h; omega
    subst h0
    constructor
    · intro z
      have z : bt 0 x = true := z
      rw [b_0] at z; cases z
    · intro z; exact absurd z q_bl_0
  · constructor
    · intro z
      have z : bt 0 x = true := z
      rw [b_0] at z; cases z
    · intro z; exact absurd z.1 c0_st
theorem mm0 : mm c0 r0 sM := by
  refine ⟨ok0, ⟨rfl, fun s h1 h2 => absurd (show s ≤ 0 from h2) (by omega), fun s h => ?_, fun s h => rfl⟩, ⟨rfl, fun t h => absurd (show t < 0 from h) (by omega), fun t h h2 => rfl⟩, ⟨rfl, fun k h => absurd (show k < 0 from h) (by omega)⟩, rfl, by decide, fun h => absurd rfl h⟩
  have h0 : s = 0 := by have : s ≤ 0 := h; omega
  subst h0; rfl
