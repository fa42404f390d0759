/-! The law's loop. -/
theorem i_and15 (x : Int32) : ∃ k : Nat, k ≤ 15 ∧ (x &&& 15).toInt = (k : Int) := by
  have h1 : (x &&& 15).toBitVec.toNat ≤ 15 := by
    have : (x &&& 15).toBitVec = x.toBitVec &&& 15#32 := rfl
    rw [this, BitVec.toNat_and]
    exact Nat.and_le_right
  refine ⟨(x &&& 15).toBitVec.toNat, h1, ?_⟩
  show (x &&& 15).toBitVec.toInt = _
  exact BitVec.toInt_eq_toNat_of_lt (by omega)
theorem i_sub5 {L : Nat} (hL : L ≤ 2560) : (nI L - 5).toInt = (L : Int) - 5 := by
  rcases Nat.lt_or_ge L 5 with h | h
  · rcases (show L = 0 ∨ L = 1 ∨ L = 2 ∨ L = 3 ∨ L = 4 by omega) with rfl | rfl | rfl | rfl | rfl <;> decide
  · have e1 : nI (L - 5) + 5 = nI L := by
      have := nI_add (L - 5) 5
      rw [show L - 5 + 5 = L by omega] at this
      exact this
    rw [← e1, Int32.add_sub_cancel, i_n (by omega)]
    omega
section LL
variable {J : kx_E} {aX aM : Nat → Nat} {p : Program} {e : Env} {s : State} {m : MethodId} {below : List Frame} {meth : Method} {c : Code} {b L : Nat} {xs : Nat → Int32}
theorem lx_end {i : Int32} {σ τ : dx_V} (X : lx_X J aX aM p s m meth c b L xs) : lx_G J aX aM p e s m below meth c b i 524 [] σ τ := by
  intro H locs ls hL h1 h2 h3 h4 hS
  have C := X.1
  refine lv_iconst (v := 1) C.1 C.2.1 dLW_524 (by decide) ?_
  refine va_forget (fun q hq => hS.2.2 q hq) ?_
  refine W.widen (k := 600000) (n := 7302250) (by decide) (by decide) ?_
  exact lw_ret C.1 C.2.1 C.2.2.1 C.2.2.2.2.2.2.2.2.1 dLW_525
theorem lx_518 {n : Nat} {σ τ : dx_V} (X : lx_X J aX aM p s m meth c b L xs) (kk : lx_G J aX aM p e s m below meth c b (nI (n + 5)) 18 [] σ τ) : lx_G J aX aM p e s m below meth c b (nI n) 518 [] σ τ := by
  intro H locs ls hL h1 h2 h3 h4 hS
  have C := X.1
  have e5 : nI n + Int32.ofInt 5 = nI (n + 5) := nI_add n 5
  refine lv_iinc C.1 C.2.1 dLW_518 hL (k := 3) rfl e5 (by decide) rfl (fun ls' h' => ?_)
  refine lv_goto C.1 C.2.1 dLW_521 (tgt := 18) (by decide) ?_
  have h'' : lv_has ls' 4 [(0, .ref b), (1, .ref (aX 0)), (2, .ref (aM 0)), (3, .int (nI (n + 5)))] := lv_sub h' [1, 2, 3, 0] rfl
  exact kk H locs ls' h'' h1 h2 h3 h4 hS
theorem lx_loop (X : lx_X J aX aM p s m meth c b L xs) (hL : L ≤ 2560) : ∀ (f n : Nat) (ch : q_C) (ru : q_R) (σ τ : dx_V), L + 5 ≤ f + n → n ≤ 2570 → xx ch ru σ → mm ch ru τ → lx_G J aX aM p e s m below meth c b (nI n) 18 [] σ τ := by
  have C := X.1
  have hbA : ¬ s.heap.size ≤ b := fun z => by have := C.2.2.2.2.2.2.2.1; omega
  have eL : Int32.ofNat L = nI L := rfl
  have key : ∀ (n : Nat) (σ τ : dx_V), n ≤ 2570 → (n + 5 ≤ L → lx_G J aX aM p e s m below meth c b (nI n) 26 [] σ τ) → lx_G J aX aM p e s m below meth c b (nI n) 18 [] σ τ := by
    intro n σ τ hn kk H locs ls hLv h1 h2 h3 h4 hS
    refine lv_iload_n C.1 C.2.1 dLW_18 rfl (lv_at hLv 3 rfl) ?_
    refine lv_aload_n C.1 C.2.1 dLW_19 rfl (lv_at hLv 0 rfl) ?_
    refine va_slen C.1 C.2.1 C.2.2.2.2.2.2.1 C.2.2.2.2.2.2.2.1 (A := fun q => s.heap.size ≤ q) hbA hS dLW_20 ?_
    refine lv_iconst (v := 5) C.1 C.2.1 dLW_21 (by decide) ?_
    refine lv_isub C.1 C.2.1 dLW_22 ?_
    refine lv_icmp_gt (tgt := 524) C.1 C.2.1 dLW_23 (by decide) (fun q => lx_end X H locs ls hLv h1 h2 h3 h4 hS) (fun q => kk ?_ H locs ls hLv h1 h2 h3 h4 hS)
    rw [eL, i_lt, i_sub5 hL, i_n (by omega)] at q
    omega
  intro f
  induction f with
  | zero =>
    intro n ch ru σ τ hf hn HX HM
    exact key n σ τ hn (fun h => absurd h (by omega))
  | succ f ih =>
    intro n ch ru σ τ hf hn HX HM
    refine key n σ τ hn (fun h5 => ?_)
    have kk : ∀ (c' : q_C) (r' : q_R) (σ' τ' : dx_V), xx c' r' σ' → mm c' r' τ' → lx_G J aX aM p e s m below meth c b (nI n) 518 [] σ' τ' := fun c' r' σ' τ' h1 h2 => lx_518 X (ih (n + 5) c' r' σ' τ' (by omega) (by omega) h1 h2)
    obtain ⟨k, hk, ek⟩ := i_and15 (xs n)
    intro H locs ls hLv h1 h2 h3 h4 hS
    refine lv_aload_n C.1 C.2.1 dLW_26 rfl (lv_at hLv 0 rfl) ?_
    refine lv_iload_n C.1 C.2.1 dLW_27 rfl (lv_at hLv 3 rfl) ?_
    have hin : vp_in (nI n) L := i_in (by omega) (by omega)
    refine va_sld C.1 C.2.1 C.2.2.2.2.2.2.1 C.2.2.2.2.2.2.2.1 (A := fun q => s.heap.size ≤ q) hbA hS hin dLW_28 ?_
    rw [i_cl (n := n) (by omega)]
    refine lv_bipush (v := 15) C.1 C.2.1 dLW_29 (by decide) ?_
    refine lv_iand C.1 C.2.1 dLW_31 ?_
    rcases (show k = 0 ∨ k = 1 ∨ k = 2 ∨ k = 3 ∨ k = 4 ∨ k = 5 ∨ k = 6 ∨ k = 7 ∨ k = 8 ∨ k = 9 ∨ k = 10 ∨ k = 11 ∨ k = 12 ∨ k = 13 ∨ k = 14 ∨ k = 15 by omega) with rfl | rfl | rfl | rfl | rfl | rfl | rfl | rfl | rfl | rfl | rfl | rfl | rfl | rfl | rfl | rfl
    · exact lv_tableIn (tgt := 112) C.1 C.2.1 dLW_32 (by rw [ek]; decide) (by rw [ek]; decide) (by rw [ek]; rfl) (by decide) (lb_0 X hL h5 HX HM kk H locs ls hLv h1 h2 h3 h4 hS)
    · exact lv_tableIn (tgt := 145) C.1 C.2.1 dLW_32 (by rw [ek]; decide) (by rw [ek]; decide) (by rw [ek]; rfl) (by decide) (lb_1 X hL h5 HX HM kk H locs ls hLv h1 h2 h3 h4 hS)
    · exact lv_tableIn (tgt := 168) C.1 C.2.1 dLW_32 (by rw [ek]; decide) (by rw [ek]; decide) (by rw [ek]; rfl) (by decide) (lb_2 X hL h5 HX HM kk H locs ls hLv h1 h2 h3 h4 hS)
    · exact lv_tableIn (tgt := 211) C.1 C.2.1 dLW_32 (by rw [ek]; decide) (by rw [ek]; decide) (by rw [ek]; rfl) (by decide) (lb_3 X hL h5 HX HM kk H locs ls hLv h1 h2 h3 h4 hS)
    · exact lv_tableIn (tgt := 264) C.1 C.2.1 dLW_32 (by rw [ek]; decide) (by rw [ek]; decide) (by rw [ek]; rfl) (by decide) (lb_4 X hL h5 HX HM kk H locs ls hLv h1 h2 h3 h4 hS)
    · exact lv_tableIn (tgt := 317) C.1 C.2.1 dLW_32 (by rw [ek]; decide) (by rw [ek]; decide) (by rw [ek]; rfl) (by decide) (lb_5 X hL h5 HX HM kk H locs ls hLv h1 h2 h3 h4 hS)
    · exact lv_tableIn (tgt := 330) C.1 C.2.1 dLW_32 (by rw [ek]; decide) (by rw [ek]; decide) (by rw [ek]; rfl) (by decide) (lb_6 X hL h5 HX HM kk H locs ls hLv h1 h2 h3 h4 hS)
    · exact lv_tableIn (tgt := 353) C.1 C.2.1 dLW_32 (by rw [ek]; decide) (by rw [ek]; decide) (by rw [ek]; rfl) (by decide) (lb_7 X hL h5 HX HM kk H locs ls hLv h1 h2 h3 h4 hS)
    · exact lv_tableIn (tgt := 366) C.1 C.2.1 dLW_32 (by rw [ek]; decide) (by rw [ek]; decide) (by rw [ek]; rfl) (by decide) (lb_8 X hL h5 HX HM kk H locs ls hLv h1 h2 h3 h4 hS)
    · exact lv_tableIn (tgt := 389) C.1 C.2.1 dLW_32 (by rw [ek]; decide) (by rw [ek]; decide) (by rw [ek]; rfl) (by decide) (lb_9 X hL h5 HX HM kk H locs ls hLv h1 h2 h3 h4 hS)
    · exact lv_tableIn (tgt := 400) C.1 C.2.1 dLW_32 (by rw [ek]; decide) (by rw [ek]; decide) (by rw [ek]; rfl) (by decide) (lb_10 X hL h5 HX HM kk H locs ls hLv h1 h2 h3 h4 hS)
    · exact lv_tableIn (tgt := 413) C.1 C.2.1 dLW_32 (by rw [ek]; decide) (by rw [ek]; decide) (by rw [ek]; rfl) (by decide) (lb_11 X hL h5 HX HM kk H locs ls hLv h1 h2 h3 h4 hS)
    · exact lv_tableIn (tgt := 426) C.1 C.2.1 dLW_32 (by rw [ek]; decide) (by rw [ek]; decide) (by rw [ek]; rfl) (by decide) (lb_12 X hL h5 HX HM kk H locs ls hLv h1 h2 h3 h4 hS)
    · exact lv_tableIn (tgt := 449) C.1 C.2.1 dLW_32 (by rw [ek]; decide) (by rw [ek]; decide) (by rw [ek]; rfl) (by decide) (lb_13 X hL h5 HX HM kk H locs ls hLv h1 h2 h3 h4 hS)
    · exact lv_tableIn (tgt := 472) C.1 C.2.1 dLW_32 (by rw [ek]; decide) (by rw [ek]; decide) (by rw [ek]; rfl) (by decide) (lb_14 X hL h5 HX HM kk H locs ls hLv h1 h2 h3 h4 hS)
    · exact lv_tableIn (tgt := 495) C.1 C.2.1 dLW_32 (by rw [ek]; decide) (by rw [ek]; decide) (by rw [ek]; rfl) (by decide) (lb_15 X hL h5 HX HM kk H locs ls hLv h1 h2 h3 h4 hS)
end LL
