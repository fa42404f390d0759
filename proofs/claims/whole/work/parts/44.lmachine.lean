/-! A machine for the law: two worlds, the script, the place in it. -/
/-- what stays, all through the law -/
def lx_X (J : kx_E) (aX aM : Nat → Nat) (p : Program) (s : State) (m : MethodId) (meth : Method) (c : Code) (b L : Nat) (xs : Nat → Int32) : Prop :=
  lw_At p s m meth c b L xs ∧ va_K J.2.1 dx_cl (kx_t J) s ∧ dx_N tX s ∧ (∀ q : Nat, dx_A tX (J.1, J.2.1, aX, J.2.2) q → s.heap.size ≤ q ∧ ¬ dx_A tM (J.1, J.2.1, aM, J.2.2) q) ∧ ∀ q : Nat, dx_A tM (J.1, J.2.1, aM, J.2.2) q → s.heap.size ≤ q
def lx_G (J : kx_E) (aX aM : Nat → Nat) (p : Program) (e : Env) (s : State) (m : MethodId) (below : List Frame) (meth : Method) (c : Code) (b : Nat) (i : Int32) (pc : Nat) (st : List Value) (σ τ : dx_V) : Prop :=
  ∀ (H : Heap) (locs : List Loc) (ls : Array Slot), lv_has ls 4 [(0, .ref b), (1, .ref (aX 0)), (2, .ref (aM 0)), (3, .int i)] →
    va_P J.2.1 dx_cl (dx_w tX (J.1, J.2.1, aX, J.2.2) σ) H → va_D (dx_A tX (J.1, J.2.1, aX, J.2.2)) (dx_w tX (J.1, J.2.1, aX, J.2.2) σ) →
    va_P J.2.1 dx_cl (dx_w tM (J.1, J.2.1, aM, J.2.2) τ) H → va_D (dx_A tM (J.1, J.2.1, aM, J.2.2)) (dx_w tM (J.1, J.2.1, aM, J.2.2) τ) →
    va_S (fun q => s.heap.size ≤ q) s.heap H locs →
    W p J.1 e room_1 s m #[Value.ref b] below meth c H locs 64 1455 (lw_Z below #[Value.ref b] s) (F0 m pc ls st)
theorem lx_ts {p : Program} {s : State} {m : MethodId} {meth : Method} {c : Code} {b L : Nat} {xs : Nat → Int32} (C : lw_At p s m meth c b L xs) : ∀ w ∈ dx_wA, w.before #[Value.ref b] s = true := fun w hw => C.2.2.2.2.2.1 w (List.mem_filter.mp hw).1
section LX
variable {J : kx_E} {aX aM : Nat → Nat} {p : Program} {e : Env} {s : State} {m : MethodId} {below : List Frame} {meth : Method} {c : Code} {b L : Nat} {xs : Nat → Int32} {i : Int32} {pc : Nat} {st : List Value} {σ τ : dx_V}
theorem lx_aload {k : Fin 4} {x : Nat} (X : lx_X J aX aM p s m meth c b L xs) (j : Nat) (h : decode code pc = .ok (.aload_n k, 1)) (hl : ([(0, .ref b), (1, .ref (aX 0)), (2, .ref (aM 0)), (3, .int i)] : List (Nat × Value))[j]? = some (k.val, .ref x)) (kk : lx_G J aX aM p e s m below meth c b i (pc + 1) (.ref x :: st) σ τ) : lx_G J aX aM p e s m below meth c b i pc st σ τ := by
  intro H locs ls hL h1 h2 h3 h4 hS
  exact lv_aload_n X.1.1 X.1.2.1 h rfl (lv_at hL j hl) (kk H locs ls hL h1 h2 h3 h4 hS)
theorem lx_arg {k n : Nat} (X : lx_X J aX aM p s m meth c b L xs) (hL9 : L ≤ 2560) (hn : n + k < L) (hi : i = nI n) (d0 : decode code pc = .ok (.aload_n 0, 1)) (d1 : decode code (pc + 1) = .ok (.iload_n 3, 1)) (d2 : decode code (pc + 2) = .ok (.iconst (k : Int), 1)) (d3 : decode code (pc + 3) = .ok (.iadd, 1)) (d4 : decode code (pc + 4) = .ok (.iaload, 1)) (hv : Int32.ofInt (k : Int) = nI k) (kk : lx_G J aX aM p e s m below meth c b i (pc + 5) (.int (xs (n + k)) :: st) σ τ) : lx_G J aX aM p e s m below meth c b i pc st σ τ := by
  intro H locs ls hL h1 h2 h3 h4 hS
  have C := X.1
  refine lv_aload_n C.1 C.2.1 d0 rfl (lv_at hL 0 rfl) ?_
  refine lv_iload_n C.1 C.2.1 d1 rfl (lv_at hL 3 rfl) ?_
  refine lv_iconst (v := nI k) C.1 C.2.1 d2 hv ?_
  refine lv_iadd C.1 C.2.1 d3 ?_
  have e1 : i + nI k = nI (n + k) := by rw [hi]; exact nI_add n k
  rw [e1]
  have hin : vp_in (nI (n + k)) L := i_in hn (by omega)
  refine va_sld C.1 C.2.1 C.2.2.2.2.2.2.1 C.2.2.2.2.2.2.2.1 (A := fun q => s.heap.size ≤ q) (fun z => by have := C.2.2.2.2.2.2.2.1; omega) hS hin d4 ?_
  rw [i_cl (n := n + k) (by omega)]
  exact kk H locs ls hL h1 h2 h3 h4 hS
theorem lx_cmp {x y : Int32} {off : Int} (X : lx_X J aX aM p s m meth c b L xs) (h : decode code pc = .ok (.if_icmp .eq off, 3)) (ht : (pc : Int) + off = (518 : Int)) (hxy : x = y) (kk : lx_G J aX aM p e s m below meth c b i 518 st σ τ) : lx_G J aX aM p e s m below meth c b i pc (.int y :: .int x :: st) σ τ := by
  intro H locs ls hL h1 h2 h3 h4 hS
  exact lv_icmp_eq (tgt := 518) X.1.1 X.1.2.1 h ht (fun _ => kk H locs ls hL h1 h2 h3 h4 hS) (fun q => absurd hxy q)
theorem lx_goto {off : Int} (X : lx_X J aX aM p s m meth c b L xs) (tgt : Nat) (h : decode code pc = .ok (.goto off, 3)) (ht : (pc : Int) + off = (tgt : Int)) (kk : lx_G J aX aM p e s m below meth c b i tgt st σ τ) : lx_G J aX aM p e s m below meth c b i pc st σ τ := by
  intro H locs ls hL h1 h2 h3 h4 hS
  exact lv_goto X.1.1 X.1.2.1 h ht (kk H locs ls hL h1 h2 h3 h4 hS)
theorem lx_room (d nLz : Nat) (hd : d ≤ 8) (h9 : nLz ≤ 9) : (dx_R d).frames + 1 ≤ room_1.frames ∧ 8 + (nLz + 11) + (dx_R d).locals ≤ room_1.locals := by
  refine ⟨?_, ?_⟩
  · show d + 1 ≤ 11; omega
  · show 8 + (nLz + 11) + 28 * d ≤ 402; omega
/-- a call on the class's object -/
theorem lx_runX {z : MethodName} {ccz : ByteArray} {nLz ix d : Nat} {rtz : Option FieldType} {po : dx_P} {as : List dx_v} {fs : List (Nat ⊕ Bool)} {r : List Value} {H : Heap} {locs : List Loc} {ls : Array Slot} (X : lx_X J aX aM p s m meth c b L xs) (hd : d ≤ 8) (h : decode code pc = .ok (.invokevirtual ix, 3)) (hc : dx_cv tX R_law ix z ccz nLz rtz as.length 0) (hlk : Cond.methodLink R_law ix z ∈ dx_wA) (hs : tX.2.2.2[0]? = some (.inr (0, fs))) (h8 : (r.map fun v => v.category).sum ≤ 8) (h1 : dx_M tX (J.1, J.2.1, aX, J.2.2) d z ccz nLz rtz (.inr 0 :: as) σ po) (hL : ls.size = 4) (hP : va_P J.2.1 dx_cl (dx_w tX (J.1, J.2.1, aX, J.2.2) σ) H) (hD : va_D (dx_A tX (J.1, J.2.1, aX, J.2.2)) (dx_w tX (J.1, J.2.1, aX, J.2.2) σ)) : va_Run p J.1 e room_1 s m #[Value.ref b] below meth c H locs 64 1455 0 0 (F0 m pc ls ((as.map (dx_z aX)).reverse ++ .ref (aX 0) :: r)) r (dx_Q tX (J.1, J.2.1, aX, J.2.2) rtz po (Value.ref (aX 0) :: as.map (dx_z aX)).toArray) (dx_A tX (J.1, J.2.1, aX, J.2.2)) := by
  obtain ⟨-, hb, hin, hse, q, hq, hqc⟩ := hc
  have C := X.1
  have hts := lx_ts C
  have hG := dx_good (y := z) hb
  have hR := lx_room d nLz hd hb.2.2.2.2
  have hrecv := va_recv X.2.1 hP hq (dx_wat hs)
  rw [hqc] at hrecv
  have hpre : PreV s H z.cls (aX 0) (va_Pc ((Sum.inr 0 :: as).map (dx_z aX)) (dx_B tX (J.1, J.2.1, aX, J.2.2) σ)) (as.map (dx_z aX)) := ⟨dx_blind, hrecv, fun U hU hW => ⟨rfl, dx_Bwarm hU hW hP X.2.1 hD X.2.2.1⟩⟩
  exact va_runV ⟨C.1, C.2.1, C.2.2.2.1, C.2.2.2.2.1, hts⟩ h1 ⟨callB_of as.length hts hG rfl rfl rfl (hts _ hb.2.2.1) (hts _ hlk) hb.2.2.2.1 hR, hts _ hin, hts _ hse⟩ hpre rfl (by rw [List.length_map]) hL rfl (lv_room h8) h ⟨by decide, by decide⟩
theorem lx_runM {z : MethodName} {ccz : ByteArray} {nLz ix d : Nat} {rtz : Option FieldType} {po : dx_P} {as : List dx_v} {fs : List (Nat ⊕ Bool)} {r : List Value} {H : Heap} {locs : List Loc} {ls : Array Slot} (X : lx_X J aX aM p s m meth c b L xs) (hd : d ≤ 8) (h : decode code pc = .ok (.invokevirtual ix, 3)) (hc : dx_cv tM R_law ix z ccz nLz rtz as.length 9) (hlk : Cond.methodLink R_law ix z ∈ dx_wA) (hs : tM.2.2.2[0]? = some (.inr (9, fs))) (h8 : (r.map fun v => v.category).sum ≤ 8) (h1 : dx_M tM (J.1, J.2.1, aM, J.2.2) d z ccz nLz rtz (.inr 0 :: as) τ po) (hL : ls.size = 4) (hP : va_P J.2.1 dx_cl (dx_w tM (J.1, J.2.1, aM, J.2.2) τ) H) (hD : va_D (dx_A tM (J.1, J.2.1, aM, J.2.2)) (dx_w tM (J.1, J.2.1, aM, J.2.2) τ)) : va_Run p J.1 e room_1 s m #[Value.ref b] below meth c H locs 64 1455 0 0 (F0 m pc ls ((as.map (dx_z aM)).reverse ++ .ref (aM 0) :: r)) r (dx_Q tM (J.1, J.2.1, aM, J.2.2) rtz po (Value.ref (aM 0) :: as.map (dx_z aM)).toArray) (dx_A tM (J.1, J.2.1, aM, J.2.2)) := by
  obtain ⟨-, hb, hin, hse, q, hq, hqc⟩ := hc
  have C := X.1
  have hts := lx_ts C
  have hG := dx_good (y := z) hb
  have hR := lx_room d nLz hd hb.2.2.2.2
  have hrecv := va_recv X.2.1 hP hq (dx_wat hs)
  rw [hqc] at hrecv
  have hN : dx_N tM s := fun q hq => by cases hq
  have hpre : PreV s H z.cls (aM 0) (va_Pc ((Sum.inr 0 :: as).map (dx_z aM)) (dx_B tM (J.1, J.2.1, aM, J.2.2) τ)) (as.map (dx_z aM)) := ⟨dx_blind, hrecv, fun U hU hW => ⟨rfl, dx_Bwarm hU hW hP X.2.1 hD hN⟩⟩
  exact va_runV ⟨C.1, C.2.1, C.2.2.2.1, C.2.2.2.2.1, hts⟩ h1 ⟨callB_of as.length hts hG rfl rfl rfl (hts _ hb.2.2.1) (hts _ hlk) hb.2.2.2.1 hR, hts _ hin, hts _ hse⟩ hpre rfl (by rw [List.length_map]) hL rfl (lv_room h8) h ⟨by decide, by decide⟩
theorem lx_cX {z : MethodName} {ccz : ByteArray} {nLz ix d : Nat} {ty : FieldType} {po : dx_P} {fs : List (Nat ⊕ Bool)} (as : List dx_v) (r : List Value) (X : lx_X J aX aM p s m meth c b L xs) (hd : d ≤ 8) (h : decode code pc = .ok (.invokevirtual ix, 3)) (hc : dx_cv tX R_law ix z ccz nLz (some ty) as.length 0) (hlk : Cond.methodLink R_law ix z ∈ dx_wA) (hs : tX.2.2.2[0]? = some (.inr (0, fs))) (h8 : (r.map fun v => v.category).sum ≤ 8) (hst : st = (as.map (dx_z aX)).reverse ++ .ref (aX 0) :: r) (h1 : dx_M tX (J.1, J.2.1, aX, J.2.2) d z ccz nLz (some ty) (.inr 0 :: as) σ po) (kk : ∀ (x : Int32) (σ' : dx_V), po (some x) σ' → lx_G J aX aM p e s m below meth c b i (pc + 3) (.int x :: r) σ' τ) : lx_G J aX aM p e s m below meth c b i pc st σ τ := by
  intro H locs ls hL g1 g2 g3 g4 hS
  subst hst
  exact va_calli (a := (Value.ref (aX 0) :: as.map (dx_z aX)).toArray) (S := dx_V) (post := fun x σ' => po (some x) σ') (B := dx_B tX (J.1, J.2.1, aX, J.2.2)) (A1 := dx_A tX (J.1, J.2.1, aX, J.2.2)) (lx_runX X hd h hc hlk hs h8 h1 hL.1 g1 g2) hS (fun q _ hq => (X.2.2.2.1 q hq).1) (fun q hq => (X.2.2.2.1 q hq).1) (fun x σ' u H1 locs1 hu hvm hp hB hz hk hS1 => kk x σ' hp H1 locs1 ls hL (by rw [← hu]; exact hB.1) hB.2.2.1 (g3.kept (fun k q hq => hk q.1 (g3 k q hq).lt (fun z => (X.2.2.2.1 q.1 z).2 (g4.2 k q hq)))) g4 hS1)
theorem lx_cXv {z : MethodName} {ccz : ByteArray} {nLz ix d : Nat} {po : dx_P} {fs : List (Nat ⊕ Bool)} (as : List dx_v) (r : List Value) (X : lx_X J aX aM p s m meth c b L xs) (hd : d ≤ 8) (h : decode code pc = .ok (.invokevirtual ix, 3)) (hc : dx_cv tX R_law ix z ccz nLz none as.length 0) (hlk : Cond.methodLink R_law ix z ∈ dx_wA) (hs : tX.2.2.2[0]? = some (.inr (0, fs))) (h8 : (r.map fun v => v.category).sum ≤ 8) (hst : st = (as.map (dx_z aX)).reverse ++ .ref (aX 0) :: r) (h1 : dx_M tX (J.1, J.2.1, aX, J.2.2) d z ccz nLz none (.inr 0 :: as) σ po) (kk : ∀ (σ' : dx_V), po none σ' → lx_G J aX aM p e s m below meth c b i (pc + 3) r σ' τ) : lx_G J aX aM p e s m below meth c b i pc st σ τ := by
  intro H locs ls hL g1 g2 g3 g4 hS
  subst hst
  exact va_callv (a := (Value.ref (aX 0) :: as.map (dx_z aX)).toArray) (S := dx_V) (post := fun σ' => po none σ') (B := dx_B tX (J.1, J.2.1, aX, J.2.2)) (A1 := dx_A tX (J.1, J.2.1, aX, J.2.2)) (lx_runX X hd h hc hlk hs h8 h1 hL.1 g1 g2) hS (fun q _ hq => (X.2.2.2.1 q hq).1) (fun q hq => (X.2.2.2.1 q hq).1) (fun σ' u H1 locs1 hu hvm hp hB hz hk hS1 => kk σ' hp H1 locs1 ls hL (by rw [← hu]; exact hB.1) hB.2.2.1 (g3.kept (fun k q hq => hk q.1 (g3 k q hq).lt (fun z => (X.2.2.2.1 q.1 z).2 (g4.2 k q hq)))) g4 hS1)
theorem lx_cM {z : MethodName} {ccz : ByteArray} {nLz ix d : Nat} {ty : FieldType} {po : dx_P} {fs : List (Nat ⊕ Bool)} (as : List dx_v) (r : List Value) (X : lx_X J aX aM p s m meth c b L xs) (hd : d ≤ 8) (h : decode code pc = .ok (.invokevirtual ix, 3)) (hc : dx_cv tM R_law ix z ccz nLz (some ty) as.length 9) (hlk : Cond.methodLink R_law ix z ∈ dx_wA) (hs : tM.2.2.2[0]? = some (.inr (9, fs))) (h8 : (r.map fun v => v.category).sum ≤ 8) (hst : st = (as.map (dx_z aM)).reverse ++ .ref (aM 0) :: r) (h1 : dx_M tM (J.1, J.2.1, aM, J.2.2) d z ccz nLz (some ty) (.inr 0 :: as) τ po) (kk : ∀ (x : Int32) (τ' : dx_V), po (some x) τ' → lx_G J aX aM p e s m below meth c b i (pc + 3) (.int x :: r) σ τ') : lx_G J aX aM p e s m below meth c b i pc st σ τ := by
  intro H locs ls hL g1 g2 g3 g4 hS
  subst hst
  exact va_calli (a := (Value.ref (aM 0) :: as.map (dx_z aM)).toArray) (S := dx_V) (post := fun x σ' => po (some x) σ') (B := dx_B tM (J.1, J.2.1, aM, J.2.2)) (A1 := dx_A tM (J.1, J.2.1, aM, J.2.2)) (lx_runM X hd h hc hlk hs h8 h1 hL.1 g3 g4) hS (fun q _ hq => X.2.2.2.2 q hq) (fun q hq => X.2.2.2.2 q hq) (fun x σ' u H1 locs1 hu hvm hp hB hz hk hS1 => kk x σ' hp H1 locs1 ls hL (g1.kept (fun k q hq => hk q.1 (g1 k q hq).lt (fun z => (X.2.2.2.1 q.1 (g2.2 k q hq)).2 z))) g2 (by rw [← hu]; exact hB.1) hB.2.2.1 hS1)
theorem lx_cMv {z : MethodName} {ccz : ByteArray} {nLz ix d : Nat} {po : dx_P} {fs : List (Nat ⊕ Bool)} (as : List dx_v) (r : List Value) (X : lx_X J aX aM p s m meth c b L xs) (hd : d ≤ 8) (h : decode code pc = .ok (.invokevirtual ix, 3)) (hc : dx_cv tM R_law ix z ccz nLz none as.length 9) (hlk : Cond.methodLink R_law ix z ∈ dx_wA) (hs : tM.2.2.2[0]? = some (.inr (9, fs))) (h8 : (r.map fun v => v.category).sum ≤ 8) (hst : st = (as.map (dx_z aM)).reverse ++ .ref (aM 0) :: r) (h1 : dx_M tM (J.1, J.2.1, aM, J.2.2) d z ccz nLz none (.inr 0 :: as) τ po) (kk : ∀ (τ' : dx_V), po none τ' → lx_G J aX aM p e s m below meth c b i (pc + 3) r σ τ') : lx_G J aX aM p e s m below meth c b i pc st σ τ := by
  intro H locs ls hL g1 g2 g3 g4 hS
  subst hst
  exact va_callv (a := (Value.ref (aM 0) :: as.map (dx_z aM)).toArray) (S := dx_V) (post := fun σ' => po none σ') (B := dx_B tM (J.1, J.2.1, aM, J.2.2)) (A1 := dx_A tM (J.1, J.2.1, aM, J.2.2)) (lx_runM X hd h hc hlk hs h8 h1 hL.1 g3 g4) hS (fun q _ hq => X.2.2.2.2 q hq) (fun q hq => X.2.2.2.2 q hq) (fun σ' u H1 locs1 hu hvm hp hB hz hk hS1 => kk σ' hp H1 locs1 ls hL (g1.kept (fun k q hq => hk q.1 (g1 k q hq).lt (fun z => (X.2.2.2.1 q.1 (g2.2 k q hq)).2 z))) g2 (by rw [← hu]; exact hB.1) hB.2.2.1 hS1)
end LX
