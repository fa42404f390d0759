/-! A machine for the constructors: the world is a list that grows; new cells' addresses are variables. -/
abbrev kx_E : Type := Launch × va_G × ClassId × ClassId
def kx_t (J : kx_E) : List (ClassId × FieldType) := [(J.2.2.1, .int), (J.2.2.2, .boolean)]
def kx_nl : List (String × Nat × MethodName × String) := [(RMC, 18, yTT_init, RMC), (RMC, 25, yAT_init, RMC), (RRU, 11, ySI_init, RMC), (RRU, 35, ySV_init, RMC)]
def kx_N (U : State) : Prop := ∀ q ∈ kx_nl, va_Nw (.methodLinkNest q.1 q.2.1 q.2.2.1 q.2.2.2) U
def kx_K (J : kx_E) (U : State) : Prop := va_K J.2.1 dx_cl (kx_t J) U ∧ kx_N U
def kx_B (J : kx_E) (A : Nat → Prop) (w : va_W) (t : State) : Prop := va_P J.2.1 dx_cl w t.heap ∧ kx_K J t ∧ va_D A w
def kx_R (f mc ms : Nat) : Room := { frames := f, cells := mc, slots := ms, locals := 28 * f }
def kx_Pc (J : kx_E) (h0 : Nat) (as : List Value) (e0 : va_E) (sz : Nat) : Array Value → State → Prop := va_Pc (.ref h0 :: as) (fun U => U.heap.size = sz ∧ va_P J.2.1 dx_cl [(h0, e0)] U.heap ∧ kx_K J U ∧ va_D (fun _ => True) [(h0, e0)])
def kx_M (J : kx_E) (f mc ms : Nat) (y : MethodName) (cc : ByteArray) (nL : Nat) (h0 : Nat) (as : List Value) (e0 : va_E) (post : va_W → Prop) : Prop :=
  ∀ sz : Nat, Met J.1 y (Cond.code y cc nL none :: dx_wA) (kx_R f mc ms) (kx_Pc J h0 as e0 sz) (va_Qv (S := va_W) post (kx_B J (va_A [(h0, e0)] sz)) (va_A [(h0, e0)] sz)) mc ms (va_A [(h0, e0)] sz)
def kx_X (J : kx_E) (own : String) (cc : ByteArray) (nL : Nat) (p : Program) (s : State) (m : MethodId) (args : Array Value) (meth : Method) (c : Code) : Prop :=
  p.tables.exec = Jvm.exec ∧ c.code = cc ∧ c.maxLocals = nL ∧ meth.sig.returnType = none ∧ meth.locks = false ∧ s.vm.findClass own = some m.cls ∧ (∀ w ∈ dx_wA, w.before args s = true) ∧ kx_K J s ∧ meth.name = "<init>"
def kx_G (J : kx_E) (f mc ms : Nat) (own : String) (cc : ByteArray) (nL : Nat) (lv : List (Nat × Value)) (post : va_W → Prop) (pc : Nat) (st : List Value) (ws : va_W) (cells slots : Nat) : Prop :=
  ∀ (p : Program) (e : Env) (s : State) (m : MethodId) (args : Array Value) (below : List Frame) (meth : Method) (c : Code) (A : Nat → Prop) (H : Heap) (locs : List Loc) (ls : Array Slot),
    kx_X J own cc nL p s m args meth c → lv_has ls nL lv → (∀ q : Nat, s.heap.size ≤ q → A q) → va_P J.2.1 dx_cl ws H → va_D A ws → va_S A s.heap H locs →
    W p J.1 e (kx_R f mc ms) s m args below meth c H locs cells slots (MQ below (va_Qv (S := va_W) post (kx_B J A) A) args s mc ms A) (F0 m pc ls st)
theorem kx_Nmoved {s U : State} (hW : s.WarmedH U.vm) (h : kx_N s) : kx_N U := fun q hq => va_Nw.warmM hW (h q hq)
theorem kx_Ncall {U : State} {g : JFrame} {mk : MethodId} {a : Array Value} (h : kx_N U) : kx_N (U.calling g mk a) := fun q hq => va_Nw.same (U := U.calling g mk a) rfl rfl (h q hq)
theorem kx_Kmoved {J : kx_E} {s U : State} (hW : s.WarmedH U.vm) (h : kx_K J s) : kx_K J U := ⟨va_K.moved hW.alike h.1, kx_Nmoved hW h.2⟩
theorem kx_blind {J : kx_E} {h0 : Nat} {as : List Value} {e0 : va_E} {sz : Nat} : FrameBlind (kx_Pc J h0 as e0 sz) := by
  intro a U g mk q
  obtain ⟨q0, q1, qP, qK, qD⟩ := q
  exact ⟨q0, q1, qP, ⟨va_K.moved (u := U) (U := U.calling g mk a) (Vm.Alike.refl U.vm) qK.1, kx_Ncall qK.2⟩, qD⟩
theorem kx_good {z : MethodName} {ccz : ByteArray} {nLz : Nat} (hb : Cond.code z ccz nLz none ∈ dx_wA) : GoodIn dx_wA (Cond.code z ccz nLz none :: dx_wA) := by
  intro w hw
  rcases List.mem_cons.mp hw with rfl | hw
  · exact ⟨hb, dx_wA_good _ hb⟩
  · exact ⟨hw, dx_wA_good w hw⟩
theorem kx_entry {J : kx_E} {f mc ms : Nat} {y : MethodName} {cc : ByteArray} {nL h0 : Nat} {as : List Value} {e0 : va_E} {post : va_W → Prop} {lv : List (Nat × Value)} (hy : plainName y.cls = true) (hy1 : y.name = "<init>") (hn : (lg_sl (.ref h0 :: as)).length ≤ nL) (hlv : lv_args 0 (.ref h0 :: as) = lv) (hg : kx_G J f mc ms y.cls cc nL lv post 0 [] [(h0, e0)] 0 0) : kx_M J f mc ms y cc nL h0 as e0 post := by
  subst hlv
  intro sz
  refine Met.ofW (cc := cc) (maxL := nL) (ret := none) hy rfl ?_
  intro p e s m args below meth c s₁ B hml hv
  obtain ⟨rfl, hsz, hP, hK, hD0⟩ := hv
  have hts := atoms_spec (ws := Cond.code y cc nL none :: dx_wA) B.pre
  have hl := lv_entry (.ref h0 :: as) (n := nL) hn
  subst hsz
  rw [lg_entry_eq]
  exact hg p e s m _ below meth c _ s.heap [] _ ⟨B.exec, B.bytes, hml, B.returns, B.notSynchronized, findClass_of_methodNamed B.named, fun w hw => hts w (List.mem_cons_of_mem _ hw), hK, ((name_of_methodNamed B.named B.method).1).trans hy1⟩ hl (fun q h => Or.inr h) hP hD0.self va_S.rf
section KX
variable {J : kx_E} {f mc ms : Nat} {own : String} {cc : ByteArray} {nL : Nat} {lv : List (Nat × Value)} {post : va_W → Prop} {pc : Nat} {st : List Value} {ws : va_W} {cells slots : Nat}
theorem kx_ws {ws' : va_W} (h : ws = ws') (kk : kx_G J f mc ms own cc nL lv post pc st ws' cells slots) : kx_G J f mc ms own cc nL lv post pc st ws cells slots := h ▸ kk
theorem kx_aload {k : Fin 4} {x : Nat} (i : Nat) (h : decode cc pc = .ok (.aload_n k, 1)) (hl : lv[i]? = some (k.val, .ref x)) (kk : kx_G J f mc ms own cc nL lv post (pc + 1) (.ref x :: st) ws cells slots) : kx_G J f mc ms own cc nL lv post pc st ws cells slots := by
  intro p e s m args below meth c A H locs ls X hL hA hP hD hS
  exact lv_aload_n X.1 X.2.1 h rfl (lv_at hL i hl) (kk p e s m args below meth c A H locs ls X hL hA hP hD hS)
theorem kx_iload {k : Fin 4} {x : Int32} (i : Nat) (h : decode cc pc = .ok (.iload_n k, 1)) (hl : lv[i]? = some (k.val, .int x)) (kk : kx_G J f mc ms own cc nL lv post (pc + 1) (.int x :: st) ws cells slots) : kx_G J f mc ms own cc nL lv post pc st ws cells slots := by
  intro p e s m args below meth c A H locs ls X hL hA hP hD hS
  exact lv_iload_n X.1 X.2.1 h rfl (lv_at hL i hl) (kk p e s m args below meth c A H locs ls X hL hA hP hD hS)
theorem kx_iconst {n0 : Int} {v : Int32} (h : decode cc pc = .ok (.iconst n0, 1)) (hv : Int32.ofInt n0 = v) (kk : kx_G J f mc ms own cc nL lv post (pc + 1) (.int v :: st) ws cells slots) : kx_G J f mc ms own cc nL lv post pc st ws cells slots := by
  intro p e s m args below meth c A H locs ls X hL hA hP hD hS
  exact lv_iconst X.1 X.2.1 h hv (kk p e s m args below meth c A H locs ls X hL hA hP hD hS)
theorem kx_bipush {n0 : Int} {v : Int32} (h : decode cc pc = .ok (.bipush n0, 2)) (hv : (Int8.ofInt n0).toInt32 = v) (kk : kx_G J f mc ms own cc nL lv post (pc + 2) (.int v :: st) ws cells slots) : kx_G J f mc ms own cc nL lv post pc st ws cells slots := by
  intro p e s m args below meth c A H locs ls X hL hA hP hD hS
  exact lv_bipush X.1 X.2.1 h hv (kk p e s m args below meth c A H locs ls X hL hA hP hD hS)
theorem kx_sipush {n0 : Int} {v : Int32} (h : decode cc pc = .ok (.sipush n0, 3)) (hv : (Int16.ofInt n0).toInt32 = v) (kk : kx_G J f mc ms own cc nL lv post (pc + 3) (.int v :: st) ws cells slots) : kx_G J f mc ms own cc nL lv post pc st ws cells slots := by
  intro p e s m args below meth c A H locs ls X hL hA hP hD hS
  exact lv_sipush X.1 X.2.1 h hv (kk p e s m args below meth c A H locs ls X hL hA hP hD hS)
theorem kx_dup {x : Nat} (h : decode cc pc = .ok (.dup, 1)) (kk : kx_G J f mc ms own cc nL lv post (pc + 1) (.ref x :: .ref x :: st) ws cells slots) : kx_G J f mc ms own cc nL lv post pc (.ref x :: st) ws cells slots := by
  intro p e s m args below meth c A H locs ls X hL hA hP hD hS
  exact lv_dup X.1 X.2.1 h rfl (kk p e s m args below meth c A H locs ls X hL hA hP hD hS)
theorem kx_obj {x ix : Nat} (h : decode cc pc = .ok (.invokespecial ix, 3)) (hl : Cond.methodLink own ix Lib.objectInit ∈ dx_wA) (hi : Cond.instanceMethod Lib.objectInit ∈ dx_wA) (hc : Cond.code Lib.objectInit ⟨#[0xb1]⟩ 1 none ∈ dx_wA) (hf : 1 ≤ f) (kk : kx_G J f mc ms own cc nL lv post (pc + 3) [] ws cells slots) : kx_G J f mc ms own cc nL lv post pc [.ref x] ws cells slots := by
  intro p e s m args below meth c A H locs ls X hL hA hP hD hS
  refine W.objInit X.1 X.2.1 X.2.2.2.2.2.1 (X.2.2.2.2.2.2.1 _ hl) (X.2.2.2.2.2.2.1 _ hi) (X.2.2.2.2.2.2.1 _ hc) rfl (hL.1.trans X.2.2.1.symm) rfl h hf (by show 2 * (F0 m pc ls [.ref x]).monitorRoom + 0 + 12 ≤ 28 * f; have := lv_room (m := m) (pc := pc) (ls := ls) (rest := [Value.ref x]) (st := []) (by decide); simp at this ⊢; omega) ?_
  exact kk p e s m args below meth c A H locs ls X hL hA hP hD hS
theorem kx_new {C : String} {T : u_T} {N ci ix : Nat} {ty : Nat → FieldType} {fs : List Value} (h : decode cc pc = .ok (.new ix, 3)) (hlay : ∀ w ∈ u_ws C T N, w ∈ dx_wA) (hty : ∀ k, k < N → parseFieldDescriptor (T k).2.2.1 = some (ty k)) (hcl : Cond.classLink own ix C ∈ dx_wA) (hi : Cond.instantiable C N ∈ dx_wA) (hini : Cond.initialized C ∈ dx_wA) (hc : dx_cl[ci]? = some (C, T, N)) (hfs : ∀ j, j < N → defaultValue (ty j) = vp_V fs j) (h1 : cells + 1 ≤ mc) (h2 : slots + N ≤ ms) (kk : ∀ q : Nat, kx_G J f mc ms own cc nL lv post (pc + 3) (.ref q :: st) (ws ++ [(q, .inr (ci, fs))]) (cells + 1) (slots + N)) : kx_G J f mc ms own cc nL lv post pc st ws cells slots := by
  intro p e s m args below meth c A H locs ls X hL hA hP hD hS
  exact va_new X.1 X.2.1 X.2.2.2.2.2.2.1 hlay ty hty X.2.2.2.2.2.1 (X.2.2.2.2.2.2.1 _ hcl) (X.2.2.2.2.2.2.1 _ hi) (X.2.2.2.2.2.2.1 _ hini) X.2.2.2.2.2.2.2.1.1 hP hD hS hA hc hfs h1 h2 h (fun q H1 hP1 hD1 hS1 => kk q p e s m args below meth c A H1 locs ls X hL hA hP1 hD1 hS1)
theorem kx_newi {n : Int32} {n0 : Nat} (h : decode cc pc = .ok (.newarray .int, 2)) (ha : Cond.arrayClass .int ∈ dx_wA) (hn : ¬ n < 0) (hN : n.toNatClampNeg = n0) (hb : n0 ≤ 1000) (h1 : cells + 1 ≤ mc) (h2 : slots + n0 ≤ ms) (kk : ∀ q : Nat, kx_G J f mc ms own cc nL lv post (pc + 2) (.ref q :: st) (ws ++ [(q, .inl (J.2.2.1, n0, .inl (fun _ => 0)))]) (cells + 1) (slots + n0)) : kx_G J f mc ms own cc nL lv post pc (.int n :: st) ws cells slots := by
  intro p e s m args below meth c A H locs ls X hL hA hP hD hS
  refine va_newa (a0 := (n0, .inl (fun _ => 0))) X.1 X.2.1 (atype := .int) (X.2.2.2.2.2.2.1 _ ha) (ty := .int) rfl X.2.2.2.2.2.2.2.1.1 hP hD hS hA (fun _ => rfl) hn hN (by show n0 * 4 ≤ 536870912; omega) h1 h2 h (fun q cA H1 hK1 hP1 hD1 hS1 => ?_)
  have e1 : s.vm.findClass ("[" ++ FieldType.int.toString) = some cA := (hK1.2 2 (cA, .int) rfl).2
  have e2 : s.vm.findClass ("[" ++ FieldType.int.toString) = some J.2.2.1 := (X.2.2.2.2.2.2.2.1.1.2 0 (J.2.2.1, .int) rfl).2
  have e3 : cA = J.2.2.1 := Option.some.inj (e1.symm.trans e2)
  subst e3
  exact kk q p e s m args below meth c A H1 locs ls X hL hA hP1 hD1 hS1
theorem kx_newz {n : Int32} {n0 : Nat} (h : decode cc pc = .ok (.newarray .boolean, 2)) (ha : Cond.arrayClass .boolean ∈ dx_wA) (hn : ¬ n < 0) (hN : n.toNatClampNeg = n0) (hb : n0 ≤ 1000) (h1 : cells + 1 ≤ mc) (h2 : slots + n0 ≤ ms) (kk : ∀ q : Nat, kx_G J f mc ms own cc nL lv post (pc + 2) (.ref q :: st) (ws ++ [(q, .inl (J.2.2.2, n0, .inl (fun _ => 0)))]) (cells + 1) (slots + n0)) : kx_G J f mc ms own cc nL lv post pc (.int n :: st) ws cells slots := by
  intro p e s m args below meth c A H locs ls X hL hA hP hD hS
  refine va_newa (a0 := (n0, .inl (fun _ => 0))) X.1 X.2.1 (atype := .boolean) (X.2.2.2.2.2.2.1 _ ha) (ty := .boolean) rfl X.2.2.2.2.2.2.2.1.1 hP hD hS hA (fun _ => rfl) hn hN (by show n0 * 1 ≤ 536870912; omega) h1 h2 h (fun q cA H1 hK1 hP1 hD1 hS1 => ?_)
  have e1 : s.vm.findClass ("[" ++ FieldType.boolean.toString) = some cA := (hK1.2 2 (cA, .boolean) rfl).2
  have e2 : s.vm.findClass ("[" ++ FieldType.boolean.toString) = some J.2.2.2 := (X.2.2.2.2.2.2.2.1.1.2 1 (J.2.2.2, .boolean) rfl).2
  have e3 : cA = J.2.2.2 := Option.some.inj (e1.symm.trans e2)
  subst e3
  exact kk q p e s m args below meth c A H1 locs ls X hL hA hP1 hD1 hS1
theorem kx_putF {C : String} {T : u_T} {N ci ix a : Nat} {ty : Nat → FieldType} {fs : List Value} {v : Value} (q0 j : Nat) (h : decode cc pc = .ok (.putfield ix, 3)) (hlay : ∀ w ∈ u_ws C T N, w ∈ dx_wA) (hty : ∀ k, k < N → parseFieldDescriptor (T k).2.2.1 = some (ty k)) (hnm : ∀ a, a < N → ∀ b, b < N → a ≠ b → (T a).2.1 ≠ (T b).2.1) (hl : Cond.fieldLink own ix (T j).1 (T j).2.1 (T j).2.2.1 ∈ dx_wA) (hc : dx_cl[ci]? = some (C, T, N)) (he : ws[q0]? = some (a, .inr (ci, fs))) (hj : j < N) (hfin : (T j).2.2.2 = true) (hdecl : (T j).1 = own) (hn : narrow (ty j) v = v) (hfit : fits (ty j) v = true) (hlen : j < fs.length) (kk : kx_G J f mc ms own cc nL lv post (pc + 3) st (ws.set q0 (a, .inr (ci, fs.set j v))) cells slots) : kx_G J f mc ms own cc nL lv post pc (v :: .ref a :: st) ws cells slots := by
  intro p e s m args below meth c A H locs ls X hL hA hP hD hS
  exact va_putF X.1 X.2.1 X.2.2.2.2.2.2.1 hlay ty hty hnm X.2.2.2.2.2.1 X.2.2.2.2.2.2.2.1.1 hP hD hS q0 he hc j hj (X.2.2.2.2.2.2.1 _ hl) (fun _ z => z) hfin X.2.2.2.2.2.2.2.2 hdecl (hty j hj) hn hfit hlen h (fun H1 locs1 hP1 hD1 hS1 => kk p e s m args below meth c A H1 locs1 ls X hL hA hP1 hD1 hS1)
theorem kx_put {C : String} {T : u_T} {N ci ix a : Nat} {ty : Nat → FieldType} {fs : List Value} {v : Value} (q0 j : Nat) (h : decode cc pc = .ok (.putfield ix, 3)) (hlay : ∀ w ∈ u_ws C T N, w ∈ dx_wA) (hty : ∀ k, k < N → parseFieldDescriptor (T k).2.2.1 = some (ty k)) (hnm : ∀ a, a < N → ∀ b, b < N → a ≠ b → (T a).2.1 ≠ (T b).2.1) (hl : Cond.fieldLink own ix (T j).1 (T j).2.1 (T j).2.2.1 ∈ dx_wA) (hc : dx_cl[ci]? = some (C, T, N)) (he : ws[q0]? = some (a, .inr (ci, fs))) (hj : j < N) (hfin : (T j).2.2.2 = false) (hn : narrow (ty j) v = v) (hfit : fits (ty j) v = true) (hlen : j < fs.length) (kk : kx_G J f mc ms own cc nL lv post (pc + 3) st (ws.set q0 (a, .inr (ci, fs.set j v))) cells slots) : kx_G J f mc ms own cc nL lv post pc (v :: .ref a :: st) ws cells slots := by
  intro p e s m args below meth c A H locs ls X hL hA hP hD hS
  exact va_put X.1 X.2.1 X.2.2.2.2.2.2.1 hlay ty hty hnm X.2.2.2.2.2.1 X.2.2.2.2.2.2.2.1.1 hP hD hS q0 he hc j hj (X.2.2.2.2.2.2.1 _ hl) (fun _ z => z) hfin (hty j hj) hn hfit hlen h (fun H1 locs1 hP1 hD1 hS1 => kk p e s m args below meth c A H1 locs1 ls X hL hA hP1 hD1 hS1)
theorem kx_get {C : String} {T : u_T} {N ci ix a : Nat} {fs : List Value} {v : Value} (q0 j : Nat) (h : decode cc pc = .ok (.getfield ix, 3)) (hlay : ∀ w ∈ u_ws C T N, w ∈ dx_wA) (hl : Cond.fieldLink own ix (T j).1 (T j).2.1 (T j).2.2.1 ∈ dx_wA) (hc : dx_cl[ci]? = some (C, T, N)) (he : ws[q0]? = some (a, .inr (ci, fs))) (hj : j < N) (hv : fs[j]? = some v) (kk : kx_G J f mc ms own cc nL lv post (pc + 3) (v :: st) ws cells slots) : kx_G J f mc ms own cc nL lv post pc (.ref a :: st) ws cells slots := by
  intro p e s m args below meth c A H locs ls X hL hA hP hD hS
  exact va_get X.1 X.2.1 X.2.2.2.2.2.2.1 hlay X.2.2.2.2.2.1 X.2.2.2.2.2.2.2.1.1 hP q0 he hc j hj (X.2.2.2.2.2.2.1 _ hl) (fun _ z => z) hv h (kk p e s m args below meth c A H locs ls X hL hA hP hD hS)
theorem kx_iast {a n0 : Nat} {g : Nat → Int32} {i x : Int32} (q0 : Nat) (h : decode cc pc = .ok (.iastore, 1)) (he : ws[q0]? = some (a, .inl (J.2.2.1, n0, .inl g))) (hi : vp_in i n0) (kk : kx_G J f mc ms own cc nL lv post (pc + 1) st (ws.set q0 (a, .inl (J.2.2.1, n0, .inl (upd g i.toNatClampNeg x)))) cells slots) : kx_G J f mc ms own cc nL lv post pc (.int x :: .int i :: .ref a :: st) ws cells slots := by
  intro p e s m args below meth c A H locs ls X hL hA hP hD hS
  exact va_iast X.1 X.2.1 X.2.2.2.2.2.2.2.1.1 hP hD hS q0 0 he rfl hi h (fun H1 locs1 hP1 hD1 hS1 => kk p e s m args below meth c A H1 locs1 ls X hL hA hP1 hD1 hS1)
theorem kx_vret (h : decode cc pc = .ok (.return_, 1)) (h1 : cells ≤ mc) (h2 : slots ≤ ms) (hp : post ws) : kx_G J f mc ms own cc nL lv post pc [] ws cells slots := by
  intro p e s m args below meth c A H locs ls X hL hA hP hD hS
  refine W.widen (k := mc) (n := ms) h1 h2 ?_
  have hlocks := X.2.2.2.2.1
  exact W.vret X.1 X.2.1 X.2.2.2.1 (fun u hu hW => ⟨⟨ws, rfl, hp, by rw [hu]; exact hP, kx_Kmoved hW X.2.2.2.2.2.2.2.1, hD⟩, hS.F hu⟩) hS.2.2 h
theorem kx_call {z : MethodName} {ccz : ByteArray} {nLz fz mz sz ix q : Nat} {e0 : va_E} {pz : va_W → Prop} {wr : va_W} (as r : List Value) (isC isR : List Nat) (h : decode cc pc = .ok (.invokespecial ix, 3)) (hlk : Cond.methodLink own ix z ∈ dx_wA ∨ (own, ix, z, RMC) ∈ kx_nl) (hcode : Cond.code z ccz nLz none ∈ dx_wA) (hini : Cond.initialized z.cls ∈ dx_wA) (hin : Cond.instanceMethod z ∈ dx_wA) (hz : z.name = "<init>") (hd : z.cls ≠ "java/lang/invoke/MethodHandle" ∧ z.cls ≠ "java/lang/invoke/VarHandle" ∧ (parseMethodDescriptor z.desc).map (fun d => d.parameters.length) = some as.length) (hL9 : nLz ≤ 9) (hst : st = as.reverse ++ .ref q :: r) (h8 : (r.map fun v => v.category).sum ≤ 8) (hC : isC.map (fun i => ws[i]?) = [some (q, e0)]) (hR : isR.map (fun i => ws[i]?) = wr.map some) (hnd : va_nd isR = true) (hdis : ∀ i ∈ isR, i ∉ isC) (hfr : fz + 1 ≤ f) (h1 : cells + mz ≤ mc) (h2 : slots + sz ≤ ms) (hM : kx_M J fz mz sz z ccz nLz q as e0 pz) (kk : ∀ w1 : va_W, pz w1 → kx_G J f mc ms own cc nL lv post (pc + 3) r (wr ++ w1) (cells + mz) (slots + sz)) : kx_G J f mc ms own cc nL lv post pc st ws cells slots := by
  intro p e s m args below meth c A H locs ls X hL hA hP hD hS
  subst hst
  have hG := kx_good hcode
  have hRm : (kx_R fz mz sz).frames + 1 ≤ (kx_R f mc ms).frames ∧ 8 + (nLz + 11) + (kx_R fz mz sz).locals ≤ (kx_R f mc ms).locals := ⟨hfr, by show 8 + (nLz + 11) + 28 * fz ≤ 28 * f; omega⟩
  have hC' : isC.map (fun i => ws[i]?) = ([(q, e0)] : va_W).map some := hC
  have hPc : va_P J.2.1 dx_cl [(q, e0)] H := by
    intro k x hx
    have hz : k < 1 := (List.getElem?_eq_some_iff.mp hx).1
    rw [show k = 0 by omega] at hx
    cases hx
    have : (some (q, e0) : Option (Nat × va_E)) ∈ isC.map (fun i => ws[i]?) := by rw [hC]; exact List.mem_cons_self
    obtain ⟨i, -, hi⟩ := List.mem_map.mp this
    exact hP i _ hi
  have hFc := va_free (wc := [(q, e0)]) hD hS hA isC hC'
  have hpre : PreS s H (kx_Pc J q as e0 H.size) (.ref q :: as) := ⟨kx_blind, fun U hU hW => ⟨rfl, by rw [hU], by rw [hU]; exact hPc, kx_Kmoved hW X.2.2.2.2.2.2.2.1, ⟨fun i j x y hx hy _ => by
    have := (List.getElem?_eq_some_iff.mp hx).1
    have := (List.getElem?_eq_some_iff.mp hy).1
    simp only [List.length_singleton] at *
    omega, fun _ _ _ => trivial⟩⟩⟩
  have hrun : va_Run p J.1 e (kx_R f mc ms) s m args below meth c H locs cells slots mz sz (F0 m pc ls (as.reverse ++ .ref q :: r)) r (va_Qv (S := va_W) pz (kx_B J (va_A [(q, e0)] H.size)) (va_A [(q, e0)] H.size) (Value.ref q :: as).toArray) (va_A [(q, e0)] H.size) := by
    rcases hlk with hlk | hlk
    · exact va_runI ⟨X.1, X.2.1, X.2.2.1, X.2.2.2.2.2.1, X.2.2.2.2.2.2.1⟩ (hM H.size) (cwI as.length X.2.2.2.2.2.2.1 hG rfl rfl rfl (X.2.2.2.2.2.2.1 _ hini) (X.2.2.2.2.2.2.1 _ hlk) (X.2.2.2.2.2.2.1 _ hin) hz hd hRm) hpre rfl rfl hL.1 rfl (lv_room h8) h ⟨h1, h2⟩
    · exact va_runIN ⟨X.1, X.2.1, X.2.2.1, X.2.2.2.2.2.1, X.2.2.2.2.2.2.1⟩ (hM H.size) ⟨va_cnB as.length X.2.2.2.2.2.2.1 hG rfl rfl rfl (X.2.2.2.2.2.2.2.1.2 _ hlk) (X.2.2.2.2.2.2.1 _ hini) hd hRm, hz, X.2.2.2.2.2.2.1 _ hin⟩ hpre rfl rfl hL.1 rfl (lv_room h8) h ⟨h1, h2⟩
  refine va_callv hrun hS (fun x _ hx => hFc x hx) hFc (fun w1 t H1 locs1 ht hvm hp hB hz1 hk1 hS1 => ?_)
  obtain ⟨hP1, hK1, hD1⟩ := hB
  rw [ht] at hP1
  obtain ⟨hP2, hD2⟩ := va_join (wr := wr) (w1 := w1) hP hD isC isR hC' hR hnd hdis hk1 hFc hP1 hD1
  exact kk w1 hp p e s m args below meth c A H1 locs1 ls X hL hA hP2 hD2 hS1
end KX
