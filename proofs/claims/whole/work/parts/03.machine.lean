/-! The machine over a fixed shape: values are ints or cells by their place in the shape; all that changes is σ : cell → place → Int32. dx_G: 'from here the method ends well'; dx_M: a method's contract. -/
abbrev dx_v : Type := Int32 ⊕ Nat
abbrev dx_c : Type := (Bool × Nat) ⊕ (Nat × List (Nat ⊕ Bool))
abbrev dx_V : Type := Nat → Nat → Int32
abbrev dx_P : Type := Option Int32 → dx_V → Prop
/-- a system: its words, its nest links, its classes, its shape -/
abbrev dx_T : Type := List Cond × List (String × Nat × MethodName × String) × List vw_C × List dx_c
/-- where it runs: launch, classes and slots, addresses, the classes int[] and boolean[] -/
abbrev dx_E : Type := Launch × va_G × (Nat → Nat) × ClassId × ClassId
def dx_z (ad : Nat → Nat) (v : dx_v) : Value := match v with
  | .inl x => .int x
  | .inr k => .ref (ad k)
def dx_f (ad : Nat → Nat) (g : Nat → Int32) (j : Nat) (r : Nat ⊕ Bool) : Value := match r with
  | .inl q => .ref (ad q)
  | .inr _ => .int (g j)
def dx_a (E : dx_E) (b : Bool) : ClassId := match b with
  | true => E.2.2.2.2
  | false => E.2.2.2.1
def dx_e (E : dx_E) (g : Nat → Int32) (c : dx_c) : va_E := match c with
  | .inl b => .inl (dx_a E b.1, b.2, .inl g)
  | .inr o => .inr (o.1, o.2.mapIdx (dx_f E.2.2.1 g))
def dx_w (t : dx_T) (E : dx_E) (σ : dx_V) : va_W := t.2.2.2.mapIdx (fun k c => (E.2.2.1 k, dx_e E (σ k) c))
def dx_u (σ : dx_V) (k j : Nat) (x : Int32) : dx_V := fun k' => if k' = k then upd (σ k') j x else σ k'
def dx_A (t : dx_T) (E : dx_E) : Nat → Prop := fun q => ∃ k, k < t.2.2.2.length ∧ q = E.2.2.1 k
def dx_ty (E : dx_E) : List (ClassId × FieldType) := [(E.2.2.2.1, .int), (E.2.2.2.2, .boolean)]
def dx_N (t : dx_T) (U : State) : Prop := ∀ q ∈ t.2.1, va_Nw (.methodLinkNest q.1 q.2.1 q.2.2.1 q.2.2.2) U
def dx_B (t : dx_T) (E : dx_E) (σ : dx_V) (U : State) : Prop := va_P E.2.1 t.2.2.1 (dx_w t E σ) U.heap ∧ va_K E.2.1 t.2.2.1 (dx_ty E) U ∧ va_D (dx_A t E) (dx_w t E σ) ∧ dx_N t U
def dx_Q (t : dx_T) (E : dx_E) (rt : Option FieldType) (post : dx_P) : Array Value → State → Outcome → State → Prop := match rt with
  | none => va_Qv (S := dx_V) (fun σ => post none σ) (dx_B t E) (dx_A t E)
  | some _ => va_Qi (S := dx_V) (fun r σ => post (some r) σ) (dx_B t E) (dx_A t E)
def dx_R (d : Nat) : Room := { frames := d, cells := 0, slots := 0, locals := 28 * d }
def dx_M (t : dx_T) (E : dx_E) (d : Nat) (y : MethodName) (cc : ByteArray) (nL : Nat) (rt : Option FieldType) (as : List dx_v) (σ : dx_V) (post : dx_P) : Prop :=
  Met E.1 y (Cond.code y cc nL rt :: t.1) (dx_R d) (va_Pc (as.map (dx_z E.2.2.1)) (dx_B t E σ)) (dx_Q t E rt post) 0 0 (dx_A t E)
def dx_h (ad : Nat → Nat) (ls : Array Slot) (nL : Nat) (L : List (Option dx_v)) : Prop := L.length = nL ∧ ∃ lv : List (Nat × Value), lv_has ls nL lv ∧ ∀ (i : Nat) (v : dx_v), L[i]? = some (some v) → (i, dx_z ad v) ∈ lv
def dx_X (t : dx_T) (E : dx_E) (own : String) (cc : ByteArray) (nL : Nat) (rt : Option FieldType) (p : Program) (s : State) (m : MethodId) (args : Array Value) (meth : Method) (c : Code) : Prop :=
  p.tables.exec = Jvm.exec ∧ c.code = cc ∧ c.maxLocals = nL ∧ meth.sig.returnType = rt ∧ meth.locks = false ∧ s.vm.findClass own = some m.cls ∧ (∀ w ∈ t.1, w.before args s = true) ∧ va_K E.2.1 t.2.2.1 (dx_ty E) s ∧ dx_N t s
def dx_G (t : dx_T) (E : dx_E) (d : Nat) (own : String) (cc : ByteArray) (nL : Nat) (rt : Option FieldType) (post : dx_P) (pc : Nat) (L : List (Option dx_v)) (st : List dx_v) (σ : dx_V) : Prop :=
  ∀ (p : Program) (e : Env) (s : State) (m : MethodId) (args : Array Value) (below : List Frame) (meth : Method) (c : Code) (H : Heap) (locs : List Loc) (ls : Array Slot),
    dx_X t E own cc nL rt p s m args meth c → dx_h E.2.2.1 ls nL L → va_P E.2.1 t.2.2.1 (dx_w t E σ) H → va_D (dx_A t E) (dx_w t E σ) → va_S (dx_A t E) s.heap H locs →
    W p E.1 e (dx_R d) s m args below meth c H locs 0 0 (MQ below (dx_Q t E rt post) args s 0 0 (dx_A t E)) (F0 m pc ls (st.map (dx_z E.2.2.1)))
-- a field link: own class, index; the class and the slot that it means
def dx_fl (t : dx_T) (own : String) (ix ci j : Nat) : Prop := ∃ (C : String) (T : u_T) (N : Nat), t.2.2.1[ci]? = some (C, T, N) ∧ j < N ∧ Cond.fieldLink own ix (T j).1 (T j).2.1 (T j).2.2.1 ∈ t.1 ∧ ∀ w ∈ u_ws C T N, w ∈ t.1
def dx_fp (t : dx_T) (own : String) (ix ci j : Nat) (b : Bool) : Prop := ∃ (C : String) (T : u_T) (N : Nat) (ty0 : Nat → FieldType), t.2.2.1[ci]? = some (C, T, N) ∧ j < N ∧ Cond.fieldLink own ix (T j).1 (T j).2.1 (T j).2.2.1 ∈ t.1 ∧ (∀ w ∈ u_ws C T N, w ∈ t.1) ∧ (∀ k, k < N → parseFieldDescriptor (T k).2.2.1 = some (ty0 k)) ∧ (∀ a, a < N → ∀ b, b < N → a ≠ b → (T a).2.1 ≠ (T b).2.1) ∧ (T j).2.2.2 = false ∧ ty0 j = (match b with | true => .boolean | false => .int)
-- a call link
def dx_lk (t : dx_T) (own : String) (ix : Nat) (y : MethodName) : Prop := Cond.methodLink own ix y ∈ t.1 ∨ ∃ host : String, (own, ix, y, host) ∈ t.2.1
def dx_cb (t : dx_T) (y : MethodName) (cc : ByteArray) (nL : Nat) (rt : Option FieldType) (n : Nat) : Prop := (∀ w ∈ t.1, (w.onTables && w.keeps) = true ∨ ∃ ty, w = .arrayClass ty) ∧ Cond.code y cc nL rt ∈ t.1 ∧ Cond.initialized y.cls ∈ t.1 ∧ (y.cls ≠ "java/lang/invoke/MethodHandle" ∧ y.cls ≠ "java/lang/invoke/VarHandle" ∧ (parseMethodDescriptor y.desc).map (fun d => d.parameters.length) = some n) ∧ nL ≤ 9
def dx_cs (t : dx_T) (own : String) (ix : Nat) (y : MethodName) (cc : ByteArray) (nL : Nat) (rt : Option FieldType) (n : Nat) : Prop := dx_lk t own ix y ∧ dx_cb t y cc nL rt n ∧ Cond.static y ∈ t.1
def dx_cv (t : dx_T) (own : String) (ix : Nat) (y : MethodName) (cc : ByteArray) (nL : Nat) (rt : Option FieldType) (n ci : Nat) : Prop := dx_lk t own ix y ∧ dx_cb t y cc nL rt n ∧ Cond.instanceMethod y ∈ t.1 ∧ Cond.selects y.cls y y ∈ t.1 ∧ ∃ q : vw_C, t.2.2.1[ci]? = some q ∧ q.1 = y.cls
theorem dx_at {ad : Nat → Nat} {ls : Array Slot} {nL i : Nat} {L : List (Option dx_v)} {v : dx_v} (h : dx_h ad ls nL L) (hl : L[i]? = some (some v)) : ls[i]? = some (.val (dx_z ad v)) := by
  obtain ⟨-, lv, h1, h2⟩ := h
  exact h1.2.2 _ (h2 i v hl)
theorem dx_cat (ad : Nat → Nat) (v : dx_v) : (dx_z ad v).category = 1 := by cases v <;> rfl
theorem dx_sizes {ad : Nat → Nat} {ls : Array Slot} {nL : Nat} {L : List (Option dx_v)} (h : dx_h ad ls nL L) : ls.size = nL := by
  obtain ⟨-, lv, h1, h2⟩ := h
  exact h1.1
theorem dx_set {ad : Nat → Nat} {ls' : Array Slot} {nL k : Nat} {L : List (Option dx_v)} {lv : List (Nat × Value)} {v : dx_v} (hn : L.length = nL) (h2 : ∀ (i : Nat) (v : dx_v), L[i]? = some (some v) → (i, dx_z ad v) ∈ lv) (h' : lv_has ls' nL ((k, dx_z ad v) :: lv.filter (fun q => !(q.1 == k) && !(q.1 + 1 == k && q.2.category == 2)))) : dx_h ad ls' nL (L.set k (some v)) := by
  refine ⟨by rw [List.length_set]; exact hn, _, h', fun i w hi => ?_⟩
  by_cases hik : i = k
  · subst hik
    rw [List.getElem?_set] at hi
    simp only [if_true] at hi
    split at hi
    · cases hi
      exact List.mem_cons_self
    · cases hi
  · rw [List.getElem?_set_ne (fun q => hik q.symm)] at hi
    refine List.mem_cons_of_mem _ (List.mem_filter.mpr ⟨h2 i w hi, ?_⟩)
    simp [hik, dx_cat]
theorem dx_wat {t : dx_T} {E : dx_E} {σ : dx_V} {k : Nat} {c : dx_c} (h : t.2.2.2[k]? = some c) : (dx_w t E σ)[k]? = some (E.2.2.1 k, dx_e E (σ k) c) := by
  unfold dx_w
  rw [List.getElem?_mapIdx, h]
  rfl
theorem dx_fset {ad : Nat → Nat} {g : Nat → Int32} {j : Nat} {x : Int32} {fs : List (Nat ⊕ Bool)} {b : Bool} (h : fs[j]? = some (.inr b)) : (fs.mapIdx (dx_f ad g)).set j (.int x) = fs.mapIdx (dx_f ad (upd g j x)) := by
  apply List.ext_getElem?
  intro i
  by_cases hij : i = j
  · subst hij
    have hl : i < (fs.mapIdx (dx_f ad g)).length := by rw [List.length_mapIdx]; exact (List.getElem?_eq_some_iff.mp h).1
    rw [List.getElem?_set_self hl, List.getElem?_mapIdx, h]
    simp [dx_f, upd]
  · rw [List.getElem?_set_ne (fun q => hij q.symm), List.getElem?_mapIdx, List.getElem?_mapIdx]
    cases fs[i]? with
    | none => rfl
    | some r => cases r <;> simp [dx_f, upd, hij]
theorem dx_eset {E : dx_E} {g : Nat → Int32} {j ci : Nat} {x : Int32} {fs : List (Nat ⊕ Bool)} {b : Bool} (h : fs[j]? = some (.inr b)) : dx_e E (upd g j x) (.inr (ci, fs)) = .inr (ci, (fs.mapIdx (dx_f E.2.2.1 g)).set j (.int x)) := by
  rw [dx_fset h]
  rfl
theorem dx_wset {t : dx_T} {E : dx_E} {σ : dx_V} {k j : Nat} {x : Int32} {c : dx_c} {e : va_E} (h : t.2.2.2[k]? = some c) (he : dx_e E (upd (σ k) j x) c = e) : (dx_w t E σ).set k (E.2.2.1 k, e) = dx_w t E (dx_u σ k j x) := by
  subst he
  apply List.ext_getElem?
  intro i
  have hl : k < (dx_w t E σ).length := by unfold dx_w; rw [List.length_mapIdx]; exact (List.getElem?_eq_some_iff.mp h).1
  by_cases hik : i = k
  · subst hik
    rw [List.getElem?_set_self hl, dx_wat h]
    simp [dx_u]
  · rw [List.getElem?_set_ne (fun q => hik q.symm)]
    unfold dx_w
    rw [List.getElem?_mapIdx, List.getElem?_mapIdx]
    simp [dx_u, hik]
theorem dx_Nmoved {t : dx_T} {s U : State} (hW : s.WarmedH U.vm) (h : dx_N t s) : dx_N t U := fun q hq => va_Nw.warmM hW (h q hq)
theorem dx_Ncall {t : dx_T} {U : State} {g : JFrame} {mk : MethodId} {a : Array Value} (h : dx_N t U) : dx_N t (U.calling g mk a) := fun q hq => va_Nw.same (U := U.calling g mk a) rfl rfl (h q hq)
theorem dx_blind {t : dx_T} {E : dx_E} {σ : dx_V} {av : List Value} : FrameBlind (va_Pc av (dx_B t E σ)) := by
  intro a U g mk q
  obtain ⟨q0, qP, qK, qD, qN⟩ := q
  exact ⟨q0, qP, va_K.moved (u := U) (U := U.calling g mk a) (Vm.Alike.refl U.vm) qK, qD, dx_Ncall qN⟩
theorem dx_Bwarm {t : dx_T} {E : dx_E} {σ : dx_V} {s U : State} {H : Heap} (hU : U.heap = H) (hW : s.WarmedH U.vm) (hP : va_P E.2.1 t.2.2.1 (dx_w t E σ) H) (hK : va_K E.2.1 t.2.2.1 (dx_ty E) s) (hD : va_D (dx_A t E) (dx_w t E σ)) (hN : dx_N t s) : dx_B t E σ U :=
  ⟨by rw [hU]; exact hP, va_K.moved hW.alike hK, hD, dx_Nmoved hW hN⟩
theorem dx_sl (ad : Nat → Nat) (as : List dx_v) : lg_sl (as.map (dx_z ad)) = as.map (fun v => Slot.val (dx_z ad v)) := by
  unfold lg_sl
  induction as with
  | nil => rfl
  | cons v r ih => rw [List.map_cons, List.flatMap_cons, ih, List.map_cons, dx_cat]; rfl
theorem dx_args (ad : Nat → Nat) (as : List dx_v) : ∀ (i0 i : Nat) (v : dx_v), as[i]? = some v → (i0 + i, dx_z ad v) ∈ lv_args i0 (as.map (dx_z ad)) := by
  induction as with
  | nil => intro i0 i v h; cases h
  | cons a r ih =>
    intro i0 i v h
    rw [List.map_cons, lv_args, dx_cat]
    cases i with
    | zero => cases h; exact List.mem_cons_self
    | succ i =>
      have := ih (i0 + 1) i v h
      rw [show i0 + (i + 1) = i0 + 1 + i by omega]
      exact List.mem_cons_of_mem _ this
theorem dx_sum (ad : Nat → Nat) (r : List dx_v) : ((r.map (dx_z ad)).map fun v => v.category).sum = r.length := by
  induction r with
  | nil => rfl
  | cons v r ih => rw [List.map_cons, List.map_cons, List.sum_cons, ih, dx_cat, List.length_cons]; omega
section DXR
variable {t : dx_T} {E : dx_E} {d : Nat} {own : String} {cc : ByteArray} {nL : Nat} {rt : Option FieldType} {post : dx_P} {pc : Nat} {L : List (Option dx_v)} {st r : List dx_v} {σ : dx_V}
theorem dx_iload {k : Nat} {x : Int32} (h : decode cc pc = .ok (.iload k, 2)) (hl : L[k]? = some (some (.inl x))) (kk : dx_G t E d own cc nL rt post (pc + 2) (L) (.inl x :: st) (σ)) : dx_G t E d own cc nL rt post pc L (st) σ := by
  intro p e s m args below meth c H locs ls X hL hP hD hS
  exact lv_iload X.1 X.2.1 h (dx_at hL hl) (kk p e s m args below meth c H locs ls X hL hP hD hS)
theorem dx_iload_n {k : Fin 4} {x : Int32} (h : decode cc pc = .ok (.iload_n k, 1)) (hl : L[k.val]? = some (some (.inl x))) (kk : dx_G t E d own cc nL rt post (pc + 1) (L) (.inl x :: st) (σ)) : dx_G t E d own cc nL rt post pc L (st) σ := by
  intro p e s m args below meth c H locs ls X hL hP hD hS
  exact lv_iload_n X.1 X.2.1 h rfl (dx_at hL hl) (kk p e s m args below meth c H locs ls X hL hP hD hS)
theorem dx_aload {k : Nat} {x : Nat} (h : decode cc pc = .ok (.aload k, 2)) (hl : L[k]? = some (some (.inr x))) (kk : dx_G t E d own cc nL rt post (pc + 2) (L) (.inr x :: st) (σ)) : dx_G t E d own cc nL rt post pc L (st) σ := by
  intro p e s m args below meth c H locs ls X hL hP hD hS
  exact lv_aload X.1 X.2.1 h (dx_at hL hl) (kk p e s m args below meth c H locs ls X hL hP hD hS)
theorem dx_aload_n {k : Fin 4} {x : Nat} (h : decode cc pc = .ok (.aload_n k, 1)) (hl : L[k.val]? = some (some (.inr x))) (kk : dx_G t E d own cc nL rt post (pc + 1) (L) (.inr x :: st) (σ)) : dx_G t E d own cc nL rt post pc L (st) σ := by
  intro p e s m args below meth c H locs ls X hL hP hD hS
  exact lv_aload_n X.1 X.2.1 h rfl (dx_at hL hl) (kk p e s m args below meth c H locs ls X hL hP hD hS)
theorem dx_istore {k : Nat} {x : Int32} {L' : List (Option dx_v)} (h : decode cc pc = .ok (.istore k, 2)) (hl : k < L.length) (he : L.set k (some (.inl x)) = L') (kk : dx_G t E d own cc nL rt post (pc + 2) (L') (r) (σ)) : dx_G t E d own cc nL rt post pc L (.inl x :: r) σ := by
  intro p e s m args below meth c H locs ls X hL hP hD hS
  subst he
  have hn : k < nL := hL.1 ▸ hl
  obtain ⟨h1, lv, h2, h3⟩ := hL
  exact lv_istore X.1 X.2.1 h h2 hn rfl (fun ls' h' => kk p e s m args below meth c H locs ls' X (dx_set (v := .inl x) h1 h3 h') hP hD hS)
theorem dx_istore_n {k : Fin 4} {x : Int32} {L' : List (Option dx_v)} (h : decode cc pc = .ok (.istore_n k, 1)) (hl : k.val < L.length) (he : L.set k.val (some (.inl x)) = L') (kk : dx_G t E d own cc nL rt post (pc + 1) (L') (r) (σ)) : dx_G t E d own cc nL rt post pc L (.inl x :: r) σ := by
  intro p e s m args below meth c H locs ls X hL hP hD hS
  subst he
  have hn : k.val < nL := hL.1 ▸ hl
  obtain ⟨h1, lv, h2, h3⟩ := hL
  exact lv_istore_n X.1 X.2.1 h rfl h2 hn rfl (fun ls' h' => kk p e s m args below meth c H locs ls' X (dx_set (v := .inl x) h1 h3 h') hP hD hS)
theorem dx_astore {k : Nat} {x : Nat} {L' : List (Option dx_v)} (h : decode cc pc = .ok (.astore k, 2)) (hl : k < L.length) (he : L.set k (some (.inr x)) = L') (kk : dx_G t E d own cc nL rt post (pc + 2) (L') (r) (σ)) : dx_G t E d own cc nL rt post pc L (.inr x :: r) σ := by
  intro p e s m args below meth c H locs ls X hL hP hD hS
  subst he
  have hn : k < nL := hL.1 ▸ hl
  obtain ⟨h1, lv, h2, h3⟩ := hL
  exact lv_astore X.1 X.2.1 h h2 hn rfl (fun ls' h' => kk p e s m args below meth c H locs ls' X (dx_set (v := .inr x) h1 h3 h') hP hD hS)
theorem dx_astore_n {k : Fin 4} {x : Nat} {L' : List (Option dx_v)} (h : decode cc pc = .ok (.astore_n k, 1)) (hl : k.val < L.length) (he : L.set k.val (some (.inr x)) = L') (kk : dx_G t E d own cc nL rt post (pc + 1) (L') (r) (σ)) : dx_G t E d own cc nL rt post pc L (.inr x :: r) σ := by
  intro p e s m args below meth c H locs ls X hL hP hD hS
  subst he
  have hn : k.val < nL := hL.1 ▸ hl
  obtain ⟨h1, lv, h2, h3⟩ := hL
  exact lv_astore_n X.1 X.2.1 h rfl h2 hn rfl (fun ls' h' => kk p e s m args below meth c H locs ls' X (dx_set (v := .inr x) h1 h3 h') hP hD hS)
theorem dx_iinc {k : Nat} {n0 : Int} {x v : Int32} {L' : List (Option dx_v)} (h : decode cc pc = .ok (.iinc k n0, 3)) (hl : L[k]? = some (some (.inl x))) (hv : x + Int32.ofInt n0 = v) (he : L.set k (some (.inl v)) = L') (kk : dx_G t E d own cc nL rt post (pc + 3) (L') (st) (σ)) : dx_G t E d own cc nL rt post pc L (st) σ := by
  intro p e s m args below meth c H locs ls X hL hP hD hS
  subst he
  have hn : k < nL := hL.1 ▸ (List.getElem?_eq_some_iff.mp hl).1
  obtain ⟨h1, lv, h2, h3⟩ := hL
  obtain ⟨q, hq⟩ := List.getElem?_of_mem (h3 _ _ hl)
  exact lv_iinc X.1 X.2.1 h h2 hq hv hn rfl (fun ls' h' => kk p e s m args below meth c H locs ls' X (dx_set (v := .inl v) h1 h3 h') hP hD hS)
theorem dx_iconst {n0 : Int} {v : Int32} (h : decode cc pc = .ok (.iconst n0, 1)) (hv : Int32.ofInt n0 = v) (kk : dx_G t E d own cc nL rt post (pc + 1) (L) (.inl v :: st) (σ)) : dx_G t E d own cc nL rt post pc L (st) σ := by
  intro p e s m args below meth c H locs ls X hL hP hD hS
  exact lv_iconst X.1 X.2.1 h hv (kk p e s m args below meth c H locs ls X hL hP hD hS)
theorem dx_bipush {n0 : Int} {v : Int32} (h : decode cc pc = .ok (.bipush n0, 2)) (hv : (Int8.ofInt n0).toInt32 = v) (kk : dx_G t E d own cc nL rt post (pc + 2) (L) (.inl v :: st) (σ)) : dx_G t E d own cc nL rt post pc L (st) σ := by
  intro p e s m args below meth c H locs ls X hL hP hD hS
  exact lv_bipush X.1 X.2.1 h hv (kk p e s m args below meth c H locs ls X hL hP hD hS)
theorem dx_sipush {n0 : Int} {v : Int32} (h : decode cc pc = .ok (.sipush n0, 3)) (hv : (Int16.ofInt n0).toInt32 = v) (kk : dx_G t E d own cc nL rt post (pc + 3) (L) (.inl v :: st) (σ)) : dx_G t E d own cc nL rt post pc L (st) σ := by
  intro p e s m args below meth c H locs ls X hL hP hD hS
  exact lv_sipush X.1 X.2.1 h hv (kk p e s m args below meth c H locs ls X hL hP hD hS)
theorem dx_iadd {x y : Int32} (h : decode cc pc = .ok (.iadd, 1))  (kk : dx_G t E d own cc nL rt post (pc + 1) (L) (.inl (x + y) :: r) (σ)) : dx_G t E d own cc nL rt post pc L (.inl y :: .inl x :: r) σ := by
  intro p e s m args below meth c H locs ls X hL hP hD hS
  exact lv_iadd X.1 X.2.1 h (kk p e s m args below meth c H locs ls X hL hP hD hS)
theorem dx_isub {x y : Int32} (h : decode cc pc = .ok (.isub, 1))  (kk : dx_G t E d own cc nL rt post (pc + 1) (L) (.inl (x - y) :: r) (σ)) : dx_G t E d own cc nL rt post pc L (.inl y :: .inl x :: r) σ := by
  intro p e s m args below meth c H locs ls X hL hP hD hS
  exact lv_isub X.1 X.2.1 h (kk p e s m args below meth c H locs ls X hL hP hD hS)
theorem dx_iand {x y : Int32} (h : decode cc pc = .ok (.iand, 1))  (kk : dx_G t E d own cc nL rt post (pc + 1) (L) (.inl (x &&& y) :: r) (σ)) : dx_G t E d own cc nL rt post pc L (.inl y :: .inl x :: r) σ := by
  intro p e s m args below meth c H locs ls X hL hP hD hS
  exact lv_iand X.1 X.2.1 h (kk p e s m args below meth c H locs ls X hL hP hD hS)
theorem dx_ior {x y : Int32} (h : decode cc pc = .ok (.ior, 1))  (kk : dx_G t E d own cc nL rt post (pc + 1) (L) (.inl (x ||| y) :: r) (σ)) : dx_G t E d own cc nL rt post pc L (.inl y :: .inl x :: r) σ := by
  intro p e s m args below meth c H locs ls X hL hP hD hS
  exact lv_ior X.1 X.2.1 h (kk p e s m args below meth c H locs ls X hL hP hD hS)
theorem dx_ixor {x y : Int32} (h : decode cc pc = .ok (.ixor, 1))  (kk : dx_G t E d own cc nL rt post (pc + 1) (L) (.inl (x ^^^ y) :: r) (σ)) : dx_G t E d own cc nL rt post pc L (.inl y :: .inl x :: r) σ := by
  intro p e s m args below meth c H locs ls X hL hP hD hS
  exact lv_ixor X.1 X.2.1 h (kk p e s m args below meth c H locs ls X hL hP hD hS)
theorem dx_ishl {x y : Int32} (h : decode cc pc = .ok (.ishl, 1))  (kk : dx_G t E d own cc nL rt post (pc + 1) (L) (.inl (x <<< (y &&& 31)) :: r) (σ)) : dx_G t E d own cc nL rt post pc L (.inl y :: .inl x :: r) σ := by
  intro p e s m args below meth c H locs ls X hL hP hD hS
  exact lv_ishl X.1 X.2.1 h (kk p e s m args below meth c H locs ls X hL hP hD hS)
theorem dx_ishr {x y : Int32} (h : decode cc pc = .ok (.ishr, 1))  (kk : dx_G t E d own cc nL rt post (pc + 1) (L) (.inl (x >>> (y &&& 31)) :: r) (σ)) : dx_G t E d own cc nL rt post pc L (.inl y :: .inl x :: r) σ := by
  intro p e s m args below meth c H locs ls X hL hP hD hS
  exact lv_ishr X.1 X.2.1 h (kk p e s m args below meth c H locs ls X hL hP hD hS)
theorem dx_dup {v : dx_v} (h : decode cc pc = .ok (.dup, 1))  (kk : dx_G t E d own cc nL rt post (pc + 1) (L) (v :: v :: r) (σ)) : dx_G t E d own cc nL rt post pc L (v :: r) σ := by
  intro p e s m args below meth c H locs ls X hL hP hD hS
  exact lv_dup X.1 X.2.1 h (dx_cat _ _) (kk p e s m args below meth c H locs ls X hL hP hD hS)
theorem dx_pop {v : dx_v} (h : decode cc pc = .ok (.pop, 1))  (kk : dx_G t E d own cc nL rt post (pc + 1) (L) (r) (σ)) : dx_G t E d own cc nL rt post pc L (v :: r) σ := by
  intro p e s m args below meth c H locs ls X hL hP hD hS
  exact lv_pop X.1 X.2.1 h (dx_cat _ v) (kk p e s m args below meth c H locs ls X hL hP hD hS)
theorem dx_dup_x1 {v w : dx_v} (h : decode cc pc = .ok (.dup_x1, 1))  (kk : dx_G t E d own cc nL rt post (pc + 1) (L) (v :: w :: v :: r) (σ)) : dx_G t E d own cc nL rt post pc L (v :: w :: r) σ := by
  intro p e s m args below meth c H locs ls X hL hP hD hS
  exact lv_dup_x1 X.1 X.2.1 h (dx_cat _ _) (dx_cat _ _) (kk p e s m args below meth c H locs ls X hL hP hD hS)
theorem dx_dup2 {v w : dx_v} (h : decode cc pc = .ok (.dup2, 1))  (kk : dx_G t E d own cc nL rt post (pc + 1) (L) (v :: w :: v :: w :: r) (σ)) : dx_G t E d own cc nL rt post pc L (v :: w :: r) σ := by
  intro p e s m args below meth c H locs ls X hL hP hD hS
  exact lv_dup2_11 X.1 X.2.1 h (dx_cat _ _) (dx_cat _ _) (kk p e s m args below meth c H locs ls X hL hP hD hS)
theorem dx_goto {off : Int} (tgt : Nat) (h : decode cc pc = .ok (.goto off, 3)) (ht : (pc : Int) + off = (tgt : Int)) (kk : dx_G t E d own cc nL rt post (tgt) (L) (st) (σ)) : dx_G t E d own cc nL rt post pc L (st) σ := by
  intro p e s m args below meth c H locs ls X hL hP hD hS
  exact lv_goto X.1 X.2.1 h ht (kk p e s m args below meth c H locs ls X hL hP hD hS)
theorem dx_if_eq {off : Int} {x : Int32} (tgt : Nat) (h : decode cc pc = .ok (.ifCond .eq off, 3)) (ht : (pc : Int) + off = (tgt : Int)) (kt : x = 0 → dx_G t E d own cc nL rt post tgt L r σ) (kf : ¬ x = 0 → dx_G t E d own cc nL rt post (pc + 3) L r σ) : dx_G t E d own cc nL rt post pc L (.inl x :: r) σ := by
  intro p e s m args below meth c H locs ls X hL hP hD hS
  exact lv_if_eq X.1 X.2.1 h ht (fun q => kt q p e s m args below meth c H locs ls X hL hP hD hS) (fun q => kf q p e s m args below meth c H locs ls X hL hP hD hS)
theorem dx_icmp_eq {off : Int} {x y : Int32} (tgt : Nat) (h : decode cc pc = .ok (.if_icmp .eq off, 3)) (ht : (pc : Int) + off = (tgt : Int)) (kt : x = y → dx_G t E d own cc nL rt post tgt L r σ) (kf : ¬ x = y → dx_G t E d own cc nL rt post (pc + 3) L r σ) : dx_G t E d own cc nL rt post pc L (.inl y :: .inl x :: r) σ := by
  intro p e s m args below meth c H locs ls X hL hP hD hS
  exact lv_icmp_eq X.1 X.2.1 h ht (fun q => kt q p e s m args below meth c H locs ls X hL hP hD hS) (fun q => kf q p e s m args below meth c H locs ls X hL hP hD hS)
theorem dx_if_ne {off : Int} {x : Int32} (tgt : Nat) (h : decode cc pc = .ok (.ifCond .ne off, 3)) (ht : (pc : Int) + off = (tgt : Int)) (kt : ¬ x = 0 → dx_G t E d own cc nL rt post tgt L r σ) (kf : x = 0 → dx_G t E d own cc nL rt post (pc + 3) L r σ) : dx_G t E d own cc nL rt post pc L (.inl x :: r) σ := by
  intro p e s m args below meth c H locs ls X hL hP hD hS
  exact lv_if_ne X.1 X.2.1 h ht (fun q => kt q p e s m args below meth c H locs ls X hL hP hD hS) (fun q => kf q p e s m args below meth c H locs ls X hL hP hD hS)
theorem dx_icmp_ne {off : Int} {x y : Int32} (tgt : Nat) (h : decode cc pc = .ok (.if_icmp .ne off, 3)) (ht : (pc : Int) + off = (tgt : Int)) (kt : ¬ x = y → dx_G t E d own cc nL rt post tgt L r σ) (kf : x = y → dx_G t E d own cc nL rt post (pc + 3) L r σ) : dx_G t E d own cc nL rt post pc L (.inl y :: .inl x :: r) σ := by
  intro p e s m args below meth c H locs ls X hL hP hD hS
  exact lv_icmp_ne X.1 X.2.1 h ht (fun q => kt q p e s m args below meth c H locs ls X hL hP hD hS) (fun q => kf q p e s m args below meth c H locs ls X hL hP hD hS)
theorem dx_if_lt {off : Int} {x : Int32} (tgt : Nat) (h : decode cc pc = .ok (.ifCond .lt off, 3)) (ht : (pc : Int) + off = (tgt : Int)) (kt : x < 0 → dx_G t E d own cc nL rt post tgt L r σ) (kf : ¬ x < 0 → dx_G t E d own cc nL rt post (pc + 3) L r σ) : dx_G t E d own cc nL rt post pc L (.inl x :: r) σ := by
  intro p e s m args below meth c H locs ls X hL hP hD hS
  exact lv_if_lt X.1 X.2.1 h ht (fun q => kt q p e s m args below meth c H locs ls X hL hP hD hS) (fun q => kf q p e s m args below meth c H locs ls X hL hP hD hS)
theorem dx_icmp_lt {off : Int} {x y : Int32} (tgt : Nat) (h : decode cc pc = .ok (.if_icmp .lt off, 3)) (ht : (pc : Int) + off = (tgt : Int)) (kt : x < y → dx_G t E d own cc nL rt post tgt L r σ) (kf : ¬ x < y → dx_G t E d own cc nL rt post (pc + 3) L r σ) : dx_G t E d own cc nL rt post pc L (.inl y :: .inl x :: r) σ := by
  intro p e s m args below meth c H locs ls X hL hP hD hS
  exact lv_icmp_lt X.1 X.2.1 h ht (fun q => kt q p e s m args below meth c H locs ls X hL hP hD hS) (fun q => kf q p e s m args below meth c H locs ls X hL hP hD hS)
theorem dx_if_ge {off : Int} {x : Int32} (tgt : Nat) (h : decode cc pc = .ok (.ifCond .ge off, 3)) (ht : (pc : Int) + off = (tgt : Int)) (kt : 0 ≤ x → dx_G t E d own cc nL rt post tgt L r σ) (kf : ¬ 0 ≤ x → dx_G t E d own cc nL rt post (pc + 3) L r σ) : dx_G t E d own cc nL rt post pc L (.inl x :: r) σ := by
  intro p e s m args below meth c H locs ls X hL hP hD hS
  exact lv_if_ge X.1 X.2.1 h ht (fun q => kt q p e s m args below meth c H locs ls X hL hP hD hS) (fun q => kf q p e s m args below meth c H locs ls X hL hP hD hS)
theorem dx_icmp_ge {off : Int} {x y : Int32} (tgt : Nat) (h : decode cc pc = .ok (.if_icmp .ge off, 3)) (ht : (pc : Int) + off = (tgt : Int)) (kt : y ≤ x → dx_G t E d own cc nL rt post tgt L r σ) (kf : ¬ y ≤ x → dx_G t E d own cc nL rt post (pc + 3) L r σ) : dx_G t E d own cc nL rt post pc L (.inl y :: .inl x :: r) σ := by
  intro p e s m args below meth c H locs ls X hL hP hD hS
  exact lv_icmp_ge X.1 X.2.1 h ht (fun q => kt q p e s m args below meth c H locs ls X hL hP hD hS) (fun q => kf q p e s m args below meth c H locs ls X hL hP hD hS)
theorem dx_if_gt {off : Int} {x : Int32} (tgt : Nat) (h : decode cc pc = .ok (.ifCond .gt off, 3)) (ht : (pc : Int) + off = (tgt : Int)) (kt : 0 < x → dx_G t E d own cc nL rt post tgt L r σ) (kf : ¬ 0 < x → dx_G t E d own cc nL rt post (pc + 3) L r σ) : dx_G t E d own cc nL rt post pc L (.inl x :: r) σ := by
  intro p e s m args below meth c H locs ls X hL hP hD hS
  exact lv_if_gt X.1 X.2.1 h ht (fun q => kt q p e s m args below meth c H locs ls X hL hP hD hS) (fun q => kf q p e s m args below meth c H locs ls X hL hP hD hS)
theorem dx_icmp_gt {off : Int} {x y : Int32} (tgt : Nat) (h : decode cc pc = .ok (.if_icmp .gt off, 3)) (ht : (pc : Int) + off = (tgt : Int)) (kt : y < x → dx_G t E d own cc nL rt post tgt L r σ) (kf : ¬ y < x → dx_G t E d own cc nL rt post (pc + 3) L r σ) : dx_G t E d own cc nL rt post pc L (.inl y :: .inl x :: r) σ := by
  intro p e s m args below meth c H locs ls X hL hP hD hS
  exact lv_icmp_gt X.1 X.2.1 h ht (fun q => kt q p e s m args below meth c H locs ls X hL hP hD hS) (fun q => kf q p e s m args below meth c H locs ls X hL hP hD hS)
theorem dx_if_le {off : Int} {x : Int32} (tgt : Nat) (h : decode cc pc = .ok (.ifCond .le off, 3)) (ht : (pc : Int) + off = (tgt : Int)) (kt : x ≤ 0 → dx_G t E d own cc nL rt post tgt L r σ) (kf : ¬ x ≤ 0 → dx_G t E d own cc nL rt post (pc + 3) L r σ) : dx_G t E d own cc nL rt post pc L (.inl x :: r) σ := by
  intro p e s m args below meth c H locs ls X hL hP hD hS
  exact lv_if_le X.1 X.2.1 h ht (fun q => kt q p e s m args below meth c H locs ls X hL hP hD hS) (fun q => kf q p e s m args below meth c H locs ls X hL hP hD hS)
theorem dx_icmp_le {off : Int} {x y : Int32} (tgt : Nat) (h : decode cc pc = .ok (.if_icmp .le off, 3)) (ht : (pc : Int) + off = (tgt : Int)) (kt : x ≤ y → dx_G t E d own cc nL rt post tgt L r σ) (kf : ¬ x ≤ y → dx_G t E d own cc nL rt post (pc + 3) L r σ) : dx_G t E d own cc nL rt post pc L (.inl y :: .inl x :: r) σ := by
  intro p e s m args below meth c H locs ls X hL hP hD hS
  exact lv_icmp_le X.1 X.2.1 h ht (fun q => kt q p e s m args below meth c H locs ls X hL hP hD hS) (fun q => kf q p e s m args below meth c H locs ls X hL hP hD hS)
theorem dx_lookup {dflt off : Int} {ps : Array (Int × Int)} {len : Nat} {x : Int32} (tgt : Nat) (h : decode cc pc = .ok (.lookupswitch dflt ps, len)) (hp : (ps.toList.zip (ps.toList.drop 1)).all (fun (a, next) => a.1 < next.1) = true) (ho : Op.lookupswitch.offset ps.toList dflt x.toInt = off) (ht : (pc : Int) + off = (tgt : Int)) (kk : dx_G t E d own cc nL rt post (tgt) (L) (r) (σ)) : dx_G t E d own cc nL rt post pc L (.inl x :: r) σ := by
  intro p e s m args below meth c H locs ls X hL hP hD hS
  exact lv_lookup X.1 X.2.1 h hp ho ht (kk p e s m args below meth c H locs ls X hL hP hD hS)
theorem dx_tableOut {dflt lo hi : Int} {offs : Array Int} {len : Nat} {x : Int32} (tgt : Nat) (h : decode cc pc = .ok (.tableswitch dflt lo hi offs, len)) (ho : x.toInt < lo ∨ hi < x.toInt) (ht : (pc : Int) + dflt = (tgt : Int)) (kk : dx_G t E d own cc nL rt post (tgt) (L) (r) (σ)) : dx_G t E d own cc nL rt post pc L (.inl x :: r) σ := by
  intro p e s m args below meth c H locs ls X hL hP hD hS
  exact lv_tableOut X.1 X.2.1 h ho ht (kk p e s m args below meth c H locs ls X hL hP hD hS)
theorem dx_tableIn {dflt lo hi off : Int} {offs : Array Int} {len : Nat} {x : Int32} (tgt : Nat) (h : decode cc pc = .ok (.tableswitch dflt lo hi offs, len)) (h1 : ¬ x.toInt < lo) (h2 : ¬ hi < x.toInt) (ho : offs[(x.toInt - lo).toNat]? = some off) (ht : (pc : Int) + off = (tgt : Int)) (kk : dx_G t E d own cc nL rt post (tgt) (L) (r) (σ)) : dx_G t E d own cc nL rt post pc L (.inl x :: r) σ := by
  intro p e s m args below meth c H locs ls X hL hP hD hS
  exact lv_tableIn X.1 X.2.1 h h1 h2 ho ht (kk p e s m args below meth c H locs ls X hL hP hD hS)
theorem dx_getr {ix k ci j q : Nat} {fs : List (Nat ⊕ Bool)} (h : decode cc pc = .ok (.getfield ix, 3)) (hf : dx_fl t own ix ci j) (hs : t.2.2.2[k]? = some (.inr (ci, fs))) (hq : fs[j]? = some (.inl q)) (kk : dx_G t E d own cc nL rt post (pc + 3) L (.inr q :: r) σ) : dx_G t E d own cc nL rt post pc L (.inr k :: r) σ := by
  intro p e s m args below meth c H locs ls X hL hP hD hS
  obtain ⟨C, T, N, h1, h2, h3, h4⟩ := hf
  exact va_get (v := .ref (E.2.2.1 q)) X.1 X.2.1 X.2.2.2.2.2.2.1 h4 X.2.2.2.2.2.1 X.2.2.2.2.2.2.2.1 hP k (dx_wat hs) h1 j h2 (X.2.2.2.2.2.2.1 _ h3) (fun _ z => z) (by rw [List.getElem?_mapIdx, hq]; rfl) h (kk p e s m args below meth c H locs ls X hL hP hD hS)
theorem dx_geti {ix k ci j : Nat} {b : Bool} {fs : List (Nat ⊕ Bool)} (h : decode cc pc = .ok (.getfield ix, 3)) (hf : dx_fl t own ix ci j) (hs : t.2.2.2[k]? = some (.inr (ci, fs))) (hq : fs[j]? = some (.inr b)) (kk : dx_G t E d own cc nL rt post (pc + 3) L (.inl (σ k j) :: r) σ) : dx_G t E d own cc nL rt post pc L (.inr k :: r) σ := by
  intro p e s m args below meth c H locs ls X hL hP hD hS
  obtain ⟨C, T, N, h1, h2, h3, h4⟩ := hf
  exact va_get (v := .int (σ k j)) X.1 X.2.1 X.2.2.2.2.2.2.1 h4 X.2.2.2.2.2.1 X.2.2.2.2.2.2.2.1 hP k (dx_wat hs) h1 j h2 (X.2.2.2.2.2.2.1 _ h3) (fun _ z => z) (by rw [List.getElem?_mapIdx, hq]; rfl) h (kk p e s m args below meth c H locs ls X hL hP hD hS)
theorem dx_put {ix k ci j : Nat} {b : Bool} {x : Int32} {fs : List (Nat ⊕ Bool)} (h : decode cc pc = .ok (.putfield ix, 3)) (hf : dx_fp t own ix ci j b) (hs : t.2.2.2[k]? = some (.inr (ci, fs))) (hq : fs[j]? = some (.inr b)) (hb : b = false ∨ x = 0 ∨ x = 1) (kk : dx_G t E d own cc nL rt post (pc + 3) L r (dx_u σ k j x)) : dx_G t E d own cc nL rt post pc L (.inl x :: .inr k :: r) σ := by
  intro p e s m args below meth c H locs ls X hL hP hD hS
  obtain ⟨C, T, N, ty0, h1, h2, h3, h4, h5, h6, h7, h8⟩ := hf
  have hl : j < (fs.mapIdx (dx_f E.2.2.1 (σ k))).length := by rw [List.length_mapIdx]; exact (List.getElem?_eq_some_iff.mp hq).1
  have hn : narrow (ty0 j) (.int x) = .int x := by
    rw [h8]
    rcases hb with rfl | rfl | rfl
    · rfl
    · cases b <;> rfl
    · cases b <;> rfl
  have hfit : fits (ty0 j) (.int x) = true := by
    rw [h8]
    rcases hb with rfl | rfl | rfl
    · rfl
    · cases b <;> rfl
    · cases b <;> rfl
  refine va_put (v := .int x) X.1 X.2.1 X.2.2.2.2.2.2.1 h4 ty0 h5 h6 X.2.2.2.2.2.1 X.2.2.2.2.2.2.2.1 hP hD hS k (dx_wat hs) h1 j h2 (X.2.2.2.2.2.2.1 _ h3) (fun _ z => z) h7 (h5 j h2) hn hfit hl h (fun H1 locs1 hP1 hD1 hS1 => ?_)
  rw [dx_wset hs (dx_eset hq)] at hP1 hD1
  exact kk p e s m args below meth c H1 locs1 ls X hL hP1 hD1 hS1
theorem dx_iaload {i : Int32} {k n0 : Nat} (h : decode cc pc = .ok (.iaload, 1)) (hs : t.2.2.2[k]? = some (.inl (false, n0))) (hi : vp_in i n0) (kk : dx_G t E d own cc nL rt post (pc + 1) L (.inl (σ k i.toNatClampNeg) :: r) σ) : dx_G t E d own cc nL rt post pc L (.inl i :: .inr k :: r) σ := by
  intro p e s m args below meth c H locs ls X hL hP hD hS
  exact va_iald X.1 X.2.1 X.2.2.2.2.2.2.2.1 hP k 0 (dx_wat hs) rfl hi h (kk p e s m args below meth c H locs ls X hL hP hD hS)
theorem dx_baload {i : Int32} {k n0 : Nat} (h : decode cc pc = .ok (.baload, 1)) (hs : t.2.2.2[k]? = some (.inl (true, n0))) (hi : vp_in i n0) (kk : dx_G t E d own cc nL rt post (pc + 1) L (.inl (σ k i.toNatClampNeg) :: r) σ) : dx_G t E d own cc nL rt post pc L (.inl i :: .inr k :: r) σ := by
  intro p e s m args below meth c H locs ls X hL hP hD hS
  exact va_zald X.1 X.2.1 X.2.2.2.2.2.2.2.1 hP k 1 (dx_wat hs) rfl hi h (kk p e s m args below meth c H locs ls X hL hP hD hS)
theorem dx_iastore {x i : Int32} {k n0 : Nat} (h : decode cc pc = .ok (.iastore, 1)) (hs : t.2.2.2[k]? = some (.inl (false, n0))) (hi : vp_in i n0) (kk : dx_G t E d own cc nL rt post (pc + 1) L r (dx_u σ k i.toNatClampNeg x)) : dx_G t E d own cc nL rt post pc L (.inl x :: .inl i :: .inr k :: r) σ := by
  intro p e s m args below meth c H locs ls X hL hP hD hS
  refine va_iast X.1 X.2.1 X.2.2.2.2.2.2.2.1 hP hD hS k 0 (dx_wat hs) rfl hi h (fun H1 locs1 hP1 hD1 hS1 => ?_)
  have e1 := dx_wset (E := E) (σ := σ) (j := i.toNatClampNeg) (x := x) hs rfl
  exact kk p e s m args below meth c H1 locs1 ls X hL (by rw [← e1]; exact hP1) (by rw [← e1]; exact hD1) hS1
theorem dx_bastore {x i : Int32} {k n0 : Nat} (h : decode cc pc = .ok (.bastore, 1)) (hs : t.2.2.2[k]? = some (.inl (true, n0))) (hi : vp_in i n0) (kk : dx_G t E d own cc nL rt post (pc + 1) L r (dx_u σ k i.toNatClampNeg (vp_nar .boolean x))) : dx_G t E d own cc nL rt post pc L (.inl x :: .inl i :: .inr k :: r) σ := by
  intro p e s m args below meth c H locs ls X hL hP hD hS
  refine va_zast X.1 X.2.1 X.2.2.2.2.2.2.2.1 hP hD hS k 1 (dx_wat hs) rfl hi h (fun H1 locs1 hP1 hD1 hS1 => ?_)
  have e1 := dx_wset (E := E) (σ := σ) (j := i.toNatClampNeg) (x := (vp_nar .boolean x)) hs rfl
  exact kk p e s m args below meth c H1 locs1 ls X hL (by rw [← e1]; exact hP1) (by rw [← e1]; exact hD1) hS1
theorem dx_alen {k n0 : Nat} {b : Bool} {v : Int32} (h : decode cc pc = .ok (.arraylength, 1)) (hs : t.2.2.2[k]? = some (.inl (b, n0))) (hv : Int32.ofNat n0 = v) (kk : dx_G t E d own cc nL rt post (pc + 1) L (.inl v :: r) σ) : dx_G t E d own cc nL rt post pc L (.inr k :: r) σ := by
  intro p e s m args below meth c H locs ls X hL hP hD hS
  cases b
  · exact va_alen (ty := .int) X.1 X.2.1 X.2.2.2.2.2.2.2.1 hP k 0 (dx_wat hs) rfl hv h (kk p e s m args below meth c H locs ls X hL hP hD hS)
  · exact va_alen (ty := .boolean) X.1 X.2.1 X.2.2.2.2.2.2.2.1 hP k 1 (dx_wat hs) rfl hv h (kk p e s m args below meth c H locs ls X hL hP hD hS)
theorem dx_ret {x : Int32} {ty : FieldType} (h : decode cc pc = .ok (.ireturn, 1)) (hr : rt = some ty) (hn : narrow ty (.int x) = .int x) (hp : post (some x) σ) : dx_G t E d own cc nL rt post pc L [.inl x] σ := by
  intro p e s m args below meth c H locs ls X hL hP hD hS
  subst hr
  have hlocks := X.2.2.2.2.1
  exact W.zret (ty := ty) (v := x) X.1 X.2.1 X.2.2.2.1 hn (fun u hu hW => ⟨⟨x, σ, rfl, hp, dx_Bwarm hu hW hP X.2.2.2.2.2.2.2.1 hD X.2.2.2.2.2.2.2.2⟩, hS.F hu⟩) hS.2.2 h
theorem dx_vret (h : decode cc pc = .ok (.return_, 1)) (hr : rt = none) (hp : post none σ) : dx_G t E d own cc nL rt post pc L [] σ := by
  intro p e s m args below meth c H locs ls X hL hP hD hS
  subst hr
  have hlocks := X.2.2.2.2.1
  exact W.vret X.1 X.2.1 X.2.2.2.1 (fun u hu hW => ⟨⟨σ, rfl, hp, dx_Bwarm hu hW hP X.2.2.2.2.2.2.2.1 hD X.2.2.2.2.2.2.2.2⟩, hS.F hu⟩) hS.2.2 h
theorem dx_entry {y : MethodName} {as : List dx_v} (hy : plainName y.cls = true) (hn : as.length ≤ nL) (hg : dx_G t E d y.cls cc nL rt post 0 (as.map some ++ List.replicate (nL - as.length) none) [] σ) : dx_M t E d y cc nL rt as σ post := by
  refine Met.ofW (cc := cc) (maxL := nL) (ret := rt) hy rfl ?_
  intro p e s m args below meth c s₁ B hml hv
  obtain ⟨rfl, hP, hK, hD, hN⟩ := hv
  have hts := atoms_spec (ws := Cond.code y cc nL rt :: t.1) B.pre
  have hlen : (lg_sl (as.map (dx_z E.2.2.1))).length ≤ nL := by rw [dx_sl, List.length_map]; exact hn
  have hl := lv_entry (as.map (dx_z E.2.2.1)) (n := nL) hlen
  rw [lg_entry_eq]
  refine hg p e s m _ below meth c s.heap [] _ ⟨B.exec, B.bytes, hml, B.returns, B.notSynchronized, findClass_of_methodNamed B.named, fun w hw => hts w (List.mem_cons_of_mem _ hw), hK, hN⟩ ⟨?_, _, hl, fun i v hi => ?_⟩ hP hD va_S.rf
  · rw [List.length_append, List.length_map, List.length_replicate]
    omega
  · have hi2 : as[i]? = some v := by
      by_cases hia : i < as.length
      · rw [List.getElem?_append_left (by rw [List.length_map]; exact hia), List.getElem?_map] at hi
        cases h9 : as[i]? with
        | none => rw [h9] at hi; cases hi
        | some w => rw [h9] at hi; cases hi; rfl
      · rw [List.getElem?_append_right (by rw [List.length_map]; omega), List.getElem?_replicate] at hi
        split at hi <;> cases hi
    have := dx_args E.2.2.1 as 0 i v hi2
    rwa [Nat.zero_add] at this
theorem dx_good {y z : MethodName} {n : Nat} {ccz : ByteArray} {nLz : Nat} {rtz : Option FieldType} (hb : dx_cb t z ccz nLz rtz n) : GoodIn t.1 (Cond.code z ccz nLz rtz :: t.1) := by
  intro w hw
  rcases List.mem_cons.mp hw with rfl | hw
  · exact ⟨hb.2.1, hb.1 _ hb.2.1⟩
  · exact ⟨hw, hb.1 w hw⟩
theorem dx_runS {z : MethodName} {ccz : ByteArray} {nLz ix : Nat} {rtz : Option FieldType} {po : dx_P} {as : List dx_v} {p : Program} {e : Env} {s : State} {m : MethodId} {args : Array Value} {below : List Frame} {meth : Method} {c : Code} {H : Heap} {locs : List Loc} {ls : Array Slot} (h : decode cc pc = .ok (.invokestatic ix, 3)) (hc : dx_cs t own ix z ccz nLz rtz as.length) (h8 : r.length ≤ 8) (h1 : dx_M t E d z ccz nLz rtz as σ po) (X : dx_X t E own cc nL rt p s m args meth c) (hL : dx_h E.2.2.1 ls nL L) (hP : va_P E.2.1 t.2.2.1 (dx_w t E σ) H) (hD : va_D (dx_A t E) (dx_w t E σ)) : va_Run p E.1 e (dx_R (d + 1)) s m args below meth c H locs 0 0 0 0 (F0 m pc ls ((as.reverse ++ r).map (dx_z E.2.2.1))) (r.map (dx_z E.2.2.1)) (dx_Q t E rtz po (as.map (dx_z E.2.2.1)).toArray) (dx_A t E) := by
  obtain ⟨hlk, hb, hst⟩ := hc
  have hG := dx_good (y := z) hb
  have hR : (dx_R d).frames + 1 ≤ (dx_R (d + 1)).frames ∧ 8 + (nLz + 11) + (dx_R d).locals ≤ (dx_R (d + 1)).locals := ⟨Nat.le_refl _, by have := hb.2.2.2.2; show 8 + (nLz + 11) + 28 * d ≤ 28 * (d + 1); omega⟩
  have hpre : PreS s H (va_Pc (as.map (dx_z E.2.2.1)) (dx_B t E σ)) (as.map (dx_z E.2.2.1)) := ⟨dx_blind, fun U hU hW => ⟨rfl, dx_Bwarm hU hW hP X.2.2.2.2.2.2.2.1 hD X.2.2.2.2.2.2.2.2⟩⟩
  have hroom : 2 * (F0 m pc ls ((as.reverse ++ r).map (dx_z E.2.2.1))).monitorRoom + ((r.map (dx_z E.2.2.1)).map fun v => v.category).sum ≤ 8 := lv_room (by rw [dx_sum]; exact h8)
  have hstack : (F0 m pc ls ((as.reverse ++ r).map (dx_z E.2.2.1))).stack = (as.map (dx_z E.2.2.1)).reverse ++ r.map (dx_z E.2.2.1) := by show List.map _ _ = _; rw [List.map_append, List.map_reverse]
  rcases hlk with hlk | ⟨host, hlk⟩
  · exact va_runS ⟨X.1, X.2.1, X.2.2.1, X.2.2.2.2.2.1, X.2.2.2.2.2.2.1⟩ h1 ⟨callB_of as.length X.2.2.2.2.2.2.1 hG rfl rfl rfl (X.2.2.2.2.2.2.1 _ hb.2.2.1) (X.2.2.2.2.2.2.1 _ hlk) hb.2.2.2.1 hR, X.2.2.2.2.2.2.1 _ hst⟩ hpre rfl (by rw [List.length_map]) (dx_sizes hL) hstack hroom h ⟨Nat.le_refl _, Nat.le_refl _⟩
  · exact va_runSN ⟨X.1, X.2.1, X.2.2.1, X.2.2.2.2.2.1, X.2.2.2.2.2.2.1⟩ h1 ⟨va_cnB as.length X.2.2.2.2.2.2.1 hG rfl rfl rfl (X.2.2.2.2.2.2.2.2 _ hlk) (X.2.2.2.2.2.2.1 _ hb.2.2.1) hb.2.2.2.1 hR, X.2.2.2.2.2.2.1 _ hst, trivial⟩ hpre rfl (by rw [List.length_map]) (dx_sizes hL) hstack hroom h ⟨Nat.le_refl _, Nat.le_refl _⟩
theorem dx_runV {z : MethodName} {ccz : ByteArray} {nLz ix ci k : Nat} {fs : List (Nat ⊕ Bool)} {rtz : Option FieldType} {po : dx_P} {as : List dx_v} {p : Program} {e : Env} {s : State} {m : MethodId} {args : Array Value} {below : List Frame} {meth : Method} {c : Code} {H : Heap} {locs : List Loc} {ls : Array Slot} (h : decode cc pc = .ok (.invokevirtual ix, 3)) (hc : dx_cv t own ix z ccz nLz rtz as.length ci) (hs : t.2.2.2[k]? = some (.inr (ci, fs))) (h8 : r.length ≤ 8) (h1 : dx_M t E d z ccz nLz rtz (.inr k :: as) σ po) (X : dx_X t E own cc nL rt p s m args meth c) (hL : dx_h E.2.2.1 ls nL L) (hP : va_P E.2.1 t.2.2.1 (dx_w t E σ) H) (hD : va_D (dx_A t E) (dx_w t E σ)) : va_Run p E.1 e (dx_R (d + 1)) s m args below meth c H locs 0 0 0 0 (F0 m pc ls ((as.reverse ++ .inr k :: r).map (dx_z E.2.2.1))) (r.map (dx_z E.2.2.1)) (dx_Q t E rtz po (Value.ref (E.2.2.1 k) :: as.map (dx_z E.2.2.1)).toArray) (dx_A t E) := by
  obtain ⟨hlk, hb, hin, hse, q, hq, hqc⟩ := hc
  have hG := dx_good (y := z) hb
  have hR : (dx_R d).frames + 1 ≤ (dx_R (d + 1)).frames ∧ 8 + (nLz + 11) + (dx_R d).locals ≤ (dx_R (d + 1)).locals := ⟨Nat.le_refl _, by have := hb.2.2.2.2; show 8 + (nLz + 11) + 28 * d ≤ 28 * (d + 1); omega⟩
  have hrecv := va_recv X.2.2.2.2.2.2.2.1 hP hq (dx_wat hs)
  rw [hqc] at hrecv
  have hpre : PreV s H z.cls (E.2.2.1 k) (va_Pc ((Sum.inr k :: as).map (dx_z E.2.2.1)) (dx_B t E σ)) (as.map (dx_z E.2.2.1)) := ⟨dx_blind, hrecv, fun U hU hW => ⟨rfl, dx_Bwarm hU hW hP X.2.2.2.2.2.2.2.1 hD X.2.2.2.2.2.2.2.2⟩⟩
  have hroom : 2 * (F0 m pc ls ((as.reverse ++ .inr k :: r).map (dx_z E.2.2.1))).monitorRoom + ((r.map (dx_z E.2.2.1)).map fun v => v.category).sum ≤ 8 := lv_room (by rw [dx_sum]; exact h8)
  have hstack : (F0 m pc ls ((as.reverse ++ .inr k :: r).map (dx_z E.2.2.1))).stack = (as.map (dx_z E.2.2.1)).reverse ++ .ref (E.2.2.1 k) :: r.map (dx_z E.2.2.1) := by show List.map _ _ = _; rw [List.map_append, List.map_reverse]; rfl
  rcases hlk with hlk | ⟨host, hlk⟩
  · exact va_runV ⟨X.1, X.2.1, X.2.2.1, X.2.2.2.2.2.1, X.2.2.2.2.2.2.1⟩ h1 ⟨callB_of as.length X.2.2.2.2.2.2.1 hG rfl rfl rfl (X.2.2.2.2.2.2.1 _ hb.2.2.1) (X.2.2.2.2.2.2.1 _ hlk) hb.2.2.2.1 hR, X.2.2.2.2.2.2.1 _ hin, X.2.2.2.2.2.2.1 _ hse⟩ hpre rfl (by rw [List.length_map]) (dx_sizes hL) hstack hroom h ⟨Nat.le_refl _, Nat.le_refl _⟩
  · exact va_runVN ⟨X.1, X.2.1, X.2.2.1, X.2.2.2.2.2.1, X.2.2.2.2.2.2.1⟩ h1 ⟨va_cnB as.length X.2.2.2.2.2.2.1 hG rfl rfl rfl (X.2.2.2.2.2.2.2.2 _ hlk) (X.2.2.2.2.2.2.1 _ hb.2.2.1) hb.2.2.2.1 hR, X.2.2.2.2.2.2.1 _ hin, X.2.2.2.2.2.2.1 _ hse⟩ hpre rfl (by rw [List.length_map]) (dx_sizes hL) hstack hroom h ⟨Nat.le_refl _, Nat.le_refl _⟩
theorem dx_callsi {z : MethodName} {ccz : ByteArray} {nLz ix : Nat} {ty : FieldType} {po : dx_P} (as r : List dx_v) (h : decode cc pc = .ok (.invokestatic ix, 3)) (hc : dx_cs t own ix z ccz nLz (some ty) as.length) (h8 : r.length ≤ 8) (hst : st = as.reverse ++ r) (h1 : dx_M t E d z ccz nLz (some ty) as σ po) (kk : ∀ (x : Int32) (σ' : dx_V), po (some x) σ' → dx_G t E (d + 1) own cc nL rt post (pc + 3) L (.inl x :: r) σ') : dx_G t E (d + 1) own cc nL rt post pc L st σ := by
  intro p e s m args below meth c H locs ls X hL hP hD hS
  subst hst
  exact va_calli (a := (as.map (dx_z E.2.2.1)).toArray) (S := dx_V) (post := fun x σ' => po (some x) σ') (B := dx_B t E) (A1 := dx_A t E) (dx_runS h hc h8 h1 X hL hP hD) hS (fun _ _ q => q) (fun _ q => q) (fun x σ' u H1 locs1 hu hvm hp hB hz hk hS1 => kk x σ' hp p e s m args below meth c H1 locs1 ls X hL (by rw [← hu]; exact hB.1) hB.2.2.1 hS1)
theorem dx_callsv {z : MethodName} {ccz : ByteArray} {nLz ix : Nat} {po : dx_P} (as r : List dx_v) (h : decode cc pc = .ok (.invokestatic ix, 3)) (hc : dx_cs t own ix z ccz nLz none as.length) (h8 : r.length ≤ 8) (hst : st = as.reverse ++ r) (h1 : dx_M t E d z ccz nLz none as σ po) (kk : ∀ σ' : dx_V, po none σ' → dx_G t E (d + 1) own cc nL rt post (pc + 3) L r σ') : dx_G t E (d + 1) own cc nL rt post pc L st σ := by
  intro p e s m args below meth c H locs ls X hL hP hD hS
  subst hst
  exact va_callv (a := (as.map (dx_z E.2.2.1)).toArray) (S := dx_V) (post := fun σ' => po none σ') (B := dx_B t E) (A1 := dx_A t E) (dx_runS h hc h8 h1 X hL hP hD) hS (fun _ _ q => q) (fun _ q => q) (fun σ' u H1 locs1 hu hvm hp hB hz hk hS1 => kk σ' hp p e s m args below meth c H1 locs1 ls X hL (by rw [← hu]; exact hB.1) hB.2.2.1 hS1)
theorem dx_callvi {z : MethodName} {ccz : ByteArray} {nLz ix : Nat} {ty : FieldType} {po : dx_P} {k ci : Nat} {fs : List (Nat ⊕ Bool)} (as r : List dx_v) (h : decode cc pc = .ok (.invokevirtual ix, 3)) (hc : dx_cv t own ix z ccz nLz (some ty) as.length ci) (hs : t.2.2.2[k]? = some (.inr (ci, fs))) (h8 : r.length ≤ 8) (hst : st = as.reverse ++ .inr k :: r) (h1 : dx_M t E d z ccz nLz (some ty) (.inr k :: as) σ po) (kk : ∀ (x : Int32) (σ' : dx_V), po (some x) σ' → dx_G t E (d + 1) own cc nL rt post (pc + 3) L (.inl x :: r) σ') : dx_G t E (d + 1) own cc nL rt post pc L st σ := by
  intro p e s m args below meth c H locs ls X hL hP hD hS
  subst hst
  exact va_calli (a := (Value.ref (E.2.2.1 k) :: as.map (dx_z E.2.2.1)).toArray) (S := dx_V) (post := fun x σ' => po (some x) σ') (B := dx_B t E) (A1 := dx_A t E) (dx_runV h hc hs h8 h1 X hL hP hD) hS (fun _ _ q => q) (fun _ q => q) (fun x σ' u H1 locs1 hu hvm hp hB hz hk hS1 => kk x σ' hp p e s m args below meth c H1 locs1 ls X hL (by rw [← hu]; exact hB.1) hB.2.2.1 hS1)
theorem dx_callvv {z : MethodName} {ccz : ByteArray} {nLz ix : Nat} {po : dx_P} {k ci : Nat} {fs : List (Nat ⊕ Bool)} (as r : List dx_v) (h : decode cc pc = .ok (.invokevirtual ix, 3)) (hc : dx_cv t own ix z ccz nLz none as.length ci) (hs : t.2.2.2[k]? = some (.inr (ci, fs))) (h8 : r.length ≤ 8) (hst : st = as.reverse ++ .inr k :: r) (h1 : dx_M t E d z ccz nLz none (.inr k :: as) σ po) (kk : ∀ σ' : dx_V, po none σ' → dx_G t E (d + 1) own cc nL rt post (pc + 3) L r σ') : dx_G t E (d + 1) own cc nL rt post pc L st σ := by
  intro p e s m args below meth c H locs ls X hL hP hD hS
  subst hst
  exact va_callv (a := (Value.ref (E.2.2.1 k) :: as.map (dx_z E.2.2.1)).toArray) (S := dx_V) (post := fun σ' => po none σ') (B := dx_B t E) (A1 := dx_A t E) (dx_runV h hc hs h8 h1 X hL hP hD) hS (fun _ _ q => q) (fun _ q => q) (fun σ' u H1 locs1 hu hvm hp hB hz hk hS1 => kk σ' hp p e s m args below meth c H1 locs1 ls X hL (by rw [← hu]; exact hB.1) hB.2.2.1 hS1)
def dx_sub : List (Option dx_v) → List (Option dx_v) → Prop
  | [], [] => True
  | none :: r, _ :: q => dx_sub r q
  | some v :: r, o :: q => o = some v ∧ dx_sub r q
  | _, _ => False
theorem dx_sub_ok : ∀ (L' L : List (Option dx_v)), dx_sub L' L → L'.length = L.length ∧ ∀ (i : Nat) (v : dx_v), L'[i]? = some (some v) → L[i]? = some (some v) := by
  intro L'
  induction L' with
  | nil =>
    intro L h
    cases L with
    | nil => exact ⟨rfl, fun i v q => by cases q⟩
    | cons a q => exact h.elim
  | cons o r ih =>
    intro L h
    cases L with
    | nil => cases o <;> exact h.elim
    | cons a q =>
      cases o with
      | none =>
        obtain ⟨h1, h2⟩ := ih q h
        refine ⟨by rw [List.length_cons, List.length_cons, h1], fun i v hi => ?_⟩
        cases i with
        | zero => cases hi
        | succ i => exact h2 i v hi
      | some w =>
        obtain ⟨h0, h⟩ := h
        obtain ⟨h1, h2⟩ := ih q h
        refine ⟨by rw [List.length_cons, List.length_cons, h1], fun i v hi => ?_⟩
        cases i with
        | zero => rw [h0]; exact hi
        | succ i => exact h2 i v hi
theorem dx_less {L' : List (Option dx_v)} (hs : dx_sub L' L) (kk : dx_G t E d own cc nL rt post pc L' st σ) : dx_G t E d own cc nL rt post pc L st σ := by
  intro p e s m args below meth c H locs ls X hL hP hD hS
  obtain ⟨s1, s2⟩ := dx_sub_ok _ _ hs
  obtain ⟨h1, lv, h2, h3⟩ := hL
  exact kk p e s m args below meth c H locs ls X ⟨s1.trans h1, lv, h2, fun i v hi => h3 i v (s2 i v hi)⟩ hP hD hS
end DXR
-- behind a call: what its contract gives is enough
def dx_ci (M : dx_P → Prop) (R : Int32 → dx_V → Prop) : Prop := ∃ po : dx_P, M po ∧ ∀ (x : Int32) (σ : dx_V), po (some x) σ → R x σ
def dx_cu (M : dx_P → Prop) (R : dx_V → Prop) : Prop := ∃ po : dx_P, M po ∧ ∀ σ : dx_V, po none σ → R σ
theorem dx_ci1 {M : dx_P → Prop} {R : Int32 → dx_V → Prop} (v : Int32) (σ : dx_V) (h : ∀ po : dx_P, po (some v) σ → M po) (k : R v σ) : dx_ci M R := ⟨fun o τ => o = some v ∧ τ = σ, h _ ⟨rfl, rfl⟩, fun x τ q => by
  obtain ⟨q1, q2⟩ := q
  cases q1
  subst q2
  exact k⟩
theorem dx_cu1 {M : dx_P → Prop} {R : dx_V → Prop} (σ : dx_V) (h : ∀ po : dx_P, po none σ → M po) (k : R σ) : dx_cu M R := ⟨fun _ τ => τ = σ, h _ rfl, fun τ q => by
  subst q
  exact k⟩
theorem dx_ciR {M : dx_P → Prop} {R : Int32 → dx_V → Prop} (S : Int32 → dx_V → Prop) (h : ∀ po : dx_P, (∀ x σ, S x σ → po (some x) σ) → M po) (k : ∀ x σ, S x σ → R x σ) : dx_ci M R := ⟨fun o τ => ∃ x, o = some x ∧ S x τ, h _ (fun x _ q => ⟨x, rfl, q⟩), fun x τ q => by
  obtain ⟨x', q1, q2⟩ := q
  cases q1
  exact k _ _ q2⟩
theorem dx_cuR {M : dx_P → Prop} {R : dx_V → Prop} (S : dx_V → Prop) (h : ∀ po : dx_P, (∀ σ, S σ → po none σ) → M po) (k : ∀ σ, S σ → R σ) : dx_cu M R := ⟨fun _ τ => S τ, h _ (fun _ q => q), fun τ q => k τ q⟩
theorem dx_nz {x : Int32} (h : x = 0 ∨ x = 1) : narrow .boolean (.int x) = .int x := by
  rcases h with rfl | rfl <;> rfl
theorem dx_ne {x k : Int32} {n : Int} (hk : k.toInt = n) (h : ¬ x = k) : x.toInt ≠ n := fun e => h (Int32.toInt_inj.mp (e.trans hk.symm))
theorem dx_us {σ : dx_V} {k j : Nat} {x : Int32} : dx_u σ k j x k j = x := by simp [dx_u, upd]
theorem dx_uk {σ : dx_V} {k j i : Nat} {x : Int32} (h : i ≠ j) : dx_u σ k j x k i = σ k i := by simp [dx_u, upd, h]
theorem dx_un {σ : dx_V} {k j q : Nat} {x : Int32} (h : q ≠ k) : dx_u σ k j x q = σ q := by simp [dx_u, h]
