/-! The run's functions. -/
def q_it (g : Nat → q_R → q_R) : Nat → Nat → q_R → q_R
  | 0, _, r => r
  | f + 1, i, r => q_it g f (i + 1) (g i r)
def q_dn (g : Nat → q_R → q_R) : Nat → q_R → q_R
  | 0, r => r
  | i + 1, r => q_dn g i (g (i + 1) r)
theorem q_it_stop {g : Nat → q_R → q_R} (hg : ∀ i r, q_out r ≠ 1 → g i r = r) : ∀ (f i : Nat) (r : q_R), q_out r ≠ 1 → q_it g f i r = r := by
  intro f
  induction f with
  | zero => intro i r _; rfl
  | succ f ih => intro i r h; show q_it g f (i + 1) (g i r) = r; rw [hg i r h]; exact ih (i + 1) r h
theorem q_dn_stop {g : Nat → q_R → q_R} (hg : ∀ i r, q_out r ≠ 1 → g i r = r) : ∀ (i : Nat) (r : q_R), q_out r ≠ 1 → q_dn g i r = r := by
  intro i
  induction i with
  | zero => intro r _; rfl
  | succ i ih => intro r h; show q_dn g i (g (i + 1) r) = r; rw [hg _ r h]; exact ih r h
def q_fail (r : q_R) : q_R := q_sOut r 4
def q_write (x : Int32) (r : q_R) : q_R := if (q_rc r).length = 200 then q_fail r else q_sRc r (q_rc r ++ [x])
def q_raise (x : Int32) (r : q_R) : q_R := if (q_in r).length = 16 then q_fail r else q_sIn r (q_in r ++ [x])
def q_send (x after : Int32) (r : q_R) : q_R :=
  if after = 0 then (if (q_ex r).length = 16 then q_fail r else q_sEx r (q_ex r ++ [x]))
  else (if (q_se r).length = 12 then q_fail r else q_sSe r (q_se r ++ [(x, q_ck r + after)]))
def q_do (op : Nat) (a b : Int32) (r : q_R) : q_R :=
  if op = 0 then q_sVar r (upd (q_var r) a.toNatClampNeg b)
  else if op = 1 then q_sVar r (upd (q_var r) a.toNatClampNeg (q_var r a.toNatClampNeg + b))
  else if op = 2 then q_raise a r
  else q_send a b r
def q_act1 (c : q_C) (who : Int32) (k : Nat) (r : q_R) : q_R := if q_out r = 1 ∧ q_ow c k = who then q_do (q_op c k) (q_a c k) (q_b c k) r else r
def q_act (c : q_C) (who : Int32) (r : q_R) : q_R := q_it (q_act1 c who) (q_na c) 0 r
theorem q_act1_stop {c : q_C} {who : Int32} : ∀ i r, q_out r ≠ 1 → q_act1 c who i r = r := fun i r h => by unfold q_act1; rw [if_neg (fun q => h q.1)]
theorem q_act_stop {c : q_C} {who : Int32} {r : q_R} (h : q_out r ≠ 1) : q_act c who r = r := q_it_stop q_act1_stop _ _ _ h
-- guards, enabled transitions
def q_holds (c : q_C) (r : q_R) (t : Nat) : Prop := ∀ g, q_gd c t = some g →
  if g.2.1 = 0 then q_var r g.1 < g.2.2 else if g.2.1 = 1 then q_var r g.1 = g.2.2 else if g.2.1 = 2 then g.2.2 < q_var r g.1 else q_on r g.2.2.toNatClampNeg
noncomputable def q_fd (P : Nat → Prop) : Nat → Nat → Option Nat
  | 0, _ => none
  | f + 1, i => q_if (P i) (some i) (q_fd P f (i + 1))
noncomputable def q_wait (c : q_C) (r : q_R) (e : Int32) (s : Nat) : Option Nat := q_fd (fun t => q_src c t = s ∧ q_ev c t = e ∧ q_holds c r t) (q_nt c) 0
noncomputable def q_near (c : q_C) (r : q_R) (e : Int32) : Nat → Nat → Option Nat
  | 0, _ => none
  | f + 1, s => if s = 0 then none else match q_wait c r e s with
    | some t => some t
    | none => q_near c r e f (q_par c s)
def q_leaf (c : q_C) (s : Nat) : Prop := ∀ x, ¬ q_ch c s x
def q_add (l : List Nat) (t : Option Nat) : List Nat := match t with
  | none => l
  | some t => if t ∈ l then l else l ++ [t]
noncomputable def q_sel (c : q_C) (r : q_R) (e : Int32) : Nat → Nat → List Nat → List Nat
  | 0, _, l => l
  | f + 1, s, l => q_sel c r e f (s + 1) (q_if (q_on r s ∧ q_leaf c s) (q_add l (q_near c r e 16 s)) l)
noncomputable def q_select (c : q_C) (r : q_R) (e : Int32) : List Nat := q_sel c r e (q_n c) 1 []
-- exit sets, conflicts
def q_dm (c : q_C) (tgt : Nat) : Nat → Nat → Nat → Prop
  | 0, u, d => u = d
  | f + 1, u, d => if u = 0 then d = 0 else (q_kd c u = 1 ∧ q_bl c tgt u ∧ d = u) ∨ (¬ (q_kd c u = 1 ∧ q_bl c tgt u) ∧ q_dm c tgt f (q_par c u) d)
noncomputable def q_domain (c : q_C) (tgt : Nat) : Nat → Nat → Nat
  | 0, _ => 0
  | f + 1, u => if u = 0 then 0 else q_if (q_kd c u = 1 ∧ q_bl c tgt u) u (q_domain c tgt f (q_par c u))
noncomputable def q_dom (c : q_C) (t : Nat) : Nat := q_domain c (q_tg c t) 16 (q_par c (q_src c t))
def q_leaves (c : q_C) (r : q_R) (t s : Nat) : Prop := q_tg c t ≠ 0 ∧ q_on r s ∧ q_bl c s (q_dom c t)
def q_clash (c : q_C) (r : q_R) (t u : Nat) : Prop := ∃ s, 1 ≤ s ∧ s ≤ q_n c ∧ q_leaves c r t s ∧ q_leaves c r u s
noncomputable def q_keep1 (c : q_C) (r : q_R) (l : List Nat) (t : Nat) : List Nat :=
  q_if (∃ u ∈ l, q_clash c r t u ∧ ¬ q_bl c (q_src c t) (q_src c u)) l (l.filter (fun u => @decide (¬ q_clash c r t u) (Classical.propDecidable _)) ++ [t])
noncomputable def q_settle (c : q_C) (r : q_R) (sel : List Nat) : List Nat := sel.foldl (q_keep1 c r) []
def q_exits (c : q_C) (r : q_R) (keep : List Nat) (s : Nat) : Prop := ∃ t ∈ keep, q_leaves c r t s
-- memory
noncomputable def q_mask (P : Nat → Prop) : Nat → Int32
  | 0 => 0
  | i + 1 => q_mask P i ||| q_if (P (i + 1)) ((1 : Int32) <<< (nI (i + 1) &&& 31)) 0
noncomputable def q_rem (c : q_C) (r : q_R) (E : Nat → Prop) (h : Nat) : Int32 :=
  q_if (1 ≤ h ∧ h ≤ q_n c ∧ 4 ≤ q_kd c h ∧ E (q_par c h)) (q_mask (fun s => q_on r s ∧ (if q_kd c h = 4 then q_ch c (q_par c h) s else q_bl c s (q_par c h) ∧ q_leaf c s)) 15) (q_mem r h)
-- leaving, taking, entering
noncomputable def q_leave1 (c : q_C) (X : Nat → Prop) (s : Nat) (r : q_R) : q_R :=
  q_if (q_out r = 1 ∧ X s) (let r2 := q_act c (nI (200 + s)) (q_write (nI (2000 + s)) r); if q_out r2 = 1 then q_sOn r2 (fun x => x ≠ s ∧ q_on r2 x) else r2) r
def q_take1 (c : q_C) (t : Nat) (r : q_R) : q_R := if q_out r = 1 then q_act c (nI t) (q_write (nI (3000 + t)) r) else r
def q_take (c : q_C) (keep : List Nat) (r : q_R) : q_R := keep.foldl (fun r t => q_take1 c t r) r
def q_fin (c : q_C) (r : q_R) (s : Nat) : Prop := ∃ x, 1 ≤ x ∧ x ≤ q_n c ∧ q_par c x = s ∧ q_kd c x = 3 ∧ q_on r x
noncomputable def q_finish (c : q_C) (s : Nat) (r : q_R) : q_R :=
  if q_par c s = 0 then q_sEnd r True else
    let r1 := q_raise (nI (100 + q_par c s)) r
    let g := q_par c (q_par c s)
    q_if (q_out r1 = 1 ∧ q_kd c g = 2 ∧ ∀ x, q_ch c g x → q_fin c r1 x) (q_raise (nI (100 + g)) r1) r1
noncomputable def q_enter1 (c : q_C) (N : Nat → Prop) (s : Nat) (r : q_R) : q_R :=
  q_if (q_out r = 1 ∧ N s) (let r1 := q_write (nI (1000 + s)) r
    if q_out r1 = 1 then (let r2 := q_act c (nI (100 + s)) (q_sOn r1 (fun x => x = s ∨ q_on r1 x)); if q_out r2 = 1 ∧ q_kd c s = 3 then q_finish c s r2 else r2) else r1) r
noncomputable def q_close (r : q_R) : q_R := q_if (q_out r = 1 ∧ q_end r) (q_sOut r 2) r
noncomputable def q_enter (c : q_C) (N : Nat → Prop) (r : q_R) : q_R := q_close (q_it (q_enter1 c N) (q_n c) 1 r)
-- what is entered
noncomputable def q_first (c : q_C) (s : Nat) : Nat → Nat → Nat
  | 0, i => i
  | f + 1, i => q_if (q_ch c s i) i (q_first c s f (i + 1))
noncomputable def q_ini (c : q_C) (s : Nat) : Nat := if q_nam c s = 0 then q_first c s 16 1 else q_nam c s
def q_want (c : q_C) (x d u : Nat) : Prop := (u = x ∨ q_bl c x u) ∧ q_bl c u d
noncomputable def q_aim (c : q_C) (r : q_R) (t u : Nat) : Prop :=
  if q_kd c (q_tg c t) ≤ 3 then q_want c (q_tg c t) (q_dom c t) u
  else if q_mem r (q_tg c t) = 0 then (let p := q_par c (q_tg c t); q_want c (if q_kd c p = 2 then p else q_ini c p) (q_dom c t) u)
  else ∃ s, 1 ≤ s ∧ s ≤ q_n c ∧ bt (q_mem r (q_tg c t)) s = true ∧ q_want c s (q_dom c t) u
noncomputable def q_base (c : q_C) (r : q_R) (keep : List Nat) (u : Nat) : Prop := ∃ t ∈ keep, q_tg c t ≠ 0 ∧ q_aim c r t u
noncomputable def q_fl (c : q_C) (B : Nat → Prop) : Nat → Nat → Prop
  | 0, x => B x
  | f + 1, x => B x ∨ (q_st c x ∧ q_par c x ≠ 0 ∧ q_fl c B f (q_par c x) ∧ (q_kd c (q_par c x) = 2 ∨ (q_kd c (q_par c x) = 1 ∧ (∀ y, q_ch c (q_par c x) y → ¬ B y) ∧ x = q_ini c (q_par c x))))
noncomputable def q_full (c : q_C) (B : Nat → Prop) (x : Nat) : Prop := q_fl c B 16 x
-- microstep, macrostep
noncomputable def q_micro (c : q_C) (sel : List Nat) (r : q_R) : q_R :=
  if q_mi r = 30 then q_sOut r 3 else
    let r0 := q_sMi r (q_mi r + 1)
    let keep := q_settle c r0 sel
    let r1 := q_sMem r0 (q_rem c r0 (q_exits c r0 keep))
    let r2 := q_dn (q_leave1 c (q_exits c r0 keep)) (q_n c) r1
    let r3 := q_take c keep r2
    if q_out r3 = 1 then q_enter c (q_full c (q_base c r3 keep)) r3 else r3
noncomputable def q_pick (c : q_C) : Nat → q_R → List Nat × q_R
  | 0, r => ([], r)
  | f + 1, r => match q_in r with
    | [] => ([], r)
    | e :: l => q_if (q_select c (q_sIn r l) e = []) (q_pick c f (q_sIn r l)) (q_select c (q_sIn r l) e, q_sIn r l)
noncomputable def q_next (c : q_C) (r : q_R) : List Nat × q_R := q_if (q_select c r 0 = []) (q_pick c (q_in r).length r) (q_select c r 0, r)
noncomputable def q_macro (c : q_C) : Nat → q_R → q_R
  | 0, r => r
  | f + 1, r => if q_out r = 1 then (let x := q_next c r; if x.1 = [] then x.2 else q_macro c f (q_micro c x.1 x.2)) else r
-- the calls
def q_r0 : q_R := (fun _ => False, fun _ => 0, fun _ => 0, [], [], [], 0, [], 0, False, 1)
noncomputable def q_begin (c : q_C) : q_R := q_macro c 31 (q_enter c (q_full c (fun u => u = q_ini c 0)) q_r0)
noncomputable def q_step (c : q_C) (e : Int32) (l : List Int32) (r : q_R) : q_R :=
  let r1 := q_sMi (q_sRc (q_sEx r l) []) 0
  let s := q_select c r1 e
  q_macro c 31 (if s = [] then r1 else q_micro c s r1)
