/-! The chart and its run, as mathematics: sets are predicates, lines are lists. -/
noncomputable def q_if {α : Type} (P : Prop) (a b : α) : α := @ite α P (Classical.propDecidable P) a b
theorem q_if_t {α : Type} {P : Prop} {a b : α} (h : P) : q_if P a b = a := by unfold q_if; exact if_pos h
theorem q_if_f {α : Type} {P : Prop} {a b : α} (h : ¬ P) : q_if P a b = b := by unfold q_if; exact if_neg h
noncomputable def q_z (P : Prop) : Int32 := q_if P 1 0
theorem q_z_t {P : Prop} (h : P) : q_z P = 1 := q_if_t h
theorem q_z_f {P : Prop} (h : ¬ P) : q_z P = 0 := q_if_f h
theorem q_z_eq {P Q : Prop} (h : P ↔ Q) : q_z P = q_z Q := by rw [propext h]
theorem q_z_0 {P : Prop} : q_z P = 0 ↔ ¬ P := by
  by_cases h : P
  · rw [q_z_t h]; exact ⟨fun q => absurd q (by decide), fun q => absurd h q⟩
  · rw [q_z_f h]; exact ⟨fun _ => h, fun _ => rfl⟩
theorem q_z_01 (P : Prop) : q_z P = 0 ∨ q_z P = 1 := by
  by_cases h : P
  · exact Or.inr (q_z_t h)
  · exact Or.inl (q_z_f h)
-- a chart: states (number, parents, kinds, named initials), transitions (number, source, event, target or 0, guard), actions (number, owner, deed, a, b)
abbrev q_C : Type := (Nat × (Nat → Nat) × (Nat → Nat) × (Nat → Nat)) × (Nat × (Nat → Nat) × (Nat → Int32) × (Nat → Nat) × (Nat → Option (Nat × Nat × Int32))) × (Nat × (Nat → Int32) × (Nat → Nat) × (Nat → Int32) × (Nat → Int32))
def q_n (c : q_C) : Nat := c.1.1
def q_par (c : q_C) : Nat → Nat := c.1.2.1
def q_kd (c : q_C) : Nat → Nat := c.1.2.2.1
def q_nam (c : q_C) : Nat → Nat := c.1.2.2.2
def q_nt (c : q_C) : Nat := c.2.1.1
def q_src (c : q_C) : Nat → Nat := c.2.1.2.1
def q_ev (c : q_C) : Nat → Int32 := c.2.1.2.2.1
def q_tg (c : q_C) : Nat → Nat := c.2.1.2.2.2.1
def q_gd (c : q_C) : Nat → Option (Nat × Nat × Int32) := c.2.1.2.2.2.2
def q_na (c : q_C) : Nat := c.2.2.1
def q_ow (c : q_C) : Nat → Int32 := c.2.2.2.1
def q_op (c : q_C) : Nat → Nat := c.2.2.2.2.1
def q_a (c : q_C) : Nat → Int32 := c.2.2.2.2.2.1
def q_b (c : q_C) : Nat → Int32 := c.2.2.2.2.2.2
-- a run: active, memory, variables, internal, external, sent, clock, records, microsteps, ending, outcome
abbrev q_R : Type := (Nat → Prop) × (Nat → Int32) × (Nat → Int32) × List Int32 × List Int32 × List (Int32 × Int32) × Int32 × List Int32 × Nat × Prop × Nat
def q_on (r : q_R) : Nat → Prop := r.1
def q_mem (r : q_R) : Nat → Int32 := r.2.1
def q_var (r : q_R) : Nat → Int32 := r.2.2.1
def q_in (r : q_R) : List Int32 := r.2.2.2.1
def q_ex (r : q_R) : List Int32 := r.2.2.2.2.1
def q_se (r : q_R) : List (Int32 × Int32) := r.2.2.2.2.2.1
def q_ck (r : q_R) : Int32 := r.2.2.2.2.2.2.1
def q_rc (r : q_R) : List Int32 := r.2.2.2.2.2.2.2.1
def q_mi (r : q_R) : Nat := r.2.2.2.2.2.2.2.2.1
def q_end (r : q_R) : Prop := r.2.2.2.2.2.2.2.2.2.1
def q_out (r : q_R) : Nat := r.2.2.2.2.2.2.2.2.2.2
def q_sOn (r : q_R) (x : Nat → Prop) : q_R := (x, r.2)
def q_sMem (r : q_R) (x : Nat → Int32) : q_R := (r.1, x, r.2.2)
def q_sVar (r : q_R) (x : Nat → Int32) : q_R := (r.1, r.2.1, x, r.2.2.2)
def q_sIn (r : q_R) (x : List Int32) : q_R := (r.1, r.2.1, r.2.2.1, x, r.2.2.2.2)
def q_sEx (r : q_R) (x : List Int32) : q_R := (r.1, r.2.1, r.2.2.1, r.2.2.2.1, x, r.2.2.2.2.2)
def q_sSe (r : q_R) (x : List (Int32 × Int32)) : q_R := (r.1, r.2.1, r.2.2.1, r.2.2.2.1, r.2.2.2.2.1, x, r.2.2.2.2.2.2)
def q_sCk (r : q_R) (x : Int32) : q_R := (r.1, r.2.1, r.2.2.1, r.2.2.2.1, r.2.2.2.2.1, r.2.2.2.2.2.1, x, r.2.2.2.2.2.2.2)
def q_sRc (r : q_R) (x : List Int32) : q_R := (r.1, r.2.1, r.2.2.1, r.2.2.2.1, r.2.2.2.2.1, r.2.2.2.2.2.1, r.2.2.2.2.2.2.1, x, r.2.2.2.2.2.2.2.2)
def q_sMi (r : q_R) (x : Nat) : q_R := (r.1, r.2.1, r.2.2.1, r.2.2.2.1, r.2.2.2.2.1, r.2.2.2.2.2.1, r.2.2.2.2.2.2.1, r.2.2.2.2.2.2.2.1, x, r.2.2.2.2.2.2.2.2.2)
def q_sEnd (r : q_R) (x : Prop) : q_R := (r.1, r.2.1, r.2.2.1, r.2.2.2.1, r.2.2.2.2.1, r.2.2.2.2.2.1, r.2.2.2.2.2.2.1, r.2.2.2.2.2.2.2.1, r.2.2.2.2.2.2.2.2.1, x, r.2.2.2.2.2.2.2.2.2.2)
def q_sOut (r : q_R) (x : Nat) : q_R := (r.1, r.2.1, r.2.2.1, r.2.2.2.1, r.2.2.2.2.1, r.2.2.2.2.2.1, r.2.2.2.2.2.2.1, r.2.2.2.2.2.2.2.1, r.2.2.2.2.2.2.2.2.1, r.2.2.2.2.2.2.2.2.2.1, x)
-- the tree
def q_st (c : q_C) (s : Nat) : Prop := 1 ≤ s ∧ s ≤ q_n c ∧ q_kd c s ≤ 3
def q_ch (c : q_C) (s x : Nat) : Prop := q_st c x ∧ q_par c x = s
def q_up (par : Nat → Nat) (b : Nat) : Nat → Nat → Prop
  | 0, _ => False
  | f + 1, a => a ≠ 0 ∧ (par a = b ∨ q_up par b f (par a))
/-- b lies above a -/
def q_bl (c : q_C) (a b : Nat) : Prop := q_up (q_par c) b 16 a
-- what a chart always keeps
def q_ok (c : q_C) : Prop := q_n c ≤ 15 ∧ q_nt c ≤ 20 ∧ q_na c ≤ 32 ∧ q_kd c 0 = 1 ∧
  (∀ s, 1 ≤ s → s ≤ q_n c → q_par c s < s ∧ 1 ≤ q_kd c s ∧ q_kd c s ≤ 5 ∧ q_kd c (q_par c s) ≤ 2 ∧ (q_kd c (q_par c s) = 2 → q_kd c s ≠ 3) ∧ (q_par c s = 0 → q_kd c s ≤ 3)) ∧
  (∀ s, q_nam c s = 0 ∨ q_ch c s (q_nam c s)) ∧
  (∀ t, t < q_nt c → q_st c (q_src c t) ∧ q_kd c (q_src c t) ≠ 3 ∧ (q_tg c t = 0 ∨ (1 ≤ q_tg c t ∧ q_tg c t ≤ q_n c)) ∧ ∀ g, q_gd c t = some g → (g.2.1 ≤ 2 ∧ g.1 ≤ 3) ∨ (g.2.1 = 3 ∧ ∃ v, q_st c v ∧ g.2.2 = nI v)) ∧
  (∀ k, k < q_na c → (q_op c k ≤ 1 → ∃ v, v ≤ 3 ∧ q_a c k = nI v) ∧ q_op c k ≤ 3)
theorem q_up_any {par : Nat → Nat} {b N : Nat} (hp : ∀ s, 1 ≤ s → s ≤ N → par s < s) : ∀ (a f g : Nat), a ≤ N → a ≤ f → a ≤ g → (q_up par b f a ↔ q_up par b g a) := by
  intro a
  induction a using Nat.strongRecOn with
  | _ a ih =>
    intro f g hN hf hg
    by_cases h0 : a = 0
    · subst h0
      constructor
      · intro h; cases f with
        | zero => exact h.elim
        | succ f => exact absurd rfl h.1
      · intro h; cases g with
        | zero => exact h.elim
        | succ g => exact absurd rfl h.1
    · obtain ⟨f, rfl⟩ : ∃ f', f = f' + 1 := ⟨f - 1, by omega⟩
      obtain ⟨g, rfl⟩ : ∃ g', g = g' + 1 := ⟨g - 1, by omega⟩
      have hlt := hp a (by omega) hN
      have := ih (par a) hlt f g (by omega) (by omega) (by omega)
      show a ≠ 0 ∧ (_ ∨ _) ↔ a ≠ 0 ∧ (_ ∨ _)
      rw [this]
theorem q_bl_0 {c : q_C} {b : Nat} : ¬ q_bl c 0 b := fun h => h.1 rfl
theorem q_bl_s {c : q_C} (ok : q_ok c) {a b : Nat} (h1 : 1 ≤ a) (hn : a ≤ q_n c) : q_bl c a b ↔ q_par c a = b ∨ q_bl c (q_par c a) b := by
  have hp : ∀ s, 1 ≤ s → s ≤ q_n c → q_par c s < s := fun s h1 h2 => (ok.2.2.2.2.1 s h1 h2).1
  have hlt := hp a h1 hn
  have h15 := ok.1
  unfold q_bl
  rw [q_up_any hp (q_par c a) 16 15 (by omega) (by omega) (by omega)]
  constructor
  · intro h; exact h.2
  · intro h; exact ⟨by omega, h⟩
theorem q_bl_lt {c : q_C} (ok : q_ok c) : ∀ (a b : Nat), a ≤ q_n c → q_bl c a b → b < a := by
  intro a
  induction a using Nat.strongRecOn with
  | _ a ih =>
    intro b hn h
    by_cases h0 : a = 0
    · subst h0; exact absurd h q_bl_0
    · have hlt := (ok.2.2.2.2.1 a (by omega) hn).1
      rcases (q_bl_s ok (by omega) hn).mp h with h | h
      · omega
      · have := ih _ hlt b (by omega) h; omega
theorem q_bl_tr {c : q_C} (ok : q_ok c) : ∀ (a b d : Nat), a ≤ q_n c → q_bl c a b → q_bl c b d → q_bl c a d := by
  intro a
  induction a using Nat.strongRecOn with
  | _ a ih =>
    intro b d hn h h2
    by_cases h0 : a = 0
    · subst h0; exact absurd h q_bl_0
    · have hlt := (ok.2.2.2.2.1 a (by omega) hn).1
      rw [q_bl_s ok (by omega) hn]
      rcases (q_bl_s ok (by omega) hn).mp h with h | h
      · rw [h]; exact Or.inr h2
      · exact Or.inr (ih _ hlt b d (by omega) h h2)
/-- all that is made lies below the root -/
theorem q_bl_root {c : q_C} (ok : q_ok c) : ∀ (a : Nat), 1 ≤ a → a ≤ q_n c → q_bl c a 0 := by
  intro a
  induction a using Nat.strongRecOn with
  | _ a ih =>
    intro h1 hn
    have hlt := (ok.2.2.2.2.1 a h1 hn).1
    rw [q_bl_s ok h1 hn]
    by_cases h0 : q_par c a = 0
    · exact Or.inl h0
    · exact Or.inr (ih _ hlt (by omega) (by omega))
