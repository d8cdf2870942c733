/-! TWO FORMS, block for block: if each visit of the first one goes as one of the second, their runs do -/
def simStep (A B : AF) (R : Nat → Option Nat → Option Nat → Hd → Hd → Prop) : Prop := ∀ b e e' H H' m c c', R b e e' H H' → c' ≤ c →
  (vaA B (aLs B b) (phA B b e' H') m c').2.1 = (vaA A (aLs A b) (phA A b e H) m c).2.1 ∧ (vaA B (aLs B b) (phA B b e' H') m c').2.2.1 ≤ (vaA A (aLs A b) (phA A b e H) m c).2.2.1 ∧ (vaA B (aLs B b) (phA B b e' H') m c').2.2.2 = (vaA A (aLs A b) (phA A b e H) m c).2.2.2 ∧
  ((vaA A (aLs A b) (phA A b e H) m c).2.2.2 = false →
    (aEk A b = 0 → aEk B b = 0 ∧ evK B (vaA B (aLs B b) (phA B b e' H') m c').1 (140 + b) 0 = evK A (vaA A (aLs A b) (phA A b e H) m c).1 (140 + b) 0) ∧
    (aEk A b ≠ 0 → ∀ t, aTg A (b * 2 + wyN (aEk A b) (evK A (vaA A (aLs A b) (phA A b e H) m c).1 (140 + b) 0)) = some t →
      aEk B b ≠ 0 ∧ (aEk B b = 2 → aEk A b = 2) ∧ aTg B (b * 2 + wyN (aEk B b) (evK B (vaA B (aLs B b) (phA B b e' H') m c').1 (140 + b) 0)) = some t ∧
      R t (edI A t (b * 2 + wyN (aEk A b) (evK A (vaA A (aLs A b) (phA A b e H) m c).1 (140 + b) 0))) (edI B t (b * 2 + wyN (aEk B b) (evK B (vaA B (aLs B b) (phA B b e' H') m c').1 (140 + b) 0))) (vaA A (aLs A b) (phA A b e H) m c).1 (vaA B (aLs B b) (phA B b e' H') m c').1))
theorem ru_sim {A B : AF} {R : Nat → Option Nat → Option Nat → Hd → Hd → Prop} (hS : simStep A B R) : ∀ (d b : Nat) (e e' : Option Nat) (H H' : Hd) (m : Me) (c c' n : Nat), R b e e' H H' → c' ≤ c → noWorse (ruA A d b e H m c n) (ruA B d b e' H' m c' n) := by
  intro d
  induction d with
  | zero =>
    intro b e e' H H' m c c' n hR hcc
    obtain ⟨g1, g2, g3, -⟩ := hS b e e' H H' m c c' hR hcc
    unfold ruA
    rw [g3, g1]
    by_cases ht : (vaA A (aLs A b) (phA A b e H) m c).2.2.2 = true
    · rw [if_pos ht, if_pos ht]
      exact ⟨_, _, g2, Nat.le_refl _, rfl⟩
    · rw [if_neg ht, if_neg ht]
      trivial
  | succ d ih =>
    intro b e e' H H' m c c' n hR hcc
    obtain ⟨g1, g2, g3, g4⟩ := hS b e e' H H' m c c' hR hcc
    unfold ruA
    rw [g3, g1]
    by_cases ht : (vaA A (aLs A b) (phA A b e H) m c).2.2.2 = true
    · rw [if_pos ht, if_pos ht]
      exact ⟨_, _, g2, Nat.le_refl _, rfl⟩
    · rw [if_neg ht, if_neg ht]
      obtain ⟨k1, k2⟩ := g4 (bool_f ht)
      by_cases h0 : aEk A b = 0
      · obtain ⟨z1, z2⟩ := k1 h0
        rw [if_pos h0, if_pos z1, z2]
        exact ⟨_, _, g2, Nat.le_refl _, rfl⟩
      · rw [if_neg h0]
        cases hg : aTg A (b * 2 + wyN (aEk A b) (evK A (vaA A (aLs A b) (phA A b e H) m c).1 (140 + b) 0)) with
        | none => trivial
        | some t =>
          obtain ⟨z1, z2, z3, z4⟩ := k2 h0 t hg
          rw [if_neg z1, z3]
          dsimp only
          refine ih t _ _ _ _ _ _ _ _ z4 (Nat.add_le_add g2 ?_)
          by_cases hb2 : aEk B b = 2
          · rw [if_pos hb2, if_pos (z2 hb2)]
            exact Nat.le_refl _
          · rw [if_neg hb2]
            split <;> omega
theorem run_sim {A B : AF} {R : Nat → Option Nat → Option Nat → Hd → Hd → Prop} (hS : simStep A B R) (x y : Int32) (h0 : R 0 none none (H0 x y) (H0 x y)) : noWorse (runA A x y) (runA B x y) := ru_sim hS 300 0 none none _ _ _ _ _ _ h0 (Nat.le_refl _)
theorem noWorse.trans {r s t : Oc} (h1 : noWorse r s) (h2 : noWorse s t) : noWorse r t := by
  match r, h1 with
  | none, _ => trivial
  | some (a, x, m, c, n), ⟨c', n', p1, p2, p3⟩ =>
    subst p3
    obtain ⟨c2, n2, q1, q2, q3⟩ := h2
    exact ⟨c2, n2, Nat.le_trans q1 p1, Nat.le_trans q2 p2, q3⟩
theorem noWorse.rfl' (r : Oc) : noWorse r r := by
  match r with
  | none => trivial
  | some (a, x, m, c, n) => exact ⟨c, n, Nat.le_refl _, Nat.le_refl _, rfl⟩
