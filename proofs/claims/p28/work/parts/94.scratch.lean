/-! TWO LOOPS SIDE BY SIDE; a pass does not depend on what lay about -/
def SR {α ω : Type} (S : α → α → Prop) (P : ω → ω → Prop) (r r' : α ⊕ ω) : Prop := (∃ a b, r = .inl a ∧ r' = .inl b ∧ S a b) ∨ ∃ w w', r = .inr w ∧ r' = .inr w' ∧ P w w'
theorem SR.rf {α ω : Type} {S : α → α → Prop} {P : ω → ω → Prop} (hS : ∀ a, S a a) (hP : ∀ w, P w w) (r : α ⊕ ω) : SR S P r r := by
  cases r with
  | inl a => exact Or.inl ⟨a, a, rfl, rfl, hS a⟩
  | inr w => exact Or.inr ⟨w, w, rfl, rfl, hP w⟩
theorem SR.l {α ω : Type} {S : α → α → Prop} {P : ω → ω → Prop} {a b : α} (h : S a b) : SR S P (.inl a) (.inl b) := Or.inl ⟨a, b, rfl, rfl, h⟩
theorem SR.r {α ω : Type} {S : α → α → Prop} {P : ω → ω → Prop} {a b : ω} (h : P a b) : SR S P (.inr a) (.inr b) := Or.inr ⟨a, b, rfl, rfl, h⟩
theorem loopF_par {α ω : Type} (B B' : α → α ⊕ ω) (S : α → α → Prop) (P : ω → ω → Prop) (step : ∀ a b, S a b → SR S P (B a) (B' b)) : ∀ (n : Nat) (a b : α), S a b → (loopF B n a = none ∧ loopF B' n b = none) ∨ ∃ w w', loopF B n a = some w ∧ loopF B' n b = some w' ∧ P w w' := by
  intro n
  induction n with
  | zero => intro a b _; exact Or.inl ⟨rfl, rfl⟩
  | succ n ih =>
    intro a b h
    unfold loopF
    rcases step a b h with ⟨a', b', e1, e2, h'⟩ | ⟨w, w', e1, e2, h'⟩
    · rw [e1, e2]
      exact ih a' b' h'
    · rw [e1, e2]
      exact Or.inr ⟨w, w', rfl, rfl, h'⟩
theorem loopW_at {α ω : Type} [Nonempty ω] {B : α → α ⊕ ω} {a : α} {n : Nat} {w : ω} (h : loopF B n a = some w) : loopW B a = w := by
  have h1 : ∃ w', ∃ n, loopF B n a = some w' := ⟨w, n, h⟩
  obtain ⟨m, hm⟩ := Classical.epsilon_spec h1
  exact loopF_one B hm h
theorem loopW_par {α ω : Type} [Nonempty ω] (B B' : α → α ⊕ ω) (S : α → α → Prop) (P : ω → ω → Prop) (hP : ∀ w, P w w) (step : ∀ a b, S a b → SR S P (B a) (B' b)) {a b : α} (h : S a b) : P (loopW B a) (loopW B' b) := by
  by_cases q : ∃ n w, loopF B n a = some w
  · obtain ⟨n, w, hw⟩ := q
    rcases loopF_par B B' S P step n a b h with ⟨z, -⟩ | ⟨v, v', e1, e2, h'⟩
    · rw [z] at hw; cases hw
    · rw [loopW_at e1, loopW_at e2]
      exact h'
  · have e : loopW B a = loopW B' b := by
      show Classical.epsilon _ = Classical.epsilon _
      refine congrArg _ (funext fun w => propext ⟨fun ⟨n, hn⟩ => absurd ⟨n, w, hn⟩ q, fun ⟨n, hn⟩ => ?_⟩)
      rcases loopF_par B B' S P step n a b h with ⟨-, z⟩ | ⟨v, v', e1, -, -⟩
      · rw [z] at hn; cases hn
      · exact absurd ⟨n, v, e1⟩ q
    rw [e]
    exact hP _
section SCRATCH
variable {f g : Ob}
theorem feq.trans {k : Ob} (h1 : feq f g) (h2 : feq g k) : feq f k := by
  obtain ⟨⟨a0, a1, a2, a3, a4, a5⟩, b0, b1, b2, b3, b4, b5, b6, b7, b8, b9, b10, b11, b12⟩ := h1
  obtain ⟨⟨c0, c1, c2, c3, c4, c5⟩, d0, d1, d2, d3, d4, d5, d6, d7, d8, d9, d10, d11, d12⟩ := h2
  exact ⟨⟨a0.trans c0, a1.trans c1, a2.trans c2, a3.trans c3, a4.trans c4, a5.trans c5⟩, b0.trans d0, b1.trans d1, b2.trans d2, b3.trans d3, b4.trans d4, b5.trans d5, b6.trans d6, b7.trans d7, b8.trans d8, b9.trans d9, b10.trans d10, b11.trans d11, b12.trans d12⟩
/-! what is dead -/
theorem need_par {de de' : Ob} (h : de.1 0 = de'.1 0) (u : Int32) : (Dead_needArguments f de u).1 0 = (Dead_needArguments f de' u).1 0 := by
  unfold Dead_needArguments Dead_needArguments_L2
  refine loopW_par (fun a : Int32 × Ob => Dead_needArguments_L2b f a.2 u a.1) (fun a : Int32 × Ob => Dead_needArguments_L2b f a.2 u a.1) (fun a b => a.1 = b.1 ∧ a.2.1 0 = b.2.1 0) (fun r r' => r.1 0 = r'.1 0) (fun _ => rfl) ?_ ⟨rfl, h⟩
  rintro ⟨v, d⟩ ⟨v', d'⟩ ⟨q1, q2⟩
  have q1' : v = v' := q1
  have q2' : d.1 0 = d'.1 0 := q2
  subst q1'
  show SR _ _ (Dead_needArguments_L2b f d u v) (Dead_needArguments_L2b f d' u v)
  unfold Dead_needArguments_L2b Dead_needArguments_55 oat
  rw [q2']
  split
  · split
    · exact SR.l ⟨rfl, q2'⟩
    · split
      · refine SR.l ⟨rfl, ?_⟩
        show rput 140 (d.1 0) _ 1 = rput 140 (d'.1 0) _ 1
        rw [q2']
      · exact SR.l ⟨rfl, q2'⟩
  · exact SR.r q2'
theorem dead_87 {de de' : Ob} (h : de.1 0 = de'.1 0) : feq (Dead_goOver_L87 f (oB de 0 true) 0).1 (Dead_goOver_L87 f (oB de' 0 true) 0).1 := by
  have a := e_Dead_goOver_110_34_L87 (sc := (0, [])) (rest := []) (to := f) (fl := f) (ma := f) (tr := f) (mk := f) (cn := f) (nu := f) (de := oB de 0 true) (ru := f) (la := f) (tb := f) (tf := f) (ph := f) (cs := 0) (v2 := 0) (x := _) (by exact rfl)
  have b := e_Dead_goOver_110_34_L87 (sc := (0, [])) (rest := []) (to := f) (fl := f) (ma := f) (tr := f) (mk := f) (cn := f) (nu := f) (de := oB de' 0 true) (ru := f) (la := f) (tb := f) (tf := f) (ph := f) (cs := 0) (v2 := 0) (x := _) (by exact rfl)
  have e : mh (0, []) [] f f f f f f f (oB de' 0 true) f f f f f 0 = mh (0, []) [] f f f f f f f (oB de 0 true) f f f f f 0 := by
    unfold mh hp
    rw [show (oB de' 0 true).1 0 = (oB de 0 true).1 0 from h.symm, show (oB de' 0 true).2.2 0 = (oB de 0 true).2.2 0 from rfl]
  rw [e] at b
  exact heap_f (congrArg Prod.snd (ev_det a b))
theorem dead_56 {de de' : Ob} (h : de.1 0 = de'.1 0) : feq (Dead_goOver_L56 f de 0).1 (Dead_goOver_L56 f de' 0).1 := by
  unfold Dead_goOver_L56
  refine loopW_par (fun a : Int32 × Ob => Dead_goOver_L56b f a.2 a.1) (fun a : Int32 × Ob => Dead_goOver_L56b f a.2 a.1) (fun a b => a.1 = b.1 ∧ a.2.1 0 = b.2.1 0) (fun r r' => feq r.1 r'.1) (fun r => feq.rf r.1) ?_ ⟨rfl, h⟩
  rintro ⟨v, d⟩ ⟨v', d'⟩ ⟨q1, q2⟩
  have q1' : v = v' := q1
  have q2' : d.1 0 = d'.1 0 := q2
  subst q1'
  show SR _ _ (Dead_goOver_L56b f d v) (Dead_goOver_L56b f d' v)
  unfold Dead_goOver_L56b
  split
  · exact SR.l ⟨rfl, need_par q2' _⟩
  · exact SR.r (dead_87 q2')
theorem dead_ind (de de' : Ob) : feq (Dead_goOver f de).1 (Dead_goOver f de').1 := by
  unfold Dead_goOver Dead_goOver_L11
  refine loopW_par (fun a : Int32 × Ob => Dead_goOver_L11b f a.2 a.1) (fun a : Int32 × Ob => Dead_goOver_L11b f a.2 a.1) (fun a b => a.1 = b.1 ∧ a.2.1 0 = b.2.1 0) (fun r r' => feq r.1 r'.1) (fun r => feq.rf r.1) ?_ ⟨rfl, rfl⟩
  rintro ⟨v, d⟩ ⟨v', d'⟩ ⟨q1, q2⟩
  have q1' : v = v' := q1
  have q2' : d.1 0 = d'.1 0 := q2
  subst q1'
  show SR _ _ (Dead_goOver_L11b f d v) (Dead_goOver_L11b f d' v)
  unfold Dead_goOver_L11b Dead_goOver_48
  split
  · split
    · exact SR.l ⟨rfl, q2'⟩
    · split
      · refine SR.l ⟨rfl, ?_⟩
        show rput 140 (d.1 0) _ 1 = rput 140 (d'.1 0) _ 1
        rw [q2']
      · exact SR.l ⟨rfl, q2'⟩
  · exact SR.r (dead_56 q2')
/-! numbers -/
theorem lead_par {nu nu' : Ob} (h : nu.1 0 = nu'.1 0) (a b : Int32) : (Flow_lead nu a b).1 0 = (Flow_lead nu' a b).1 0 := by
  show rput 10 (nu.1 0) a (rat 10 (nu.1 0) a ||| Ph_bit b) = rput 10 (nu'.1 0) a (rat 10 (nu'.1 0) a ||| Ph_bit b)
  rw [h]
theorem edges_par {nu nu' : Ob} (h : nu.1 0 = nu'.1 0) (v2 : Int32) : SR (fun a b : Int32 × Ob => a.1 = b.1 ∧ a.2.1 0 = b.2.1 0) (fun r r' : Ob => r.1 0 = r'.1 0) (Numbers_readEdges_L19 f nu v2 0) (Numbers_readEdges_L19 f nu' v2 0) := by
  unfold Numbers_readEdges_L19
  refine loopW_par (fun a : Int32 × Ob => Numbers_readEdges_L19b f a.2 v2 a.1) (fun a : Int32 × Ob => Numbers_readEdges_L19b f a.2 v2 a.1) (fun a b => a.1 = b.1 ∧ a.2.1 0 = b.2.1 0) (SR (fun a b : Int32 × Ob => a.1 = b.1 ∧ a.2.1 0 = b.2.1 0) (fun r r' : Ob => r.1 0 = r'.1 0)) (fun r => SR.rf (S := fun a b : Int32 × Ob => a.1 = b.1 ∧ a.2.1 0 = b.2.1 0) (P := fun r r' : Ob => r.1 0 = r'.1 0) (fun _ => ⟨rfl, rfl⟩) (fun _ => rfl) r) ?_ (show (0 : Int32) = 0 ∧ nu.1 0 = nu'.1 0 from ⟨rfl, h⟩)
  rintro ⟨v, d⟩ ⟨v', d'⟩ ⟨q1, q2⟩
  have q1' : v = v' := q1
  have q2' : d.1 0 = d'.1 0 := q2
  subst q1'
  show SR _ _ (Numbers_readEdges_L19b f d v2 v) (Numbers_readEdges_L19b f d' v2 v)
  unfold Numbers_readEdges_L19b
  split
  · exact SR.l ⟨rfl, lead_par q2' _ _⟩
  · exact SR.r (SR.l ⟨rfl, q2'⟩)
theorem readE_par (nu nu' : Ob) : (Numbers_readEdges f nu).1 0 = (Numbers_readEdges f nu').1 0 := by
  unfold Numbers_readEdges Numbers_readEdges_L9
  refine loopW_par (fun a : Int32 × Ob => Numbers_readEdges_L9b f a.2 a.1) (fun a : Int32 × Ob => Numbers_readEdges_L9b f a.2 a.1) (fun a b => a.1 = b.1 ∧ a.2.1 0 = b.2.1 0) (fun r r' => r.1 0 = r'.1 0) (fun _ => rfl) ?_ ⟨rfl, rfl⟩
  rintro ⟨v, d⟩ ⟨v', d'⟩ ⟨q1, q2⟩
  have q1' : v = v' := q1
  have q2' : d.1 0 = d'.1 0 := q2
  subst q1'
  show SR _ _ (Numbers_readEdges_L9b f d v) (Numbers_readEdges_L9b f d' v)
  unfold Numbers_readEdges_L9b
  split
  · exact edges_par q2' v
  · exact SR.r q2'
def R2 (n n' : Ob) : Prop := n.1 0 = n'.1 0 ∧ n.1 2 = n'.1 2 ∧ n.2.1 0 = n'.2.1 0
theorem without_par {n n' : Ob} (h : n.1 0 = n'.1 0) (v : Int32) : Flow_reachedWithout n v = Flow_reachedWithout n' v := by
  simp only [Flow_reachedWithout, Flow_reachedWithout_L14, Flow_reachedWithout_L14b, Flow_reachedWithout_L26, Flow_reachedWithout_L26b, Flow_reachedWithout_56, oat, h]
theorem ready_par {n n' : Ob} (h : R2 n n') (v : Int32) : Flow_firstReady n v = Flow_firstReady n' v := by
  obtain ⟨h1, h2, h3⟩ := h
  unfold Flow_firstReady Flow_firstReady_L2 Flow_firstReady_L2b Flow_firstReady_44 oat
  rw [h2, h3]
theorem addD_par {n n' : Ob} (h : R2 n n') (x y : Int32) : R2 (Flow_addDominator n x y) (Flow_addDominator n' x y) := by
  unfold Flow_addDominator Flow_addDominator_L2
  refine loopW_par (fun a : Int32 × Ob => Flow_addDominator_L2b a.2 x y a.1) (fun a : Int32 × Ob => Flow_addDominator_L2b a.2 x y a.1) (fun a b => a.1 = b.1 ∧ R2 a.2 b.2) R2 (fun _ => ⟨rfl, rfl, rfl⟩) ?_ ⟨rfl, h⟩
  rintro ⟨v, d⟩ ⟨v', d'⟩ ⟨q1, q2⟩
  have q1' : v = v' := q1
  have q2' : R2 d d' := q2
  subst q1'
  show SR _ _ (Flow_addDominator_L2b d x y v) (Flow_addDominator_L2b d' x y v)
  unfold Flow_addDominator_L2b Flow_addDominator_37
  obtain ⟨z1, z2, z3⟩ := q2'
  split
  · split
    · refine SR.l ⟨rfl, z1, ?_, z3⟩
      show rput 10 (d.1 2) v (rat 10 (d.1 2) v ||| Ph_bit y) = rput 10 (d'.1 2) v (rat 10 (d'.1 2) v ||| Ph_bit y)
      rw [z2]
    · exact SR.l ⟨rfl, z1, z2, z3⟩
  · exact SR.r ⟨z1, z2, z3⟩
def R3 (k : Nat) (n n' : Ob) : Prop := R2 n n' ∧ ∀ j, j < k → n.1 3 j = n'.1 3 j
theorem order_par {n n' : Ob} (h : R2 n n') : R3 10 (Flow_reckon_L78 n 0 0) (Flow_reckon_L78 n' 0 0) := by
  unfold Flow_reckon_L78
  refine loopW_par (fun a : Int32 × Int32 × Ob => Flow_reckon_L78b a.2.2 a.1 a.2.1) (fun a : Int32 × Int32 × Ob => Flow_reckon_L78b a.2.2 a.1 a.2.1) (fun a b => a.1 = b.1 ∧ a.2.1 = b.2.1 ∧ ∃ k, k ≤ 10 ∧ a.2.1 = nI k ∧ R3 k a.2.2 b.2.2) (R3 10) (fun _ => ⟨⟨rfl, rfl, rfl⟩, fun _ _ => rfl⟩) ?_ ⟨rfl, rfl, 0, by omega, rfl, h, fun j hj => by omega⟩
  rintro ⟨v, u, d⟩ ⟨v', u', d'⟩ ⟨q1, q2, k, hk, q3, q4⟩
  have q1' : v = v' := q1
  have q2' : u = u' := q2
  have q3' : u = nI k := q3
  have q4' : R3 k d d' := q4
  subst q1'
  subst q2'
  subst q3'
  show SR _ _ (Flow_reckon_L78b d v (nI k)) (Flow_reckon_L78b d' v (nI k))
  unfold Flow_reckon_L78b
  by_cases hk10 : k < 10
  · rw [if_pos (lt10 hk10), if_pos (lt10 hk10), ready_par q4'.1, oput_rs hk10 (by decide), oput_rs hk10 (by decide), nI_1]
    obtain ⟨⟨z1, z2, z3⟩, z4⟩ := q4'
    refine SR.l ⟨rfl, rfl, k + 1, by omega, rfl, ⟨?_, ?_, z3⟩, fun j hj => ?_⟩
    · show (rs d 3 k _).1 0 = (rs d' 3 k _).1 0
      rw [rs_r _ _ _ _ (show 0 ≠ 3 by decide), rs_r _ _ _ _ (show 0 ≠ 3 by decide)]
      exact z1
    · show (rs d 3 k _).1 2 = (rs d' 3 k _).1 2
      rw [rs_r _ _ _ _ (show 2 ≠ 3 by decide), rs_r _ _ _ _ (show 2 ≠ 3 by decide)]
      exact z2
    · show (rs d 3 k _).1 3 j = (rs d' 3 k _).1 3 j
      rw [rs_i, rs_i]
      by_cases q : j = k
      · rw [if_pos q, if_pos q]
      · rw [if_neg q, if_neg q]
        exact z4 j (by omega)
  · have : k = 10 := by omega
    subst this
    rw [if_neg nlt10, if_neg nlt10]
    exact SR.r q4'
theorem reckon_par {n n' : Ob} (h : n.1 0 = n'.1 0) : R3 10 (Flow_reckon n) (Flow_reckon n') := by
  unfold Flow_reckon Flow_reckon_L19
  rw [without_par h]
  refine loopW_par (fun a : Int32 × Ob => Flow_reckon_L19b a.2 a.1) (fun a : Int32 × Ob => Flow_reckon_L19b a.2 a.1) (fun a b => a.1 = b.1 ∧ R2 a.2 b.2) (R3 10) (fun _ => ⟨⟨rfl, rfl, rfl⟩, fun _ _ => rfl⟩) ?_ ⟨rfl, h, rfl, rfl⟩
  rintro ⟨v, d⟩ ⟨v', d'⟩ ⟨q1, q2⟩
  have q1' : v = v' := q1
  have q2' : R2 d d' := q2
  subst q1'
  show SR _ _ (Flow_reckon_L19b d v) (Flow_reckon_L19b d' v)
  unfold Flow_reckon_L19b Flow_reckon_52
  obtain ⟨z1, z2, z3⟩ := q2'
  rw [z3, without_par z1]
  split
  · split
    · exact SR.l ⟨rfl, addD_par (n := oput d 1 10 v _) (n' := oput d' 1 10 v _) ⟨z1, z2, z3⟩ _ _⟩
    · exact SR.l ⟨rfl, addD_par (n := oput d 1 10 v _) (n' := oput d' 1 10 v _) ⟨z1, z2, z3⟩ _ _⟩
  · exact SR.r (order_par ⟨z1, z2, z3⟩)
end SCRATCH
