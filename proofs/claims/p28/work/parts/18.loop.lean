/-! LOOPS: a body that goes on or comes to an end; what comes of it, if it ever ends -/
def loopF {α ω : Type} (B : α → α ⊕ ω) : Nat → α → Option ω
  | 0, _ => none
  | n + 1, a => match B a with
    | .inl a' => loopF B n a'
    | .inr w => some w
theorem loopF_more {α ω : Type} (B : α → α ⊕ ω) : ∀ (n : Nat) (a : α) (w : ω), loopF B n a = some w → ∀ k, loopF B (n + k) a = some w := by
  intro n
  induction n with
  | zero => intro a w h; cases h
  | succ n ih =>
    intro a w h k
    rw [show n + 1 + k = (n + k) + 1 by omega]
    unfold loopF at h ⊢
    split at h
    · exact ih _ _ h k
    · exact h
/-- the one that it comes to, or some one -/
noncomputable def loopW {α ω : Type} [Nonempty ω] (B : α → α ⊕ ω) (a : α) : ω := Classical.epsilon fun w => ∃ n, loopF B n a = some w
theorem loopF_one {α ω : Type} (B : α → α ⊕ ω) {n m : Nat} {a : α} {w w' : ω} (h : loopF B n a = some w) (h' : loopF B m a = some w') : w = w' := by
  have h1 := loopF_more B n a w h m
  have h2 := loopF_more B m a w' h' n
  rw [Nat.add_comm m n] at h2
  exact Option.some.inj (h1.symm.trans h2)
theorem loopW_eq {α ω : Type} [Nonempty ω] (B : α → α ⊕ ω) (a : α) : loopW B a = match B a with
    | .inl a' => loopW B a'
    | .inr w => w := by
  cases hB : B a with
  | inl a' =>
    show Classical.epsilon _ = Classical.epsilon _
    refine congrArg _ (funext fun w => propext ⟨fun ⟨n, hn⟩ => ?_, fun ⟨n, hn⟩ => ⟨n + 1, ?_⟩⟩)
    · cases n with
      | zero => cases hn
      | succ n =>
        unfold loopF at hn
        rw [hB] at hn
        exact ⟨n, hn⟩
    · unfold loopF
      rw [hB]
      exact hn
  | inr w =>
    have h1 : ∃ w', ∃ n, loopF B n a = some w' := ⟨w, 1, by unfold loopF; rw [hB]⟩
    obtain ⟨n, hn⟩ := Classical.epsilon_spec h1
    exact loopF_one B hn (m := 1) (by unfold loopF; rw [hB])
theorem Ev_loop {α ω : Type} [Nonempty ω] (B : α → α ⊕ ω) (μ : α → Nat) (E : α → Prop) (X : ω → Prop) (step : ∀ a, (match B a with
    | .inl a' => (μ a' < μ a → E a')
    | .inr w => X w) → E a) : ∀ a, X (loopW B a) → E a := by
  have key : ∀ (n : Nat) (a : α), μ a ≤ n → X (loopW B a) → E a := by
    intro n
    induction n with
    | zero =>
      intro a ha hx
      refine step a ?_
      rw [loopW_eq] at hx
      split
      · intro h; omega
      · rename_i hB; rw [hB] at hx; exact hx
    | succ n ih =>
      intro a ha hx
      refine step a ?_
      rw [loopW_eq] at hx
      split
      · rename_i hB
        rw [hB] at hx
        intro h
        exact ih _ (by omega) hx
      · rename_i hB; rw [hB] at hx; exact hx
  intro a hx
  exact key (μ a) a (Nat.le_refl _) hx
/-- how far a counter is from the greatest int -/
def mu (i : Int32) : Nat := (2147483647 - i.toInt).toNat
theorem mu_lt {i : Int32} (h : i < 2147483647) : mu (i + 1) < mu i := by
  have h1 : i.toInt < 2147483647 := by
    have e1 : (2147483647 : Int32).toInt = 2147483647 := by decide
    have := Int32.lt_iff_toInt_lt.mp h
    rwa [e1] at this
  have h2 : -2147483648 ≤ i.toInt := by
    have := Int32.le_toInt i
    omega
  have h3 : (i + 1).toInt = i.toInt + 1 := by
    rw [Int32.toInt_add]
    have e1 : (1 : Int32).toInt = 1 := by decide
    rw [e1]
    exact Int.bmod_eq_of_le (by omega) (by omega)
  unfold mu
  rw [h3]
  omega
theorem lt_max {i b : Int32} (h : ¬ b ≤ i) : i < 2147483647 := by
  have h1 : i < b := Int32.not_le.mp h
  have h2 := Int32.lt_iff_toInt_lt.mp h1
  have h3 := Int32.toInt_lt b
  refine Int32.lt_iff_toInt_lt.mpr ?_
  have e1 : (2147483647 : Int32).toInt = 2147483647 := by decide
  rw [e1]
  omega
