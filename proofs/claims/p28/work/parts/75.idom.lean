/-! NEAREST DOMINATORS, and what stays the same between them -/
def idmOk (E : Nat → Nat → Prop) (idm : Nat → Nat) : Prop := ∀ b, RW E none b → b ≠ 0 → Dm E (idm b) b ∧ idm b ≠ b ∧ ∀ d, Dm E d b → d ≠ b → Dm E d (idm b)
section IDOM
variable {E : Nat → Nat → Prop} {idm : Nat → Nat}
theorem dom_pred {a c d : Nat} (ha : RW E none a) (he : E a c) (h : Dm E d c) (hdc : d ≠ c) : Dm E d a := ⟨ha, fun q => h.2 (RW_step q he fun e => hdc (Option.some.inj e))⟩
theorem dom_ind {P : Nat → Prop} (h : idmOk E idm) (h0 : P 0) (hs : ∀ d, RW E none d → d ≠ 0 → P (idm d) → P d) {b : Nat} (hb : RW E none b) : P b := by
  have key : ∀ d, Dm E d b → P d := by
    refine RW_ind (E := E) (o := none) (P := fun a => ∀ d, Dm E d a → P d) (fun _ d hd => ?_) (fun a c ha ih he _ hc d hd => ?_) hb
    · have : d = 0 := Classical.byContradiction fun q => hd.2 (RW_base fun e => q (Option.some.inj e))
      rw [this]; exact h0
    · by_cases hdc : d = c
      · rw [hdc]
        by_cases hc0 : c = 0
        · rw [hc0]; exact h0
        · obtain ⟨q1, q2, -⟩ := h c hc hc0
          exact hs c hc hc0 (ih _ (dom_pred ha he q1 q2))
      · exact ih d (dom_pred ha he hd hdc)
  exact key b (Dm_refl hb)
/-- where nothing sets it, and no ways that differ join, the same is held -/
theorem hold_same (h : idmOk E idm) {b c : Nat} (hb : RW E none b) (he : E b c) (hc : RW E none c) (hc0 : c ≠ 0) {src jn : Nat → Prop} (s0 : src 0) (clo : ∀ d o c, src d ∨ jn d → Dm E d o → E o c → ¬ (Dm E d c ∧ d ≠ c) → jn c) {hE : Nat → Ag} (hsame : ∀ d, RW E none d → d ≠ 0 → ¬ src d → ¬ jn d → hE d = hE (idm d)) (hjc : ¬ jn c) : hE b = hE (idm c) := by
  obtain ⟨i1, i2, i3⟩ := h c hc hc0
  have hib : Dm E (idm c) b := dom_pred hb he i1 i2
  have key : ∀ d, RW E none d → Dm E (idm c) d → Dm E d b → hE d = hE (idm c) := fun d hd => by
    refine dom_ind (P := fun d => Dm E (idm c) d → Dm E d b → hE d = hE (idm c)) h (fun q _ => ?_) (fun d hd hd0 ih q1 q2 => ?_) hd
    · have : idm c = 0 := Classical.byContradiction fun z => q.2 (RW_base fun e => z (Option.some.inj e))
      rw [this]
    · by_cases hdi : d = idm c
      · rw [hdi]
      · have hn : ¬ (Dm E d c ∧ d ≠ c) := fun z => hdi (Dm_anti (i3 d z.1 z.2) q1)
        have n1 : ¬ src d := fun z => hjc (clo d b c (Or.inl z) q2 he hn)
        have n2 : ¬ jn d := fun z => hjc (clo d b c (Or.inr z) q2 he hn)
        obtain ⟨j1, j2, j3⟩ := h d hd hd0
        rw [hsame d hd hd0 n1 n2]
        exact ih (j3 (idm c) q1 fun e => hdi e.symm) (Dm_trans j1 q2)
  exact key b hb hib (Dm_refl hb)
end IDOM
