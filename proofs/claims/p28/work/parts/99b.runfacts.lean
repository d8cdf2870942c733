/-! RUNS OF BLOCKS: how much they cost, how much they print */ -/
section RUNFACTS
variable {to : Ob}
theorem coN_8 (k : Nat) : coN k ≤ 8 := by
  unfold coN Ph_costOf
  repeat' split
  all_goals decide
theorem lnT_cost (b : Nat) : ∀ (l : List Nat) (V : Hd) (m : Me) (c : Nat), (lnT to b l V m c).2.2.1 ≤ c + 8 * l.length := by
  intro l
  induction l with
  | nil => intro V m c; exact Nat.le_refl _
  | cons k r ih =>
    intro V m c
    unfold lnT
    have h := coN_8 (tn (to.1 1 (b * 8 + k)))
    split
    · simp only [List.length_cons]
      omega
    · refine Nat.le_trans (ih _ _ _) ?_
      simp only [List.length_cons]
      omega
theorem ruT_facts (h8 : ∀ b, nl to b ≤ 8) : ∀ (d b : Nat) (V : Hd) (m : Me) (c n : Nat) (tr : Bool) (ret : Int32) (m' : Me) (c' n' : Nat), ruT to d b V m c n = some (tr, ret, m', c', n') → (tr = true → ret = 0) ∧ c' ≤ c + 66 * (d + 1) ∧ n' ≤ n + d ∧ m'.2.length ≤ m.2.length + 8 * (d + 1) := by
  have hl : ∀ b, (tLn to b).length ≤ 8 := fun b => by unfold tLn; rw [List.length_range]; exact h8 b
  intro d
  induction d with
  | zero =>
    intro b V m c n tr ret m' c' n' h
    unfold ruT at h
    have h1 := lnT_cost (to := to) b (tLn to b) V m c
    have h2 := lnT_len to b (tLn to b) V m c
    have h3 := hl b
    split at h
    · cases h
      exact ⟨fun _ => rfl, by omega, by omega, by omega⟩
    · cases h
  | succ d ih =>
    intro b V m c n tr ret m' c' n' h
    unfold ruT at h
    have h1 := lnT_cost (to := to) b (tLn to b) V m c
    have h2 := lnT_len to b (tLn to b) V m c
    have h3 := hl b
    split at h
    · cases h
      exact ⟨fun _ => rfl, by omega, by omega, by omega⟩
    · split at h
      · cases h
        exact ⟨(fun q => by cases q), by omega, by omega, by omega⟩
      · obtain ⟨q1, q2, q3, q4⟩ := ih _ _ _ _ _ _ _ _ _ _ h
        refine ⟨q1, ?_, by omega, by omega⟩
        have : (if tEk to b = 2 then 2 else 1) ≤ 2 := by split <;> decide
        omega
theorem runT_facts (h8 : ∀ b, nl to b ≤ 8) {x y : Int32} {tr : Bool} {ret : Int32} {m : Me} {c n : Nat} (h : runT to x y = some (tr, ret, m, c, n)) : (tr = true → ret = 0) ∧ c ≤ 19866 ∧ n ≤ 300 ∧ m.2.length ≤ 2408 := by
  obtain ⟨q1, q2, q3, q4⟩ := ruT_facts h8 300 0 (H0 x y) m0 0 0 tr ret m c n h
  have : m0.2.length = 0 := rfl
  exact ⟨q1, by omega, by omega, by omega⟩
/-- tapes tell alike -/
def tEq (t t' : Ob) : Prop := (∀ i, i < 8 → t.1 0 i = t'.1 0 i) ∧ t.2.1 0 = t'.2.1 0 ∧ t.2.1 1 = t'.2.1 1 ∧ t.2.1 2 = t'.2.1 2
theorem tp_eq {t t' : Ob} {h : Nat} {ret : Int32} {m : Me} {c n c' n' K : Nat} (h1 : tpAt t false h ret m c n) (h2 : tpAt t' false h ret m c' n') (k1 : tpKept K t m) (k2 : tpKept K t' m) : tEq t t' ∧ t.2.1 2 = nI m.2.length ∧ ∀ i, i < m.2.length → i < K → t.1 1 i = t'.1 1 i := by
  obtain ⟨-, a1, a2, a3, a4, -⟩ := h1
  obtain ⟨-, b1, b2, b3, b4, -⟩ := h2
  exact ⟨⟨fun i hi => by rw [a1 i hi, b1 i hi], by rw [a2, b2], by rw [a3, b3], by rw [a4, b4]⟩, a4, fun i hi hK => by rw [k1 i hi hK, k2 i hi hK]⟩
/-- two long tapes are alike -/
theorem like_k {t t' : Ob} {L : Nat} (he : tEq t t') (hL : t.2.1 2 = nI L) (hL1 : L ≤ 2408) (hp : ∀ i, i < L → t.1 1 i = t'.1 1 i) : Tape_isLike_k t t' = true := by
  obtain ⟨e0, e1, e2, e3⟩ := he
  have h84 : Tape_isLike_k_L84 t t' true 0 = true := by
    unfold Tape_isLike_k_L84
    refine loop_cnt (B := fun a : Bool × Int32 => Tape_isLike_k_L84b t t' a.1 a.2) (mk := fun i (_ : Unit) => (true, nI i)) (n := L) (I := fun _ _ => True) (P := fun r => r = true) (fun k _ hk _ => ⟨(), ?_, trivial⟩) (fun _ _ => ⟨true, ?_, rfl⟩) L 0 () (by omega) trivial
    · show Tape_isLike_k_L84b t t' true (nI k) = .inl (true, nI (k + 1))
      unfold Tape_isLike_k_L84b Tape_isLike_k_120
      rw [if_pos rfl, hL, if_pos (nI_lt hk (by omega)), oat_rs (show k < 2408 by omega) (by decide), oat_rs (show k < 2408 by omega) (by decide), if_pos (hp k hk), nI_1]
    · show Tape_isLike_k_L84b t t' true (nI L) = .inr true
      unfold Tape_isLike_k_L84b Tape_isLike_k_127
      rw [if_pos rfl, hL, if_neg (nI_nlt (Nat.le_refl _) (by omega))]
  unfold Tape_isLike_k Tape_isLike_k_38
  rw [if_pos e1, if_pos e2, if_pos e3]
  unfold Tape_isLike_k_L41
  refine loop_cnt (B := fun a : Bool × Int32 => Tape_isLike_k_L41b t t' a.1 a.2) (mk := fun i (_ : Unit) => (true, nI i)) (n := 8) (I := fun _ _ => True) (P := fun r => r = true) (fun k _ hk _ => ⟨(), ?_, trivial⟩) (fun _ _ => ⟨true, ?_, rfl⟩) 8 0 () rfl trivial
  · show Tape_isLike_k_L41b t t' true (nI k) = .inl (true, nI (k + 1))
    unfold Tape_isLike_k_L41b Tape_isLike_k_75
    rw [if_pos (show nI k < 8 from nI_lt (a := k) (b := 8) hk (by decide)), if_pos rfl, oat_rs hk (by decide), oat_rs hk (by decide), if_pos (e0 k hk), nI_1]
  · show Tape_isLike_k_L41b t t' true (nI 8) = .inr true
    unfold Tape_isLike_k_L41b
    rw [if_neg (by decide), h84]
end RUNFACTS
