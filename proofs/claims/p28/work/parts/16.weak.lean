/-! LOCALS THAT NOBODY NEEDS ANY MORE may be forgotten -/
def mmLe (lv lv' : List (Option Value)) : Prop := lv.length = lv'.length ∧ ∀ i, mmGet lv' i = mmGet lv i ∨ (mmGet lv i = none ∧ mmWide (mmGet lv' i) = false)
def mmLc : List (Option Value) → List (Option Value) → Prop
  | [], [] => True
  | none :: a, o :: b => mmWide o = false ∧ mmLc a b
  | some v :: a, o :: b => o = some v ∧ mmLc a b
  | _, _ => False
theorem mmLc_le : ∀ (a b : List (Option Value)), mmLc a b → mmLe a b := by
  intro a
  induction a with
  | nil =>
    intro b h
    cases b with
    | nil => exact ⟨rfl, fun i => Or.inl rfl⟩
    | cons o b => cases h
  | cons q a ih =>
    intro b h
    cases b with
    | nil => cases q <;> cases h
    | cons o b =>
      cases q with
      | none =>
        obtain ⟨h1, h2⟩ := h
        obtain ⟨g1, g2⟩ := ih b h2
        refine ⟨by simp [g1], fun i => ?_⟩
        cases i with
        | zero => exact Or.inr ⟨by simp [mmGet], by simpa [mmGet] using h1⟩
        | succ i => simpa [mmGet] using g2 i
      | some v =>
        obtain ⟨h1, h2⟩ := h
        obtain ⟨g1, g2⟩ := ih b h2
        refine ⟨by simp [g1], fun i => ?_⟩
        cases i with
        | zero => exact Or.inl (by simp [mmGet, h1])
        | succ i => simpa [mmGet] using g2 i
theorem mmLe.get {lv lv' : List (Option Value)} (h : mmLe lv lv') {i : Nat} {v : Value} (hv : mmGet lv i = some v) : mmGet lv' i = some v := by
  rcases h.2 i with e | ⟨e, -⟩
  · rw [e, hv]
  · rw [e] at hv; cases hv
theorem mmLe.ok {lv lv' : List (Option Value)} (h : mmLe lv lv') {i : Nat} (hv : mmOk lv i = true) : mmOk lv' i = true := by
  cases i with
  | zero => rfl
  | succ j =>
    change (!mmWide (mmGet lv j)) = true at hv
    show (!mmWide (mmGet lv' j)) = true
    rcases h.2 j with e | ⟨-, e⟩
    · rw [e]; exact hv
    · rw [e]; rfl
theorem mmLe.set {lv lv' : List (Option Value)} (h : mmLe lv lv') (i : Nat) (o : Option Value) : mmLe (lv.set i o) (lv'.set i o) := by
  refine ⟨by simp [h.1], fun j => ?_⟩
  rw [mmGet_set, mmGet_set, h.1]
  by_cases hc : i = j ∧ i < lv'.length
  · rw [if_pos hc, if_pos hc]; exact Or.inl rfl
  · rw [if_neg hc, if_neg hc]; exact h.2 j
theorem mmLe.set1 {lv lv' w : List (Option Value)} (h : mmLe lv lv') {i : Nat} {v : Value} (hs : mmSet1 lv i v = some w) : ∃ w', mmSet1 lv' i v = some w' ∧ mmLe w w' := by
  unfold mmSet1 at hs
  split at hs
  · rename_i hc
    cases hs
    rw [Bool.and_eq_true, decide_eq_true_eq] at hc
    refine ⟨lv'.set i (some v), ?_, h.set i (some v)⟩
    unfold mmSet1
    rw [if_pos]
    rw [Bool.and_eq_true, decide_eq_true_eq]
    exact ⟨by rw [← h.1]; exact hc.1, h.ok hc.2⟩
  · cases hs
theorem mmLe.set2 {lv lv' w : List (Option Value)} (h : mmLe lv lv') {i : Nat} {v : Value} (hs : mmSet2 lv i v = some w) : ∃ w', mmSet2 lv' i v = some w' ∧ mmLe w w' := by
  unfold mmSet2 at hs
  split at hs
  · rename_i hc
    cases hs
    rw [Bool.and_eq_true, decide_eq_true_eq] at hc
    refine ⟨(lv'.set i (some v)).set (i + 1) none, ?_, (h.set i (some v)).set (i + 1) none⟩
    unfold mmSet2
    rw [if_pos]
    rw [Bool.and_eq_true, decide_eq_true_eq]
    exact ⟨by rw [← h.1]; exact hc.1, h.ok hc.2⟩
  · cases hs
theorem mmS_weak {ins : Instr} {ax : List Nat} {pc pc1 : Nat} {lv lv' lv1 : List (Option Value)} {st st1 : List Value} {h h1 : List mmC} (hl : mmLe lv lv') (hs : mmS ins ax pc lv st h = some (pc1, lv1, st1, h1)) : ∃ w, mmS ins ax pc lv' st h = some (pc1, w, st1, h1) ∧ mmLe lv1 w := by
  have done : lv1 = lv → mmS ins ax pc lv' st h = some (pc1, lv', st1, h1) → ∃ w, mmS ins ax pc lv' st h = some (pc1, w, st1, h1) ∧ mmLe lv1 w := fun e h => ⟨lv', h, by rw [e]; exact hl⟩
  have hs0 := hs
  unfold mmS at hs
  split at hs
  case h_7 | h_8 | h_9 | h_10 | h_11 | h_12 =>
    split at hs
    · rename_i hv
      cases hs
      exact ⟨lv', by simp only [mmS, hl.get hv], hl⟩
    · cases hs
  case h_13 | h_14 | h_17 | h_18 =>
    split at hs
    · obtain ⟨w, hv, he⟩ := Option.map_eq_some_iff.mp hs
      cases he
      obtain ⟨w', g1, g2⟩ := hl.set1 hv
      exact ⟨w', by simp only [mmS, g1, Option.map_some], g2⟩
    · cases hs
  case h_15 | h_16 =>
    split at hs
    · obtain ⟨w, hv, he⟩ := Option.map_eq_some_iff.mp hs
      cases he
      obtain ⟨w', g1, g2⟩ := hl.set2 hv
      exact ⟨w', by simp only [mmS, g1, Option.map_some], g2⟩
    · cases hs
  case h_19 =>
    split at hs
    · rename_i hg
      obtain ⟨w, hv, he⟩ := Option.map_eq_some_iff.mp hs
      cases he
      obtain ⟨w', g1, g2⟩ := hl.set1 hv
      exact ⟨w', by simp only [mmS, hl.get hg, g1, Option.map_some], g2⟩
    · cases hs
  all_goals
    (try split at hs) <;> (try split at hs) <;> (try split at hs) <;> (try split at hs) <;> first
    | (cases hs; done)
    | (cases hs; exact ⟨lv', by simp_all [mmS], hl⟩)
    | (obtain ⟨w, hv, he⟩ := Option.map_eq_some_iff.mp hs; cases he; exact ⟨lv', by simp_all [mmS], hl⟩)
theorem mx_weak (PT : List mmM) : ∀ (n : Nat) {t : List mmI} {pc : Nat} {lv lv' : List (Option Value)} {st : List Value} {h : List mmC} {x : Option Value × List mmC}, mmLe lv lv' → mx PT n t pc lv st h = some x → mx PT n t pc lv' st h = some x := by
  intro n
  induction n with
  | zero => intro t pc lv lv' st h x _ hx; cases hx
  | succ n ih =>
    intro t pc lv lv' st h x hl hx
    rw [mx_eq] at hx ⊢
    have call : ∀ {t' : List mmI} {pc' : Nat} {w : List (Option Value)} {r : List Value}, (match mx PT n t' 0 w [] h with
          | none => none
          | some (v, h') => mx PT n t pc' lv (v.toList ++ r) h') = some x → (match mx PT n t' 0 w [] h with
          | none => none
          | some (v, h') => mx PT n t pc' lv' (v.toList ++ r) h') = some x := by
      intro t' pc' w r hh
      split at hh
      · cases hh
      · rename_i h1
        (try rw [h1])
        exact ih hl hh
    unfold mxB at hx ⊢
    split at hx
    · cases hx
    rename_i ins len ax hf
    (try rw [hf])
    (try dsimp only at hx ⊢)
    split at hx
    · (try dsimp only)
      split at hx
      · split at hx
        · rename_i hc
          (try rw [if_pos hc]); exact ih hl hx
        · rename_i hc
          (try rw [if_neg hc]); exact ih hl hx
      · cases hx
    · (try dsimp only)
      split at hx
      · split at hx
        · rename_i hc
          (try rw [if_pos hc]); exact ih hl hx
        · rename_i hc
          (try rw [if_neg hc]); exact ih hl hx
      · cases hx
    · (try dsimp only)
      split at hx
      · exact ih hl hx
      · cases hx
    · (try dsimp only)
      split at hx
      · split at hx
        · rename_i hc
          (try rw [if_pos hc]); exact ih hl hx
        · rename_i hc
          (try rw [if_neg hc])
          split at hx
          · rename_i htg
            (try rw [htg]); exact ih hl hx
          · cases hx
      · cases hx
    · exact hx
    · exact hx
    · exact hx
    · (try dsimp only)
      split at hx
      · cases hx
      · rename_i hc
        (try rw [hc])
        exact call hx
    · (try dsimp only)
      split at hx
      · split at hx
        · rename_i hc
          (try rw [hc]); exact ih hl hx
        · cases hx
      · split at hx
        · cases hx
        · rename_i hc
          (try rw [hc])
          exact call hx
    · (try dsimp only)
      split at hx
      · split at hx
        · split at hx
          · rename_i hc
            (try rw [if_pos hc]); exact ih hl hx
          · cases hx
        · cases hx
      · split at hx
        · cases hx
        · rename_i hc
          (try rw [hc])
          exact call hx
    · split at hx
      · rename_i hs
        obtain ⟨w, g1, g2⟩ := mmS_weak hl hs
        (try rw [g1])
        exact ih g2 hx
      · cases hx
theorem Ev.weak {PT : List mmM} {t : List mmI} {pc : Nat} {lv' : List (Option Value)} (lv : List (Option Value)) {st : List Value} {h : List mmC} {x : Option Value × List mmC} (hl : mmLc lv lv') (k : Ev PT t pc lv st h x) : Ev PT t pc lv' st h x := by
  obtain ⟨n, hn⟩ := k
  exact ⟨n, mx_weak PT n (mmLc_le _ _ hl) hn⟩
