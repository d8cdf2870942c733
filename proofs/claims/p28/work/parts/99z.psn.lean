/-! A RUN THAT NEVER LOOKS AT THE SCRIPT'S CELL is one whatever lies there -/
def psn : mmC := (2000, [])
section PSN
variable {sc : mmC} {h : List mmC}
theorem psn_get (sc : mmC) {a : Nat} {c : mmC} (h0 : (psn :: h)[a]? = some c) (hc : c.1 ≠ 2000) : (sc :: h)[a]? = some c ∧ ∃ b, a = b + 1 := by
  cases a with
  | zero =>
    rw [List.getElem?_cons_zero] at h0
    cases h0
    exact absurd rfl hc
  | succ b =>
    rw [List.getElem?_cons_succ] at h0 ⊢
    exact ⟨h0, b, rfl⟩
theorem mmS_psn (sc : mmC) {ins : Instr} {ax : List Nat} {pc pc1 : Nat} {lv lv1 : List (Option Value)} {st st1 : List Value} {h1 : List mmC} (hs : mmS ins ax pc lv st (psn :: h) = some (pc1, lv1, st1, h1)) : ∃ h2, h1 = psn :: h2 ∧ mmS ins ax pc lv st (sc :: h) = some (pc1, lv1, st1, sc :: h2) := by
  unfold mmS at hs
  split at hs
  case h_38 =>
    split at hs
    · split at hs
      · rename_i c hc
        split at hs
        · rename_i hcc
          obtain ⟨g1, b, rfl⟩ := psn_get sc hc (by omega)
          obtain ⟨v, hv, he⟩ := Option.map_eq_some_iff.mp hs
          cases he
          exact ⟨h, rfl, by simp only [mmS]; rw [g1]; simp only [if_pos hcc, hv, Option.map_some]⟩
        · cases hs
      · cases hs
    · cases hs
  case h_39 =>
    split at hs
    · split at hs
      · rename_i c hc
        split at hs
        · rename_i hcc
          obtain ⟨g1, b, rfl⟩ := psn_get sc hc (by have := hcc.1; have := hcc.2.1; omega)
          cases hs
          exact ⟨_, rfl, by simp only [mmS]; rw [g1]; simp only [if_pos hcc]; rfl⟩
        · cases hs
      · cases hs
    · cases hs
  case h_40 =>
    split at hs
    · split at hs
      · rename_i c hc
        split at hs
        · rename_i hcc
          obtain ⟨g1, b, rfl⟩ := psn_get sc hc (by rcases hcc.1 with q | q <;> rw [q] <;> decide)
          split at hs
          · rename_i hv
            cases hs
            exact ⟨h, rfl, by simp only [mmS]; rw [g1]; simp only [if_pos hcc, hv]⟩
          · cases hs
        · cases hs
      · cases hs
    · cases hs
  case h_41 =>
    split at hs
    · split at hs
      · rename_i c hc
        split at hs
        · rename_i hcc
          obtain ⟨g1, b, rfl⟩ := psn_get sc hc (by rw [hcc.1]; decide)
          cases hs
          exact ⟨_, rfl, by simp only [mmS]; rw [g1]; simp only [if_pos hcc]; rfl⟩
        · cases hs
      · cases hs
    · cases hs
  case h_42 =>
    split at hs
    · split at hs
      · rename_i c hc
        split at hs
        · rename_i hcc
          obtain ⟨g1, b, rfl⟩ := psn_get sc hc (by rcases hcc with q | q <;> rw [q] <;> decide)
          cases hs
          exact ⟨h, rfl, by simp only [mmS]; rw [g1]; simp only [if_pos hcc]⟩
        · cases hs
      · cases hs
    · cases hs
  case h_43 =>
    split at hs
    · split at hs
      · rename_i hcc
        cases hs
        exact ⟨_, rfl, by simp only [mmS, if_pos hcc]; rfl⟩
      · cases hs
    · cases hs
  case h_44 =>
    split at hs
    · split at hs
      · rename_i hf
        split at hs
        · rename_i hcc
          cases hs
          exact ⟨_, rfl, by simp only [mmS]; rw [hf]; simp only [if_pos hcc]; rfl⟩
        · cases hs
      · cases hs
    · cases hs
  case h_45 =>
    split at hs
    · split at hs
      · rename_i c hc
        split at hs
        · rename_i hcc
          obtain ⟨g1, b, rfl⟩ := psn_get sc hc (by rcases hcc.1 with q | q <;> rw [q] <;> decide)
          split at hs
          · rename_i hv
            cases hs
            exact ⟨h, rfl, by simp only [mmS]; rw [g1]; simp only [if_pos hcc, hv]⟩
          · cases hs
        · cases hs
      · cases hs
    · cases hs
  case h_46 =>
    split at hs
    · split at hs
      · rename_i c d hc hd
        split at hs
        · rename_i hcc
          obtain ⟨g1, b, rfl⟩ := psn_get sc hc (by rcases hcc.1 with q | q <;> rw [q.1] <;> decide)
          obtain ⟨g2, b2, rfl⟩ := psn_get sc hd (by rcases hcc.1 with q | q <;> rw [q.2] <;> decide)
          cases hs
          exact ⟨_, rfl, by simp only [mmS]; rw [g1, g2]; simp only [if_pos hcc]; rfl⟩
        · cases hs
      · cases hs
    · cases hs
  case h_47 =>
    split at hs
    · split at hs
      · rename_i hcc
        cases hs
        exact ⟨_, rfl, by simp only [mmS, if_pos hcc]; rfl⟩
      · cases hs
    · cases hs
  all_goals
    (try split at hs) <;> (try split at hs) <;> first
    | (cases hs; done)
    | (cases hs; exact ⟨h, rfl, by simp_all [mmS]⟩)
    | (obtain ⟨w, hv, he⟩ := Option.map_eq_some_iff.mp hs; cases he; exact ⟨h, rfl, by simp_all [mmS]⟩)
theorem mmCall_psn (sc : mmC) {PT : List mmM} {ax : List Nat} {st as r : List Value} {M : mmM} (hs : mmCall PT ax st (psn :: h) = some (M, as, r)) : mmCall PT ax st (sc :: h) = some (M, as, r) := by
  unfold mmCall at hs ⊢
  split at hs
  · (try dsimp only)
    split at hs
    · cases hs
    · rename_i hM
      (try rw [hM])
      (try dsimp only)
      split at hs
      · rename_i hc
        rw [if_pos hc]
        split at hs
        · rename_i hk
          rw [if_pos hk]
          exact hs
        · rename_i hk
          rw [if_neg hk]
          split at hs
          · rename_i hl
            (try rw [hl])
            (try dsimp only)
            split at hs
            · rename_i c hc2
              split at hs
              · rename_i hcc
                obtain ⟨g1, -⟩ := psn_get sc hc2 (by omega)
                rw [g1]
                (try dsimp only)
                rw [if_pos hcc, ← hl]
                exact hs
              · cases hs
            · cases hs
          · cases hs
      · cases hs
  · cases hs
theorem mmCopy_psn (sc : mmC) {st r : List Value} {h1 : List mmC} (hs : mmCopy st (psn :: h) = some (r, h1)) : ∃ h2, h1 = psn :: h2 ∧ mmCopy st (sc :: h) = some (r, sc :: h2) := by
  unfold mmCopy at hs
  split at hs
  · split at hs
    · rename_i ca cb ha hb
      split at hs
      · rename_i hcc
        obtain ⟨g1, b1, rfl⟩ := psn_get sc ha (by rw [hcc.1]; decide)
        obtain ⟨g2, b2, rfl⟩ := psn_get sc hb (by rw [hcc.2.1]; decide)
        cases hs
        refine ⟨_, rfl, ?_⟩
        unfold mmCopy
        dsimp only
        rw [g1, g2]
        dsimp only
        rw [if_pos hcc]
        rfl
      · cases hs
    · cases hs
  · cases hs
theorem mx_psn (sc : mmC) (PT : List mmM) : ∀ (n : Nat) {t : List mmI} {pc : Nat} {lv : List (Option Value)} {st : List Value} {h : List mmC} {v : Option Value} {h1 : List mmC}, mx PT n t pc lv st (psn :: h) = some (v, h1) → ∃ h2, h1 = psn :: h2 ∧ mx PT n t pc lv st (sc :: h) = some (v, sc :: h2) := by
  intro n
  induction n with
  | zero => intro t pc lv st h v h1 hx; cases hx
  | succ n ih =>
    intro t pc lv st h v h1 hx
    rw [mx_eq] at hx ⊢
    have call : ∀ {t' : List mmI} {pc' : Nat} {w : List (Option Value)} {r : List Value}, (match mx PT n t' 0 w [] (psn :: h) with
          | none => none
          | some (v, h') => mx PT n t pc' lv (v.toList ++ r) h') = some (v, h1) → ∃ h2, h1 = psn :: h2 ∧ (match mx PT n t' 0 w [] (sc :: h) with
          | none => none
          | some (v, h') => mx PT n t pc' lv (v.toList ++ r) h') = some (v, sc :: h2) := by
      intro t' pc' w r hh
      split at hh
      · cases hh
      · rename_i q
        obtain ⟨h3, rfl, e⟩ := ih q
        obtain ⟨h2, e1, e2⟩ := ih hh
        refine ⟨h2, e1, ?_⟩
        rw [e]
        exact e2
    unfold mxB at hx ⊢
    split at hx
    · cases hx
    rename_i ins len ax hf
    (try rw [hf])
    (try dsimp only at hx ⊢)
    split at hx
    · (try dsimp only)
      split at hx
      · split at hx
        · rename_i hc
          (try rw [if_pos hc]); exact ih hx
        · rename_i hc
          (try rw [if_neg hc]); exact ih hx
      · cases hx
    · (try dsimp only)
      split at hx
      · split at hx
        · rename_i hc
          (try rw [if_pos hc]); exact ih hx
        · rename_i hc
          (try rw [if_neg hc]); exact ih hx
      · cases hx
    · (try dsimp only)
      split at hx
      · exact ih hx
      · cases hx
    · (try dsimp only)
      split at hx
      · split at hx
        · rename_i hc
          (try rw [if_pos hc]); exact ih hx
        · rename_i hc
          (try rw [if_neg hc])
          split at hx
          · rename_i htg
            (try rw [htg]); exact ih hx
          · cases hx
      · cases hx
    · (try dsimp only)
      split at hx
      · cases hx; exact ⟨h, rfl, rfl⟩
      · split at hx
        · rename_i hc
          cases hx
          exact ⟨h, rfl, by rw [if_pos hc]⟩
        · cases hx
      · cases hx
    · (try dsimp only)
      split at hx
      · cases hx; exact ⟨h, rfl, rfl⟩
      · cases hx
    · (try dsimp only)
      split at hx
      · cases hx; exact ⟨h, rfl, rfl⟩
      · cases hx
    · (try dsimp only)
      split at hx
      · cases hx
      · rename_i hc
        rw [mmCall_psn sc hc]
        exact call hx
    · (try dsimp only)
      split at hx
      · split at hx
        · rename_i hc
          obtain ⟨h3, rfl, e⟩ := mmCopy_psn sc hc
          rw [e]; exact ih hx
        · cases hx
      · split at hx
        · cases hx
        · rename_i hc
          rw [mmCall_psn sc hc]
          exact call hx
    · (try dsimp only)
      split at hx
      · split at hx
        · split at hx
          · rename_i hc
            (try rw [if_pos hc]); exact ih hx
          · cases hx
        · cases hx
      · split at hx
        · cases hx
        · rename_i hc
          rw [mmCall_psn sc hc]
          exact call hx
    · split at hx
      · rename_i hs
        obtain ⟨h3, rfl, e⟩ := mmS_psn sc hs
        (try rw [e])
        exact ih hx
      · cases hx
end PSN
