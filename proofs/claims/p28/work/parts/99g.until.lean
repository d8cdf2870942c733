/-! THE LAW: until nothing goes any more -/
section UNTIL
variable {ma tr cn nu de ph : Ob}
def unI (a : Int32 × Int32 × Ob × Ob × Ob × Ob) : Prop := ∃ i j, a.1 = nI i ∧ a.2.1 = nI j ∧ i ≤ j ∧ i ≤ 4 ∧ j ≤ 40
theorem until_4 (hph : ph.2.2 0 = true) : ∃ n tr' cn' nu' de', Ph_untilStill ma tr cn nu de ph = some (nI n, tr', cn', nu', de') ∧ 4 ≤ n ∧ n ≤ 40 := by
  unfold Ph_untilStill
  rw [if_pos hph]
  unfold Ph_untilStill_L32
  refine loopW_inv (fun a : Int32 × Int32 × Ob × Ob × Ob × Ob => Ph_untilStill_L32b ma a.2.2.1 a.2.2.2.1 a.2.2.2.2.1 a.2.2.2.2.2 ph a.1 a.2.1) (fun a => 41 - tn a.2.1) unI (fun r => ∃ n tr' cn' nu' de', r = some (nI n, tr', cn', nu', de') ∧ 4 ≤ n ∧ n ≤ 40) (fun a hI => ?_) _ ⟨0, 0, rfl, rfl, by decide, by decide, by decide⟩
  obtain ⟨i, j, e1, e2, h1, h2, h3⟩ := hI
  obtain ⟨a1, a2, t, c, n, d⟩ := a
  dsimp only at e1 e2 ⊢
  subst e1
  subst e2
  by_cases hj : j < 40
  · by_cases hi : i < 4
    · have hB : Ph_untilStill_L32b ma t c n d ph (nI i) (nI j) = .inl ((if (Ph_passOver t c n d (Ph_passBehind (nI j))).1 = 0 then nI (i + 1) else 0), nI (j + 1), (Ph_passOver t c n d (Ph_passBehind (nI j))).2.1, (Ph_passOver t c n d (Ph_passBehind (nI j))).2.2.1, (Ph_passOver t c n d (Ph_passBehind (nI j))).2.2.2.1, (Ph_passOver t c n d (Ph_passBehind (nI j))).2.2.2.2) := by
        unfold Ph_untilStill_L32b Ph_untilStill_55 Ph_untilStill_65
        rw [if_pos (show nI j < 40 from nI_lt (a := j) (b := 40) hj (by decide)), if_pos (show nI i < 4 from nI_lt (a := i) (b := 4) hi (by decide)), nI_1, nI_1]
        by_cases q : (Ph_passOver t c n d (Ph_passBehind (nI j))).1 = 0
        · rw [if_pos q, if_pos q]
        · rw [if_neg q, if_neg q]
      refine ⟨fun a' ha' => ?_, fun w hw => by rw [hB] at hw; cases hw⟩
      rw [hB] at ha'
      cases ha'
      refine ⟨?_, by rw [tn_nI (by omega), tn_nI (by omega)]; omega⟩
      by_cases q : (Ph_passOver t c n d (Ph_passBehind (nI j))).1 = 0
      · rw [if_pos q]
        exact ⟨i + 1, j + 1, rfl, rfl, by omega, by omega, by omega⟩
      · rw [if_neg q]
        exact ⟨0, j + 1, rfl, rfl, by omega, by omega, by omega⟩
    · have hB : Ph_untilStill_L32b ma t c n d ph (nI i) (nI j) = .inr (some (nI j, t, c, n, d)) := by
        unfold Ph_untilStill_L32b Ph_untilStill_72
        rw [if_pos (show nI j < 40 from nI_lt (a := j) (b := 40) hj (by decide)), if_neg (show ¬ nI i < 4 from nI_nlt (a := i) (b := 4) (by omega) (by omega))]
      refine ⟨(fun a' ha' => by rw [hB] at ha'; cases ha'), fun w hw => ?_⟩
      rw [hB] at hw
      cases hw
      exact ⟨j, t, c, n, d, rfl, by omega, h3⟩
  · have hB : Ph_untilStill_L32b ma t c n d ph (nI i) (nI j) = .inr (some (nI j, t, c, n, d)) := by
      unfold Ph_untilStill_L32b Ph_untilStill_72
      rw [if_neg (show ¬ nI j < 40 from nI_nlt (a := j) (b := 40) (by omega) (by omega))]
    refine ⟨(fun a' ha' => by rw [hB] at ha'; cases ha'), fun w hw => ?_⟩
    rw [hB] at hw
    cases hw
    exact ⟨j, t, c, n, d, rfl, by omega, h3⟩
end UNTIL
