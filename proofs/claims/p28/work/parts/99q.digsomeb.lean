/-! THE DIGEST is told: of a run, of a place, of a value */ -/
section DIGSOMEB
variable {to fl f tr cn nu de ru la tf ph : Ob} {nb nv T : Nat}
theorem run_S (v1 : Int64) : isS (Ph_mixedWithRun la ph v1) := by
  have h72 : ∀ z, isS (Ph_mixedWithRun_L72 la ph v1 z 0) := fun z => by
    unfold Ph_mixedWithRun_L72
    refine loop_cnt (B := fun a : Int64 × Int32 => Ph_mixedWithRun_L72b la ph v1 a.1 a.2) (mk := fun i (z : Int64) => (z, nI i)) (n := 8) (I := fun _ _ => True) (P := isS) (fun k z hk _ => ⟨Ph_mixed z (la.1 0 k).toInt64, ?_, trivial⟩) (fun z _ => ⟨some z, ?_, _, rfl⟩) 8 0 z rfl trivial
    · show Ph_mixedWithRun_L72b la ph v1 z (nI k) = _
      unfold Ph_mixedWithRun_L72b
      rw [if_pos (show nI k < 8 from nI_lt (a := k) (b := 8) hk (by decide)), cell_at hk, obn_some, nI_1]
    · show Ph_mixedWithRun_L72b la ph v1 z (nI 8) = _
      unfold Ph_mixedWithRun_L72b
      rw [if_neg (by decide)]
  have h32 : ∀ z, isS (Ph_mixedWithRun_L32 la ph v1 z 0) := fun z => by
    unfold Ph_mixedWithRun_L32
    refine loopW_inv (fun a : Int64 × Int32 => Ph_mixedWithRun_L32b la ph v1 a.1 a.2) (fun a => 61 - tn a.2) (fun a => ∃ k, k ≤ 60 ∧ a.2 = nI k) isS (fun a hI => ?_) _ ⟨0, by decide, rfl⟩
    obtain ⟨k, hk, e⟩ := hI
    obtain ⟨z, v⟩ := a
    have e' : v = nI k := e
    subst e'
    show (∀ a', Ph_mixedWithRun_L32b la ph v1 z (nI k) = .inl a' → _) ∧ ∀ w, Ph_mixedWithRun_L32b la ph v1 z (nI k) = .inr w → isS w
    unfold Ph_mixedWithRun_L32b Ph_mixedWithRun_69
    by_cases q : k < 60
    · rw [if_pos (show nI k < 60 from nI_lt (a := k) (b := 60) q (by decide))]
      by_cases y : nI k < la.2.1 2
      · have hp : Ph_printed la (nI k) = some (oat la 1 60 (nI k)) := by
          unfold Ph_printed
          rw [if_neg (nI_pos (by omega)), if_pos y, if_pos (show nI k < 60 from nI_lt (a := k) (b := 60) q (by decide))]
        rw [if_pos y, hp, obn_some, nI_1]
        refine ⟨fun a' ha' => ?_, fun w hw => by cases hw⟩
        cases ha'
        refine ⟨⟨k + 1, by omega, rfl⟩, ?_⟩
        show 61 - tn (nI (k + 1)) < 61 - tn (nI k)
        rw [tn_nI (by omega), tn_nI (by omega)]
        omega
      · rw [if_neg y]
        refine ⟨(fun a' ha' => by cases ha'), fun w hw => ?_⟩
        cases hw
        exact h72 z
    · rw [if_neg (show ¬ nI k < 60 from nI_nlt (a := k) (b := 60) (by omega) (by omega))]
      refine ⟨(fun a' ha' => by cases ha'), fun w hw => ?_⟩
      cases hw
      exact h72 z
  have hof : ∀ k, k < 6 → isS (Ph_ofRun la ph (nI k)) := fun k hk => by
    have : k = 0 ∨ k = 1 ∨ k = 2 ∨ k = 3 ∨ k = 4 ∨ k = 5 := by omega
    have e4 : Ph_ofRun la ph 4 = some (la.2.1 4) := by
      unfold Ph_ofRun
      rw [if_neg (show ¬ (4 : Int32) = 0 by decide), if_neg (show ¬ (4 : Int32) = 1 by decide), if_neg (show ¬ (4 : Int32) = 2 by decide), if_neg (show ¬ (4 : Int32) = 3 by decide), if_pos rfl]
    rcases this with rfl | rfl | rfl | rfl | rfl | rfl
    · exact ⟨_, of_0⟩
    · exact ⟨_, of_1⟩
    · exact ⟨_, of_2⟩
    · exact ⟨_, of_3⟩
    · exact ⟨_, e4⟩
    · exact ⟨_, of_5⟩
  unfold Ph_mixedWithRun Ph_mixedWithRun_L5
  refine loop_cnt (B := fun a : Int64 × Int32 => Ph_mixedWithRun_L5b la ph v1 a.1 a.2) (mk := fun i (z : Int64) => (z, nI i)) (n := 6) (I := fun _ _ => True) (P := isS) (fun k z hk _ => ?_) (fun z _ => ⟨_, ?_, h32 z⟩) 6 0 v1 rfl trivial
  · obtain ⟨r, e⟩ := hof k hk
    refine ⟨Ph_mixed z r.toInt64, ?_, trivial⟩
    show Ph_mixedWithRun_L5b la ph v1 z (nI k) = _
    unfold Ph_mixedWithRun_L5b
    rw [if_neg (show ¬ (5 : Int32) < nI k from nI_nlt (a := 5) (b := k) (by omega) (by decide)), e, obn_some, nI_1]
  · show Ph_mixedWithRun_L5b la ph v1 z (nI 6) = _
    unfold Ph_mixedWithRun_L5b
    rw [if_pos (by decide)]
end DIGSOMEB
