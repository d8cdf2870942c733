/-! THE DIGEST is told */ -/
section DIGSOME
variable {to fl f tr cn nu de ru la tf ph : Ob} {nb nv T : Nat}
def isS {α : Type} (o : Option α) : Prop := ∃ r, o = some r
theorem many_S {k : Nat} (hk : k ≤ 10) : isS (Ph_many to fl f ph (nI k)) := by
  unfold Ph_many
  rw [if_neg (nI_pos (by omega)), if_neg (show ¬ (10 : Int32) < nI k from nI_nlt (a := 10) (b := k) hk (by decide))]
  repeat' split
  all_goals exact ⟨_, rfl⟩
theorem block_S (hnb : to.2.1 0 = nI nb) (h10 : nb ≤ 10) {v j : Nat} (hv : v < nb) (hj : j ≤ 5) : isS (Ph_ofBlock to fl (nI v) (nI j)) := by
  unfold Ph_ofBlock
  rw [if_pos (told_k hnb h10 hv)]
  have : j = 0 ∨ j = 1 ∨ j = 2 ∨ j = 3 ∨ j = 4 ∨ j = 5 := by omega
  rcases this with rfl | rfl | rfl | rfl | rfl | rfl
  · rw [if_pos (by decide)]; exact ⟨_, rfl⟩
  · rw [if_neg (by decide), if_pos (by decide)]; exact ⟨_, rfl⟩
  · rw [if_neg (show ¬ nI 2 = 0 by decide), if_neg (show ¬ nI 2 = 1 by decide), if_pos (show nI 2 = 2 by decide)]; split <;> exact ⟨_, rfl⟩
  · rw [if_neg (show ¬ nI 3 = 0 by decide), if_neg (show ¬ nI 3 = 1 by decide), if_neg (show ¬ nI 3 = 2 by decide), if_pos (show nI 3 = 3 by decide)]; split <;> exact ⟨_, rfl⟩
  · rw [if_neg (show ¬ nI 4 = 0 by decide), if_neg (show ¬ nI 4 = 1 by decide), if_neg (show ¬ nI 4 = 2 by decide), if_neg (show ¬ nI 4 = 3 by decide), if_pos (show nI 4 = 4 by decide)]; split <;> exact ⟨_, rfl⟩
  · rw [if_neg (show ¬ nI 5 = 0 by decide), if_neg (show ¬ nI 5 = 1 by decide), if_neg (show ¬ nI 5 = 2 by decide), if_neg (show ¬ nI 5 = 3 by decide), if_neg (show ¬ nI 5 = 4 by decide), if_pos (show nI 5 = 5 by decide)]; split <;> exact ⟨_, rfl⟩
theorem blocks_S (hnb : to.2.1 0 = nI nb) (h10 : nb ≤ 10) (v1 : Int64) : isS (Ph_mixedWithBlocks to fl v1) := by
  unfold Ph_mixedWithBlocks Ph_mixedWithBlocks_L5
  refine loop_cnt (B := fun a : Int64 × Int32 => Ph_mixedWithBlocks_L5b to fl v1 a.1 a.2) (mk := fun i (z : Int64) => (z, nI i)) (n := nb) (I := fun _ _ => True) (P := isS) (fun k z hk _ => ?_) (fun z _ => ⟨some z, ?_, _, rfl⟩) nb 0 v1 (by omega) trivial
  · have key : (fun r : (Int64 × Int32) ⊕ Option Int64 => ∃ s, r = .inl (s, nI (k + 1))) (Ph_mixedWithBlocks_L20 to fl v1 z (nI k) 0) := by
      unfold Ph_mixedWithBlocks_L20
      refine loop_cnt (B := fun a : Int64 × Int32 => Ph_mixedWithBlocks_L20b to fl v1 a.1 (nI k) a.2) (mk := fun i (z : Int64) => (z, nI i)) (n := 6) (I := fun _ _ => True) (P := fun r : (Int64 × Int32) ⊕ Option Int64 => ∃ s, r = .inl (s, nI (k + 1))) (fun j s hj _ => ?_) (fun s _ => ⟨_, ?_, s, rfl⟩) 6 0 z rfl trivial
      · obtain ⟨r, e⟩ := block_S (fl := fl) hnb h10 hk (show j ≤ 5 by omega)
        refine ⟨Ph_mixed s r.toInt64, ?_, trivial⟩
        show Ph_mixedWithBlocks_L20b to fl v1 s (nI k) (nI j) = _
        unfold Ph_mixedWithBlocks_L20b
        rw [if_neg (show ¬ (5 : Int32) < nI j from nI_nlt (a := 5) (b := j) (by omega) (by decide)), e, obn_some, nI_1]
      · show Ph_mixedWithBlocks_L20b to fl v1 s (nI k) (nI 6) = _
        unfold Ph_mixedWithBlocks_L20b
        rw [if_pos (by decide), nI_1]
    obtain ⟨s, e⟩ := key
    refine ⟨s, ?_, trivial⟩
    show Ph_mixedWithBlocks_L5b to fl v1 z (nI k) = _
    unfold Ph_mixedWithBlocks_L5b
    rw [hnb, if_pos (nI_lt hk (by omega)), e]
  · show Ph_mixedWithBlocks_L5b to fl v1 z (nI nb) = _
    unfold Ph_mixedWithBlocks_L5b
    rw [hnb, if_neg (nI_nlt (Nat.le_refl _) (by omega))]
end DIGSOME
