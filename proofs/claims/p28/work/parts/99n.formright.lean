/-! THE LAW: forms are right, if a digest is told -/
section FORMRIGHT
variable {to fl f tr cn nu de ru la tf ph : Ob} {nb nv T : Nat}
theorem uses_args (hF : FG f nb nv T) : ((List.range nv).map fun v => ((List.range 150).map fun u => uN f v u).sum).sum = ((List.range nv).map fun v => eN f v).sum + ((List.range nb).map fun k => eN f (140 + k)).sum := by
  rw [← eN_all hF, sum_swap (fun v u => uN f v u)]
  exact sum_ext fun u hu => uses_sum hF.1 hu
theorem law_199 (hph : ph.2.2 0 = true) (hF : FG f nb nv T) (v2 : Int64) (v4 v5 v6 v7 v8 : Int32) (s : Nat) : Law_isFormRight_L199 to fl f tr cn nu de ru la tf ph (nI nb) v2 v4 v5 v6 v7 v8 (nI s) 0 = obn none (Ph_untilStill f tr cn nu de ph) (fun r244 => (Law_isFormRight_247 to fl f r244.2.1 r244.2.2.1 r244.2.2.2.1 r244.2.2.2.2 ru la tf ph v2 v4 v5 v6 v7 v8 (nI (s + ((List.range nb).map fun k => eN f (140 + k)).sum)) r244.1)) := by
  have hC := hF.1
  have h10 := hC.1.2.2.1
  unfold Law_isFormRight_L199
  refine loop_cnt (B := fun a : Int32 × Int32 => Law_isFormRight_L199b to fl f tr cn nu de ru la tf ph (nI nb) v2 v4 v5 v6 v7 v8 a.1 a.2) (mk := fun i (z : Int32) => (z, nI i)) (n := nb) (I := fun k z => z = nI (s + ((List.range k).map fun k => eN f (140 + k)).sum)) (P := fun r => r = obn none (Ph_untilStill f tr cn nu de ph) (fun r244 => (Law_isFormRight_247 to fl f r244.2.1 r244.2.2.1 r244.2.2.2.1 r244.2.2.2.2 ru la tf ph v2 v4 v5 v6 v7 v8 (nI (s + ((List.range nb).map fun k => eN f (140 + k)).sum)) r244.1))) (fun k z hk hz => ⟨z + nI (eN f (140 + k)), ?_, ?_⟩) (fun z hz => ⟨_, ?_, rfl⟩) nb 0 (nI s) (by omega) rfl
  · show Law_isFormRight_L199b to fl f tr cn nu de ru la tf ph (nI nb) v2 v4 v5 v6 v7 v8 z (nI k) = _
    obtain ⟨e1, e2⟩ := end_arg hph hF hk
    unfold Law_isFormRight_L199b Law_isFormRight_233 Law_isFormRight_234
    rw [if_pos (nI_lt hk (by omega)), place_0 hph hC hk, obn_some, nI_1]
    unfold tC
    by_cases q : bt (f.2.1 1) k = true
    · obtain ⟨a1, a2⟩ := e1 q
      rw [if_pos q, if_pos (show nI 1 = 1 from rfl), a1, obn_some, a2]
      by_cases y : Form_valueOf f (nI (140 + k)) 0 < 0
      · rw [if_pos y, if_pos y]; rfl
      · rw [if_neg y, if_neg y]; rfl
    · rw [if_neg q, if_neg (show ¬ nI 0 = 1 by decide), e2 q]
      rfl
  · show z + nI _ = nI _
    rw [hz, nI_add, sum_range_s (fun k => eN f (140 + k)), Nat.add_assoc]
  · show Law_isFormRight_L199b to fl f tr cn nu de ru la tf ph (nI nb) v2 v4 v5 v6 v7 v8 z (nI nb) = _
    unfold Law_isFormRight_L199b
    rw [if_neg (nI_nlt (Nat.le_refl _) (by omega)), hz]
end FORMRIGHT
