/-! THE LAW: phis of one block -/
section PHIBLK
variable {to fl f tr cn nu de ru la tf ph : Ob} {nb nv T : Nat}
theorem law_65 (hph : ph.2.2 0 = true) (hF : FG f nb nv T) (ht : tidy f) {k : Nat} (hk : k < nb) (v1 : Int32) (v2 : Int64) (v4 v5 v6 v7 : Int32) : Law_isFormRight_L65 to fl f tr cn nu de ru la tf ph v1 v2 v4 v5 v6 v7 (nI k) 0 = .inl (v4, v5, v6, v7 + nI (inQ f (k9 f) nv k), nI (k + 1)) := by
  have hC := hF.1
  have h10 := hC.1.2.2.1
  have hnv := hC.1.2.2.2.2.2
  obtain ⟨s, hs, h7, q1, q2, q3⟩ := hC.2.2.2.1 k (by omega)
  have hcnt : ((List.range s).filter fun i => k9 f (tn (f.1 8 (k * 140 + i)))).length = inQ f (k9 f) nv k := by
    rw [← frw_Q hC ht (k9 f) hk]
    unfold frw
    rw [h7, tn_nI (by omega), List.filter_map, List.length_map]
    rfl
  have hp1 := place_1 hph hF ht hk
  rw [h7] at hp1
  unfold Law_isFormRight_L65
  refine loop_cnt (B := fun a : Int32 × Int32 => Law_isFormRight_L65b to fl f tr cn nu de ru la tf ph v1 v2 v4 v5 v6 a.1 (nI k) a.2) (mk := fun i (z : Int32) => (z, nI i)) (n := s) (I := fun j z => z = v7 + nI ((List.range j).filter fun i => k9 f (tn (f.1 8 (k * 140 + i)))).length) (P := fun r => r = .inl (v4, v5, v6, v7 + nI (inQ f (k9 f) nv k), nI (k + 1))) (fun i z hi hz => ⟨_, ?_, rfl⟩) (fun z hz => ⟨_, ?_, rfl⟩) s 0 v7 (by omega) (by show v7 = v7 + nI 0; exact (Int32.add_zero v7).symm)
  · show Law_isFormRight_L65b to fl f tr cn nu de ru la tf ph v1 v2 v4 v5 v6 z (nI k) (nI i) = _
    obtain ⟨v, hv, ev, -⟩ := q1 i hi
    have hthere : bt (f.2.1 1) k = true := Classical.byContradiction fun q => by
      have z1 := (not_size hF ht hk q).1
      have := nI_inj (a := s) (b := 0) (by omega) (by omega) (h7.symm.trans z1)
      omega
    have hva : Ph_valueAt f ph (nI k) (nI i) = some (nI v) := by
      unfold Ph_valueAt Form_valueIn
      rw [if_pos hph, has_nI (by omega), if_pos hthere, if_neg (nI_pos (by omega)), oat_rs (show k < 10 by omega) (by decide), h7, if_pos (nI_lt hi (by omega)), show nI k * 140 + nI i = nI (k * 140 + i) by rw [← nI_add, ← nI_mul]; rfl, oat_rs (show k * 140 + i < 1400 by omega) (by decide), ev]
    unfold Law_isFormRight_L65b Law_isFormRight_102
    rw [hp1, obn_some, if_pos (nI_lt hi (by omega)), hva, obn_some, ov_0 hph hC hv, obn_some, nI_1, filter_range_s, List.length_append, ← nI_add ((List.range i).filter fun i => k9 f (tn (f.1 8 (k * 140 + i)))).length, ← Int32.add_assoc, ← hz, ev, tn_nI (by omega)]
    unfold k9
    by_cases q : f.1 0 v = 9
    · rw [if_pos q, if_pos (decide_eq_true q)]; rfl
    · rw [if_neg q, if_neg (show ¬ decide (f.1 0 v = 9) = true from fun x => q (of_decide_eq_true x))]; rfl
  · show Law_isFormRight_L65b to fl f tr cn nu de ru la tf ph v1 v2 v4 v5 v6 z (nI k) (nI s) = _
    unfold Law_isFormRight_L65b
    rw [hp1, obn_some, if_neg (nI_nlt (Nat.le_refl _) (by omega)), hz, hcnt, nI_1]
end PHIBLK
