/-! THE LAW: how many there are, of a form */ -/
section MANYF
variable {to fl f ph : Ob} {nb nv T : Nat}
theorem many_of (hph : ph.2.2 0 = true) {k : Nat} (h4 : 4 ≤ k) (h10 : k ≤ 10) : Ph_many to fl f ph (nI k) = some (Ph_manyOfForm f (nI k)) := by
  unfold Ph_many
  have hne : ∀ j, j < 4 → ¬ nI k = nI j := fun j hj e => by have := nI_inj (by omega) (by omega) e; omega
  rw [if_neg (show ¬ nI k < 0 from nI_nlt (a := k) (b := 0) (by omega) (by omega)), if_neg (show ¬ (10 : Int32) < nI k from nI_nlt (a := 10) (b := k) h10 (by decide)), if_neg (show ¬ nI k = 0 from hne 0 (by decide)), if_neg (show ¬ nI k = 1 from hne 1 (by decide)), if_neg (show ¬ nI k = 2 from hne 2 (by decide)), if_neg (show ¬ nI k = 3 from hne 3 (by decide)), if_pos hph]
theorem many_4 (hph : ph.2.2 0 = true) : Ph_many to fl f ph 4 = some (f.2.1 2) := by
  rw [show (4 : Int32) = nI 4 from rfl, many_of hph (by decide) (by decide)]
  unfold Ph_manyOfForm
  rw [if_pos (show nI 4 = 4 by decide)]
theorem many_9 (hph : ph.2.2 0 = true) : Ph_many to fl f ph 9 = some (f.2.1 4) := by
  rw [show (9 : Int32) = nI 9 from rfl, many_of hph (by decide) (by decide)]
  unfold Ph_manyOfForm
  rw [if_neg (show ¬ nI 9 = 4 by decide), if_neg (show ¬ nI 9 = 5 by decide), if_neg (show ¬ nI 9 = 6 by decide), if_neg (show ¬ nI 9 = 7 by decide), if_neg (show ¬ nI 9 = 8 by decide), if_pos (show nI 9 = 9 by decide)]
theorem many_10 (hph : ph.2.2 0 = true) : Ph_many to fl f ph 10 = some (f.2.1 5) := by
  rw [show (10 : Int32) = nI 10 from rfl, many_of hph (by decide) (by decide)]
  unfold Ph_manyOfForm
  rw [if_neg (show ¬ nI 10 = 4 by decide), if_neg (show ¬ nI 10 = 5 by decide), if_neg (show ¬ nI 10 = 6 by decide), if_neg (show ¬ nI 10 = 7 by decide), if_neg (show ¬ nI 10 = 8 by decide), if_neg (show ¬ nI 10 = 9 by decide)]
theorem many_7 (hC : CI f nb nv) (hph : ph.2.2 0 = true) : Ph_many to fl f ph 7 = some (nI (thc f)) := by
  rw [show (7 : Int32) = nI 7 from rfl, many_of hph (by decide) (by decide)]
  unfold Ph_manyOfForm
  rw [if_neg (show ¬ nI 7 = 4 by decide), if_neg (show ¬ nI 7 = 5 by decide), if_neg (show ¬ nI 7 = 6 by decide), if_pos (show nI 7 = 7 by decide), bc10 (x := f.2.1 1)]
  · rfl
  · intro i hi hi32
    rw [← Bool.not_eq_true]
    intro q
    have := hC.2.2.2.2.2.2.2 i hi32 q
    have := hC.1.2.2.1
    omega
theorem sum_range_s (g : Nat → Nat) (k : Nat) : ((List.range (k + 1)).map g).sum = ((List.range k).map g).sum + g k := by
  rw [List.range_succ, List.map_append, List.sum_append]
  rfl
theorem many_5 (hC : CI f nb nv) (ht : tidy f) (hph : ph.2.2 0 = true) : Ph_many to fl f ph 5 = some (nI (cntV f nv)) := by
  have h10 := hC.1.2.2.1
  rw [show (5 : Int32) = nI 5 from rfl, many_of hph (by decide) (by decide)]
  unfold Ph_manyOfForm
  rw [if_neg (show ¬ nI 5 = 4 by decide), if_pos (show nI 5 = 5 by decide)]
  congr 1
  rw [cnt_in hC]
  unfold Form_allIn_sizes Form_allIn_sizes_L4
  refine loop_cnt (B := fun a : Int32 × Int32 => Form_allIn_sizes_L4b f a.1 a.2) (mk := fun i (s : Int32) => (s, nI i)) (n := nb) (I := fun k s => s = nI ((List.range k).map fun b => inB f nv b).sum) (P := fun r => r = nI ((List.range nb).map fun b => inB f nv b).sum) (fun k s hk hI => ⟨_, ?_, rfl⟩) (fun s hI => ⟨s, ?_, hI⟩) nb 0 0 (by omega) rfl
  · obtain ⟨e1, e2, e3⟩ := size_in hC ht hk
    show Form_allIn_sizes_L4b f s (nI k) = _
    unfold Form_allIn_sizes_L4b
    rw [hC.1.1, if_pos (nI_lt hk (by omega)), oat_rs (show k < 10 by omega) (by decide), e1, e3, hI, nI_add, nI_1, sum_range_s]
  · show Form_allIn_sizes_L4b f s (nI nb) = _
    unfold Form_allIn_sizes_L4b
    rw [hC.1.1, if_neg (nI_nlt (Nat.le_refl _) (by omega))]
/-- what is in blocks and what blocks are there make, with what is gone, all there was -/
theorem many_57 (hF : FG f nb nv T) (hT : T < 1000) {g : Nat} (hg : f.2.1 5 = nI g) (hg1 : g < 2 ^ 31) : nI (cntV f nv) + nI (thc f) = nI (T - g) ∧ g ≤ T := by
  obtain ⟨h1, h2, h3, gn, k1, k2, k3⟩ := hF
  rw [Nat.mod_eq_of_lt hT] at k2
  have hgg : g = gn := nI_inj hg1 (by omega) (hg.symm.trans k1)
  rw [nI_add]
  exact ⟨congrArg nI (by omega), by omega⟩
end MANYF
