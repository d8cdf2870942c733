/-! THE LAW: uses are counted -/
section USES
variable {f ph : Ob} {nb nv T : Nat}
def alN (f : Ob) (u : Nat) : Nat := tn (f.1 3 u)
def aE5 (f : Ob) (u i : Nat) : Int32 := f.1 5 (tn (f.1 4 u) + i)
def uN (f : Ob) (v u : Nat) : Nat := ((List.range (alN f u)).filter fun i => decide (aE5 f u i = nI v)).length
def eN (f : Ob) (u : Nat) : Nat := ((List.range (alN f u)).filter fun i => !decide (aE5 f u i = -1)).length
theorem al_at (hC : CI f nb nv) {u : Nat} (hu : u < 150) : f.1 3 u = nI (alN f u) ∧ alN f u < 291 ∧ (∃ a, a < 291 ∧ f.1 4 u = nI a ∧ tn (f.1 4 u) = a ∧ (0 < alN f u → a + alN f u ≤ 290)) ∧ ∀ i, i < alN f u → aE5 f u i = -1 ∨ ∃ v, v < nv ∧ aE5 f u i = nI v := by
  obtain ⟨c, a, h1, h2, h3, h4, h5, h6⟩ := hC.2.1.1 u hu
  have e : alN f u = c := by unfold alN; rw [h1, tn_nI (by omega)]
  rw [e]
  refine ⟨h1, h2, ⟨a, h4, h3, by rw [h3, tn_nI (by omega)], h5⟩, fun i hi => ?_⟩
  unfold aE5
  rw [h3, tn_nI (by omega)]
  exact h6 i hi
theorem uN_le (v u : Nat) : uN f v u ≤ alN f u := by
  unfold uN
  refine Nat.le_trans (List.length_filter_le _ _) ?_
  rw [List.length_range]
  exact Nat.le_refl _
theorem uses_sum (hC : CI f nb nv) {u : Nat} (hu : u < 150) : ((List.range nv).map fun v => uN f v u).sum = eN f u := by
  obtain ⟨h1, h2, -, h4⟩ := al_at hC hu
  have hnv := hC.1.2.2.2.2.2
  unfold uN eN
  have key : ∀ n, n ≤ alN f u → ((List.range nv).map fun v => ((List.range n).filter fun i => decide (aE5 f u i = nI v)).length).sum = ((List.range n).filter fun i => !decide (aE5 f u i = -1)).length := by
    intro n
    induction n with
    | zero => intro _; exact sum_zero _
    | succ n ih =>
      intro hn
      rw [filter_range_s, List.length_append, ← ih (by omega)]
      rcases h4 n (by omega) with z | ⟨c, hc, z⟩
      · have e : ((List.range nv).map fun v => ((List.range (n + 1)).filter fun i => decide (aE5 f u i = nI v)).length) = (List.range nv).map fun v => ((List.range n).filter fun i => decide (aE5 f u i = nI v)).length := List.map_congr_left fun v hv => by
          have hv' := List.mem_range.mp hv
          rw [filter_range_s, z, if_neg (show ¬ decide ((-1 : Int32) = nI v) = true from fun y => nI_m1 (a := v) (by omega) (of_decide_eq_true y).symm), List.append_nil]
        rw [e, if_neg (by rw [z]; simp)]
        rfl
      · have e : ((List.range nv).map fun v => ((List.range (n + 1)).filter fun i => decide (aE5 f u i = nI v)).length) = (List.range nv).map fun v => ((List.range n).filter fun i => decide (aE5 f u i = nI v)).length + (if c = v then 1 else 0) := List.map_congr_left fun v hv => by
          have hv' := List.mem_range.mp hv
          rw [filter_range_s, List.length_append, z]
          congr 1
          by_cases y : c = v
          · rw [if_pos y, if_pos (decide_eq_true (by rw [y]))]; rfl
          · rw [if_neg y, if_neg (show ¬ decide (nI c = nI v) = true from fun x => y (nI_inj (by omega) (by omega) (of_decide_eq_true x)))]; rfl
        rw [e, sum_add, ind_sum c nv, if_pos hc, z, if_pos (by simp [nI_m1 (a := c) (by omega)])]
        rfl
  exact key _ (Nat.le_refl _)
theorem sum_swap (g : Nat → Nat → Nat) (m : Nat) : ∀ n, ((List.range n).map fun v => ((List.range m).map fun u => g v u).sum).sum = ((List.range m).map fun u => ((List.range n).map fun v => g v u).sum).sum := by
  intro n
  induction n with
  | zero => exact (sum_zero _).symm
  | succ n ih =>
    rw [sum_range_s, ih, ← sum_add]
    congr 1
    exact List.map_congr_left fun u _ => (sum_range_s (fun v => g v u) n).symm
theorem usesOf_spec (hC : CI f nb nv) {v : Nat} (hv : v < nv) : Form_usesOf f (nI v) = nI ((List.range 150).map fun u => uN f v u).sum := by
  unfold Form_usesOf Form_usesOf_L4
  refine loop_cnt (B := fun a : Int32 × Int32 => Form_usesOf_L4b f (nI v) a.1 a.2) (mk := fun i (s : Int32) => (s, nI i)) (n := 150) (I := fun k s => s = nI ((List.range k).map fun u => uN f v u).sum) (P := fun r => r = nI ((List.range 150).map fun u => uN f v u).sum) (fun u s hu hI => ⟨_, ?_, rfl⟩) (fun s hI => ⟨s, ?_, hI⟩) 150 0 0 rfl rfl
  · obtain ⟨h1, h2, ⟨a, ha, h4, h5, h6⟩, -⟩ := al_at hC hu
    show Form_usesOf_L4b f (nI v) s (nI u) = _
    unfold Form_usesOf_L4b
    rw [if_pos (show nI u < 150 from nI_lt (a := u) (b := 150) hu (by decide)), sum_range_s, ← nI_add, ← hI]
    unfold Form_usesOf_L14
    refine loop_cnt (B := fun a : Int32 × Int32 => Form_usesOf_L14b f (nI v) a.1 (nI u) a.2) (mk := fun i (s : Int32) => (s, nI i)) (n := alN f u) (I := fun k z => z = s + nI ((List.range k).filter fun i => decide (aE5 f u i = nI v)).length) (P := fun r => r = .inl (s + nI (uN f v u), nI (u + 1))) (fun i z hi hz => ⟨_, ?_, rfl⟩) (fun z hz => ⟨_, ?_, rfl⟩) (alN f u) 0 s (by omega) (by show s = s + nI 0; exact (Int32.add_zero s).symm)
    · show Form_usesOf_L14b f (nI v) z (nI u) (nI i) = _
      unfold Form_usesOf_L14b Form_usesOf_55
      rw [oat_rs hu (by decide), oat_rs hu (by decide), h1, if_pos (nI_lt hi (by omega)), h4, nI_add, oat_rs (show a + i < 290 by have := h6 (by omega); omega) (by decide), nI_1, filter_range_s, List.length_append, ← nI_add ((List.range i).filter fun i => decide (aE5 f u i = nI v)).length, ← Int32.add_assoc, ← hz]
      have e5 : aE5 f u i = f.1 5 (a + i) := by unfold aE5; rw [h5]
      rw [e5]
      by_cases q : f.1 5 (a + i) = nI v
      · rw [if_pos q, if_pos (decide_eq_true q)]; rfl
      · rw [if_neg q, if_neg (show ¬ decide (f.1 5 (a + i) = nI v) = true from fun x => q (of_decide_eq_true x))]; rfl
    · show Form_usesOf_L14b f (nI v) z (nI u) (nI (alN f u)) = _
      unfold Form_usesOf_L14b
      rw [oat_rs hu (by decide), h1, if_neg (nI_nlt (Nat.le_refl _) (by omega)), hz, nI_1]
      rfl
  · show Form_usesOf_L4b f (nI v) s (nI 150) = _
    unfold Form_usesOf_L4b
    rw [if_neg (by decide)]
end USES
