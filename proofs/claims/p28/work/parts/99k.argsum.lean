/-! THE LAW: arguments are counted -/
section ARGSUM
variable {to fl f tr cn nu de ru la tf ph : Ob} {nb nv T : Nat}
theorem eN_0 {u : Nat} (h : alN f u = 0) : eN f u = 0 := by
  unfold eN
  rw [h]
  rfl
theorem sum_ext {g h : Nat → Nat} {n : Nat} (e : ∀ k, k < n → g k = h k) : ((List.range n).map g).sum = ((List.range n).map h).sum := by
  rw [List.map_congr_left fun k hk => e k (List.mem_range.mp hk)]
theorem sum_add_range (g : Nat → Nat) (m : Nat) : ∀ n, ((List.range (m + n)).map g).sum = ((List.range m).map g).sum + ((List.range n).map fun k => g (m + k)).sum := by
  intro n
  induction n with
  | zero => rfl
  | succ n ih =>
    rw [← Nat.add_assoc, sum_range_s, ih, sum_range_s, Nat.add_assoc]
theorem eN_all (hF : FG f nb nv T) : ((List.range 150).map fun u => eN f u).sum = ((List.range nv).map fun u => eN f u).sum + ((List.range nb).map fun k => eN f (140 + k)).sum := by
  obtain ⟨hC, -, hE, -⟩ := hF
  have hnv := hC.1.2.2.2.2.2
  have h10 := hC.1.2.2.1
  have e1 := sum_add_range (fun u => eN f u) nv (140 - nv)
  rw [show nv + (140 - nv) = 140 by omega] at e1
  have e2 := sum_add_range (fun u => eN f u) 140 10
  have e3 := sum_add_range (fun k => eN f (140 + k)) nb (10 - nb)
  rw [show nb + (10 - nb) = 10 by omega] at e3
  rw [show (150 : Nat) = 140 + 10 from rfl, e2, e1, e3]
  have z1 : ((List.range (140 - nv)).map fun k => eN f (nv + k)).sum = 0 := by
    rw [sum_ext (h := fun _ => 0) fun k hk => eN_0 (by
      unfold alN
      rw [hC.2.1.2.2 (nv + k) (by omega) (Or.inl (by omega))]
      rfl)]
    exact sum_zero _
  have z2 : ((List.range (10 - nb)).map fun k => eN f (140 + (nb + k))).sum = 0 := by
    rw [sum_ext (h := fun _ => 0) fun k hk => eN_0 (by
      obtain ⟨-, -, q⟩ := hE (nb + k) fun z => by
        have := hC.2.2.2.2.2.2.2 (nb + k) (by have := z.1; omega) z.2
        omega
      have e : aAg (fS f) (140 + (nb + k)) = fag f (140 + (nb + k)) := by
        show (if 140 + (nb + k) < 150 then fag f (140 + (nb + k)) else []) = _
        rw [if_pos (by omega)]
      rw [e] at q
      unfold fag at q
      rw [List.map_eq_nil_iff, List.range_eq_nil] at q
      exact q)]
    exact sum_zero _
  rw [z1, z2]
  omega
theorem val_at (hC : CI f nb nv) {u i : Nat} (hu : u < 150) (hi : i < alN f u) : Form_valueOf f (nI u) (nI i) = aE5 f u i ∧ (aE5 f u i < 0 ↔ aE5 f u i = -1) := by
  obtain ⟨h1, h2, ⟨a, ha, h4, h5, h6⟩, h7⟩ := al_at hC hu
  have hnv := hC.1.2.2.2.2.2
  constructor
  · unfold Form_valueOf aE5
    rw [if_neg (show ¬ nI i < 0 from nI_nlt (a := i) (b := 0) (by omega) (by omega)), oat_rs hu (by decide), h1, if_pos (nI_lt hi (by omega)), oat_rs hu (by decide), h5, h4, nI_add, oat_rs (show a + i < 290 by have := h6 (by omega); omega) (by decide)]
  · rcases h7 i hi with e | ⟨w, hw, e⟩
    · rw [e]
      exact ⟨fun _ => rfl, fun _ => by decide⟩
    · rw [e]
      exact ⟨fun q => absurd q (nI_pos (by omega)), fun q => absurd q (nI_m1 (by omega))⟩
theorem isV (hph : ph.2.2 0 = true) (hC : CI f nb nv) {v : Nat} (hv : v < nv) : Ph_isValue f ph (nI v) = true := by
  have hnv := hC.1.2.2.2.2.2
  unfold Ph_isValue
  rw [if_pos hph, if_neg (nI_pos (by omega)), hC.1.2.2.2.1, if_pos (nI_lt hv (by omega))]
theorem ov_0 (hph : ph.2.2 0 = true) (hC : CI f nb nv) {v : Nat} (hv : v < nv) : Ph_ofValue f ph (nI v) 0 = some (f.1 0 v) := by
  have hnv := hC.1.2.2.2.2.2
  unfold Ph_ofValue
  rw [if_pos (isV hph hC hv), if_pos rfl, oat_rs (show v < 140 by omega) (by decide)]
theorem ov_3 (hph : ph.2.2 0 = true) (hC : CI f nb nv) {v : Nat} (hv : v < nv) : Ph_ofValue f ph (nI v) 3 = some (nI (alN f v)) := by
  have hnv := hC.1.2.2.2.2.2
  unfold Ph_ofValue
  rw [if_pos (isV hph hC hv), if_neg (show ¬ (3 : Int32) = 0 by decide), if_neg (show ¬ (3 : Int32) = 1 by decide), if_neg (show ¬ (3 : Int32) = 2 by decide), if_pos rfl, oat_rs (show v < 150 by omega) (by decide), (al_at hC (show v < 150 by omega)).1]
theorem ov_4 (hph : ph.2.2 0 = true) (hC : CI f nb nv) {v : Nat} (hv : v < nv) : Ph_ofValue f ph (nI v) 4 = some (nI ((List.range 150).map fun u => uN f v u).sum) := by
  unfold Ph_ofValue
  rw [if_pos (isV hph hC hv), if_neg (show ¬ (4 : Int32) = 0 by decide), if_neg (show ¬ (4 : Int32) = 1 by decide), if_neg (show ¬ (4 : Int32) = 2 by decide), if_neg (show ¬ (4 : Int32) = 3 by decide), if_pos rfl, usesOf_spec hC hv]
theorem law_151 (hph : ph.2.2 0 = true) (hC : CI f nb nv) {v : Nat} (hv : v < nv) (v1 : Int32) (v2 : Int64) (v4 v5 v6 v7 v8 v9 : Int32) : Law_isFormRight_L151 to fl f tr cn nu de ru la tf ph v1 v2 v4 v5 v6 v7 v8 v9 (nI v) 0 = .inl (v8, v9 + nI (eN f v), nI (v + 1)) := by
  have hnv := hC.1.2.2.2.2.2
  have hal := (al_at hC (show v < 150 by omega)).2.1
  unfold Law_isFormRight_L151
  refine loop_cnt (B := fun a : Int32 × Int32 => Law_isFormRight_L151b to fl f tr cn nu de ru la tf ph v1 v2 v4 v5 v6 v7 v8 a.1 (nI v) a.2) (mk := fun i (s : Int32) => (s, nI i)) (n := alN f v) (I := fun k z => z = v9 + nI ((List.range k).filter fun i => !decide (aE5 f v i = -1)).length) (P := fun r => r = .inl (v8, v9 + nI (eN f v), nI (v + 1))) (fun i z hi hz => ⟨_, ?_, rfl⟩) (fun z hz => ⟨_, ?_, rfl⟩) (alN f v) 0 v9 (by omega) (by show v9 = v9 + nI 0; exact (Int32.add_zero v9).symm)
  · show Law_isFormRight_L151b to fl f tr cn nu de ru la tf ph v1 v2 v4 v5 v6 v7 v8 z (nI v) (nI i) = _
    obtain ⟨q1, q2⟩ := val_at hC (show v < 150 by omega) hi
    have ha : Ph_argument f ph (nI v) (nI i) = some (aE5 f v i) := by
      unfold Ph_argument Ph_isArgument
      rw [if_pos (isV hph hC hv), if_neg (nI_pos (by omega)), oat_rs (show v < 150 by omega) (by decide), (al_at hC (show v < 150 by omega)).1, if_pos (nI_lt hi (by omega)), if_pos rfl, q1]
    unfold Law_isFormRight_L151b Law_isFormRight_181
    rw [ov_3 hph hC hv, obn_some, if_pos (nI_lt hi (by omega)), ha, obn_some, nI_1, filter_range_s, List.length_append, ← nI_add ((List.range i).filter fun i => !decide (aE5 f v i = -1)).length, ← Int32.add_assoc, ← hz]
    by_cases q : aE5 f v i = -1
    · rw [if_pos (q2.mpr q), if_neg (by simp [q])]; rfl
    · rw [if_neg fun z => q (q2.mp z), if_pos (by simp [q])]; rfl
  · show Law_isFormRight_L151b to fl f tr cn nu de ru la tf ph v1 v2 v4 v5 v6 v7 v8 z (nI v) (nI (alN f v)) = _
    unfold Law_isFormRight_L151b
    rw [ov_3 hph hC hv, obn_some, if_neg (nI_nlt (Nat.le_refl _) (by omega)), hz, nI_1]
    rfl
end ARGSUM
