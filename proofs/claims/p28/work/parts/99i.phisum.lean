/-! THE LAW: phis are counted -/
section PHISUM
variable {f ph : Ob} {nb nv T : Nat}
theorem frw_in (hC : CI f nb nv) (ht : tidy f) {b : Nat} (hb : b < nb) : (frw f b).Nodup ∧ ∀ v, v ∈ frw f b ↔ v < nv ∧ f.1 1 v = nI b := by
  have h10 := hC.1.2.2.1
  have hn0 := nbt hC
  have hnv := hC.1.2.2.2.2.2
  obtain ⟨s, hs, h7, q1, q2, q3⟩ := hC.2.2.2.1 b (by omega)
  refine ⟨?_, fun v => ?_⟩
  · unfold frw
    rw [h7, tn_nI (by omega)]
    refine List.pairwise_map.mpr (List.Pairwise.imp_of_mem (fun {i j} hi hj hne e => hne ?_) (List.nodup_range (n := s)))
    obtain ⟨v, hv, ev, -⟩ := q1 i (List.mem_range.mp hi)
    obtain ⟨w, hw, ew, -⟩ := q1 j (List.mem_range.mp hj)
    rw [ev, ew, tn_nI (by omega), tn_nI (by omega)] at e
    exact q2 i j (List.mem_range.mp hi) (List.mem_range.mp hj) (by rw [ev, ew, e])
  · rw [frw_mem h7 hs]
    constructor
    · rintro ⟨k, hk, e⟩
      obtain ⟨w, hw, ew, -⟩ := q1 k hk
      have hr := ht b s k (by rw [hn0]; exact hb) h7 hs hk
      rw [e] at hr
      rw [ew, tn_nI (by omega)] at e
      exact ⟨by omega, hr⟩
    · rintro ⟨hv, e⟩
      obtain ⟨k, hk, ek⟩ := q3 v hv e
      exact ⟨k, hk, by rw [ek, tn_nI (by omega)]⟩
def inQ (f : Ob) (q : Nat → Bool) (n b : Nat) : Nat := ((List.range n).filter fun v => q v && decide (f.1 1 v = nI b)).length
theorem frw_Q (hC : CI f nb nv) (ht : tidy f) (q : Nat → Bool) {b : Nat} (hb : b < nb) : ((frw f b).filter q).length = inQ f q nv b := by
  obtain ⟨h1, h2⟩ := frw_in hC ht hb
  have hm : ∀ v, v ∈ (frw f b).filter q ↔ v ∈ (List.range nv).filter fun v => q v && decide (f.1 1 v = nI b) := fun v => by
    rw [List.mem_filter, List.mem_filter, h2, List.mem_range, Bool.and_eq_true, decide_eq_true_iff]
    exact ⟨fun z => ⟨z.1.1, z.2, z.1.2⟩, fun z => ⟨⟨z.1, z.2.2⟩, z.2.1⟩⟩
  exact Nat.le_antisymm (nodup_sub _ _ (h1.filter _) fun x hx => (hm x).mp hx) (nodup_sub _ _ (List.nodup_range.filter _) fun x hx => (hm x).mpr hx)
theorem sum_zero (l : List Nat) : (l.map fun _ => 0).sum = 0 := by
  induction l with
  | nil => rfl
  | cons x r ih => rw [List.map_cons, List.sum_cons, ih]
theorem cnt_Q (hC : CI f nb nv) (q : Nat → Bool) : ((List.range nv).filter fun v => q v && !decide (f.1 1 v = -1)).length = ((List.range nb).map fun b => inQ f q nv b).sum := by
  have h10 := hC.1.2.2.1
  have hV := hC.2.2.1
  have key : ∀ n, n ≤ nv → ((List.range n).filter fun v => q v && !decide (f.1 1 v = -1)).length = ((List.range nb).map fun b => inQ f q n b).sum := by
    intro n
    induction n with
    | zero =>
      intro _
      exact (sum_zero _).symm
    | succ n ih =>
      intro hn
      rw [filter_range_s, List.length_append, ih (by omega)]
      by_cases hq : q n = true
      · rcases (hV n (by omega)).2.1 with z | ⟨c, hc, z⟩
        · have e : ((List.range nb).map fun b => inQ f q (n + 1) b) = (List.range nb).map fun b => inQ f q n b := List.map_congr_left fun b hb => by
            have hb' := List.mem_range.mp hb
            unfold inQ
            rw [filter_range_s, if_neg, List.append_nil]
            rw [z, Bool.and_eq_true, decide_eq_true_iff]
            exact fun y => nI_m1 (a := b) (by omega) y.2.symm
          rw [e, if_neg (by rw [z]; simp)]
          rfl
        · have e : ((List.range nb).map fun b => inQ f q (n + 1) b) = (List.range nb).map fun b => inQ f q n b + (if c = b then 1 else 0) := List.map_congr_left fun b hb => by
            have hb' := List.mem_range.mp hb
            unfold inQ
            rw [filter_range_s, List.length_append, z, hq, Bool.true_and]
            congr 1
            by_cases y : c = b
            · rw [if_pos y, if_pos (decide_eq_true (by rw [y]))]; rfl
            · rw [if_neg y, if_neg (show ¬ decide (nI c = nI b) = true from fun x => y (nI_inj (by omega) (by omega) (of_decide_eq_true x)))]; rfl
          rw [e, sum_add, ind_sum c nb, if_pos hc, hq, z, if_pos (by simp [nI_m1 (a := c) (by omega)])]
          rfl
      · have e : ((List.range nb).map fun b => inQ f q (n + 1) b) = (List.range nb).map fun b => inQ f q n b := List.map_congr_left fun b hb => by
          unfold inQ
          rw [filter_range_s, if_neg (by rw [bool_f hq]; simp), List.append_nil]
        rw [e, if_neg (by rw [bool_f hq]; simp)]
        rfl
  exact key nv (Nat.le_refl _)
def k9 (f : Ob) (v : Nat) : Bool := decide (f.1 0 v = 9)
theorem many_6 {to fl : Ob} (hC : CI f nb nv) (hph : ph.2.2 0 = true) : Ph_many to fl f ph 6 = some (nI ((List.range nb).map fun b => inQ f (k9 f) nv b).sum) := by
  have hnv := hC.1.2.2.2.2.2
  rw [show (6 : Int32) = nI 6 from rfl, many_of hph (by decide) (by decide)]
  unfold Ph_manyOfForm
  rw [if_neg (show ¬ nI 6 = 4 by decide), if_neg (show ¬ nI 6 = 5 by decide), if_pos (show nI 6 = 6 by decide)]
  congr 1
  rw [← cnt_Q hC (k9 f)]
  unfold Form_allPhis Form_allPhis_L4
  refine loop_cnt (B := fun a : Int32 × Int32 => Form_allPhis_L4b f a.1 a.2) (mk := fun i (s : Int32) => (s, nI i)) (n := nv) (I := fun k s => s = nI ((List.range k).filter fun v => k9 f v && !decide (f.1 1 v = -1)).length) (P := fun r => r = nI ((List.range nv).filter fun v => k9 f v && !decide (f.1 1 v = -1)).length) (fun k s hk hI => ⟨_, ?_, rfl⟩) (fun s hI => ⟨s, ?_, hI⟩) nv 0 0 (by omega) rfl
  · show Form_allPhis_L4b f s (nI k) = _
    unfold Form_allPhis_L4b Form_allPhis_42 Form_allPhis_43
    rw [hC.1.2.2.2.1, if_pos (nI_lt hk (by omega)), oat_rs (show k < 140 by omega) (by decide), oat_rs (show k < 140 by omega) (by decide), filter_range_s, List.length_append, ← nI_add, ← hI, nI_1]
    unfold k9
    by_cases q : f.1 0 k = 9
    · rw [if_pos q]
      by_cases z : f.1 1 k = -1
      · rw [if_pos z, if_neg (by simp [z])]; rfl
      · rw [if_neg z, if_pos (by simp [q, z])]; rfl
    · rw [if_neg q, if_neg (by simp [q])]; rfl
  · show Form_allPhis_L4b f s (nI nv) = _
    unfold Form_allPhis_L4b
    rw [hC.1.2.2.2.1, if_neg (nI_nlt (Nat.le_refl _) (by omega))]
end PHISUM
