/-! THE LAW: sums over a form */ -/
section SUMS
variable {f ph : Ob} {nb nv T : Nat}
def tC (f : Ob) (k : Nat) : Nat := if bt (f.2.1 1) k = true then 1 else 0
theorem thc_sum (hC : CI f nb nv) : ((List.range nb).map fun k => tC f k).sum = thc f := by
  have h10 := hC.1.2.2.1
  have key : ∀ n, ((List.range n).map fun k => tC f k).sum = ((List.range n).filter fun b => bt (f.2.1 1) b).length := by
    intro n
    induction n with
    | zero => rfl
    | succ n ih =>
      rw [sum_range_s, ih, filter_range_s, List.length_append]
      congr 1
      unfold tC
      split <;> rfl
  rw [key]
  unfold thc
  have k2 : ∀ d, nb + d ≤ 10 → ((List.range (nb + d)).filter fun b => bt (f.2.1 1) b).length = ((List.range nb).filter fun b => bt (f.2.1 1) b).length := by
    intro d
    induction d with
    | zero => intro _; rfl
    | succ d ih =>
      intro h
      have hf : ¬ bt (f.2.1 1) (nb + d) = true := fun q => by
        have := hC.2.2.2.2.2.2.2 (nb + d) (by omega) q
        omega
      rw [show nb + (d + 1) = nb + d + 1 by omega, filter_range_s, if_neg hf, List.append_nil]
      exact ih (by omega)
  have := k2 (10 - nb) (by omega)
  rw [show nb + (10 - nb) = 10 by omega] at this
  exact this.symm
theorem not_size (hF : FG f nb nv T) (ht : tidy f) {k : Nat} (hk : k < nb) (hc : ¬ bt (f.2.1 1) k = true) : f.1 7 k = 0 ∧ f.1 9 k = 0 := by
  obtain ⟨hC, -, hE, -⟩ := hF
  have h10 := hC.1.2.2.1
  obtain ⟨e1, e2, -⟩ := hE k fun q => hc q.2
  obtain ⟨z1, z2, z3⟩ := size_in hC ht hk
  constructor
  · have : inB f nv k = 0 := by
      unfold inB
      rw [List.length_eq_zero_iff, List.filter_eq_nil_iff]
      intro v hv q
      have : v ∈ aLs (fS f) k := (fS_ls_mem hC).mpr ⟨by omega, List.mem_range.mp hv, of_decide_eq_true q⟩
      rw [e1] at this
      cases this
    rw [z1, z3, this]
    rfl
  · have e : aEd (fS f) k = fed f k := by
      show (if k < 10 then fed f k else []) = _
      rw [if_pos (by omega)]
    rw [e] at e2
    obtain ⟨w, hw, ew, -⟩ := hC.2.2.2.2.1 k (by omega)
    unfold fed at e2
    rw [ew, tn_nI (by omega), List.map_eq_nil_iff, List.range_eq_nil] at e2
    rw [ew, e2]
    rfl
theorem place_0 (hph : ph.2.2 0 = true) (hC : CI f nb nv) {k : Nat} (hk : k < nb) : Ph_ofPlace f ph (nI k) 0 = some (nI (tC f k)) := by
  have h10 := hC.1.2.2.1
  unfold Ph_ofPlace tC
  rw [if_pos hph, if_neg (show ¬ nI k < 0 from nI_nlt (a := k) (b := 0) (by omega) (by omega)), hC.1.1, if_pos (nI_lt hk (by omega)), if_pos rfl, has_nI (by omega)]
  split <;> rfl
theorem place_1 (hph : ph.2.2 0 = true) (hF : FG f nb nv T) (ht : tidy f) {k : Nat} (hk : k < nb) : Ph_ofPlace f ph (nI k) 1 = some (f.1 7 k) := by
  have hC := hF.1
  have h10 := hC.1.2.2.1
  unfold Ph_ofPlace
  rw [if_pos hph, if_neg (show ¬ nI k < 0 from nI_nlt (a := k) (b := 0) (by omega) (by omega)), hC.1.1, if_pos (nI_lt hk (by omega)), if_neg (show ¬ (1 : Int32) = 0 by decide), if_pos rfl, has_nI (by omega), oat_rs (show k < 10 by omega) (by decide)]
  by_cases q : bt (f.2.1 1) k = true
  · rw [if_pos q]
  · rw [if_neg q, (not_size hF ht hk q).1]
theorem place_5 (hph : ph.2.2 0 = true) (hF : FG f nb nv T) (ht : tidy f) {k : Nat} (hk : k < nb) : Ph_ofPlace f ph (nI k) 5 = some (f.1 9 k) := by
  have hC := hF.1
  have h10 := hC.1.2.2.1
  unfold Ph_ofPlace
  rw [if_pos hph, if_neg (show ¬ nI k < 0 from nI_nlt (a := k) (b := 0) (by omega) (by omega)), hC.1.1, if_pos (nI_lt hk (by omega)), if_neg (show ¬ (5 : Int32) = 0 by decide), if_neg (show ¬ (5 : Int32) = 1 by decide), if_neg (show ¬ (5 : Int32) = 2 by decide), if_neg (show ¬ (5 : Int32) = 3 by decide), if_neg (show ¬ (5 : Int32) = 4 by decide), if_pos rfl, has_nI (by omega), oat_rs (show k < 10 by omega) (by decide)]
  by_cases q : bt (f.2.1 1) k = true
  · rw [if_pos q]
  · rw [if_neg q, (not_size hF ht hk q).2]
def edN (f : Ob) (k : Nat) : Nat := tn (f.1 9 k)
theorem many_8 {to fl : Ob} (hC : CI f nb nv) (hph : ph.2.2 0 = true) : Ph_many to fl f ph 8 = some (nI ((List.range nb).map fun k => edN f k).sum) ∧ ∀ k, k < nb → f.1 9 k = nI (edN f k) ∧ edN f k ≤ 20 := by
  have h10 := hC.1.2.2.1
  have he : ∀ k, k < nb → f.1 9 k = nI (edN f k) ∧ edN f k ≤ 20 := fun k hk => by
    obtain ⟨w, hw, ew, -⟩ := hC.2.2.2.2.1 k (by omega)
    have : edN f k = w := by unfold edN; rw [ew, tn_nI (by omega)]
    rw [this]
    exact ⟨ew, hw⟩
  refine ⟨?_, he⟩
  rw [show (8 : Int32) = nI 8 from rfl, many_of hph (by decide) (by decide)]
  unfold Ph_manyOfForm
  rw [if_neg (show ¬ nI 8 = 4 by decide), if_neg (show ¬ nI 8 = 5 by decide), if_neg (show ¬ nI 8 = 6 by decide), if_neg (show ¬ nI 8 = 7 by decide), if_pos (show nI 8 = 8 by decide)]
  congr 1
  unfold Form_allIn_edges Form_allIn_edges_L4
  refine loop_cnt (B := fun a : Int32 × Int32 => Form_allIn_edges_L4b f a.1 a.2) (mk := fun i (s : Int32) => (s, nI i)) (n := nb) (I := fun k s => s = nI ((List.range k).map fun b => edN f b).sum) (P := fun r => r = nI ((List.range nb).map fun b => edN f b).sum) (fun k s hk hI => ⟨_, ?_, rfl⟩) (fun s hI => ⟨s, ?_, hI⟩) nb 0 0 (by omega) rfl
  · show Form_allIn_edges_L4b f s (nI k) = _
    unfold Form_allIn_edges_L4b
    rw [hC.1.1, if_pos (nI_lt hk (by omega)), oat_rs (show k < 10 by omega) (by decide), (he k hk).1, hI, nI_add, nI_1, sum_range_s]
  · show Form_allIn_edges_L4b f s (nI nb) = _
    unfold Form_allIn_edges_L4b
    rw [hC.1.1, if_neg (nI_nlt (Nat.le_refl _) (by omega))]
end SUMS
