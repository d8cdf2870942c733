/-! THE LAW: forms are right, if a digest is told (2) -/
section FORMRIGHTB
variable {to fl f tr cn nu de ru la tf ph : Ob} {nb nv T : Nat}
theorem cmp_self (d : Int64) : lg_cmp d d = 0 := by
  unfold lg_cmp
  have : ¬ d > d := fun q => Int64.lt_irrefl q
  rw [if_neg this, if_pos rfl]
def FR (o : Option (Bool × Ob × Ob × Ob × Ob × Ob × Ob)) : Prop := ∃ r, o = some (true, r)
theorem law_247 (hph : ph.2.2 0 = true) (hF : FG f nb nv T) (ht : tidy f) {d : Int64} (hd : ∀ tr cn nu de ru tf, ∃ r, Ph_digest to fl f tr cn nu de ru la tf ph = some (d, r)) {u n : Nat} (h4 : 4 ≤ n) (h40 : n ≤ 40) : FR (Law_isFormRight_247 to fl f tr cn nu de ru la tf ph d (nI (thc f)) (nI (cntV f nv)) (nI ((List.range nb).map fun k => edN f k).sum) (nI ((List.range nb).map fun b => inQ f (k9 f) nv b).sum) (nI u) (nI u) (nI n)) := by
  obtain ⟨r, e⟩ := hd tr cn nu de ru tf
  unfold Law_isFormRight_247
  rw [many_5 hF.1 ht hph, obn_some, if_pos rfl, many_6 hF.1 hph, obn_some, if_pos rfl, many_7 hF.1 hph, obn_some, if_pos rfl, (many_8 hF.1 hph).1, obn_some, if_pos rfl, if_pos rfl, if_neg (show ¬ nI n < 4 from nI_nlt (a := n) (b := 4) h4 (by omega)), if_neg (show ¬ (40 : Int32) < nI n from nI_nlt (a := 40) (b := n) h40 (by decide)), e, obn_some]
  unfold Law_isFormRight_316
  dsimp only
  rw [if_pos (cmp_self d)]
  exact ⟨_, rfl⟩
theorem law_20 (hph : ph.2.2 0 = true) (hF : FG f nb nv T) (ht : tidy f) (v2 : Int64) : Law_isFormRight_L20 to fl f tr cn nu de ru la tf ph (nI nb) v2 0 0 0 0 0 = Law_isFormRight_L126 to fl f tr cn nu de ru la tf ph (nI nb) v2 (nI (thc f)) (nI (cntV f nv)) (nI ((List.range nb).map fun k => edN f k).sum) (nI ((List.range nb).map fun b => inQ f (k9 f) nv b).sum) 0 0 0 := by
  have hC := hF.1
  have h10 := hC.1.2.2.1
  have h8 := (many_8 (to := to) (fl := fl) hC hph).2
  rw [← thc_sum hC, cnt_in hC]
  unfold Law_isFormRight_L20
  refine loop_cnt (B := fun a : Int32 × Int32 × Int32 × Int32 × Int32 => Law_isFormRight_L20b to fl f tr cn nu de ru la tf ph (nI nb) v2 a.1 a.2.1 a.2.2.1 a.2.2.2.1 a.2.2.2.2) (mk := fun i (z : Int32 × Int32 × Int32 × Int32) => (z.1, z.2.1, z.2.2.1, z.2.2.2, nI i)) (n := nb)
    (I := fun k z => z.1 = nI ((List.range k).map fun k => tC f k).sum ∧ z.2.1 = nI ((List.range k).map fun b => inB f nv b).sum ∧ z.2.2.1 = nI ((List.range k).map fun k => edN f k).sum ∧ z.2.2.2 = nI ((List.range k).map fun b => inQ f (k9 f) nv b).sum)
    (P := fun r => r = Law_isFormRight_L126 to fl f tr cn nu de ru la tf ph (nI nb) v2 (nI ((List.range nb).map fun k => tC f k).sum) (nI ((List.range nb).map fun b => inB f nv b).sum) (nI ((List.range nb).map fun k => edN f k).sum) (nI ((List.range nb).map fun b => inQ f (k9 f) nv b).sum) 0 0 0)
    (fun k z hk hz => ⟨(z.1 + nI (tC f k), z.2.1 + nI (inB f nv k), z.2.2.1 + nI (edN f k), z.2.2.2 + nI (inQ f (k9 f) nv k)), ?_, ?_⟩) (fun z hz => ⟨_, ?_, rfl⟩) nb 0 (0, 0, 0, 0) (by omega) ⟨rfl, rfl, rfl, rfl⟩
  · obtain ⟨s1, s2, s3⟩ := size_in hC ht hk
    show Law_isFormRight_L20b to fl f tr cn nu de ru la tf ph (nI nb) v2 z.1 z.2.1 z.2.2.1 z.2.2.2 (nI k) = _
    unfold Law_isFormRight_L20b
    rw [if_pos (nI_lt hk (by omega)), place_0 hph hC hk, obn_some, place_1 hph hF ht hk, obn_some, place_5 hph hF ht hk, obn_some, law_65 hph hF ht hk, s1, s3, (h8 k hk).1]
  · show z.1 + nI _ = nI _ ∧ z.2.1 + nI _ = nI _ ∧ z.2.2.1 + nI _ = nI _ ∧ z.2.2.2 + nI _ = nI _
    rw [hz.1, hz.2.1, hz.2.2.1, hz.2.2.2, nI_add, nI_add, nI_add, nI_add, sum_range_s (fun k => tC f k), sum_range_s (fun b => inB f nv b), sum_range_s (fun k => edN f k), sum_range_s (fun b => inQ f (k9 f) nv b)]
    exact ⟨rfl, rfl, rfl, rfl⟩
  · show Law_isFormRight_L20b to fl f tr cn nu de ru la tf ph (nI nb) v2 z.1 z.2.1 z.2.2.1 z.2.2.2 (nI nb) = _
    unfold Law_isFormRight_L20b
    rw [if_neg (nI_nlt (Nat.le_refl _) (by omega)), hz.1, hz.2.1, hz.2.2.1, hz.2.2.2]
theorem law_form (hph : ph.2.2 0 = true) (hF : FG f nb nv T) (ht : tidy f) {d : Int64} (hd : ∀ tr cn nu de ru tf, ∃ r, Ph_digest to fl f tr cn nu de ru la tf ph = some (d, r)) : FR (Law_isFormRight to fl f tr cn nu de ru la tf ph (nI nb)) := by
  obtain ⟨r, e⟩ := hd tr cn nu de ru tf
  unfold Law_isFormRight Law_isFormRight_4
  rw [e, obn_some]
  dsimp only
  rw [law_20 hph hF ht, law_126 hph hF.1, law_199 hph hF]
  obtain ⟨n, t1, t2, t3, t4, e2, h4, h40⟩ := until_4 (ma := f) (tr := r.1) (cn := r.2.1) (nu := r.2.2.1) (de := r.2.2.2.1) hph
  rw [e2, obn_some]
  dsimp only
  rw [uses_args hF]
  exact law_247 hph hF ht hd h4 h40
end FORMRIGHTB
