/-! THE DIGEST is told, all of it */ -/
section DIGSOMED
variable {to fl f tr cn nu de ru la tf ph : Ob} {nb nv T : Nat}
theorem go_S (hph : ph.2.2 0 = true) {p : Nat} (h1 : 1 ≤ p) (h4 : p ≤ 4) : isS (Ph_wouldGo f tr cn nu de ph (nI p)) := by
  unfold Ph_wouldGo
  have : Ph_isPass (nI p) = true := by
    unfold Ph_isPass
    rw [if_neg (show ¬ nI p < 1 from nI_nlt (a := p) (b := 1) h1 (by omega)), if_neg (show ¬ (4 : Int32) < nI p from nI_nlt (a := 4) (b := p) h4 (by decide))]
  rw [if_pos this, if_pos hph]
  exact ⟨_, rfl⟩
theorem wcost_S (hph : ph.2.2 0 = true) {w : Nat} (hw : w ≤ 5) (x y : Int32) : isS (Ph_wouldCost f tr cn nu de ru tf ph (nI w) x y) := by
  have hlim : nI w * 4 = nI (w * 4) := by
    have : w = 0 ∨ w = 1 ∨ w = 2 ∨ w = 3 ∨ w = 4 ∨ w = 5 := by omega
    rcases this with rfl | rfl | rfl | rfl | rfl | rfl <;> decide
  unfold Ph_wouldCost
  rw [if_neg (nI_pos (by omega)), if_neg (show ¬ (5 : Int32) < nI w from nI_nlt (a := 5) (b := w) hw (by decide)), if_pos hph]
  unfold Ph_wouldCost_L51
  refine loop_cnt (B := fun a : Int32 × Ob × Ob × Ob × Ob => Ph_wouldCost_L51b f a.2.1 a.2.2.1 a.2.2.2.1 a.2.2.2.2 ru tf ph (nI w) x y a.1) (mk := fun i (z : Ob × Ob × Ob × Ob) => (nI i, z)) (n := w * 4) (I := fun _ _ => True) (P := isS) (fun k z hk _ => ⟨(Ph_passOver z.1 z.2.1 z.2.2.1 z.2.2.2 (Ph_passBehind (nI k))).2, ?_, trivial⟩) (fun z _ => ⟨some ((Runner_walkForm_k z.1 ru tf x y).2.2.1 3, z.1, z.2.1, z.2.2.1, z.2.2.2, (Runner_walkForm_k z.1 ru tf x y).1, (Runner_walkForm_k z.1 ru tf x y).2), ?_, _, rfl⟩) (w * 4) 0 (Form_take f tr, cn, nu, de) (by omega) trivial
  · show Ph_wouldCost_L51b f z.1 z.2.1 z.2.2.1 z.2.2.2 ru tf ph (nI w) x y (nI k) = _
    unfold Ph_wouldCost_L51b Ph_wouldCost_72
    rw [hlim, if_pos (nI_lt hk (by omega)), nI_1]
  · show Ph_wouldCost_L51b f z.1 z.2.1 z.2.2.1 z.2.2.2 ru tf ph (nI w) x y (nI (w * 4)) = _
    unfold Ph_wouldCost_L51b Ph_wouldCost_96
    rw [hlim, if_neg (nI_nlt (Nat.le_refl _) (by omega))]
theorem dig104_S (hph : ph.2.2 0 = true) (v1 : Int64) : isS (Ph_digest_L104 to fl f tr cn nu de ru la tf ph v1 1) := by
  unfold Ph_digest_L104
  refine loop_cnt (B := fun a : Int64 × Int32 × Ob × Ob × Ob × Ob => Ph_digest_L104b to fl f a.2.2.1 a.2.2.2.1 a.2.2.2.2.1 a.2.2.2.2.2 ru la tf ph a.1 a.2.1) (mk := fun i (z : Int64 × Ob × Ob × Ob × Ob) => (z.1, nI i, z.2)) (n := 5) (I := fun k _ => 1 ≤ k) (P := isS) (fun k z hk h1 => ?_) (fun z _ => ?_) 4 1 (v1, tr, cn, nu, de) rfl (Nat.le_refl _)
  · obtain ⟨r, e⟩ := go_S (f := f) (tr := z.2.1) (cn := z.2.2.1) (nu := z.2.2.2.1) (de := z.2.2.2.2) hph h1 (show k ≤ 4 by omega)
    refine ⟨(Ph_mixed z.1 r.1.toInt64, r.2), ?_, by omega⟩
    show Ph_digest_L104b to fl f z.2.1 z.2.2.1 z.2.2.2.1 z.2.2.2.2 ru la tf ph z.1 (nI k) = _
    unfold Ph_digest_L104b Ph_digest_115
    rw [if_neg (show ¬ (4 : Int32) < nI k from nI_nlt (a := 4) (b := k) (by omega) (by decide)), e, obn_some, nI_1]
  · obtain ⟨r, e⟩ := wcost_S (f := f) (tr := z.2.1) (cn := z.2.2.1) (nu := z.2.2.2.1) (de := z.2.2.2.2) (ru := ru) (tf := tf) hph (w := 0) (by decide) 3 (-2)
    obtain ⟨s, e2⟩ := wcost_S (f := f) (tr := r.2.1) (cn := r.2.2.1) (nu := r.2.2.2.1) (de := r.2.2.2.2.1) (ru := r.2.2.2.2.2.1) (tf := r.2.2.2.2.2.2) hph (w := 2) (by decide) 3 (-2)
    have e' : Ph_wouldCost f z.2.1 z.2.2.1 z.2.2.2.1 z.2.2.2.2 ru tf ph 0 3 (-2) = some r := e
    have e2' : Ph_wouldCost f r.2.1 r.2.2.1 r.2.2.2.1 r.2.2.2.2.1 r.2.2.2.2.2.1 r.2.2.2.2.2.2 ph 2 3 (-2) = some s := e2
    refine ⟨some (Ph_mixed (Ph_mixed z.1 r.1.toInt64) s.1.toInt64, s.2.1, s.2.2.1, s.2.2.2.1, s.2.2.2.2.1, s.2.2.2.2.2.1, s.2.2.2.2.2.2), ?_, _, rfl⟩
    · show Ph_digest_L104b to fl f z.2.1 z.2.2.1 z.2.2.2.1 z.2.2.2.2 ru la tf ph z.1 (nI 5) = _
      unfold Ph_digest_L104b Ph_digest_135 Ph_digest_149
      rw [if_pos (show (4 : Int32) < nI 5 by decide), e', obn_some, e2', obn_some]
theorem digest_S (hT : tRows to nb) (hph : ph.2.2 0 = true) {nb' : Nat} (hC : CI f nb' nv) (ht : tidy f) : isS (Ph_digest to fl f tr cn nu de ru la tf ph) := by
  have h10 := hC.1.2.2.1
  have hnv := hC.1.2.2.2.2.2
  have d78 : ∀ z, isS (Ph_digest_L78 to fl f tr cn nu de ru la tf ph z 0) := fun z => by
    unfold Ph_digest_L78
    refine loop_cnt (B := fun a : Int64 × Int32 => Ph_digest_L78b to fl f tr cn nu de ru la tf ph a.1 a.2) (mk := fun i (z : Int64) => (z, nI i)) (n := nv) (I := fun _ _ => True) (P := isS) (fun k z hk _ => ?_) (fun z _ => ⟨Ph_digest_L104 to fl f tr cn nu de ru la tf ph z 1, ?_, dig104_S hph z⟩) nv 0 z (by omega) trivial
    · obtain ⟨r, e⟩ := value_S (ph := ph) hph hC hk z
      refine ⟨r, ?_, trivial⟩
      show Ph_digest_L78b to fl f tr cn nu de ru la tf ph z (nI k) = _
      unfold Ph_digest_L78b
      rw [hC.1.2.2.2.1, if_pos (nI_lt hk (by omega)), e, obn_some, nI_1]
    · show Ph_digest_L78b to fl f tr cn nu de ru la tf ph z (nI nv) = _
      unfold Ph_digest_L78b
      rw [hC.1.2.2.2.1, if_neg (nI_nlt (Nat.le_refl _) (by omega))]
  have d52 : ∀ z, isS (Ph_digest_L52 to fl f tr cn nu de ru la tf ph z 0) := fun z => by
    unfold Ph_digest_L52
    refine loop_cnt (B := fun a : Int64 × Int32 => Ph_digest_L52b to fl f tr cn nu de ru la tf ph a.1 a.2) (mk := fun i (z : Int64) => (z, nI i)) (n := nb') (I := fun _ _ => True) (P := isS) (fun k z hk _ => ?_) (fun z _ => ⟨_, ?_, d78 z⟩) nb' 0 z (by omega) trivial
    · obtain ⟨r, e⟩ := place_S (ph := ph) hph hC ht hk z
      refine ⟨r, ?_, trivial⟩
      show Ph_digest_L52b to fl f tr cn nu de ru la tf ph z (nI k) = _
      unfold Ph_digest_L52b
      rw [hC.1.1, if_pos (nI_lt hk (by omega)), e, obn_some, nI_1]
    · show Ph_digest_L52b to fl f tr cn nu de ru la tf ph z (nI nb') = _
      unfold Ph_digest_L52b
      rw [hC.1.1, if_neg (nI_nlt (Nat.le_refl _) (by omega))]
  unfold Ph_digest Ph_digest_L6
  refine loop_cnt (B := fun a : Int64 × Int32 => Ph_digest_L6b to fl f tr cn nu de ru la tf ph a.1 a.2) (mk := fun i (z : Int64) => (z, nI i)) (n := 11) (I := fun _ _ => True) (P := isS) (fun k z hk _ => ?_) (fun z _ => ?_) 11 0 7605 rfl trivial
  · obtain ⟨r, e⟩ := many_S (to := to) (fl := fl) (f := f) (ph := ph) (show k ≤ 10 by omega)
    refine ⟨Ph_mixed z r.toInt64, ?_, trivial⟩
    show Ph_digest_L6b to fl f tr cn nu de ru la tf ph z (nI k) = _
    unfold Ph_digest_L6b
    rw [if_neg (show ¬ (10 : Int32) < nI k from nI_nlt (a := 10) (b := k) (by omega) (by decide)), e, obn_some, nI_1]
  · obtain ⟨r, e⟩ := blocks_S (fl := fl) hT.1 hT.2.2.1 z
    obtain ⟨s, e2⟩ := run_S (la := la) (ph := ph) r
    refine ⟨_, ?_, d52 s⟩
    show Ph_digest_L6b to fl f tr cn nu de ru la tf ph z (nI 11) = _
    unfold Ph_digest_L6b
    rw [if_pos (show (10 : Int32) < nI 11 by decide), e, obn_some, e2, obn_some, if_pos hph]
theorem law_formed (hT : tRows to nb) (hph : ph.2.2 0 = true) (hF : FG f nb nv T) (ht : tidy f) : FR (Law_isFormRight to fl f tr cn nu de ru la tf ph (nI nb)) := by
  obtain ⟨r, e⟩ := digest_S (fl := fl) (tr := tr) (cn := cn) (nu := nu) (de := de) (ru := ru) (la := la) (tf := tf) hT hph hF.1 ht
  refine law_form (d := r.1) hph hF ht fun tr' cn' nu' de' ru' tf' => ?_
  rcases digest_ind (to := to) (fl := fl) (ma := f) (la := la) (ph := ph) tr cn nu de ru tf tr' cn' nu' de' ru' tf' with ⟨q, -⟩ | ⟨x, y, q1, q2, q3⟩
  · rw [e] at q; cases q
  · rw [e] at q1
    cases q1
    rw [q3]
    exact ⟨y.2, q2⟩
end DIGSOMED
