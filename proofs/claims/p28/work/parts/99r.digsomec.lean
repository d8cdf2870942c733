/-! THE DIGEST is told: of a place, of a value; all of it */ -/
section DIGSOMEC
variable {to fl f tr cn nu de ru la tf ph : Ob} {nb nv T : Nat}
theorem ofPlace_S (hph : ph.2.2 0 = true) (hC : CI f nb nv) {k j : Nat} (hk : k < nb) (hj : j < 8) : isS (Ph_ofPlace f ph (nI k) (nI j)) := by
  have h10 := hC.1.2.2.1
  unfold Ph_ofPlace
  rw [if_pos hph, if_neg (nI_pos (by omega)), hC.1.1, if_pos (nI_lt hk (by omega))]
  by_cases c0 : nI j = 0
  · rw [if_pos c0]; split <;> exact ⟨_, rfl⟩
  rw [if_neg c0]
  by_cases c1 : nI j = 1
  · rw [if_pos c1]; split <;> exact ⟨_, rfl⟩
  rw [if_neg c1]
  by_cases c2 : nI j = 2
  · rw [if_pos c2]; split <;> exact ⟨_, rfl⟩
  rw [if_neg c2]
  by_cases c3 : nI j = 3
  · rw [if_pos c3]; split <;> exact ⟨_, rfl⟩
  rw [if_neg c3]
  by_cases c4 : nI j = 4
  · rw [if_pos c4]; split <;> exact ⟨_, rfl⟩
  rw [if_neg c4]
  by_cases c5 : nI j = 5
  · rw [if_pos c5]; split <;> exact ⟨_, rfl⟩
  rw [if_neg c5]
  by_cases c6 : nI j = 6
  · rw [if_pos c6]; split <;> exact ⟨_, rfl⟩
  rw [if_neg c6]
  by_cases c7 : nI j = 7
  · rw [if_pos c7]; split <;> exact ⟨_, rfl⟩
  have : j = 0 ∨ j = 1 ∨ j = 2 ∨ j = 3 ∨ j = 4 ∨ j = 5 ∨ j = 6 ∨ j = 7 := by omega
  rcases this with rfl | rfl | rfl | rfl | rfl | rfl | rfl | rfl
  · exact absurd (by decide) c0
  · exact absurd (by decide) c1
  · exact absurd (by decide) c2
  · exact absurd (by decide) c3
  · exact absurd (by decide) c4
  · exact absurd (by decide) c5
  · exact absurd (by decide) c6
  · exact absurd (by decide) c7
theorem place_S (hph : ph.2.2 0 = true) (hC : CI f nb nv) (ht : tidy f) {k : Nat} (hk : k < nb) (v1 : Int64) : isS (Ph_mixedWithPlace f ph v1 (nI k)) := by
  have h10 := hC.1.2.2.1
  obtain ⟨s1, s2, -⟩ := size_in hC ht hk
  obtain ⟨d1, d2⟩ := (many_8 (to := f) (fl := f) hC hph).2 k hk
  have h94 : bt (f.2.1 1) k = true → ∀ z, isS (Ph_mixedWithPlace_L94 f ph v1 (nI k) z 0) := fun hb z => by
    unfold Ph_mixedWithPlace_L94
    refine loop_cnt (B := fun a : Int64 × Int32 => Ph_mixedWithPlace_L94b f ph v1 (nI k) a.1 a.2) (mk := fun i (z : Int64) => (z, nI i)) (n := szN f k) (I := fun _ _ => True) (P := isS) (fun i z hi _ => ⟨Ph_mixed z (Form_valueIn f (nI k) (nI i)).toInt64, ?_, trivial⟩) (fun z _ => ⟨some z, ?_, _, rfl⟩) (szN f k) 0 z (by omega) trivial
    · have hv : Ph_valueAt f ph (nI k) (nI i) = some (Form_valueIn f (nI k) (nI i)) := by
        unfold Ph_valueAt
        rw [if_pos hph, has_nI (by omega), if_pos hb, if_neg (nI_pos (by omega)), oat_rs (show k < 10 by omega) (by decide), s1, if_pos (nI_lt hi (by omega))]
      show Ph_mixedWithPlace_L94b f ph v1 (nI k) z (nI i) = _
      unfold Ph_mixedWithPlace_L94b
      rw [oat_rs (show k < 10 by omega) (by decide), s1, if_pos (nI_lt hi (by omega)), hv, obn_some, nI_1]
    · show Ph_mixedWithPlace_L94b f ph v1 (nI k) z (nI (szN f k)) = _
      unfold Ph_mixedWithPlace_L94b
      rw [oat_rs (show k < 10 by omega) (by decide), s1, if_neg (nI_nlt (Nat.le_refl _) (by omega))]
  have h54 : bt (f.2.1 1) k = true → ∀ z, isS (Ph_mixedWithPlace_L54 f ph v1 (nI k) z 0) := fun hb z => by
    unfold Ph_mixedWithPlace_L54
    refine loop_cnt (B := fun a : Int64 × Int32 => Ph_mixedWithPlace_L54b f ph v1 (nI k) a.1 a.2) (mk := fun i (z : Int64) => (z, nI i)) (n := edN f k) (I := fun _ _ => True) (P := isS) (fun i z hi _ => ⟨Ph_mixed z (Ph_fromOf (Form_wayTo f (nI k) (nI i))).toInt64, ?_, trivial⟩) (fun z _ => ⟨_, ?_, h94 hb z⟩) (edN f k) 0 z (by omega) trivial
    · have hv : Ph_edge f ph (nI k) (nI i) = some (Ph_fromOf (Form_wayTo f (nI k) (nI i))) := by
        unfold Ph_edge
        rw [if_pos hph, has_nI (by omega), if_pos hb, if_neg (nI_pos (by omega)), oat_rs (show k < 10 by omega) (by decide), d1, if_pos (nI_lt hi (by omega))]
      show Ph_mixedWithPlace_L54b f ph v1 (nI k) z (nI i) = _
      unfold Ph_mixedWithPlace_L54b
      rw [oat_rs (show k < 10 by omega) (by decide), d1, if_pos (nI_lt hi (by omega)), hv, obn_some, nI_1]
    · show Ph_mixedWithPlace_L54b f ph v1 (nI k) z (nI (edN f k)) = _
      unfold Ph_mixedWithPlace_L54b
      rw [oat_rs (show k < 10 by omega) (by decide), d1, if_neg (nI_nlt (Nat.le_refl _) (by omega))]
  unfold Ph_mixedWithPlace Ph_mixedWithPlace_L6
  refine loop_cnt (B := fun a : Int64 × Int32 => Ph_mixedWithPlace_L6b f ph v1 (nI k) a.1 a.2) (mk := fun i (z : Int64) => (z, nI i)) (n := 8) (I := fun _ _ => True) (P := isS) (fun j z hj _ => ?_) (fun z _ => ?_) 8 0 v1 rfl trivial
  · obtain ⟨r, e⟩ := ofPlace_S (ph := ph) hph hC hk hj
    refine ⟨Ph_mixed z r.toInt64, ?_, trivial⟩
    show Ph_mixedWithPlace_L6b f ph v1 (nI k) z (nI j) = _
    unfold Ph_mixedWithPlace_L6b
    rw [if_neg (show ¬ (7 : Int32) < nI j from nI_nlt (a := 7) (b := j) (by omega) (by decide)), e, obn_some, nI_1]
  · refine ⟨(if Ph_has (f.2.1 1) (nI k) = true then Ph_mixedWithPlace_L54 f ph v1 (nI k) z 0 else some z), ?_, ?_⟩
    · show Ph_mixedWithPlace_L6b f ph v1 (nI k) z (nI 8) = _
      unfold Ph_mixedWithPlace_L6b
      rw [if_pos (show (7 : Int32) < nI 8 by decide)]
    · rw [has_nI (by omega)]
      by_cases q : bt (f.2.1 1) k = true
      · rw [if_pos q]; exact h54 q z
      · rw [if_neg q]; exact ⟨_, rfl⟩
theorem ofValue_S (hph : ph.2.2 0 = true) (hC : CI f nb nv) {v j : Nat} (hv : v < nv) (hj : j < 5) : isS (Ph_ofValue f ph (nI v) (nI j)) := by
  unfold Ph_ofValue
  rw [if_pos (isV hph hC hv)]
  have : j = 0 ∨ j = 1 ∨ j = 2 ∨ j = 3 ∨ j = 4 := by omega
  rcases this with rfl | rfl | rfl | rfl | rfl
  · rw [if_pos (by decide)]; exact ⟨_, rfl⟩
  · rw [if_neg (by decide), if_pos (by decide)]; exact ⟨_, rfl⟩
  · rw [if_neg (show ¬ nI 2 = 0 by decide), if_neg (show ¬ nI 2 = 1 by decide), if_pos (show nI 2 = 2 by decide)]; exact ⟨_, rfl⟩
  · rw [if_neg (show ¬ nI 3 = 0 by decide), if_neg (show ¬ nI 3 = 1 by decide), if_neg (show ¬ nI 3 = 2 by decide), if_pos (show nI 3 = 3 by decide)]; exact ⟨_, rfl⟩
  · rw [if_neg (show ¬ nI 4 = 0 by decide), if_neg (show ¬ nI 4 = 1 by decide), if_neg (show ¬ nI 4 = 2 by decide), if_neg (show ¬ nI 4 = 3 by decide), if_pos (show nI 4 = 4 by decide)]; exact ⟨_, rfl⟩
theorem value_S (hph : ph.2.2 0 = true) (hC : CI f nb nv) {v : Nat} (hv : v < nv) (v1 : Int64) : isS (Ph_mixedWithValue f ph v1 (nI v)) := by
  have hnv := hC.1.2.2.2.2.2
  obtain ⟨a1, a2, -⟩ := al_at hC (show v < 150 by omega)
  have h36 : ∀ z, isS (Ph_mixedWithValue_L36 f ph v1 (nI v) z 0) := fun z => by
    unfold Ph_mixedWithValue_L36
    refine loop_cnt (B := fun a : Int64 × Int32 => Ph_mixedWithValue_L36b f ph v1 (nI v) a.1 a.2) (mk := fun i (z : Int64) => (z, nI i)) (n := alN f v) (I := fun _ _ => True) (P := isS) (fun i z hi _ => ⟨Ph_mixed (Ph_mixed z (Form_valueOf f (nI v) (nI i)).toInt64) (Form_numberOf f (nI v) (nI i)).toInt64, ?_, trivial⟩) (fun z _ => ⟨some z, ?_, _, rfl⟩) (alN f v) 0 z (by omega) trivial
    · have hA : Ph_isArgument f ph (nI v) (nI i) = true := by
        unfold Ph_isArgument
        rw [if_pos (isV hph hC hv), if_neg (nI_pos (by omega)), oat_rs (show v < 150 by omega) (by decide), a1, if_pos (nI_lt hi (by omega))]
      show Ph_mixedWithValue_L36b f ph v1 (nI v) z (nI i) = _
      unfold Ph_mixedWithValue_L36b Ph_argument Ph_number
      rw [oat_rs (show v < 150 by omega) (by decide), a1, if_pos (nI_lt hi (by omega)), if_pos hA, obn_some, if_pos hA, obn_some, nI_1]
    · show Ph_mixedWithValue_L36b f ph v1 (nI v) z (nI (alN f v)) = _
      unfold Ph_mixedWithValue_L36b
      rw [oat_rs (show v < 150 by omega) (by decide), a1, if_neg (nI_nlt (Nat.le_refl _) (by omega))]
  unfold Ph_mixedWithValue Ph_mixedWithValue_L6
  refine loop_cnt (B := fun a : Int64 × Int32 => Ph_mixedWithValue_L6b f ph v1 (nI v) a.1 a.2) (mk := fun i (z : Int64) => (z, nI i)) (n := 5) (I := fun _ _ => True) (P := isS) (fun j z hj _ => ?_) (fun z _ => ⟨_, ?_, h36 z⟩) 5 0 v1 rfl trivial
  · obtain ⟨r, e⟩ := ofValue_S (ph := ph) hph hC hv hj
    refine ⟨Ph_mixed z r.toInt64, ?_, trivial⟩
    show Ph_mixedWithValue_L6b f ph v1 (nI v) z (nI j) = _
    unfold Ph_mixedWithValue_L6b
    rw [if_neg (show ¬ (4 : Int32) < nI j from nI_nlt (a := 4) (b := j) (by omega) (by decide)), e, obn_some, nI_1]
  · show Ph_mixedWithValue_L6b f ph v1 (nI v) z (nI 5) = _
    unfold Ph_mixedWithValue_L6b
    rw [if_pos (show (4 : Int32) < nI 5 by decide)]
end DIGSOMEC
