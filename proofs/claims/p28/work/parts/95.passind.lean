/-! A PASS, and what it would do, do not depend on what lay about -/
section PASSIND
variable {f g : Ob}
theorem twin_par {nu nu' : Ob} (h2 : oat nu 2 10 = oat nu' 2 10) (h3 : oat nu 3 10 = oat nu' 3 10) (v2 v3 : Int32) : Numbers_twinOfReckoning f nu v2 v3 = Numbers_twinOfReckoning f nu' v2 v3 := by
  unfold Numbers_twinOfReckoning Numbers_twinOfReckoning_31 Numbers_twinOfReckoning_36 Numbers_twinOfReckoning_L41 Numbers_twinOfReckoning_L41b Numbers_twinOfReckoning_104 Numbers_twinOfReckoning_L109 Numbers_twinOfReckoning_L109b Numbers_twinOfReckoning_166 Numbers_twinOfReckoning_169
  rw [h2, h3]
theorem visit_par {nu nu' : Ob} (h2 : oat nu 2 10 = oat nu' 2 10) (h3 : oat nu 3 10 = oat nu' 3 10) (v : Int32) : Numbers_visit f nu v = Numbers_visit f nu' v := by
  unfold Numbers_visit Numbers_visit_L2
  refine loopW_par (fun a : Int32 × Ob => Numbers_visit_L2b a.2 nu v a.1) (fun a : Int32 × Ob => Numbers_visit_L2b a.2 nu' v a.1) Eq Eq (fun _ => rfl) ?_ rfl
  rintro ⟨u, d⟩ _ rfl
  show SR Eq Eq (Numbers_visit_L2b d nu v u) (Numbers_visit_L2b d nu' v u)
  unfold Numbers_visit_L2b Numbers_visit_50 Numbers_visit_79 Numbers_visit_96 Numbers_visit_142
  rw [twin_par h2 h3]
  exact SR.rf (fun _ => rfl) (fun _ => rfl) _
theorem numL14_par {nu nu' : Ob} (h2 : oat nu 2 10 = oat nu' 2 10) (h3 : oat nu 3 10 = oat nu' 3 10) : (Numbers_goOver_L14 f nu 0).1 = (Numbers_goOver_L14 f nu' 0).1 := by
  unfold Numbers_goOver_L14
  refine loopW_par (fun a : Int32 × Ob => Numbers_goOver_L14b a.2 nu a.1) (fun a : Int32 × Ob => Numbers_goOver_L14b a.2 nu' a.1) Eq (fun r r' => r.1 = r'.1) (fun _ => rfl) ?_ rfl
  rintro ⟨u, d⟩ _ rfl
  show SR Eq _ (Numbers_goOver_L14b d nu u) (Numbers_goOver_L14b d nu' u)
  unfold Numbers_goOver_L14b Numbers_goOver_43
  rw [h3, visit_par h2 h3]
  split
  · exact SR.rf (P := fun r r' : Ob × Ob => r.1 = r'.1) (fun _ => rfl) (fun _ => rfl) _
  · exact SR.r rfl
theorem numbers_ind (nu nu' : Ob) : (Numbers_goOver f nu).1 = (Numbers_goOver f nu').1 := by
  unfold Numbers_goOver
  obtain ⟨⟨h1, h2, h3⟩, h4⟩ := reckon_par (readE_par (f := f) nu nu')
  generalize Flow_reckon (Numbers_readEdges f nu) = n at h1 h2 h3 h4
  generalize Flow_reckon (Numbers_readEdges f nu') = n' at h1 h2 h3 h4
  refine numL14_par ?_ ?_
  · funext k
    unfold oat
    rw [h2]
  · funext k
    unfold oat rat
    by_cases q : k < 0
    · rw [if_pos q, if_pos q]
    · rw [if_neg q, if_neg q]
      by_cases z : nI 10 ≤ k
      · rw [if_pos z, if_pos z]
      · rw [if_neg z, if_neg z]
        exact h4 _ (nI_lt_of (by decide) q z)
theorem end_80 (h : feq f g) {v3 v3' : Int32} (hv : v3 = v3') (cn nu de cn' nu' de' : Ob) : (Ph_passOver_80 f cn nu de v3).1 = (Ph_passOver_80 g cn' nu' de' v3').1 ∧ feq (Ph_passOver_80 f cn nu de v3).2.1 (Ph_passOver_80 g cn' nu' de' v3').2.1 := by
  have hs := sweep_alike h
  unfold Ph_passOver_80 Ph_passOver_86
  generalize Form_sweep f = s at hs
  generalize Form_sweep g = s' at hs
  obtain ⟨⟨a0, a1, a2, a3, a4, a5⟩, b0, b1, b2, b3, b4, b5, b6, b7, b8, b9, b10, b11, b12⟩ := hs
  refine ⟨?_, ⟨a0, a1, a2, a3, ?_, a5⟩, b0, b1, b2, b3, b4, b5, b6, b7, b8, b9, b10, b11, b12⟩
  · show s.2.1 5 - v3 = s'.2.1 5 - v3'
    rw [a5, hv]
  · show s.2.1 4 + 1 = s'.2.1 4 + 1
    rw [a4]
theorem po_1 (f cn nu de : Ob) : Ph_passOver f cn nu de 1 = Ph_passOver_80 (Constants_goOver f cn).1 (Constants_goOver f cn).2 nu de (f.2.1 5) := by
  unfold Ph_passOver
  rw [if_pos rfl]
  rfl
theorem po_2 (f cn nu de : Ob) : Ph_passOver f cn nu de 2 = Ph_passOver_80 (Numbers_goOver f nu).1 cn (Numbers_goOver f nu).2 de (f.2.1 5) := by
  unfold Ph_passOver
  rw [if_neg (by decide), if_pos rfl]
  rfl
theorem po_3 (f cn nu de : Ob) : Ph_passOver f cn nu de 3 = Ph_passOver_80 (Dead_goOver f de).1 cn nu (Dead_goOver f de).2 (f.2.1 5) := by
  unfold Ph_passOver
  rw [if_neg (by decide), if_neg (by decide), if_pos rfl]
  rfl
theorem po_4 (f cn nu de : Ob) : Ph_passOver f cn nu de 4 = Ph_passOver_80 (Joiner_goOver f) cn nu de (f.2.1 5) := by
  unfold Ph_passOver
  rw [if_neg (by decide), if_neg (by decide), if_neg (by decide), if_pos rfl]
theorem passOver_ind (h : feq f g) {p : Int32} (hp : p = 1 ∨ p = 2 ∨ p = 3 ∨ p = 4) (cn nu de cn' nu' de' : Ob) : (Ph_passOver f cn nu de p).1 = (Ph_passOver g cn' nu' de' p).1 ∧ feq (Ph_passOver f cn nu de p).2.1 (Ph_passOver g cn' nu' de' p).2.1 := by
  have h5 := h.1.2.2.2.2.2
  rcases hp with rfl | rfl | rfl | rfl
  · rw [po_1, po_1]
    exact end_80 (constants_alike h cn cn') h5 _ _ _ _ _ _
  · rw [po_2, po_2]
    refine end_80 ?_ h5 _ _ _ _ _ _
    rw [numbers_ind nu nu']
    exact numbers_alike h nu'
  · rw [po_3, po_3]
    exact end_80 ((dead_ind de de').trans (dead_alike h de')) h5 _ _ _ _ _ _
  · rw [po_4, po_4]
    exact end_80 (joiner_alike h) h5 _ _ _ _ _ _
theorem take_alike (f t : Ob) : feq (Form_take f t) f := by
  have r : ∀ (n : Nat) (x y : Nat → Int32), x = y → mmIR x n = mmIR y n := fun n x y e => by rw [e]
  exact ⟨⟨rfl, rfl, rfl, rfl, rfl, rfl⟩, r _ _ _ rfl, r _ _ _ rfl, r _ _ _ rfl, r _ _ _ rfl, r _ _ _ rfl, r _ _ _ rfl, r _ _ _ rfl, r _ _ _ rfl, r _ _ _ rfl, r _ _ _ rfl, r _ _ _ rfl, r _ _ _ rfl, r _ _ _ rfl⟩
end PASSIND
