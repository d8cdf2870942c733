/-! WHY A VALUE MAY BECOME ANOTHER ONE -/
section JUS
variable {A : AF} {pl : Pl} {C : Nat → Prop}
/-- the last step to a block, which was not reached ahead of it -/
theorem RW_last {E : Nat → Nat → Prop} {o : Option Nat} {b : Nat} (hb : b ≠ 0) (h : RW E o b) : ∃ s, RW E o s ∧ RW E (some b) s ∧ E s b := by
  have key : RW (fun x y => E x y ∧ o ≠ some y) (some b) b ∨ ∃ s, RW E o s ∧ RW E (some b) s ∧ E s b := by
    refine RW_ind (E := E) (o := o) (P := fun v => RW (fun x y => E x y ∧ o ≠ some y) (some b) v ∨ ∃ s, RW E o s ∧ RW E (some b) s ∧ E s b) (fun _ => Or.inl (RW_base fun e => hb (Option.some.inj e))) (fun a c ha ih he hc _ => ?_) h
    rcases ih with ih | ih
    · by_cases hcb : c = b
      · subst hcb
        exact Or.inr ⟨a, ha, RW_mono (fun _ _ h => h.1) ih, he⟩
      · exact Or.inl (RW_step ih ⟨he, hc⟩ fun e => hcb (Option.some.inj e).symm)
    · exact Or.inr ih
  exact key.resolve_left fun q => RW_ne q rfl
theorem phi_edge (hg : gd A pl C) {s b v : Nat} (hb : C b) (hv : v ∈ aLs A b) (h9 : aKd A v = 9) (he : aE A C s b) : ∃ w x, (w, x) ∈ (aEd A b).zip (aAg A v) ∧ w / 2 = s := by
  obtain ⟨hs, j, hj, ht⟩ := he
  have hw := hg.2.1.2.2.2.1 b s j hb hs hj ht
  have hlen := (hg.2.2.1.1 b v hb hv).1 h9
  obtain ⟨k, hk⟩ := edI_mem hw
  have h1 := edI_some hk
  have hkl : k < (aEd A b).length := (List.getElem?_eq_some_iff.mp h1).1
  have h2 : (aAg A v)[k]? = some (aAg A v)[k] := List.getElem?_eq_getElem (by omega)
  have hj2 : j < 2 := by have := hg.2.1.2.2.2.2.2.2 s hs; omega
  exact ⟨s * 2 + j, _, idx_zip _ _ _ _ _ h1 h2, by omega⟩
theorem phi_b0 (hg : gd A pl C) {b v : Nat} (hv : v ∈ aLs A b) (h9 : aKd A v = 9) : b ≠ 0 := fun e => hg.1.2.2.2.1 v (by rw [← e]; exact hv) h9
/-- a PHI's sole argument is there where the PHI is made -/
theorem sole_prc (hg : gd A pl C) {b v : Nat} {a : Ag} (hb : C b) (hv : v ∈ aLs A b) (h9 : aKd A v = 9) (hs : ∀ w x, (w, x) ∈ (aEd A b).zip (aAg A v) → C (w / 2) → x = a ∨ x = .inl v) : a ≠ .inl v ∧ ∀ w, a = .inl w → usb A w ∧ prc A pl C w v ∧ pl w ≠ some b := by
  have hb0 := phi_b0 hg hv h9
  have hpv := (hg.1.1 b hb v).mp hv
  have hv6 := (hg.1.2.2.1 v b hpv).1
  obtain ⟨m1, m2, hl⟩ := List.append_of_mem hv
  have noself : ∀ s, aE A C s b → RW (aE A C) (some b) s → ∀ w, (w, Sum.inl v) ∈ (aEd A b).zip (aAg A v) → w / 2 ≠ s := by
    intro s he hr w hz hws
    subst hws
    obtain ⟨-, h⟩ := hg.2.2.2.2.2 b v w v hb hv h9 hz he.1
    rcases h with h | ⟨h, -⟩ | ⟨p, h, -, h3⟩
    · omega
    · exact RW_ne hr ((hpv.symm.trans h))
    · rw [Option.some.inj (hpv.symm.trans h)] at hr
      exact h3 hr
  have got : ∀ s, aE A C s b → RW (aE A C) (some b) s → a ≠ .inl v ∧ ∀ w, a = .inl w → usb A w ∧ avl A pl C s (aLs A s) w := by
    intro s he hr
    obtain ⟨w, x, hz, hws⟩ := phi_edge hg hb hv h9 he
    have hxa : x = a := (hs w x hz (by rw [hws]; exact he.1)).resolve_right fun e => by
      rw [e] at hz
      exact noself s he hr w hz hws
    subst hxa
    refine ⟨fun e => ?_, fun u hu => ?_⟩
    · rw [e] at hz
      exact noself s he hr w hz hws
    · rw [hu] at hz
      have h := hg.2.2.2.2.2 b v w u hb hv h9 hz (by rw [hws]; exact he.1)
      rw [hws] at h
      exact h
  obtain ⟨s, hs1, hs2, hs3⟩ := RW_last hb0 (gd.reach hg hb)
  obtain ⟨g1, g2⟩ := got s hs3 hs2
  refine ⟨g1, fun w hw => ?_⟩
  obtain ⟨g3, g4⟩ := g2 w hw
  have fin : ∀ p, pl w = some p → (p = s ∨ p ≠ s ∧ ¬ RW (aE A C) (some p) s) → usb A w ∧ prc A pl C w v ∧ pl w ≠ some b := by
    intro p hp hps
    have hpb : p ≠ b := fun e => by
      subst e
      rcases hps with h | h
      · subst h
        exact RW_ne hs2 rfl
      · exact h.2 hs2
    have hnr : ¬ RW (aE A C) (some p) b := fun h => by
      obtain ⟨t, ht1, ht2, ht3⟩ := RW_last hb0 h
      obtain ⟨-, q⟩ := got t ht3 ht2
      obtain ⟨-, q⟩ := q w hw
      rcases q with q | ⟨q, -⟩ | ⟨p', q, -, q3⟩
      · have := (hg.1.2.2.1 w p hp).1
        omega
      · exact RW_ne ht1 (hp.symm.trans q)
      · rw [Option.some.inj (hp.symm.trans q)] at ht1
        exact q3 ht1
    refine ⟨g3, ⟨b, m1, m2, hpv, hl, ?_⟩, fun e => hpb (Option.some.inj (hp.symm.trans e))⟩
    rw [if_pos h9]
    exact Or.inr (Or.inr ⟨p, hp, hpb, hnr⟩)
  rcases g4 with h | ⟨h, -⟩ | ⟨p, h, h2, h3⟩
  · refine ⟨g3, ⟨b, m1, m2, hpv, hl, Or.inl h⟩, fun e => ?_⟩
    have := (hg.1.2.2.1 w b e).1
    omega
  · exact fin s h (Or.inl rfl)
  · exact fin p h (Or.inr ⟨h2, h3⟩)
/-- a value of another block than 0 is not there when a run begins -/
theorem avl_start {v b : Nat} (hp : pl v = some b) (h6 : 6 ≤ v) (h0 : b ≠ 0) : ¬ avl A pl C 0 [] v := by
  intro h
  rcases h with h | ⟨h, -⟩ | ⟨p, h, -, h3⟩
  · omega
  · exact h0 (Option.some.inj (hp.symm.trans h))
  · rw [Option.some.inj (hp.symm.trans h)] at h0
    exact h3 (RW_base fun e => h0 (Option.some.inj e))
theorem sole_inv (hg : gd A pl C) (hc : clo A C) {b v : Nat} {a : Ag} (hb : C b) (hv : v ∈ aLs A b) (h9 : aKd A v = 9) (hs : ∀ w x, (w, x) ∈ (aEd A b).zip (aAg A v) → C (w / 2) → x = a ∨ x = .inl v) : PInv A (fun b l H => C b ∧ (avl A pl C b l v → H v = evA H a)) := by
  have hC := PInv_C hg hc
  have hpv := (hg.1.1 b hb v).mp hv
  have hv6 := (hg.1.2.2.1 v b hpv).1
  obtain ⟨g1, g2⟩ := sole_prc hg hb hv h9 hs
  refine ⟨fun x y => ⟨hg.2.1.1, fun h => absurd h (avl_start hpv hv6 (phi_b0 hg hv h9))⟩, fun b' l1 u l2 H m hl hp h9u hf => ⟨hp.1, fun ha => ?_⟩, fun b' l1 u l2 H hl hp h9u => ⟨hp.1, fun ha => hp.2 ?_⟩, fun b' H t hp h0 ht => ⟨hC.2.2.2 b' H t hp.1 h0 ht, fun ha => ?_⟩⟩
  · have hvu : v ≠ u := fun e => h9u (by rw [← e]; exact h9)
    have ha' := (avl.app ha).resolve_left hvu
    show uH H u _ v = evA (uH H u _) a
    rw [evA_uH fun e => prc.keep hg hp.1 hl h9u (g2 u e).2.1 ha']
    unfold uH
    rw [if_neg hvu]
    exact hp.2 ha'
  · rcases avl.app ha with e | ha'
    · have hmem : v ∈ aLs A b' := by rw [hl, e]; exact List.mem_append_right _ List.mem_cons_self
      exact Or.inr (Or.inl ⟨(hg.1.1 b' hp.1 v).mp hmem, Or.inl h9⟩)
    · exact ha'
  · have he := wyA_edge hg hp.1 h0 ht
    have htC : C t := hC.2.2.2 b' H t hp.1 h0 ht
    rcases avl.edge hg he ha with ⟨h1, -⟩ | ⟨h1, h2⟩
    · have hbt : b = t := Option.some.inj (hpv.symm.trans h1)
      subst hbt
      have hkeep : evA (phA A b (edI A b (wyA A b' H)) H) a = evA H a := by
        cases a with
        | inr n => rfl
        | inl w => exact phA_out fun q _ => (g2 w rfl).2.2 ((hg.1.1 b hb w).mp q)
      obtain ⟨j, hj, ew⟩ := wyA_lt (H := H) (hg.2.1.2.2.2.2.2.2 b' hp.1) h0
      have hj2 : j < 2 := by have := hg.2.1.2.2.2.2.2.2 b' hp.1; omega
      have hw : wyA A b' H ∈ aEd A b := by rw [ew]; exact hg.2.1.2.2.2.1 b b' j hb hp.1 hj (by rw [← ew]; exact ht)
      obtain ⟨x, hz, hx⟩ := evE_way (H := H) hw ((hg.2.2.1.1 b v hb hv).1 h9)
      have hw2 : wyA A b' H / 2 = b' := by omega
      have hph : phA A b (edI A b (wyA A b' H)) H v = evA H x := by
        rw [← hx]
        unfold phA
        rw [if_pos ⟨hv, h9⟩]
      rw [hph, hkeep]
      rcases hs _ _ hz (by rw [hw2]; exact hp.1) with e | e
      · rw [e]
      · rw [e] at hz ⊢
        refine hp.2 ?_
        have := (hg.2.2.2.2.2 b v _ v hb hv h9 hz (by rw [hw2]; exact hp.1)).2
        rw [hw2] at this
        exact this
    · have hvt : phA A t (edI A t (wyA A b' H)) H v = H v := phA_out fun q => absurd ((hg.1.1 t htC v).mp q) h1
      have hkeep : evA (phA A t (edI A t (wyA A b' H)) H) a = evA H a := by
        cases a with
        | inr n => rfl
        | inl w => exact phA_out fun q _ => prc.keep9 hg htC ((hg.1.1 t htC w).mp q) h1 (g2 w rfl).2.1 ha
      rw [hvt, hkeep]
      exact hp.2 h2
theorem sole_ok (hg : gd A pl C) (hc : clo A C) {b v : Nat} {a : Ag} (hb : C b) (hv : v ∈ aLs A b) (h9 : aKd A v = 9) (hs : ∀ w x, (w, x) ∈ (aEd A b).zip (aAg A v) → C (w / 2) → x = a ∨ x = .inl v) : gd (aRep A v a) (plR pl v) C ∧ ∀ x y, noWorse (runA A x y) (runA (aRep A v a) x y) := by
  have hpv := (hg.1.1 b hb v).mp hv
  have hv140 := (hg.1.2.2.1 v b hpv).2.1
  obtain ⟨g1, g2⟩ := sole_prc hg hb hv h9 hs
  have hne : ∀ w, a = .inl w → w ≠ v := fun w hw e => g1 (by rw [hw, e])
  exact ⟨gd_rep hg hv140 fun w hw => ⟨(g2 w hw).1, hne w hw, (g2 w hw).2.1⟩, rep_sim hg hv140 hne (Or.inr (Or.inl h9)) (sole_inv hg hc hb hv h9 hs) (fun b l H hp => hp.1) (fun b l l' H _ hp ha => hp.2 ha) (fun b l1 l2 H _ _ h4 => by omega)⟩
/-- PHIs of a block that have the same arguments -/
theorem twin_inv (hg : gd A pl C) (hc : clo A C) {b v o : Nat} (hb : C b) (hv : v ∈ aLs A b) (ho : o ∈ aLs A b) (h9 : aKd A v = 9) (h9o : aKd A o = 9) (hsame : aAg A v = aAg A o) : PInv A (fun b l H => C b ∧ (avl A pl C b l v → H v = H o)) := by
  have hC := PInv_C hg hc
  have hpv := (hg.1.1 b hb v).mp hv
  have hpo := (hg.1.1 b hb o).mp ho
  have hv6 := (hg.1.2.2.1 v b hpv).1
  refine ⟨fun x y => ⟨hg.2.1.1, fun h => absurd h (avl_start hpv hv6 (phi_b0 hg hv h9))⟩, fun b' l1 u l2 H m hl hp h9u hf => ⟨hp.1, fun ha => ?_⟩, fun b' l1 u l2 H hl hp h9u => ⟨hp.1, fun ha => hp.2 ?_⟩, fun b' H t hp h0 ht => ⟨hC.2.2.2 b' H t hp.1 h0 ht, fun ha => ?_⟩⟩
  · have hvu : v ≠ u := fun e => h9u (by rw [← e]; exact h9)
    have hou : o ≠ u := fun e => h9u (by rw [← e]; exact h9o)
    show uH H u _ v = uH H u _ o
    unfold uH
    rw [if_neg hvu, if_neg hou]
    exact hp.2 ((avl.app ha).resolve_left hvu)
  · rcases avl.app ha with e | ha'
    · have hmem : v ∈ aLs A b' := by rw [hl, e]; exact List.mem_append_right _ List.mem_cons_self
      exact Or.inr (Or.inl ⟨(hg.1.1 b' hp.1 v).mp hmem, Or.inl h9⟩)
    · exact ha'
  · have he := wyA_edge hg hp.1 h0 ht
    have htC : C t := hC.2.2.2 b' H t hp.1 h0 ht
    rcases avl.edge hg he ha with ⟨h1, -⟩ | ⟨h1, h2⟩
    · have hbt : b = t := Option.some.inj (hpv.symm.trans h1)
      subst hbt
      unfold phA
      rw [if_pos ⟨hv, h9⟩, if_pos ⟨ho, h9o⟩]
      cases edI A b (wyA A b' H) with
      | none => rfl
      | some k =>
        show evK A H v k = evK A H o k
        unfold evK
        rw [hsame]
    · rw [phA_out fun q => absurd ((hg.1.1 t htC v).mp q) h1, phA_out fun q => absurd ((hg.1.1 t htC o).mp q) (by rw [hpo, ← hpv]; exact h1)]
      exact hp.2 h2
theorem twin_ok (hg : gd A pl C) (hc : clo A C) {b v o : Nat} (hb : C b) (hv : v ∈ aLs A b) (ho : o ∈ aLs A b) (h9 : aKd A v = 9) (h9o : aKd A o = 9) (hvo : o ≠ v) (hsame : aAg A v = aAg A o) : gd (aRep A v (.inl o)) (plR pl v) C ∧ ∀ x y, noWorse (runA A x y) (runA (aRep A v (.inl o)) x y) := by
  have hpv := (hg.1.1 b hb v).mp hv
  have hpo := (hg.1.1 b hb o).mp ho
  have hv140 := (hg.1.2.2.1 v b hpv).2.1
  obtain ⟨m1, m2, hl⟩ := List.append_of_mem hv
  have hne : ∀ w, (Sum.inl o : Ag) = .inl w → w ≠ v := fun w hw e => hvo (by rw [Sum.inl.inj hw, e])
  refine ⟨gd_rep hg hv140 fun w hw => ⟨?_, hne w hw, ?_⟩, rep_sim hg hv140 hne (Or.inr (Or.inl h9)) (twin_inv hg hc hb hv ho h9 h9o hsame) (fun b l H hp => hp.1) (fun b l l' H _ hp ha => hp.2 ha) (fun b l1 l2 H _ _ h4 => by omega)⟩
  · rw [← Sum.inl.inj hw]
    exact Or.inr (Or.inr h9o)
  · rw [← Sum.inl.inj hw]
    refine ⟨b, m1, m2, hpv, hl, ?_⟩
    rw [if_pos h9]
    exact Or.inr (Or.inl ⟨hpo, Or.inl h9o⟩)
/-- what is reckoned of the same arguments -/
theorem reck_comm {k : Nat} {p q : Int32} (h : k = 1 ∨ k = 3) : Ph_reckoned (nI k) p q = Ph_reckoned (nI k) q p := by
  unfold Ph_reckoned
  rcases h with h | h
  · subst h
    rw [if_pos (show nI 1 = 1 from rfl), if_pos (show nI 1 = 1 from rfl)]
    exact Int32.add_comm p q
  · subst h
    rw [if_neg (show ¬ nI 3 = 1 by decide), if_neg (show ¬ nI 3 = 2 by decide), if_pos (show nI 3 = 3 from rfl), if_neg (show ¬ nI 3 = 1 by decide), if_neg (show ¬ nI 3 = 2 by decide), if_pos (show nI 3 = 3 from rfl)]
    exact Int32.mul_comm p q
theorem eq_ok (hg : gd A pl C) (hc : clo A C) {b v o : Nat} (hb : C b) (hv : v ∈ aLs A b) (hr : rck A v) (hk : aKd A o = aKd A v) (h6 : 6 ≤ o) (hpr : prc A pl C o v) (hvo : o ≠ v) (hargs : aAg A v = aAg A o ∨ ((aKd A v = 1 ∨ aKd A v = 3) ∧ ∃ x y, aAg A v = [x, y] ∧ aAg A o = [y, x])) : gd (aRep A v (.inl o)) (plR pl v) C ∧ ∀ x y, noWorse (runA A x y) (runA (aRep A v (.inl o)) x y) := by
  have hpv := (hg.1.1 b hb v).mp hv
  have hv140 := (hg.1.2.2.1 v b hpv).2.1
  have hv6 := (hg.1.2.2.1 v b hpv).1
  have hro : rck A o := by unfold rck; rw [hk]; exact hr
  have hne : ∀ w, (Sum.inl o : Ag) = .inl w → w ≠ v := fun w hw e => hvo (by rw [Sum.inl.inj hw, e])
  refine ⟨gd_rep hg hv140 fun w hw => ⟨?_, hne w hw, ?_⟩, rep_sim hg hv140 hne (Or.inr (Or.inr hr)) (PInv_eq hg hc) (fun b l H hp => hp.1) (fun b' l l' H hl hp ha => ?_) (fun b' l1 l2 H hl hp h4 => ?_)⟩
  · rw [← Sum.inl.inj hw]
    exact Or.inr (Or.inl (by have := hro.2; omega))
  · rw [← Sum.inl.inj hw]
    exact hpr
  · have ho := prc.trans hg hp.1 hl ha hpr
    have e1 : H v = _ := (hp.2 v hr hv6 ha).1
    have e2 : H o = _ := (hp.2 o hro h6 ho).1
    show H v = H o
    rw [e1, e2, hk]
    rcases hargs with h | ⟨h, x, y, h1, h2⟩
    · unfold evK
      rw [h]
    · rw [reck_comm h]
      unfold evK
      rw [h1, h2]
      rfl
  · have ho : avl A pl C b' l1 o := by
      obtain ⟨p, m1, m2, z1, z2, z3⟩ := hpr
      have hpb : b' = p := Option.some.inj (((hg.1.1 b' hp.1 v).mp (by rw [hl]; exact List.mem_append_right _ List.mem_cons_self)).symm.trans z1)
      subst hpb
      have hn := hg.1.2.1 b' hp.1
      rw [hl] at hn z2
      rw [nodup_split hn z2]
      rw [if_neg (by omega)] at z3
      exact z3
    have hd := (hp.2 o hro h6 ho).2 (by rw [hk]; exact h4)
    rcases hargs with h | ⟨h, -⟩
    · unfold evK at hd ⊢
      rw [h]
      exact hd
    · omega
end JUS
