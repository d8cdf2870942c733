/-! A WALK over a form does not depend on what lay about -/
section WALKPAR
variable {f : Ob}
theorem rat_put {n : Nat} {x y : Nat → Int32} {k v w : Int32} (h : v = k ∨ rat n x v = rat n y v) : rat n (rput n x k w) v = rat n (rput n y k w) v := by
  unfold rput
  by_cases q : k < 0
  · rw [if_pos q, if_pos q]
    rcases h with h | h
    · unfold rat
      rw [h, if_pos q, if_pos q]
    · exact h
  · rw [if_neg q, if_neg q]
    by_cases z : nI n ≤ k
    · rw [if_pos z, if_pos z]
      rcases h with h | h
      · unfold rat
        rw [h, if_neg q, if_neg q, if_pos z, if_pos z]
      · exact h
    · rw [if_neg z, if_neg z]
      unfold rat at h ⊢
      by_cases a : v < 0
      · rw [if_pos a, if_pos a]
      · rw [if_neg a, if_neg a]
        by_cases b : nI n ≤ v
        · rw [if_pos b, if_pos b]
        · rw [if_neg b, if_neg b]
          rw [if_neg a, if_neg a, if_neg b, if_neg b] at h
          unfold ru
          by_cases c : v.toNatClampNeg = k.toNatClampNeg
          · rw [if_pos c, if_pos c]
          · rw [if_neg c, if_neg c]
            exact h.resolve_left fun e => c (by rw [e])
theorem reck_par {ru ru' : Ob} (h : ru.1 1 = ru'.1 1) (u k : Int32) : Runner_reckon f ru u k = Runner_reckon f ru' u k := by
  unfold Runner_reckon oat
  rw [h]
/-- phis that are read: what the first loop wrote -/
def pw (f : Ob) (b : Int32) (k : Nat) (ru ru' : Ob) : Prop := ru.1 1 = ru'.1 1 ∧ ∀ j, j < k → oat f 0 140 (Form_valueIn f b (nI j)) = 9 → oat ru 2 140 (Form_valueIn f b (nI j)) = oat ru' 2 140 (Form_valueIn f b (nI j))
theorem nI_next {k : Nat} {z : Int32} (hk : k < 2 ^ 31) (h : nI k < z) : k + 1 < 2 ^ 31 ∧ nI k + 1 = nI (k + 1) := by
  have h0 : ¬ z < 0 := fun q => by
    rw [Int32.lt_iff_toInt_lt] at h q
    have : (nI k).toInt = k := nI_toInt hk
    have h00 : (0 : Int32).toInt = 0 := rfl
    omega
  obtain ⟨j, hj, e⟩ := nI_of h0
  rw [e] at h
  have : k < j := by
    rw [Int32.lt_iff_toInt_lt, nI_toInt hk, nI_toInt hj] at h
    omega
  exact ⟨by omega, nI_1 k⟩
theorem phis65_par {ru ru' : Ob} {b : Int32} {K : Nat} (hK : ¬ nI K < oat f 7 10 b) (hK31 : K < 2 ^ 31) (h : pw f b K ru ru') : (Runner_doPhis_L65 f ru b 0).1 1 = (Runner_doPhis_L65 f ru' b 0).1 1 := by
  unfold Runner_doPhis_L65
  refine loopW_par (fun a : Int32 × Ob => Runner_doPhis_L65b f a.2 b a.1) (fun a : Int32 × Ob => Runner_doPhis_L65b f a.2 b a.1) (fun a c => a.1 = c.1 ∧ pw f b K a.2 c.2 ∧ ∃ k, a.1 = nI k ∧ k < 2 ^ 31) (fun r r' => r.1 1 = r'.1 1) (fun _ => rfl) ?_ ⟨rfl, h, 0, rfl, by decide⟩
  rintro ⟨v, d⟩ ⟨v', d'⟩ ⟨q1, q2, k, q3, q4⟩
  have q1' : v = v' := q1
  have q2' : pw f b K d d' := q2
  have q3' : v = nI k := q3
  subst q1'
  subst q3'
  show SR _ _ (Runner_doPhis_L65b f d b (nI k)) (Runner_doPhis_L65b f d' b (nI k))
  unfold Runner_doPhis_L65b Runner_doPhis_119
  by_cases c : nI k < oat f 7 10 b
  · obtain ⟨n1, n2⟩ := nI_next q4 c
    have hkK : k < K := Nat.lt_of_not_le fun z => hK (by
      rcases Nat.lt_or_eq_of_le z with z | z
      · rw [Int32.lt_iff_toInt_lt] at c ⊢
        rw [nI_toInt hK31]
        rw [nI_toInt q4] at c
        omega
      · rw [z]; exact c)
    rw [if_pos c, if_pos c, n2]
    by_cases p : oat f 0 140 (Form_valueIn f b (nI k)) = 9
    · rw [if_pos p, if_pos p, q2'.2 k hkK p]
      refine SR.l ⟨rfl, ⟨?_, q2'.2⟩, k + 1, rfl, n1⟩
      show rput 140 (d.1 1) _ _ = rput 140 (d'.1 1) _ _
      rw [q2'.1]
    · rw [if_neg p, if_neg p]
      exact SR.l ⟨rfl, q2', k + 1, rfl, n1⟩
  · rw [if_neg c, if_neg c]
    exact SR.r q2'.1
theorem phis_par {ru ru' : Ob} (h : ru.1 1 = ru'.1 1) (b e : Int32) : (Runner_doPhis f ru b e).1 1 = (Runner_doPhis f ru' b e).1 1 := by
  unfold Runner_doPhis Runner_doPhis_L3
  refine loopW_par (fun a : Int32 × Ob => Runner_doPhis_L3b f a.2 b e a.1) (fun a : Int32 × Ob => Runner_doPhis_L3b f a.2 b e a.1) (fun a c => a.1 = c.1 ∧ ∃ k, a.1 = nI k ∧ k < 2 ^ 31 ∧ pw f b k a.2 c.2) (fun r r' => r.1 1 = r'.1 1) (fun _ => rfl) ?_ ⟨rfl, 0, rfl, by decide, h, fun j hj => absurd hj (by omega)⟩
  rintro ⟨v, d⟩ ⟨v', d'⟩ ⟨q1, k, q3, q4, q2⟩
  have q1' : v = v' := q1
  have q2' : pw f b k d d' := q2
  have q3' : v = nI k := q3
  subst q1'
  subst q3'
  show SR _ _ (Runner_doPhis_L3b f d b e (nI k)) (Runner_doPhis_L3b f d' b e (nI k))
  unfold Runner_doPhis_L3b Runner_doPhis_56
  by_cases c : nI k < oat f 7 10 b
  · obtain ⟨n1, n2⟩ := nI_next q4 c
    rw [if_pos c, if_pos c, n2]
    by_cases p : oat f 0 140 (Form_valueIn f b (nI k)) = 9
    · rw [if_pos p, if_pos p, reck_par q2'.1]
      refine SR.l ⟨rfl, k + 1, rfl, n1, q2'.1, fun j hj hj9 => ?_⟩
      show rat 140 (rput 140 (d.1 2) _ _) _ = rat 140 (rput 140 (d'.1 2) _ _) _
      refine rat_put ?_
      by_cases z : j = k
      · rw [z]; exact Or.inl rfl
      · exact Or.inr (q2'.2 j (by omega) hj9)
    · rw [if_neg p, if_neg p]
      refine SR.l ⟨rfl, k + 1, rfl, n1, q2'.1, fun j hj hj9 => ?_⟩
      by_cases z : j = k
      · rw [z] at hj9; exact absurd hj9 p
      · exact q2'.2 j (by omega) hj9
  · rw [if_neg c, if_neg c]
    exact SR.r (phis65_par c q4 q2')
/-- tapes that are alike but for what is printed -/
def TR (t t' : Ob) : Prop := t.1 0 = t'.1 0 ∧ (∀ i, i < 5 → t.2.1 i = t'.2.1 i) ∧ t.2.2 0 = t'.2.2 0
theorem TR.rf (t : Ob) : TR t t := ⟨rfl, fun _ _ => rfl, rfl⟩
theorem TR.g {t t' : Ob} (h : TR t t') (i : Nat) {x y : Int32} (e : x = y) : TR (oG t i x) (oG t' i y) := by
  obtain ⟨h1, h2, h3⟩ := h
  refine ⟨h1, fun j hj => ?_, h3⟩
  rw [oG_i, oG_i, e]
  by_cases q : j = i
  · rw [if_pos q, if_pos q]
  · rw [if_neg q, if_neg q]
    exact h2 j hj
theorem TR.b {t t' : Ob} (h : TR t t') (x : Bool) : TR (oB t 0 x) (oB t' 0 x) := ⟨h.1, h.2.1, rfl⟩
theorem TR.p0 {t t' : Ob} (h : TR t t') (n : Nat) (k x : Int32) : TR (oput t 0 n k x) (oput t' 0 n k x) := by
  refine ⟨?_, h.2.1, h.2.2⟩
  show rput n (t.1 0) k x = rput n (t'.1 0) k x
  rw [h.1]
theorem TR.p1 {t t' : Ob} (h : TR t t') (n : Nat) (k x k' x' : Int32) : TR (oput t 1 n k x) (oput t' 1 n k' x') := ⟨h.1, h.2.1, h.2.2⟩
theorem act_par {t t' : Ob} (h : TR t t') (k x y : Int32) : (Tape_act_k t k x y).1 = (Tape_act_k t' k x y).1 ∧ TR (Tape_act_k t k x y).2 (Tape_act_k t' k x y).2 := by
  have h3 : t.2.1 3 = t'.2.1 3 := h.2.1 3 (by decide)
  have g3 : TR (oG t 3 (t.2.1 3 + Ph_costOf k)) (oG t' 3 (t'.2.1 3 + Ph_costOf k)) := h.g 3 (by rw [h3])
  unfold Tape_act_k Tape_act_k_134 Tape_finish_k
  split
  · exact ⟨rfl, g3⟩
  · split
    · refine ⟨?_, g3⟩
      show rat 8 (t.1 0) _ = rat 8 (t'.1 0) _
      rw [h.1]
    · split
      · exact ⟨rfl, g3.p0 8 _ _⟩
      · split
        · exact ⟨rfl, (g3.p1 2408 _ _ _ _).g 2 (by rw [h.2.1 2 (by decide)])⟩
        · split
          · split
            · exact ⟨rfl, (g3.b false).g 0 rfl⟩
            · exact ⟨rfl, g3⟩
          · exact ⟨rfl, g3⟩
theorem leave_par {t t' : Ob} (h : TR t t') (k x : Int32) : (Tape_leaveBy_k t k x).1 = (Tape_leaveBy_k t' k x).1 ∧ TR (Tape_leaveBy_k t k x).2 (Tape_leaveBy_k t' k x).2 := by
  have h3 : t.2.1 3 = t'.2.1 3 := h.2.1 3 (by decide)
  have h4 : t.2.1 4 = t'.2.1 4 := h.2.1 4 (by decide)
  have g4 : TR (oG t 4 (t.2.1 4 + 1)) (oG t' 4 (t'.2.1 4 + 1)) := h.g 4 (by rw [h4])
  unfold Tape_leaveBy_k Tape_leaveBy_k_67 Tape_leaveBy_k_84 Tape_finish_k
  rw [h.2.2, h4]
  rw [h4] at g4
  split
  · split
    · split
      · exact ⟨rfl, ((g4.g 1 rfl).b false).g 0 rfl⟩
      · split
        · split
          · exact ⟨rfl, g4.g 3 (by rw [h3])⟩
          · exact ⟨rfl, g4.g 3 (by rw [h3])⟩
        · exact ⟨rfl, g4.g 3 (by rw [h3])⟩
    · exact ⟨rfl, (h.b false).g 0 rfl⟩
  · exact ⟨rfl, h⟩
def RT (r r' : Ob × Ob) : Prop := r.1.1 1 = r'.1.1 1 ∧ TR r.2 r'.2
theorem vals_par {ru ru' t t' : Ob} (h : ru.1 1 = ru'.1 1) (ht : TR t t') (b : Int32) : RT (Runner_doValues_k f ru t b) (Runner_doValues_k f ru' t' b) := by
  unfold Runner_doValues_k Runner_doValues_k_L3
  refine loopW_par (fun a : Int32 × Ob × Ob => Runner_doValues_k_L3b f a.2.1 a.2.2 b a.1) (fun a : Int32 × Ob × Ob => Runner_doValues_k_L3b f a.2.1 a.2.2 b a.1) (fun a c => a.1 = c.1 ∧ RT a.2 c.2) RT (fun r => ⟨rfl, TR.rf r.2⟩) ?_ ⟨rfl, h, ht⟩
  rintro ⟨v, d, s⟩ ⟨v', d', s'⟩ ⟨q1, q2, q3⟩
  have q1' : v = v' := q1
  have q2' : d.1 1 = d'.1 1 := q2
  have q3' : TR s s' := q3
  subst q1'
  show SR _ _ (Runner_doValues_k_L3b f d s b v) (Runner_doValues_k_L3b f d' s' b v)
  unfold Runner_doValues_k_L3b Runner_doValues_k_78 Runner_doValues_k_81
  rw [q3'.2.2]
  split
  · split
    · split
      · exact SR.l ⟨rfl, q2', q3'⟩
      · rw [reck_par q2', reck_par q2']
        obtain ⟨a1, a2⟩ := act_par q3' (oat f 0 140 (Form_valueIn f b v)) (Runner_reckon f d' (Form_valueIn f b v) 0) (Runner_reckon f d' (Form_valueIn f b v) 1)
        refine SR.l ⟨rfl, ?_, a2⟩
        show rput 140 (d.1 1) _ _ = rput 140 (d'.1 1) _ _
        rw [q2', a1]
    · exact SR.r ⟨q2', q3'⟩
  · exact SR.r ⟨q2', q3'⟩
theorem walk_par (ru t ru' t' : Ob) (x y : Int32) : RT (Runner_walkForm_k f ru t x y) (Runner_walkForm_k f ru' t' x y) := by
  unfold Runner_walkForm_k Runner_walkForm_k_L40
  refine loopW_par (fun a : Int32 × Int32 × Int32 × Ob × Ob => Runner_walkForm_k_L40b f a.2.2.2.1 a.2.2.2.2 a.1 a.2.1 a.2.2.1) (fun a : Int32 × Int32 × Int32 × Ob × Ob => Runner_walkForm_k_L40b f a.2.2.2.1 a.2.2.2.2 a.1 a.2.1 a.2.2.1) (fun a c => a.1 = c.1 ∧ a.2.1 = c.2.1 ∧ a.2.2.1 = c.2.2.1 ∧ RT a.2.2.2 c.2.2.2) RT (fun r => ⟨rfl, TR.rf r.2⟩) ?_ ⟨rfl, rfl, rfl, rfl, rfl, fun i hi => ?_, rfl⟩
  · rintro ⟨v, w, u, d, s⟩ ⟨v', w', u', d', s'⟩ ⟨p1, p2, p3, q2, q3⟩
    have p1' : v = v' := p1
    have p2' : w = w' := p2
    have p3' : u = u' := p3
    have q2' : d.1 1 = d'.1 1 := q2
    have q3' : TR s s' := q3
    subst p1'
    subst p2'
    subst p3'
    show SR _ _ (Runner_walkForm_k_L40b f d s v w u) (Runner_walkForm_k_L40b f d' s' v w u)
    unfold Runner_walkForm_k_L40b Runner_walkForm_k_80 Runner_walkForm_k_110
    rw [q3'.2.2]
    split
    · split
      · exact SR.r ⟨q2', q3'⟩
      · obtain ⟨a1, a2⟩ := vals_par (f := f) (phis_par (f := f) q2' v (Form_edgeOf f v w)) q3' v
        rw [reck_par a1]
        obtain ⟨b1, b2⟩ := leave_par a2 (oat f 11 10 v) (Runner_reckon f (Runner_doValues_k f (Runner_doPhis f d' v (Form_edgeOf f v w)) s' v).1 (140 + v) 0)
        rw [b1]
        exact SR.l ⟨rfl, rfl, rfl, a1, b2⟩
    · exact SR.r ⟨q2', q3'⟩
  · have : i = 0 ∨ i = 1 ∨ i = 2 ∨ i = 3 ∨ i = 4 := by omega
    rcases this with rfl | rfl | rfl | rfl | rfl <;> rfl
end WALKPAR
