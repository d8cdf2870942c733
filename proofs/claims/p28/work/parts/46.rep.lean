/-! A VALUE BECOMES ANOTHER ONE, or a number -/
def sb (v : Nat) (a : Ag) : Ag → Ag := fun z => if z = .inl v then a else z
def aRep (A : AF) (v : Nat) (a : Ag) : AF := (aKd A, fun u => if u = v then [] else (aAg A u).map (sb v a), fun b => (aLs A b).filter fun z => !decide (z = v), aEd A, aEk A, aTg A)
def plR (pl : Pl) (v : Nat) : Pl := fun z => if z = v then none else pl z
theorem filter_split {p : Nat → Bool} : ∀ (l l1 : List Nat) (u : Nat) (l2 : List Nat), l.filter p = l1 ++ u :: l2 → ∃ m1 m2, l = m1 ++ u :: m2 ∧ l1 = m1.filter p ∧ l2 = m2.filter p := by
  intro l
  induction l with
  | nil => intro l1 u l2 h; cases l1 <;> cases h
  | cons x r ih =>
    intro l1 u l2 h
    cases hp : p x with
    | false =>
      rw [List.filter_cons_of_neg (by simp [hp])] at h
      obtain ⟨m1, m2, h1, h2, h3⟩ := ih l1 u l2 h
      exact ⟨x :: m1, m2, by rw [h1]; rfl, by rw [List.filter_cons_of_neg (by simp [hp])]; exact h2, h3⟩
    | true =>
      rw [List.filter_cons_of_pos hp] at h
      cases l1 with
      | nil =>
        rw [List.nil_append] at h
        exact ⟨[], r, by rw [(List.cons.inj h).1]; rfl, rfl, (List.cons.inj h).2.symm⟩
      | cons y s =>
        rw [List.cons_append] at h
        obtain ⟨m1, m2, h1, h2, h3⟩ := ih s u l2 (List.cons.inj h).2
        exact ⟨x :: m1, m2, by rw [h1]; rfl, by rw [List.filter_cons_of_pos hp, ← h2, (List.cons.inj h).1], h3⟩
section REP
variable {A : AF} {pl : Pl} {C : Nat → Prop}
theorem sb_inl {v x : Nat} {a z : Ag} (h : sb v a z = .inl x) : (z = .inl v ∧ a = .inl x) ∨ (z = .inl x ∧ x ≠ v) := by
  unfold sb at h
  by_cases hz : z = .inl v
  · rw [if_pos hz] at h
    exact Or.inl ⟨hz, h⟩
  · rw [if_neg hz] at h
    exact Or.inr ⟨h, fun e => hz (by rw [h, e])⟩
theorem avl_rep {v b x : Nat} {a : Ag} {l : List Nat} (h : avl A pl C b l x) (hx : x ≠ v) : avl (aRep A v a) (plR pl v) C b (l.filter fun z => !decide (z = v)) x := by
  have hp : plR pl v x = pl x := if_neg hx
  rcases h with h | ⟨h1, h2⟩ | ⟨p, h1, h2, h3⟩
  · exact Or.inl h
  · refine Or.inr (Or.inl ⟨by rw [hp]; exact h1, h2.imp id fun h => ?_⟩)
    rw [List.mem_filter]
    simp [h, hx]
  · exact Or.inr (Or.inr ⟨p, by rw [hp]; exact h1, h2, h3⟩)
theorem zip_map {α β γ : Type} (f : β → γ) : ∀ (l : List α) (m : List β) (x : α) (y : γ), (x, y) ∈ l.zip (m.map f) → ∃ z, (x, z) ∈ l.zip m ∧ f z = y := by
  intro l
  induction l with
  | nil => intro m x y h; cases h
  | cons p r ih =>
    intro m x y h
    cases m with
    | nil => cases h
    | cons q s =>
      rcases List.mem_cons.mp h with h | h
      · cases h
        exact ⟨q, List.mem_cons_self, rfl⟩
      · obtain ⟨z, h1, h2⟩ := ih s x y h
        exact ⟨z, List.mem_cons_of_mem _ h1, h2⟩
theorem gd_rep (hg : gd A pl C) {v : Nat} {a : Ag} (hv140 : v < 140) (ha : ∀ w, a = .inl w → usb A w ∧ w ≠ v ∧ prc A pl C w v) : gd (aRep A v a) (plR pl v) C := by
  obtain ⟨⟨l1, l2, l3, l4, l5⟩, hE, ⟨n1, n2⟩, ⟨d1, d2, d3⟩⟩ := id hg
  have hmem : ∀ b u, u ∈ (aLs A b).filter (fun z => !decide (z = v)) ↔ u ∈ aLs A b ∧ u ≠ v := fun b u => by
    rw [List.mem_filter]
    simp
  have hE2 : ∀ b, aAg (aRep A v a) (140 + b) = (aAg A (140 + b)).map (sb v a) := fun b => if_neg (by omega)
  have hU : ∀ u, u ≠ v → aAg (aRep A v a) u = (aAg A u).map (sb v a) := fun u hu => if_neg hu
  have hus : ∀ x, usb A x → usb (aRep A v a) x := fun x h => h
  refine ⟨⟨fun b hb u => ?_, fun b hb => (l2 b hb).filter _, fun u q hq => ?_, fun u hu => l4 u ((hmem 0 u).mp hu).1, fun b m1 u m2 hb hm h9 z hz => ?_⟩, hE, ⟨fun b u hb hu => ?_, fun b hb => ?_⟩, ⟨fun b m1 u m2 hb hm h9 x hx => ?_, fun b x hb hx => ?_, fun b u w x hb hu h9 hx hw => ?_⟩⟩
  · show u ∈ (aLs A b).filter (fun z => !decide (z = v)) ↔ _
    rw [hmem, l1 b hb u]
    unfold plR
    by_cases h : u = v
    · rw [if_pos h]; simp [h]
    · rw [if_neg h]; simp [h]
  · unfold plR at hq
    by_cases h : u = v
    · rw [if_pos h] at hq; cases hq
    · rw [if_neg h] at hq; exact l3 u q hq
  · obtain ⟨k1, k2, e1, e2, e3⟩ := filter_split _ _ _ _ hm
    rw [e2] at hz
    exact l5 b k1 u k2 hb e1 h9 z (List.mem_filter.mp hz).1
  · obtain ⟨h1, h2⟩ := (hmem b u).mp hu
    rw [hU u h2, List.length_map]
    exact n1 b u hb h1
  · rw [hE2 b, List.length_map]
    exact ⟨fun h => by rw [(n2 b hb).1 h]; rfl, (n2 b hb).2⟩
  · obtain ⟨k1, k2, e1, e2, e3⟩ := filter_split _ _ _ _ hm
    have huv : u ≠ v := ((hmem b u).mp (by show u ∈ aLs (aRep A v a) b; rw [hm]; exact List.mem_append_right _ List.mem_cons_self)).2
    rw [hU u huv] at hx
    obtain ⟨z, hz, hzx⟩ := List.mem_map.mp hx
    rw [e2]
    rcases sb_inl hzx with ⟨q1, q2⟩ | ⟨q1, q2⟩
    · obtain ⟨a1, a2, a3⟩ := ha x q2
      rw [q1] at hz
      exact ⟨a1, avl_rep (prc.trans hg (l' := u :: k2) hb e1 (d1 b k1 u k2 hb e1 h9 v hz).2 a3) a2⟩
    · rw [q1] at hz
      obtain ⟨a1, a2⟩ := d1 b k1 u k2 hb e1 h9 x hz
      exact ⟨a1, avl_rep a2 q2⟩
  · rw [hE2 b] at hx
    obtain ⟨z, hz, hzx⟩ := List.mem_map.mp hx
    rcases sb_inl hzx with ⟨q1, q2⟩ | ⟨q1, q2⟩
    · obtain ⟨a1, a2, a3⟩ := ha x q2
      rw [q1] at hz
      exact ⟨a1, avl_rep (prc.trans hg (l' := []) hb (by simp) (d2 b v hb hz).2 a3) a2⟩
    · rw [q1] at hz
      obtain ⟨a1, a2⟩ := d2 b x hb hz
      exact ⟨a1, avl_rep a2 q2⟩
  · obtain ⟨h1, h2⟩ := (hmem b u).mp hu
    rw [hU u h2] at hx
    obtain ⟨z, hz, hzx⟩ := zip_map _ _ _ _ _ hx
    rcases sb_inl hzx with ⟨q1, q2⟩ | ⟨q1, q2⟩
    · obtain ⟨a1, a2, a3⟩ := ha x q2
      rw [q1] at hz
      exact ⟨a1, avl_rep (prc.trans hg (l' := []) hw (by simp) (d3 b u w v hb h1 h9 hz hw).2 a3) a2⟩
    · rw [q1] at hz
      obtain ⟨a1, a2⟩ := d3 b u w x hb h1 h9 hz hw
      exact ⟨a1, avl_rep a2 q2⟩
/-- if what it becomes is held to be the same wherever it is there, runs are as before -/
theorem rep_sim (hg : gd A pl C) {P : Nat → List Nat → Hd → Prop} {v : Nat} {a : Ag} (hv140 : v < 140) (ha : ∀ w, a = .inl w → w ≠ v) (hk : v < 6 ∨ aKd A v = 9 ∨ rck A v) (hP : PInv A P) (hPC : ∀ b l H, P b l H → C b) (heq : ∀ b l l' H, aLs A b = l ++ l' → P b l H → avl A pl C b l v → H v = evA H a) (hdiv : ∀ b l1 l2 H, aLs A b = l1 ++ v :: l2 → P b l1 H → aKd A v = 4 → evK A H v 1 ≠ 0) (x y : Int32) : noWorse (runA A x y) (runA (aRep A v a) x y) := by
  obtain ⟨⟨l1, l2, l3, l4, l5⟩, hE, ⟨n1, n2⟩, ⟨d1, d2, d3⟩⟩ := id hg
  have key : ∀ b l l' H z, aLs A b = l ++ l' → P b l H → (z = Sum.inl v → avl A pl C b l v) → evA H (sb v a z) = evA H z ∧ nlo (fun z => decide (z = v)) (sb v a z) := by
    intro b l l' H z hl hp hz
    unfold sb
    by_cases h : z = .inl v
    · rw [if_pos h, h]
      exact ⟨(heq b l l' H hl hp (hz h)).symm, fun w hw => decide_eq_false (ha w hw)⟩
    · rw [if_neg h]
      exact ⟨rfl, fun w hw => decide_eq_false fun e => h (by rw [hw, e])⟩
  refine subst_sim (A := A) (B := aRep A v a) (C := C) (P := P) (σ := sb v a) (lost := fun z => decide (z = v)) hP hPC (fun _ => rfl) (fun _ _ => rfl) (fun _ _ => rfl) (fun _ _ => rfl) (fun _ => rfl) (fun u _ hu => if_neg (of_decide_eq_false hu)) (fun b _ => if_neg (by omega)) (fun b u hb hu => (l3 u b ((l1 b hb u).mp hu)).2.1) (fun b m1 u m2 H hm hp h9 hlo z hz => ?_) (fun b H hp z hz => ?_) (fun b H t u k z hp h0 ht hu h9 hlo hk2 hz => ?_) (fun b m1 u m2 H m hm hp h9 hlo => ?_) x y
  · exact key b m1 (u :: m2) H z hm hp fun e => (d1 b m1 u m2 (hPC _ _ _ hp) hm h9 v (by rw [← e]; exact hz)).2
  · exact key b _ [] H z (by simp) hp fun e => (d2 b v (hPC _ _ _ hp) (by rw [← e]; exact hz)).2
  · have hb := hPC _ _ _ hp
    have htC : C t := hPC _ _ _ (hP.2.2.2 b H t hp h0 ht)
    have hzip := idx_zip _ _ _ _ _ (edI_some hk2) hz
    refine key b _ [] H z (by simp) hp fun e => ?_
    rw [e] at hzip
    have hw2 : wyA A b H / 2 = b := by
      obtain ⟨j, hj, e2⟩ := wyA_lt (A := A) (b := b) (H := H) (hE.2.2.2.2.2.2 b hb) h0
      have := hE.2.2.2.2.2.2 b hb
      omega
    have := (d3 t u (wyA A b H) v htC hu h9 hzip (by rw [hw2]; exact hb)).2
    rw [hw2] at this
    exact this
  · have huv : u = v := of_decide_eq_true hlo
    subst huv
    rcases hk with hk | hk | hk
    · have hb := hPC _ _ _ hp
      have := (l3 u b ((l1 b hb u).mp (by rw [hm]; exact List.mem_append_right _ List.mem_cons_self))).1
      omega
    · exact absurd hk h9
    · rw [act_rck2 hk.1 hk.2]
      refine Prod.ext rfl (decide_eq_false fun q => hdiv b m1 m2 H hm hp q.1 q.2)
end REP
