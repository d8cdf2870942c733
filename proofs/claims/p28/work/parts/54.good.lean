/-! forms as they stand between passes stay so -/
section GOOD
variable {A B : AF} {pl : Pl} {C : Nat → Prop}
theorem rep_W (hW : gW A pl allC) (v : Nat) (a : Ag) : gW (aRep A v a) (plR pl v) allC := by
  have hmem : ∀ b u, u ∈ aLs (aRep A v a) b → u ∈ aLs A b ∧ u ≠ v := fun b u h => by
    have h' : u ∈ (aLs A b).filter (fun z => !decide (z = v)) := h
    rw [List.mem_filter] at h'
    simpa using h'
  refine ⟨fun b u hu => ?_, hW.2.1, fun t u ht hu h9 => ?_, hW.2.2.2⟩
  · obtain ⟨h1, h2⟩ := hmem b u hu
    refine ⟨?_, (hW.1 b u h1).2⟩
    unfold plR
    rw [if_neg h2]
    exact (hW.1 b u h1).1
  · obtain ⟨h1, h2⟩ := hmem t u hu
    show (if u = v then [] else (aAg A u).map (sb v a)).length = _
    rw [if_neg h2, List.length_map]
    exact hW.2.2.1 t u ht h1 h9
theorem rep_G (hG : GG A pl C) {v : Nat} {a : Ag} (hg : gd (aRep A v a) (plR pl v) C) : GG (aRep A v a) (plR pl v) C := ⟨hg, rep_W hG.2.1 v a, hG.2.2.1, hG.2.2.2.1, hG.2.2.2.2⟩
/-- without the values of D -/
def aDead (A : AF) (D : Nat → Bool) : AF := (aKd A, fun u => if u < 140 ∧ D u = true then [] else aAg A u, fun b => (aLs A b).filter fun v => !D v, aEd A, aEk A, aTg A)
def plD (pl : Pl) (D : Nat → Bool) : Pl := fun z => if D z = true then none else pl z
theorem dead_ok (hG : GG A pl C) {D : Nat → Bool} (h6 : ∀ v, v < 6 → D v = false) (hh : ∀ b v, v ∈ aLs A b → D v = true → harmless A v) (hc : ∀ b v, v ∈ aLs A b → D v = false → ∀ w, Sum.inl w ∈ aAg A v → D w = false) (he : ∀ b w, Sum.inl w ∈ aAg A (140 + b) → D w = false) : GG (aDead A D) (plD pl D) C ∧ ∀ x y, noWorse (runA A x y) (runA (aDead A D) x y) := by
  obtain ⟨hg, hW, hcl, hC, hK⟩ := id hG
  obtain ⟨⟨l1, l2, l3, l4, l5⟩, hE, ⟨n1, n2⟩, ⟨d1, d2, d3⟩⟩ := id hg
  have hmem : ∀ b u, u ∈ aLs (aDead A D) b ↔ u ∈ aLs A b ∧ D u = false := fun b u => by
    show u ∈ (aLs A b).filter (fun z => !D z) ↔ _
    rw [List.mem_filter]
    simp
  have hag : ∀ u, D u = false → aAg (aDead A D) u = aAg A u := fun u hu => if_neg fun q => by rw [hu] at q; cases q.2
  have hagE : ∀ b, aAg (aDead A D) (140 + b) = aAg A (140 + b) := fun b => if_neg fun q => by omega
  have hav : ∀ {b v : Nat} {l : List Nat}, D v = false → avl A pl C b l v → avl (aDead A D) (plD pl D) C b (l.filter fun z => !D z) v := fun {b v l} hv h => by
    have hp : plD pl D v = pl v := if_neg (by rw [hv]; decide)
    rcases h with h | ⟨h1, h2⟩ | ⟨p, h1, h2, h3⟩
    · exact Or.inl h
    · refine Or.inr (Or.inl ⟨by rw [hp]; exact h1, h2.imp id fun h => ?_⟩)
      rw [List.mem_filter]
      simp [h, hv]
    · exact Or.inr (Or.inr ⟨p, by rw [hp]; exact h1, h2, h3⟩)
  refine ⟨⟨⟨⟨fun b hb u => ?_, fun b hb => (l2 b hb).filter _, fun u q hq => ?_, fun u hu => l4 u ((hmem 0 u).mp hu).1, fun b m1 u m2 hb hm h9 z hz => ?_⟩, hE, ⟨fun b u hb hu => ?_, fun b hb => ?_⟩, ⟨fun b m1 u m2 hb hm h9 x hx => ?_, fun b x hb hx => ?_, fun b u w x hb hu h9 hx hw => ?_⟩⟩, ⟨fun b u hu => ?_, hW.2.1, fun t u ht hu h9 => ?_, hW.2.2.2⟩, hcl, hC, hK⟩, fun x y => run_dead (A := A) (B := aDead A D) (D := D) ⟨fun _ _ => rfl, fun u hu => ?_, fun b => rfl, rfl, rfl, rfl⟩ ⟨fun b v hv => (hW.1 b v hv).2, hh, hc, he⟩ x y⟩
  · rw [hmem, l1 b hb u]
    unfold plD
    by_cases h : D u = true
    · rw [if_pos h]; simp [h]
    · rw [if_neg h]; simp [h]
  · unfold plD at hq
    by_cases h : D u = true
    · rw [if_pos h] at hq; cases hq
    · rw [if_neg h] at hq; exact l3 u q hq
  · obtain ⟨k1, k2, e1, e2, e3⟩ := filter_split _ _ _ _ hm
    rw [e2] at hz
    exact l5 b k1 u k2 hb e1 h9 z (List.mem_filter.mp hz).1
  · obtain ⟨h1, h2⟩ := (hmem b u).mp hu
    rw [hag u h2]
    exact n1 b u hb h1
  · rw [hagE b]
    exact n2 b hb
  · obtain ⟨k1, k2, e1, e2, e3⟩ := filter_split _ _ _ _ hm
    obtain ⟨h1, h2⟩ := (hmem b u).mp (by rw [hm]; exact List.mem_append_right _ List.mem_cons_self)
    rw [hag u h2] at hx
    rw [e2]
    obtain ⟨a1, a2⟩ := d1 b k1 u k2 hb e1 h9 x hx
    exact ⟨a1, hav (hc b u h1 h2 x hx) a2⟩
  · rw [hagE b] at hx
    obtain ⟨a1, a2⟩ := d2 b x hb hx
    exact ⟨a1, hav (he b x hx) a2⟩
  · obtain ⟨h1, h2⟩ := (hmem b u).mp hu
    rw [hag u h2] at hx
    obtain ⟨a1, a2⟩ := d3 b u w x hb h1 h9 hx hw
    exact ⟨a1, hav (hc b u h1 h2 x (List.of_mem_zip hx).2) a2⟩
  · obtain ⟨h1, h2⟩ := (hmem b u).mp hu
    refine ⟨?_, (hW.1 b u h1).2⟩
    unfold plD
    rw [if_neg (by rw [h2]; decide)]
    exact (hW.1 b u h1).1
  · obtain ⟨h1, h2⟩ := (hmem t u).mp hu
    rw [hag u h2]
    exact hW.2.2.1 t u ht h1 h9
  · show (if u < 140 ∧ D u = true then [] else aAg A u) = _
    rw [if_neg fun q => by rw [hu q.1] at q; cases q.2]
end GOOD
