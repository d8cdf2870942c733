/-! THE PASS 2, in rows -/
section NUMP
variable {f : Ob} {nb nv T : Nat}
theorem still_iff {o : Nat} {k p : Int32} (ho : o < 140) : Numbers_isStill f (nI o) k p = true ↔ f.1 0 o = k ∧ f.1 1 o = p := by
  unfold Numbers_isStill Numbers_isStill_28
  rw [oat_rs ho (by decide), oat_rs ho (by decide)]
  by_cases q1 : f.1 0 o = k
  · rw [if_pos q1]
    by_cases q2 : f.1 1 o = p
    · rw [if_pos q2]; exact ⟨fun _ => ⟨q1, q2⟩, fun _ => rfl⟩
    · rw [if_neg q2]; exact ⟨(fun z => by cases z), fun z => absurd z.2 q2⟩
  · rw [if_neg q1]; exact ⟨(fun z => by cases z), fun z => absurd z.1 q1⟩
theorem twinPhi_spec {b k v : Nat} (hb : b < 10) (hk : k < 140) (hent : ∀ i, i < k → ∃ o, o < 140 ∧ f.1 8 (b * 140 + i) = nI o) (hv : f.1 8 (b * 140 + k) = nI v) : Numbers_twinOfPhi f (nI b) (nI k) = -1 ∨ ∃ i o, i < k ∧ o < 140 ∧ f.1 8 (b * 140 + i) = nI o ∧ f.1 0 o = 9 ∧ f.1 1 o = nI b ∧ Form_hasSameArguments f (nI v) (nI o) = true ∧ Numbers_twinOfPhi f (nI b) (nI k) = nI o := by
  unfold Numbers_twinOfPhi Numbers_twinOfPhi_L10
  rw [valueIn_eq (show b * 140 + k < 1400 by omega), hv]
  refine loop_brk (B := fun a : Int32 => Numbers_twinOfPhi_L10b f (nI b) (nI k) (nI v) a) (mk := fun i (_ : Unit) => nI i) (n := k) (I := fun _ _ => True) (P := fun r => r = -1 ∨ ∃ i o, i < k ∧ o < 140 ∧ f.1 8 (b * 140 + i) = nI o ∧ f.1 0 o = 9 ∧ f.1 1 o = nI b ∧ Form_hasSameArguments f (nI v) (nI o) = true ∧ r = nI o) (fun i s hi _ => ?_) (fun s _ => ⟨-1, ?_, Or.inl rfl⟩) k 0 () (by omega) trivial
  · obtain ⟨o, ho, eo⟩ := hent i hi
    have hB : Numbers_twinOfPhi_L10b f (nI b) (nI k) (nI v) (nI i) = if Numbers_isStill f (nI o) 9 (nI b) = true then (if Form_hasSameArguments f (nI v) (nI o) = true then .inr (nI o) else .inl (nI (i + 1))) else .inl (nI (i + 1)) := by
      unfold Numbers_twinOfPhi_L10b Numbers_twinOfPhi_50
      rw [if_pos (show nI i < nI k from nI_lt hi (by omega)), valueIn_eq (show b * 140 + i < 1400 by omega), eo, nI_1]
    rw [hB]
    by_cases q1 : Numbers_isStill f (nI o) 9 (nI b) = true
    · rw [if_pos q1]
      by_cases q2 : Form_hasSameArguments f (nI v) (nI o) = true
      · rw [if_pos q2]
        obtain ⟨y1, y2⟩ := (still_iff ho).mp q1
        exact Or.inr ⟨nI o, rfl, Or.inr ⟨i, o, hi, ho, eo, y1, y2, q2, rfl⟩⟩
      · rw [if_neg q2]; exact Or.inl ⟨(), rfl, trivial⟩
    · rw [if_neg q1]; exact Or.inl ⟨(), rfl, trivial⟩
  · show Numbers_twinOfPhi_L10b f (nI b) (nI k) (nI v) (nI k) = _
    unfold Numbers_twinOfPhi_L10b
    rw [if_neg (show ¬ nI k < nI k from nI_nlt (Nat.le_refl _) (by omega))]
def twinR (f nu : Ob) (b k v : Nat) (r : Int32) : Prop := r = -1 ∨ ∃ c i o, (∃ s, s ≤ 140 ∧ f.1 7 c = nI s ∧ i < s) ∧ c < 10 ∧ o < 140 ∧ bt (nu.1 2 b) c = true ∧ f.1 8 (c * 140 + i) = nI o ∧ (c = b → i < k) ∧ f.1 0 o = f.1 0 v ∧ f.1 1 o = nI c ∧ (Form_hasSameArguments f (nI v) (nI o) = true ∨ ((f.1 0 v = 1 ∨ f.1 0 v = 3) ∧ Form_hasCrossedArguments f (nI v) (nI o) = true)) ∧ r = nI o
theorem twinReck_spec {nu : Ob} {b k v : Nat} (hb : b < 10) (hk : k < 140) (hv140 : v < 140) (hent : ∀ c, c < 10 → ∃ s, s ≤ 140 ∧ f.1 7 c = nI s ∧ ∀ i, i < s → ∃ o, o < 140 ∧ f.1 8 (c * 140 + i) = nI o) (hkb : ∀ s, s ≤ 140 → f.1 7 b = nI s → k < s) (hv : f.1 8 (b * 140 + k) = nI v) (hord : ∀ p, p < 10 → nu.1 3 p = -1 ∨ ∃ c, c < 10 ∧ nu.1 3 p = nI c) : twinR f nu b k v (Numbers_twinOfReckoning f nu (nI b) (nI k)) := by
  have main : ∀ v6 : Int32, (v6 ≠ 0 → f.1 0 v = 1 ∨ f.1 0 v = 3) → twinR f nu b k v (Numbers_twinOfReckoning_L41 f nu (nI b) (nI k) (nI v) (f.1 0 v) v6 0) := by
    intro v6 h6
    unfold Numbers_twinOfReckoning_L41
    refine loop_brk (B := fun a : Int32 => Numbers_twinOfReckoning_L41b f nu (nI b) (nI k) (nI v) (f.1 0 v) v6 a) (mk := fun i (_ : Unit) => nI i) (n := 10) (I := fun _ _ => True) (P := twinR f nu b k v) (fun p s hp _ => ?_) (fun s _ => ⟨-1, ?_, Or.inl rfl⟩) 10 0 () rfl trivial
    · have hB : Numbers_twinOfReckoning_L41b f nu (nI b) (nI k) (nI v) (f.1 0 v) v6 (nI p) = if Ph_has (nu.1 2 b) (nu.1 3 p) = true then (if nu.1 3 p = nI b then Numbers_twinOfReckoning_104 f nu (nI b) (nI k) (nI v) (f.1 0 v) v6 (nI p) (nu.1 3 p) (nI k) else Numbers_twinOfReckoning_104 f nu (nI b) (nI k) (nI v) (f.1 0 v) v6 (nI p) (nu.1 3 p) (oat f 7 10 (nu.1 3 p))) else Numbers_twinOfReckoning_104 f nu (nI b) (nI k) (nI v) (f.1 0 v) v6 (nI p) (nu.1 3 p) 0 := by
        unfold Numbers_twinOfReckoning_L41b
        rw [if_pos (lt10 hp), oat_rs hb (by decide), oat_rs hp (by decide)]
      -- one block
      have inner : ∀ (c cn : Nat), nu.1 3 p = nI c → c < 10 → cn ≤ 140 → (∀ i, i < cn → ∃ o, o < 140 ∧ f.1 8 (c * 140 + i) = nI o) → (0 < cn → bt (nu.1 2 b) c = true ∧ (c = b → cn ≤ k)) → (∃ s, s ≤ 140 ∧ f.1 7 c = nI s ∧ cn ≤ s) → (fun r : Int32 ⊕ Int32 => (r = .inl (nI (p + 1))) ∨ ∃ w, r = .inr w ∧ twinR f nu b k v w) (Numbers_twinOfReckoning_104 f nu (nI b) (nI k) (nI v) (f.1 0 v) v6 (nI p) (nu.1 3 p) (nI cn)) := by
        intro c cn hc hc10 hcn hin hbit hsz
        obtain ⟨sz, sz1, sz2, sz3⟩ := hsz
        unfold Numbers_twinOfReckoning_104 Numbers_twinOfReckoning_L109
        rw [hc]
        refine loop_brk (B := fun a : Int32 => Numbers_twinOfReckoning_L109b f nu (nI b) (nI k) (nI v) (f.1 0 v) v6 (nI p) (nI c) (nI cn) a) (mk := fun i (_ : Unit) => nI i) (n := cn) (I := fun _ _ => True) (P := fun r : Int32 ⊕ Int32 => (r = .inl (nI (p + 1))) ∨ ∃ w, r = .inr w ∧ twinR f nu b k v w) (fun i s hi _ => ?_) (fun s _ => ⟨.inl (nI (p + 1)), ?_, Or.inl rfl⟩) cn 0 () (by omega) trivial
        · obtain ⟨o, ho, eo⟩ := hin i hi
          obtain ⟨y1, y2⟩ := hbit (by omega)
          have hB2 : Numbers_twinOfReckoning_L109b f nu (nI b) (nI k) (nI v) (f.1 0 v) v6 (nI p) (nI c) (nI cn) (nI i) = if Numbers_isStill f (nI o) (f.1 0 v) (nI c) = true then (if Form_hasSameArguments f (nI v) (nI o) = true then .inr (.inr (nI o)) else (if v6 = 0 then .inl (nI (i + 1)) else (if Form_hasCrossedArguments f (nI v) (nI o) = true then .inr (.inr (nI o)) else .inl (nI (i + 1))))) else .inl (nI (i + 1)) := by
            unfold Numbers_twinOfReckoning_L109b Numbers_twinOfReckoning_166 Numbers_twinOfReckoning_169
            rw [if_pos (show nI i < nI cn from nI_lt hi (by omega)), valueIn_eq (show c * 140 + i < 1400 by omega), eo, nI_1]
          rw [hB2]
          by_cases q1 : Numbers_isStill f (nI o) (f.1 0 v) (nI c) = true
          · rw [if_pos q1]
            obtain ⟨z1, z2⟩ := (still_iff ho).mp q1
            by_cases q2 : Form_hasSameArguments f (nI v) (nI o) = true
            · rw [if_pos q2]
              exact Or.inr ⟨.inr (nI o), rfl, Or.inr ⟨_, rfl, Or.inr ⟨c, i, o, ⟨sz, sz1, sz2, by omega⟩, hc10, ho, y1, eo, fun e => by have := y2 e; omega, z1, z2, Or.inl q2, rfl⟩⟩⟩
            · rw [if_neg q2]
              by_cases q3 : v6 = 0
              · rw [if_pos q3]; exact Or.inl ⟨(), rfl, trivial⟩
              · rw [if_neg q3]
                by_cases q4 : Form_hasCrossedArguments f (nI v) (nI o) = true
                · rw [if_pos q4]
                  exact Or.inr ⟨.inr (nI o), rfl, Or.inr ⟨_, rfl, Or.inr ⟨c, i, o, ⟨sz, sz1, sz2, by omega⟩, hc10, ho, y1, eo, fun e => by have := y2 e; omega, z1, z2, Or.inr ⟨h6 q3, q4⟩, rfl⟩⟩⟩
                · rw [if_neg q4]; exact Or.inl ⟨(), rfl, trivial⟩
          · rw [if_neg q1]; exact Or.inl ⟨(), rfl, trivial⟩
        · show Numbers_twinOfReckoning_L109b f nu (nI b) (nI k) (nI v) (f.1 0 v) v6 (nI p) (nI c) (nI cn) (nI cn) = _
          unfold Numbers_twinOfReckoning_L109b
          rw [if_neg (show ¬ nI cn < nI cn from nI_nlt (Nat.le_refl _) (by omega)), nI_1]
      have inner0 : ∀ x : Int32, Numbers_twinOfReckoning_104 f nu (nI b) (nI k) (nI v) (f.1 0 v) v6 (nI p) x 0 = .inl (nI (p + 1)) := fun x => by
        unfold Numbers_twinOfReckoning_104 Numbers_twinOfReckoning_L109
        rw [loopW_eq]
        unfold Numbers_twinOfReckoning_L109b
        rw [if_neg (show ¬ (0 : Int32) < 0 by decide), nI_1]
      have toP : ∀ r : Int32 ⊕ Int32, ((r = .inl (nI (p + 1))) ∨ ∃ w, r = .inr w ∧ twinR f nu b k v w) → (∃ s', r = .inl (nI (p + 1)) ∧ True) ∨ ∃ w, r = .inr w ∧ twinR f nu b k v w := fun r q => q.imp (fun e => ⟨(), e, trivial⟩) id
      rw [hB]
      rcases hord p hp with e | ⟨c, hc, e⟩
      · rw [e, has_m1, if_neg (by decide)]
        exact Or.inl ⟨(), by rw [inner0], trivial⟩
      · by_cases q1 : Ph_has (nu.1 2 b) (nu.1 3 p) = true
        · rw [if_pos q1]
          have hbit : bt (nu.1 2 b) c = true := by rw [e, has_nI (by omega)] at q1; exact q1
          obtain ⟨s', hs', hs7, hin⟩ := hent c hc
          by_cases q2 : nu.1 3 p = nI b
          · rw [if_pos q2]
            have hcb : c = b := nI_inj (by omega) (by omega) (e.symm.trans q2)
            have hks := hkb s' hs' (by rw [← hcb]; exact hs7)
            exact (inner c k e hc (by omega) (fun i hi => hin i (by omega)) (fun _ => ⟨hbit, fun _ => Nat.le_refl _⟩) ⟨s', hs', hs7, by omega⟩).imp (fun z => ⟨(), z, trivial⟩) id
          · rw [if_neg q2]
            have e7 : oat f 7 10 (nu.1 3 p) = nI s' := by rw [e, oat_rs hc (by decide), hs7]
            rw [e7]
            exact (inner c s' e hc hs' hin (fun _ => ⟨hbit, fun z => absurd (by rw [e, z]) q2⟩) ⟨s', hs', hs7, Nat.le_refl _⟩).imp (fun z => ⟨(), z, trivial⟩) id
        · rw [if_neg q1]
          exact Or.inl ⟨(), by rw [inner0], trivial⟩
    · show Numbers_twinOfReckoning_L41b f nu (nI b) (nI k) (nI v) (f.1 0 v) v6 (nI 10) = _
      unfold Numbers_twinOfReckoning_L41b
      rw [if_neg nlt10]
  unfold Numbers_twinOfReckoning Numbers_twinOfReckoning_31 Numbers_twinOfReckoning_36
  rw [valueIn_eq (show b * 140 + k < 1400 by omega), hv, oat_rs hv140 (by decide)]
  by_cases q1 : f.1 0 v = 1
  · rw [if_pos q1]
    exact main 1 fun _ => Or.inl q1
  · rw [if_neg q1]
    by_cases q3 : f.1 0 v = 3
    · rw [if_pos q3]
      exact main 1 fun _ => Or.inr q3
    · rw [if_neg q3]
      exact main 0 fun z => absurd rfl z
/-- a replacement that is allowed -/
theorem repl_FG (hF : FG f nb nv T) {v : Nat} {x y : Int32} (hv : v < nv) (hp : f.1 1 v ≠ -1) (hx : x = -1 ∨ ∃ w, w < nv ∧ w ≠ v ∧ x = nI w) (hg : gd (aRep (fS f) v (agOf x y)) (plR (fP f) v) (fC f)) (hn : ∀ a b, noWorse (runA (fS f) a b) (runA (aRep (fS f) v (agOf x y)) a b)) : FG (Form_replace f (nI v) x y) nb nv T ∧ nwF f (Form_replace f (nI v) x y) ∧ stay f (Form_replace f (nI v) x y) ∧ ∀ w, (Form_replace f (nI v) x y).1 1 w = if w = v then -1 else f.1 1 w := by
  obtain ⟨h1, h2, h3, h4⟩ := hF
  have hv6 : 6 ≤ v := Nat.le_of_not_lt fun q => hp (((h1.2.2.1 v hv).2.2) q).1
  obtain ⟨r1, r2, r3, r4, r5, r6⟩ := replace_CI (y := y) h1 hv hv6 hp hx
  have hCC : fC (Form_replace f (nI v) x y) = fC f := fC_congr (r4.2.1 1 (by decide))
  have hnv := h1.1.2.2.2.2.2
  exact ⟨⟨r1, by rw [r2, r3, hCC]; exact rep_G h2 hg, by rw [r2, hCC]; exact EA_rep h3 (by omega) _, r6 T h4⟩, fun a b => by rw [r2]; exact hn a b, r4, r5⟩
theorem filter_at {r : List Nat} {p : Nat → Bool} {i k o v : Nat} (hi : i < k) (ho : r[i]? = some o) (hv : r[k]? = some v) (po : p o = true) (pv : p v = true) : ∃ l1 l2, r.filter p = l1 ++ v :: l2 ∧ o ∈ l1 := by
  obtain ⟨l1, l2, e, h⟩ := at_split r k v hv
  refine ⟨l1.filter p, l2.filter p, ?_, List.mem_filter.mpr ⟨h i o hi ho, po⟩⟩
  rw [e, List.filter_append, List.filter_cons_of_pos pv]
end NUMP
