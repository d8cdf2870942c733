section MADE3
variable {A : AF} {pl : Pl} {C : Nat → Prop} {to : Ob} {idm : Nat → Nat} {PH : Nat → Nat → Bool} {ph ln : Nat → Nat → Nat} {hL : Nat → Nat → Nat → Ag} {wn jn : Nat → Nat → Prop}
/-- what is held behind a way -/
theorem VR_way (hh : MKh to idm PH ph ln hL C) (hl : MKl A pl to PH ph ln C) (ha : MKa A to PH ph ln hL C) (he : MKe A to C) (hi : idmOk (aE A C) idm) (hw : MKw A to PH C wn jn) {b t j : Nat} {V H : Hd} (hb : C b) (hj : j < aEk A b) (ht : aTg A (b * 2 + j) = some t) (hV : VR to hL wn b (nl to b) V H) : VR to hL wn t 0 V (phA A t (edI A t (b * 2 + j)) H) := by
  obtain ⟨e1, e2, e3, e4, e5, e6, e7⟩ := id he
  have hE : aE A C b t := ⟨hb, j, hj, ht⟩
  have hbr := (e7 b).mp hb
  have htr : RW (aE A C) none t := RW_step hbr hE (by simp)
  have htC := (e7 t).mpr htr
  have hj2 : j < 2 := by have := e1 b hb; omega
  have hm : b * 2 + j ∈ aEd A t := (e4 _ t).mpr ht
  have ht0 : t ≠ 0 := fun e => by rw [e, e6] at hm; cases hm
  intro x hx hq
  have hwn : wn t x := hq.resolve_right fun ⟨i, hi', _⟩ => by omega
  have hex : V x = evA H (hL b (nl to b) x) := hV x hx ((hw.2.2.2.2.1 b t x hE hx hwn).imp id fun h => h)
  rw [hh.1 t x htC hx]
  by_cases hp : PH t x = true
  · rw [if_pos hp]
    have hmem : ph t x ∈ aLs A t := by
      rw [hl.1 t htC]
      exact List.mem_append_left _ (List.mem_map.mpr ⟨x, List.mem_filter.mpr ⟨List.mem_range.mpr hx, hp⟩, rfl⟩)
    show V x = phA A t (edI A t (b * 2 + j)) H (ph t x)
    unfold phA
    rw [if_pos ⟨hmem, hl.2.2.2.2.1 t x htC hx hp⟩, hex]
    obtain ⟨k, hk⟩ := edI_mem hm
    rw [hk]
    show _ = evK A H (ph t x) k
    unfold evK
    rw [ha.2.2 t x htC hx hp, List.getElem?_map, edI_some hk]
    show _ = evA H (hL ((b * 2 + j) / 2) (nl to ((b * 2 + j) / 2)) x)
    rw [show (b * 2 + j) / 2 = b by omega]
  · rw [if_neg hp, if_neg ht0, hex]
    have hjn : ¬ jn x t := fun q => hp ((hw.2.2.2.2.2.1 t x htC hx).mpr ⟨q, hwn⟩)
    have hsame : hL b (nl to b) x = hL (idm t) (nl to (idm t)) x := hold_same (E := aE A C) (idm := idm) hi hbr hE htr ht0 (src := fun d => d = 0 ∨ ∃ j, j < nl to d ∧ setsL to d j x) (jn := jn x) (Or.inl rfl) (fun d o c q1 q2 q3 q4 => hw.2.2.2.2.2.2 x d o c hx q1 q2 q3 q4) (hE := fun d => hL d (nl to d) x) (fun d hd hd0 n1 n2 => by
      have hdC := (e7 d).mpr hd
      have hnp : ¬ PH d x = true := fun q => n2 ((hw.2.2.2.2.2.1 d x hdC hx).mp q).1
      have key : ∀ k, k ≤ nl to d → hL d k x = hL (idm d) (nl to (idm d)) x := fun k => by
        induction k with
        | zero =>
          intro _
          rw [hh.1 d x hdC hx, if_neg hnp, if_neg hd0]
        | succ k ih =>
          intro hk
          have hns : ¬ setsL to d k x := fun q => n1 (Or.inr ⟨k, by omega, q⟩)
          rw [hh.2 d k x hdC (by omega) hx]
          by_cases h0 : lk to d k = 0
          · rw [if_pos h0, if_neg fun e => hns ⟨by omega, e.symm⟩]
            exact ih (by omega)
          · rw [if_neg h0, if_neg fun e => hns ⟨e.1, e.2.symm⟩]
            exact ih (by omega)
      exact key _ (Nat.le_refl _)) hjn
    rw [hsame]
    cases hv : hL (idm t) (nl to (idm t)) x with
    | inr n => rfl
    | inl v =>
      obtain ⟨i1, i2, -⟩ := hi t htr ht0
      have hiC := (e7 _).mpr (Dm_left i1)
      obtain ⟨-, q2⟩ := held_av hh hl he hi hw hiC (nl to (idm t)) (Nat.le_refl _) x hx v hv
      show H v = phA A t (edI A t (b * 2 + j)) H v
      refine (phA_out fun q => ?_).symm
      exfalso
      have hpt := (hl.2.2.1 t v htC).mp q
      rcases q2 with z | ⟨z, -⟩ | ⟨p, z1, z2, z3⟩
      · have := (hl.2.2.2.1 v t hpt).1
        omega
      · exact i2 (Option.some.inj (z.symm.trans hpt))
      · have e : p = t := Option.some.inj (z1.symm.trans hpt)
        rw [e] at z3
        exact i2 (Dm_anti i1 ⟨Dm_left i1, z3⟩)
theorem ru_made (hh : MKh to idm PH ph ln hL C) (hl : MKl A pl to PH ph ln C) (ha : MKa A to PH ph ln hL C) (he : MKe A to C) (hi : idmOk (aE A C) idm) (hw : MKw A to PH C wn jn) : ∀ (d b : Nat) (e : Option Nat) (V H : Hd) (m : Me) (c n : Nat), C b → VR to hL wn b 0 V (phA A b e H) → ruA A d b e H m c n = ruT to d b V m c n := by
  obtain ⟨e1, e2, e3, e4, e5, e6, e7⟩ := id he
  have lines : ∀ b V H m c, C b → VR to hL wn b 0 V H → (vaA A (aLs A b) H m c).2 = (lnT to b (tLn to b) V m c).2 ∧ ((lnT to b (tLn to b) V m c).2.2.2 = false → VR to hL wn b (nl to b) (lnT to b (tLn to b) V m c).1 (vaA A (aLs A b) H m c).1) := fun b V H m c hb hV => by
    have h1 : tLn to b = List.range' 0 (nl to b) := List.range_eq_range'
    have h2 : aLs A b = phF PH ph b ++ lnF to b ln (List.range' 0 (nl to b)) := by rw [hl.1 b hb, List.range_eq_range']
    rw [h1, h2, va_phis A (phF PH ph b)]
    · exact va_lines hh hl ha he hi hw hb (nl to b) 0 V H m c (by omega) hV
    · intro v hv
      obtain ⟨x, hx, e'⟩ := List.mem_map.mp hv
      have := List.mem_filter.mp hx
      rw [← e']
      exact hl.2.2.2.2.1 b x hb (List.mem_range.mp this.1) this.2
  intro d
  induction d with
  | zero =>
    intro b e V H m c n hb hV
    obtain ⟨g1, g2⟩ := lines b V _ m c hb hV
    unfold ruA ruT
    rw [g1]
  | succ d ih =>
    intro b e V H m c n hb hV
    obtain ⟨g1, g2⟩ := lines b V _ m c hb hV
    unfold ruA ruT
    rw [g1]
    by_cases ht : (lnT to b (tLn to b) V m c).2.2.2 = true
    · rw [if_pos ht, if_pos ht]
    · rw [if_neg ht, if_neg ht]
      have hV2 := g2 (bool_f ht)
      generalize (lnT to b (tLn to b) V m c).1 = V2 at hV2
      generalize (vaA A (aLs A b) (phA A b e H) m c).1 = H2 at hV2
      have hop : tEk to b ≠ 1 → evK A H2 (140 + b) 0 = opT V2 (to.1 6 b) := fun hn1 => by
        rw [op_VR hV2 (hw.2.1 b hb) fun x hx e' h => hw.2.2.2.1 b x hb hx e' h]
        unfold evK
        rw [ha.2.1 b hb, if_neg hn1]
        rfl
      rw [(e1 b hb).1]
      by_cases h0 : tEk to b = 0
      · rw [if_pos h0, if_pos h0, hop (by omega)]
      · rw [if_neg h0, if_neg h0]
        have hway : wyN (tEk to b) (evK A H2 (140 + b) 0) = wyN (tEk to b) (opT V2 (to.1 6 b)) := by
          by_cases h1 : tEk to b = 1
          · rw [h1, wyN_1, wyN_1]
          · rw [hop h1]
        rw [hway]
        have hlt : wyN (tEk to b) (opT V2 (to.1 6 b)) < tEk to b := by
          have := (e1 b hb).2
          unfold wyN
          split
          · rename_i z; omega
          · omega
        have htg := e2 b _ hb hlt
        rw [htg]
        dsimp only
        have hE : aE A C b (tn (to.1 7 (b * 2 + wyN (tEk to b) (opT V2 (to.1 6 b))))) := ⟨hb, _, by rw [(e1 b hb).1]; exact hlt, htg⟩
        refine ih _ _ V2 H2 _ _ _ ((e7 _).mpr (RW_step ((e7 b).mp hb) hE (by simp))) ?_
        exact VR_way hh hl ha he hi hw hb (by rw [(e1 b hb).1]; exact hlt) htg hV2
theorem run_made (hh : MKh to idm PH ph ln hL C) (hl : MKl A pl to PH ph ln C) (ha : MKa A to PH ph ln hL C) (he : MKe A to C) (hi : idmOk (aE A C) idm) (hw : MKw A to PH C wn jn) (x y : Int32) : runA A x y = runT to x y := by
  have hC0 : C 0 := (he.2.2.2.2.2.2 0).mpr (RW_base (by simp))
  refine ru_made hh hl ha he hi hw 300 0 none _ _ _ _ _ hC0 fun z hz _ => ?_
  rw [hh.1 0 z hC0 hz, hl.2.2.2.2.2.2 z, if_neg (by decide), if_pos rfl]
  show H0 x y z = phA A 0 none (H0 x y) z
  refine (phA_out fun q h9 => ?_).symm
  have := (hl.2.2.2.1 z 0 ((hl.2.2.1 0 z hC0).mp q)).1
  omega
end MADE3
