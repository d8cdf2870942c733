/-! THE LAW: one pass of it -/
theorem bel_nI (x : Int32) {m : Nat} (h0 : 0 < m) (hm : m < 2 ^ 31) : ∃ j, j < m ∧ (x &&& 2147483647) - (x &&& 2147483647) / nI m * nI m = nI j := by
  have hn : ¬ (x &&& 2147483647) < 0 := by
    rw [neg_bt, b_and, show bt 2147483647 31 = false by decide, Bool.and_false]
    decide
  obtain ⟨a, ha, e⟩ := nI_of hn
  refine ⟨a % m, Nat.mod_lt _ h0, ?_⟩
  have hdm := Nat.div_add_mod a m
  have hc := Nat.mul_comm m (a / m)
  rw [e, pk_div ha h0 hm, nI_mul, pk_sub (Nat.div_mul_le_self a m)]
  exact congrArg nI (by omega)
theorem bel_4 (x : Int32) : ∃ j, j < 4 ∧ Law_below_4 x = nI j := bel_nI x (by decide) (by decide)
theorem bel_6 (x : Int32) : ∃ j, j < 6 ∧ Law_below_6 x = nI j := bel_nI x (by decide) (by decide)
theorem bel_m (x : Int32) {m : Nat} (h0 : 0 < m) (hm : m < 2 ^ 31) : ∃ j, j < m ∧ Law_below x (nI m) = some (nI j) := by
  obtain ⟨j, h1, h2⟩ := bel_nI x h0 hm
  refine ⟨j, h1, ?_⟩
  unfold Law_below
  rw [if_neg (nI_ne0 h0 hm), h2]
/-- a script, as the machine has it -/
def scOk (sc : mmC) : Prop := sc.1 = 1999 ∧ sc.2.length < 2 ^ 31 ∧ ∀ (i : Nat) (v : Value), sc.2[i]? = some v → ∃ x, v = .int x
theorem cell_S {sc : mmC} (hs : scOk sc) {k : Nat} (hk : k < 2 ^ 31) : ∃ x, Law_cellv sc (nI k) = some x := by
  obtain ⟨h1, h2, h3⟩ := hs
  unfold Law_cellv
  rw [if_pos ⟨h1, h2, nI_pos hk⟩]
  by_cases q : k < sc.2.length
  · rw [if_pos (nI_lt q h2), nI_clamp hk]
    obtain ⟨x, hx⟩ := h3 k _ (List.getElem?_eq_getElem q)
    rw [List.getElem?_eq_getElem q, hx]
    exact ⟨x, rfl⟩
  · rw [if_neg (nI_nlt (by omega) hk)]
    exact ⟨_, rfl⟩
section LAWTIME
variable {to fl ma tr mk cn nu de ru la tb tf ph : Ob} {cs : Int64} {sc : mmC} {nb nv T : Nat}
theorem isPass_ok {p : Nat} (h1 : 1 ≤ p) (h4 : p ≤ 4) : Ph_isPass (nI p) = true := by
  unfold Ph_isPass
  rw [if_neg (show ¬ nI p < 1 from nI_nlt (a := p) (b := 1) h1 (by omega)), if_neg (show ¬ (4 : Int32) < nI p from nI_nlt (a := 4) (b := p) h4 (by decide))]
theorem walk_cost (hF : FG ma nb nv T) (ht : tidy ma) (ru t : Ob) (x y : Int32) {tr : Bool} {ret : Int32} {m : Me} {c n : Nat} (h : runA (fS ma) x y = some (tr, ret, m, c, n)) : (Runner_walkForm_k ma ru t x y).2.2.1 3 = nI c := by
  have h1 := (walk_spec_k hF ht ru t x y).1
  rw [h] at h1
  exact h1.1.2.2.2.2.2.1
theorem cut_true (hok : tOk to nb) (z : Int32) (h : runT to (Law_below_20 (z >>> (3 &&& 31)) - 5) (Law_below_9 (z >>> (6 &&& 31))) = none) : (Law_isCut to ru la ph cs z).1 = true ∧ (Law_isCut to ru la ph cs z).2.2.2.1.2.2 0 = ph.2.2 0 := by
  unfold Law_isCut Ph_run Ph_run_17 Ph_run_21 Ph_countRun
  generalize Law_below_20 (z >>> (3 &&& 31)) - 5 = x at h
  generalize Law_below_9 (z >>> (6 &&& 31)) = y at h
  have w1 := (walkBlocks_spec (ru := ru) (t := la) hok x y).1
  rw [h] at w1
  obtain ⟨m, c, ⟨-, -, a2, -⟩, -⟩ := w1
  dsimp only
  unfold Law_isCut_23
  rw [if_pos (show (Runner_walkBlocks to ru la x y).2.2.1 0 = 2 from a2)]
  exact ⟨rfl, rfl⟩
theorem law_368 (hF : FG ma nb nv T) (ht : tidy ma) (hok : tOk to nb) (h8 : ∀ b, nl to b ≤ 8) (hph : ph.2.2 0 = true) (hnw : ∀ x y, noWorse (runT to x y) (runA (fS ma) x y)) (v3 v4 v6 v7 : Int32) (k : Nat) (z : Int32) : ∃ tr' cn' nu' de' ru' la' tb' tf' ph' cs', Law_law_368 to fl ma tr mk cn nu de ru la tb tf ph cs sc v3 v4 v6 v7 (nI k) z = .inl (v7, nI (k + 1), ma, tr', cn', nu', de', ru', la', tb', tf', ph', cs') ∧ ph'.2.2 0 = true := by
  obtain ⟨tr', cn', nu', de', ru', la', tb', tf', ph', cs', e, hp⟩ := law_run (tr := tr) (cn := cn) (nu := nu) (de := de) (ru := ru) (la := la) (tb := tb) (tf := tf) (cs := cs) hF ht hok h8 hph hnw z
  refine ⟨tr', cn', nu', de', ru', la', tb', tf', ph', cs', ?_, hp⟩
  unfold Law_law_368
  rw [e, obn_some]
  unfold Law_law_374
  dsimp only
  rw [if_pos rfl, nI_1]
/-- what holds of a form ahead of a pass -/
def LI (to ma ph : Ob) (nb nv T k g : Nat) : Prop := FG ma nb nv T ∧ tidy ma ∧ ma.2.1 5 = nI g ∧ ma.2.1 4 = nI k ∧ g ≤ T ∧ (∀ x y, noWorse (runT to x y) (runA (fS ma) x y)) ∧ ph.2.2 0 = true
theorem time_step (hTI : TI to fl nb) (hs : scOk sc) {k g rd : Nat} (hk : k < 7) (hrd : rd < 3) (h : LI to ma ph nb nv T k g) (hT : T < 1000) (hv6 : T + 6 = nv + cntR fl nb) (h6 : 6 ≤ nv) (v3 : Int32) : ∃ g' ma' tr' cn' nu' de' ru' la' tb' tf' ph' cs', Law_law_L181b to fl ma tr mk cn nu de ru la tb tf ph cs sc v3 (nI rd) (nI nv) (nI g) (nI k) = .inl (nI g', nI (k + 1), ma', tr', cn', nu', de', ru', la', tb', tf', ph', cs') ∧ LI to ma' ph' nb nv T (k + 1) g' := by
  obtain ⟨hF, ht, h5, h4, hgT, hnw, hph⟩ := h
  have hok := hTI.2.2.1
  obtain ⟨z, hz⟩ := cell_S hs (show k + 7 * rd < 2 ^ 31 by omega)
  obtain ⟨p0, hp0, ep0⟩ := bel_4 z
  have ep : (1 : Int32) + Law_below_4 z = nI (1 + p0) := by rw [ep0]; exact nI_add 1 p0
  have hp4 : nI (1 + p0) = 1 ∨ nI (1 + p0) = 2 ∨ nI (1 + p0) = 3 ∨ nI (1 + p0) = 4 := by
    have : p0 = 0 ∨ p0 = 1 ∨ p0 = 2 ∨ p0 = 3 := by omega
    rcases this with rfl | rfl | rfl | rfl
    · exact Or.inl (by decide)
    · exact Or.inr (Or.inl (by decide))
    · exact Or.inr (Or.inr (Or.inl (by decide)))
    · exact Or.inr (Or.inr (Or.inr (by decide)))
  have hpp : Ph_isPass (nI (1 + p0)) = true := isPass_ok (by omega) (by omega)
  unfold Law_law_L181b
  rw [if_pos (show nI k < 7 from nI_lt (a := k) (b := 7) hk (by decide)), show nI k + (7 : Int32) * nI rd = nI (k + 7 * rd) by rw [show (7 : Int32) = nI 7 from rfl, nI_mul, nI_add], hz, obn_some, ep]
  have eg : Ph_wouldGo ma tr cn nu de ph (nI (1 + p0)) = some ((Ph_passOver (Form_take ma tr) cn nu de (nI (1 + p0))).1, (Ph_passOver (Form_take ma tr) cn nu de (nI (1 + p0))).2.1, (Ph_passOver (Form_take ma tr) cn nu de (nI (1 + p0))).2.2.1, (Ph_passOver (Form_take ma tr) cn nu de (nI (1 + p0))).2.2.2.1, (Ph_passOver (Form_take ma tr) cn nu de (nI (1 + p0))).2.2.2.2) := by
    unfold Ph_wouldGo
    rw [if_pos hpp, if_pos hph]
  rw [eg, obn_some]
  have hgo : ∀ cn' nu' de', (Ph_passOver ma cn' nu' de' (nI (1 + p0))).1 = (Ph_passOver (Form_take ma tr) cn nu de (nI (1 + p0))).1 := fun cn' nu' de' => ((passOver_ind (take_alike ma tr) hp4 cn nu de cn' nu' de').1).symm
  generalize Ph_passOver (Form_take ma tr) cn nu de (nI (1 + p0)) = w at hgo
  obtain ⟨would, tr1, cn1, nu1, de1⟩ := w
  dsimp only at hgo ⊢
  unfold Law_law_218
  generalize hx : Law_below_20 (z >>> (3 &&& 31)) - 5 = x
  generalize hy : Law_below_9 (z >>> (6 &&& 31)) = y
  obtain ⟨tr2, cn2, nu2, de2, ru2, tf2, e2⟩ := cost_0 (ma := ma) (tr := tr1) (cn := cn1) (nu := nu1) (de := de1) (ru := ru) (tf := tf) hph x y
  rw [e2, obn_some]
  unfold Law_law_246
  have ep2 : Ph_pass ma cn2 nu2 de2 ph (nI (1 + p0)) = some ((Ph_passOver ma cn2 nu2 de2 (nI (1 + p0))).1, (Ph_passOver ma cn2 nu2 de2 (nI (1 + p0))).2.1, (Ph_passOver ma cn2 nu2 de2 (nI (1 + p0))).2.2.1, (Ph_passOver ma cn2 nu2 de2 (nI (1 + p0))).2.2.2.1, (Ph_passOver ma cn2 nu2 de2 (nI (1 + p0))).2.2.2.2) := by
    unfold Ph_pass
    rw [if_pos hpp, if_pos hph]
  rw [ep2, obn_some]
  have hgo2 := hgo cn2 nu2 de2
  obtain ⟨d, hd, q1, q2, q3, q4, q5, q6, q7, q8⟩ := pass_go hF ht h5 hT hgT cn2 nu2 de2 hp4
  rw [hd] at hgo2
  generalize Ph_passOver ma cn2 nu2 de2 (nI (1 + p0)) = w2 at hd q1 q2 q3 q4 q5 q6 q7 q8
  obtain ⟨done, ma1, cn3, nu3, de3⟩ := w2
  dsimp only at hd q1 q2 q3 q4 q5 q6 q7 q8 ⊢
  subst hd
  have q6' : ma1.2.1 4 = nI (k + 1) := by rw [q6, h4, nI_1]
  have hnw1 : ∀ x y, noWorse (runT to x y) (runA (fS ma1) x y) := fun x y => (hnw x y).trans (q3 x y)
  unfold Law_law_254
  obtain ⟨s1, s2⟩ := many_57 q1 hT q4 (by omega)
  have hcl := cntR_le fl nb
  rw [if_pos hgo2, ← hgo2, if_neg (nI_pos (by omega)), many_10 hph, obn_some, q4, nI_add, if_pos rfl, many_9 hph, obn_some, q6', nI_1, if_pos rfl, many_5 q1.1 q2 hph, obn_some, many_7 q1.1 hph, obn_some, many_1 hTI.1, obn_some, s1, show nI nv - 6 = nI (nv - 6) from pk_sub (b := 6) h6, nI_add, pk_sub (show g + d ≤ nv - 6 + cntR fl nb by omega), if_pos (congrArg nI (by omega))]
  obtain ⟨tr4, cn4, nu4, de4, ru4, tf4, e4⟩ := cost_0 (ma := ma1) (tr := tr2) (cn := cn3) (nu := nu3) (de := de3) (ru := ru2) (tf := tf2) hph x y
  rw [hx, hy, e4, obn_some]
  dsimp only
  unfold Law_law_352
  have fin : ∀ (ru' la' ph' : Ob) (cs' : Int64), ph'.2.2 0 = true → ∃ g' ma' tr' cn' nu' de' ru'' la'' tb' tf' ph'' cs'', Law_law_368 to fl ma1 tr4 mk cn4 nu4 de4 ru' la' tb tf4 ph' cs' sc v3 (nI rd) (nI nv) (nI (g + d)) (nI k) z = .inl (nI g', nI (k + 1), ma', tr', cn', nu', de', ru'', la'', tb', tf', ph'', cs'') ∧ LI to ma' ph'' nb nv T (k + 1) g' := fun ru' la' ph' cs' hp' => by
    obtain ⟨tr', cn', nu', de', ru'', la'', tb', tf', ph'', cs'', e, hp⟩ := law_368 (to := to) (fl := fl) (tr := tr4) (mk := mk) (cn := cn4) (nu := nu4) (de := de4) (ru := ru') (la := la') (tb := tb) (tf := tf4) (cs := cs') (sc := sc) q1 q2 hok hTI.h8 hp' hnw1 v3 (nI rd) (nI nv) (nI (g + d)) k z
    exact ⟨g + d, ma1, tr', cn', nu', de', ru'', la'', tb', tf', ph'', cs'', e, q1, q2, q4, q6', q5, hnw1, hp⟩
  by_cases hlt : (Runner_walkForm_k ma ru tf x y).2.2.1 3 < (Runner_walkForm_k ma1 ru2 tf2 x y).2.2.1 3
  · rw [if_pos hlt]
    cases hr : runT to x y with
    | none =>
      obtain ⟨c1, c2⟩ := cut_true (ru := ru4) (la := la) (ph := ph) (cs := cs) hok z (by rw [hx, hy]; exact hr)
      unfold Law_law_363
      rw [if_pos c1]
      exact fin _ _ _ _ (by rw [c2]; exact hph)
    | some r =>
      obtain ⟨trp, ret, m, c, n⟩ := r
      have a1 := hnw x y
      rw [hr] at a1
      obtain ⟨c1, n1, b1, b2, b3⟩ := a1
      have a2 := q3 x y
      rw [b3] at a2
      obtain ⟨c2, n2, d1, d2, d3⟩ := a2
      have hc := (runT_facts hTI.h8 hr).2.1
      rw [walk_cost hF ht ru tf x y b3, walk_cost q1 q2 ru2 tf2 x y d3] at hlt
      exact absurd hlt (nI_nlt d1 (by omega))
  · rw [if_neg hlt]
    exact fin _ _ _ _ hph
end LAWTIME
