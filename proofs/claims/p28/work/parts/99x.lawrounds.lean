/-! THE LAW: seven passes, three rounds -/
section LAWROUNDS
variable {to fl ma tr mk cn nu de ru la tb tf ph : Ob} {cs : Int64} {sc : mmC} {nb nv T : Nat}
def rowA (ma : Ob) : Prop := ∀ u, u < 150 → ∃ a, a < 291 ∧ ma.1 4 u = nI a
theorem FG.rowA (h : FG ma nb nv T) : rowA ma := fun u hu => by
  obtain ⟨c, a, -, -, h1, h2, -⟩ := h.1.2.1.1 u hu
  exact ⟨a, h2, h1⟩
theorem law_181 (hTI : TI to fl nb) (hs : scOk sc) {rd : Nat} (hrd : rd < 3) (h : LI to ma ph nb nv T 0 0) (hT : T < 1000) (hv6 : T + 6 = nv + cntR fl nb) (h6 : 6 ≤ nv) : ∃ ma' tr' cn' nu' de' ru' la' tb' tf' ph' cs', Law_law_L181 to fl ma tr mk cn nu de ru la tb tf ph cs sc (nI nb) (nI rd) (nI nv) 0 0 = .inl (nI (rd + 1), to, fl, ma', tr', mk, cn', nu', de', ru', la', tb', tf', ph', cs') ∧ rowA ma' := by
  unfold Law_law_L181
  refine loop_cnt (B := fun a : Int32 × Int32 × Ob × Ob × Ob × Ob × Ob × Ob × Ob × Ob × Ob × Ob × Int64 => Law_law_L181b to fl a.2.2.1 a.2.2.2.1 mk a.2.2.2.2.1 a.2.2.2.2.2.1 a.2.2.2.2.2.2.1 a.2.2.2.2.2.2.2.1 a.2.2.2.2.2.2.2.2.1 a.2.2.2.2.2.2.2.2.2.1 a.2.2.2.2.2.2.2.2.2.2.1 a.2.2.2.2.2.2.2.2.2.2.2.1 a.2.2.2.2.2.2.2.2.2.2.2.2 sc (nI nb) (nI rd) (nI nv) a.1 a.2.1)
    (mk := fun i (z : Int32 × Ob × Ob × Ob × Ob × Ob × Ob × Ob × Ob × Ob × Ob × Int64) => (z.1, nI i, z.2)) (n := 7)
    (I := fun k z => ∃ g, z.1 = nI g ∧ LI to z.2.1 z.2.2.2.2.2.2.2.2.2.2.1 nb nv T k g)
    (P := fun r => ∃ ma' tr' cn' nu' de' ru' la' tb' tf' ph' cs', r = .inl (nI (rd + 1), to, fl, ma', tr', mk, cn', nu', de', ru', la', tb', tf', ph', cs') ∧ rowA ma')
    (fun k z hk hz => ?_) (fun z hz => ?_) 7 0 (0, ma, tr, cn, nu, de, ru, la, tb, tf, ph, cs) rfl ⟨0, rfl, h⟩
  · obtain ⟨v, ma, tr, cn, nu, de, ru, la, tb, tf, ph, cs⟩ := z
    obtain ⟨g, e, hz⟩ := hz
    have e : v = nI g := e
    subst e
    obtain ⟨g', ma', tr', cn', nu', de', ru', la', tb', tf', ph', cs', e, hz'⟩ := time_step (tr := tr) (mk := mk) (cn := cn) (nu := nu) (de := de) (ru := ru) (la := la) (tb := tb) (tf := tf) (cs := cs) hTI hs hk hrd hz hT hv6 h6 (nI nb)
    exact ⟨(nI g', ma', tr', cn', nu', de', ru', la', tb', tf', ph', cs'), e, g', rfl, hz'⟩
  · obtain ⟨v, ma, tr, cn, nu, de, ru, la, tb, tf, ph, cs⟩ := z
    obtain ⟨g, e, hz⟩ := hz
    obtain ⟨hF, ht, -, -, -, -, hph⟩ := hz
    have hF : FG ma nb nv T := hF
    have ht : tidy ma := ht
    have hph : ph.2.2 0 = true := hph
    obtain ⟨r, er⟩ := law_formed (to := to) (fl := fl) (tr := tr) (cn := cn) (nu := nu) (de := de) (ru := ru) (la := la) (tf := tf) hTI.1.1 hph hF ht
    refine ⟨.inl (nI (rd + 1), to, fl, ma, r.1, mk, r.2.1, r.2.2.1, r.2.2.2.1, r.2.2.2.2.1, la, tb, r.2.2.2.2.2, ph, cs), ?_, ma, r.1, r.2.1, r.2.2.1, r.2.2.2.1, r.2.2.2.2.1, la, tb, r.2.2.2.2.2, ph, cs, rfl, hF.rowA⟩
    show Law_law_L181b to fl ma tr mk cn nu de ru la tb tf ph cs sc (nI nb) (nI rd) (nI nv) v (nI 7) = _
    unfold Law_law_L181b
    rw [if_neg (show ¬ nI 7 < 7 by decide), er, obn_some]
    unfold Law_law_390
    dsimp only
    rw [if_pos rfl, nI_1]
theorem made_more (hTI : TI to fl nb) (h4 : rowA ma) (m : Ob) : ∃ nv T, FG (Maker_make to fl ma m).1 nb nv T ∧ tidy (Maker_make to fl ma m).1 ∧ (∀ x y, runA (fS (Maker_make to fl ma m).1) x y = runT to x y) ∧ (Maker_make to fl ma m).1.2.1 4 = 0 ∧ (Maker_make to fl ma m).1.2.1 5 = 0 ∧ thc (Maker_make to fl ma m).1 = cntR fl nb ∧ T + 6 = nv + cntR fl nb ∧ 6 ≤ nv ∧ T < 1000 := by
  obtain ⟨mk0, g0, gv, F, nv, h, -, hpl⟩ := made_all hTI.1 hTI.2.2.1 hTI.h8 ma m h4
  obtain ⟨q1, q2, q3⟩ := md_FG h hpl
  obtain ⟨r4, hP⟩ := h.2.1
  obtain ⟨-, -, -, -, -, -, -, -, -, -, w1, -, w4, w5⟩ := md_row h
  have hth : thc (Maker_make to fl ma m).1 = cntR fl nb := by
    rw [cntR_10 hTI.1]
    unfold thc cntR
    rw [w1, hP.1.2.1]
  have h6 := h.1.2.2.2.2.1
  have h140 := h.1.2.2.2.2.2
  have ht := thc_10 (Maker_make to fl ma m).1
  exact ⟨nv, _, q1, q2, q3, by rw [w4]; exact hP.1.2.2.2.2.1, by rw [w5]; exact hP.1.2.2.2.2.2, hth, by rw [hth]; omega, h6, by omega⟩
/-- what a round leaves -/
def RS (to fl : Ob) (nb rd : Nat) (r : (Int32 × Ob × Ob × Ob × Ob × Ob × Ob × Ob × Ob × Ob × Ob × Ob × Ob × Ob × Int64) ⊕ (Option (Bool × Ob × Ob × Ob × Ob × Ob × Ob × Ob × Ob × Ob × Ob × Ob × Ob × Ob × Int64))) : Prop :=
  ∃ ma' tr' mk' cn' nu' de' ru' la' tb' tf' ph' cs', r = .inl (nI (rd + 1), to, fl, ma', tr', mk', cn', nu', de', ru', la', tb', tf', ph', cs') ∧ TI to fl nb ∧ rowA ma'
theorem law_117 (hTI : TI to fl nb) (hs : scOk sc) {rd : Nat} (hrd : rd < 3) (h4 : rowA ma) : RS to fl nb rd (Law_law_117 to fl ma tr mk cn nu de ru la tb tf ph cs sc (nI nb) (nI rd)) := by
  obtain ⟨nv, T, q1, q2, q3, q4, q5, q6, q7, q8, q9⟩ := made_more hTI h4 mk
  unfold Law_law_117 Ph_form Ph_form_15
  generalize Maker_make to fl ma mk = f at q1 q2 q3 q4 q5 q6
  obtain ⟨f, mk1⟩ := f
  dsimp only at q1 q2 q3 q4 q5 q6 ⊢
  have hph : (oB ph 0 true).2.2 0 = true := rfl
  generalize oB ph 0 true = ph1 at hph
  have e2 : f.2.1 2 = nI nv := q1.1.1.2.2.2.1
  unfold Law_law_121
  rw [many_4 hph, obn_some, if_pos rfl, many_9 hph, obn_some, if_pos q4, many_10 hph, obn_some, if_pos q5, many_7 q1.1 hph, obn_some, many_1 hTI.1, obn_some, if_pos (by rw [q6]), law_blocks hTI.1, obn_some, if_pos rfl, e2]
  obtain ⟨ma', tr', cn', nu', de', ru', la', tb', tf', ph', cs', e, hr⟩ := law_181 (to := to) (fl := fl) (ma := f) (tr := tr) (mk := mk1) (cn := cn) (nu := nu) (de := de) (ru := ru) (la := la) (tb := tb) (tf := tf) (cs := cs) hTI hs hrd (show LI to f ph1 nb nv T 0 0 from ⟨q1, q2, q5, q4, Nat.zero_le _, fun x y => by rw [q3]; exact noWorse.rfl' _, hph⟩) q9 q7 q8
  exact ⟨ma', tr', mk1, cn', nu', de', ru', la', tb', tf', ph', cs', e, hTI, hr⟩
def RTb (nb rd : Nat) (r : (Int32 × Ob × Ob × Ob × Ob × Ob × Ob × Ob × Ob × Ob × Ob × Ob × Ob × Ob × Int64) ⊕ (Option (Bool × Ob × Ob × Ob × Ob × Ob × Ob × Ob × Ob × Ob × Ob × Ob × Ob × Ob × Int64))) : Prop := ∃ to fl, RS to fl nb rd r
theorem law_88 (hTI : TI to fl nb) (hs : scOk sc) {rd b : Nat} (hrd : rd < 3) (hb : b < nb) (h4 : rowA ma) (hl : rd = 2 → ∃ l, l < 8 ∧ to.1 0 b = nI l) : RTb nb rd (Law_law_88 to fl ma tr mk cn nu de ru la tb tf ph cs sc (nI nb) (nI rd) (nI b)) := by
  unfold Law_law_88
  by_cases q : rd = 2
  · obtain ⟨l, l8, el⟩ := hl q
    obtain ⟨z, hz⟩ := cell_S hs (show 9 < 2 ^ 31 by decide)
    obtain ⟨j, hj, ej⟩ := bel_6 z
    have hz : Law_cellv sc 9 = some z := hz
    have h100 : opR 100 := Or.inr ⟨0, by decide, by decide⟩
    have h101 : opR 101 := Or.inr ⟨1, by decide, by decide⟩
    obtain ⟨to', fl', e, hTI', -⟩ := line_TI (kk := 1) (j := j) hTI hb el l8 (by decide) hj (fun q => absurd q (by decide)) h100 h101 (fun q => absurd q (by decide))
    have e : Ph_line to fl (nI b) 1 (nI j) 100 101 = some (nI l, to', fl') := e
    rw [if_pos (by rw [q]; decide), hz, obn_some, ej, e, obn_some]
    unfold Law_law_116
    exact ⟨to', fl', law_117 hTI' hs hrd h4⟩
  · rw [if_neg (show ¬ nI rd = 2 from fun e => q (nI_inj (a := rd) (b := 2) (by omega) (by decide) e))]
    exact ⟨to, fl, law_117 hTI hs hrd h4⟩
theorem law_45 (hTI : TI to fl nb) (hs : scOk sc) {rd : Nat} (hrd : rd < 3) (h4 : rowA ma) : RTb nb rd (Law_law_L45b to fl ma tr mk cn nu de ru la tb tf ph cs sc (nI nb) (nI rd)) := by
  have h1 := hTI.2.2.1.1
  have h10 := hTI.2.2.1.2.1
  unfold Law_law_L45b
  obtain ⟨z, hz⟩ := cell_S hs (show 20 + rd < 2 ^ 31 by omega)
  obtain ⟨b, hb, eb⟩ := bel_m z (show 0 < nb by omega) (show nb < 2 ^ 31 by omega)
  obtain ⟨l, l8, el⟩ := hTI.2.2.2.1 b
  rw [if_pos (show nI rd < 3 from nI_lt (a := rd) (b := 3) hrd (by decide)), show (20 : Int32) + nI rd = nI (20 + rd) from nI_add 20 rd, hz, obn_some, eb, obn_some]
  by_cases q : 0 < rd
  · have e0 : Ph_ofBlock to fl (nI b) 0 = some (nI l) := by
      unfold Ph_ofBlock
      rw [if_pos (told_k hTI.2.1 h10 hb), if_pos rfl, oat_rs (by omega) (by decide), el]
    rw [if_pos (show (0 : Int32) < nI rd from nI_lt (a := 0) (b := rd) q (by omega)), e0, obn_some]
    by_cases y : 0 < l
    · obtain ⟨m, rfl⟩ : ∃ m, l = m + 1 := ⟨l - 1, by omega⟩
      obtain ⟨to', fl', e, hTI', r0⟩ := cut_TI hTI hb el (by omega)
      rw [if_pos (show (0 : Int32) < nI (m + 1) from nI_lt (a := 0) (b := m + 1) y (by omega)), e, obn_some]
      unfold Law_law_87
      exact law_88 hTI' hs hrd hb h4 (fun _ => ⟨m, by omega, by rw [r0, if_pos rfl]⟩)
    · rw [if_neg (show ¬ (0 : Int32) < nI l from nI_nlt (a := 0) (b := l) (by omega) (by decide))]
      exact law_88 hTI hs hrd hb h4 (fun _ => ⟨l, by omega, el⟩)
  · rw [if_neg (show ¬ (0 : Int32) < nI rd from nI_nlt (a := 0) (b := rd) (by omega) (by decide))]
    exact law_88 hTI hs hrd hb h4 (fun z => by omega)
theorem law_law (hTI : TI to fl nb) (hs : scOk sc) (h4 : rowA ma) : ∃ r, Law_law to fl ma tr mk cn nu de ru la tb tf ph cs sc (nI nb) = some (true, r) := by
  unfold Law_law Law_law_L45
  refine loop_cnt (B := fun a : Int32 × Ob × Ob × Ob × Ob × Ob × Ob × Ob × Ob × Ob × Ob × Ob × Ob × Ob × Int64 => Law_law_L45b a.2.1 a.2.2.1 a.2.2.2.1 a.2.2.2.2.1 a.2.2.2.2.2.1 a.2.2.2.2.2.2.1 a.2.2.2.2.2.2.2.1 a.2.2.2.2.2.2.2.2.1 a.2.2.2.2.2.2.2.2.2.1 a.2.2.2.2.2.2.2.2.2.2.1 a.2.2.2.2.2.2.2.2.2.2.2.1 a.2.2.2.2.2.2.2.2.2.2.2.2.1 a.2.2.2.2.2.2.2.2.2.2.2.2.2.1 a.2.2.2.2.2.2.2.2.2.2.2.2.2.2 sc (nI nb) a.1)
    (mk := fun i (z : Ob × Ob × Ob × Ob × Ob × Ob × Ob × Ob × Ob × Ob × Ob × Ob × Ob × Int64) => (nI i, z)) (n := 3)
    (I := fun _ z => TI z.1 z.2.1 nb ∧ rowA z.2.2.1) (P := fun r => ∃ q, r = some (true, q)) (fun k z hk hz => ?_) (fun z hz => ?_) 3 0 (to, fl, ma, tr, mk, cn, nu, de, ru, la, tb, tf, ph, cs) rfl ⟨hTI, h4⟩
  · obtain ⟨to, fl, ma, tr, mk, cn, nu, de, ru, la, tb, tf, ph, cs⟩ := z
    obtain ⟨to', fl', ma', tr', mk', cn', nu', de', ru', la', tb', tf', ph', cs', e, h1, h2⟩ := law_45 (tr := tr) (mk := mk) (cn := cn) (nu := nu) (de := de) (ru := ru) (la := la) (tb := tb) (tf := tf) (ph := ph) (cs := cs) hz.1 hs hk hz.2
    exact ⟨(to', fl', ma', tr', mk', cn', nu', de', ru', la', tb', tf', ph', cs'), e, h1, h2⟩
  · obtain ⟨to, fl, ma, tr, mk, cn, nu, de, ru, la, tb, tf, ph, cs⟩ := z
    refine ⟨some (true, to, fl, ma, tr, mk, cn, nu, de, ru, la, tb, tf, ph, cs), ?_, _, rfl⟩
    show Law_law_L45b to fl ma tr mk cn nu de ru la tb tf ph cs sc (nI nb) (nI 3) = _
    unfold Law_law_L45b
    rw [if_neg (show ¬ nI 3 < 3 by decide)]
end LAWROUNDS
