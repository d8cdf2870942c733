/-! THE FORM THAT IS MADE, in rows: it is whole -/
theorem consec (p : Nat → Bool) (s : Nat) : ∀ n, ((List.range n).filter p).map (fun x => s + ((List.range x).filter p).length) = (List.range ((List.range n).filter p).length).map fun i => s + i := by
  intro n
  induction n with
  | zero => rfl
  | succ n ih =>
    rw [filter_range_s, List.map_append, ih]
    by_cases q : p n = true
    · rw [if_pos q, List.length_append, List.length_singleton, List.range_succ, List.map_append]
      rfl
    · rw [if_neg q, List.append_nil, List.map_nil, List.append_nil]
theorem fed_eL {to : Ob} {W : List Nat} {g : Ob} (h : EDs to W g) (hW : W.Nodup) (hW2 : ∀ w, w ∈ W → w < 20) {c : Nat} (hc : c < 10) : fed g c = eL to W c := by
  obtain ⟨h9, h10⟩ := h.1 c hc
  have hl : (eL to W c).length ≤ 20 := Nat.le_trans (List.length_filter_le _ _) (nodup_len 20 _ hW hW2)
  apply List.ext_getElem?
  intro i
  rw [fed_get2 h9 hl]
  by_cases q : i < (eL to W c).length
  · have hg := List.getElem?_eq_getElem q
    have := hW2 _ (List.mem_filter.mp (List.getElem_mem q)).1
    rw [if_pos q, h10 i _ hg, hg, tn_nI (by omega)]
  · rw [if_neg q, List.getElem?_eq_none (by omega)]
def MD (to fl mk0 g0 mk f : Ob) (nb nv gv : Nat) (F : Nat → List Ag) : Prop :=
  (tGood to fl nb ∧ tOk to nb ∧ (∀ b, nl to b ≤ 8) ∧ nv = bsM to fl mk0 nb ∧ 6 ≤ nv ∧ nv ≤ 140) ∧ (∃ r4, P1 to fl mk0 nb r4 nb g0) ∧ ast g0 f ∧ AS nv f gv F ∧ gv ≤ 290 ∧ pX mk0 0 = [] ∧
  (∀ b, b < 10 → dnB fl 10 b → hdOk nv mk b ∧ (∀ x, x < 6 → hdA mk b x = hLf to fl mk0 (idF fl) (hdA mk) b (nl to b) x) ∧ (∀ j, j < nl to b → lk to b j ≠ 0 → F (lnN to fl mk0 b j) = argsL to fl mk0 (idF fl) (hdA mk) b j) ∧ F (140 + b) = argE to fl mk0 (idF fl) (hdA mk) b) ∧
  (∀ v, v < nv → g0.1 0 v = 9 → F v = phiA g0 mk v) ∧
  ∀ u, u < 150 → (∀ b, b < 10 → dnB fl 10 b → u ≠ 140 + b ∧ ∀ j, j < nl to b → lk to b j ≠ 0 → u ≠ lnN to fl mk0 b j) → ¬ (u < nv ∧ g0.1 0 u = 9) → F u = []
section MD
variable {to fl mk0 g0 mk f : Ob} {nb nv gv : Nat} {F : Nat → List Ag}
theorem md_nb (h : MD to fl mk0 g0 mk f nb nv gv F) : 1 ≤ nb ∧ nb ≤ 10 := ⟨h.1.1.1.2.1, h.1.1.1.2.2.1⟩
theorem md_dn (h : MD to fl mk0 g0 mk f nb nv gv F) {b : Nat} : dnB fl 10 b ∧ b < 10 ↔ RW (fE fl) none b := by
  have hR := h.1.1.2.2.2.1
  constructor
  · rintro ⟨⟨j, hj, ej⟩, hb⟩
    rcases hR.2.1.1 j hj with e | ⟨c, hc, hcr, e, -⟩
    · exact absurd (ej.symm.trans e) (nI_m1 (by omega))
    · rw [nI_inj (a := b) (b := c) (by omega) (by omega) (ej.symm.trans e)]
      exact hcr
  · intro q
    obtain ⟨j, hj, ej⟩ := hR.2.2 b q
    exact ⟨⟨j, hj, ej⟩, RW_lt10 q⟩
theorem md_row (h : MD to fl mk0 g0 mk f nb nv gv F) : f.1 0 = g0.1 0 ∧ f.1 1 = g0.1 1 ∧ f.1 2 = g0.1 2 ∧ f.1 7 = g0.1 7 ∧ f.1 8 = g0.1 8 ∧ f.1 9 = g0.1 9 ∧ f.1 10 = g0.1 10 ∧ f.1 11 = g0.1 11 ∧ f.1 12 = g0.1 12 ∧ f.2.1 0 = g0.2.1 0 ∧ f.2.1 1 = g0.2.1 1 ∧ f.2.1 2 = g0.2.1 2 ∧ f.2.1 4 = g0.2.1 4 ∧ f.2.1 5 = g0.2.1 5 := by
  have z := h.2.2.1
  exact ⟨z.1 0 (by decide) (by decide) (by decide) (by decide), z.1 1 (by decide) (by decide) (by decide) (by decide), z.1 2 (by decide) (by decide) (by decide) (by decide), z.1 7 (by decide) (by decide) (by decide) (by decide), z.1 8 (by decide) (by decide) (by decide) (by decide), z.1 9 (by decide) (by decide) (by decide) (by decide), z.1 10 (by decide) (by decide) (by decide) (by decide), z.1 11 (by decide) (by decide) (by decide) (by decide), z.1 12 (by decide) (by decide) (by decide) (by decide), z.2.1 0 (by decide), z.2.1 1 (by decide), z.2.1 2 (by decide), z.2.1 4 (by decide), z.2.1 5 (by decide)⟩
theorem md_bit (h : MD to fl mk0 g0 mk f nb nv gv F) {b : Nat} (hb : b < 32) : bt (f.2.1 1) b = true ↔ RW (fE fl) none b := by
  obtain ⟨r4, hP⟩ := h.2.1
  rw [(md_row h).2.2.2.2.2.2.2.2.2.2.1, hP.1.2.1]
  exact reach_bit h.1.1.2.2.2.1 hb
theorem md_C (h : MD to fl mk0 g0 mk f nb nv gv F) {b : Nat} : fC f b ↔ RW (fE fl) none b := by
  constructor
  · rintro ⟨q1, q2⟩
    exact (md_bit h (by omega)).mp q2
  · intro q
    have := RW_lt10 q
    exact ⟨this, (md_bit h (by omega)).mpr q⟩
theorem md_fl (h : MD to fl mk0 g0 mk f nb nv gv F) {b : Nat} (hb : RW (fE fl) none b) : b < nb ∧ bt (fl.2.1 0) b = true ∧ VD f b (bsM to fl mk0 b) (dsc to mk0 b) ∧ bsM to fl mk0 b + (dsc to mk0 b).length ≤ nv ∧ 6 ≤ bsM to fl mk0 b := by
  have hbn := reach_nb h.1.1 hb
  have hnb := (md_nb h).2
  have hbit := (reach_bit h.1.1.2.2.2.1 (show b < 32 by omega)).mpr hb
  obtain ⟨r4, hP⟩ := h.2.1
  obtain ⟨e0, e1, e2, e7, e8, -⟩ := md_row h
  refine ⟨hbn, hbit, VD_congr (by rw [e7]) (fun i _ => by rw [e8]) (fun v _ _ => by rw [e0, e1, e2]; exact ⟨rfl, rfl, rfl⟩) (hP.2.2.1 b hbn hbit), ?_, bsM_mono (to := to) (fl := fl) (mk := mk0) (Nat.zero_le b)⟩
  have := bsM_mono (to := to) (fl := fl) (mk := mk0) (a := b + 1) (b := nb) hbn
  have z : bsM to fl mk0 (b + 1) = bsM to fl mk0 b + (dsc to mk0 b).length := by
    show bsM to fl mk0 b + _ = _
    rw [if_pos hbit]
  rw [h.1.2.2.2.1]
  omega
theorem md_lk (h : MD to fl mk0 g0 mk f nb nv gv F) {b : Nat} (hb : b < nb) : to.1 0 b = nI (nl to b) ∧ nl to b ≤ 8 ∧ (∀ k, k < nl to b → lineOk to b k) ∧ (∀ k, k < nl to b → to.1 1 (b * 8 + k) = nI (lk to b k) ∧ lk to b k < 9) ∧ to.1 5 b = nI (tEk to b) ∧ tEk to b ≤ 2 ∧ opOk (to.1 6 b) ∧ ∀ k, k < tEk to b → to.1 7 (b * 2 + k) = nI (tgt to (b * 2 + k)) ∧ 1 ≤ tgt to (b * 2 + k) ∧ tgt to (b * 2 + k) < nb := by
  have hnb := (md_nb h).2
  obtain ⟨⟨l, hl8, hl, hlo⟩, ek, he2, he, hope, hw⟩ := h.1.2.1.2.2 b hb
  have hnl : nl to b = l := by unfold nl; rw [hl, tn_nI (by omega)]
  have hek : tEk to b = ek := by unfold tEk; rw [he, tn_nI (by omega)]
  rw [hnl, hek]
  refine ⟨hl, hl8, hlo, fun k hk => ?_, he, he2, hope, fun k hk => ?_⟩
  · obtain ⟨kk, hkk, e, -⟩ := hlo k hk
    have : lk to b k = kk := by unfold lk; rw [e, tn_nI (by omega)]
    rw [this]
    exact ⟨e, hkk⟩
  · obtain ⟨c, hc1, hc2, e⟩ := hw k hk
    have : tgt to (b * 2 + k) = c := by unfold tgt; rw [e, tn_nI (by omega)]
    rw [this]
    exact ⟨e, hc1, hc2⟩
/-- a value behind the first six -/
theorem md_val (h : MD to fl mk0 g0 mk f nb nv gv F) {v : Nat} (h6 : 6 ≤ v) (hv : v < nv) : ∃ b i d, RW (fE fl) none b ∧ v = bsM to fl mk0 b + i ∧ (dsc to mk0 b)[i]? = some d ∧ f.1 0 v = nI d.1 ∧ f.1 1 v = nI b ∧ f.1 2 v = d.2 := by
  have hn := h.1.2.2.2.1
  obtain ⟨b, hbn, hbr, hb1, hb2⟩ := val_in (to := to) (fl := fl) (mk0 := mk0) nb v h6 (by omega)
  have hb := (reach_bit h.1.1.2.2.2.1 (show b < 32 by have := (md_nb h).2; omega)).mp hbr
  obtain ⟨d, hd⟩ : ∃ d, (dsc to mk0 b)[v - bsM to fl mk0 b]? = some d := ⟨_, List.getElem?_eq_getElem (by omega)⟩
  obtain ⟨-, q2, q3, q4⟩ := (md_fl h hb).2.2.1.2 _ d hd
  rw [show bsM to fl mk0 b + (v - bsM to fl mk0 b) = v by omega] at q2 q3 q4
  exact ⟨b, v - bsM to fl mk0 b, d, hb, by omega, hd, q2, q3, q4⟩
theorem md_six (h : MD to fl mk0 g0 mk f nb nv gv F) {v : Nat} (hv : v < 6) : f.1 0 v = 10 ∧ f.1 1 v = -1 := by
  obtain ⟨r4, hP⟩ := h.2.1
  obtain ⟨e0, e1, -⟩ := md_row h
  rw [e0, e1]
  exact hP.2.2.2.2.1 v hv
theorem md_d (h : MD to fl mk0 g0 mk f nb nv gv F) {b i : Nat} {d : Nat × Int32} (hb : RW (fE fl) none b) (hd : (dsc to mk0 b)[i]? = some d) : 1 ≤ d.1 ∧ d.1 ≤ 9 := by
  rcases dsc_at (fun k hk => ((md_lk h (md_fl h hb).1).2.2.2.1 k hk).2) hd with ⟨-, x, -, e⟩ | ⟨-, q1, q2, -⟩
  · rw [e]; exact ⟨show 1 ≤ 9 by decide, Nat.le_refl _⟩
  · omega
theorem md_ed (h : MD to fl mk0 g0 mk f nb nv gv F) : EDs to (wB to fl nb) f ∧ (∀ b, b < 10 → (RW (fE fl) none b → f.1 11 b = nI (tEk to b)) ∧ (¬ RW (fE fl) none b → f.1 11 b = 0)) ∧ ∀ w, w ∈ wB to fl nb ↔ w < 20 ∧ RW (fE fl) none (w / 2) ∧ w % 2 < tEk to (w / 2) := by
  obtain ⟨r4, hP⟩ := h.2.1
  obtain ⟨-, -, -, -, -, e9, e10, e11, e12, -⟩ := md_row h
  have hnb := (md_nb h).2
  refine ⟨EDs_congr e9 e10 e12 hP.2.2.2.2.2.1, fun b hb => ?_, fun w => ?_⟩
  · rw [e11, hP.2.2.2.2.2.2 b hb]
    exact ⟨fun q => if_pos ⟨(md_fl h q).1, (md_fl h q).2.1⟩, fun q => if_neg fun z => q ((reach_bit h.1.1.2.2.2.1 (by omega)).mp z.2)⟩
  · rw [wB_mem]
    constructor
    · rintro ⟨q1, q2, q3⟩
      exact ⟨by omega, (reach_bit h.1.1.2.2.2.1 (by omega)).mp q2, q3⟩
    · rintro ⟨q1, q2, q3⟩
      have := md_fl h q2
      exact ⟨by omega, this.2.1, q3⟩
theorem md_W20 (h : MD to fl mk0 g0 mk f nb nv gv F) : ∀ w, w ∈ wB to fl nb → w < 20 := fun w hw => ((md_ed h).2.2 w |>.mp hw).1
theorem md_fed (h : MD to fl mk0 g0 mk f nb nv gv F) {c : Nat} (hc : c < 10) : fed f c = eL to (wB to fl nb) c := fed_eL (md_ed h).1 (wB_nodup nb) (md_W20 h) hc
theorem md_mem (h : MD to fl mk0 g0 mk f nb nv gv F) {c w : Nat} : w ∈ eL to (wB to fl nb) c ↔ (w < 20 ∧ RW (fE fl) none (w / 2) ∧ w % 2 < tEk to (w / 2)) ∧ tgt to w = c := by
  unfold eL
  rw [List.mem_filter, decide_eq_true_iff, (md_ed h).2.2 w]
theorem md_ln (h : MD to fl mk0 g0 mk f nb nv gv F) {b j : Nat} (hb : RW (fE fl) none b) (hj : j < nl to b) (hj0 : lk to b j ≠ 0) : 6 ≤ lnN to fl mk0 b j ∧ lnN to fl mk0 b j < nv ∧ f.1 0 (lnN to fl mk0 b j) = nI (lk to b j) ∧ f.1 1 (lnN to fl mk0 b j) = nI b := by
  obtain ⟨q1, q2, q3, q4, q5⟩ := md_fl h hb
  have hr := ln_range (fl := fl) (mk0 := mk0) hj hj0
  have hi : (dsc to mk0 b)[(pX mk0 b).length + ((List.range j).filter fun k => !decide (lk to b k = 0)).length]? = some (lk to b j, -1) := by
    unfold dsc
    rw [List.getElem?_append_right (by rw [List.length_map]; omega), List.length_map, List.getElem?_map, Nat.add_sub_cancel_left]
    unfold lX
    rw [get_filter (p := fun k => !decide (lk to b k = 0)) hj (by simp [hj0])]
    rfl
  obtain ⟨-, z2, z3, -⟩ := q3.2 _ _ hi
  have e : bsM to fl mk0 b + ((pX mk0 b).length + ((List.range j).filter fun k => !decide (lk to b k = 0)).length) = lnN to fl mk0 b j := by unfold lnN; omega
  rw [e] at z2 z3
  exact ⟨by omega, by omega, z2, z3⟩
theorem md_F0 (h : MD to fl mk0 g0 mk f nb nv gv F) {u : Nat} (hu : u < 140) (hn : nv ≤ u ∨ f.1 1 u = -1) : F u = [] := by
  obtain ⟨e0, -⟩ := md_row h
  refine h.2.2.2.2.2.2.2.2 u (by omega) (fun b hb hd => ?_) ?_
  · have hr := (md_dn h).mp ⟨hd, hb⟩
    refine ⟨by omega, fun j hj hj0 e => ?_⟩
    obtain ⟨q1, q2, q3, q4⟩ := md_ln h hr hj hj0
    rw [← e] at q2 q4
    rcases hn with q | q
    · omega
    · exact nI_m1 (by omega) (q4.symm.trans q)
  · rintro ⟨q1, q2⟩
    rcases hn with q | q
    · omega
    · rcases Nat.lt_or_ge u 6 with z | z
      · rw [← e0, (md_six h z).1] at q2
        exact absurd q2 (by decide)
      · obtain ⟨b, i, d, hb, -, -, -, q3, -⟩ := md_val h z q1
        have := RW_lt10 hb
        exact nI_m1 (by omega) (q3.symm.trans q)
theorem md_CI (h : MD to fl mk0 g0 mk f nb nv gv F) : CI f nb nv := by
  obtain ⟨r4, hP⟩ := h.2.1
  obtain ⟨e0, e1, e2, e7, e8, e9, e10, e11, e12, i0, i1, i2, i4, i5⟩ := md_row h
  obtain ⟨hnb1, hnb⟩ := md_nb h
  have hAS := h.2.2.2.1
  have hgv := h.2.2.2.2.1
  have h6 := h.1.2.2.2.2.1
  have h140 := h.1.2.2.2.2.2
  refine ⟨⟨by rw [i0]; exact hP.1.1, hnb1, hnb, by rw [i2, hP.1.2.2.1, h.1.2.2.2.1], h6, h140⟩, ⟨fun u hu => ?_, hAS.2.2, fun u hu hn => ?_⟩, fun v hv => ?_, fun b hb => ?_, fun b hb => ?_, fun w hw => ?_, fun b hb => ?_, fun b hb hbt => ?_⟩
  · obtain ⟨a, ha, ea, el, hl, hs, hx⟩ := hAS.2.1 u hu
    refine ⟨(F u).length, a, el, hl, ea, ha, fun q => ?_, fun k hk => ?_⟩
    · have := hs (fun z => by rw [z] at q; exact Nat.lt_irrefl 0 q)
      omega
    · exact (hx k _ (List.getElem?_eq_getElem hk)).2
  · obtain ⟨a, ha, ea, el, hl, hs, hx⟩ := hAS.2.1 u (by omega)
    rw [el, md_F0 h hu hn]
    rfl
  · rcases Nat.lt_or_ge v 6 with z | z
    · obtain ⟨q1, q2⟩ := md_six h z
      exact ⟨⟨10, Nat.le_refl _, q1⟩, Or.inl q2, fun _ => ⟨q2, q1⟩⟩
    · obtain ⟨b, i, d, hb, -, hd, q1, q2, -⟩ := md_val h z hv
      have := md_d h hb hd
      exact ⟨⟨d.1, by omega, q1⟩, Or.inr ⟨b, (md_fl h hb).1, q2⟩, fun q => absurd q (by omega)⟩
  · by_cases hr : RW (fE fl) none b
    · obtain ⟨hbn, -, hVD, hbs, hb6⟩ := md_fl h hr
      refine ⟨(dsc to mk0 b).length, by omega, hVD.1, fun k hk => ?_, fun k k' hk hk' e => ?_, fun v hv e => ?_⟩
      · obtain ⟨q1, q2, q3, q4⟩ := hVD.2 k _ (List.getElem?_eq_getElem hk)
        exact ⟨bsM to fl mk0 b + k, by omega, q1, fun _ => Or.inl q3⟩
      · obtain ⟨q1, -⟩ := hVD.2 k _ (List.getElem?_eq_getElem hk)
        obtain ⟨q2, -⟩ := hVD.2 k' _ (List.getElem?_eq_getElem hk')
        have := nI_inj (by omega) (by omega) (q1.symm.trans (e.trans q2))
        omega
      · have hv6 : 6 ≤ v := Nat.le_of_not_lt fun q => nI_m1 (a := b) (by omega) (e.symm.trans (md_six h q).2)
        obtain ⟨c, i, d, hc, ev, hd, -, q2, -⟩ := md_val h hv6 hv
        have := RW_lt10 hc
        have hcb : c = b := nI_inj (by omega) (by omega) (q2.symm.trans e)
        subst hcb
        have hi : i < (dsc to mk0 c).length := (List.getElem?_eq_some_iff.mp hd).1
        obtain ⟨z1, -⟩ := hVD.2 i d hd
        exact ⟨i, hi, by rw [z1, ev]⟩
    · have h7 : f.1 7 b = 0 := by
        rw [e7]
        refine hP.2.2.2.1 b hb (Or.inr ?_)
        rw [← Bool.not_eq_true]
        exact fun q => hr ((reach_bit h.1.1.2.2.2.1 (by omega)).mp q)
      refine ⟨0, by omega, h7, fun k hk => absurd hk (by omega), fun k k' hk => absurd hk (by omega), fun v hv e => ?_⟩
      have hv6 : 6 ≤ v := Nat.le_of_not_lt fun q => nI_m1 (a := b) (by omega) (e.symm.trans (md_six h q).2)
      obtain ⟨c, i, d, hc, -, -, -, q2, -⟩ := md_val h hv6 hv
      have := RW_lt10 hc
      exact absurd (by rw [← nI_inj (a := c) (b := b) (by omega) (by omega) (q2.symm.trans e)]; exact hc) hr
  · obtain ⟨q1, q2⟩ := (md_ed h).1.1 b hb
    have hl : (eL to (wB to fl nb) b).length ≤ 20 := Nat.le_trans (List.length_filter_le _ _) (nodup_len 20 _ (wB_nodup nb) (md_W20 h))
    refine ⟨_, hl, q1, fun k hk => ?_⟩
    have hg := List.getElem?_eq_getElem hk
    exact ⟨_, md_W20 h _ (List.mem_filter.mp (List.getElem_mem hk)).1, q2 k _ hg⟩
  · rw [(md_ed h).1.2 w hw]
    by_cases q : w ∈ wB to fl nb
    · rw [if_pos q]
      obtain ⟨-, z1, z2⟩ := ((md_ed h).2.2 w).mp q
      have := ((md_lk h (md_fl h z1).1).2.2.2.2.2.2.2 _ z2).2.2
      rw [show w / 2 * 2 + w % 2 = w by omega] at this
      exact Or.inr ⟨_, this, rfl⟩
    · rw [if_neg q]
      exact Or.inl rfl
  · by_cases q : RW (fE fl) none b
    · exact ⟨_, (md_lk h (md_fl h q).1).2.2.2.2.2.1, ((md_ed h).2.1 b hb).1 q⟩
    · exact ⟨0, by omega, ((md_ed h).2.1 b hb).2 q⟩
  · exact (md_fl h ((md_bit h hb).mp hbt)).1
end MD
