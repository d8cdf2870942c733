/-! THE FORM THAT IS MADE, in rows: phis stand where they are wanted; all of it -/
section MDW
variable {to fl mk0 g0 mk f : Ob} {nb nv gv : Nat} {F : Nat → List Ag}
theorem sets_L {b k x : Nat} (hok : lineOk to b k) (hx : x < 6) : setsAt to b k x ↔ setsL to b k x := by
  obtain ⟨kk, hkk, e, hd, -⟩ := hok
  have hlk : lk to b k = kk := by unfold lk; rw [e, tn_nI (by omega)]
  have hps : Ph_sets (nI kk) = true ↔ kk ≤ 6 := by
    have : ∀ q, q < 9 → (Ph_sets (nI q) = true ↔ q ≤ 6) := by
      intro q hq
      unfold Ph_sets Ph_sets_14
      have : q = 0 ∨ q = 1 ∨ q = 2 ∨ q = 3 ∨ q = 4 ∨ q = 5 ∨ q = 6 ∨ q = 7 ∨ q = 8 := by omega
      rcases this with rfl | rfl | rfl | rfl | rfl | rfl | rfl | rfl | rfl <;> decide
    exact this kk hkk
  unfold setsAt setsL
  rw [e, hps, hlk]
  constructor
  · rintro ⟨q1, q2⟩
    refine ⟨q1, ?_⟩
    unfold ld
    rw [q2, tn_nI (by omega)]
  · rintro ⟨q1, q2⟩
    obtain ⟨d, hd6, ed⟩ := hd q1
    refine ⟨q1, ?_⟩
    rw [ed]
    unfold ld at q2
    rw [ed, tn_nI (by omega)] at q2
    rw [q2]
theorem varOf_nI {o : Int32} {x : Nat} (h1 : o - 100 = nI x) (h2 : ¬ o < 100) : Ph_variableOf o = nI x := by
  unfold Ph_variableOf
  rw [if_neg h2]
  exact h1
theorem md_sets (h : MD to fl mk0 g0 mk f nb nv gv F) {b x : Nat} (hb : RW (fE fl) none b) (hx : x < 6) : (bt (to.1 9 b) x = true ↔ ∃ j, j < nl to b ∧ setsL to b j x) ∧ (bt (to.1 8 b) x = true ↔ usedAt to b (nl to b) x) ∧ bt (to.1 10 b) x = (bt (to.1 8 b) x || (((tTg to b).any fun c => bt (to.1 10 c) x) && !bt (to.1 9 b) x)) := by
  have hbn := (md_fl h hb).1
  obtain ⟨l1, l2, l3, -⟩ := md_lk h hbn
  obtain ⟨s1, s2⟩ := h.1.1.2.1 b hbn _ l2 l1
  refine ⟨?_, s2 x (by omega), h.1.1.2.2.1 x (by omega) b hbn⟩
  rw [s1 x (by omega)]
  constructor
  · rintro ⟨j, hj, q⟩
    exact ⟨j, hj, (sets_L (l3 j hj) hx).mp q⟩
  · rintro ⟨j, hj, q⟩
    exact ⟨j, hj, (sets_L (l3 j hj) hx).mpr q⟩
theorem dm_left {E : Nat → Nat → Prop} {d o : Nat} (h : Dm E d o) : RW E none d :=
  Classical.byContradiction fun y => h.2 (RW_ind (P := fun v => RW E (some d) v) (fun _ => RW_base fun e => y (by rw [Option.some.inj e]; exact RW_base (by simp))) (fun _ _ _ ih he _ hc => RW_step ih he fun e => y (by rw [Option.some.inj e]; exact hc)) h.1)
theorem md_MKw (h : MD to fl mk0 g0 mk f nb nv gv F) (hpl : ∀ b x, b < 10 → x < 32 → (bt (mk0.1 2 b) x = true ↔ b < nb ∧ x < 6 ∧ bt (Maker_whereJoined to fl (nI x)) b = true ∧ bt (to.1 10 b) x = true)) : MKw (fS f) to (PHd mk0) (fC f) (fun b x => bt (to.1 10 b) x = true) (fun x c => bt (Maker_whereJoined to fl (nI x)) c = true) := by
  have hnb := md_nb h
  refine ⟨fun b k hb hk => ?_, fun b hb => ?_, fun b k x hb hk hx hr => ?_, fun b x hb hx h1 h2 => ?_, fun b c x he hx hw => ?_, fun c x hc hx => ?_, fun x d o c hx hd hdm he hn => ?_⟩
  · obtain ⟨l1, l2, l3, l4, -⟩ := md_lk h (md_fl h ((md_C h).mp hb)).1
    obtain ⟨kk, hkk, e, hd, o3, o4⟩ := l3 k hk
    have hlk : lk to b k = kk := by unfold lk; rw [e, tn_nI (by omega)]
    refine ⟨fun q => ?_, o3, o4⟩
    obtain ⟨d, hd6, ed⟩ := hd (by omega)
    unfold ld
    rw [ed, tn_nI (by omega)]
    exact hd6
  · exact (md_lk h (md_fl h ((md_C h).mp hb)).1).2.2.2.2.2.2.1
  · have hb' := (md_C h).mp hb
    obtain ⟨l1, l2, l3, l4, -⟩ := md_lk h (md_fl h hb').1
    obtain ⟨s1, s2, s3⟩ := md_sets h hb' hx
    by_cases q : ∃ j, j < k ∧ setsL to b j x
    · exact Or.inl q
    · refine Or.inr ?_
      show bt (to.1 10 b) x = true
      rw [s3, s2.mpr (Or.inl ⟨k, hk, hr.imp (fun z => varOf_nI z.1 z.2) (fun z => varOf_nI z.1 z.2), fun i hi z => q ⟨i, hi, (sets_L (l3 i (by omega)) hx).mp z⟩⟩)]
      rfl
  · have hb' := (md_C h).mp hb
    obtain ⟨l1, l2, l3, l4, -⟩ := md_lk h (md_fl h hb').1
    obtain ⟨s1, s2, s3⟩ := md_sets h hb' hx
    by_cases q : ∃ j, j < nl to b ∧ setsL to b j x
    · exact Or.inl q
    · refine Or.inr ?_
      show bt (to.1 10 b) x = true
      rw [s3, s2.mpr (Or.inr ⟨varOf_nI h1 h2, fun i hi z => q ⟨i, hi, (sets_L (l3 i hi) hx).mp z⟩⟩)]
      rfl
  · obtain ⟨hb, hfe⟩ := (md_aE h).mp he
    obtain ⟨s1, s2, s3⟩ := md_sets h hb hx
    have hc := ((h.1.1.2.2.2.2 b c).mp hfe).2
    by_cases q : bt (to.1 9 b) x = true
    · exact Or.inr (s1.mp q)
    · refine Or.inl ?_
      show bt (to.1 10 b) x = true
      rw [s3, List.any_eq_true.mpr ⟨c, hc, hw⟩, bool_f q, Bool.not_false, Bool.and_true, Bool.or_true]
  · rw [PHd_6 hx, hpl c x hc.1 (by omega)]
    have := (md_fl h ((md_C h).mp hc)).1
    exact ⟨fun q => ⟨q.2.2.1, q.2.2.2⟩, fun q => ⟨this, hx, q.1, q.2⟩⟩
  · have hdm' := (md_Dm h).mp hdm
    obtain ⟨ho, hfe⟩ := (md_aE h).mp he
    have hdr := dm_left hdm'
    have hdn := (md_fl h hdr).1
    obtain ⟨S, e, hS⟩ := sources_spec (fl := fl) h.1.1.1.1 hnb.2 (show x < 20 by omega)
    show bt (Maker_whereJoined to fl (nI x)) c = true
    rw [e]
    refine jn_clo hnb.2 S hdn ?_ ((front_spec h.1.1.2.2.2.1 (show d < 10 by omega) (by have := hfe.2.1; omega)).mpr ⟨⟨o, hdm', hfe⟩, fun z => hn ⟨(md_Dm h).mpr z.1, z.2⟩⟩)
    rw [b_or]
    rcases hd with hd | hd
    · have : bt S d = true := (hS d (by omega)).mpr (hd.imp id fun q => ⟨hdn, (md_sets h hdr hx).1.mpr q⟩)
      rw [this, Bool.true_or]
    · have hd' : bt (Maker_whereJoined to fl (nI x)) d = true := hd
      rw [e] at hd'
      rw [hd', Bool.or_true]
theorem cnt_six (n : Nat) : ((List.range n).filter fun v => decide (6 ≤ v)).length = n - 6 := by
  induction n with
  | zero => rfl
  | succ n ih =>
    rw [filter_range_s, List.length_append, ih]
    by_cases q : 6 ≤ n
    · rw [if_pos (decide_eq_true q), List.length_singleton]; omega
    · rw [if_neg (by simpa using q), List.length_nil]; omega
theorem md_cnt (h : MD to fl mk0 g0 mk f nb nv gv F) : cntV f nv = nv - 6 := by
  unfold cntV
  rw [← cnt_six]
  congr 1
  refine List.filter_congr fun v hv => ?_
  by_cases q : 6 ≤ v
  · obtain ⟨b, i, d, hb, -, -, -, q2, -⟩ := md_val h q (List.mem_range.mp hv)
    have := RW_lt10 hb
    rw [q2, decide_eq_true q, decide_eq_false (nI_m1 (by omega))]
    rfl
  · rw [(md_six h (by omega)).2, decide_eq_false q]
    rfl
theorem thc_10 (f : Ob) : thc f ≤ 10 := by
  unfold thc
  refine Nat.le_trans (List.length_filter_le _ _) ?_
  rw [List.length_range]
  exact Nat.le_refl _
theorem md_FG (h : MD to fl mk0 g0 mk f nb nv gv F) (hpl : ∀ b x, b < 10 → x < 32 → (bt (mk0.1 2 b) x = true ↔ b < nb ∧ x < 6 ∧ bt (Maker_whereJoined to fl (nI x)) b = true ∧ bt (to.1 10 b) x = true)) : FG f nb nv (nv - 6 + thc f) ∧ tidy f ∧ ∀ x y, runA (fS f) x y = runT to x y := by
  have hw := md_MKw h hpl
  have ht := thc_10 f
  have h140 := h.1.2.2.2.2.2
  obtain ⟨r4, hP⟩ := h.2.1
  refine ⟨⟨md_CI h, made_GG (md_MKh h) (md_MKl h) (md_MKa h) (md_MKe h) (md_idm h) hw (md_EA h), md_EA h, 0, ?_, ?_, ?_⟩, fun b s k hb h7 hs hk => ?_, run_made (md_MKh h) (md_MKl h) (md_MKa h) (md_MKe h) (md_idm h) hw⟩
  · rw [(md_row h).2.2.2.2.2.2.2.2.2.2.2.2.2, hP.1.2.2.2.2.2]
    rfl
  · rw [md_cnt h]; omega
  · omega
  · obtain ⟨e0, e1, e2, e7, -⟩ := md_row h
    rw [(md_row h).2.2.2.2.2.2.2.2.2.1, hP.1.1, tn_nI (by have := md_nb h; omega)] at hb
    have hb10 : b < 10 := by have := md_nb h; omega
    by_cases hr : RW (fE fl) none b
    · obtain ⟨q1, q2, q3, q4, q5⟩ := md_fl h hr
      have hk' : k < (dsc to mk0 b).length := by
        have := nI_inj (a := s) (by omega) (by omega) (h7.symm.trans q3.1)
        omega
      obtain ⟨z1, z2, z3, -⟩ := q3.2 k _ (List.getElem?_eq_getElem hk')
      rw [z1, tn_nI (by omega)]
      exact z3
    · have h0 : f.1 7 b = 0 := by
        rw [e7]
        refine hP.2.2.2.1 b hb10 (Or.inr ?_)
        rw [← Bool.not_eq_true]
        exact fun q => hr ((reach_bit h.1.1.2.2.2.1 (by omega)).mp q)
      have := nI_inj (a := s) (b := 0) (by omega) (by omega) (h7.symm.trans h0)
      omega
end MDW
section MADEALL
variable {to fl : Ob} {nb : Nat}
theorem px_0 (hT : tGood to fl nb) (m : Ob) : pX (Maker_placePhis to fl m) 0 = [] := by
  have hnb := hT.1.2.2.1
  unfold pX
  rw [List.filter_eq_nil_iff]
  intro x hx q
  have hx6 := List.mem_range.mp hx
  obtain ⟨-, -, h1, -⟩ := ((placePhis_spec (fl := fl) hT.1.1 hnb m).1 0 x (by decide) (by omega)).mp q
  obtain ⟨S, e, -⟩ := sources_spec (fl := fl) hT.1.1 hnb (show x < 20 by omega)
  rw [e] at h1
  obtain ⟨b, hf, hb⟩ := jn_from S h1
  obtain ⟨⟨o, -, ho⟩, -⟩ := (front_spec hT.2.2.2.1 (show b < 10 by omega) (show 0 < 32 by decide)).mp hf
  obtain ⟨ho1, ho2⟩ := (hT.2.2.2.2 o 0).mp ho
  obtain ⟨j, hj, ej⟩ := List.mem_map.mp ho2
  obtain ⟨-, e, he, he5, hw⟩ := hT.1.2.2.2 o ho1
  have hj' := List.mem_range.mp hj
  rw [he5, tn_nI (by omega)] at hj'
  obtain ⟨c, hc1, hc2, hc⟩ := hw j hj'
  rw [hc, tn_nI (by omega)] at ej
  omega
/-- what Maker makes -/
theorem made_all (hT : tGood to fl nb) (hok : tOk to nb) (h8 : ∀ b, nl to b ≤ 8) (ma m : Ob) (h4 : ∀ u, u < 150 → ∃ a, a < 291 ∧ ma.1 4 u = nI a) : ∃ mk0 g0 gv F nv, MD to fl mk0 g0 (Maker_make to fl ma m).2 (Maker_make to fl ma m).1 nb nv gv F ∧ mk0 = Maker_placePhis to fl m ∧ ∀ b x, b < 10 → x < 32 → (bt (mk0.1 2 b) x = true ↔ b < nb ∧ x < 6 ∧ bt (Maker_whereJoined to fl (nI x)) b = true ∧ bt (to.1 10 b) x = true) := by
  have hnb := hT.1.2.2.1
  have h0 := px_0 hT m
  have hpl := (placePhis_spec (fl := fl) hT.1.1 hnb m).1
  have hlk : ∀ b, b < nb → ∀ k, k < nl to b → to.1 1 (b * 8 + k) = nI (lk to b k) ∧ lk to b k < 9 := fun b hb k hk => by
    obtain ⟨⟨l, hl8, hl, hlo⟩, -⟩ := hok.2.2 b hb
    have hnl : nl to b = l := by unfold nl; rw [hl, tn_nI (by omega)]
    obtain ⟨kk, hkk, e, -⟩ := hlo k (by omega)
    have : lk to b k = kk := by unfold lk; rw [e, tn_nI (by omega)]
    rw [this]
    exact ⟨e, hkk⟩
  obtain ⟨g0, hP, e1⟩ := make_vals (fl := fl) hT.1 hlk h8 ma m h0
  have hbs := bsM_le (fl := fl) h8 h0 nb
  rw [if_neg (by have := hT.1.2.1; omega)] at hbs
  have h6 : 6 ≤ bsM to fl (Maker_placePhis to fl m) nb := bsM_mono (to := to) (fl := fl) (mk := Maker_placePhis to fl m) (Nat.zero_le nb)
  obtain ⟨ma', mk', e2, F, gv, i1, i2, i3, i4, i5, i6, i7⟩ := ord_all hT hok h8 h0 (fun b i hb hi hi32 => by
    rw [← Bool.not_eq_true]
    exact fun q => absurd ((hpl b i hb hi32).mp q).2.1 (by omega)) rfl hP h4
  have hlk' : ∀ b, b < nb → ∀ k, k < nl to b → lk to b k < 9 := fun b hb k hk => (hlk b hb k hk).2
  have hdn : ∀ b, b < 10 → dnB fl 10 b → RW (fE fl) none b := fun b hb ⟨j, hj, ej⟩ => by
    rcases hT.2.2.2.1.2.1.1 j hj with e | ⟨c, hc, hcr, e, -⟩
    · exact absurd (ej.symm.trans e) (nI_m1 (by omega))
    · rw [nI_inj (a := b) (b := c) (by omega) (by omega) (ej.symm.trans e)]
      exact hcr
  have hln : ∀ b, b < 10 → dnB fl 10 b → ∀ j, j < nl to b → lk to b j ≠ 0 → lnN to fl (Maker_placePhis to fl m) b j < 140 ∧ ¬ g0.1 0 (lnN to fl (Maker_placePhis to fl m) b j) = 9 := fun b hb hd j hj hj0 => by
    have hr := hdn b hb hd
    have hbn := reach_nb hT hr
    have hbit := (reach_bit hT.2.2.2.1 (show b < 32 by omega)).mpr hr
    have hi : (dsc to (Maker_placePhis to fl m) b)[(pX (Maker_placePhis to fl m) b).length + ((List.range j).filter fun k => !decide (lk to b k = 0)).length]? = some (lk to b j, -1) := by
      unfold dsc
      rw [List.getElem?_append_right (by rw [List.length_map]; omega), List.length_map, List.getElem?_map, Nat.add_sub_cancel_left]
      unfold lX
      rw [get_filter (p := fun k => !decide (lk to b k = 0)) hj (by simp [hj0])]
      rfl
    obtain ⟨-, z2, z3, -⟩ := (hP.2.2.1 b hbn hbit).2 _ _ hi
    have e : bsM to fl (Maker_placePhis to fl m) b + ((pX (Maker_placePhis to fl m) b).length + ((List.range j).filter fun k => !decide (lk to b k = 0)).length) = lnN to fl (Maker_placePhis to fl m) b j := by unfold lnN; omega
    rw [e] at z2
    have hr := ln_range (fl := fl) (mk0 := Maker_placePhis to fl m) hj hj0
    have hm := bsM_mono (to := to) (fl := fl) (mk := Maker_placePhis to fl m) (a := b + 1) (b := nb) hbn
    have z : bsM to fl (Maker_placePhis to fl m) (b + 1) = bsM to fl (Maker_placePhis to fl m) b + (dsc to (Maker_placePhis to fl m) b).length := by
      show bsM to fl (Maker_placePhis to fl m) b + _ = _
      rw [if_pos hbit]
    refine ⟨by omega, fun q => ?_⟩
    have h9 := hlk' b hbn j hj
    have := nI_inj (a := lk to b j) (b := 9) (by omega) (by omega) (z2.symm.trans q)
    omega
  have hF9 : ∀ v, v < bsM to fl (Maker_placePhis to fl m) nb → g0.1 0 v = 9 → F v = [] := fun v hv h9 => by
    refine i7 v (by omega) fun b hb hd => ⟨by omega, fun j hj hj0 e => ?_⟩
    rw [e] at h9
    exact (hln b hb hd j hj hj0).2 h9
  obtain ⟨F', gv', j1, j2, j3, j4⟩ := givePhis_spec hT rfl (by omega) hP hlk' i1 i2 (by omega) (fun b hb hd => (i6 b hb hd).1) hF9
  rw [e1, e2]
  refine ⟨_, g0, gv', F', _, ⟨⟨hT, hok, h8, rfl, h6, by omega⟩, ⟨_, hP⟩, j1, j2, j3, h0, fun b hb hd => ?_, fun v hv h9 => ?_, fun u hu hq hn => ?_⟩, rfl, hpl⟩
  · obtain ⟨q1, q2, q3, q4⟩ := i6 b hb hd
    refine ⟨q1, q2, fun j hj hj0 => ?_, ?_⟩
    · rw [j4, if_neg fun z => (hln b hb hd j hj hj0).2 z.2]
      exact q3 j hj hj0
    · rw [j4, if_neg fun z => by have := z.1; omega]
      exact q4
  · rw [j4, if_pos ⟨hv, h9⟩]
  · rw [j4, if_neg hn]
    exact i7 u hu hq
theorem made_FG (hT : tGood to fl nb) (hok : tOk to nb) (h8 : ∀ b, nl to b ≤ 8) (ma m : Ob) (h4 : ∀ u, u < 150 → ∃ a, a < 291 ∧ ma.1 4 u = nI a) : ∃ nv, FG (Maker_make to fl ma m).1 nb nv (nv - 6 + thc (Maker_make to fl ma m).1) ∧ tidy (Maker_make to fl ma m).1 ∧ ∀ x y, runA (fS (Maker_make to fl ma m).1) x y = runT to x y := by
  obtain ⟨mk0, g0, gv, F, nv, h, -, hpl⟩ := made_all hT hok h8 ma m h4
  exact ⟨nv, md_FG h hpl⟩
end MADEALL
