section NUMP2
variable {f : Ob} {nb nv T : Nat}
theorem stay.CIs {s : Ob} (h : CI f nb nv) (hs : stay f s) {b : Nat} (hb : b < 10) : ∃ n, n ≤ 140 ∧ s.1 7 b = nI n ∧ f.1 7 b = nI n ∧ (∀ k, k < n → ∃ v, v < nv ∧ s.1 8 (b * 140 + k) = nI v ∧ f.1 8 (b * 140 + k) = nI v) ∧ ∀ k k', k < n → k' < n → f.1 8 (b * 140 + k) = f.1 8 (b * 140 + k') → k = k' := by
  obtain ⟨n, hn, hn7, q1, q2, q3⟩ := h.2.2.2.1 b hb
  refine ⟨n, hn, by rw [hs.1 7 (by decide) (by decide) (by decide) (by decide)]; exact hn7, hn7, fun k hk => ?_, q2⟩
  obtain ⟨v, hv, ev, -⟩ := q1 k hk
  exact ⟨v, hv, by rw [hs.1 8 (by decide) (by decide) (by decide) (by decide)]; exact ev, ev⟩
theorem isReck_iff {k : Nat} (hk : k ≤ 10) : Ph_isReckoning (nI k) = true ↔ 1 ≤ k ∧ k ≤ 5 := by
  unfold Ph_isReckoning Ph_isReckoning_14
  by_cases h1 : k < 1
  · rw [if_pos (show nI k < 1 from nI_lt (a := k) (b := 1) h1 (by decide))]
    exact ⟨(fun z => by cases z), fun z => by omega⟩
  · rw [if_neg (show ¬ nI k < 1 from nI_nlt (a := k) (b := 1) (by omega) (by omega))]
    by_cases h5 : 5 < k
    · rw [if_pos (show (5 : Int32) < nI k from nI_lt (a := 5) (b := k) h5 (by omega))]
      exact ⟨(fun z => by cases z), fun z => by omega⟩
    · rw [if_neg (show ¬ (5 : Int32) < nI k from nI_nlt (a := 5) (b := k) (by omega) (by decide))]
      exact ⟨fun _ => by omega, fun _ => rfl⟩
/-- what stands at a place of a block's list, in a form that has lost some values -/
theorem visit_step {nu s : Ob} (hF : FG f nb nv T) (hFs : FG s nb nv T) (hst : stay f s) (hR : fR nu) (hE : ∀ a c, fE nu a c ↔ aE (fS f) (fC f) a c) {b k n v : Nat} (hb : fC f b) (hn : n ≤ 140) (hn7 : f.1 7 b = nI n) (hk : k < n) (hv : v < nv) (hvk : f.1 8 (b * 140 + k) = nI v) (hinj : ∀ k k', k < n → k' < n → f.1 8 (b * 140 + k) = f.1 8 (b * 140 + k') → k = k') (hpl : s.1 1 v = nI b) :
    ∃ s', Numbers_visit_L2b s nu (nI b) (nI k) = .inl (nI (k + 1), s') ∧ (s' = s ∨ (FG s' nb nv T ∧ nwF s s' ∧ stay s s' ∧ ∀ w, s'.1 1 w = if w = v then -1 else s.1 1 w)) := by
  obtain ⟨h1, h2, h3, h4⟩ := id hFs
  have hnv := h1.1.2.2.2.2.2
  have hnb := h1.1.2.2.1
  have hb10 := hb.1
  have hv140 : v < 140 := by omega
  have hv6 : 6 ≤ v := by
    refine Nat.le_of_not_lt fun q => ?_
    have := (((h1.2.2.1 v hv).2.2) q).1
    rw [hpl] at this
    exact nI_m1 (a := b) (by omega) this
  have hCs : fC s = fC f := fC_congr (hst.2.1 1 (by decide))
  have hbs : fC s b := by rw [hCs]; exact hb
  have hvm : v ∈ aLs (fS s) b := (fS_ls_mem h1).mpr ⟨hb10, hv, hpl⟩
  obtain ⟨kk, hkk, ekk⟩ := (h1.2.2.1 v hv).1
  have s7 : s.1 7 b = nI n := by rw [hst.1 7 (by decide) (by decide) (by decide) (by decide)]; exact hn7
  have s8 := hst.1 8 (by decide) (by decide) (by decide) (by decide)
  have svk : s.1 8 (b * 140 + k) = nI v := by rw [s8]; exact hvk
  have hkd : aKd (fS s) v = kk := by show tn (s.1 0 v) = kk; rw [ekk, tn_nI (by omega)]
  have hent : ∀ c, c < 10 → ∃ m, m ≤ 140 ∧ s.1 7 c = nI m ∧ ∀ i, i < m → ∃ o, o < 140 ∧ s.1 8 (c * 140 + i) = nI o := fun c hc => by
    obtain ⟨m, hm, hm7, -, hl, -⟩ := stay.CIs hF.1 hst hc
    refine ⟨m, hm, hm7, fun i hi => ?_⟩
    obtain ⟨o, ho, eo, -⟩ := hl i hi
    exact ⟨o, by omega, eo⟩
  have hraw : (frw s b)[k]? = some v := by rw [frw_get s7 hn, if_pos hk, svk, tn_nI (by omega)]
  have hls : aLs (fS s) b = (frw s b).filter fun z => decide (s.1 1 z = nI b) := if_pos hb10
  have hvne : s.1 1 v ≠ -1 := by rw [hpl]; exact nI_m1 (by omega)
  have hbeg : Numbers_visit_L2b s nu (nI b) (nI k) = if nI kk = 9 then Numbers_visit_50 s nu (nI b) (nI k) (nI v) (nI kk) (Form_soleArgument s (nI v)) else Numbers_visit_50 s nu (nI b) (nI k) (nI v) (nI kk) (-1) := by
    unfold Numbers_visit_L2b
    rw [oat_rs hb10 (by decide), s7, if_pos (show nI k < nI n from nI_lt hk (by omega)), valueIn_eq (by omega), svk, oat_rs hv140 (by decide), ekk]
  rw [hbeg]
  have twin0 : ∀ (o : Nat), o < nv → o ≠ v → gd (aRep (fS s) v (.inl o)) (plR (fP s) v) (fC s) ∧ (∀ x y, noWorse (runA (fS s) x y) (runA (aRep (fS s) v (.inl o)) x y)) → FG (Form_replace s (nI v) (nI o) 0) nb nv T ∧ nwF s (Form_replace s (nI v) (nI o) 0) ∧ stay s (Form_replace s (nI v) (nI o) 0) ∧ ∀ w, (Form_replace s (nI v) (nI o) 0).1 1 w = if w = v then -1 else s.1 1 w := fun o ho hov hq => by
    have ea : agOf (nI o) 0 = .inl o := by unfold agOf; rw [if_neg (nI_m1 (by omega)), tn_nI (by omega)]
    exact repl_FG hFs hv hvne (Or.inr ⟨o, ho, hov, rfl⟩) (by rw [ea]; exact hq.1) (by rw [ea]; exact hq.2)
  by_cases h9 : kk = 9
  · subst h9
    rw [if_pos (show nI 9 = 9 from rfl)]
    unfold Numbers_visit_50
    rw [if_pos (show nI 9 = 9 from rfl)]
    rcases sole_eq h1 hv140 with e | ⟨j, a, hj, e, ha, hall⟩
    · rw [e, if_pos rfl]
      unfold Numbers_visit_96
      rw [if_pos rfl]
      have htw := twinPhi_spec (f := s) (b := b) (k := k) (v := v) hb10 (by omega) (fun i hi => by
        obtain ⟨m, hm, hm7, hl⟩ := hent b hb10
        have : m = n := nI_inj (by omega) (by omega) (hm7.symm.trans s7)
        exact hl i (by omega)) svk
      rcases htw with e2 | ⟨i, o, hi, ho140, eo, o9, opl, hsame, e2⟩
      · rw [e2, if_pos rfl]
        unfold Numbers_visit_142
        rw [nI_1]
        exact ⟨s, rfl, Or.inl rfl⟩
      · rw [e2, if_neg (nI_m1 (by omega))]
        unfold Numbers_visit_142
        rw [nI_1]
        refine ⟨_, rfl, Or.inr ?_⟩
        have hov : o ≠ v := fun q => by
          rw [q] at eo
          rw [s8] at eo
          have := hinj i k (by omega) hk (eo.trans hvk.symm)
          omega
        have honv : o < nv := by
          obtain ⟨m, hm, hm7, hm7', hl, -⟩ := stay.CIs hF.1 hst hb10
          have : m = n := nI_inj (by omega) (by omega) (hm7.symm.trans s7)
          obtain ⟨o', ho', eo', -⟩ := hl i (by omega)
          have : o = o' := nI_inj (by omega) (by omega) (eo.symm.trans eo')
          omega
        have hom : o ∈ aLs (fS s) b := (fS_ls_mem h1).mpr ⟨hb10, honv, opl⟩
        have hko : aKd (fS s) o = 9 := by show tn (s.1 0 o) = 9; rw [o9]; rfl
        have hag := same_ag h1 (show v < 150 by omega) (show o < 150 by omega) hsame
        have hag' : aAg (fS s) v = aAg (fS s) o := by
          have e1 : aAg (fS s) v = fag s v := if_pos (by omega)
          have e2 : aAg (fS s) o = fag s o := if_pos (by omega)
          rw [e1, e2, hag]
        exact twin0 o honv hov (twin_ok h2.1 h2.2.2.1 hbs hvm hom hkd hko hov hag')
    · rw [e, if_neg (nI_m1 (by omega))]
      unfold Numbers_visit_79
      have hnr : ¬ Ph_isReckoning (nI 9) = true := fun q => by
        have := (isReck_iff (k := 9) (by decide)).mp q
        omega
      rw [if_neg hnr]
      unfold Numbers_visit_96 Numbers_visit_142
      rw [if_neg (nI_m1 (by omega)), nI_1]
      refine ⟨_, rfl, Or.inr ?_⟩
      have hsole : ∀ w x, (w, x) ∈ (aEd (fS s) b).zip (aAg (fS s) v) → fC s (w / 2) → x = a ∨ x = .inl v := fun w x hz _ => hall x (List.of_mem_zip hz).2
      obtain ⟨q1, q2⟩ := arg_at h1 (show v < 150 by omega) hj ha
      have hne := (sole_prc h2.1 hbs hvm hkd hsole).1
      have hso := sole_ok h2.1 h2.2.2.1 hbs hvm hkd hsole
      refine repl_FG hFs hv hvne (q2.imp id fun ⟨w, z1, z2, z3⟩ => ⟨w, z1, fun e' => hne (by rw [z2, e']), z3⟩) ?_ ?_
      · rw [q1]; exact hso.1
      · rw [q1]; exact hso.2
  · have h9' : ¬ nI kk = 9 := fun q => h9 (nI_inj (a := kk) (b := 9) (by omega) (by omega) q)
    rw [if_neg h9']
    unfold Numbers_visit_50
    rw [if_neg h9']
    unfold Numbers_visit_79
    by_cases hr : Ph_isReckoning (nI kk) = true
    · rw [if_pos hr]
      unfold Numbers_visit_96
      rw [if_pos rfl]
      have hkr := (isReck_iff hkk).mp hr
      have hrv : rck (fS s) v := by unfold rck; rw [hkd]; exact hkr
      have hord : ∀ p, p < 10 → nu.1 3 p = -1 ∨ ∃ c, c < 10 ∧ nu.1 3 p = nI c := fun p hp => (hR.2.1.1 p hp).imp id fun ⟨c, z1, _, z2, _⟩ => ⟨c, z1, z2⟩
      rcases twinReck_spec (f := s) (nu := nu) (b := b) (k := k) (v := v) hb10 (by omega) hv140 hent (fun m hm hm7 => by
        have : m = n := nI_inj (by omega) (by omega) (hm7.symm.trans s7)
        omega) svk hord with e2 | ⟨c, i, o, ⟨m, hm, hm7, him⟩, hc10, ho140, hdom, eo, hib, ok, opl, hargs, e2⟩
      · rw [e2, if_pos rfl]
        unfold Numbers_visit_142
        rw [nI_1]
        exact ⟨s, rfl, Or.inl rfl⟩
      · rw [e2, if_neg (nI_m1 (by omega))]
        unfold Numbers_visit_142
        rw [nI_1]
        refine ⟨_, rfl, Or.inr ?_⟩
        -- o is a value that has its place in c
        have honv : o < nv := by
          obtain ⟨m', hm', hm7', -, hl, -⟩ := stay.CIs hF.1 hst hc10
          have : m' = m := nI_inj (by omega) (by omega) (hm7'.symm.trans hm7)
          obtain ⟨o', ho', eo', -⟩ := hl i (by omega)
          have : o = o' := nI_inj (by omega) (by omega) (eo.symm.trans eo')
          omega
        have ho6 : 6 ≤ o := by
          refine Nat.le_of_not_lt fun q => ?_
          have := (((h1.2.2.1 o honv).2.2) q).1
          rw [opl] at this
          exact nI_m1 (a := c) (by omega) this
        have hom : o ∈ aLs (fS s) c := (fS_ls_mem h1).mpr ⟨hc10, honv, opl⟩
        have hcs : fC s c := Classical.byContradiction fun q => by
          rw [(h3 c q).1] at hom
          cases hom
        have hov : o ≠ v := fun q => by
          by_cases hcb : c = b
          · have hik := hib hcb
            rw [q, s8, hcb] at eo
            have := hinj i k (by omega) hk (eo.trans hvk.symm)
            omega
          · rw [q, hpl] at opl
            exact hcb (nI_inj (by omega) (by omega) opl.symm)
        have hko : aKd (fS s) o = aKd (fS s) v := by show tn (s.1 0 o) = tn (s.1 0 v); rw [ok]
        have e1 : aAg (fS s) v = fag s v := if_pos (by omega)
        have e3 : aAg (fS s) o = fag s o := if_pos (by omega)
        have hpv := (fS_ls_P h1).mp hvm
        have hpo := (fS_ls_P h1).mp hom
        have hpr : prc (fS s) (fP s) (fC s) o v := by
          by_cases hcb : c = b
          · rw [hcb] at eo hpo opl
            have hro : (frw s b)[i]? = some o := by rw [frw_get s7 hn, if_pos (by have := hib hcb; omega), eo, tn_nI (by omega)]
            obtain ⟨l1, l2, y1, y2⟩ := filter_at (p := fun z => decide (s.1 1 z = nI b)) (hib hcb) hro hraw (decide_eq_true opl) (decide_eq_true hpl)
            refine ⟨b, l1, l2, hpv, by rw [hls]; exact y1, ?_⟩
            rw [if_neg (by rw [hkd]; exact h9)]
            exact Or.inr (Or.inl ⟨hpo, Or.inr y2⟩)
          · obtain ⟨l1, l2, hl⟩ := List.append_of_mem hvm
            refine ⟨b, l1, l2, hpv, hl, Or.inr (Or.inr ⟨c, hpo, hcb, fun q => ?_⟩)⟩
            refine ((hR.1.2.2.2 b hb10 c (by omega)).mp hdom).2.2 (RW_mono (fun x y z => (hE x y).mpr ?_) q)
            obtain ⟨z1, j, z2, z3⟩ := z
            rw [hCs] at z1
            refine ⟨z1, j, ?_, ?_⟩
            · show j < tn (f.1 11 x)
              rw [← hst.1 11 (by decide) (by decide) (by decide) (by decide)]
              exact z2
            · show (if x * 2 + j < 20 then ftg f (x * 2 + j) else none) = some y
              have z3' : (if x * 2 + j < 20 then ftg s (x * 2 + j) else none) = some y := z3
              unfold ftg at z3' ⊢
              rw [hst.1 12 (by decide) (by decide) (by decide) (by decide)] at z3'
              exact z3'
        refine twin0 o honv hov (eq_ok h2.1 h2.2.2.1 hbs hvm hrv hko ho6 hpr hov ?_)
        rcases hargs with q | ⟨q1, q2⟩
        · exact Or.inl (by rw [e1, e3, same_ag h1 (show v < 150 by omega) (show o < 150 by omega) q])
        · have lv := (h2.1.2.2.1.1 b v hbs hvm).2.1 (Or.inl hrv.2)
          have lo := (h2.1.2.2.1.1 c o hcs hom).2.1 (Or.inl (by rw [hko]; exact hrv.2))
          rw [e1] at lv
          rw [e3] at lo
          obtain ⟨x, y, y1, y2⟩ := crossed_ag h1 (show v < 150 by omega) (show o < 150 by omega) lv lo q2
          refine Or.inr ⟨?_, x, y, by rw [e1]; exact y1, by rw [e3]; exact y2⟩
          rw [hkd]
          rcases q1 with z | z
          · rw [ekk] at z
            exact Or.inl (nI_inj (a := kk) (b := 1) (by omega) (by omega) z)
          · rw [ekk] at z
            exact Or.inr (nI_inj (a := kk) (b := 3) (by omega) (by omega) z)
    · rw [if_neg hr]
      unfold Numbers_visit_96 Numbers_visit_142
      rw [if_pos rfl, if_pos rfl, nI_1]
      exact ⟨s, rfl, Or.inl rfl⟩
/-- a visit of a block -/
theorem visit_spec {nu s : Ob} (hF : FG f nb nv T) (ht : tidy f) (hFs : FG s nb nv T) (hst : stay f s) (hR : fR nu) (hE : ∀ a c, fE nu a c ↔ aE (fS f) (fC f) a c) {b : Nat} (hb : fC f b) (hpl : ∀ u, u < nv → f.1 1 u = nI b → s.1 1 u = nI b) : (fun g => FG g nb nv T ∧ nwF s g ∧ stay f g ∧ ∀ u, u < nv → f.1 1 u ≠ nI b → g.1 1 u = s.1 1 u) (Numbers_visit s nu (nI b)) := by
  obtain ⟨n, hn, hs7, hf7, hl, hinj⟩ := stay.CIs hF.1 hst hb.1
  have hnv := hF.1.1.2.2.2.2.2
  unfold Numbers_visit Numbers_visit_L2
  refine loop_cnt (B := fun a : Int32 × Ob => Numbers_visit_L2b a.2 nu (nI b) a.1) (mk := fun i (x : Ob) => (nI i, x)) (n := n)
    (I := fun k x => FG x nb nv T ∧ nwF s x ∧ stay f x ∧ (∀ u, u < nv → f.1 1 u ≠ nI b → x.1 1 u = s.1 1 u) ∧ ∀ u j, u < nv → k ≤ j → j < n → f.1 8 (b * 140 + j) = nI u → x.1 1 u = nI b)
    (P := fun g => FG g nb nv T ∧ nwF s g ∧ stay f g ∧ ∀ u, u < nv → f.1 1 u ≠ nI b → g.1 1 u = s.1 1 u) (fun k x hk hI => ?_) (fun x hI => ⟨x, ?_, hI.1, hI.2.1, hI.2.2.1, hI.2.2.2.1⟩) n 0 s (by omega) ⟨hFs, nwF.rf s, hst, fun _ _ _ => rfl, fun u j hu _ hj e => hpl u hu (by
      have := ht b n j (by rw [nbt hF.1]; exact hF.1.2.2.2.2.2.2.2 b (by have := hb.1; omega) hb.2) hf7 hn hj
      rw [e, tn_nI (by omega)] at this
      exact this)⟩
  · obtain ⟨i1, i2, i3, i4, i5⟩ := hI
    obtain ⟨v, hv, -, evk⟩ := hl k hk
    have hpx := i5 v k hv (Nat.le_refl _) hk evk
    have hfv : f.1 1 v = nI b := by
      have := ht b n k (by rw [nbt hF.1]; exact hF.1.2.2.2.2.2.2.2 b (by have := hb.1; omega) hb.2) hf7 hn hk
      rw [evk, tn_nI (by omega)] at this
      exact this
    obtain ⟨x', e, q⟩ := visit_step hF i1 i3 hR hE hb hn hf7 hk hv evk hinj hpx
    refine ⟨x', e, ?_⟩
    rcases q with q | ⟨q1, q2, q3, q4⟩
    · rw [q]
      exact ⟨i1, i2, i3, i4, fun u j hu hj => i5 u j hu (by omega)⟩
    · refine ⟨q1, i2.trans q2, i3.trans q3, fun u hu hne => ?_, fun u j hu hj hjn e' => ?_⟩
      · rw [q4, if_neg fun z => hne (by rw [z]; exact hfv)]
        exact i4 u hu hne
      · rw [q4, if_neg]
        · exact i5 u j hu (by omega) hjn e'
        · intro z
          rw [z] at e'
          have := hinj j k hjn hk (e'.trans evk.symm)
          omega
  · show Numbers_visit_L2b x nu (nI b) (nI n) = _
    unfold Numbers_visit_L2b
    rw [oat_rs hb.1 (by decide), hI.2.2.1.1 7 (by decide) (by decide) (by decide) (by decide), hf7, if_neg (show ¬ nI n < nI n from nI_nlt (Nat.le_refl _) (by omega))]
theorem numbers_spec (hF : FG f nb nv T) (ht : tidy f) (nu : Ob) : passP f (Numbers_goOver f nu).1 nb nv T := by
  have hre := readEdges_spec hF.1 nu
  obtain ⟨hN, hE⟩ := flow_form hF hre
  obtain ⟨hR, h0⟩ := flow_reckon hN
  have hfE : fE (Flow_reckon (Numbers_readEdges f nu)) = fE (Numbers_readEdges f nu) := fE_congr h0
  have hE' : ∀ a c, fE (Flow_reckon (Numbers_readEdges f nu)) a c ↔ aE (fS f) (fC f) a c := fun a c => by rw [hfE]; exact hE a c
  unfold Numbers_goOver Numbers_goOver_L14
  generalize Flow_reckon (Numbers_readEdges f nu) = fl at hR hE'
  have reachC : ∀ b, RW (fE fl) none b → fC f b := fun b hb => RW_ind (P := fun b => fC f b) (fun _ => hF.2.1.1.2.1.1) (fun a c _ ih he _ _ => by
    obtain ⟨q1, j, q2, q3⟩ := (hE' a c).mp he
    obtain ⟨t, y1, y2⟩ := hF.2.1.2.2.1 a j q1 q2
    rw [q3] at y1
    cases y1
    exact y2) hb
  have hnv := hF.1.1.2.2.2.2.2
  refine loop_cnt (B := fun a : Int32 × Ob => Numbers_goOver_L14b a.2 fl a.1) (mk := fun i (x : Ob) => (nI i, x)) (n := 10)
    (I := fun p x => FG x nb nv T ∧ nwF f x ∧ stay f x ∧ ∀ b, b < 10 → (∀ j, j < p → fl.1 3 j ≠ nI b) → ∀ u, u < nv → f.1 1 u = nI b → x.1 1 u = nI b)
    (P := fun r => passP f r.1 nb nv T) (fun p x hp hI => ?_) (fun x hI => ⟨(x, fl), ?_, hI.1, hI.2.1, hI.2.2.1.ist⟩) 10 0 f rfl ⟨hF, nwF.rf f, stay.rf f, fun _ _ _ _ _ e => e⟩
  · obtain ⟨i1, i2, i3, i4⟩ := hI
    have hB : Numbers_goOver_L14b x fl (nI p) = if fl.1 3 p = -1 then .inl (nI (p + 1), x) else .inl (nI (p + 1), Numbers_visit x fl (fl.1 3 p)) := by
      unfold Numbers_goOver_L14b Numbers_goOver_43
      rw [if_pos (lt10 hp), oat_rs hp (by decide), nI_1]
    rcases hR.2.1.1 p hp with e | ⟨b, hb, hr, e, -⟩
    · refine ⟨x, by show Numbers_goOver_L14b x fl (nI p) = _; rw [hB, if_pos e], i1, i2, i3, fun b hb hj => i4 b hb fun j hjp => hj j (by omega)⟩
    · have hnot : ∀ j, j < p → fl.1 3 j ≠ nI b := fun j hj q => hR.2.1.2 j p b hj hp hb q e
      obtain ⟨v1, v2, v3, v4⟩ := visit_spec hF ht i1 i3 hR hE' (reachC b hr) (i4 b hb hnot)
      refine ⟨Numbers_visit x fl (nI b), by show Numbers_goOver_L14b x fl (nI p) = _; rw [hB, e, if_neg (nI_m1 (by omega))], v1, i2.trans v2, v3, fun c hc hj u hu eu => ?_⟩
      have hcb : c ≠ b := fun q => hj p (by omega) (by rw [q]; exact e)
      rw [v4 u hu (by rw [eu]; exact fun q => hcb (nI_inj (by omega) (by omega) q))]
      exact i4 c hc (fun j hjp => hj j (by omega)) u hu eu
  · show Numbers_goOver_L14b x fl (nI 10) = _
    unfold Numbers_goOver_L14b
    rw [if_neg nlt10]
end NUMP2
