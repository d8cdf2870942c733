/-! THE PASS 4, in rows -/
def FG (f : Ob) (nb nv T : Nat) : Prop := CI f nb nv ∧ GG (fS f) (fP f) (fC f) ∧ EA (fS f) (fC f) ∧ KT f nv T
def ist (f g : Ob) : Prop := (∀ i, i ≠ 1 → i ≠ 5 → g.2.1 i = f.2.1 i) ∧ g.2.2 = f.2.2
def nwF (f g : Ob) : Prop := ∀ x y, noWorse (runA (fS f) x y) (runA (fS g) x y)
theorem ist.rf (f : Ob) : ist f f := ⟨fun _ _ _ => rfl, rfl⟩
theorem ist.trans {f g k : Ob} (h1 : ist f g) (h2 : ist g k) : ist f k := ⟨fun i a b => (h2.1 i a b).trans (h1.1 i a b), h2.2.trans h1.2⟩
theorem nwF.rf (f : Ob) : nwF f f := fun _ _ => noWorse.rfl' _
theorem nwF.trans {f g k : Ob} (h1 : nwF f g) (h2 : nwF g k) : nwF f k := fun x y => (h1 x y).trans (h2 x y)
theorem at_split : ∀ (l : List Nat) (j u : Nat), l[j]? = some u → ∃ l1 l2, l = l1 ++ u :: l2 ∧ ∀ i z, i < j → l[i]? = some z → z ∈ l1 := by
  intro l
  induction l with
  | nil => intro j u h; cases h
  | cons x r ih =>
    intro j u h
    cases j with
    | zero =>
      cases h
      exact ⟨[], r, rfl, fun i z hi => absurd hi (Nat.not_lt_zero _)⟩
    | succ j =>
      obtain ⟨l1, l2, h1, h2⟩ := ih j u h
      refine ⟨x :: l1, l2, by rw [h1]; rfl, fun i z hi hz => ?_⟩
      cases i with
      | zero => cases hz; exact List.mem_cons_self
      | succ i => exact List.mem_cons_of_mem _ (h2 i z (by omega) hz)
section JOINER
variable {f g : Ob} {nb nv T : Nat}
def ph1 (f : Ob) (nb nv T n k : Nat) (s : Ob) : Prop := FG s nb nv T ∧ nwF f s ∧ stay f s ∧ ∀ u, u < 140 → s.1 1 u = if (∃ j, j < k ∧ f.1 8 (n * 140 + j) = nI u) then -1 else f.1 1 u
theorem kd_nI (h : CI f nb nv) {v k : Nat} (hv : v < nv) (hk : k ≤ 10) : aKd (fS f) v = k ↔ f.1 0 v = nI k := by
  obtain ⟨kk, hkk, ek⟩ := (h.2.2.1 v hv).1
  show tn (f.1 0 v) = k ↔ _
  rw [ek, tn_nI (by omega)]
  exact ⟨fun e => by rw [e], fun e => nI_inj (by omega) (by omega) e⟩
theorem ph1_step (hF : CI f nb nv) {n k m sn v : Nat} (hn10 : n < 10) (hkm : k < sn) (hsn : sn ≤ 140) (hv : v < nv) (hvk : f.1 8 (n * 140 + k) = nI v) (hinj : ∀ k k', k < sn → k' < sn → f.1 8 (n * 140 + k) = f.1 8 (n * 140 + k') → k = k') (h9 : f.1 0 v = 9) (hpl : f.1 1 v = nI n) (hC : fC f n) (hed : f.1 9 n = 1) {s : Ob} (h : ph1 f nb nv T n k s) : ph1 f nb nv T n (k + 1) (Form_replace s (nI v) (Form_valueOf s (nI v) 0) (Form_numberOf s (nI v) 0)) := by
  obtain ⟨⟨s1, s2, s3, s4⟩, s5, s6, s7⟩ := h
  have hnv := hF.1.2.2.2.2.2
  have hnot : ¬ ∃ j, j < k ∧ f.1 8 (n * 140 + j) = nI v := fun ⟨j, hj, ej⟩ => by
    have := hinj j k (by omega) hkm (ej.trans hvk.symm)
    omega
  have spl : s.1 1 v = nI n := by rw [s7 v (by omega), if_neg hnot]; exact hpl
  have hv6 : 6 ≤ v := by
    refine Nat.le_of_not_lt fun q => ?_
    have := ((hF.2.2.1 v hv).2.2 q).1
    rw [hpl] at this
    exact nI_m1 (a := n) (by omega) this
  have hCs : fC s n := by
    rw [fC_congr (f := f) (g := s) (s6.2.1 1 (by decide))]
    exact hC
  have hvm : v ∈ aLs (fS s) n := (fS_ls_mem s1).mpr ⟨hn10, hv, spl⟩
  have hk9 : aKd (fS s) v = 9 := by
    show tn (s.1 0 v) = 9
    rw [s6.1 0 (by decide) (by decide) (by decide) (by decide), h9]
    rfl
  have hlen := (s2.1.2.2.1.1 n v hCs hvm).1 hk9
  have hedl : (aEd (fS s) n).length = 1 := by
    show (if n < 10 then fed s n else []).length = 1
    rw [if_pos hn10]
    unfold fed
    rw [s6.1 9 (by decide) (by decide) (by decide) (by decide), hed, List.length_map, List.length_range]
    rfl
  obtain ⟨a, ha⟩ := one_arg (hlen.trans hedl)
  have hsole : ∀ w x, (w, x) ∈ (aEd (fS s) n).zip (aAg (fS s) v) → fC s (w / 2) → x = a ∨ x = .inl v := fun w x hz _ => by
    have := (List.of_mem_zip hz).2
    rw [ha, List.mem_singleton] at this
    exact Or.inl this
  obtain ⟨g1, g2⟩ := sole_ok s2.1 s2.2.2.1 hCs hvm hk9 hsole
  have hne := (sole_prc s2.1 hCs hvm hk9 hsole).1
  obtain ⟨q1, q2⟩ := arg_at (k := 0) s1 (show v < 150 by omega) (by decide) (by rw [ha]; rfl)
  have q1' : agOf (Form_valueOf s (nI v) 0) (Form_numberOf s (nI v) 0) = a := q1
  obtain ⟨r1, r2, r3, r4, r5, r6⟩ := replace_CI (x := Form_valueOf s (nI v) 0) (y := Form_numberOf s (nI v) 0) s1 hv hv6 (by rw [spl]; exact nI_m1 (by omega)) (q2.imp id fun ⟨w, z1, z2, z3⟩ => ⟨w, z1, fun e => hne (by rw [z2, e]), z3⟩)
  rw [q1'] at r2
  have hCC : fC (Form_replace s (nI v) (Form_valueOf s (nI v) 0) (Form_numberOf s (nI v) 0)) = fC s := fC_congr (r4.2.1 1 (by decide))
  refine ⟨⟨r1, ?_, ?_, r6 T s4⟩, s5.trans fun x y => by rw [r2]; exact g2 x y, s6.trans r4, fun u hu => ?_⟩
  · rw [r2, r3, hCC]
    exact rep_G s2 g1
  · rw [r2, hCC]
    exact EA_rep s3 (by omega) a
  · rw [r5, s7 u hu]
    by_cases huv : u = v
    · rw [if_pos huv, if_pos ⟨k, by omega, by rw [huv]; exact hvk⟩]
    · rw [if_neg huv]
      by_cases z : ∃ j, j < k ∧ f.1 8 (n * 140 + j) = nI u
      · rw [if_pos z, if_pos]
        obtain ⟨j, a1, a2⟩ := z
        exact ⟨j, by omega, a2⟩
      · rw [if_neg z, if_neg]
        rintro ⟨j, a1, a2⟩
        have : j ≠ k := fun e => by
          rw [e, hvk] at a2
          exact huv (nI_inj (by omega) (by omega) a2.symm)
        exact z ⟨j, by omega, a2⟩
theorem moveValues_spec (hF : FG f nb nv T) (ht : tidy f) {b n : Nat} (hb : fC f b) (hk1 : f.1 11 b = 1) (htg : f.1 12 (b * 2) = nI n) (hnb : n < nb) (hnn : n ≠ b) (hed : f.1 9 n = 1) : ∃ f1, FG f1 nb nv T ∧ nwF f f1 ∧ joinP (fS f1) (fC f1) b n ∧ f1.2.1 1 = f.2.1 1 ∧ CI (Joiner_moveValues f (nI b) (nI n)) nb nv ∧ fS (Joiner_moveValues f (nI b) (nI n)) = aMv (fS f1) b n ∧ fP (Joiner_moveValues f (nI b) (nI n)) = plJ (fP f1) b n ∧ KT (Joiner_moveValues f (nI b) (nI n)) nv T ∧ (∀ i, i ≠ 5 → (Joiner_moveValues f (nI b) (nI n)).2.1 i = f.2.1 i) ∧ (Joiner_moveValues f (nI b) (nI n)).2.2 = f.2.2 ∧ ∀ c s k, c < nb → c ≠ n → (Joiner_moveValues f (nI b) (nI n)).1 7 c = nI s → s ≤ 140 → k < s → (Joiner_moveValues f (nI b) (nI n)).1 1 (tn ((Joiner_moveValues f (nI b) (nI n)).1 8 (c * 140 + k))) = nI c := by
  obtain ⟨h1, h2, h3, h4⟩ := id hF
  obtain ⟨hI, hA, hV, hL, hE⟩ := id h1
  have hnv := hI.2.2.2.2.2
  have hnb10 := hI.2.2.1
  have hn10 : n < 10 := by omega
  have hb10 := hb.1
  have hbnb : b < nb := hE.2.2.2 b (by omega) hb.2
  obtain ⟨sn, hsn, hsn7, n1, n2, n3⟩ := hL n hn10
  obtain ⟨sb, hsb, hsb7, b1, b2, b3⟩ := hL b hb10
  have hekb : aEk (fS f) b = 1 := by show tn (f.1 11 b) = 1; rw [hk1]; rfl
  have htgb : aTg (fS f) (b * 2) = some n := by
    show (if b * 2 < 20 then ftg f (b * 2) else none) = some n
    rw [if_pos (by omega)]
    unfold ftg
    rw [htg, if_neg (nI_m1 (by omega)), tn_nI (by omega)]
  have hCn : fC f n := by
    obtain ⟨t, q1, q2⟩ := h2.2.2.1 b 0 hb (by omega)
    rw [show b * 2 + 0 = b * 2 by omega, htgb] at q1
    cases q1
    exact q2
  have lb := tidy_ls h1 ht hbnb
  have ln := tidy_ls h1 ht hnb
  have plb : ∀ k, k < sb → f.1 1 (tn (f.1 8 (b * 140 + k))) = nI b := fun k hk => ht b sb k (by rw [nbt h1]; exact hbnb) hsb7 hsb hk
  have pln : ∀ k, k < sn → f.1 1 (tn (f.1 8 (n * 140 + k))) = nI n := fun k hk => ht n sn k (by rw [nbt h1]; exact hnb) hsn7 hsn hk
  have ent : ∀ k, k < sn → ∃ v, v < nv ∧ f.1 8 (n * 140 + k) = nI v ∧ f.1 1 v = nI n := fun k hk => by
    obtain ⟨v, hv, ev, -⟩ := n1 k hk
    have := pln k hk
    rw [ev, tn_nI (by omega)] at this
    exact ⟨v, hv, ev, this⟩
  -- PHIs stand first
  obtain ⟨m, hm, hpref⟩ := pref_of (P := fun k => f.1 0 (tn (f.1 8 (n * 140 + k))) = 9) sn fun i j hij hj hp => by
    obtain ⟨u, hu, eu, -⟩ := ent j hj
    obtain ⟨z, hz, ez, -⟩ := ent i (by omega)
    rw [eu, tn_nI (by omega)] at hp
    rw [ez, tn_nI (by omega)]
    have gj : (frw f n)[j]? = some u := by rw [frw_get hsn7 hsn, if_pos hj, eu, tn_nI (by omega)]
    have gi : (frw f n)[i]? = some z := by rw [frw_get hsn7 hsn, if_pos (by omega), ez, tn_nI (by omega)]
    obtain ⟨l1, l2, q1, q2⟩ := at_split _ _ _ gj
    have := h2.1.1.2.2.2.2 n l1 u l2 hCn (by rw [ln]; exact q1) (by show tn (f.1 0 u) = 9; rw [hp]; rfl) z (q2 i z hij gi)
    exact (kd_nI h1 hz (by decide)).mp this
  have hsum : sb + (sn - m) ≤ 140 := by
    have hlen : ((frw f b) ++ (frw f n)).length ≤ nv := by
      refine nodup_len nv _ (List.nodup_append.mpr ⟨by rw [← lb]; exact h2.1.1.2.1 b hb, by rw [← ln]; exact h2.1.1.2.1 n hCn, fun x hx y hy e => ?_⟩) fun x hx => ?_
      · rw [← lb, fS_ls_mem h1] at hx
        rw [← ln, fS_ls_mem h1] at hy
        rw [← e, hx.2.2] at hy
        exact hnn (nI_inj (by omega) (by omega) hy.2.2.symm)
      · rcases List.mem_append.mp hx with q | q
        · rw [← lb, fS_ls_mem h1] at q
          exact q.2.1
        · rw [← ln, fS_ls_mem h1] at q
          exact q.2.1
    rw [List.length_append] at hlen
    unfold frw at hlen
    rw [hsb7, hsn7, tn_nI (by omega), tn_nI (by omega), List.length_map, List.length_map, List.length_range, List.length_range] at hlen
    omega
  have key : (fun g => ∃ f1, ph1 f nb nv T n m f1 ∧ movd f1 g b n m sn sb sn) (Joiner_moveValues f (nI b) (nI n)) := by
    unfold Joiner_moveValues Joiner_moveValues_L2
    refine loop_cnt (B := fun a : Int32 × Ob => Joiner_moveValues_L2b a.2 (nI b) (nI n) a.1) (mk := fun i (s : Ob) => (nI i, s)) (n := sn)
      (I := fun i s => (i ≤ m ∧ ph1 f nb nv T n i s) ∨ (m ≤ i ∧ ∃ f1, ph1 f nb nv T n m f1 ∧ movd f1 s b n m sn sb i))
      (P := fun g => ∃ f1, ph1 f nb nv T n m f1 ∧ movd f1 g b n m sn sb sn) (fun i s hi hI => ?_) (fun s hI => ?_) sn 0 f (by omega) (Or.inl ⟨Nat.zero_le _, hF, nwF.rf f, stay.rf f, fun u _ => by rw [if_neg (fun z => by obtain ⟨j, hj, -⟩ := z; omega)]⟩)
    · obtain ⟨v, hv, evk, epl⟩ := ent i hi
      by_cases him : i < m
      · have hp1 : ph1 f nb nv T n i s := by
          rcases hI with h | h
          · exact h.2
          · omega
        have h9 : f.1 0 v = 9 := by
          have := (hpref i hi).mpr him
          rw [evk, tn_nI (by omega)] at this
          exact this
        have st := hp1.2.2.1.1
        refine ⟨Form_replace s (nI v) (Form_valueOf s (nI v) 0) (Form_numberOf s (nI v) 0), ?_, Or.inl ⟨him, ph1_step (m := m) h1 hn10 hi hsn hv evk n2 h9 epl hCn hed hp1⟩⟩
        show Joiner_moveValues_L2b s (nI b) (nI n) (nI i) = _
        unfold Joiner_moveValues_L2b Joiner_moveValues_79
        rw [oat_rs hn10 (by decide), st 7 (by decide) (by decide) (by decide) (by decide), hsn7, if_pos (show nI i < nI sn from nI_lt hi (by omega)), valueIn_eq (by omega), st 8 (by decide) (by decide) (by decide) (by decide), evk, oat_rs (show v < 140 by omega) (by decide), st 0 (by decide) (by decide) (by decide) (by decide), h9, if_pos rfl, nI_1]
      · obtain ⟨f1, p1, p2⟩ : ∃ f1, ph1 f nb nv T n m f1 ∧ movd f1 s b n m sn sb i := by
          rcases hI with h | h
          · have : i = m := by omega
            subst this
            exact ⟨s, h.2, movd_0 (by rw [h.2.2.2.1.1 7 (by decide) (by decide) (by decide) (by decide)]; exact hsb7)⟩
          · exact h.2
        have h9 : ¬ f.1 0 v = 9 := fun q => him ((hpref i hi).mp (by rw [evk, tn_nI (by omega)]; exact q))
        have st := p1.2.2.1.1
        have hv1 : f1.1 1 v = nI n := by
          rw [p1.2.2.2 v (by omega), if_neg]
          · exact epl
          · rintro ⟨j, hj, ej⟩
            have := n2 j i (by omega) hi (ej.trans evk.symm)
            omega
        have e8 : f1.1 8 = f.1 8 := st 8 (by decide) (by decide) (by decide) (by decide)
        have hsv : s.1 1 v = nI n := by
          rw [p2.2.2.1 v (by omega), if_neg]
          · exact hv1
          · rintro ⟨j, hj, hmj, ej⟩
            rw [e8] at ej
            have := n2 j i (by omega) hi (ej.trans evk.symm)
            omega
        have s8 : s.1 8 (n * 140 + i) = nI v := by
          rw [p2.2.2.2.2, if_neg (by omega), e8]
          exact evk
        refine ⟨Form_putInto s (nI v) (nI b), ?_, Or.inr ⟨by omega, f1, p1, movd_s hb10 hn10 hnn.symm (by omega) hi hsn hsum (by omega) (by rw [e8]; exact evk) p2⟩⟩
        show Joiner_moveValues_L2b s (nI b) (nI n) (nI i) = _
        unfold Joiner_moveValues_L2b Joiner_moveValues_79
        rw [oat_rs hn10 (by decide), p2.2.2.2.1, if_neg hnn, st 7 (by decide) (by decide) (by decide) (by decide), hsn7, if_pos (show nI i < nI sn from nI_lt hi (by omega)), valueIn_eq (by omega), s8, oat_rs (show v < 140 by omega) (by decide), p2.2.1 0 (by decide) (by decide) (by decide), st 0 (by decide) (by decide) (by decide) (by decide), if_neg h9, oat_rs (show v < 140 by omega) (by decide), hsv, if_pos rfl, nI_1]
    · obtain ⟨f1, p1, p2⟩ : ∃ f1, ph1 f nb nv T n m f1 ∧ movd f1 s b n m sn sb sn := by
        rcases hI with h | h
        · have : sn = m := by omega
          subst this
          exact ⟨s, h.2, movd_0 (by rw [h.2.2.2.1.1 7 (by decide) (by decide) (by decide) (by decide)]; exact hsb7)⟩
        · exact h.2
      refine ⟨s, ?_, f1, p1, p2⟩
      show Joiner_moveValues_L2b s (nI b) (nI n) (nI sn) = _
      unfold Joiner_moveValues_L2b
      rw [oat_rs hn10 (by decide), p2.2.2.2.1, if_neg hnn, p1.2.2.1.1 7 (by decide) (by decide) (by decide) (by decide), hsn7, if_neg (show ¬ nI sn < nI sn from nI_nlt (Nat.le_refl _) (by omega))]
  obtain ⟨f1, p1, p2⟩ := key
  generalize Joiner_moveValues f (nI b) (nI n) = g at p2
  obtain ⟨F1, nw1, st, pl1⟩ := p1
  have z := st.1
  have e7 : f1.1 7 = f.1 7 := z 7 (by decide) (by decide) (by decide) (by decide)
  have e8 : f1.1 8 = f.1 8 := z 8 (by decide) (by decide) (by decide) (by decide)
  have e0 : f1.1 0 = f.1 0 := z 0 (by decide) (by decide) (by decide) (by decide)
  have hC1 : fC f1 = fC f := fC_congr (st.2.1 1 (by decide))
  -- places in f1
  have q1 : ∀ k, k < m → f1.1 1 (tn (f1.1 8 (n * 140 + k))) = -1 := fun k hk => by
    obtain ⟨v, hv, ev, -⟩ := ent k (by omega)
    rw [e8, ev, tn_nI (by omega), pl1 v (by omega), if_pos ⟨k, hk, ev⟩]
  have q2 : ∀ k, m ≤ k → k < sn → f1.1 1 (tn (f1.1 8 (n * 140 + k))) = nI n ∧ f1.1 0 (tn (f1.1 8 (n * 140 + k))) ≠ 9 := fun k hmk hk => by
    obtain ⟨v, hv, ev, epl⟩ := ent k hk
    have hn9 : ¬ f.1 0 v = 9 := fun q => by
      have := (hpref k hk).mp (by rw [ev, tn_nI (by omega)]; exact q)
      omega
    rw [e8, ev, tn_nI (by omega), e0, pl1 v (by omega), if_neg]
    · exact ⟨epl, hn9⟩
    · rintro ⟨j, hj, ej⟩
      have := n2 j k (by omega) hk (ej.trans ev.symm)
      omega
  have keepc : ∀ c s k, c < nb → c ≠ n → f.1 7 c = nI s → s ≤ 140 → k < s → f1.1 1 (tn (f1.1 8 (c * 140 + k))) = nI c := fun c s k hc hcn hs hs1 hk => by
    obtain ⟨s', hs', hs7', y1, y2, y3⟩ := hL c (by omega)
    have : s' = s := nI_inj (by omega) (by omega) (hs7'.symm.trans hs)
    subst this
    obtain ⟨v, hv, ev, -⟩ := y1 k hk
    have hpc := ht c s' k (by rw [nbt h1]; exact hc) hs hs1 hk
    rw [ev, tn_nI (by omega)] at hpc
    rw [e8, ev, tn_nI (by omega), pl1 v (by omega), if_neg]
    · exact hpc
    · rintro ⟨j, hj, ej⟩
      have := pln j (by omega)
      rw [ej, tn_nI (by omega), hpc] at this
      exact hcn (nI_inj (by omega) (by omega) this)
  obtain ⟨w1, w2, w3, w4, w5⟩ := movd_CI F1.1 hbnb hn10 hnn.symm hm (by rw [e7]; exact hsn7) hsn (by rw [e7]; exact hsb7) hsb (fun k hk => keepc b sb k hbnb hnn.symm hsb7 hsb hk) q1 q2 hsum p2
  have ed1 : aEd (fS f1) n = [b * 2] := by
    have hl : (aEd (fS f1) n).length = 1 := by
      show (if n < 10 then fed f1 n else []).length = 1
      rw [if_pos hn10]
      unfold fed
      rw [z 9 (by decide) (by decide) (by decide) (by decide), hed, List.length_map, List.length_range]
      rfl
    have hm' : b * 2 + 0 ∈ aEd (fS f1) n := F1.2.1.1.2.1.2.2.2.1 n b 0 (by rw [hC1]; exact hCn) (by rw [hC1]; exact hb) (by
      show 0 < tn (f1.1 11 b)
      rw [z 11 (by decide) (by decide) (by decide) (by decide), hk1]
      decide) (by
      show (if b * 2 + 0 < 20 then ftg f1 (b * 2 + 0) else none) = some n
      rw [if_pos (by omega)]
      unfold ftg
      rw [z 12 (by decide) (by decide) (by decide) (by decide), show b * 2 + 0 = b * 2 by omega, htg, if_neg (nI_m1 (by omega)), tn_nI (by omega)])
    match hl2 : aEd (fS f1) n, hl with
    | [x], _ =>
      rw [hl2, List.mem_singleton] at hm'
      rw [← hm']
      rfl
  refine ⟨f1, F1, nw1, ⟨by rw [hC1]; exact hb, ?_, ?_, hnn, ed1, fun v hv => ?_⟩, st.2.1 1 (by decide), w1, w2, w3, w5 T F1.2.2.2, fun i hi => by rw [p2.1]; exact st.2.1 i hi, by rw [p2.1]; exact st.2.2, fun c s k hc hcn hs hs1 hk => ?_⟩
  · show tn (f1.1 11 b) = 1
    rw [z 11 (by decide) (by decide) (by decide) (by decide), hk1]
    rfl
  · show (if b * 2 < 20 then ftg f1 (b * 2) else none) = some n
    rw [if_pos (by omega)]
    unfold ftg
    rw [z 12 (by decide) (by decide) (by decide) (by decide), htg, if_neg (nI_m1 (by omega)), tn_nI (by omega)]
  · obtain ⟨-, hv', pv⟩ := (fS_ls_mem F1.1).mp hv
    have hne : ¬ ∃ j, j < m ∧ f.1 8 (n * 140 + j) = nI v := fun q => by
      rw [pl1 v (by omega), if_pos q] at pv
      exact nI_m1 (a := n) (by omega) pv.symm
    rw [pl1 v (by omega), if_neg hne] at pv
    obtain ⟨k, hk, ek⟩ := n3 v hv' pv
    intro h9
    have h9' := (kd_nI F1.1 hv' (by decide)).mp h9
    rw [e0] at h9'
    exact hne ⟨k, (hpref k hk).mp (by rw [ek, tn_nI (by omega)]; exact h9'), ek⟩
  · by_cases hcb : c = b
    · rw [hcb] at hs ⊢
      rw [p2.2.2.2.1, if_pos rfl] at hs
      have : sb + (sn - m) = s := nI_inj (by omega) (by omega) hs
      exact w4 k (by omega)
    · rw [p2.2.2.2.1, if_neg hcb, e7] at hs
      have hpc := keepc c s k hc hcn hs hs1 hk
      obtain ⟨s', hs', hs7', y1, y2, y3⟩ := hL c (by omega)
      have : s' = s := nI_inj (by omega) (by omega) (hs7'.symm.trans hs)
      subst this
      obtain ⟨v, hv, ev, -⟩ := y1 k hk
      rw [p2.2.2.2.2, if_neg (by omega)]
      rw [e8, ev, tn_nI (by omega)] at hpc ⊢
      rw [p2.2.2.1 v (by omega), if_neg]
      · exact hpc
      · rintro ⟨j, hj, hmj, ej⟩
        have := (q2 j hmj hj).1
        rw [ej, tn_nI (by omega), hpc] at this
        exact hcn (nI_inj (by omega) (by omega) this)
end JOINER
