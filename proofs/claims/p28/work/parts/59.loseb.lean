/-! A BLOCK IS LOST, in rows -/
section LOSEB
variable {f g : Ob} {nb nv : Nat}
theorem thc_off {n : Nat} (hn : n < 10) (hb : bt (f.2.1 1) n = true) (h : ∀ b, b < 10 → bt (g.2.1 1) b = (bt (f.2.1 1) b && !decide (b = n))) : thc g + 1 = thc f := by
  unfold thc
  rw [← len_filter_one (p := fun b => bt (f.2.1 1) b) (v := n) (List.range 10) List.nodup_range (List.mem_range.mpr hn) hb]
  congr 2
  exact List.filter_congr fun w hw => h w (List.mem_range.mp hw)
theorem loseBlock_CI (h : CI f nb nv) {n : Nat} (hn : n < 10) (hb : bt (f.2.1 1) n = true) : CI (Form_loseBlock f (nI n)) nb nv ∧ fS (Form_loseBlock f (nI n)) = aLose (fS f) n ∧ fP (Form_loseBlock f (nI n)) = plL (fP f) n ∧ (∀ b, b < 32 → bt ((Form_loseBlock f (nI n)).2.1 1) b = (bt (f.2.1 1) b && !decide (b = n))) ∧ (∀ i, i ≠ 1 → i ≠ 3 → i ≠ 7 → i ≠ 9 → (Form_loseBlock f (nI n)).1 i = f.1 i) ∧ (∀ i, i ≠ 1 → i ≠ 5 → (Form_loseBlock f (nI n)).2.1 i = f.2.1 i) ∧ (Form_loseBlock f (nI n)).2.2 = f.2.2 ∧ (∀ u, u < nv → (Form_loseBlock f (nI n)).1 1 u = if f.1 1 u = nI n then -1 else f.1 1 u) ∧ (∀ c, (Form_loseBlock f (nI n)).1 7 c = if c = n then 0 else f.1 7 c) ∧ (∀ c, (Form_loseBlock f (nI n)).1 9 c = if c = n then 0 else f.1 9 c) ∧ ∀ T, KT f nv T → KT (Form_loseBlock f (nI n)) nv T := by
  obtain ⟨hI, hA, hV, hL, hE⟩ := id h
  obtain ⟨E1, E2, E3, E4⟩ := id hE
  obtain ⟨s, hs, hs7, q1, q2, q3⟩ := hL n hn
  have hnv := hI.2.2.2.2.2
  unfold Form_loseBlock Form_loseBlock_L2
  refine loop_cnt (B := fun a : Int32 × Ob => Form_loseBlock_L2b a.2 (nI n) a.1) (mk := fun i (s : Ob) => (nI i, s)) (n := s)
    (I := fun i g => CI g nb nv ∧ (∀ j, j ≠ 1 → j ≠ 3 → g.1 j = f.1 j) ∧ (∀ u, u < 140 → g.1 1 u = if (∃ j, j < i ∧ f.1 8 (n * 140 + j) = nI u) ∧ f.1 1 u = nI n then -1 else f.1 1 u) ∧ (∀ u, u < 150 → g.1 3 u = if (∃ j, j < i ∧ f.1 8 (n * 140 + j) = nI u) ∧ f.1 1 u = nI n ∧ u < 140 then 0 else f.1 3 u) ∧ (∀ j, j ≠ 5 → g.2.1 j = f.2.1 j) ∧ g.2.2 = f.2.2 ∧ ∀ T, KT f nv T → KT g nv T)
    (P := fun g => CI g nb nv ∧ fS g = aLose (fS f) n ∧ fP g = plL (fP f) n ∧ (∀ b, b < 32 → bt (g.2.1 1) b = (bt (f.2.1 1) b && !decide (b = n))) ∧ (∀ i, i ≠ 1 → i ≠ 3 → i ≠ 7 → i ≠ 9 → g.1 i = f.1 i) ∧ (∀ i, i ≠ 1 → i ≠ 5 → g.2.1 i = f.2.1 i) ∧ g.2.2 = f.2.2 ∧ (∀ u, u < nv → g.1 1 u = if f.1 1 u = nI n then -1 else f.1 1 u) ∧ (∀ c, g.1 7 c = if c = n then 0 else f.1 7 c) ∧ (∀ c, g.1 9 c = if c = n then 0 else f.1 9 c) ∧ ∀ T, KT f nv T → KT g nv T)
    (fun i g hi hI => ?_) (fun g hI => ?_) s 0 f (by omega) ⟨h, fun _ _ _ => rfl, fun u _ => by rw [if_neg (fun z => by obtain ⟨⟨j, hj, -⟩, -⟩ := z; omega)], fun u _ => by rw [if_neg (fun z => by obtain ⟨⟨j, hj, -⟩, -⟩ := z; omega)], fun _ _ => rfl, rfl, fun _ q => q⟩
  · obtain ⟨i1, i2, i3, i4, i5, i6, i7⟩ := hI
    obtain ⟨v, hv, hvk, -⟩ := q1 i hi
    have hv140 : v < 140 := by omega
    have hnot : ¬ ((∃ j, j < i ∧ f.1 8 (n * 140 + j) = nI v)) := fun z => by
      obtain ⟨j, hj, ej⟩ := z
      have := q2 j i (by omega) hi (ej.trans hvk.symm)
      omega
    have hgv : g.1 1 v = f.1 1 v := by rw [i3 v hv140, if_neg fun z => hnot z.1]
    have hB : Form_loseBlock_L2b g (nI n) (nI i) = if f.1 1 v = nI n then .inl (nI (i + 1), Form_lose g (nI v)) else .inl (nI (i + 1), g) := by
      unfold Form_loseBlock_L2b Form_loseBlock_38
      rw [oat_rs hn (by decide), i2 7 (by decide) (by decide), hs7, if_pos (show nI i < nI s from nI_lt hi (by omega)), valueIn_eq (by omega), i2 8 (by decide) (by decide), hvk, oat_rs hv140 (by decide), hgv, nI_1]
    have hnew : ∀ u, u < 150 → u ≠ v → ((∃ j, j < i + 1 ∧ f.1 8 (n * 140 + j) = nI u) ↔ ∃ j, j < i ∧ f.1 8 (n * 140 + j) = nI u) := fun u hu huv => by
      constructor
      · rintro ⟨j, hj, ej⟩
        have : j ≠ i := fun e => by
          rw [e, hvk] at ej
          exact huv (nI_inj (by omega) (by omega) ej.symm)
        exact ⟨j, by omega, ej⟩
      · rintro ⟨j, hj, ej⟩
        exact ⟨j, by omega, ej⟩
    by_cases hp : f.1 1 v = nI n
    · have hv6 : 6 ≤ v := by
        refine Nat.le_of_not_lt fun q => ?_
        have := ((hV v hv).2.2 q).1
        rw [hp] at this
        exact nI_m1 (a := n) (by omega) this
      obtain ⟨k1, k2, k3, k4, k5, k6, k7, k8, k9, k10⟩ := lose_CI i1 hv hv6 (by rw [hgv, hp]; exact nI_m1 (by omega))
      refine ⟨Form_lose g (nI v), by show Form_loseBlock_L2b g (nI n) (nI i) = _; rw [hB, if_pos hp], k1, fun j a b => (k4 j a b).trans (i2 j a b), fun u hu => ?_, fun u hu => ?_, fun j a => (k6 j a).trans (i5 j a), k8.trans i6, fun T hT => k10 T (i7 T hT)⟩
      · rw [k5]
        by_cases huv : u = v
        · subst huv
          rw [if_pos rfl, if_pos ⟨⟨i, by omega, hvk⟩, hp⟩]
        · rw [if_neg huv, i3 u hu]
          have := hnew u (by omega) huv
          by_cases z : (∃ j, j < i ∧ f.1 8 (n * 140 + j) = nI u) ∧ f.1 1 u = nI n
          · rw [if_pos z, if_pos ⟨this.mpr z.1, z.2⟩]
          · rw [if_neg z, if_neg fun y => z ⟨this.mp y.1, y.2⟩]
      · rw [k9]
        by_cases huv : u = v
        · subst huv
          rw [if_pos rfl, if_pos ⟨⟨i, by omega, hvk⟩, hp, hv140⟩]
        · rw [if_neg huv, i4 u hu]
          have := hnew u (by omega) huv
          by_cases z : (∃ j, j < i ∧ f.1 8 (n * 140 + j) = nI u) ∧ f.1 1 u = nI n ∧ u < 140
          · rw [if_pos z, if_pos ⟨this.mpr z.1, z.2⟩]
          · rw [if_neg z, if_neg fun y => z ⟨this.mp y.1, y.2⟩]
    · refine ⟨g, by show Form_loseBlock_L2b g (nI n) (nI i) = _; rw [hB, if_neg hp], i1, i2, fun u hu => ?_, fun u hu => ?_, i5, i6, i7⟩
      · rw [i3 u hu]
        by_cases huv : u = v
        · subst huv
          rw [if_neg fun z => hp z.2, if_neg fun z => hp z.2]
        · have := hnew u (by omega) huv
          by_cases z : (∃ j, j < i ∧ f.1 8 (n * 140 + j) = nI u) ∧ f.1 1 u = nI n
          · rw [if_pos z, if_pos ⟨this.mpr z.1, z.2⟩]
          · rw [if_neg z, if_neg fun y => z ⟨this.mp y.1, y.2⟩]
      · rw [i4 u hu]
        by_cases huv : u = v
        · subst huv
          rw [if_neg fun z => hp z.2.1, if_neg fun z => hp z.2.1]
        · have := hnew u (by omega) huv
          by_cases z : (∃ j, j < i ∧ f.1 8 (n * 140 + j) = nI u) ∧ f.1 1 u = nI n ∧ u < 140
          · rw [if_pos z, if_pos ⟨this.mpr z.1, z.2⟩]
          · rw [if_neg z, if_neg fun y => z ⟨this.mp y.1, y.2⟩]
  · obtain ⟨i1, i2, i3, i4, i5, i6, i7⟩ := hI
    generalize hr : (oG (oG (oput (oput (oput g 7 10 (nI n) 0) 9 10 (nI n) 0) 3 150 ((140 : Int32) + nI n) 0) 1 ((g.2.1 1) &&& ((Ph_bit (nI n)) ^^^ (-1)))) 5 ((g.2.1 5) + 1)) = r
    refine ⟨r, ?_, ?_⟩
    · show Form_loseBlock_L2b g (nI n) (nI s) = _
      unfold Form_loseBlock_L2b
      rw [oat_rs hn (by decide), i2 7 (by decide) (by decide), hs7, if_neg (show ¬ nI s < nI s from nI_nlt (Nat.le_refl _) (by omega)), ← hr]
    · rw [ix140u, oput_rs hn (by decide), oput_rs hn (by decide), oput_rs (show 140 + n < 150 by omega) (by decide)] at hr
      have r2 : ∀ j, r.2.1 j = if j = 5 then g.2.1 5 + 1 else if j = 1 then (g.2.1 1) &&& ((Ph_bit (nI n)) ^^^ (-1)) else g.2.1 j := fun j => by
        rw [← hr, oG_i]
        by_cases q : j = 5
        · rw [if_pos q, if_pos q]
        · rw [if_neg q, if_neg q, oG_i]
          rfl
      have rb : r.2.2 = f.2.2 := by rw [← hr, oG_b, oG_b]; exact i6
      have rr : ∀ j, j ≠ 3 → j ≠ 7 → j ≠ 9 → r.1 j = g.1 j := fun j a b c => by rw [← hr, oG_1, oG_1, rs_r _ _ _ _ a, rs_r _ _ _ _ c, rs_r _ _ _ _ b]
      have r3 : ∀ u, r.1 3 u = if u = 140 + n then 0 else g.1 3 u := fun u => by rw [← hr, oG_1, oG_1, rs_i, rs_r _ _ _ _ (show 3 ≠ 9 by decide), rs_r _ _ _ _ (show 3 ≠ 7 by decide)]
      have r7 : ∀ c, r.1 7 c = if c = n then 0 else f.1 7 c := fun c => by rw [← hr, oG_1, oG_1, rs_r _ _ _ _ (show 7 ≠ 3 by decide), rs_r _ _ _ _ (show 7 ≠ 9 by decide), rs_i, i2 7 (by decide) (by decide)]
      have r9 : ∀ c, r.1 9 c = if c = n then 0 else f.1 9 c := fun c => by rw [← hr, oG_1, oG_1, rs_r _ _ _ _ (show 9 ≠ 3 by decide), rs_i, rs_r _ _ _ _ (show 9 ≠ 7 by decide), i2 9 (by decide) (by decide)]
      have r1 : r.1 1 = g.1 1 := rr 1 (by decide) (by decide) (by decide)
      have ro : ∀ j, j ≠ 1 → j ≠ 3 → j ≠ 7 → j ≠ 9 → r.1 j = f.1 j := fun j a b c d => (rr j b c d).trans (i2 j a b)
      have o0 := ro 0 (by decide) (by decide) (by decide) (by decide)
      have o4 := ro 4 (by decide) (by decide) (by decide) (by decide)
      have o5 := ro 5 (by decide) (by decide) (by decide) (by decide)
      have o6 := ro 6 (by decide) (by decide) (by decide) (by decide)
      have o8 := ro 8 (by decide) (by decide) (by decide) (by decide)
      have o10 := ro 10 (by decide) (by decide) (by decide) (by decide)
      have o11 := ro 11 (by decide) (by decide) (by decide) (by decide)
      have o12 := ro 12 (by decide) (by decide) (by decide) (by decide)
      have p1 : ∀ u, u < nv → r.1 1 u = if f.1 1 u = nI n then -1 else f.1 1 u := fun u hu => by
        rw [r1, i3 u (by omega)]
        by_cases q : f.1 1 u = nI n
        · rw [if_pos q, if_pos ⟨q3 u hu q, q⟩]
        · rw [if_neg q, if_neg fun z => q z.2]
      have p3 : ∀ u, u < 150 → r.1 3 u = if (u < nv ∧ f.1 1 u = nI n) ∨ u = 140 + n then 0 else f.1 3 u := fun u hu => by
        rw [r3]
        by_cases q : u = 140 + n
        · rw [if_pos q, if_pos (Or.inr q)]
        · rw [if_neg q, i4 u hu]
          by_cases z : (u < nv ∧ f.1 1 u = nI n)
          · rw [if_pos (Or.inl z), if_pos ⟨q3 u z.1 z.2, z.2, by omega⟩]
          · rw [if_neg (show ¬ ((u < nv ∧ f.1 1 u = nI n) ∨ u = 140 + n) from fun y => y.elim z q)]
            by_cases y : (∃ j, j < s ∧ f.1 8 (n * 140 + j) = nI u) ∧ f.1 1 u = nI n ∧ u < 140
            · exfalso
              obtain ⟨⟨j, hj, ej⟩, y2, y3⟩ := y
              obtain ⟨w, hw, ew, -⟩ := q1 j hj
              have : u = w := nI_inj (by omega) (by omega) (ej.symm.trans ew)
              exact z ⟨by omega, y2⟩
            · rw [if_neg y]
      have h3or : ∀ u, u < 150 → r.1 3 u = f.1 3 u ∨ r.1 3 u = 0 := fun u hu => by
        rw [p3 u hu]
        by_cases q : (u < nv ∧ f.1 1 u = nI n) ∨ u = 140 + n
        · rw [if_pos q]; exact Or.inr rfl
        · rw [if_neg q]; exact Or.inl rfl
      have bits : ∀ b, b < 32 → bt (r.2.1 1) b = (bt (f.2.1 1) b && !decide (b = n)) := fun b hb' => by
        rw [r2, if_neg (by decide), if_pos rfl, i5 1 (by decide), b_and, bt_not hb', bit_nI (by omega) hb']
      have hCI : CI r nb nv := by
        refine ⟨⟨by rw [r2, if_neg (by decide), if_neg (by decide), i5 0 (by decide)]; exact hI.1, hI.2.1, hI.2.2.1, by rw [r2, if_neg (by decide), if_neg (by decide), i5 2 (by decide)]; exact hI.2.2.2.1, hI.2.2.2.2⟩, ⟨fun u hu => ?_, fun u u' i hu hu' a b => hA.2.1 u u' i hu hu' (segs_sub (by rw [o4]) (h3or u hu) a) (segs_sub (by rw [o4]) (h3or u' hu') b), fun u hu q => ?_⟩, fun w hw => ?_, fun b hb' => ?_, fun b hb' => ?_, by rw [o12]; exact E2, by rw [o11]; exact E3, fun b hb' q => ?_⟩
        · obtain ⟨c, a, e1, e2, e3, e4, e5, e6⟩ := hA.1 u hu
          rw [p3 u hu, o4, o5]
          by_cases q : (u < nv ∧ f.1 1 u = nI n) ∨ u = 140 + n
          · rw [if_pos q]
            exact ⟨0, a, nI_0.symm, by decide, e3, e4, fun z => by omega, fun k hk => by omega⟩
          · rw [if_neg q]
            exact ⟨c, a, e1, e2, e3, e4, e5, e6⟩
        · rw [p3 u (by omega)]
          by_cases z : (u < nv ∧ f.1 1 u = nI n) ∨ u = 140 + n
          · rw [if_pos z]
          · rw [if_neg z]
            refine hA.2.2 u hu ?_
            by_cases y : u < nv
            · refine Or.inr ?_
              have q' := q.resolve_left (by omega)
              rw [p1 u y, if_neg fun e => z (Or.inl ⟨y, e⟩)] at q'
              exact q'
            · exact Or.inl (by omega)
        · obtain ⟨y1, y2, y3⟩ := hV w hw
          rw [o0, p1 w hw]
          refine ⟨y1, ?_, fun q => ?_⟩
          · by_cases z : f.1 1 w = nI n
            · rw [if_pos z]; exact Or.inl rfl
            · rw [if_neg z]; exact y2
          · have := y3 q
            rw [if_neg (fun e => nI_m1 (a := n) (by omega) (e.symm.trans this.1))]
            exact this
        · obtain ⟨s', hs', hs7', y1, y2, y3⟩ := hL b hb'
          by_cases hbn : b = n
          · refine ⟨0, by decide, by rw [r7, if_pos hbn]; exact nI_0.symm, fun k hk => by omega, fun k k' hk => by omega, fun v hv e => ?_⟩
            rw [p1 v hv, hbn] at e
            by_cases z : f.1 1 v = nI n
            · rw [if_pos z] at e
              exact absurd e.symm (nI_m1 (by omega))
            · rw [if_neg z] at e
              exact absurd e z
          · refine ⟨s', hs', by rw [r7, if_neg hbn]; exact hs7', fun k hk => ?_, by rw [o8]; exact y2, fun v hv e => ?_⟩
            · rw [o8, o0]
              obtain ⟨w, hw, ew, e9⟩ := y1 k hk
              refine ⟨w, hw, ew, fun z => ?_⟩
              rw [p1 w hw]
              by_cases y : f.1 1 w = nI n
              · rw [if_pos y]; exact Or.inr rfl
              · rw [if_neg y]; exact e9 z
            · rw [p1 v hv] at e
              rw [o8]
              by_cases z : f.1 1 v = nI n
              · rw [if_pos z] at e
                exact absurd e.symm (nI_m1 (by omega))
              · rw [if_neg z] at e
                exact y3 v hv e
        · unfold eOk
          rw [r9, o10]
          by_cases hbn : b = n
          · rw [if_pos hbn]
            exact ⟨0, by decide, nI_0.symm, fun k hk => by omega⟩
          · rw [if_neg hbn]
            exact E1 b hb'
        · rw [bits b hb'] at q
          exact E4 b hb' (by revert q; cases bt (f.2.1 1) b <;> simp)
      refine ⟨hCI, AF_ext (fun v => ?_) (fun u => ?_) (fun b => ?_) (fun b => ?_) (fun b => ?_) (fun x => ?_), ?_, bits, ro, fun j a b => ?_, rb, p1, r7, r9, fun T hT => ?_⟩
      · show tn (r.1 0 v) = tn (f.1 0 v)
        rw [o0]
      · show (if u < 150 then fag r u else []) = if u ∈ aLs (fS f) n ∨ u = 140 + n then [] else if u < 150 then fag f u else []
        by_cases hu : u < 150
        · rw [if_pos hu, if_pos hu]
          by_cases z : u ∈ aLs (fS f) n ∨ u = 140 + n
          · rw [if_pos z]
            refine fag_nil ?_
            rw [p3 u hu, if_pos]
            exact z.imp (fun y => ((fS_ls_mem h).mp y).2) id
          · rw [if_neg z]
            refine fag_congr ?_ (by rw [o4]) fun i _ => by rw [o5, o6]; exact ⟨rfl, rfl⟩
            rw [p3 u hu, if_neg]
            exact fun y => z (y.imp (fun y => (fS_ls_mem h).mpr ⟨hn, y.1, y.2⟩) id)
        · rw [if_neg hu, if_neg hu]
          split <;> rfl
      · show (if b < 10 then (frw r b).filter (fun z => decide (r.1 1 z = nI b)) else []) = if b = n then [] else if b < 10 then (frw f b).filter (fun z => decide (f.1 1 z = nI b)) else []
        by_cases hbn : b = n
        · rw [if_pos hbn]
          have : frw r b = [] := by unfold frw; rw [r7, if_pos hbn]; rfl
          rw [this]
          split <;> rfl
        · rw [if_neg hbn]
          by_cases hb' : b < 10
          · rw [if_pos hb', if_pos hb', frw_congr (f := f) (by rw [r7, if_neg hbn]) fun k _ => by rw [o8]]
            refine List.filter_congr fun z hz => ?_
            obtain ⟨s', hs', hs7', y1, -, -⟩ := hL b hb'
            obtain ⟨k, hk, e⟩ := (frw_mem hs7' hs' z).mp hz
            obtain ⟨w, hw, ew, -⟩ := y1 k hk
            rw [ew, tn_nI (by omega)] at e
            subst e
            rw [p1 w hw]
            by_cases y : f.1 1 w = nI n
            · have n1 : ¬ (-1 : Int32) = nI b := fun e => nI_m1 (a := b) (by omega) e.symm
              have n2 : ¬ nI n = nI b := fun e => hbn (nI_inj (by omega) (by omega) e.symm)
              rw [if_pos y, y, decide_eq_false n1, decide_eq_false n2]
            · rw [if_neg y]
          · rw [if_neg hb', if_neg hb']
      · show (if b < 10 then fed r b else []) = if b = n then [] else if b < 10 then fed f b else []
        by_cases hbn : b = n
        · rw [if_pos hbn]
          have : fed r b = [] := by unfold fed; rw [r9, if_pos hbn]; rfl
          rw [this]
          split <;> rfl
        · rw [if_neg hbn, fed_congr (f := f) (by rw [r9, if_neg hbn]) fun k _ => by rw [o10]]
      · show tn (r.1 11 b) = tn (f.1 11 b)
        rw [o11]
      · show (if x < 20 then ftg r x else none) = if x < 20 then ftg f x else none
        unfold ftg
        rw [o12]
      · funext v
        unfold plL
        by_cases z : fP f v = some n
        · rw [if_pos z]
          obtain ⟨y1, y2, -⟩ := (fP_some h).mp z
          exact (fP_none hCI).mpr (Or.inr (by rw [p1 v y1, if_pos y2]))
        · rw [if_neg z]
          have e2 : r.2.1 2 = f.2.1 2 := by rw [r2, if_neg (by decide), if_neg (by decide), i5 2 (by decide)]
          have hf2 := hI.2.2.2.1
          by_cases hv : v < nv
          · have hz : ¬ f.1 1 v = nI n := fun e => z ((fP_some h).mpr ⟨hv, e, by
              obtain ⟨c, hc, ec⟩ := (hV v hv).2.1.resolve_left (by rw [e]; exact nI_m1 (by omega))
              have : c = n := nI_inj (by have := hI.2.2.1; omega) (by omega) (ec.symm.trans e)
              omega⟩)
            unfold fP
            rw [e2, p1 v hv, if_neg hz]
          · have a1 := (fP_none hCI (v := v)).mpr (Or.inl (by omega))
            have a2 := (fP_none h (v := v)).mpr (Or.inl (by omega))
            rw [a1, a2]
      · rw [r2, if_neg b, if_neg a]
        exact i5 j b
      · obtain ⟨gn, k1, k2⟩ := i7 T hT
        refine ⟨gn + 1, by rw [r2, if_pos rfl, k1, nI_1], ?_⟩
        have t1 := thc_off (f := f) (g := r) hn hb fun b hb' => bits b (by omega)
        have t2 : thc g = thc f := by unfold thc; rw [i5 1 (by decide)]
        have t3 : cntV r nv = cntV g nv := cntV_congr r1
        omega
end LOSEB
