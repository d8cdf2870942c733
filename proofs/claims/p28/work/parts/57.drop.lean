/-! AN EDGE IS DROPPED, in rows -/
section DROP
variable {f g : Ob} {nb nv : Nat}
theorem fed_get2 {b e k : Nat} (he : f.1 9 b = nI e) (he1 : e ≤ 20) : (fed f b)[k]? = if k < e then some (tn (f.1 10 (b * 20 + k))) else none := by
  by_cases h : k < e
  · rw [if_pos h]; exact fed_get he he1 h
  · rw [if_neg h, List.getElem?_eq_none]
    unfold fed
    rw [he, tn_nI (by omega), List.length_map, List.length_range]
    omega
theorem seg_not (h : cA f nv) {u u' i : Nat} (hu : u < 150) (hu' : u' < 150) (hne : u' ≠ u) (hi : inSeg f u' i) : ¬ inSeg f u i := fun q => hne (h.2.1 u' u i hu' hu hi q)
theorem dropArg_CI (h : CI f nb nv) {u k : Nat} (hu : u < 140) (hk : k < 290) : CI (Form_dropArgument f (nI u) (nI k)) nb nv ∧ (∀ u', u' < 150 → fag (Form_dropArgument f (nI u) (nI k)) u' = if u' = u then (fag f u).eraseIdx k else fag f u') ∧ (Form_dropArgument f (nI u) (nI k)).2 = f.2 ∧ ∀ i, i ≠ 3 → i ≠ 5 → i ≠ 6 → (Form_dropArgument f (nI u) (nI k)).1 i = f.1 i := by
  obtain ⟨hI, hA, hV, hL, hE⟩ := id h
  obtain ⟨c, a, e1, e2, e3, e4, e5, e6⟩ := hA.1 u (by omega)
  obtain ⟨d1, d2⟩ := dropArgument_eq (f := f) (show u < 150 by omega) hk e1 e2 e3 (by rcases Nat.eq_zero_or_pos c with q | q; omega; exact e5 q)
  have hlen : (fag f u).length = c := by
    unfold fag
    rw [List.length_map, List.length_range, e1, tn_nI (by omega)]
  rcases Nat.lt_or_ge k c with hkc | hkc
  · obtain ⟨r2, r, r3, r5, r6⟩ := d2 hkc
    generalize hg : Form_dropArgument f (nI u) (nI k) = g at r2 r r3 r5 r6
    have r4 := r 4 (by decide) (by decide) (by decide)
    have h3 : ∀ u', tn (g.1 3 u') ≤ tn (f.1 3 u') := fun u' => by
      rw [r3]
      by_cases q : u' = u
      · rw [if_pos q, q, e1, tn_nI (by omega), tn_nI (by omega)]; omega
      · rw [if_neg q]; exact Nat.le_refl _
    have hseg : ∀ u' i, inSeg g u' i → inSeg f u' i := fun u' i q => by
      have := h3 u'
      unfold inSeg at q ⊢
      rw [r4] at q
      omega
    have hsu : ∀ i, (a + k ≤ i ∧ i < a + c - 1) → inSeg f u i := fun i q => by
      unfold inSeg
      rw [e1, e3, tn_nI (by omega), tn_nI (by omega)]
      omega
    refine ⟨⟨by rw [r2]; exact hI, ⟨fun u' hu' => ?_, fun u1 u2 i h1 h2 q1 q2 => hA.2.1 u1 u2 i h1 h2 (hseg _ _ q1) (hseg _ _ q2), fun u' hu' q => ?_⟩, ?_, fun b hb => ?_, ?_⟩, fun u' hu' => ?_, r2, r⟩
    · obtain ⟨c', a', z1, z2, z3, z4, z5, z6⟩ := hA.1 u' hu'
      rw [r3, r4]
      by_cases q : u' = u
      · rw [if_pos q]
        refine ⟨c - 1, a, rfl, by omega, by rw [q]; exact e3, e4, fun _ => by have := e5 (by omega); omega, fun k' hk' => ?_⟩
        rw [r5]
        by_cases y : a + k ≤ a + k' ∧ a + k' < a + c - 1
        · rw [if_pos y]
          exact e6 (k' + 1) (by omega)
        · rw [if_neg y]
          exact e6 k' (by omega)
      · rw [if_neg q]
        refine ⟨c', a', z1, z2, z3, z4, z5, fun k' hk' => ?_⟩
        rw [r5, if_neg]
        · exact z6 k' hk'
        · exact fun y => seg_not hA (show u < 150 by omega) hu' q (i := a' + k') (by unfold inSeg; rw [z1, z3, tn_nI (by omega), tn_nI (by omega)]; omega) (hsu _ y)
    · rw [r 1 (by decide) (by decide) (by decide)] at q
      have h0 := hA.2.2 u' hu' q
      rw [r3]
      by_cases y : u' = u
      · rw [y, e1] at h0
        have : c = 0 := nI_inj (b := 0) (by omega) (by omega) (h0.trans nI_0.symm)
        omega
      · rw [if_neg y]; exact h0
    · unfold cV
      rw [r 0 (by decide) (by decide) (by decide), r 1 (by decide) (by decide) (by decide)]
      exact hV
    · have := hL b hb
      unfold cL1 at this ⊢
      rw [r 0 (by decide) (by decide) (by decide), r 1 (by decide) (by decide) (by decide), r 7 (by decide) (by decide) (by decide), r 8 (by decide) (by decide) (by decide)]
      exact this
    · obtain ⟨q1, q2, q3, q4⟩ := hE
      refine ⟨fun b hb => ?_, by rw [r 12 (by decide) (by decide) (by decide)]; exact q2, by rw [r 11 (by decide) (by decide) (by decide)]; exact q3, by rw [r2]; exact q4⟩
      unfold eOk
      rw [r 9 (by decide) (by decide) (by decide), r 10 (by decide) (by decide) (by decide)]
      exact q1 b hb
    · by_cases q : u' = u
      · rw [if_pos q, q]
        apply List.ext_getElem?
        intro j
        have g3 : g.1 3 u = nI (c - 1) := by rw [r3, if_pos rfl]
        have g4 : g.1 4 u = nI a := by rw [r4]; exact e3
        rw [List.getElem?_eraseIdx, fag_get g3 (by omega) g4 e4, fag_get e1 e2 e3 e4, fag_get e1 e2 e3 e4]
        have ha : ag1 g (a + j) = if a + k ≤ a + j ∧ a + j < a + c - 1 then ag1 f (a + j + 1) else ag1 f (a + j) := by
          unfold ag1
          rw [r5, r6]
          split <;> rfl
        rw [ha]
        by_cases y : j < k
        · rw [if_pos y, if_neg (show ¬ (a + k ≤ a + j ∧ a + j < a + c - 1) by omega)]
          rw [if_pos (show j < c - 1 by omega), if_pos (show j < c by omega)]
        · rw [if_neg y]
          by_cases z : j < c - 1
          · rw [if_pos z, if_pos (show a + k ≤ a + j ∧ a + j < a + c - 1 by omega), if_pos (show j + 1 < c by omega)]
            rfl
          · rw [if_neg z, if_neg (show ¬ j + 1 < c by omega)]
      · rw [if_neg q]
        refine fag_congr (by rw [r3, if_neg q]) (by rw [r4]) fun i hi => ?_
        have hn := seg_not hA (show u < 150 by omega) hu' q hi
        have hn2 : ¬ (a + k ≤ i ∧ i < a + c - 1) := fun y => hn (hsu i y)
        rw [r5, r6, if_neg hn2, if_neg hn2]
        exact ⟨rfl, rfl⟩
  · rw [d1 hkc]
    refine ⟨h, fun u' hu' => ?_, rfl, fun _ _ _ _ => rfl⟩
    by_cases q : u' = u
    · rw [if_pos q, q, List.eraseIdx_of_length_le (by rw [hlen]; exact hkc)]
    · rw [if_neg q]
/-- the row of edges moves up -/
theorem drop104 {w t e k : Nat} (hw : w < 20) (ht : t < 10) (he : e < 20) (hk : k ≤ e) : (Form_dropEdge_L104 f (nI w) (nI t) (nI (t * 20)) (nI e) (nI k)).2 = f.2 ∧ (∀ i, i ≠ 9 → i ≠ 10 → i ≠ 12 → (Form_dropEdge_L104 f (nI w) (nI t) (nI (t * 20)) (nI e) (nI k)).1 i = f.1 i) ∧ (∀ b, (Form_dropEdge_L104 f (nI w) (nI t) (nI (t * 20)) (nI e) (nI k)).1 9 b = if b = t then nI e else f.1 9 b) ∧ (∀ x, (Form_dropEdge_L104 f (nI w) (nI t) (nI (t * 20)) (nI e) (nI k)).1 12 x = if x = w then -1 else f.1 12 x) ∧ ∀ i, (Form_dropEdge_L104 f (nI w) (nI t) (nI (t * 20)) (nI e) (nI k)).1 10 i = if t * 20 + k ≤ i ∧ i < t * 20 + e then f.1 10 (i + 1) else f.1 10 i := by
  unfold Form_dropEdge_L104
  refine loop_cnt (B := fun a : Int32 × Ob => Form_dropEdge_L104b a.2 (nI w) (nI t) (nI (t * 20)) (nI e) a.1) (mk := fun i (s : Ob) => (nI (k + i), s)) (n := e - k)
    (I := fun n s => s.2 = f.2 ∧ (∀ i, i ≠ 10 → s.1 i = f.1 i) ∧ ∀ i, s.1 10 i = if t * 20 + k ≤ i ∧ i < t * 20 + k + n then f.1 10 (i + 1) else f.1 10 i)
    (P := fun g => g.2 = f.2 ∧ (∀ i, i ≠ 9 → i ≠ 10 → i ≠ 12 → g.1 i = f.1 i) ∧ (∀ b, g.1 9 b = if b = t then nI e else f.1 9 b) ∧ (∀ x, g.1 12 x = if x = w then -1 else f.1 12 x) ∧ ∀ i, g.1 10 i = if t * 20 + k ≤ i ∧ i < t * 20 + e then f.1 10 (i + 1) else f.1 10 i)
    (fun n s hn hI => ?_) (fun s hI => ?_) (e - k) 0 f (by omega) ⟨rfl, fun _ _ => rfl, fun i => by rw [if_neg (by omega)]⟩
  · obtain ⟨h1, h2, h3⟩ := hI
    refine ⟨rs s 10 (t * 20 + (k + n)) (f.1 10 (t * 20 + (k + n) + 1)), ?_, h1, fun i q => by rw [rs_r _ _ _ _ q]; exact h2 i q, fun i => ?_⟩
    · show Form_dropEdge_L104b s (nI w) (nI t) (nI (t * 20)) (nI e) (nI (k + n)) = _
      unfold Form_dropEdge_L104b
      rw [if_pos (show nI (k + n) < nI e from nI_lt (by omega) (by omega)), nI_add, nI_1, nI_1, oat_rs (by omega) (by decide), oput_rs (by omega) (by decide), h3, if_neg (by omega)]
      rfl
    · rw [rs_i, h3]
      by_cases hi : i = t * 20 + (k + n)
      · rw [if_pos hi, if_pos (by omega), hi]
      · rw [if_neg hi]
        by_cases hq : t * 20 + k ≤ i ∧ i < t * 20 + k + n
        · rw [if_pos hq, if_pos (by omega)]
        · rw [if_neg hq, if_neg (by omega)]
  · obtain ⟨h1, h2, h3⟩ := hI
    refine ⟨rs (rs s 9 t (nI e)) 12 w (-1), ?_, h1, fun i q1 q2 q3 => ?_, fun b => ?_, fun x => ?_, fun i => ?_⟩
    · show Form_dropEdge_L104b s (nI w) (nI t) (nI (t * 20)) (nI e) (nI (k + (e - k))) = _
      unfold Form_dropEdge_L104b
      rw [if_neg (show ¬ nI (k + (e - k)) < nI e from nI_nlt (by omega) (by omega)), oput_rs ht (by decide), oput_rs hw (by decide)]
    · rw [rs_r _ _ _ _ q3, rs_r _ _ _ _ q1]
      exact h2 i q2
    · rw [rs_r _ _ _ _ (show 9 ≠ 12 by decide), rs_i, h2 9 (by decide)]
    · rw [rs_i, rs_r _ _ _ _ (show 12 ≠ 9 by decide), h2 12 (by decide)]
    · rw [rs_r _ _ _ _ (show 10 ≠ 12 by decide), rs_r _ _ _ _ (show 10 ≠ 9 by decide), h3]
      by_cases hq : t * 20 + k ≤ i ∧ i < t * 20 + k + (e - k)
      · rw [if_pos hq, if_pos (by omega)]
      · rw [if_neg hq, if_neg (by omega)]
/-- what stays when edges change -/
def estay (f g : Ob) : Prop := (∀ i, i ≠ 3 → i ≠ 5 → i ≠ 6 → i ≠ 9 → i ≠ 10 → i ≠ 12 → g.1 i = f.1 i) ∧ g.2 = f.2
theorem fS_edI {t w : Nat} (ht : t < 10) : edI (fS f) t w = edI (fA f) t w := by
  unfold edI
  show (if t < 10 then fed f t else []).findIdx? _ = (fed f t).findIdx? _
  rw [if_pos ht]
theorem raw_iff (h : CI f nb nv) {t s : Nat} (ht : t < 10) (hs : f.1 7 t = nI s) (hs1 : s ≤ 140) {u : Nat} (hu : u < 150) : ((∃ j, j < s ∧ f.1 8 (t * 140 + j) = nI u) ∧ f.1 0 u = 9 → (u ∈ aLs (fS f) t ∧ aKd (fS f) u = 9) ∨ fag f u = []) ∧ ((u ∈ aLs (fS f) t ∧ aKd (fS f) u = 9) → (∃ j, j < s ∧ f.1 8 (t * 140 + j) = nI u) ∧ f.1 0 u = 9) := by
  obtain ⟨s', hs', hs7, q1, q2, q3⟩ := h.2.2.2.1 t ht
  have hnv := h.1.2.2.2.2.2
  have hss : s' = s := nI_inj (by omega) (by omega) (hs7.symm.trans hs)
  subst hss
  constructor
  · rintro ⟨⟨j, hj, e⟩, h9⟩
    obtain ⟨v, hv, ev, e9⟩ := q1 j hj
    have huv : u = v := nI_inj (by omega) (by omega) (e.symm.trans ev)
    subst huv
    rcases e9 h9 with z | z
    · exact Or.inl ⟨(fS_ls_mem h).mpr ⟨ht, hv, z⟩, by show tn (f.1 0 u) = 9; rw [h9]; rfl⟩
    · exact Or.inr (fag_nil (h.2.1.2.2 u (by omega) (Or.inr z)))
  · rintro ⟨hm, h9⟩
    obtain ⟨-, hv, z⟩ := (fS_ls_mem h).mp hm
    refine ⟨q3 u hv z, ?_⟩
    obtain ⟨kk, hkk, ek⟩ := (h.2.2.1 u hv).1
    have h9' : tn (f.1 0 u) = 9 := h9
    rw [ek, tn_nI (by omega)] at h9'
    rw [ek, h9']
    rfl
theorem dropEdge_CI (h : CI f nb nv) {w : Nat} (hw : w < 20) : CI (Form_dropEdge f (nI w)) nb nv ∧ fS (Form_dropEdge f (nI w)) = aDrop (fS f) w ∧ estay f (Form_dropEdge f (nI w)) := by
  obtain ⟨hI, hA, hV, hL, hE⟩ := id h
  obtain ⟨E1, E2, E3, E4⟩ := id hE
  have htg : aTg (fS f) w = ftg f w := if_pos hw
  have hnb := hI.2.2.1
  unfold Form_dropEdge
  rw [oat_rs hw (by decide)]
  rcases E2 w hw with hn | ⟨t, ht, hwt⟩
  · rw [hn, if_pos rfl]
    unfold Form_dropEdge_24
    rw [if_pos rfl]
    refine ⟨h, ?_, fun _ _ _ _ _ _ _ => rfl, rfl⟩
    unfold aDrop
    rw [htg]
    unfold ftg
    rw [hn, if_pos rfl]
  · have ht10 : t < 10 := by omega
    rw [hwt, if_neg (nI_m1 (by omega))]
    have htg2 : aTg (fS f) w = some t := by
      rw [htg]
      unfold ftg
      rw [hwt, if_neg (nI_m1 (by omega)), tn_nI (by omega)]
    obtain ⟨z1, z2⟩ := edge_eq (f := f) ht10 (E1 t ht10) hw
    rw [z1]
    unfold Form_dropEdge_24
    cases hed : edI (fA f) t w with
    | none =>
      rw [if_pos (show eI none = -1 from rfl)]
      refine ⟨h, ?_, fun _ _ _ _ _ _ _ => rfl, rfl⟩
      unfold aDrop
      rw [htg2]
      dsimp only
      rw [fS_edI ht10, hed]
    | some k =>
      obtain ⟨e, he1, he, hlist⟩ := E1 t ht10
      have hke : k < e := by
        have := edI_some hed
        have h2 : (fed f t)[k]? = some w := this
        rw [fed_get2 he he1] at h2
        by_cases q : k < e
        · exact q
        · rw [if_neg q] at h2; cases h2
      rw [show eI (some k) = nI k from rfl, if_neg (nI_m1 (by omega))]
      obtain ⟨s, hs, hs7, q1, q2, q3⟩ := hL t ht10
      have key : (fun g => CI g nb nv ∧ fS g = aDrop (fS f) w ∧ estay f g) (Form_dropEdge_L34 f (nI w) (nI t) (nI k) 0) := by
        unfold Form_dropEdge_L34
        refine loop_cnt (B := fun a : Int32 × Ob => Form_dropEdge_L34b a.2 (nI w) (nI t) (nI k) a.1) (mk := fun i (s : Ob) => (nI i, s)) (n := s)
          (I := fun n g => CI g nb nv ∧ g.2 = f.2 ∧ (∀ i, i ≠ 3 → i ≠ 5 → i ≠ 6 → g.1 i = f.1 i) ∧ ∀ u, u < 150 → fag g u = if (∃ j, j < n ∧ f.1 8 (t * 140 + j) = nI u) ∧ f.1 0 u = 9 then (fag f u).eraseIdx k else fag f u)
          (P := fun g => CI g nb nv ∧ fS g = aDrop (fS f) w ∧ estay f g) (fun n g hn hI => ?_) (fun g hI => ?_) s 0 f (by omega) ⟨h, rfl, fun _ _ _ _ => rfl, fun u hu => by rw [if_neg (fun z => by obtain ⟨⟨j, hj, -⟩, -⟩ := z; omega)]⟩
        · obtain ⟨i1, i2, i3, i4⟩ := hI
          obtain ⟨v, hv, hvk, -⟩ := q1 n hn
          obtain ⟨kk, hkk, ekk⟩ := (hV v hv).1
          have hv140 : v < 140 := by omega
          have hB : Form_dropEdge_L34b g (nI w) (nI t) (nI k) (nI n) = if nI kk = 9 then .inl (nI (n + 1), Form_dropArgument g (nI v) (nI k)) else .inl (nI (n + 1), g) := by
            unfold Form_dropEdge_L34b Form_dropEdge_77
            rw [oat_rs ht10 (by decide), i3 7 (by decide) (by decide) (by decide), hs7, if_pos (show nI n < nI s from nI_lt hn (by omega)), valueIn_eq (by omega), i3 8 (by decide) (by decide) (by decide), hvk, oat_rs hv140 (by decide), i3 0 (by decide) (by decide) (by decide), ekk, nI_1]
          have hnew : ∀ u, u < 150 → u ≠ v → ((∃ j, j < n + 1 ∧ f.1 8 (t * 140 + j) = nI u) ↔ ∃ j, j < n ∧ f.1 8 (t * 140 + j) = nI u) := fun u hu huv => by
            constructor
            · rintro ⟨j, hj, ej⟩
              have : j ≠ n := fun e => by
                rw [e, hvk] at ej
                exact huv (nI_inj (by omega) (by omega) ej.symm)
              exact ⟨j, by omega, ej⟩
            · rintro ⟨j, hj, ej⟩
              exact ⟨j, by omega, ej⟩
          by_cases h9 : kk = 9
          · subst h9
            obtain ⟨d1, d2, d3, d4⟩ := dropArg_CI i1 hv140 (show k < 290 by omega)
            refine ⟨Form_dropArgument g (nI v) (nI k), by show Form_dropEdge_L34b g (nI w) (nI t) (nI k) (nI n) = _; rw [hB, if_pos (show nI 9 = 9 from rfl)], d1, d3.trans i2, fun i a b c => (d4 i a b c).trans (i3 i a b c), fun u hu => ?_⟩
            rw [d2 u hu]
            by_cases huv : u = v
            · subst huv
              have hnot : ¬ ((∃ j, j < n ∧ f.1 8 (t * 140 + j) = nI u) ∧ f.1 0 u = 9) := fun z => by
                obtain ⟨⟨j, hj, ej⟩, -⟩ := z
                have := q2 j n (by omega) hn (ej.trans hvk.symm)
                omega
              rw [if_pos rfl, i4 u hu, if_neg hnot, if_pos ⟨⟨n, by omega, hvk⟩, ekk⟩]
            · rw [if_neg huv, i4 u hu]
              have := hnew u hu huv
              by_cases z : (∃ j, j < n ∧ f.1 8 (t * 140 + j) = nI u) ∧ f.1 0 u = 9
              · rw [if_pos z, if_pos ⟨this.mpr z.1, z.2⟩]
              · rw [if_neg z, if_neg fun y => z ⟨this.mp y.1, y.2⟩]
          · have h9' : ¬ nI kk = 9 := fun q => h9 (nI_inj (a := kk) (b := 9) (by omega) (by omega) q)
            refine ⟨g, by show Form_dropEdge_L34b g (nI w) (nI t) (nI k) (nI n) = _; rw [hB, if_neg h9'], i1, i2, i3, fun u hu => ?_⟩
            rw [i4 u hu]
            by_cases huv : u = v
            · subst huv
              rw [if_neg fun z => h9' (by rw [← ekk]; exact z.2), if_neg fun z => h9' (by rw [← ekk]; exact z.2)]
            · have := hnew u hu huv
              by_cases z : (∃ j, j < n ∧ f.1 8 (t * 140 + j) = nI u) ∧ f.1 0 u = 9
              · rw [if_pos z, if_pos ⟨this.mpr z.1, z.2⟩]
              · rw [if_neg z, if_neg fun y => z ⟨this.mp y.1, y.2⟩]
        · obtain ⟨i1, i2, i3, i4⟩ := hI
          obtain ⟨e', rfl⟩ : ∃ q, e = q + 1 := ⟨e - 1, by omega⟩
          obtain ⟨m1, m2, m3, m4, m5⟩ := drop104 (f := g) hw ht10 (show e' < 20 by omega) (show k ≤ e' by omega)
          refine ⟨Form_dropEdge_L104 g (nI w) (nI t) (nI (t * 20)) (nI e') (nI k), ?_, ?_⟩
          · show Form_dropEdge_L34b g (nI w) (nI t) (nI k) (nI s) = _
            unfold Form_dropEdge_L34b
            rw [oat_rs ht10 (by decide), i3 7 (by decide) (by decide) (by decide), hs7, if_neg (show ¬ nI s < nI s from nI_nlt (Nat.le_refl _) (by omega)), oat_rs ht10 (by decide), i3 9 (by decide) (by decide) (by decide), he, nI_pred, show nI t * 20 = nI (t * 20) from nI_mul t 20]
          · generalize Form_dropEdge_L104 g (nI w) (nI t) (nI (t * 20)) (nI e') (nI k) = r at m1 m2 m3 m4 m5
            have n3 := m2 3 (by decide) (by decide) (by decide)
            have n4 := m2 4 (by decide) (by decide) (by decide)
            have n5 := m2 5 (by decide) (by decide) (by decide)
            have n6 := m2 6 (by decide) (by decide) (by decide)
            have o : ∀ i, i ≠ 3 → i ≠ 5 → i ≠ 6 → i ≠ 9 → i ≠ 10 → i ≠ 12 → r.1 i = f.1 i := fun i a b c d d2 d3 => (m2 i d d2 d3).trans (i3 i a b c)
            have o2 : r.2 = f.2 := m1.trans i2
            have g9 := i3 9 (by decide) (by decide) (by decide)
            have g10 := i3 10 (by decide) (by decide) (by decide)
            have g12 := i3 12 (by decide) (by decide) (by decide)
            have o0 := o 0 (by decide) (by decide) (by decide) (by decide) (by decide) (by decide)
            have o1 := o 1 (by decide) (by decide) (by decide) (by decide) (by decide) (by decide)
            have o7 := o 7 (by decide) (by decide) (by decide) (by decide) (by decide) (by decide)
            have o8 := o 8 (by decide) (by decide) (by decide) (by decide) (by decide) (by decide)
            have o11 := o 11 (by decide) (by decide) (by decide) (by decide) (by decide) (by decide)
            have hfag : ∀ u, fag r u = fag g u := fun u => by unfold fag ag1; rw [n3, n4, n5, n6]
            have hIs : ∀ u i, inSeg r u i ↔ inSeg g u i := fun u i => by unfold inSeg; rw [n3, n4]
            refine ⟨⟨by rw [o2]; exact hI, ⟨?_, fun u u' i hu hu' a b => i1.2.1.2.1 u u' i hu hu' ((hIs u i).mp a) ((hIs u' i).mp b), fun u hu => ?_⟩, ?_, fun b hb => ?_, fun b hb => ?_, fun x hx => ?_, by rw [o11]; exact E3, by rw [o2]; exact E4⟩, AF_ext (fun v => ?_) (fun u => ?_) (fun b => ?_) (fun b => ?_) (fun b => ?_) (fun x => ?_), o, o2⟩
            · rw [n3, n4, n5]; exact i1.2.1.1
            · have := i1.2.1.2.2 u hu
              rw [i3 1 (by decide) (by decide) (by decide)] at this
              rw [o1, n3]
              exact this
            · unfold cV
              rw [o0, o1]
              exact hV
            · have := hL b hb
              unfold cL1 at this ⊢
              rw [o0, o1, o7, o8]
              exact this
            · unfold eOk
              rw [m3]
              by_cases hbt : b = t
              · rw [if_pos hbt, hbt]
                refine ⟨e', by omega, rfl, fun j hj => ?_⟩
                rw [m5, g10]
                by_cases y : t * 20 + k ≤ t * 20 + j ∧ t * 20 + j < t * 20 + e'
                · rw [if_pos y]; exact hlist (j + 1) (by omega)
                · rw [if_neg y]; exact hlist j (by omega)
              · rw [if_neg hbt, g9]
                obtain ⟨e2, y1, y2, y3⟩ := E1 b hb
                refine ⟨e2, y1, y2, fun j hj => ?_⟩
                rw [m5, g10, if_neg (by omega)]
                exact y3 j hj
            · rw [m4, g12]
              by_cases y : x = w
              · rw [if_pos y]; exact Or.inl rfl
              · rw [if_neg y]; exact E2 x hx
            all_goals unfold aDrop
            all_goals rw [htg2]
            all_goals dsimp only
            all_goals rw [fS_edI ht10, hed]
            · show tn (r.1 0 v) = tn (f.1 0 v)
              rw [o0]
            · show (if u < 150 then fag r u else []) = if u ∈ aLs (fS f) t ∧ aKd (fS f) u = 9 then (if u < 150 then fag f u else []).eraseIdx k else if u < 150 then fag f u else []
              by_cases hu : u < 150
              · rw [if_pos hu, if_pos hu, hfag, i4 u hu]
                obtain ⟨y1, y2⟩ := raw_iff h ht10 hs7 hs hu
                by_cases z : u ∈ aLs (fS f) t ∧ aKd (fS f) u = 9
                · rw [if_pos z, if_pos (y2 z)]
                · rw [if_neg z]
                  by_cases y : (∃ j, j < s ∧ f.1 8 (t * 140 + j) = nI u) ∧ f.1 0 u = 9
                  · rw [if_pos y, (y1 y).resolve_left z]
                    rfl
                  · rw [if_neg y]
              · rw [if_neg hu, if_neg hu]
                split <;> rfl
            · show (if b < 10 then (frw r b).filter (fun z => decide (r.1 1 z = nI b)) else []) = if b < 10 then (frw f b).filter (fun z => decide (f.1 1 z = nI b)) else []
              rw [frw_congr (f := f) (by rw [o7]) fun k _ => by rw [o8], o1]
            · show (if b < 10 then fed r b else []) = if b = t then (if t < 10 then fed f t else []).eraseIdx k else if b < 10 then fed f b else []
              by_cases hbt : b = t
              · rw [if_pos hbt, if_pos (by omega), if_pos ht10, hbt]
                apply List.ext_getElem?
                intro j
                have g9' : r.1 9 t = nI e' := by rw [m3, if_pos rfl]
                rw [List.getElem?_eraseIdx, fed_get2 g9' (by omega), fed_get2 he he1, fed_get2 he he1, m5, g10]
                by_cases y : j < k
                · rw [if_pos y, if_pos (show j < e' by omega), if_pos (show j < e' + 1 by omega), if_neg (show ¬ (t * 20 + k ≤ t * 20 + j ∧ t * 20 + j < t * 20 + e') by omega)]
                · rw [if_neg y]
                  by_cases z : j < e'
                  · rw [if_pos z, if_pos (show t * 20 + k ≤ t * 20 + j ∧ t * 20 + j < t * 20 + e' by omega), if_pos (show j + 1 < e' + 1 by omega)]
                    rfl
                  · rw [if_neg z, if_neg (show ¬ j + 1 < e' + 1 by omega)]
              · rw [if_neg hbt]
                by_cases hb : b < 10
                · rw [if_pos hb, if_pos hb]
                  obtain ⟨e2, y1, y2, y3⟩ := E1 b hb
                  refine fed_congr (by rw [m3, if_neg hbt, g9]) fun j hj => ?_
                  rw [y2, tn_nI (by omega)] at hj
                  rw [m5, g10, if_neg (by omega)]
                · rw [if_neg hb, if_neg hb]
            · show tn (r.1 11 b) = tn (f.1 11 b)
              rw [o11]
            · show (if x < 20 then ftg r x else none) = if x = w then none else if x < 20 then ftg f x else none
              unfold ftg
              rw [m4, g12]
              by_cases y : x = w
              · rw [if_pos y, if_pos y, if_pos (by omega), if_pos rfl]
              · rw [if_neg y, if_neg y]
      exact key
end DROP
