/-! THE SWEEP: of each block those values are left that have their place there -/
def lsU (f : Ob) (b k : Nat) : List Nat := ((List.range k).map fun j => tn (f.1 8 (b * 140 + j))).filter fun v => decide (f.1 1 v = nI b)
theorem lsU_s (f : Ob) (b k : Nat) : lsU f b (k + 1) = lsU f b k ++ (if f.1 1 (tn (f.1 8 (b * 140 + k))) = nI b then [tn (f.1 8 (b * 140 + k))] else []) := by
  unfold lsU
  rw [List.range_succ, List.map_append, List.filter_append]
  congr 1
  by_cases h : f.1 1 (tn (f.1 8 (b * 140 + k))) = nI b
  · rw [if_pos h]; simp [h]
  · rw [if_neg h]; simp [h]
theorem lsU_len (f : Ob) (b : Nat) : ∀ k, (lsU f b k).length ≤ k := by
  intro k
  unfold lsU
  refine Nat.le_trans (List.length_filter_le _ _) ?_
  rw [List.length_map, List.length_range]
  exact Nat.le_refl _
/-- what the loop over a block's list keeps -/
def swInv (f : Ob) (b k : Nat) (q : Nat × Ob) : Prop := q.1 = (lsU f b k).length ∧ q.2.2 = f.2 ∧ (∀ i, i ≠ 8 → q.2.1 i = f.1 i) ∧ (∀ j, j < q.1 → q.2.1 8 (b * 140 + j) = nI ((lsU f b k).getD j 0)) ∧ ∀ i, i < b * 140 ∨ b * 140 + k ≤ i → q.2.1 8 i = f.1 8 i
theorem getD_app_l (l m : List Nat) {j : Nat} (h : j < l.length) : (l ++ m).getD j 0 = l.getD j 0 := by
  rw [List.getD_eq_getElem?_getD, List.getD_eq_getElem?_getD, List.getElem?_append_left h]
theorem getD_app_e (l : List Nat) (x : Nat) : (l ++ [x]).getD l.length 0 = x := by
  rw [List.getD_eq_getElem?_getD, List.getElem?_append_right (Nat.le_refl _), Nat.sub_self]
  rfl
theorem sweep_in {f : Ob} {b s : Nat} (hb : b < 10) (hs : s ≤ 140) (hs7 : f.1 7 b = nI s) (hlist : ∀ k, k < s → ∃ v, v < 140 ∧ f.1 8 (b * 140 + k) = nI v) : ∃ g, Form_sweep_L21 f (nI b) (nI (b * 140)) 0 0 = .inl (nI (b + 1), g) ∧ g.2 = f.2 ∧ (∀ i, i ≠ 7 → i ≠ 8 → g.1 i = f.1 i) ∧ (∀ c, g.1 7 c = if c = b then nI (lsU f b s).length else f.1 7 c) ∧ (∀ j, j < (lsU f b s).length → g.1 8 (b * 140 + j) = nI ((lsU f b s).getD j 0)) ∧ ∀ i, i < b * 140 ∨ b * 140 + 140 ≤ i → g.1 8 i = f.1 8 i := by
  unfold Form_sweep_L21
  refine loop_cnt (B := fun a : Int32 × Int32 × Ob => Form_sweep_L21b a.2.2 (nI b) (nI (b * 140)) a.1 a.2.1) (mk := fun i (q : Nat × Ob) => (nI q.1, nI i, q.2)) (n := s) (I := fun k q => swInv f b k q)
    (P := fun r => ∃ g, r = .inl (nI (b + 1), g) ∧ g.2 = f.2 ∧ (∀ i, i ≠ 7 → i ≠ 8 → g.1 i = f.1 i) ∧ (∀ c, g.1 7 c = if c = b then nI (lsU f b s).length else f.1 7 c) ∧ (∀ j, j < (lsU f b s).length → g.1 8 (b * 140 + j) = nI ((lsU f b s).getD j 0)) ∧ ∀ i, i < b * 140 ∨ b * 140 + 140 ≤ i → g.1 8 i = f.1 8 i) (fun k q hk hI => ?_) (fun q hI => ?_) s 0 (0, f) (by omega) ⟨rfl, rfl, fun _ _ => rfl, fun j hj => by exact absurd hj (Nat.not_lt_zero _), fun _ _ => rfl⟩
  · obtain ⟨h1, h2, h3, h4, h5⟩ := hI
    obtain ⟨l, g⟩ := q
    dsimp only at h1 h2 h3 h4 h5 ⊢
    obtain ⟨v, hv, hvk⟩ := hlist k hk
    have hlen := lsU_len f b k
    have hg8 : g.1 8 (b * 140 + k) = nI v := by rw [h5 _ (Or.inr (Nat.le_refl _))]; exact hvk
    have hB : Form_sweep_L21b g (nI b) (nI (b * 140)) (nI l) (nI k) = if f.1 1 v = nI b then .inl (nI (l + 1), nI (k + 1), rs g 8 (b * 140 + l) (nI v)) else .inl (nI l, nI (k + 1), g) := by
      unfold Form_sweep_L21b Form_sweep_75
      rw [oat_rs (n := 10) hb (by decide), h3 7 (by decide), hs7, if_pos (show nI k < nI s from nI_lt hk (by omega)), nI_add, nI_add, oat_rs (n := 1400) (by omega) (by decide), hg8, oat_rs (n := 140) hv (by decide), h3 1 (by decide), nI_1, nI_1, oput_rs (n := 1400) (by omega) (by decide)]
    have htn : tn (f.1 8 (b * 140 + k)) = v := by rw [hvk, tn_nI (by omega)]
    by_cases hp : f.1 1 v = nI b
    · have hs1 : lsU f b (k + 1) = lsU f b k ++ [v] := by rw [lsU_s, htn, if_pos hp]
      refine ⟨(l + 1, rs g 8 (b * 140 + l) (nI v)), by show Form_sweep_L21b g (nI b) (nI (b * 140)) (nI l) (nI k) = _; rw [hB, if_pos hp], ?_, h2, fun i hi => by rw [rs_r _ _ _ _ hi]; exact h3 i hi, fun j hj => ?_, fun i hi => ?_⟩
      · show l + 1 = (lsU f b (k + 1)).length
        rw [hs1, List.length_append, h1]
        rfl
      · show (rs g 8 (b * 140 + l) (nI v)).1 8 (b * 140 + j) = _
        have hj' : j < l + 1 := hj
        rw [rs_i, hs1]
        by_cases hjl : j = l
        · rw [if_pos (by rw [hjl]), hjl, h1, getD_app_e]
        · rw [if_neg (by omega), h4 j (by omega), getD_app_l _ _ (by omega)]
      · show (rs g 8 (b * 140 + l) (nI v)).1 8 i = _
        rw [rs_i, if_neg (by omega)]
        exact h5 i (by omega)
    · have hs1 : lsU f b (k + 1) = lsU f b k := by rw [lsU_s, htn, if_neg hp, List.append_nil]
      refine ⟨(l, g), by show Form_sweep_L21b g (nI b) (nI (b * 140)) (nI l) (nI k) = _; rw [hB, if_neg hp], by rw [hs1]; exact h1, h2, h3, by rw [hs1]; exact h4, fun i hi => h5 i (by omega)⟩
  · obtain ⟨h1, h2, h3, h4, h5⟩ := hI
    obtain ⟨l, g⟩ := q
    dsimp only at h1 h2 h3 h4 h5 ⊢
    refine ⟨.inl (nI (b + 1), rs g 7 b (nI l)), ?_, rs g 7 b (nI l), rfl, h2, fun i q1 q2 => by rw [rs_r _ _ _ _ q1]; exact h3 i q2, fun c => ?_, fun j hj => ?_, fun i hi => ?_⟩
    · show Form_sweep_L21b g (nI b) (nI (b * 140)) (nI l) (nI s) = _
      unfold Form_sweep_L21b
      rw [oat_rs (n := 10) hb (by decide), h3 7 (by decide), hs7, if_neg (show ¬ nI s < nI s from nI_nlt (Nat.le_refl _) (by omega)), oput_rs (n := 10) hb (by decide), nI_1]
    · rw [rs_i, h3 7 (by decide), h1]
    · rw [rs_r _ _ _ _ (show 8 ≠ 7 by decide)]
      exact h4 j (by omega)
    · rw [rs_r _ _ _ _ (show 8 ≠ 7 by decide)]
      exact h5 i (by omega)
theorem map_range_congr {α : Type} {n : Nat} {p q : Nat → α} (h : ∀ j, j < n → p j = q j) : (List.range n).map p = (List.range n).map q := List.map_congr_left fun j hj => h j (List.mem_range.mp hj)
theorem lsU_congr {f g : Ob} {b k : Nat} (h1 : g.1 1 = f.1 1) (h8 : ∀ j, j < k → g.1 8 (b * 140 + j) = f.1 8 (b * 140 + j)) : lsU g b k = lsU f b k := by
  unfold lsU
  rw [h1, map_range_congr (q := fun j => tn (f.1 8 (b * 140 + j))) fun j hj => by rw [h8 j hj]]
def sOk (f : Ob) (b : Nat) : Prop := ∃ s, s ≤ 140 ∧ f.1 7 b = nI s ∧ ∀ k, k < s → ∃ v, v < 140 ∧ f.1 8 (b * 140 + k) = nI v
def swAll (f : Ob) (n : Nat) (g : Ob) : Prop := g.2 = f.2 ∧ (∀ i, i ≠ 7 → i ≠ 8 → g.1 i = f.1 i) ∧ (∀ b, b < n → g.1 7 b = nI (lsU f b (tn (f.1 7 b))).length ∧ ∀ j, j < (lsU f b (tn (f.1 7 b))).length → g.1 8 (b * 140 + j) = nI ((lsU f b (tn (f.1 7 b))).getD j 0)) ∧ (∀ b, n ≤ b → g.1 7 b = f.1 7 b) ∧ ∀ i, n * 140 ≤ i → g.1 8 i = f.1 8 i
theorem sweep_eq {f : Ob} {nb : Nat} (hnb : f.2.1 0 = nI nb) (hnb1 : nb ≤ 10) (hL : ∀ b, b < nb → sOk f b) : swAll f nb (Form_sweep f) := by
  unfold Form_sweep Form_sweep_L2
  refine loop_cnt (B := fun a : Int32 × Ob => Form_sweep_L2b a.2 a.1) (mk := fun i (g : Ob) => (nI i, g)) (n := nb) (I := fun n g => swAll f n g) (P := fun g => swAll f nb g) (fun n g hn hI => ?_) (fun g hI => ?_) nb 0 f (by omega) ⟨rfl, fun _ _ _ => rfl, fun b hb => by omega, fun _ _ => rfl, fun _ _ => rfl⟩
  · obtain ⟨h1, h2, h3, h4, h5⟩ := hI
    obtain ⟨s, hs, hs7, hlist⟩ := hL n hn
    have h7 : g.1 7 n = nI s := by rw [h4 n (Nat.le_refl _)]; exact hs7
    have hl8 : ∀ k, k < s → ∃ v, v < 140 ∧ g.1 8 (n * 140 + k) = nI v := fun k hk => by rw [h5 _ (by omega)]; exact hlist k hk
    obtain ⟨r, g1, g2, g3, g4, g5, g6⟩ := sweep_in (f := g) (show n < 10 by omega) hs h7 hl8
    have hU : lsU g n s = lsU f n s := lsU_congr (h2 1 (by decide) (by decide)) fun j hj => h5 _ (by omega)
    rw [hU] at g4 g5
    have hst : tn (f.1 7 n) = s := by rw [hs7, tn_nI (by omega)]
    have hUl : (lsU f n s).length ≤ 140 := Nat.le_trans (lsU_len f n s) hs
    refine ⟨r, ?_, g2.trans h1, fun i q1 q2 => by rw [g3 i q1 q2]; exact h2 i q1 q2, fun b hb => ?_, fun b hb => ?_, fun i hi => ?_⟩
    · show Form_sweep_L2b g (nI n) = _
      unfold Form_sweep_L2b
      have hb2 : g.2.1 0 = nI nb := by rw [h1]; exact hnb
      rw [hb2, if_pos (show nI n < nI nb from nI_lt hn (by omega)), show nI n * 140 = nI (n * 140) from nI_mul n 140]
      exact g1
    · by_cases hbn : b = n
      · subst hbn
        rw [g4, if_pos rfl, hst]
        exact ⟨rfl, g5⟩
      · obtain ⟨z1, z2⟩ := h3 b (by omega)
        refine ⟨by rw [g4, if_neg hbn]; exact z1, fun j hj => ?_⟩
        have hb140 : (lsU f b (tn (f.1 7 b))).length ≤ 140 := by
          obtain ⟨s', hs', hs7', -⟩ := hL b (by omega)
          refine Nat.le_trans (lsU_len f b _) ?_
          rw [hs7', tn_nI (by omega)]
          exact hs'
        rw [g6 _ (by omega)]
        exact z2 j hj
    · rw [g4, if_neg (by omega)]
      exact h4 b (by omega)
    · rw [g6 _ (by omega)]
      exact h5 _ (by omega)
  · refine ⟨g, ?_, hI⟩
    show Form_sweep_L2b g (nI nb) = _
    unfold Form_sweep_L2b
    have hb2 : g.2.1 0 = nI nb := by rw [hI.1]; exact hnb
    rw [hb2, if_neg (show ¬ nI nb < nI nb from nI_nlt (Nat.le_refl _) (by omega))]
/-- behind the sweep a block lists what it listed, but what has its place elsewhere -/
theorem frw_sweep {f g : Ob} {nb b : Nat} (h : swAll f nb g) (hb : b < nb) (hs : sOk f b) : frw g b = (frw f b).filter fun v => decide (f.1 1 v = nI b) := by
  obtain ⟨s, hs1, hs7, -⟩ := hs
  obtain ⟨-, -, h3, -, -⟩ := h
  obtain ⟨z1, z2⟩ := h3 b hb
  have hU : lsU f b (tn (f.1 7 b)) = (frw f b).filter fun v => decide (f.1 1 v = nI b) := rfl
  rw [← hU]
  generalize hl : lsU f b (tn (f.1 7 b)) = l at z1 z2
  have hlen : l.length < 2147483648 := by
    have := lsU_len f b (tn (f.1 7 b))
    rw [hl, hs7, tn_nI (by omega)] at this
    omega
  have hv : ∀ x ∈ l, x < 2147483648 := by
    intro x hx
    rw [← hl] at hx
    unfold lsU at hx
    obtain ⟨j, -, rfl⟩ := List.mem_map.mp (List.mem_filter.mp hx).1
    unfold tn
    have := Int32.toInt_lt (f.1 8 (b * 140 + j))
    show (f.1 8 (b * 140 + j)).toInt.toNat < 2147483648
    omega
  unfold frw
  rw [z1, tn_nI hlen]
  apply List.ext_getElem?
  intro j
  rw [List.getElem?_map]
  by_cases hj : j < l.length
  · rw [List.getElem?_range hj]
    have hg : l[j]? = some l[j] := List.getElem?_eq_getElem hj
    show some (tn (g.1 8 (b * 140 + j))) = l[j]?
    rw [z2 j hj, List.getD_eq_getElem?_getD, hg]
    show some (tn (nI l[j])) = some l[j]
    rw [tn_nI (hv _ (List.getElem_mem hj))]
  · rw [List.getElem?_eq_none (by rw [List.length_range]; omega), List.getElem?_eq_none (by omega)]
    rfl
