/-! A FORM IS BEGUN, and gets its values and edges, in rows -/
def bsM (to fl mk : Ob) : Nat → Nat
  | 0 => 6
  | b + 1 => bsM to fl mk b + if bt (fl.2.1 0) b = true then (dsc to mk b).length else 0
def wB (to fl : Ob) (B : Nat) : List Nat := (List.range (2 * B)).filter fun w => bt (fl.2.1 0) (w / 2) && decide (w % 2 < tEk to (w / 2))
def P1 (to fl mk : Ob) (nb : Nat) (r4 : Nat → Int32) (B : Nat) (g : Ob) : Prop := (g.2.1 0 = nI nb ∧ g.2.1 1 = fl.2.1 0 ∧ g.2.1 2 = nI (bsM to fl mk B) ∧ g.2.1 3 = 0 ∧ g.2.1 4 = 0 ∧ g.2.1 5 = 0) ∧ ((∀ u, g.1 3 u = 0) ∧ g.1 4 = r4) ∧ (∀ b, b < B → bt (fl.2.1 0) b = true → VD g b (bsM to fl mk b) (dsc to mk b)) ∧ (∀ b, b < 10 → (B ≤ b ∨ bt (fl.2.1 0) b = false) → g.1 7 b = 0) ∧ (∀ v, v < 6 → g.1 0 v = 10 ∧ g.1 1 v = -1) ∧ EDs to (wB to fl B) g ∧ ∀ b, b < 10 → g.1 11 b = if b < B ∧ bt (fl.2.1 0) b = true then nI (tEk to b) else 0
section BEGUN
variable {to fl mk : Ob} {nb : Nat}
theorem bsM_mono {a b : Nat} (h : a ≤ b) : bsM to fl mk a ≤ bsM to fl mk b := by
  induction b with
  | zero => rw [show a = 0 by omega]; exact Nat.le_refl _
  | succ b ih =>
    by_cases q : a = b + 1
    · rw [q]; exact Nat.le_refl _
    · have := ih (by omega)
      show _ ≤ bsM to fl mk b + _
      omega
theorem dsc_len (h8 : ∀ b, nl to b ≤ 8) (h0 : pX mk 0 = []) (b : Nat) : (dsc to mk b).length ≤ if b = 0 then 8 else 14 := by
  unfold dsc
  rw [List.length_append, List.length_map, List.length_map]
  have h1 : (pX mk b).length ≤ 6 := by
    unfold pX
    refine Nat.le_trans (List.length_filter_le _ _) ?_
    rw [List.length_range]
    exact Nat.le_refl _
  have h2 : (lX to b).length ≤ 8 := by
    unfold lX
    refine Nat.le_trans (List.length_filter_le _ _) ?_
    rw [List.length_range]
    exact h8 b
  by_cases q : b = 0
  · rw [if_pos q, q, h0]
    have := h8 0
    have h3 : (lX to 0).length ≤ 8 := by rw [← q]; exact h2
    simpa using h3
  · rw [if_neg q]; omega
theorem bsM_le (h8 : ∀ b, nl to b ≤ 8) (h0 : pX mk 0 = []) : ∀ b, bsM to fl mk b ≤ if b = 0 then 6 else 14 * b := by
  intro b
  induction b with
  | zero => exact Nat.le_refl _
  | succ b ih =>
    have := dsc_len h8 h0 b
    show bsM to fl mk b + _ ≤ _
    rw [if_neg (show ¬ b + 1 = 0 by omega)]
    by_cases q : b = 0
    · rw [if_pos q] at ih this
      split <;> omega
    · rw [if_neg q] at ih this
      split <;> omega
theorem wB_s (B : Nat) : wB to fl (B + 1) = wB to fl B ++ (if bt (fl.2.1 0) B = true then (List.range (min (tEk to B) 2)).map fun j => B * 2 + j else []) := by
  unfold wB
  rw [show 2 * (B + 1) = 2 * B + 1 + 1 by omega, filter_range_s, filter_range_s, List.append_assoc]
  congr 1
  rw [show (2 * B) / 2 = B by omega, show (2 * B + 1) / 2 = B by omega, show (2 * B) % 2 = 0 by omega, show (2 * B + 1) % 2 = 1 by omega]
  cases q : bt (fl.2.1 0) B with
  | false => simp
  | true =>
    rw [if_pos rfl, Bool.true_and, Bool.true_and]
    rcases show tEk to B = 0 ∨ tEk to B = 1 ∨ 2 ≤ tEk to B by omega with e | e | e
    · rw [e]; simp
    · rw [e]
      show _ = [B * 2 + 0]
      rw [if_pos (by decide), if_neg (by decide)]
      simp
      omega
    · rw [if_pos (decide_eq_true (by omega)), if_pos (decide_eq_true (by omega)), Nat.min_eq_right e]
      show _ = [B * 2 + 0, B * 2 + 1]
      simp
      omega
theorem wB_mem (B : Nat) {w : Nat} : w ∈ wB to fl B ↔ w < 2 * B ∧ bt (fl.2.1 0) (w / 2) = true ∧ w % 2 < tEk to (w / 2) := by
  unfold wB
  rw [List.mem_filter, List.mem_range, Bool.and_eq_true, decide_eq_true_eq]
theorem wB_nodup (B : Nat) : (wB to fl B).Nodup := by
  unfold wB
  exact List.nodup_range.filter _
theorem begin_P1 (ma : Ob) : P1 to fl mk nb (ma.1 4) 0 (Form_begin ma (nI nb) (fl.2.1 0)) := by
  have key : (fun g : Ob => (g.2.1 0 = nI nb ∧ g.2.1 1 = fl.2.1 0 ∧ g.2.1 2 = nI 6 ∧ g.2.1 3 = 0 ∧ g.2.1 4 = 0 ∧ g.2.1 5 = 0) ∧ ((∀ u, g.1 3 u = 0) ∧ g.1 4 = ma.1 4) ∧ (∀ u, g.1 7 u = 0) ∧ (∀ u, g.1 9 u = 0) ∧ (∀ u, g.1 11 u = 0) ∧ (∀ u, g.1 12 u = -1) ∧ ∀ v, v < 6 → g.1 0 v = 10 ∧ g.1 1 v = -1) (Form_begin ma (nI nb) (fl.2.1 0)) := by
    unfold Form_begin Form_begin_L72
    refine loop_cnt (B := fun a : Int32 × Ob => Form_begin_L72b a.2 a.1) (mk := fun i (s : Ob) => (nI i, s)) (n := 6) (I := fun (k : Nat) (g : Ob) => (g.2.1 0 = nI nb ∧ g.2.1 1 = fl.2.1 0 ∧ g.2.1 2 = nI k ∧ g.2.1 3 = 0 ∧ g.2.1 4 = 0 ∧ g.2.1 5 = 0) ∧ ((∀ u, g.1 3 u = 0) ∧ g.1 4 = ma.1 4) ∧ (∀ u, g.1 7 u = 0) ∧ (∀ u, g.1 9 u = 0) ∧ (∀ u, g.1 11 u = 0) ∧ (∀ u, g.1 12 u = -1) ∧ ∀ v, v < k → g.1 0 v = 10 ∧ g.1 1 v = -1)
      (P := fun g : Ob => (g.2.1 0 = nI nb ∧ g.2.1 1 = fl.2.1 0 ∧ g.2.1 2 = nI 6 ∧ g.2.1 3 = 0 ∧ g.2.1 4 = 0 ∧ g.2.1 5 = 0) ∧ ((∀ u, g.1 3 u = 0) ∧ g.1 4 = ma.1 4) ∧ (∀ u, g.1 7 u = 0) ∧ (∀ u, g.1 9 u = 0) ∧ (∀ u, g.1 11 u = 0) ∧ (∀ u, g.1 12 u = -1) ∧ ∀ v, v < 6 → g.1 0 v = 10 ∧ g.1 1 v = -1) (fun k g hk hI => ?_) (fun g hI => ⟨g, ?_, hI⟩) 6 0 _ rfl ⟨⟨rfl, rfl, rfl, rfl, rfl, rfl⟩, ⟨fun u => rfl, rfl⟩, fun u => rfl, fun u => rfl, fun u => rfl, fun u => rfl, fun v hv => by omega⟩
    · obtain ⟨⟨i0, i1, i2, i3, i4, i5⟩, r3, r7, r9, r11, r12, rv⟩ := hI
      refine ⟨oG (rs (rs (rs g 0 k 10) 2 k (-1)) 1 k (-1)) 2 (nI (k + 1)), ?_, ⟨i0, i1, rfl, i3, i4, i5⟩, ⟨fun u => ?_, ?_⟩, fun u => ?_, fun u => ?_, fun u => ?_, fun u => ?_, fun v hv => ?_⟩
      · show Form_begin_L72b g (nI k) = _
        unfold Form_begin_L72b
        rw [if_pos (show nI k < 6 from nI_lt (a := k) (b := 6) hk (by decide)), addValue0_eq i2 (show k < 140 by omega), nI_1]
      · rw [oG_1, rs_r _ _ _ _ (by decide), rs_r _ _ _ _ (by decide), rs_r _ _ _ _ (by decide)]; exact r3.1 u
      · rw [oG_1, rs_r _ _ _ _ (by decide), rs_r _ _ _ _ (by decide), rs_r _ _ _ _ (by decide)]; exact r3.2
      · rw [oG_1, rs_r _ _ _ _ (by decide), rs_r _ _ _ _ (by decide), rs_r _ _ _ _ (by decide)]; exact r7 u
      · rw [oG_1, rs_r _ _ _ _ (by decide), rs_r _ _ _ _ (by decide), rs_r _ _ _ _ (by decide)]; exact r9 u
      · rw [oG_1, rs_r _ _ _ _ (by decide), rs_r _ _ _ _ (by decide), rs_r _ _ _ _ (by decide)]; exact r11 u
      · rw [oG_1, rs_r _ _ _ _ (by decide), rs_r _ _ _ _ (by decide), rs_r _ _ _ _ (by decide)]; exact r12 u
      · rw [oG_1, rs_r _ _ _ _ (show 0 ≠ 1 by decide), rs_r _ _ _ _ (show 0 ≠ 2 by decide), rs_i, rs_i, rs_r _ _ _ _ (show 1 ≠ 2 by decide), rs_r _ _ _ _ (show 1 ≠ 0 by decide)]
        by_cases q : v = k
        · rw [if_pos q, if_pos q]; exact ⟨rfl, rfl⟩
        · rw [if_neg q, if_neg q]; exact rv v (by omega)
    · show Form_begin_L72b g (nI 6) = _
      unfold Form_begin_L72b
      rw [if_neg (by decide)]
  obtain ⟨i, r3, r7, r9, r11, r12, rv⟩ := key
  refine ⟨i, r3, fun b hb => by omega, fun b _ _ => r7 b, rv, ⟨fun c hc => ⟨by rw [r9]; rfl, fun i w hw => by cases hw⟩, fun w hw => by rw [r12, if_neg (by intro q; cases q)]⟩, fun b _ => by rw [r11, if_neg (by omega)]⟩
/-- one more block -/
theorem P1_step {B : Nat} {f : Ob} {r4 : Nat → Int32} (hT : tRows to nb) (hok : ∀ b, b < nb → ∀ k, k < nl to b → to.1 1 (b * 8 + k) = nI (lk to b k) ∧ lk to b k < 9) (h8 : ∀ b, nl to b ≤ 8) (h0 : pX mk 0 = []) (hB : B < nb) (hr : bt (fl.2.1 0) B = true) (h : P1 to fl mk nb r4 B f) : P1 to fl mk nb r4 (B + 1) (Maker_addEdges to (Maker_addValues to f mk (nI B)) (nI B)) := by
  obtain ⟨⟨i0, i1, i2, i3, i4, i5⟩, r3, hVD, r7, rv, hE, r11⟩ := h
  obtain ⟨hT0, -, hnb, hTb⟩ := hT
  obtain ⟨⟨l, hl8, hl⟩, e, he2, he, htg⟩ := hTb B hB
  have hnl : nl to B = l := by unfold nl; rw [hl, tn_nI (by omega)]
  have hek : tEk to B = e := by unfold tEk; rw [he, tn_nI (by omega)]
  have hbs1 := bsM_le (fl := fl) h8 h0 (B + 1)
  rw [if_neg (by omega)] at hbs1
  have hbse : bsM to fl mk (B + 1) = bsM to fl mk B + (dsc to mk B).length := by
    show bsM to fl mk B + _ = _
    rw [if_pos hr]
  obtain ⟨v1, v2, v3⟩ := addValues_spec (mk := mk) (f := f) (show B < 10 by omega) (by rw [hnl]; exact hl) (h8 B) (hok B hB) i2 (by omega) (r7 B (by omega) (Or.inl (Nat.le_refl _)))
  generalize Maker_addValues to f mk (nI B) = g at v1 v2 v3
  obtain ⟨a1, a2, a3, a4, a5, a6⟩ := v2
  have hEg : EDs to (wB to fl B) g := EDs_congr (a1 9 (by decide) (by decide) (by decide) (by decide) (by decide)) (a1 10 (by decide) (by decide) (by decide) (by decide) (by decide)) (a1 12 (by decide) (by decide) (by decide) (by decide) (by decide)) hE
  obtain ⟨d1, d2, d3, d4⟩ := addEdges_spec (f := g) (show B < 10 by omega) (by rw [hek]; exact he) (by omega) (fun k hk => by
    obtain ⟨c, -, hc, hck⟩ := htg k (by omega)
    have : tgt to (B * 2 + k) = c := by unfold tgt; rw [hck, tn_nI (by omega)]
    rw [this]
    exact ⟨hck, by omega⟩) (wB_nodup B) (fun x hx => by have := ((wB_mem B).mp hx).1; omega) hEg
  generalize Maker_addEdges to g (nI B) = r at d1 d2 d3 d4
  have g0 := d3 0 (by decide) (by decide) (by decide) (by decide)
  have g1 := d3 1 (by decide) (by decide) (by decide) (by decide)
  have g2 := d3 2 (by decide) (by decide) (by decide) (by decide)
  have g3 := d3 3 (by decide) (by decide) (by decide) (by decide)
  have g7 := d3 7 (by decide) (by decide) (by decide) (by decide)
  have g8 := d3 8 (by decide) (by decide) (by decide) (by decide)
  have b6 : 6 ≤ bsM to fl mk B := bsM_mono (Nat.zero_le B)
  refine ⟨⟨?_, ?_, ?_, ?_, ?_, ?_⟩, ⟨fun u => ?_, ?_⟩, fun b hb hbr => ?_, fun b hb hq => ?_, fun v hv => ?_, ?_, fun b hb => ?_⟩
  · rw [d4, a5 0 (by decide)]; exact i0
  · rw [d4, a5 1 (by decide)]; exact i1
  · rw [d4, hbse]; exact v3
  · rw [d4, a5 3 (by decide)]; exact i3
  · rw [d4, a5 4 (by decide)]; exact i4
  · rw [d4, a5 5 (by decide)]; exact i5
  · rw [g3, a1 3 (by decide) (by decide) (by decide) (by decide) (by decide)]; exact r3.1 u
  · rw [d3 4 (by decide) (by decide) (by decide) (by decide), a1 4 (by decide) (by decide) (by decide) (by decide) (by decide)]; exact r3.2
  · by_cases z : b = B
    · rw [z]
      exact VD_congr (by rw [g7]) (fun i _ => by rw [g8]) (fun v _ _ => by rw [g0, g1, g2]; exact ⟨rfl, rfl, rfl⟩) v1
    · have hbB : b < B := by omega
      have hm : bsM to fl mk b + (dsc to mk b).length ≤ bsM to fl mk B := by
        have := bsM_mono (to := to) (fl := fl) (mk := mk) (a := b + 1) (b := B) (by omega)
        have e1 : bsM to fl mk (b + 1) = bsM to fl mk b + (dsc to mk b).length := by
          show bsM to fl mk b + _ = _
          rw [if_pos hbr]
        omega
      have hl14 : (dsc to mk b).length ≤ 14 := by
        have := dsc_len h8 h0 (mk := mk) b
        split at this <;> omega
      refine VD_congr (by rw [g7, a2 b z]) (fun i hi => by rw [g8, a3 b i (by omega) z (by omega)]) (fun v hv1 hv2 => ?_) (hVD b hbB hbr)
      rw [g0, g1, g2]
      exact a4 v (by omega)
  · rw [g7]
    by_cases z : b = B
    · rcases hq with q | q
      · omega
      · rw [z, hr] at q; cases q
    · rw [a2 b z]
      exact r7 b hb (hq.imp (fun q => by omega) id)
  · rw [g0, g1]
    obtain ⟨q1, q2, -⟩ := a4 v (by omega)
    rw [q1, q2]
    exact rv v hv
  · rw [wB_s, if_pos hr, Nat.min_eq_left (by omega)]
    exact d1
  · rw [d2]
    by_cases z : b = B
    · rw [if_pos z, if_pos ⟨by omega, by rw [z]; exact hr⟩, z]
    · rw [if_neg z, a1 11 (by decide) (by decide) (by decide) (by decide) (by decide), r11 b hb]
      by_cases y : b < B ∧ bt (fl.2.1 0) b = true
      · rw [if_pos y, if_pos ⟨by omega, y.2⟩]
      · rw [if_neg y, if_neg fun q => y ⟨by omega, q.2⟩]
theorem P1_skip {B : Nat} {f : Ob} {r4 : Nat → Int32} (hr : bt (fl.2.1 0) B = false) (h : P1 to fl mk nb r4 B f) : P1 to fl mk nb r4 (B + 1) f := by
  obtain ⟨⟨i0, i1, i2, i3, i4, i5⟩, r3, hVD, r7, rv, hE, r11⟩ := h
  refine ⟨⟨i0, i1, ?_, i3, i4, i5⟩, r3, fun b hb hbr => hVD b ?_ hbr, fun b hb hq => r7 b hb ?_, rv, ?_, fun b hb => ?_⟩
  · rw [i2]
    show _ = nI (bsM to fl mk B + _)
    rw [if_neg (by rw [hr]; decide), Nat.add_zero]
  · have : b ≠ B := fun z => by rw [z, hr] at hbr; cases hbr
    omega
  · rcases hq with q | q
    · exact Or.inl (by omega)
    · exact Or.inr q
  · rw [wB_s, if_neg (by rw [hr]; decide), List.append_nil]
    exact hE
  · rw [r11 b hb]
    by_cases y : b < B ∧ bt (fl.2.1 0) b = true
    · rw [if_pos y, if_pos ⟨by omega, y.2⟩]
    · rw [if_neg y, if_neg]
      rintro ⟨q1, q2⟩
      have : b ≠ B := fun z => by rw [z, hr] at q2; cases q2
      exact y ⟨by omega, q2⟩
theorem make_vals (hT : tRows to nb) (hok : ∀ b, b < nb → ∀ k, k < nl to b → to.1 1 (b * 8 + k) = nI (lk to b k) ∧ lk to b k < 9) (h8 : ∀ b, nl to b ≤ 8) (ma m : Ob) (h0 : pX (Maker_placePhis to fl m) 0 = []) : ∃ g, P1 to fl (Maker_placePhis to fl m) nb (ma.1 4) nb g ∧ Maker_make to fl ma m = Maker_make_L63 to fl g (Maker_placePhis to fl m) 0 := by
  have hnb := hT.2.2.1
  unfold Maker_make
  rw [hT.1]
  generalize Maker_placePhis to fl m = mk at h0
  unfold Maker_make_L22
  refine loop_cnt (B := fun a : Int32 × Ob => Maker_make_L22b to fl a.2 mk a.1) (mk := fun i (s : Ob) => (nI i, s)) (n := nb) (I := fun B g => P1 to fl mk nb (ma.1 4) B g) (P := fun r => ∃ g, P1 to fl mk nb (ma.1 4) nb g ∧ r = Maker_make_L63 to fl g mk 0) (fun B g hB hI => ?_) (fun g hI => ⟨_, ?_, g, hI, rfl⟩) nb 0 _ (by omega) (begin_P1 ma)
  · have hBd : Maker_make_L22b to fl g mk (nI B) = if bt (fl.2.1 0) B = true then .inl (nI (B + 1), Maker_addEdges to (Maker_addValues to g mk (nI B)) (nI B)) else .inl (nI (B + 1), g) := by
      unfold Maker_make_L22b Maker_make_55
      rw [hT.1, if_pos (show nI B < nI nb from nI_lt hB (by omega)), hI.1.2.1, has_nI (by omega), nI_1]
    dsimp only
    rw [hBd]
    by_cases q : bt (fl.2.1 0) B = true
    · rw [if_pos q]
      exact ⟨_, rfl, P1_step hT hok h8 h0 hB q hI⟩
    · rw [if_neg q]
      exact ⟨_, rfl, P1_skip (bool_f q) hI⟩
  · show Maker_make_L22b to fl g mk (nI nb) = _
    unfold Maker_make_L22b
    rw [hT.1, if_neg (show ¬ nI nb < nI nb from nI_nlt (Nat.le_refl _) (by omega))]
end BEGUN
