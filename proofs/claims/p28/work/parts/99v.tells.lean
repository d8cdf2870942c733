/-! BLOCKS AS THE LAW TELLS THEM: what block, line, cut and end leave -/
section TELLS
variable {to fl : Ob} {nb : Nat}
/-- what stands in the rows of the blocks, before anything is reckoned of it -/
def TJ (to : Ob) (nb : Nat) : Prop := to.2.1 0 = nI nb ∧ tOk to nb ∧ (∀ b, ∃ l, l ≤ 8 ∧ to.1 0 b = nI l) ∧ ∀ b, nb ≤ b → to.1 0 b = 0 ∧ to.1 5 b = 0 ∧ to.1 6 b = 0
def TI (to fl : Ob) (nb : Nat) : Prop := tGood to fl nb ∧ TJ to nb
def rSame (f g : Ob) : Prop := ∀ i, i ≠ 8 → i ≠ 9 → i ≠ 10 → g.1 i = f.1 i
theorem TI.h8 (h : TI to fl nb) (b : Nat) : nl to b ≤ 8 := by
  obtain ⟨l, h1, h2⟩ := h.2.2.2.1 b
  unfold nl
  rw [h2, tn_nI (by omega)]
  exact h1
theorem tOk_same {f g : Ob} (h : rSame f g) (hf : tOk f nb) : tOk g nb := by
  refine ⟨hf.1, hf.2.1, fun b hb => ?_⟩
  obtain ⟨⟨l, l1, l2, l3⟩, e, e1, e2, e3, e4⟩ := hf.2.2 b hb
  refine ⟨⟨l, l1, by rw [h 0 (by decide) (by decide) (by decide)]; exact l2, fun k hk => ?_⟩, e, e1, by rw [h 5 (by decide) (by decide) (by decide)]; exact e2, by rw [h 6 (by decide) (by decide) (by decide)]; exact e3, fun k hk => by rw [h 7 (by decide) (by decide) (by decide)]; exact e4 k hk⟩
  unfold lineOk
  rw [h 1 (by decide) (by decide) (by decide), h 2 (by decide) (by decide) (by decide), h 3 (by decide) (by decide) (by decide), h 4 (by decide) (by decide) (by decide)]
  exact l3 k hk
theorem TJ.rows (h : TJ to nb) : tRows to nb := by
  refine ⟨h.1, h.2.1.1, h.2.1.2.1, fun b hb => ?_⟩
  obtain ⟨⟨l, l1, l2, -⟩, e, e1, e2, -, e4⟩ := h.2.1.2.2 b hb
  exact ⟨⟨l, l1, l2⟩, e, e1, e2, e4⟩
theorem TJ.reckon (h : TJ to nb) (fl : Ob) : TI (Told_reckon to fl).1 (Told_reckon to fl).2 nb ∧ rSame to (Told_reckon to fl).1 ∧ (Told_reckon to fl).1.2 = to.2 := by
  obtain ⟨t1, t2, t3⟩ := told_reckon (fl := fl) h.rows
  refine ⟨⟨t1, by rw [t3]; exact h.1, tOk_same t2 h.2.1, fun b => by rw [t2 0 (by decide) (by decide) (by decide)]; exact h.2.2.1 b, fun b hb => ?_⟩, t2, t3⟩
  rw [t2 0 (by decide) (by decide) (by decide), t2 5 (by decide) (by decide) (by decide), t2 6 (by decide) (by decide) (by decide)]
  exact h.2.2.2 b hb
theorem block_TI (h : TI to fl nb) (hn : nb < 10) : ∃ to' fl', Ph_block to fl = some (nI nb, to', fl') ∧ TI to' fl' (nb + 1) ∧ rSame to to' := by
  have hJ : TJ (oG to 0 (to.2.1 0 + 1)) (nb + 1) := by
    obtain ⟨j1, j2, j3, j4⟩ := h.2
    refine ⟨by show to.2.1 0 + 1 = _; rw [j1, nI_1], ⟨by omega, by omega, fun b hb => ?_⟩, j3, fun b hb => j4 b (by omega)⟩
    by_cases q : b < nb
    · obtain ⟨k1, e, e1, e2, e3, e4⟩ := j2.2.2 b q
      refine ⟨k1, e, e1, e2, e3, fun k hk => ?_⟩
      obtain ⟨c, c1, c2, c3⟩ := e4 k hk
      exact ⟨c, c1, by omega, c3⟩
    · obtain ⟨z0, z5, z6⟩ := j4 b (by omega)
      refine ⟨⟨0, by decide, z0, fun k hk => by omega⟩, 0, by decide, z5, ?_, fun k hk => by omega⟩
      show opOk (to.1 6 b)
      rw [z6]
      exact fun q => absurd (by decide) q
  obtain ⟨t1, t2, t3⟩ := hJ.reckon fl
  refine ⟨(Told_reckon (oG to 0 (to.2.1 0 + 1)) fl).1, (Told_reckon (oG to 0 (to.2.1 0 + 1)) fl).2, ?_, t1, t2⟩
  unfold Ph_block Told_addBlock Told_addBlock_14
  dsimp only
  rw [h.2.1, if_pos (show nI nb < 10 from lt10 hn), ← h.2.1]
  have e : (Told_reckon (oG to 0 (to.2.1 0 + 1)) fl).1.2.1 0 - 1 = nI nb := by
    rw [t3]
    show to.2.1 0 + 1 - 1 = nI nb
    rw [h.2.1, nI_1, nI_pred]
  rw [e, h.2.1]
theorem sets_7 : ∀ k, k < 9 → Ph_sets (nI k) = decide (k ≤ 6) := by
  unfold Ph_sets Ph_sets_14
  decide
theorem reck_5 : ∀ k, k < 9 → Ph_isReckoning (nI k) = decide (1 ≤ k ∧ k ≤ 5) := by
  unfold Ph_isReckoning Ph_isReckoning_14
  decide
/-- operands as the law draws them -/
def opR (p : Int32) : Prop := (∃ j, j < 9 ∧ p = nI j - 3) ∨ ∃ j, j < 6 ∧ p = (100 : Int32) + nI j
theorem opR.isOp {p : Int32} (h : opR p) : Ph_isOperand p = true := by
  have h1 : ∀ j, j < 9 → Ph_isOperand (nI j - 3) = true := by
    unfold Ph_isOperand Ph_isOperand_16
    decide
  have h2 : ∀ j, j < 6 → Ph_isOperand ((100 : Int32) + nI j) = true := by
    unfold Ph_isOperand Ph_isOperand_16
    decide
  rcases h with ⟨j, hj, rfl⟩ | ⟨j, hj, rfl⟩
  · exact h1 j hj
  · exact h2 j hj
theorem opR.ok {p : Int32} (h : opR p) : opOk p := by
  have h1 : ∀ j, j < 9 → nI j - 3 < 100 := by decide
  have h2 : ∀ j, j < 6 → (100 : Int32) + nI j - 100 = nI j := by decide
  rcases h with ⟨j, hj, rfl⟩ | ⟨j, hj, rfl⟩
  · exact fun q => absurd (h1 j hj) q
  · exact fun _ => ⟨j, hj, h2 j hj⟩
theorem opR_0 : opR 0 := Or.inl ⟨3, by decide, by decide⟩
theorem isLine_ok {kk j : Nat} {p q : Int32} (hk : kk < 9) (hj : j < 6) (hj0 : 7 ≤ kk → j = 0) (hp : opR p) (hq : opR q) (hq0 : kk = 0 ∨ kk = 6 ∨ kk = 8 → q = 0) : Ph_isLine (nI kk) (nI j) p q = true := by
  have e1 : Ph_isLine (nI kk) (nI j) p q = Ph_isLine_34 (nI kk) (nI j) q 1 := by
    unfold Ph_isLine
    rw [if_neg (nI_pos (by omega)), if_neg (show ¬ (8 : Int32) < nI kk from nI_nlt (a := 8) (b := kk) (by omega) (by decide)), if_pos hp.isOp, if_neg (nI_pos (by omega)), if_pos (show nI j < 6 from nI_lt (a := j) (b := 6) hj (by decide))]
  rw [e1]
  have hne : ¬ (1 : Int32) = 0 := by decide
  have e2 : ∀ w : Int32, (w = 1 ∨ w = 0 ∧ q = 0) → Ph_isLine_54 (nI kk) (nI j) q 1 w = true := fun w hw => by
    unfold Ph_isLine_54 Ph_isLine_75 Ph_isLine_94
    rw [sets_7 kk hk]
    by_cases z : kk ≤ 6
    · rw [if_pos (decide_eq_true z), if_neg hne]
      rcases hw with rfl | ⟨rfl, rfl⟩
      · rw [if_neg hne, if_pos hq.isOp]
      · rw [if_pos rfl, if_pos rfl]
    · rw [decide_eq_false z, if_neg (by decide), hj0 (by omega), if_pos nI_0]
      rcases hw with rfl | ⟨rfl, rfl⟩
      · rw [if_neg hne, if_pos hq.isOp]
      · rw [if_pos rfl, if_pos rfl]
  unfold Ph_isLine_34 Ph_isLine_49
  rw [reck_5 kk hk]
  by_cases z : 1 ≤ kk ∧ kk ≤ 5
  · rw [if_pos (decide_eq_true z)]
    exact e2 1 (Or.inl rfl)
  · rw [decide_eq_false z, if_neg (by decide)]
    by_cases y : kk = 7
    · rw [y, if_pos (by decide), ← y]
      exact e2 1 (Or.inl rfl)
    · rw [if_neg (show ¬ nI kk = 7 from fun e => y (nI_inj (a := kk) (b := 7) (by omega) (by decide) e))]
      exact e2 0 (Or.inr ⟨rfl, hq0 (by omega)⟩)
theorem line_TI (h : TI to fl nb) {b l kk j : Nat} {p q : Int32} (hb : b < nb) (hl : to.1 0 b = nI l) (hl8 : l < 8) (hk : kk < 9) (hj : j < 6) (hj0 : 7 ≤ kk → j = 0) (hp : opR p) (hq : opR q) (hq0 : kk = 0 ∨ kk = 6 ∨ kk = 8 → q = 0) : ∃ to' fl', Ph_line to fl (nI b) (nI kk) (nI j) p q = some (nI l, to', fl') ∧ TI to' fl' nb ∧ (∀ c, to'.1 0 c = if c = b then nI (l + 1) else to.1 0 c) ∧ to'.1 5 = to.1 5 := by
  obtain ⟨j1, j2, j3, j4⟩ := id h.2
  have hb10 : b < 10 := by have := j2.2.1; omega
  generalize hg : rs (rs (rs (rs (rs to 1 (b * 8 + l) (nI kk)) 2 (b * 8 + l) (nI j)) 3 (b * 8 + l) p) 4 (b * 8 + l) q) 0 b (nI (l + 1)) = g
  have g0 : ∀ c, g.1 0 c = if c = b then nI (l + 1) else to.1 0 c := fun c => by
    rw [← hg, rs_i, rs_r _ _ _ _ (show 0 ≠ 4 by decide), rs_r _ _ _ _ (show 0 ≠ 3 by decide), rs_r _ _ _ _ (show 0 ≠ 2 by decide), rs_r _ _ _ _ (show 0 ≠ 1 by decide)]
  have g1 : ∀ c, g.1 1 c = if c = b * 8 + l then nI kk else to.1 1 c := fun c => by
    rw [← hg, rs_r _ _ _ _ (show 1 ≠ 0 by decide), rs_r _ _ _ _ (show 1 ≠ 4 by decide), rs_r _ _ _ _ (show 1 ≠ 3 by decide), rs_r _ _ _ _ (show 1 ≠ 2 by decide), rs_i]
  have g2 : ∀ c, g.1 2 c = if c = b * 8 + l then nI j else to.1 2 c := fun c => by
    rw [← hg, rs_r _ _ _ _ (show 2 ≠ 0 by decide), rs_r _ _ _ _ (show 2 ≠ 4 by decide), rs_r _ _ _ _ (show 2 ≠ 3 by decide), rs_i, rs_r _ _ _ _ (show 2 ≠ 1 by decide)]
  have g3 : ∀ c, g.1 3 c = if c = b * 8 + l then p else to.1 3 c := fun c => by
    rw [← hg, rs_r _ _ _ _ (show 3 ≠ 0 by decide), rs_r _ _ _ _ (show 3 ≠ 4 by decide), rs_i, rs_r _ _ _ _ (show 3 ≠ 2 by decide), rs_r _ _ _ _ (show 3 ≠ 1 by decide)]
  have g4 : ∀ c, g.1 4 c = if c = b * 8 + l then q else to.1 4 c := fun c => by
    rw [← hg, rs_r _ _ _ _ (show 4 ≠ 0 by decide), rs_i, rs_r _ _ _ _ (show 4 ≠ 3 by decide), rs_r _ _ _ _ (show 4 ≠ 2 by decide), rs_r _ _ _ _ (show 4 ≠ 1 by decide)]
  have gr : ∀ i, 4 < i → g.1 i = to.1 i := fun i hi => by
    rw [← hg, rs_r _ _ _ _ (show i ≠ 0 by omega), rs_r _ _ _ _ (show i ≠ 4 by omega), rs_r _ _ _ _ (show i ≠ 3 by omega), rs_r _ _ _ _ (show i ≠ 2 by omega), rs_r _ _ _ _ (show i ≠ 1 by omega)]
  have gn : g.2 = to.2 := by rw [← hg]; rfl
  have hold : ∀ c k, k < 8 → ¬ (c = b ∧ k = l) → lineOk to c k → lineOk g c k := fun c k hk8 hne ho => by
    have hc : ¬ c * 8 + k = b * 8 + l := fun e => hne (by omega)
    unfold lineOk
    rw [g1, g2, g3, g4, if_neg hc, if_neg hc, if_neg hc, if_neg hc]
    exact ho
  have hJ : TJ g nb := by
    refine ⟨by rw [gn]; exact j1, ⟨j2.1, j2.2.1, fun c hc => ?_⟩, fun c => ?_, fun c hc => ?_⟩
    · obtain ⟨⟨m, m1, m2, m3⟩, e, e1, e2, e3, e4⟩ := j2.2.2 c hc
      refine ⟨?_, e, e1, by rw [gr 5 (by decide)]; exact e2, by rw [gr 6 (by decide)]; exact e3, fun k hk => by rw [gr 7 (by decide)]; exact e4 k hk⟩
      by_cases z : c = b
      · subst z
        refine ⟨l + 1, by omega, by rw [g0, if_pos rfl], fun k hk' => ?_⟩
        by_cases y : k = l
        · subst y
          unfold lineOk
          rw [g1, g2, g3, g4, if_pos rfl, if_pos rfl, if_pos rfl, if_pos rfl]
          exact ⟨kk, hk, rfl, fun _ => ⟨j, hj, rfl⟩, hp.ok, hq.ok⟩
        · have hml : m = l := nI_inj (by omega) (by omega) (m2.symm.trans hl)
          exact hold c k (by omega) (fun z => y z.2) (m3 k (by omega))
      · exact ⟨m, m1, by rw [g0, if_neg z]; exact m2, fun k hk' => hold c k (by omega) (fun y => z y.1) (m3 k hk')⟩
    · rw [g0]
      split
      · exact ⟨l + 1, by omega, rfl⟩
      · exact j3 c
    · rw [g0, if_neg (by omega), gr 5 (by decide), gr 6 (by decide)]
      exact j4 c hc
  obtain ⟨t1, t2, t3⟩ := hJ.reckon fl
  refine ⟨(Told_reckon g fl).1, (Told_reckon g fl).2, ?_, t1, fun c => by rw [t2 0 (by decide) (by decide) (by decide)]; exact g0 c, by rw [t2 5 (by decide) (by decide) (by decide), gr 5 (by decide)]⟩
  unfold Ph_line Told_addLine Told_addLine_77
  rw [if_pos (told_k j1 j2.2.1 hb), if_pos (isLine_ok hk hj hj0 hp hq hq0), oat_rs hb10 (by decide), hl, if_pos (show nI l < 8 from nI_lt (a := l) (b := 8) hl8 (by decide)), ix8, nI_1, oput_rs (n := 10) hb10 (by decide), oput_rs (n := 80) (k := b * 8 + l) (by omega) (by decide), oput_rs (n := 80) (k := b * 8 + l) (by omega) (by decide), oput_rs (n := 80) (k := b * 8 + l) (by omega) (by decide), oput_rs (n := 80) (k := b * 8 + l) (by omega) (by decide), hg]
theorem cut_TI (h : TI to fl nb) {b l : Nat} (hb : b < nb) (hl : to.1 0 b = nI (l + 1)) (hl8 : l < 8) : ∃ to' fl', Ph_cut to fl (nI b) = some (nI l, to', fl') ∧ TI to' fl' nb ∧ (∀ c, to'.1 0 c = if c = b then nI l else to.1 0 c) := by
  obtain ⟨j1, j2, j3, j4⟩ := id h.2
  have hb10 : b < 10 := by have := j2.2.1; omega
  have hJ : TJ (rs to 0 b (nI l)) nb := by
    refine ⟨j1, ⟨j2.1, j2.2.1, fun c hc => ?_⟩, fun c => ?_, fun c hc => ?_⟩
    · obtain ⟨⟨m, m1, m2, m3⟩, e, e1, e2, e3, e4⟩ := j2.2.2 c hc
      refine ⟨?_, e, e1, by rw [rs_r _ _ _ _ (show 5 ≠ 0 by decide)]; exact e2, by rw [rs_r _ _ _ _ (show 6 ≠ 0 by decide)]; exact e3, fun k hk => by rw [rs_r _ _ _ _ (show 7 ≠ 0 by decide)]; exact e4 k hk⟩
      have hlo : ∀ k, lineOk to c k → lineOk (rs to 0 b (nI l)) c k := fun k hk => by
        unfold lineOk
        rw [rs_r _ _ _ _ (show 1 ≠ 0 by decide), rs_r _ _ _ _ (show 2 ≠ 0 by decide), rs_r _ _ _ _ (show 3 ≠ 0 by decide), rs_r _ _ _ _ (show 4 ≠ 0 by decide)]
        exact hk
      by_cases z : c = b
      · subst z
        have hml : m = l + 1 := nI_inj (by omega) (by omega) (m2.symm.trans hl)
        exact ⟨l, by omega, by rw [rs_i, if_pos rfl], fun k hk => hlo k (m3 k (by omega))⟩
      · exact ⟨m, m1, by rw [rs_i, if_neg z]; exact m2, fun k hk => hlo k (m3 k hk)⟩
    · rw [rs_i]
      split
      · exact ⟨l, by omega, rfl⟩
      · exact j3 c
    · rw [rs_i, if_neg (by omega), rs_r _ _ _ _ (show 5 ≠ 0 by decide), rs_r _ _ _ _ (show 6 ≠ 0 by decide)]
      exact j4 c hc
  obtain ⟨t1, t2, t3⟩ := hJ.reckon fl
  refine ⟨_, _, ?_, t1, fun c => by rw [t2 0 (by decide) (by decide) (by decide), rs_i]⟩
  unfold Ph_cut Told_cutLine Told_cutLine_24
  rw [if_pos (told_k j1 j2.2.1 hb), oat_rs hb10 (by decide), hl, if_neg (nI_ne0 (by omega) (by omega)), nI_pred, oput_rs hb10 (by decide)]
theorem target_ok (h : to.2.1 0 = nI nb) (h10 : nb ≤ 10) {c : Nat} (h1 : 1 ≤ c) (hc : c < nb) : Ph_isTarget to (nI c) = true := by
  unfold Ph_isTarget
  rw [h, if_pos (show (0 : Int32) < nI c from nI_lt (a := 0) (b := c) (by omega) (by omega)), if_pos (nI_lt hc (by omega))]
theorem end_TI (h : TI to fl nb) {b e : Nat} {p t o : Int32} (hb : b < nb) (he : e ≤ 2) (hp : opR p) (hp0 : e = 1 → p = 0) (ht0 : e = 0 → t = 0) (ho0 : e < 2 → o = 0) (ht : 1 ≤ e → ∃ c, 1 ≤ c ∧ c < nb ∧ t = nI c) (ho : e = 2 → ∃ c, 1 ≤ c ∧ c < nb ∧ o = nI c) : ∃ to' fl', Ph_end to fl (nI b) (nI e) p t o = some (to.1 5 b, to', fl') ∧ TI to' fl' nb ∧ to'.1 0 = to.1 0 ∧ ∀ c, to'.1 5 c = if c = b then nI e else to.1 5 c := by
  obtain ⟨j1, j2, j3, j4⟩ := id h.2
  have h10 := j2.2.1
  have hb10 : b < 10 := by omega
  generalize hg : rs (rs (rs (rs to 5 b (nI e)) 6 b p) 7 (b * 2) t) 7 (b * 2 + 1) o = g
  have g5 : ∀ c, g.1 5 c = if c = b then nI e else to.1 5 c := fun c => by
    rw [← hg, rs_r _ _ _ _ (show 5 ≠ 7 by decide), rs_r _ _ _ _ (show 5 ≠ 7 by decide), rs_r _ _ _ _ (show 5 ≠ 6 by decide), rs_i]
  have g6 : ∀ c, g.1 6 c = if c = b then p else to.1 6 c := fun c => by
    rw [← hg, rs_r _ _ _ _ (show 6 ≠ 7 by decide), rs_r _ _ _ _ (show 6 ≠ 7 by decide), rs_i, rs_r _ _ _ _ (show 6 ≠ 5 by decide)]
  have g7 : ∀ c, g.1 7 c = if c = b * 2 + 1 then o else if c = b * 2 then t else to.1 7 c := fun c => by
    rw [← hg, rs_i, rs_i, rs_r _ _ _ _ (show 7 ≠ 6 by decide), rs_r _ _ _ _ (show 7 ≠ 5 by decide)]
  have gr : ∀ i, i < 5 → g.1 i = to.1 i := fun i hi => by
    rw [← hg, rs_r _ _ _ _ (show i ≠ 7 by omega), rs_r _ _ _ _ (show i ≠ 7 by omega), rs_r _ _ _ _ (show i ≠ 6 by omega), rs_r _ _ _ _ (show i ≠ 5 by omega)]
  have gn : g.2 = to.2 := by rw [← hg]; rfl
  have hJ : TJ g nb := by
    refine ⟨by rw [gn]; exact j1, ⟨j2.1, h10, fun c hc => ?_⟩, fun c => by rw [gr 0 (by decide)]; exact j3 c, fun c hc => ?_⟩
    · obtain ⟨⟨m, m1, m2, m3⟩, e', e1, e2, e3, e4⟩ := j2.2.2 c hc
      refine ⟨⟨m, m1, by rw [gr 0 (by decide)]; exact m2, fun k hk => ?_⟩, ?_⟩
      · unfold lineOk
        rw [gr 1 (by decide), gr 2 (by decide), gr 3 (by decide), gr 4 (by decide)]
        exact m3 k hk
      · by_cases z : c = b
        · subst z
          refine ⟨e, he, by rw [g5, if_pos rfl], by rw [g6, if_pos rfl]; exact hp.ok, fun k hk => ?_⟩
          have hk01 : k = 0 ∨ k = 1 ∧ e = 2 := by omega
          rcases hk01 with rfl | ⟨rfl, q⟩
          · obtain ⟨d, d1, d2, d3⟩ := ht (by omega)
            exact ⟨d, d1, d2, by rw [g7, if_neg (by omega), if_pos (by omega)]; exact d3⟩
          · obtain ⟨d, d1, d2, d3⟩ := ho q
            exact ⟨d, d1, d2, by rw [g7, if_pos rfl]; exact d3⟩
        · refine ⟨e', e1, by rw [g5, if_neg z]; exact e2, by rw [g6, if_neg z]; exact e3, fun k hk => ?_⟩
          rw [g7, if_neg (by omega), if_neg (by omega)]
          exact e4 k hk
    · rw [gr 0 (by decide), g5, g6, if_neg (by omega), if_neg (by omega)]
      exact j4 c hc
  obtain ⟨t1, t2, t3⟩ := hJ.reckon fl
  refine ⟨(Told_reckon g fl).1, (Told_reckon g fl).2, ?_, t1, by rw [t2 0 (by decide) (by decide) (by decide), gr 0 (by decide)], fun c => by rw [t2 5 (by decide) (by decide) (by decide)]; exact g5 c⟩
  have hE : Ph_isEnd to (nI e) p t o = true := by
    unfold Ph_isEnd
    have he3 : e = 0 ∨ e = 1 ∨ e = 2 := by omega
    rcases he3 with rfl | rfl | rfl
    · rw [if_pos nI_0, if_pos hp.isOp, if_pos (ht0 rfl), if_pos (ho0 (by decide))]
    · obtain ⟨c, c1, c2, rfl⟩ := ht (by decide)
      rw [if_neg (show ¬ nI 1 = 0 by decide), if_pos (show nI 1 = 1 by decide), if_pos (hp0 rfl), if_pos (target_ok j1 h10 c1 c2), if_pos (ho0 (by decide))]
    · obtain ⟨c, c1, c2, rfl⟩ := ht (by decide)
      obtain ⟨d, d1, d2, rfl⟩ := ho rfl
      rw [if_neg (show ¬ nI 2 = 0 by decide), if_neg (show ¬ nI 2 = 1 by decide), if_pos (show nI 2 = 2 by decide), if_pos hp.isOp, if_pos (target_ok j1 h10 c1 c2), if_pos (target_ok j1 h10 d1 d2)]
  unfold Ph_end Told_putEnd Told_putEnd_58
  rw [if_pos (told_k j1 h10 hb), if_pos hE, ix2_0, nI_1, oput_rs hb10 (by decide), oput_rs hb10 (by decide), oput_rs (by omega) (by decide), oput_rs (by omega) (by decide), hg, oat_rs hb10 (by decide)]
end TELLS
