/-! CALLS of the methods -/
section CALLS
variable {sc : mmC} {rest : List mmC} {to fl ma tr mk cn nu de ru la tb tf ph : Ob} {cs : Int64}
theorem oi_1 : (mh sc rest to fl ma tr mk cn nu de ru la tb tf ph cs)[1]? = some (11, [.ref 2, .ref 34, .ref 61, .ref 88, .ref 95, .ref 100, .ref 110, .ref 113, .ref 114, .ref 121, .ref 126, .ref 131, .int (b2i (ph.2.2 0)), .int (ph.2.1 0), .long cs]) := rfl
theorem oi_2 : (mh sc rest to fl ma tr mk cn nu de ru la tb tf ph cs)[2]? = some (10, [.ref 3, .ref 5, .ref 7, .ref 9, .ref 11, .ref 13, .ref 15, .ref 17, .ref 19, .ref 21, .ref 23, .ref 25, .int (to.2.1 0)]) := rfl
theorem oi_25 : (mh sc rest to fl ma tr mk cn nu de ru la tb tf ph cs)[25]? = some (2, [.ref 26, .ref 28, .ref 30, .ref 32, .int (fl.2.1 0)]) := rfl
theorem oi_34 : (mh sc rest to fl ma tr mk cn nu de ru la tb tf ph cs)[34]? = some (3, [.ref 35, .ref 37, .ref 39, .ref 41, .ref 43, .ref 45, .ref 47, .ref 49, .ref 51, .ref 53, .ref 55, .ref 57, .ref 59, .int (ma.2.1 0), .int (ma.2.1 1), .int (ma.2.1 2), .int (ma.2.1 3), .int (ma.2.1 4), .int (ma.2.1 5)]) := rfl
theorem oi_61 : (mh sc rest to fl ma tr mk cn nu de ru la tb tf ph cs)[61]? = some (3, [.ref 62, .ref 64, .ref 66, .ref 68, .ref 70, .ref 72, .ref 74, .ref 76, .ref 78, .ref 80, .ref 82, .ref 84, .ref 86, .int (tr.2.1 0), .int (tr.2.1 1), .int (tr.2.1 2), .int (tr.2.1 3), .int (tr.2.1 4), .int (tr.2.1 5)]) := rfl
theorem oi_88 : (mh sc rest to fl ma tr mk cn nu de ru la tb tf ph cs)[88]? = some (5, [.ref 89, .ref 91, .ref 93]) := rfl
theorem oi_95 : (mh sc rest to fl ma tr mk cn nu de ru la tb tf ph cs)[95]? = some (0, [.ref 96, .ref 98, .int (cn.2.1 0), .int (cn.2.1 1), .int (b2i (cn.2.2 0))]) := rfl
theorem oi_100 : (mh sc rest to fl ma tr mk cn nu de ru la tb tf ph cs)[100]? = some (6, [.ref 101]) := rfl
theorem oi_101 : (mh sc rest to fl ma tr mk cn nu de ru la tb tf ph cs)[101]? = some (2, [.ref 102, .ref 104, .ref 106, .ref 108, .int (nu.2.1 0)]) := rfl
theorem oi_110 : (mh sc rest to fl ma tr mk cn nu de ru la tb tf ph cs)[110]? = some (1, [.ref 111, .int (b2i (de.2.2 0))]) := rfl
theorem oi_113 : (mh sc rest to fl ma tr mk cn nu de ru la tb tf ph cs)[113]? = some (4, []) := rfl
theorem oi_114 : (mh sc rest to fl ma tr mk cn nu de ru la tb tf ph cs)[114]? = some (8, [.ref 115, .ref 117, .ref 119]) := rfl
theorem oi_121 : (mh sc rest to fl ma tr mk cn nu de ru la tb tf ph cs)[121]? = some (9, [.ref 124, .ref 122, .int (b2i (la.2.2 0)), .int (la.2.1 0), .int (la.2.1 1), .int (la.2.1 2), .int (la.2.1 3), .int (la.2.1 4)]) := rfl
theorem oi_126 : (mh sc rest to fl ma tr mk cn nu de ru la tb tf ph cs)[126]? = some (9, [.ref 129, .ref 127, .int (b2i (tb.2.2 0)), .int (tb.2.1 0), .int (tb.2.1 1), .int (tb.2.1 2), .int (tb.2.1 3), .int (tb.2.1 4)]) := rfl
theorem oi_131 : (mh sc rest to fl ma tr mk cn nu de ru la tb tf ph cs)[131]? = some (9, [.ref 134, .ref 132, .int (b2i (tf.2.2 0)), .int (tf.2.1 0), .int (tf.2.1 1), .int (tf.2.1 2), .int (tf.2.1 3), .int (tf.2.1 4)]) := rfl
variable {t : List mmI} {pc len j a : Nat} {c : mmC} {lv : List (Option Value)} {st : List Value} {h h1 : List mmC} {ax : List Nat} {x : Option Value × List mmC}
theorem kc_X2_forget_0 (hf : mmFetch t pc = some (.invokevirtual j, len, 0 :: 20 :: 1 :: 2 :: ax)) (ho : h[a]? = some c) (hc : c.1 = 2) (hw : mmWords st ≤ 8) (hm : Ev mmPT tbX2_forget 0 [some (.ref a)] [] h (none, h1)) (kk : Ev mmPT t (pc + 3) lv st h1 x) : Ev mmPT t pc lv (.ref a :: st) h x := by
  refine Ev.call (M := mX2_forget) (as := [.ref a]) (r := st) (v := none) (h' := h1) (Or.inl rfl) hf ?_ hm kk
  unfold mmCall
  dsimp only
  rw [show mmPT[20]? = some mX2_forget from rfl]
  dsimp only
  rw [if_pos ⟨rfl, hw, Nat.le_of_ble_eq_true rfl⟩, if_neg (by decide)]
  simp only [List.take_succ_cons, List.take_zero, List.reverse_cons, List.reverse_nil, List.nil_append, List.cons_append, List.drop_succ_cons, List.drop_zero, ho]
  rw [if_pos ⟨hc, by decide⟩]
theorem kc_X11_bit_3 {u0 : Int32} {r : Int32} (hf : mmFetch t pc = some (.invokestatic j, len, 3 :: 151 :: 1 :: 11 :: ax)) (hw : mmWords st ≤ 8) (hm : Ev mmPT tbX11_bit 0 [some (.int u0)] [] h (some (.int r), h1)) (kk : Ev mmPT t (pc + 3) lv (.int r :: st) h1 x) : Ev mmPT t pc lv (.int u0 :: st) h x := by
  refine Ev.call (M := mX11_bit) (as := [.int u0]) (r := st) (v := some (.int r)) (h' := h1) (Or.inr (Or.inl ⟨rfl, len4⟩)) hf ?_ hm kk
  unfold mmCall
  dsimp only
  rw [show mmPT[151]? = some mX11_bit from rfl]
  dsimp only
  rw [if_pos ⟨rfl, hw, Nat.le_of_ble_eq_true rfl⟩, if_pos (by decide)]
  rfl
theorem kc_X11_has_3 {u0 : Int32} {u1 : Int32} {r : Int32} (hf : mmFetch t pc = some (.invokestatic j, len, 3 :: 152 :: 2 :: 11 :: ax)) (hw : mmWords st ≤ 8) (hm : Ev mmPT tbX11_has 0 [some (.int u0), some (.int u1)] [] h (some (.int r), h1)) (kk : Ev mmPT t (pc + 3) lv (.int r :: st) h1 x) : Ev mmPT t pc lv (.int u1 :: .int u0 :: st) h x := by
  refine Ev.call (M := mX11_has) (as := [.int u0, .int u1]) (r := st) (v := some (.int r)) (h' := h1) (Or.inr (Or.inl ⟨rfl, len4⟩)) hf ?_ hm kk
  unfold mmCall
  dsimp only
  rw [show mmPT[152]? = some mX11_has from rfl]
  dsimp only
  rw [if_pos ⟨rfl, hw, Nat.le_of_ble_eq_true rfl⟩, if_pos (by decide)]
  rfl
theorem kc_X2_reachedWithout_0 {u0 : Int32} {r : Int32} (hf : mmFetch t pc = some (.invokevirtual j, len, 0 :: 23 :: 2 :: 2 :: ax)) (ho : h[a]? = some c) (hc : c.1 = 2) (hw : mmWords st ≤ 8) (hm : Ev mmPT tbX2_reachedWithout 0 [some (.ref a), some (.int u0), none, none, none, none] [] h (some (.int r), h1)) (kk : Ev mmPT t (pc + 3) lv (.int r :: st) h1 x) : Ev mmPT t pc lv (.int u0 :: .ref a :: st) h x := by
  refine Ev.call (M := mX2_reachedWithout) (as := [.ref a, .int u0]) (r := st) (v := some (.int r)) (h' := h1) (Or.inl rfl) hf ?_ hm kk
  unfold mmCall
  dsimp only
  rw [show mmPT[23]? = some mX2_reachedWithout from rfl]
  dsimp only
  rw [if_pos ⟨rfl, hw, Nat.le_of_ble_eq_true rfl⟩, if_neg (by decide)]
  simp only [List.take_succ_cons, List.take_zero, List.reverse_cons, List.reverse_nil, List.nil_append, List.cons_append, List.drop_succ_cons, List.drop_zero, ho]
  rw [if_pos ⟨hc, by decide⟩]
theorem kc_X2_addDominator_0 {u0 : Int32} {u1 : Int32} (hf : mmFetch t pc = some (.invokevirtual j, len, 0 :: 24 :: 3 :: 2 :: ax)) (ho : h[a]? = some c) (hc : c.1 = 2) (hw : mmWords st ≤ 8) (hm : Ev mmPT tbX2_addDominator 0 [some (.ref a), some (.int u0), some (.int u1), none] [] h (none, h1)) (kk : Ev mmPT t (pc + 3) lv st h1 x) : Ev mmPT t pc lv (.int u1 :: .int u0 :: .ref a :: st) h x := by
  refine Ev.call (M := mX2_addDominator) (as := [.ref a, .int u0, .int u1]) (r := st) (v := none) (h' := h1) (Or.inl rfl) hf ?_ hm kk
  unfold mmCall
  dsimp only
  rw [show mmPT[24]? = some mX2_addDominator from rfl]
  dsimp only
  rw [if_pos ⟨rfl, hw, Nat.le_of_ble_eq_true rfl⟩, if_neg (by decide)]
  simp only [List.take_succ_cons, List.take_zero, List.reverse_cons, List.reverse_nil, List.nil_append, List.cons_append, List.drop_succ_cons, List.drop_zero, ho]
  rw [if_pos ⟨hc, by decide⟩]
theorem kc_X2_firstReady_0 {u0 : Int32} {r : Int32} (hf : mmFetch t pc = some (.invokevirtual j, len, 0 :: 25 :: 2 :: 2 :: ax)) (ho : h[a]? = some c) (hc : c.1 = 2) (hw : mmWords st ≤ 8) (hm : Ev mmPT tbX2_firstReady 0 [some (.ref a), some (.int u0), none] [] h (some (.int r), h1)) (kk : Ev mmPT t (pc + 3) lv (.int r :: st) h1 x) : Ev mmPT t pc lv (.int u0 :: .ref a :: st) h x := by
  refine Ev.call (M := mX2_firstReady) (as := [.ref a, .int u0]) (r := st) (v := some (.int r)) (h' := h1) (Or.inl rfl) hf ?_ hm kk
  unfold mmCall
  dsimp only
  rw [show mmPT[25]? = some mX2_firstReady from rfl]
  dsimp only
  rw [if_pos ⟨rfl, hw, Nat.le_of_ble_eq_true rfl⟩, if_neg (by decide)]
  simp only [List.take_succ_cons, List.take_zero, List.reverse_cons, List.reverse_nil, List.nil_append, List.cons_append, List.drop_succ_cons, List.drop_zero, ho]
  rw [if_pos ⟨hc, by decide⟩]
theorem kc_X2_reckon_0 (hf : mmFetch t pc = some (.invokevirtual j, len, 0 :: 22 :: 1 :: 2 :: ax)) (ho : h[a]? = some c) (hc : c.1 = 2) (hw : mmWords st ≤ 8) (hm : Ev mmPT tbX2_reckon 0 [some (.ref a), none, none, none] [] h (none, h1)) (kk : Ev mmPT t (pc + 3) lv st h1 x) : Ev mmPT t pc lv (.ref a :: st) h x := by
  refine Ev.call (M := mX2_reckon) (as := [.ref a]) (r := st) (v := none) (h' := h1) (Or.inl rfl) hf ?_ hm kk
  unfold mmCall
  dsimp only
  rw [show mmPT[22]? = some mX2_reckon from rfl]
  dsimp only
  rw [if_pos ⟨rfl, hw, Nat.le_of_ble_eq_true rfl⟩, if_neg (by decide)]
  simp only [List.take_succ_cons, List.take_zero, List.reverse_cons, List.reverse_nil, List.nil_append, List.cons_append, List.drop_succ_cons, List.drop_zero, ho]
  rw [if_pos ⟨hc, by decide⟩]
theorem kc_X10_reckonWanted_0 (hf : mmFetch t pc = some (.invokevirtual j, len, 0 :: 108 :: 1 :: 10 :: ax)) (ho : h[a]? = some c) (hc : c.1 = 10) (hw : mmWords st ≤ 8) (hm : Ev mmPT tbX10_reckonWanted 0 [some (.ref a), none, none, none, none] [] h (none, h1)) (kk : Ev mmPT t (pc + 3) lv st h1 x) : Ev mmPT t pc lv (.ref a :: st) h x := by
  refine Ev.call (M := mX10_reckonWanted) (as := [.ref a]) (r := st) (v := none) (h' := h1) (Or.inl rfl) hf ?_ hm kk
  unfold mmCall
  dsimp only
  rw [show mmPT[108]? = some mX10_reckonWanted from rfl]
  dsimp only
  rw [if_pos ⟨rfl, hw, Nat.le_of_ble_eq_true rfl⟩, if_neg (by decide)]
  simp only [List.take_succ_cons, List.take_zero, List.reverse_cons, List.reverse_nil, List.nil_append, List.cons_append, List.drop_succ_cons, List.drop_zero, ho]
  rw [if_pos ⟨hc, by decide⟩]
theorem kc_X2_lead_0 {u0 : Int32} {u1 : Int32} (hf : mmFetch t pc = some (.invokevirtual j, len, 0 :: 21 :: 3 :: 2 :: ax)) (ho : h[a]? = some c) (hc : c.1 = 2) (hw : mmWords st ≤ 8) (hm : Ev mmPT tbX2_lead 0 [some (.ref a), some (.int u0), some (.int u1)] [] h (none, h1)) (kk : Ev mmPT t (pc + 3) lv st h1 x) : Ev mmPT t pc lv (.int u1 :: .int u0 :: .ref a :: st) h x := by
  refine Ev.call (M := mX2_lead) (as := [.ref a, .int u0, .int u1]) (r := st) (v := none) (h' := h1) (Or.inl rfl) hf ?_ hm kk
  unfold mmCall
  dsimp only
  rw [show mmPT[21]? = some mX2_lead from rfl]
  dsimp only
  rw [if_pos ⟨rfl, hw, Nat.le_of_ble_eq_true rfl⟩, if_neg (by decide)]
  simp only [List.take_succ_cons, List.take_zero, List.reverse_cons, List.reverse_nil, List.nil_append, List.cons_append, List.drop_succ_cons, List.drop_zero, ho]
  rw [if_pos ⟨hc, by decide⟩]
theorem kc_X11_variableOf_3 {u0 : Int32} {r : Int32} (hf : mmFetch t pc = some (.invokestatic j, len, 3 :: 155 :: 1 :: 11 :: ax)) (hw : mmWords st ≤ 8) (hm : Ev mmPT tbX11_variableOf 0 [some (.int u0)] [] h (some (.int r), h1)) (kk : Ev mmPT t (pc + 3) lv (.int r :: st) h1 x) : Ev mmPT t pc lv (.int u0 :: st) h x := by
  refine Ev.call (M := mX11_variableOf) (as := [.int u0]) (r := st) (v := some (.int r)) (h' := h1) (Or.inr (Or.inl ⟨rfl, len4⟩)) hf ?_ hm kk
  unfold mmCall
  dsimp only
  rw [show mmPT[155]? = some mX11_variableOf from rfl]
  dsimp only
  rw [if_pos ⟨rfl, hw, Nat.le_of_ble_eq_true rfl⟩, if_pos (by decide)]
  rfl
theorem kc_X11_sets_3 {u0 : Int32} {r : Int32} (hf : mmFetch t pc = some (.invokestatic j, len, 3 :: 153 :: 1 :: 11 :: ax)) (hw : mmWords st ≤ 8) (hm : Ev mmPT tbX11_sets 0 [some (.int u0)] [] h (some (.int r), h1)) (kk : Ev mmPT t (pc + 3) lv (.int r :: st) h1 x) : Ev mmPT t pc lv (.int u0 :: st) h x := by
  refine Ev.call (M := mX11_sets) (as := [.int u0]) (r := st) (v := some (.int r)) (h' := h1) (Or.inr (Or.inl ⟨rfl, len4⟩)) hf ?_ hm kk
  unfold mmCall
  dsimp only
  rw [show mmPT[153]? = some mX11_sets from rfl]
  dsimp only
  rw [if_pos ⟨rfl, hw, Nat.le_of_ble_eq_true rfl⟩, if_pos (by decide)]
  rfl
theorem kc_X10_readLines_0 {u0 : Int32} (hf : mmFetch t pc = some (.invokevirtual j, len, 0 :: 107 :: 2 :: 10 :: ax)) (ho : h[a]? = some c) (hc : c.1 = 10) (hw : mmWords st ≤ 8) (hm : Ev mmPT tbX10_readLines 0 [some (.ref a), some (.int u0), none, none, none, none] [] h (none, h1)) (kk : Ev mmPT t (pc + 3) lv st h1 x) : Ev mmPT t pc lv (.int u0 :: .ref a :: st) h x := by
  refine Ev.call (M := mX10_readLines) (as := [.ref a, .int u0]) (r := st) (v := none) (h' := h1) (Or.inl rfl) hf ?_ hm kk
  unfold mmCall
  dsimp only
  rw [show mmPT[107]? = some mX10_readLines from rfl]
  dsimp only
  rw [if_pos ⟨rfl, hw, Nat.le_of_ble_eq_true rfl⟩, if_neg (by decide)]
  simp only [List.take_succ_cons, List.take_zero, List.reverse_cons, List.reverse_nil, List.nil_append, List.cons_append, List.drop_succ_cons, List.drop_zero, ho]
  rw [if_pos ⟨hc, by decide⟩]
theorem kc_X10_reckon_0 (hf : mmFetch t pc = some (.invokevirtual j, len, 0 :: 106 :: 1 :: 10 :: ax)) (ho : h[a]? = some c) (hc : c.1 = 10) (hw : mmWords st ≤ 8) (hm : Ev mmPT tbX10_reckon 0 [some (.ref a), none, none] [] h (none, h1)) (kk : Ev mmPT t (pc + 3) lv st h1 x) : Ev mmPT t pc lv (.ref a :: st) h x := by
  refine Ev.call (M := mX10_reckon) (as := [.ref a]) (r := st) (v := none) (h' := h1) (Or.inl rfl) hf ?_ hm kk
  unfold mmCall
  dsimp only
  rw [show mmPT[106]? = some mX10_reckon from rfl]
  dsimp only
  rw [if_pos ⟨rfl, hw, Nat.le_of_ble_eq_true rfl⟩, if_neg (by decide)]
  simp only [List.take_succ_cons, List.take_zero, List.reverse_cons, List.reverse_nil, List.nil_append, List.cons_append, List.drop_succ_cons, List.drop_zero, ho]
  rw [if_pos ⟨hc, by decide⟩]
theorem kc_X10_addBlock_0 {r : Int32} (hf : mmFetch t pc = some (.invokevirtual j, len, 0 :: 101 :: 1 :: 10 :: ax)) (ho : h[a]? = some c) (hc : c.1 = 10) (hw : mmWords st ≤ 8) (hm : Ev mmPT tbX10_addBlock 0 [some (.ref a)] [] h (some (.int r), h1)) (kk : Ev mmPT t (pc + 3) lv (.int r :: st) h1 x) : Ev mmPT t pc lv (.ref a :: st) h x := by
  refine Ev.call (M := mX10_addBlock) (as := [.ref a]) (r := st) (v := some (.int r)) (h' := h1) (Or.inl rfl) hf ?_ hm kk
  unfold mmCall
  dsimp only
  rw [show mmPT[101]? = some mX10_addBlock from rfl]
  dsimp only
  rw [if_pos ⟨rfl, hw, Nat.le_of_ble_eq_true rfl⟩, if_neg (by decide)]
  simp only [List.take_succ_cons, List.take_zero, List.reverse_cons, List.reverse_nil, List.nil_append, List.cons_append, List.drop_succ_cons, List.drop_zero, ho]
  rw [if_pos ⟨hc, by decide⟩]
theorem kc_X11_isTold_0 {u0 : Int32} {r : Int32} (hf : mmFetch t pc = some (.invokevirtual j, len, 0 :: 134 :: 2 :: 11 :: ax)) (ho : h[a]? = some c) (hc : c.1 = 11) (hw : mmWords st ≤ 8) (hm : Ev mmPT tbX11_isTold 0 [some (.ref a), some (.int u0)] [] h (some (.int r), h1)) (kk : Ev mmPT t (pc + 3) lv (.int r :: st) h1 x) : Ev mmPT t pc lv (.int u0 :: .ref a :: st) h x := by
  refine Ev.call (M := mX11_isTold) (as := [.ref a, .int u0]) (r := st) (v := some (.int r)) (h' := h1) (Or.inl rfl) hf ?_ hm kk
  unfold mmCall
  dsimp only
  rw [show mmPT[134]? = some mX11_isTold from rfl]
  dsimp only
  rw [if_pos ⟨rfl, hw, Nat.le_of_ble_eq_true rfl⟩, if_neg (by decide)]
  simp only [List.take_succ_cons, List.take_zero, List.reverse_cons, List.reverse_nil, List.nil_append, List.cons_append, List.drop_succ_cons, List.drop_zero, ho]
  rw [if_pos ⟨hc, by decide⟩]
theorem kc_X11_isOperand_2 {u0 : Int32} {r : Int32} (hf : mmFetch t pc = some (.invokestatic j, len, 2 :: 136 :: 1 :: 11 :: ax)) (hw : mmWords st ≤ 8) (hm : Ev mmPT tbX11_isOperand 0 [some (.int u0)] [] h (some (.int r), h1)) (kk : Ev mmPT t (pc + 3) lv (.int r :: st) h1 x) : Ev mmPT t pc lv (.int u0 :: st) h x := by
  refine Ev.call (M := mX11_isOperand) (as := [.int u0]) (r := st) (v := some (.int r)) (h' := h1) (Or.inr (Or.inl ⟨rfl, len4⟩)) hf ?_ hm kk
  unfold mmCall
  dsimp only
  rw [show mmPT[136]? = some mX11_isOperand from rfl]
  dsimp only
  rw [if_pos ⟨rfl, hw, Nat.le_of_ble_eq_true rfl⟩, if_pos (by decide)]
  rfl
theorem kc_X11_isReckoning_2 {u0 : Int32} {r : Int32} (hf : mmFetch t pc = some (.invokestatic j, len, 2 :: 154 :: 1 :: 11 :: ax)) (hw : mmWords st ≤ 8) (hm : Ev mmPT tbX11_isReckoning 0 [some (.int u0)] [] h (some (.int r), h1)) (kk : Ev mmPT t (pc + 3) lv (.int r :: st) h1 x) : Ev mmPT t pc lv (.int u0 :: st) h x := by
  refine Ev.call (M := mX11_isReckoning) (as := [.int u0]) (r := st) (v := some (.int r)) (h' := h1) (Or.inr (Or.inl ⟨rfl, len4⟩)) hf ?_ hm kk
  unfold mmCall
  dsimp only
  rw [show mmPT[154]? = some mX11_isReckoning from rfl]
  dsimp only
  rw [if_pos ⟨rfl, hw, Nat.le_of_ble_eq_true rfl⟩, if_pos (by decide)]
  rfl
theorem kc_X11_sets_2 {u0 : Int32} {r : Int32} (hf : mmFetch t pc = some (.invokestatic j, len, 2 :: 153 :: 1 :: 11 :: ax)) (hw : mmWords st ≤ 8) (hm : Ev mmPT tbX11_sets 0 [some (.int u0)] [] h (some (.int r), h1)) (kk : Ev mmPT t (pc + 3) lv (.int r :: st) h1 x) : Ev mmPT t pc lv (.int u0 :: st) h x := by
  refine Ev.call (M := mX11_sets) (as := [.int u0]) (r := st) (v := some (.int r)) (h' := h1) (Or.inr (Or.inl ⟨rfl, len4⟩)) hf ?_ hm kk
  unfold mmCall
  dsimp only
  rw [show mmPT[153]? = some mX11_sets from rfl]
  dsimp only
  rw [if_pos ⟨rfl, hw, Nat.le_of_ble_eq_true rfl⟩, if_pos (by decide)]
  rfl
theorem kc_X11_isLine_2 {u0 : Int32} {u1 : Int32} {u2 : Int32} {u3 : Int32} {r : Int32} (hf : mmFetch t pc = some (.invokestatic j, len, 2 :: 137 :: 4 :: 11 :: ax)) (hw : mmWords st ≤ 8) (hm : Ev mmPT tbX11_isLine 0 [some (.int u0), some (.int u1), some (.int u2), some (.int u3), none, none] [] h (some (.int r), h1)) (kk : Ev mmPT t (pc + 3) lv (.int r :: st) h1 x) : Ev mmPT t pc lv (.int u3 :: .int u2 :: .int u1 :: .int u0 :: st) h x := by
  refine Ev.call (M := mX11_isLine) (as := [.int u0, .int u1, .int u2, .int u3]) (r := st) (v := some (.int r)) (h' := h1) (Or.inr (Or.inl ⟨rfl, len4⟩)) hf ?_ hm kk
  unfold mmCall
  dsimp only
  rw [show mmPT[137]? = some mX11_isLine from rfl]
  dsimp only
  rw [if_pos ⟨rfl, hw, Nat.le_of_ble_eq_true rfl⟩, if_pos (by decide)]
  rfl
theorem kc_X10_addLine_0 {u0 : Int32} {u1 : Int32} {u2 : Int32} {u3 : Int32} {u4 : Int32} {r : Int32} (hf : mmFetch t pc = some (.invokevirtual j, len, 0 :: 102 :: 6 :: 10 :: ax)) (ho : h[a]? = some c) (hc : c.1 = 10) (hw : mmWords st ≤ 8) (hm : Ev mmPT tbX10_addLine 0 [some (.ref a), some (.int u0), some (.int u1), some (.int u2), some (.int u3), some (.int u4), none, none] [] h (some (.int r), h1)) (kk : Ev mmPT t (pc + 3) lv (.int r :: st) h1 x) : Ev mmPT t pc lv (.int u4 :: .int u3 :: .int u2 :: .int u1 :: .int u0 :: .ref a :: st) h x := by
  refine Ev.call (M := mX10_addLine) (as := [.ref a, .int u0, .int u1, .int u2, .int u3, .int u4]) (r := st) (v := some (.int r)) (h' := h1) (Or.inl rfl) hf ?_ hm kk
  unfold mmCall
  dsimp only
  rw [show mmPT[102]? = some mX10_addLine from rfl]
  dsimp only
  rw [if_pos ⟨rfl, hw, Nat.le_of_ble_eq_true rfl⟩, if_neg (by decide)]
  simp only [List.take_succ_cons, List.take_zero, List.reverse_cons, List.reverse_nil, List.nil_append, List.cons_append, List.drop_succ_cons, List.drop_zero, ho]
  rw [if_pos ⟨hc, by decide⟩]
theorem kc_X10_cutLine_0 {u0 : Int32} {r : Int32} (hf : mmFetch t pc = some (.invokevirtual j, len, 0 :: 103 :: 2 :: 10 :: ax)) (ho : h[a]? = some c) (hc : c.1 = 10) (hw : mmWords st ≤ 8) (hm : Ev mmPT tbX10_cutLine 0 [some (.ref a), some (.int u0), none] [] h (some (.int r), h1)) (kk : Ev mmPT t (pc + 3) lv (.int r :: st) h1 x) : Ev mmPT t pc lv (.int u0 :: .ref a :: st) h x := by
  refine Ev.call (M := mX10_cutLine) (as := [.ref a, .int u0]) (r := st) (v := some (.int r)) (h' := h1) (Or.inl rfl) hf ?_ hm kk
  unfold mmCall
  dsimp only
  rw [show mmPT[103]? = some mX10_cutLine from rfl]
  dsimp only
  rw [if_pos ⟨rfl, hw, Nat.le_of_ble_eq_true rfl⟩, if_neg (by decide)]
  simp only [List.take_succ_cons, List.take_zero, List.reverse_cons, List.reverse_nil, List.nil_append, List.cons_append, List.drop_succ_cons, List.drop_zero, ho]
  rw [if_pos ⟨hc, by decide⟩]
theorem kc_X11_isTarget_0 {u0 : Int32} {r : Int32} (hf : mmFetch t pc = some (.invokevirtual j, len, 0 :: 135 :: 2 :: 11 :: ax)) (ho : h[a]? = some c) (hc : c.1 = 11) (hw : mmWords st ≤ 8) (hm : Ev mmPT tbX11_isTarget 0 [some (.ref a), some (.int u0)] [] h (some (.int r), h1)) (kk : Ev mmPT t (pc + 3) lv (.int r :: st) h1 x) : Ev mmPT t pc lv (.int u0 :: .ref a :: st) h x := by
  refine Ev.call (M := mX11_isTarget) (as := [.ref a, .int u0]) (r := st) (v := some (.int r)) (h' := h1) (Or.inl rfl) hf ?_ hm kk
  unfold mmCall
  dsimp only
  rw [show mmPT[135]? = some mX11_isTarget from rfl]
  dsimp only
  rw [if_pos ⟨rfl, hw, Nat.le_of_ble_eq_true rfl⟩, if_neg (by decide)]
  simp only [List.take_succ_cons, List.take_zero, List.reverse_cons, List.reverse_nil, List.nil_append, List.cons_append, List.drop_succ_cons, List.drop_zero, ho]
  rw [if_pos ⟨hc, by decide⟩]
theorem kc_X11_isEnd_0 {u0 : Int32} {u1 : Int32} {u2 : Int32} {u3 : Int32} {r : Int32} (hf : mmFetch t pc = some (.invokevirtual j, len, 0 :: 138 :: 5 :: 11 :: ax)) (ho : h[a]? = some c) (hc : c.1 = 11) (hw : mmWords st ≤ 8) (hm : Ev mmPT tbX11_isEnd 0 [some (.ref a), some (.int u0), some (.int u1), some (.int u2), some (.int u3)] [] h (some (.int r), h1)) (kk : Ev mmPT t (pc + 3) lv (.int r :: st) h1 x) : Ev mmPT t pc lv (.int u3 :: .int u2 :: .int u1 :: .int u0 :: .ref a :: st) h x := by
  refine Ev.call (M := mX11_isEnd) (as := [.ref a, .int u0, .int u1, .int u2, .int u3]) (r := st) (v := some (.int r)) (h' := h1) (Or.inl rfl) hf ?_ hm kk
  unfold mmCall
  dsimp only
  rw [show mmPT[138]? = some mX11_isEnd from rfl]
  dsimp only
  rw [if_pos ⟨rfl, hw, Nat.le_of_ble_eq_true rfl⟩, if_neg (by decide)]
  simp only [List.take_succ_cons, List.take_zero, List.reverse_cons, List.reverse_nil, List.nil_append, List.cons_append, List.drop_succ_cons, List.drop_zero, ho]
  rw [if_pos ⟨hc, by decide⟩]
theorem kc_X10_putEnd_0 {u0 : Int32} {u1 : Int32} {u2 : Int32} {u3 : Int32} {u4 : Int32} {r : Int32} (hf : mmFetch t pc = some (.invokevirtual j, len, 0 :: 104 :: 6 :: 10 :: ax)) (ho : h[a]? = some c) (hc : c.1 = 10) (hw : mmWords st ≤ 8) (hm : Ev mmPT tbX10_putEnd 0 [some (.ref a), some (.int u0), some (.int u1), some (.int u2), some (.int u3), some (.int u4), none] [] h (some (.int r), h1)) (kk : Ev mmPT t (pc + 3) lv (.int r :: st) h1 x) : Ev mmPT t pc lv (.int u4 :: .int u3 :: .int u2 :: .int u1 :: .int u0 :: .ref a :: st) h x := by
  refine Ev.call (M := mX10_putEnd) (as := [.ref a, .int u0, .int u1, .int u2, .int u3, .int u4]) (r := st) (v := some (.int r)) (h' := h1) (Or.inl rfl) hf ?_ hm kk
  unfold mmCall
  dsimp only
  rw [show mmPT[104]? = some mX10_putEnd from rfl]
  dsimp only
  rw [if_pos ⟨rfl, hw, Nat.le_of_ble_eq_true rfl⟩, if_neg (by decide)]
  simp only [List.take_succ_cons, List.take_zero, List.reverse_cons, List.reverse_nil, List.nil_append, List.cons_append, List.drop_succ_cons, List.drop_zero, ho]
  rw [if_pos ⟨hc, by decide⟩]
theorem kc_X11_has_2 {u0 : Int32} {u1 : Int32} {r : Int32} (hf : mmFetch t pc = some (.invokestatic j, len, 2 :: 152 :: 2 :: 11 :: ax)) (hw : mmWords st ≤ 8) (hm : Ev mmPT tbX11_has 0 [some (.int u0), some (.int u1)] [] h (some (.int r), h1)) (kk : Ev mmPT t (pc + 3) lv (.int r :: st) h1 x) : Ev mmPT t pc lv (.int u1 :: .int u0 :: st) h x := by
  refine Ev.call (M := mX11_has) (as := [.int u0, .int u1]) (r := st) (v := some (.int r)) (h' := h1) (Or.inr (Or.inl ⟨rfl, len4⟩)) hf ?_ hm kk
  unfold mmCall
  dsimp only
  rw [show mmPT[152]? = some mX11_has from rfl]
  dsimp only
  rw [if_pos ⟨rfl, hw, Nat.le_of_ble_eq_true rfl⟩, if_pos (by decide)]
  rfl
theorem kc_X2_frontier_0 {u0 : Int32} {r : Int32} (hf : mmFetch t pc = some (.invokevirtual j, len, 0 :: 26 :: 2 :: 2 :: ax)) (ho : h[a]? = some c) (hc : c.1 = 2) (hw : mmWords st ≤ 8) (hm : Ev mmPT tbX2_frontier 0 [some (.ref a), some (.int u0), none, none, none] [] h (some (.int r), h1)) (kk : Ev mmPT t (pc + 3) lv (.int r :: st) h1 x) : Ev mmPT t pc lv (.int u0 :: .ref a :: st) h x := by
  refine Ev.call (M := mX2_frontier) (as := [.ref a, .int u0]) (r := st) (v := some (.int r)) (h' := h1) (Or.inl rfl) hf ?_ hm kk
  unfold mmCall
  dsimp only
  rw [show mmPT[26]? = some mX2_frontier from rfl]
  dsimp only
  rw [if_pos ⟨rfl, hw, Nat.le_of_ble_eq_true rfl⟩, if_neg (by decide)]
  simp only [List.take_succ_cons, List.take_zero, List.reverse_cons, List.reverse_nil, List.nil_append, List.cons_append, List.drop_succ_cons, List.drop_zero, ho]
  rw [if_pos ⟨hc, by decide⟩]
theorem kc_X3_putInto_0 {u0 : Int32} {u1 : Int32} (hf : mmFetch t pc = some (.invokevirtual j, len, 0 :: 32 :: 3 :: 3 :: ax)) (ho : h[a]? = some c) (hc : c.1 = 3) (hw : mmWords st ≤ 8) (hm : Ev mmPT tbX3_putInto 0 [some (.ref a), some (.int u0), some (.int u1), none] [] h (none, h1)) (kk : Ev mmPT t (pc + 3) lv st h1 x) : Ev mmPT t pc lv (.int u1 :: .int u0 :: .ref a :: st) h x := by
  refine Ev.call (M := mX3_putInto) (as := [.ref a, .int u0, .int u1]) (r := st) (v := none) (h' := h1) (Or.inl rfl) hf ?_ hm kk
  unfold mmCall
  dsimp only
  rw [show mmPT[32]? = some mX3_putInto from rfl]
  dsimp only
  rw [if_pos ⟨rfl, hw, Nat.le_of_ble_eq_true rfl⟩, if_neg (by decide)]
  simp only [List.take_succ_cons, List.take_zero, List.reverse_cons, List.reverse_nil, List.nil_append, List.cons_append, List.drop_succ_cons, List.drop_zero, ho]
  rw [if_pos ⟨hc, by decide⟩]
theorem kc_X3_addValue_0 {u0 : Int32} {u1 : Int32} {u2 : Int32} (hf : mmFetch t pc = some (.invokevirtual j, len, 0 :: 31 :: 4 :: 3 :: ax)) (ho : h[a]? = some c) (hc : c.1 = 3) (hw : mmWords st ≤ 8) (hm : Ev mmPT tbX3_addValue 0 [some (.ref a), some (.int u0), some (.int u1), some (.int u2)] [] h (none, h1)) (kk : Ev mmPT t (pc + 3) lv st h1 x) : Ev mmPT t pc lv (.int u2 :: .int u1 :: .int u0 :: .ref a :: st) h x := by
  refine Ev.call (M := mX3_addValue) (as := [.ref a, .int u0, .int u1, .int u2]) (r := st) (v := none) (h' := h1) (Or.inl rfl) hf ?_ hm kk
  unfold mmCall
  dsimp only
  rw [show mmPT[31]? = some mX3_addValue from rfl]
  dsimp only
  rw [if_pos ⟨rfl, hw, Nat.le_of_ble_eq_true rfl⟩, if_neg (by decide)]
  simp only [List.take_succ_cons, List.take_zero, List.reverse_cons, List.reverse_nil, List.nil_append, List.cons_append, List.drop_succ_cons, List.drop_zero, ho]
  rw [if_pos ⟨hc, by decide⟩]
theorem kc_X3_begin_0 {u0 : Int32} {u1 : Int32} (hf : mmFetch t pc = some (.invokevirtual j, len, 0 :: 29 :: 3 :: 3 :: ax)) (ho : h[a]? = some c) (hc : c.1 = 3) (hw : mmWords st ≤ 8) (hm : Ev mmPT tbX3_begin 0 [some (.ref a), some (.int u0), some (.int u1), none] [] h (none, h1)) (kk : Ev mmPT t (pc + 3) lv st h1 x) : Ev mmPT t pc lv (.int u1 :: .int u0 :: .ref a :: st) h x := by
  refine Ev.call (M := mX3_begin) (as := [.ref a, .int u0, .int u1]) (r := st) (v := none) (h' := h1) (Or.inl rfl) hf ?_ hm kk
  unfold mmCall
  dsimp only
  rw [show mmPT[29]? = some mX3_begin from rfl]
  dsimp only
  rw [if_pos ⟨rfl, hw, Nat.le_of_ble_eq_true rfl⟩, if_neg (by decide)]
  simp only [List.take_succ_cons, List.take_zero, List.reverse_cons, List.reverse_nil, List.nil_append, List.cons_append, List.drop_succ_cons, List.drop_zero, ho]
  rw [if_pos ⟨hc, by decide⟩]
theorem kc_X5_whereJoined_0 {u0 : Nat} {u1 : Int32} {r : Int32} (hf : mmFetch t pc = some (.invokevirtual j, len, 0 :: 63 :: 3 :: 5 :: ax)) (ho : h[a]? = some c) (hc : c.1 = 5) (hw : mmWords st ≤ 8) (hm : Ev mmPT tbX5_whereJoined 0 [some (.ref a), some (.ref u0), some (.int u1), none, none, none, none] [] h (some (.int r), h1)) (kk : Ev mmPT t (pc + 3) lv (.int r :: st) h1 x) : Ev mmPT t pc lv (.int u1 :: .ref u0 :: .ref a :: st) h x := by
  refine Ev.call (M := mX5_whereJoined) (as := [.ref a, .ref u0, .int u1]) (r := st) (v := some (.int r)) (h' := h1) (Or.inl rfl) hf ?_ hm kk
  unfold mmCall
  dsimp only
  rw [show mmPT[63]? = some mX5_whereJoined from rfl]
  dsimp only
  rw [if_pos ⟨rfl, hw, Nat.le_of_ble_eq_true rfl⟩, if_neg (by decide)]
  simp only [List.take_succ_cons, List.take_zero, List.reverse_cons, List.reverse_nil, List.nil_append, List.cons_append, List.drop_succ_cons, List.drop_zero, ho]
  rw [if_pos ⟨hc, by decide⟩]
theorem kc_X5_placePhis_0 {u0 : Nat} (hf : mmFetch t pc = some (.invokevirtual j, len, 0 :: 62 :: 2 :: 5 :: ax)) (ho : h[a]? = some c) (hc : c.1 = 5) (hw : mmWords st ≤ 8) (hm : Ev mmPT tbX5_placePhis 0 [some (.ref a), some (.ref u0), none, none, none] [] h (none, h1)) (kk : Ev mmPT t (pc + 3) lv st h1 x) : Ev mmPT t pc lv (.ref u0 :: .ref a :: st) h x := by
  refine Ev.call (M := mX5_placePhis) (as := [.ref a, .ref u0]) (r := st) (v := none) (h' := h1) (Or.inl rfl) hf ?_ hm kk
  unfold mmCall
  dsimp only
  rw [show mmPT[62]? = some mX5_placePhis from rfl]
  dsimp only
  rw [if_pos ⟨rfl, hw, Nat.le_of_ble_eq_true rfl⟩, if_neg (by decide)]
  simp only [List.take_succ_cons, List.take_zero, List.reverse_cons, List.reverse_nil, List.nil_append, List.cons_append, List.drop_succ_cons, List.drop_zero, ho]
  rw [if_pos ⟨hc, by decide⟩]
theorem kc_X5_addValues_0 {u0 : Nat} {u1 : Nat} {u2 : Int32} (hf : mmFetch t pc = some (.invokevirtual j, len, 0 :: 64 :: 4 :: 5 :: ax)) (ho : h[a]? = some c) (hc : c.1 = 5) (hw : mmWords st ≤ 8) (hm : Ev mmPT tbX5_addValues 0 [some (.ref a), some (.ref u0), some (.ref u1), some (.int u2), none, none] [] h (none, h1)) (kk : Ev mmPT t (pc + 3) lv st h1 x) : Ev mmPT t pc lv (.int u2 :: .ref u1 :: .ref u0 :: .ref a :: st) h x := by
  refine Ev.call (M := mX5_addValues) (as := [.ref a, .ref u0, .ref u1, .int u2]) (r := st) (v := none) (h' := h1) (Or.inl rfl) hf ?_ hm kk
  unfold mmCall
  dsimp only
  rw [show mmPT[64]? = some mX5_addValues from rfl]
  dsimp only
  rw [if_pos ⟨rfl, hw, Nat.le_of_ble_eq_true rfl⟩, if_neg (by decide)]
  simp only [List.take_succ_cons, List.take_zero, List.reverse_cons, List.reverse_nil, List.nil_append, List.cons_append, List.drop_succ_cons, List.drop_zero, ho]
  rw [if_pos ⟨hc, by decide⟩]
theorem kc_X3_addEdge_0 {u0 : Int32} {u1 : Int32} (hf : mmFetch t pc = some (.invokevirtual j, len, 0 :: 34 :: 3 :: 3 :: ax)) (ho : h[a]? = some c) (hc : c.1 = 3) (hw : mmWords st ≤ 8) (hm : Ev mmPT tbX3_addEdge 0 [some (.ref a), some (.int u0), some (.int u1), none] [] h (none, h1)) (kk : Ev mmPT t (pc + 3) lv st h1 x) : Ev mmPT t pc lv (.int u1 :: .int u0 :: .ref a :: st) h x := by
  refine Ev.call (M := mX3_addEdge) (as := [.ref a, .int u0, .int u1]) (r := st) (v := none) (h' := h1) (Or.inl rfl) hf ?_ hm kk
  unfold mmCall
  dsimp only
  rw [show mmPT[34]? = some mX3_addEdge from rfl]
  dsimp only
  rw [if_pos ⟨rfl, hw, Nat.le_of_ble_eq_true rfl⟩, if_neg (by decide)]
  simp only [List.take_succ_cons, List.take_zero, List.reverse_cons, List.reverse_nil, List.nil_append, List.cons_append, List.drop_succ_cons, List.drop_zero, ho]
  rw [if_pos ⟨hc, by decide⟩]
theorem kc_X5_addEdges_0 {u0 : Nat} {u1 : Nat} {u2 : Int32} (hf : mmFetch t pc = some (.invokevirtual j, len, 0 :: 65 :: 4 :: 5 :: ax)) (ho : h[a]? = some c) (hc : c.1 = 5) (hw : mmWords st ≤ 8) (hm : Ev mmPT tbX5_addEdges 0 [some (.ref a), some (.ref u0), some (.ref u1), some (.int u2), none, none, none] [] h (none, h1)) (kk : Ev mmPT t (pc + 3) lv st h1 x) : Ev mmPT t pc lv (.int u2 :: .ref u1 :: .ref u0 :: .ref a :: st) h x := by
  refine Ev.call (M := mX5_addEdges) (as := [.ref a, .ref u0, .ref u1, .int u2]) (r := st) (v := none) (h' := h1) (Or.inl rfl) hf ?_ hm kk
  unfold mmCall
  dsimp only
  rw [show mmPT[65]? = some mX5_addEdges from rfl]
  dsimp only
  rw [if_pos ⟨rfl, hw, Nat.le_of_ble_eq_true rfl⟩, if_neg (by decide)]
  simp only [List.take_succ_cons, List.take_zero, List.reverse_cons, List.reverse_nil, List.nil_append, List.cons_append, List.drop_succ_cons, List.drop_zero, ho]
  rw [if_pos ⟨hc, by decide⟩]
theorem kc_X2_nearestDominator_0 {u0 : Int32} {r : Int32} (hf : mmFetch t pc = some (.invokevirtual j, len, 0 :: 27 :: 2 :: 2 :: ax)) (ho : h[a]? = some c) (hc : c.1 = 2) (hw : mmWords st ≤ 8) (hm : Ev mmPT tbX2_nearestDominator 0 [some (.ref a), some (.int u0), none, none, none] [] h (some (.int r), h1)) (kk : Ev mmPT t (pc + 3) lv (.int r :: st) h1 x) : Ev mmPT t pc lv (.int u0 :: .ref a :: st) h x := by
  refine Ev.call (M := mX2_nearestDominator) (as := [.ref a, .int u0]) (r := st) (v := some (.int r)) (h' := h1) (Or.inl rfl) hf ?_ hm kk
  unfold mmCall
  dsimp only
  rw [show mmPT[27]? = some mX2_nearestDominator from rfl]
  dsimp only
  rw [if_pos ⟨rfl, hw, Nat.le_of_ble_eq_true rfl⟩, if_neg (by decide)]
  simp only [List.take_succ_cons, List.take_zero, List.reverse_cons, List.reverse_nil, List.nil_append, List.cons_append, List.drop_succ_cons, List.drop_zero, ho]
  rw [if_pos ⟨hc, by decide⟩]
theorem kc_X3_valueIn_0 {u0 : Int32} {u1 : Int32} {r : Int32} (hf : mmFetch t pc = some (.invokevirtual j, len, 0 :: 35 :: 3 :: 3 :: ax)) (ho : h[a]? = some c) (hc : c.1 = 3) (hw : mmWords st ≤ 8) (hm : Ev mmPT tbX3_valueIn 0 [some (.ref a), some (.int u0), some (.int u1)] [] h (some (.int r), h1)) (kk : Ev mmPT t (pc + 3) lv (.int r :: st) h1 x) : Ev mmPT t pc lv (.int u1 :: .int u0 :: .ref a :: st) h x := by
  refine Ev.call (M := mX3_valueIn) (as := [.ref a, .int u0, .int u1]) (r := st) (v := some (.int r)) (h' := h1) (Or.inl rfl) hf ?_ hm kk
  unfold mmCall
  dsimp only
  rw [show mmPT[35]? = some mX3_valueIn from rfl]
  dsimp only
  rw [if_pos ⟨rfl, hw, Nat.le_of_ble_eq_true rfl⟩, if_neg (by decide)]
  simp only [List.take_succ_cons, List.take_zero, List.reverse_cons, List.reverse_nil, List.nil_append, List.cons_append, List.drop_succ_cons, List.drop_zero, ho]
  rw [if_pos ⟨hc, by decide⟩]
theorem kc_X5_hold_0 {u0 : Int32} {u1 : Int32} {u2 : Int32} {u3 : Int32} (hf : mmFetch t pc = some (.invokevirtual j, len, 0 :: 67 :: 5 :: 5 :: ax)) (ho : h[a]? = some c) (hc : c.1 = 5) (hw : mmWords st ≤ 8) (hm : Ev mmPT tbX5_hold 0 [some (.ref a), some (.int u0), some (.int u1), some (.int u2), some (.int u3)] [] h (none, h1)) (kk : Ev mmPT t (pc + 3) lv st h1 x) : Ev mmPT t pc lv (.int u3 :: .int u2 :: .int u1 :: .int u0 :: .ref a :: st) h x := by
  refine Ev.call (M := mX5_hold) (as := [.ref a, .int u0, .int u1, .int u2, .int u3]) (r := st) (v := none) (h' := h1) (Or.inl rfl) hf ?_ hm kk
  unfold mmCall
  dsimp only
  rw [show mmPT[67]? = some mX5_hold from rfl]
  dsimp only
  rw [if_pos ⟨rfl, hw, Nat.le_of_ble_eq_true rfl⟩, if_neg (by decide)]
  simp only [List.take_succ_cons, List.take_zero, List.reverse_cons, List.reverse_nil, List.nil_append, List.cons_append, List.drop_succ_cons, List.drop_zero, ho]
  rw [if_pos ⟨hc, by decide⟩]
theorem kc_X5_holdAtBeginning_0 {u0 : Nat} {u1 : Nat} {u2 : Int32} (hf : mmFetch t pc = some (.invokevirtual j, len, 0 :: 66 :: 4 :: 5 :: ax)) (ho : h[a]? = some c) (hc : c.1 = 5) (hw : mmWords st ≤ 8) (hm : Ev mmPT tbX5_holdAtBeginning 0 [some (.ref a), some (.ref u0), some (.ref u1), some (.int u2), none, none, none] [] h (none, h1)) (kk : Ev mmPT t (pc + 3) lv st h1 x) : Ev mmPT t pc lv (.int u2 :: .ref u1 :: .ref u0 :: .ref a :: st) h x := by
  refine Ev.call (M := mX5_holdAtBeginning) (as := [.ref a, .ref u0, .ref u1, .int u2]) (r := st) (v := none) (h' := h1) (Or.inl rfl) hf ?_ hm kk
  unfold mmCall
  dsimp only
  rw [show mmPT[66]? = some mX5_holdAtBeginning from rfl]
  dsimp only
  rw [if_pos ⟨rfl, hw, Nat.le_of_ble_eq_true rfl⟩, if_neg (by decide)]
  simp only [List.take_succ_cons, List.take_zero, List.reverse_cons, List.reverse_nil, List.nil_append, List.cons_append, List.drop_succ_cons, List.drop_zero, ho]
  rw [if_pos ⟨hc, by decide⟩]
theorem kc_J6_bitCount_0f7a4_2 {u0 : Int32} {r : Int32} (hf : mmFetch t pc = some (.invokestatic j, len, 2 :: 165 :: 1 :: 0 :: ax)) (hw : mmWords st ≤ 8) (hm : Ev mmPT tbJ6_bitCount_0f7a4 0 [some (.int u0)] [] h (some (.int r), h1)) (kk : Ev mmPT t (pc + 3) lv (.int r :: st) h1 x) : Ev mmPT t pc lv (.int u0 :: st) h x := by
  refine Ev.call (M := mJ6_bitCount_0f7a4) (as := [.int u0]) (r := st) (v := some (.int r)) (h' := h1) (Or.inr (Or.inl ⟨rfl, len4⟩)) hf ?_ hm kk
  unfold mmCall
  dsimp only
  rw [show mmPT[165]? = some mJ6_bitCount_0f7a4 from rfl]
  dsimp only
  rw [if_pos ⟨rfl, hw, Nat.le_of_ble_eq_true rfl⟩, if_pos (by decide)]
  rfl
theorem kc_X5_valueFor_0 {u0 : Int32} {u1 : Int32} {r : Int32} (hf : mmFetch t pc = some (.invokevirtual j, len, 0 :: 70 :: 3 :: 5 :: ax)) (ho : h[a]? = some c) (hc : c.1 = 5) (hw : mmWords st ≤ 8) (hm : Ev mmPT tbX5_valueFor 0 [some (.ref a), some (.int u0), some (.int u1), none] [] h (some (.int r), h1)) (kk : Ev mmPT t (pc + 3) lv (.int r :: st) h1 x) : Ev mmPT t pc lv (.int u1 :: .int u0 :: .ref a :: st) h x := by
  refine Ev.call (M := mX5_valueFor) (as := [.ref a, .int u0, .int u1]) (r := st) (v := some (.int r)) (h' := h1) (Or.inl rfl) hf ?_ hm kk
  unfold mmCall
  dsimp only
  rw [show mmPT[70]? = some mX5_valueFor from rfl]
  dsimp only
  rw [if_pos ⟨rfl, hw, Nat.le_of_ble_eq_true rfl⟩, if_neg (by decide)]
  simp only [List.take_succ_cons, List.take_zero, List.reverse_cons, List.reverse_nil, List.nil_append, List.cons_append, List.drop_succ_cons, List.drop_zero, ho]
  rw [if_pos ⟨hc, by decide⟩]
theorem kc_X5_numberFor_0 {u0 : Int32} {u1 : Int32} {r : Int32} (hf : mmFetch t pc = some (.invokevirtual j, len, 0 :: 71 :: 3 :: 5 :: ax)) (ho : h[a]? = some c) (hc : c.1 = 5) (hw : mmWords st ≤ 8) (hm : Ev mmPT tbX5_numberFor 0 [some (.ref a), some (.int u0), some (.int u1), none] [] h (some (.int r), h1)) (kk : Ev mmPT t (pc + 3) lv (.int r :: st) h1 x) : Ev mmPT t pc lv (.int u1 :: .int u0 :: .ref a :: st) h x := by
  refine Ev.call (M := mX5_numberFor) (as := [.ref a, .int u0, .int u1]) (r := st) (v := some (.int r)) (h' := h1) (Or.inl rfl) hf ?_ hm kk
  unfold mmCall
  dsimp only
  rw [show mmPT[71]? = some mX5_numberFor from rfl]
  dsimp only
  rw [if_pos ⟨rfl, hw, Nat.le_of_ble_eq_true rfl⟩, if_neg (by decide)]
  simp only [List.take_succ_cons, List.take_zero, List.reverse_cons, List.reverse_nil, List.nil_append, List.cons_append, List.drop_succ_cons, List.drop_zero, ho]
  rw [if_pos ⟨hc, by decide⟩]
theorem kc_X3_addArgument_0 {u0 : Int32} {u1 : Int32} {u2 : Int32} (hf : mmFetch t pc = some (.invokevirtual j, len, 0 :: 33 :: 4 :: 3 :: ax)) (ho : h[a]? = some c) (hc : c.1 = 3) (hw : mmWords st ≤ 8) (hm : Ev mmPT tbX3_addArgument 0 [some (.ref a), some (.int u0), some (.int u1), some (.int u2), none] [] h (none, h1)) (kk : Ev mmPT t (pc + 3) lv st h1 x) : Ev mmPT t pc lv (.int u2 :: .int u1 :: .int u0 :: .ref a :: st) h x := by
  refine Ev.call (M := mX3_addArgument) (as := [.ref a, .int u0, .int u1, .int u2]) (r := st) (v := none) (h' := h1) (Or.inl rfl) hf ?_ hm kk
  unfold mmCall
  dsimp only
  rw [show mmPT[33]? = some mX3_addArgument from rfl]
  dsimp only
  rw [if_pos ⟨rfl, hw, Nat.le_of_ble_eq_true rfl⟩, if_neg (by decide)]
  simp only [List.take_succ_cons, List.take_zero, List.reverse_cons, List.reverse_nil, List.nil_append, List.cons_append, List.drop_succ_cons, List.drop_zero, ho]
  rw [if_pos ⟨hc, by decide⟩]
theorem kc_X5_give_0 {u0 : Nat} {u1 : Int32} {u2 : Int32} {u3 : Int32} (hf : mmFetch t pc = some (.invokevirtual j, len, 0 :: 69 :: 5 :: 5 :: ax)) (ho : h[a]? = some c) (hc : c.1 = 5) (hw : mmWords st ≤ 8) (hm : Ev mmPT tbX5_give 0 [some (.ref a), some (.ref u0), some (.int u1), some (.int u2), some (.int u3)] [] h (none, h1)) (kk : Ev mmPT t (pc + 3) lv st h1 x) : Ev mmPT t pc lv (.int u3 :: .int u2 :: .int u1 :: .ref u0 :: .ref a :: st) h x := by
  refine Ev.call (M := mX5_give) (as := [.ref a, .ref u0, .int u1, .int u2, .int u3]) (r := st) (v := none) (h' := h1) (Or.inl rfl) hf ?_ hm kk
  unfold mmCall
  dsimp only
  rw [show mmPT[69]? = some mX5_give from rfl]
  dsimp only
  rw [if_pos ⟨rfl, hw, Nat.le_of_ble_eq_true rfl⟩, if_neg (by decide)]
  simp only [List.take_succ_cons, List.take_zero, List.reverse_cons, List.reverse_nil, List.nil_append, List.cons_append, List.drop_succ_cons, List.drop_zero, ho]
  rw [if_pos ⟨hc, by decide⟩]
theorem kc_X11_isReckoning_3 {u0 : Int32} {r : Int32} (hf : mmFetch t pc = some (.invokestatic j, len, 3 :: 154 :: 1 :: 11 :: ax)) (hw : mmWords st ≤ 8) (hm : Ev mmPT tbX11_isReckoning 0 [some (.int u0)] [] h (some (.int r), h1)) (kk : Ev mmPT t (pc + 3) lv (.int r :: st) h1 x) : Ev mmPT t pc lv (.int u0 :: st) h x := by
  refine Ev.call (M := mX11_isReckoning) (as := [.int u0]) (r := st) (v := some (.int r)) (h' := h1) (Or.inr (Or.inl ⟨rfl, len4⟩)) hf ?_ hm kk
  unfold mmCall
  dsimp only
  rw [show mmPT[154]? = some mX11_isReckoning from rfl]
  dsimp only
  rw [if_pos ⟨rfl, hw, Nat.le_of_ble_eq_true rfl⟩, if_pos (by decide)]
  rfl
theorem kc_X5_followLines_0 {u0 : Nat} {u1 : Nat} {u2 : Int32} (hf : mmFetch t pc = some (.invokevirtual j, len, 0 :: 68 :: 4 :: 5 :: ax)) (ho : h[a]? = some c) (hc : c.1 = 5) (hw : mmWords st ≤ 8) (hm : Ev mmPT tbX5_followLines 0 [some (.ref a), some (.ref u0), some (.ref u1), some (.int u2), none, none, none, none, none, none] [] h (none, h1)) (kk : Ev mmPT t (pc + 3) lv st h1 x) : Ev mmPT t pc lv (.int u2 :: .ref u1 :: .ref u0 :: .ref a :: st) h x := by
  refine Ev.call (M := mX5_followLines) (as := [.ref a, .ref u0, .ref u1, .int u2]) (r := st) (v := none) (h' := h1) (Or.inl rfl) hf ?_ hm kk
  unfold mmCall
  dsimp only
  rw [show mmPT[68]? = some mX5_followLines from rfl]
  dsimp only
  rw [if_pos ⟨rfl, hw, Nat.le_of_ble_eq_true rfl⟩, if_neg (by decide)]
  simp only [List.take_succ_cons, List.take_zero, List.reverse_cons, List.reverse_nil, List.nil_append, List.cons_append, List.drop_succ_cons, List.drop_zero, ho]
  rw [if_pos ⟨hc, by decide⟩]
theorem kc_X3_wayTo_0 {u0 : Int32} {u1 : Int32} {r : Int32} (hf : mmFetch t pc = some (.invokevirtual j, len, 0 :: 36 :: 3 :: 3 :: ax)) (ho : h[a]? = some c) (hc : c.1 = 3) (hw : mmWords st ≤ 8) (hm : Ev mmPT tbX3_wayTo 0 [some (.ref a), some (.int u0), some (.int u1)] [] h (some (.int r), h1)) (kk : Ev mmPT t (pc + 3) lv (.int r :: st) h1 x) : Ev mmPT t pc lv (.int u1 :: .int u0 :: .ref a :: st) h x := by
  refine Ev.call (M := mX3_wayTo) (as := [.ref a, .int u0, .int u1]) (r := st) (v := some (.int r)) (h' := h1) (Or.inl rfl) hf ?_ hm kk
  unfold mmCall
  dsimp only
  rw [show mmPT[36]? = some mX3_wayTo from rfl]
  dsimp only
  rw [if_pos ⟨rfl, hw, Nat.le_of_ble_eq_true rfl⟩, if_neg (by decide)]
  simp only [List.take_succ_cons, List.take_zero, List.reverse_cons, List.reverse_nil, List.nil_append, List.cons_append, List.drop_succ_cons, List.drop_zero, ho]
  rw [if_pos ⟨hc, by decide⟩]
theorem kc_X11_fromOf_3 {u0 : Int32} {r : Int32} (hf : mmFetch t pc = some (.invokestatic j, len, 3 :: 156 :: 1 :: 11 :: ax)) (hw : mmWords st ≤ 8) (hm : Ev mmPT tbX11_fromOf 0 [some (.int u0)] [] h (some (.int r), h1)) (kk : Ev mmPT t (pc + 3) lv (.int r :: st) h1 x) : Ev mmPT t pc lv (.int u0 :: st) h x := by
  refine Ev.call (M := mX11_fromOf) (as := [.int u0]) (r := st) (v := some (.int r)) (h' := h1) (Or.inr (Or.inl ⟨rfl, len4⟩)) hf ?_ hm kk
  unfold mmCall
  dsimp only
  rw [show mmPT[156]? = some mX11_fromOf from rfl]
  dsimp only
  rw [if_pos ⟨rfl, hw, Nat.le_of_ble_eq_true rfl⟩, if_pos (by decide)]
  rfl
theorem kc_X5_givePhi_0 {u0 : Nat} {u1 : Int32} (hf : mmFetch t pc = some (.invokevirtual j, len, 0 :: 73 :: 3 :: 5 :: ax)) (ho : h[a]? = some c) (hc : c.1 = 5) (hw : mmWords st ≤ 8) (hm : Ev mmPT tbX5_givePhi 0 [some (.ref a), some (.ref u0), some (.int u1), none, none, none] [] h (none, h1)) (kk : Ev mmPT t (pc + 3) lv st h1 x) : Ev mmPT t pc lv (.int u1 :: .ref u0 :: .ref a :: st) h x := by
  refine Ev.call (M := mX5_givePhi) (as := [.ref a, .ref u0, .int u1]) (r := st) (v := none) (h' := h1) (Or.inl rfl) hf ?_ hm kk
  unfold mmCall
  dsimp only
  rw [show mmPT[73]? = some mX5_givePhi from rfl]
  dsimp only
  rw [if_pos ⟨rfl, hw, Nat.le_of_ble_eq_true rfl⟩, if_neg (by decide)]
  simp only [List.take_succ_cons, List.take_zero, List.reverse_cons, List.reverse_nil, List.nil_append, List.cons_append, List.drop_succ_cons, List.drop_zero, ho]
  rw [if_pos ⟨hc, by decide⟩]
theorem kc_X5_givePhisTheirs_0 {u0 : Nat} (hf : mmFetch t pc = some (.invokevirtual j, len, 0 :: 72 :: 2 :: 5 :: ax)) (ho : h[a]? = some c) (hc : c.1 = 5) (hw : mmWords st ≤ 8) (hm : Ev mmPT tbX5_givePhisTheirs 0 [some (.ref a), some (.ref u0), none] [] h (none, h1)) (kk : Ev mmPT t (pc + 3) lv st h1 x) : Ev mmPT t pc lv (.ref u0 :: .ref a :: st) h x := by
  refine Ev.call (M := mX5_givePhisTheirs) (as := [.ref a, .ref u0]) (r := st) (v := none) (h' := h1) (Or.inl rfl) hf ?_ hm kk
  unfold mmCall
  dsimp only
  rw [show mmPT[72]? = some mX5_givePhisTheirs from rfl]
  dsimp only
  rw [if_pos ⟨rfl, hw, Nat.le_of_ble_eq_true rfl⟩, if_neg (by decide)]
  simp only [List.take_succ_cons, List.take_zero, List.reverse_cons, List.reverse_nil, List.nil_append, List.cons_append, List.drop_succ_cons, List.drop_zero, ho]
  rw [if_pos ⟨hc, by decide⟩]
theorem kc_X5_make_0 {u0 : Nat} {u1 : Nat} (hf : mmFetch t pc = some (.invokevirtual j, len, 0 :: 61 :: 3 :: 5 :: ax)) (ho : h[a]? = some c) (hc : c.1 = 5) (hw : mmWords st ≤ 8) (hm : Ev mmPT tbX5_make 0 [some (.ref a), some (.ref u0), some (.ref u1), none, none] [] h (none, h1)) (kk : Ev mmPT t (pc + 3) lv st h1 x) : Ev mmPT t pc lv (.ref u1 :: .ref u0 :: .ref a :: st) h x := by
  refine Ev.call (M := mX5_make) (as := [.ref a, .ref u0, .ref u1]) (r := st) (v := none) (h' := h1) (Or.inl rfl) hf ?_ hm kk
  unfold mmCall
  dsimp only
  rw [show mmPT[61]? = some mX5_make from rfl]
  dsimp only
  rw [if_pos ⟨rfl, hw, Nat.le_of_ble_eq_true rfl⟩, if_neg (by decide)]
  simp only [List.take_succ_cons, List.take_zero, List.reverse_cons, List.reverse_nil, List.nil_append, List.cons_append, List.drop_succ_cons, List.drop_zero, ho]
  rw [if_pos ⟨hc, by decide⟩]
theorem kc_X11_isPass_2 {u0 : Int32} {r : Int32} (hf : mmFetch t pc = some (.invokestatic j, len, 2 :: 139 :: 1 :: 11 :: ax)) (hw : mmWords st ≤ 8) (hm : Ev mmPT tbX11_isPass 0 [some (.int u0)] [] h (some (.int r), h1)) (kk : Ev mmPT t (pc + 3) lv (.int r :: st) h1 x) : Ev mmPT t pc lv (.int u0 :: st) h x := by
  refine Ev.call (M := mX11_isPass) (as := [.int u0]) (r := st) (v := some (.int r)) (h' := h1) (Or.inr (Or.inl ⟨rfl, len4⟩)) hf ?_ hm kk
  unfold mmCall
  dsimp only
  rw [show mmPT[139]? = some mX11_isPass from rfl]
  dsimp only
  rw [if_pos ⟨rfl, hw, Nat.le_of_ble_eq_true rfl⟩, if_pos (by decide)]
  rfl
theorem kc_X0_begin_0 (hf : mmFetch t pc = some (.invokevirtual j, len, 0 :: 2 :: 1 :: 0 :: ax)) (ho : h[a]? = some c) (hc : c.1 = 0) (hw : mmWords st ≤ 8) (hm : Ev mmPT tbX0_begin 0 [some (.ref a), none] [] h (none, h1)) (kk : Ev mmPT t (pc + 3) lv st h1 x) : Ev mmPT t pc lv (.ref a :: st) h x := by
  refine Ev.call (M := mX0_begin) (as := [.ref a]) (r := st) (v := none) (h' := h1) (Or.inl rfl) hf ?_ hm kk
  unfold mmCall
  dsimp only
  rw [show mmPT[2]? = some mX0_begin from rfl]
  dsimp only
  rw [if_pos ⟨rfl, hw, Nat.le_of_ble_eq_true rfl⟩, if_neg (by decide)]
  simp only [List.take_succ_cons, List.take_zero, List.reverse_cons, List.reverse_nil, List.nil_append, List.cons_append, List.drop_succ_cons, List.drop_zero, ho]
  rw [if_pos ⟨hc, by decide⟩]
theorem kc_X0_knownAt_0 {u0 : Nat} {u1 : Int32} {r : Int32} (hf : mmFetch t pc = some (.invokevirtual j, len, 0 :: 6 :: 3 :: 0 :: ax)) (ho : h[a]? = some c) (hc : c.1 = 0) (hw : mmWords st ≤ 8) (hm : Ev mmPT tbX0_knownAt 0 [some (.ref a), some (.ref u0), some (.int u1), none] [] h (some (.int r), h1)) (kk : Ev mmPT t (pc + 3) lv (.int r :: st) h1 x) : Ev mmPT t pc lv (.int u1 :: .ref u0 :: .ref a :: st) h x := by
  refine Ev.call (M := mX0_knownAt) (as := [.ref a, .ref u0, .int u1]) (r := st) (v := some (.int r)) (h' := h1) (Or.inl rfl) hf ?_ hm kk
  unfold mmCall
  dsimp only
  rw [show mmPT[6]? = some mX0_knownAt from rfl]
  dsimp only
  rw [if_pos ⟨rfl, hw, Nat.le_of_ble_eq_true rfl⟩, if_neg (by decide)]
  simp only [List.take_succ_cons, List.take_zero, List.reverse_cons, List.reverse_nil, List.nil_append, List.cons_append, List.drop_succ_cons, List.drop_zero, ho]
  rw [if_pos ⟨hc, by decide⟩]
theorem kc_X0_rise_0 {u0 : Int32} {u1 : Int32} {u2 : Int32} (hf : mmFetch t pc = some (.invokevirtual j, len, 0 :: 8 :: 4 :: 0 :: ax)) (ho : h[a]? = some c) (hc : c.1 = 0) (hw : mmWords st ≤ 8) (hm : Ev mmPT tbX0_rise 0 [some (.ref a), some (.int u0), some (.int u1), some (.int u2)] [] h (none, h1)) (kk : Ev mmPT t (pc + 3) lv st h1 x) : Ev mmPT t pc lv (.int u2 :: .int u1 :: .int u0 :: .ref a :: st) h x := by
  refine Ev.call (M := mX0_rise) (as := [.ref a, .int u0, .int u1, .int u2]) (r := st) (v := none) (h' := h1) (Or.inl rfl) hf ?_ hm kk
  unfold mmCall
  dsimp only
  rw [show mmPT[8]? = some mX0_rise from rfl]
  dsimp only
  rw [if_pos ⟨rfl, hw, Nat.le_of_ble_eq_true rfl⟩, if_neg (by decide)]
  simp only [List.take_succ_cons, List.take_zero, List.reverse_cons, List.reverse_nil, List.nil_append, List.cons_append, List.drop_succ_cons, List.drop_zero, ho]
  rw [if_pos ⟨hc, by decide⟩]
theorem kc_X0_numberAt_0 {u0 : Nat} {u1 : Int32} {r : Int32} (hf : mmFetch t pc = some (.invokevirtual j, len, 0 :: 7 :: 3 :: 0 :: ax)) (ho : h[a]? = some c) (hc : c.1 = 0) (hw : mmWords st ≤ 8) (hm : Ev mmPT tbX0_numberAt 0 [some (.ref a), some (.ref u0), some (.int u1), none] [] h (some (.int r), h1)) (kk : Ev mmPT t (pc + 3) lv (.int r :: st) h1 x) : Ev mmPT t pc lv (.int u1 :: .ref u0 :: .ref a :: st) h x := by
  refine Ev.call (M := mX0_numberAt) (as := [.ref a, .ref u0, .int u1]) (r := st) (v := some (.int r)) (h' := h1) (Or.inl rfl) hf ?_ hm kk
  unfold mmCall
  dsimp only
  rw [show mmPT[7]? = some mX0_numberAt from rfl]
  dsimp only
  rw [if_pos ⟨rfl, hw, Nat.le_of_ble_eq_true rfl⟩, if_neg (by decide)]
  simp only [List.take_succ_cons, List.take_zero, List.reverse_cons, List.reverse_nil, List.nil_append, List.cons_append, List.drop_succ_cons, List.drop_zero, ho]
  rw [if_pos ⟨hc, by decide⟩]
theorem kc_X0_meet_0 {u0 : Nat} {u1 : Int32} {u2 : Int32} (hf : mmFetch t pc = some (.invokevirtual j, len, 0 :: 4 :: 4 :: 0 :: ax)) (ho : h[a]? = some c) (hc : c.1 = 0) (hw : mmWords st ≤ 8) (hm : Ev mmPT tbX0_meet 0 [some (.ref a), some (.ref u0), some (.int u1), some (.int u2), none, none, none, none, none, none] [] h (none, h1)) (kk : Ev mmPT t (pc + 3) lv st h1 x) : Ev mmPT t pc lv (.int u2 :: .int u1 :: .ref u0 :: .ref a :: st) h x := by
  refine Ev.call (M := mX0_meet) (as := [.ref a, .ref u0, .int u1, .int u2]) (r := st) (v := none) (h' := h1) (Or.inl rfl) hf ?_ hm kk
  unfold mmCall
  dsimp only
  rw [show mmPT[4]? = some mX0_meet from rfl]
  dsimp only
  rw [if_pos ⟨rfl, hw, Nat.le_of_ble_eq_true rfl⟩, if_neg (by decide)]
  simp only [List.take_succ_cons, List.take_zero, List.reverse_cons, List.reverse_nil, List.nil_append, List.cons_append, List.drop_succ_cons, List.drop_zero, ho]
  rw [if_pos ⟨hc, by decide⟩]
theorem kc_X11_reckoned_3 {u0 : Int32} {u1 : Int32} {u2 : Int32} {r : Int32} (hf : mmFetch t pc = some (.invokestatic j, len, 3 :: 157 :: 3 :: 11 :: ax)) (hw : mmWords st ≤ 8) (hm : Ev mmPT tbX11_reckoned 0 [some (.int u0), some (.int u1), some (.int u2)] [] h (some (.int r), h1)) (kk : Ev mmPT t (pc + 3) lv (.int r :: st) h1 x) : Ev mmPT t pc lv (.int u2 :: .int u1 :: .int u0 :: st) h x := by
  refine Ev.call (M := mX11_reckoned) (as := [.int u0, .int u1, .int u2]) (r := st) (v := some (.int r)) (h' := h1) (Or.inr (Or.inl ⟨rfl, len4⟩)) hf ?_ hm kk
  unfold mmCall
  dsimp only
  rw [show mmPT[157]? = some mX11_reckoned from rfl]
  dsimp only
  rw [if_pos ⟨rfl, hw, Nat.le_of_ble_eq_true rfl⟩, if_pos (by decide)]
  rfl
theorem kc_X0_reckon_0 {u0 : Nat} {u1 : Int32} {u2 : Int32} (hf : mmFetch t pc = some (.invokevirtual j, len, 0 :: 5 :: 4 :: 0 :: ax)) (ho : h[a]? = some c) (hc : c.1 = 0) (hw : mmWords st ≤ 8) (hm : Ev mmPT tbX0_reckon 0 [some (.ref a), some (.ref u0), some (.int u1), some (.int u2), none, none, none, none] [] h (none, h1)) (kk : Ev mmPT t (pc + 3) lv st h1 x) : Ev mmPT t pc lv (.int u2 :: .int u1 :: .ref u0 :: .ref a :: st) h x := by
  refine Ev.call (M := mX0_reckon) (as := [.ref a, .ref u0, .int u1, .int u2]) (r := st) (v := none) (h' := h1) (Or.inl rfl) hf ?_ hm kk
  unfold mmCall
  dsimp only
  rw [show mmPT[5]? = some mX0_reckon from rfl]
  dsimp only
  rw [if_pos ⟨rfl, hw, Nat.le_of_ble_eq_true rfl⟩, if_neg (by decide)]
  simp only [List.take_succ_cons, List.take_zero, List.reverse_cons, List.reverse_nil, List.nil_append, List.cons_append, List.drop_succ_cons, List.drop_zero, ho]
  rw [if_pos ⟨hc, by decide⟩]
theorem kc_X0_visit_0 {u0 : Nat} {u1 : Int32} (hf : mmFetch t pc = some (.invokevirtual j, len, 0 :: 3 :: 3 :: 0 :: ax)) (ho : h[a]? = some c) (hc : c.1 = 0) (hw : mmWords st ≤ 8) (hm : Ev mmPT tbX0_visit 0 [some (.ref a), some (.ref u0), some (.int u1), none, none, none] [] h (none, h1)) (kk : Ev mmPT t (pc + 3) lv st h1 x) : Ev mmPT t pc lv (.int u1 :: .ref u0 :: .ref a :: st) h x := by
  refine Ev.call (M := mX0_visit) (as := [.ref a, .ref u0, .int u1]) (r := st) (v := none) (h' := h1) (Or.inl rfl) hf ?_ hm kk
  unfold mmCall
  dsimp only
  rw [show mmPT[3]? = some mX0_visit from rfl]
  dsimp only
  rw [if_pos ⟨rfl, hw, Nat.le_of_ble_eq_true rfl⟩, if_neg (by decide)]
  simp only [List.take_succ_cons, List.take_zero, List.reverse_cons, List.reverse_nil, List.nil_append, List.cons_append, List.drop_succ_cons, List.drop_zero, ho]
  rw [if_pos ⟨hc, by decide⟩]
theorem kc_X0_goAlong_0 {u0 : Nat} {u1 : Int32} (hf : mmFetch t pc = some (.invokevirtual j, len, 0 :: 10 :: 3 :: 0 :: ax)) (ho : h[a]? = some c) (hc : c.1 = 0) (hw : mmWords st ≤ 8) (hm : Ev mmPT tbX0_goAlong 0 [some (.ref a), some (.ref u0), some (.int u1), none] [] h (none, h1)) (kk : Ev mmPT t (pc + 3) lv st h1 x) : Ev mmPT t pc lv (.int u1 :: .ref u0 :: .ref a :: st) h x := by
  refine Ev.call (M := mX0_goAlong) (as := [.ref a, .ref u0, .int u1]) (r := st) (v := none) (h' := h1) (Or.inl rfl) hf ?_ hm kk
  unfold mmCall
  dsimp only
  rw [show mmPT[10]? = some mX0_goAlong from rfl]
  dsimp only
  rw [if_pos ⟨rfl, hw, Nat.le_of_ble_eq_true rfl⟩, if_neg (by decide)]
  simp only [List.take_succ_cons, List.take_zero, List.reverse_cons, List.reverse_nil, List.nil_append, List.cons_append, List.drop_succ_cons, List.drop_zero, ho]
  rw [if_pos ⟨hc, by decide⟩]
theorem kc_X0_goOn_0 {u0 : Nat} {u1 : Int32} (hf : mmFetch t pc = some (.invokevirtual j, len, 0 :: 9 :: 3 :: 0 :: ax)) (ho : h[a]? = some c) (hc : c.1 = 0) (hw : mmWords st ≤ 8) (hm : Ev mmPT tbX0_goOn 0 [some (.ref a), some (.ref u0), some (.int u1), none, none, none, none, none] [] h (none, h1)) (kk : Ev mmPT t (pc + 3) lv st h1 x) : Ev mmPT t pc lv (.int u1 :: .ref u0 :: .ref a :: st) h x := by
  refine Ev.call (M := mX0_goOn) (as := [.ref a, .ref u0, .int u1]) (r := st) (v := none) (h' := h1) (Or.inl rfl) hf ?_ hm kk
  unfold mmCall
  dsimp only
  rw [show mmPT[9]? = some mX0_goOn from rfl]
  dsimp only
  rw [if_pos ⟨rfl, hw, Nat.le_of_ble_eq_true rfl⟩, if_neg (by decide)]
  simp only [List.take_succ_cons, List.take_zero, List.reverse_cons, List.reverse_nil, List.nil_append, List.cons_append, List.drop_succ_cons, List.drop_zero, ho]
  rw [if_pos ⟨hc, by decide⟩]
theorem kc_X3_edgeOf_0 {u0 : Int32} {u1 : Int32} {r : Int32} (hf : mmFetch t pc = some (.invokevirtual j, len, 0 :: 42 :: 3 :: 3 :: ax)) (ho : h[a]? = some c) (hc : c.1 = 3) (hw : mmWords st ≤ 8) (hm : Ev mmPT tbX3_edgeOf 0 [some (.ref a), some (.int u0), some (.int u1), none] [] h (some (.int r), h1)) (kk : Ev mmPT t (pc + 3) lv (.int r :: st) h1 x) : Ev mmPT t pc lv (.int u1 :: .int u0 :: .ref a :: st) h x := by
  refine Ev.call (M := mX3_edgeOf) (as := [.ref a, .int u0, .int u1]) (r := st) (v := some (.int r)) (h' := h1) (Or.inl rfl) hf ?_ hm kk
  unfold mmCall
  dsimp only
  rw [show mmPT[42]? = some mX3_edgeOf from rfl]
  dsimp only
  rw [if_pos ⟨rfl, hw, Nat.le_of_ble_eq_true rfl⟩, if_neg (by decide)]
  simp only [List.take_succ_cons, List.take_zero, List.reverse_cons, List.reverse_nil, List.nil_append, List.cons_append, List.drop_succ_cons, List.drop_zero, ho]
  rw [if_pos ⟨hc, by decide⟩]
theorem kc_X3_dropArgument_0 {u0 : Int32} {u1 : Int32} (hf : mmFetch t pc = some (.invokevirtual j, len, 0 :: 49 :: 3 :: 3 :: ax)) (ho : h[a]? = some c) (hc : c.1 = 3) (hw : mmWords st ≤ 8) (hm : Ev mmPT tbX3_dropArgument 0 [some (.ref a), some (.int u0), some (.int u1), none, none, none] [] h (none, h1)) (kk : Ev mmPT t (pc + 3) lv st h1 x) : Ev mmPT t pc lv (.int u1 :: .int u0 :: .ref a :: st) h x := by
  refine Ev.call (M := mX3_dropArgument) (as := [.ref a, .int u0, .int u1]) (r := st) (v := none) (h' := h1) (Or.inl rfl) hf ?_ hm kk
  unfold mmCall
  dsimp only
  rw [show mmPT[49]? = some mX3_dropArgument from rfl]
  dsimp only
  rw [if_pos ⟨rfl, hw, Nat.le_of_ble_eq_true rfl⟩, if_neg (by decide)]
  simp only [List.take_succ_cons, List.take_zero, List.reverse_cons, List.reverse_nil, List.nil_append, List.cons_append, List.drop_succ_cons, List.drop_zero, ho]
  rw [if_pos ⟨hc, by decide⟩]
theorem kc_X3_dropEdge_0 {u0 : Int32} (hf : mmFetch t pc = some (.invokevirtual j, len, 0 :: 48 :: 2 :: 3 :: ax)) (ho : h[a]? = some c) (hc : c.1 = 3) (hw : mmWords st ≤ 8) (hm : Ev mmPT tbX3_dropEdge 0 [some (.ref a), some (.int u0), none, none, none, none, none] [] h (none, h1)) (kk : Ev mmPT t (pc + 3) lv st h1 x) : Ev mmPT t pc lv (.int u0 :: .ref a :: st) h x := by
  refine Ev.call (M := mX3_dropEdge) (as := [.ref a, .int u0]) (r := st) (v := none) (h' := h1) (Or.inl rfl) hf ?_ hm kk
  unfold mmCall
  dsimp only
  rw [show mmPT[48]? = some mX3_dropEdge from rfl]
  dsimp only
  rw [if_pos ⟨rfl, hw, Nat.le_of_ble_eq_true rfl⟩, if_neg (by decide)]
  simp only [List.take_succ_cons, List.take_zero, List.reverse_cons, List.reverse_nil, List.nil_append, List.cons_append, List.drop_succ_cons, List.drop_zero, ho]
  rw [if_pos ⟨hc, by decide⟩]
theorem kc_X3_changeWay_0 {u0 : Int32} {u1 : Int32} (hf : mmFetch t pc = some (.invokevirtual j, len, 0 :: 50 :: 3 :: 3 :: ax)) (ho : h[a]? = some c) (hc : c.1 = 3) (hw : mmWords st ≤ 8) (hm : Ev mmPT tbX3_changeWay 0 [some (.ref a), some (.int u0), some (.int u1), none, none] [] h (none, h1)) (kk : Ev mmPT t (pc + 3) lv st h1 x) : Ev mmPT t pc lv (.int u1 :: .int u0 :: .ref a :: st) h x := by
  refine Ev.call (M := mX3_changeWay) (as := [.ref a, .int u0, .int u1]) (r := st) (v := none) (h' := h1) (Or.inl rfl) hf ?_ hm kk
  unfold mmCall
  dsimp only
  rw [show mmPT[50]? = some mX3_changeWay from rfl]
  dsimp only
  rw [if_pos ⟨rfl, hw, Nat.le_of_ble_eq_true rfl⟩, if_neg (by decide)]
  simp only [List.take_succ_cons, List.take_zero, List.reverse_cons, List.reverse_nil, List.nil_append, List.cons_append, List.drop_succ_cons, List.drop_zero, ho]
  rw [if_pos ⟨hc, by decide⟩]
theorem kc_X0_cutWays_0 {u0 : Nat} (hf : mmFetch t pc = some (.invokevirtual j, len, 0 :: 11 :: 2 :: 0 :: ax)) (ho : h[a]? = some c) (hc : c.1 = 0) (hw : mmWords st ≤ 8) (hm : Ev mmPT tbX0_cutWays 0 [some (.ref a), some (.ref u0), none, none, none, none, none] [] h (none, h1)) (kk : Ev mmPT t (pc + 3) lv st h1 x) : Ev mmPT t pc lv (.ref u0 :: .ref a :: st) h x := by
  refine Ev.call (M := mX0_cutWays) (as := [.ref a, .ref u0]) (r := st) (v := none) (h' := h1) (Or.inl rfl) hf ?_ hm kk
  unfold mmCall
  dsimp only
  rw [show mmPT[11]? = some mX0_cutWays from rfl]
  dsimp only
  rw [if_pos ⟨rfl, hw, Nat.le_of_ble_eq_true rfl⟩, if_neg (by decide)]
  simp only [List.take_succ_cons, List.take_zero, List.reverse_cons, List.reverse_nil, List.nil_append, List.cons_append, List.drop_succ_cons, List.drop_zero, ho]
  rw [if_pos ⟨hc, by decide⟩]
theorem kc_X3_lose_0 {u0 : Int32} (hf : mmFetch t pc = some (.invokevirtual j, len, 0 :: 45 :: 2 :: 3 :: ax)) (ho : h[a]? = some c) (hc : c.1 = 3) (hw : mmWords st ≤ 8) (hm : Ev mmPT tbX3_lose 0 [some (.ref a), some (.int u0)] [] h (none, h1)) (kk : Ev mmPT t (pc + 3) lv st h1 x) : Ev mmPT t pc lv (.int u0 :: .ref a :: st) h x := by
  refine Ev.call (M := mX3_lose) (as := [.ref a, .int u0]) (r := st) (v := none) (h' := h1) (Or.inl rfl) hf ?_ hm kk
  unfold mmCall
  dsimp only
  rw [show mmPT[45]? = some mX3_lose from rfl]
  dsimp only
  rw [if_pos ⟨rfl, hw, Nat.le_of_ble_eq_true rfl⟩, if_neg (by decide)]
  simp only [List.take_succ_cons, List.take_zero, List.reverse_cons, List.reverse_nil, List.nil_append, List.cons_append, List.drop_succ_cons, List.drop_zero, ho]
  rw [if_pos ⟨hc, by decide⟩]
theorem kc_X3_loseBlock_0 {u0 : Int32} (hf : mmFetch t pc = some (.invokevirtual j, len, 0 :: 46 :: 2 :: 3 :: ax)) (ho : h[a]? = some c) (hc : c.1 = 3) (hw : mmWords st ≤ 8) (hm : Ev mmPT tbX3_loseBlock 0 [some (.ref a), some (.int u0), none, none] [] h (none, h1)) (kk : Ev mmPT t (pc + 3) lv st h1 x) : Ev mmPT t pc lv (.int u0 :: .ref a :: st) h x := by
  refine Ev.call (M := mX3_loseBlock) (as := [.ref a, .int u0]) (r := st) (v := none) (h' := h1) (Or.inl rfl) hf ?_ hm kk
  unfold mmCall
  dsimp only
  rw [show mmPT[46]? = some mX3_loseBlock from rfl]
  dsimp only
  rw [if_pos ⟨rfl, hw, Nat.le_of_ble_eq_true rfl⟩, if_neg (by decide)]
  simp only [List.take_succ_cons, List.take_zero, List.reverse_cons, List.reverse_nil, List.nil_append, List.cons_append, List.drop_succ_cons, List.drop_zero, ho]
  rw [if_pos ⟨hc, by decide⟩]
theorem kc_X0_loseBlocks_0 {u0 : Nat} (hf : mmFetch t pc = some (.invokevirtual j, len, 0 :: 12 :: 2 :: 0 :: ax)) (ho : h[a]? = some c) (hc : c.1 = 0) (hw : mmWords st ≤ 8) (hm : Ev mmPT tbX0_loseBlocks 0 [some (.ref a), some (.ref u0), none] [] h (none, h1)) (kk : Ev mmPT t (pc + 3) lv st h1 x) : Ev mmPT t pc lv (.ref u0 :: .ref a :: st) h x := by
  refine Ev.call (M := mX0_loseBlocks) (as := [.ref a, .ref u0]) (r := st) (v := none) (h' := h1) (Or.inl rfl) hf ?_ hm kk
  unfold mmCall
  dsimp only
  rw [show mmPT[12]? = some mX0_loseBlocks from rfl]
  dsimp only
  rw [if_pos ⟨rfl, hw, Nat.le_of_ble_eq_true rfl⟩, if_neg (by decide)]
  simp only [List.take_succ_cons, List.take_zero, List.reverse_cons, List.reverse_nil, List.nil_append, List.cons_append, List.drop_succ_cons, List.drop_zero, ho]
  rw [if_pos ⟨hc, by decide⟩]
theorem kc_X3_redirect_0 {u0 : Int32} {u1 : Int32} {u2 : Int32} (hf : mmFetch t pc = some (.invokevirtual j, len, 0 :: 44 :: 4 :: 3 :: ax)) (ho : h[a]? = some c) (hc : c.1 = 3) (hw : mmWords st ≤ 8) (hm : Ev mmPT tbX3_redirect 0 [some (.ref a), some (.int u0), some (.int u1), some (.int u2), none, none, none] [] h (none, h1)) (kk : Ev mmPT t (pc + 3) lv st h1 x) : Ev mmPT t pc lv (.int u2 :: .int u1 :: .int u0 :: .ref a :: st) h x := by
  refine Ev.call (M := mX3_redirect) (as := [.ref a, .int u0, .int u1, .int u2]) (r := st) (v := none) (h' := h1) (Or.inl rfl) hf ?_ hm kk
  unfold mmCall
  dsimp only
  rw [show mmPT[44]? = some mX3_redirect from rfl]
  dsimp only
  rw [if_pos ⟨rfl, hw, Nat.le_of_ble_eq_true rfl⟩, if_neg (by decide)]
  simp only [List.take_succ_cons, List.take_zero, List.reverse_cons, List.reverse_nil, List.nil_append, List.cons_append, List.drop_succ_cons, List.drop_zero, ho]
  rw [if_pos ⟨hc, by decide⟩]
theorem kc_X3_replace_0 {u0 : Int32} {u1 : Int32} {u2 : Int32} (hf : mmFetch t pc = some (.invokevirtual j, len, 0 :: 43 :: 4 :: 3 :: ax)) (ho : h[a]? = some c) (hc : c.1 = 3) (hw : mmWords st ≤ 8) (hm : Ev mmPT tbX3_replace 0 [some (.ref a), some (.int u0), some (.int u1), some (.int u2)] [] h (none, h1)) (kk : Ev mmPT t (pc + 3) lv st h1 x) : Ev mmPT t pc lv (.int u2 :: .int u1 :: .int u0 :: .ref a :: st) h x := by
  refine Ev.call (M := mX3_replace) (as := [.ref a, .int u0, .int u1, .int u2]) (r := st) (v := none) (h' := h1) (Or.inl rfl) hf ?_ hm kk
  unfold mmCall
  dsimp only
  rw [show mmPT[43]? = some mX3_replace from rfl]
  dsimp only
  rw [if_pos ⟨rfl, hw, Nat.le_of_ble_eq_true rfl⟩, if_neg (by decide)]
  simp only [List.take_succ_cons, List.take_zero, List.reverse_cons, List.reverse_nil, List.nil_append, List.cons_append, List.drop_succ_cons, List.drop_zero, ho]
  rw [if_pos ⟨hc, by decide⟩]
theorem kc_X0_replaceNumbers_0 {u0 : Nat} (hf : mmFetch t pc = some (.invokevirtual j, len, 0 :: 13 :: 2 :: 0 :: ax)) (ho : h[a]? = some c) (hc : c.1 = 0) (hw : mmWords st ≤ 8) (hm : Ev mmPT tbX0_replaceNumbers 0 [some (.ref a), some (.ref u0), none] [] h (none, h1)) (kk : Ev mmPT t (pc + 3) lv st h1 x) : Ev mmPT t pc lv (.ref u0 :: .ref a :: st) h x := by
  refine Ev.call (M := mX0_replaceNumbers) (as := [.ref a, .ref u0]) (r := st) (v := none) (h' := h1) (Or.inl rfl) hf ?_ hm kk
  unfold mmCall
  dsimp only
  rw [show mmPT[13]? = some mX0_replaceNumbers from rfl]
  dsimp only
  rw [if_pos ⟨rfl, hw, Nat.le_of_ble_eq_true rfl⟩, if_neg (by decide)]
  simp only [List.take_succ_cons, List.take_zero, List.reverse_cons, List.reverse_nil, List.nil_append, List.cons_append, List.drop_succ_cons, List.drop_zero, ho]
  rw [if_pos ⟨hc, by decide⟩]
theorem kc_X0_goOver_0 {u0 : Nat} (hf : mmFetch t pc = some (.invokevirtual j, len, 0 :: 1 :: 2 :: 0 :: ax)) (ho : h[a]? = some c) (hc : c.1 = 0) (hw : mmWords st ≤ 8) (hm : Ev mmPT tbX0_goOver 0 [some (.ref a), some (.ref u0), none, none] [] h (none, h1)) (kk : Ev mmPT t (pc + 3) lv st h1 x) : Ev mmPT t pc lv (.ref u0 :: .ref a :: st) h x := by
  refine Ev.call (M := mX0_goOver) (as := [.ref a, .ref u0]) (r := st) (v := none) (h' := h1) (Or.inl rfl) hf ?_ hm kk
  unfold mmCall
  dsimp only
  rw [show mmPT[1]? = some mX0_goOver from rfl]
  dsimp only
  rw [if_pos ⟨rfl, hw, Nat.le_of_ble_eq_true rfl⟩, if_neg (by decide)]
  simp only [List.take_succ_cons, List.take_zero, List.reverse_cons, List.reverse_nil, List.nil_append, List.cons_append, List.drop_succ_cons, List.drop_zero, ho]
  rw [if_pos ⟨hc, by decide⟩]
theorem kc_X6_readEdges_0 {u0 : Nat} (hf : mmFetch t pc = some (.invokevirtual j, len, 0 :: 76 :: 2 :: 6 :: ax)) (ho : h[a]? = some c) (hc : c.1 = 6) (hw : mmWords st ≤ 8) (hm : Ev mmPT tbX6_readEdges 0 [some (.ref a), some (.ref u0), none, none] [] h (none, h1)) (kk : Ev mmPT t (pc + 3) lv st h1 x) : Ev mmPT t pc lv (.ref u0 :: .ref a :: st) h x := by
  refine Ev.call (M := mX6_readEdges) (as := [.ref a, .ref u0]) (r := st) (v := none) (h' := h1) (Or.inl rfl) hf ?_ hm kk
  unfold mmCall
  dsimp only
  rw [show mmPT[76]? = some mX6_readEdges from rfl]
  dsimp only
  rw [if_pos ⟨rfl, hw, Nat.le_of_ble_eq_true rfl⟩, if_neg (by decide)]
  simp only [List.take_succ_cons, List.take_zero, List.reverse_cons, List.reverse_nil, List.nil_append, List.cons_append, List.drop_succ_cons, List.drop_zero, ho]
  rw [if_pos ⟨hc, by decide⟩]
theorem kc_X3_soleArgument_0 {u0 : Int32} {r : Int32} (hf : mmFetch t pc = some (.invokevirtual j, len, 0 :: 54 :: 2 :: 3 :: ax)) (ho : h[a]? = some c) (hc : c.1 = 3) (hw : mmWords st ≤ 8) (hm : Ev mmPT tbX3_soleArgument 0 [some (.ref a), some (.int u0), none, none, none, none] [] h (some (.int r), h1)) (kk : Ev mmPT t (pc + 3) lv (.int r :: st) h1 x) : Ev mmPT t pc lv (.int u0 :: .ref a :: st) h x := by
  refine Ev.call (M := mX3_soleArgument) (as := [.ref a, .int u0]) (r := st) (v := some (.int r)) (h' := h1) (Or.inl rfl) hf ?_ hm kk
  unfold mmCall
  dsimp only
  rw [show mmPT[54]? = some mX3_soleArgument from rfl]
  dsimp only
  rw [if_pos ⟨rfl, hw, Nat.le_of_ble_eq_true rfl⟩, if_neg (by decide)]
  simp only [List.take_succ_cons, List.take_zero, List.reverse_cons, List.reverse_nil, List.nil_append, List.cons_append, List.drop_succ_cons, List.drop_zero, ho]
  rw [if_pos ⟨hc, by decide⟩]
theorem kc_X6_isStill_2 {u0 : Nat} {u1 : Int32} {u2 : Int32} {u3 : Int32} {r : Int32} (hf : mmFetch t pc = some (.invokestatic j, len, 2 :: 80 :: 4 :: 6 :: ax)) (hw : mmWords st ≤ 8) (hm : Ev mmPT tbX6_isStill 0 [some (.ref u0), some (.int u1), some (.int u2), some (.int u3)] [] h (some (.int r), h1)) (kk : Ev mmPT t (pc + 3) lv (.int r :: st) h1 x) : Ev mmPT t pc lv (.int u3 :: .int u2 :: .int u1 :: .ref u0 :: st) h x := by
  refine Ev.call (M := mX6_isStill) (as := [.ref u0, .int u1, .int u2, .int u3]) (r := st) (v := some (.int r)) (h' := h1) (Or.inr (Or.inl ⟨rfl, len4⟩)) hf ?_ hm kk
  unfold mmCall
  dsimp only
  rw [show mmPT[80]? = some mX6_isStill from rfl]
  dsimp only
  rw [if_pos ⟨rfl, hw, Nat.le_of_ble_eq_true rfl⟩, if_pos (by decide)]
  rfl
theorem kc_X3_hasSameArguments_0 {u0 : Int32} {u1 : Int32} {r : Int32} (hf : mmFetch t pc = some (.invokevirtual j, len, 0 :: 52 :: 3 :: 3 :: ax)) (ho : h[a]? = some c) (hc : c.1 = 3) (hw : mmWords st ≤ 8) (hm : Ev mmPT tbX3_hasSameArguments 0 [some (.ref a), some (.int u0), some (.int u1), none, none, none, none, none] [] h (some (.int r), h1)) (kk : Ev mmPT t (pc + 3) lv (.int r :: st) h1 x) : Ev mmPT t pc lv (.int u1 :: .int u0 :: .ref a :: st) h x := by
  refine Ev.call (M := mX3_hasSameArguments) (as := [.ref a, .int u0, .int u1]) (r := st) (v := some (.int r)) (h' := h1) (Or.inl rfl) hf ?_ hm kk
  unfold mmCall
  dsimp only
  rw [show mmPT[52]? = some mX3_hasSameArguments from rfl]
  dsimp only
  rw [if_pos ⟨rfl, hw, Nat.le_of_ble_eq_true rfl⟩, if_neg (by decide)]
  simp only [List.take_succ_cons, List.take_zero, List.reverse_cons, List.reverse_nil, List.nil_append, List.cons_append, List.drop_succ_cons, List.drop_zero, ho]
  rw [if_pos ⟨hc, by decide⟩]
theorem kc_X6_twinOfPhi_2 {u0 : Nat} {u1 : Int32} {u2 : Int32} {r : Int32} (hf : mmFetch t pc = some (.invokestatic j, len, 2 :: 78 :: 3 :: 6 :: ax)) (hw : mmWords st ≤ 8) (hm : Ev mmPT tbX6_twinOfPhi 0 [some (.ref u0), some (.int u1), some (.int u2), none, none, none] [] h (some (.int r), h1)) (kk : Ev mmPT t (pc + 3) lv (.int r :: st) h1 x) : Ev mmPT t pc lv (.int u2 :: .int u1 :: .ref u0 :: st) h x := by
  refine Ev.call (M := mX6_twinOfPhi) (as := [.ref u0, .int u1, .int u2]) (r := st) (v := some (.int r)) (h' := h1) (Or.inr (Or.inl ⟨rfl, len4⟩)) hf ?_ hm kk
  unfold mmCall
  dsimp only
  rw [show mmPT[78]? = some mX6_twinOfPhi from rfl]
  dsimp only
  rw [if_pos ⟨rfl, hw, Nat.le_of_ble_eq_true rfl⟩, if_pos (by decide)]
  rfl
theorem kc_X3_valueOf_0 {u0 : Int32} {u1 : Int32} {r : Int32} (hf : mmFetch t pc = some (.invokevirtual j, len, 0 :: 37 :: 3 :: 3 :: ax)) (ho : h[a]? = some c) (hc : c.1 = 3) (hw : mmWords st ≤ 8) (hm : Ev mmPT tbX3_valueOf 0 [some (.ref a), some (.int u0), some (.int u1)] [] h (some (.int r), h1)) (kk : Ev mmPT t (pc + 3) lv (.int r :: st) h1 x) : Ev mmPT t pc lv (.int u1 :: .int u0 :: .ref a :: st) h x := by
  refine Ev.call (M := mX3_valueOf) (as := [.ref a, .int u0, .int u1]) (r := st) (v := some (.int r)) (h' := h1) (Or.inl rfl) hf ?_ hm kk
  unfold mmCall
  dsimp only
  rw [show mmPT[37]? = some mX3_valueOf from rfl]
  dsimp only
  rw [if_pos ⟨rfl, hw, Nat.le_of_ble_eq_true rfl⟩, if_neg (by decide)]
  simp only [List.take_succ_cons, List.take_zero, List.reverse_cons, List.reverse_nil, List.nil_append, List.cons_append, List.drop_succ_cons, List.drop_zero, ho]
  rw [if_pos ⟨hc, by decide⟩]
theorem kc_X3_numberOf_0 {u0 : Int32} {u1 : Int32} {r : Int32} (hf : mmFetch t pc = some (.invokevirtual j, len, 0 :: 38 :: 3 :: 3 :: ax)) (ho : h[a]? = some c) (hc : c.1 = 3) (hw : mmWords st ≤ 8) (hm : Ev mmPT tbX3_numberOf 0 [some (.ref a), some (.int u0), some (.int u1)] [] h (some (.int r), h1)) (kk : Ev mmPT t (pc + 3) lv (.int r :: st) h1 x) : Ev mmPT t pc lv (.int u1 :: .int u0 :: .ref a :: st) h x := by
  refine Ev.call (M := mX3_numberOf) (as := [.ref a, .int u0, .int u1]) (r := st) (v := some (.int r)) (h' := h1) (Or.inl rfl) hf ?_ hm kk
  unfold mmCall
  dsimp only
  rw [show mmPT[38]? = some mX3_numberOf from rfl]
  dsimp only
  rw [if_pos ⟨rfl, hw, Nat.le_of_ble_eq_true rfl⟩, if_neg (by decide)]
  simp only [List.take_succ_cons, List.take_zero, List.reverse_cons, List.reverse_nil, List.nil_append, List.cons_append, List.drop_succ_cons, List.drop_zero, ho]
  rw [if_pos ⟨hc, by decide⟩]
theorem kc_X3_hasCrossedArguments_0 {u0 : Int32} {u1 : Int32} {r : Int32} (hf : mmFetch t pc = some (.invokevirtual j, len, 0 :: 53 :: 3 :: 3 :: ax)) (ho : h[a]? = some c) (hc : c.1 = 3) (hw : mmWords st ≤ 8) (hm : Ev mmPT tbX3_hasCrossedArguments 0 [some (.ref a), some (.int u0), some (.int u1), none, none] [] h (some (.int r), h1)) (kk : Ev mmPT t (pc + 3) lv (.int r :: st) h1 x) : Ev mmPT t pc lv (.int u1 :: .int u0 :: .ref a :: st) h x := by
  refine Ev.call (M := mX3_hasCrossedArguments) (as := [.ref a, .int u0, .int u1]) (r := st) (v := some (.int r)) (h' := h1) (Or.inl rfl) hf ?_ hm kk
  unfold mmCall
  dsimp only
  rw [show mmPT[53]? = some mX3_hasCrossedArguments from rfl]
  dsimp only
  rw [if_pos ⟨rfl, hw, Nat.le_of_ble_eq_true rfl⟩, if_neg (by decide)]
  simp only [List.take_succ_cons, List.take_zero, List.reverse_cons, List.reverse_nil, List.nil_append, List.cons_append, List.drop_succ_cons, List.drop_zero, ho]
  rw [if_pos ⟨hc, by decide⟩]
theorem kc_X6_twinOfReckoning_0 {u0 : Nat} {u1 : Int32} {u2 : Int32} {r : Int32} (hf : mmFetch t pc = some (.invokevirtual j, len, 0 :: 79 :: 4 :: 6 :: ax)) (ho : h[a]? = some c) (hc : c.1 = 6) (hw : mmWords st ≤ 8) (hm : Ev mmPT tbX6_twinOfReckoning 0 [some (.ref a), some (.ref u0), some (.int u1), some (.int u2), none, none, none, none, none, none, none, none] [] h (some (.int r), h1)) (kk : Ev mmPT t (pc + 3) lv (.int r :: st) h1 x) : Ev mmPT t pc lv (.int u2 :: .int u1 :: .ref u0 :: .ref a :: st) h x := by
  refine Ev.call (M := mX6_twinOfReckoning) (as := [.ref a, .ref u0, .int u1, .int u2]) (r := st) (v := some (.int r)) (h' := h1) (Or.inl rfl) hf ?_ hm kk
  unfold mmCall
  dsimp only
  rw [show mmPT[79]? = some mX6_twinOfReckoning from rfl]
  dsimp only
  rw [if_pos ⟨rfl, hw, Nat.le_of_ble_eq_true rfl⟩, if_neg (by decide)]
  simp only [List.take_succ_cons, List.take_zero, List.reverse_cons, List.reverse_nil, List.nil_append, List.cons_append, List.drop_succ_cons, List.drop_zero, ho]
  rw [if_pos ⟨hc, by decide⟩]
theorem kc_X6_visit_0 {u0 : Nat} {u1 : Int32} (hf : mmFetch t pc = some (.invokevirtual j, len, 0 :: 77 :: 3 :: 6 :: ax)) (ho : h[a]? = some c) (hc : c.1 = 6) (hw : mmWords st ≤ 8) (hm : Ev mmPT tbX6_visit 0 [some (.ref a), some (.ref u0), some (.int u1), none, none, none, none, none] [] h (none, h1)) (kk : Ev mmPT t (pc + 3) lv st h1 x) : Ev mmPT t pc lv (.int u1 :: .ref u0 :: .ref a :: st) h x := by
  refine Ev.call (M := mX6_visit) (as := [.ref a, .ref u0, .int u1]) (r := st) (v := none) (h' := h1) (Or.inl rfl) hf ?_ hm kk
  unfold mmCall
  dsimp only
  rw [show mmPT[77]? = some mX6_visit from rfl]
  dsimp only
  rw [if_pos ⟨rfl, hw, Nat.le_of_ble_eq_true rfl⟩, if_neg (by decide)]
  simp only [List.take_succ_cons, List.take_zero, List.reverse_cons, List.reverse_nil, List.nil_append, List.cons_append, List.drop_succ_cons, List.drop_zero, ho]
  rw [if_pos ⟨hc, by decide⟩]
theorem kc_X6_goOver_0 {u0 : Nat} (hf : mmFetch t pc = some (.invokevirtual j, len, 0 :: 75 :: 2 :: 6 :: ax)) (ho : h[a]? = some c) (hc : c.1 = 6) (hw : mmWords st ≤ 8) (hm : Ev mmPT tbX6_goOver 0 [some (.ref a), some (.ref u0), none, none] [] h (none, h1)) (kk : Ev mmPT t (pc + 3) lv st h1 x) : Ev mmPT t pc lv (.ref u0 :: .ref a :: st) h x := by
  refine Ev.call (M := mX6_goOver) (as := [.ref a, .ref u0]) (r := st) (v := none) (h' := h1) (Or.inl rfl) hf ?_ hm kk
  unfold mmCall
  dsimp only
  rw [show mmPT[75]? = some mX6_goOver from rfl]
  dsimp only
  rw [if_pos ⟨rfl, hw, Nat.le_of_ble_eq_true rfl⟩, if_neg (by decide)]
  simp only [List.take_succ_cons, List.take_zero, List.reverse_cons, List.reverse_nil, List.nil_append, List.cons_append, List.drop_succ_cons, List.drop_zero, ho]
  rw [if_pos ⟨hc, by decide⟩]
theorem kc_X1_isNeededBySelf_2 {u0 : Nat} {u1 : Int32} {r : Int32} (hf : mmFetch t pc = some (.invokestatic j, len, 2 :: 16 :: 2 :: 1 :: ax)) (hw : mmWords st ≤ 8) (hm : Ev mmPT tbX1_isNeededBySelf 0 [some (.ref u0), some (.int u1), none, none] [] h (some (.int r), h1)) (kk : Ev mmPT t (pc + 3) lv (.int r :: st) h1 x) : Ev mmPT t pc lv (.int u1 :: .ref u0 :: st) h x := by
  refine Ev.call (M := mX1_isNeededBySelf) (as := [.ref u0, .int u1]) (r := st) (v := some (.int r)) (h' := h1) (Or.inr (Or.inl ⟨rfl, len4⟩)) hf ?_ hm kk
  unfold mmCall
  dsimp only
  rw [show mmPT[16]? = some mX1_isNeededBySelf from rfl]
  dsimp only
  rw [if_pos ⟨rfl, hw, Nat.le_of_ble_eq_true rfl⟩, if_pos (by decide)]
  rfl
theorem kc_X1_needArguments_0 {u0 : Nat} {u1 : Int32} (hf : mmFetch t pc = some (.invokevirtual j, len, 0 :: 17 :: 3 :: 1 :: ax)) (ho : h[a]? = some c) (hc : c.1 = 1) (hw : mmWords st ≤ 8) (hm : Ev mmPT tbX1_needArguments 0 [some (.ref a), some (.ref u0), some (.int u1), none, none] [] h (none, h1)) (kk : Ev mmPT t (pc + 3) lv st h1 x) : Ev mmPT t pc lv (.int u1 :: .ref u0 :: .ref a :: st) h x := by
  refine Ev.call (M := mX1_needArguments) (as := [.ref a, .ref u0, .int u1]) (r := st) (v := none) (h' := h1) (Or.inl rfl) hf ?_ hm kk
  unfold mmCall
  dsimp only
  rw [show mmPT[17]? = some mX1_needArguments from rfl]
  dsimp only
  rw [if_pos ⟨rfl, hw, Nat.le_of_ble_eq_true rfl⟩, if_neg (by decide)]
  simp only [List.take_succ_cons, List.take_zero, List.reverse_cons, List.reverse_nil, List.nil_append, List.cons_append, List.drop_succ_cons, List.drop_zero, ho]
  rw [if_pos ⟨hc, by decide⟩]
theorem kc_X1_loseOthers_0 {u0 : Nat} (hf : mmFetch t pc = some (.invokevirtual j, len, 0 :: 18 :: 2 :: 1 :: ax)) (ho : h[a]? = some c) (hc : c.1 = 1) (hw : mmWords st ≤ 8) (hm : Ev mmPT tbX1_loseOthers 0 [some (.ref a), some (.ref u0), none] [] h (none, h1)) (kk : Ev mmPT t (pc + 3) lv st h1 x) : Ev mmPT t pc lv (.ref u0 :: .ref a :: st) h x := by
  refine Ev.call (M := mX1_loseOthers) (as := [.ref a, .ref u0]) (r := st) (v := none) (h' := h1) (Or.inl rfl) hf ?_ hm kk
  unfold mmCall
  dsimp only
  rw [show mmPT[18]? = some mX1_loseOthers from rfl]
  dsimp only
  rw [if_pos ⟨rfl, hw, Nat.le_of_ble_eq_true rfl⟩, if_neg (by decide)]
  simp only [List.take_succ_cons, List.take_zero, List.reverse_cons, List.reverse_nil, List.nil_append, List.cons_append, List.drop_succ_cons, List.drop_zero, ho]
  rw [if_pos ⟨hc, by decide⟩]
theorem kc_X1_goOver_0 {u0 : Nat} (hf : mmFetch t pc = some (.invokevirtual j, len, 0 :: 15 :: 2 :: 1 :: ax)) (ho : h[a]? = some c) (hc : c.1 = 1) (hw : mmWords st ≤ 8) (hm : Ev mmPT tbX1_goOver 0 [some (.ref a), some (.ref u0), none, none] [] h (none, h1)) (kk : Ev mmPT t (pc + 3) lv st h1 x) : Ev mmPT t pc lv (.ref u0 :: .ref a :: st) h x := by
  refine Ev.call (M := mX1_goOver) (as := [.ref a, .ref u0]) (r := st) (v := none) (h' := h1) (Or.inl rfl) hf ?_ hm kk
  unfold mmCall
  dsimp only
  rw [show mmPT[15]? = some mX1_goOver from rfl]
  dsimp only
  rw [if_pos ⟨rfl, hw, Nat.le_of_ble_eq_true rfl⟩, if_neg (by decide)]
  simp only [List.take_succ_cons, List.take_zero, List.reverse_cons, List.reverse_nil, List.nil_append, List.cons_append, List.drop_succ_cons, List.drop_zero, ho]
  rw [if_pos ⟨hc, by decide⟩]
theorem kc_X4_firstToJoin_2 {u0 : Nat} {r : Int32} (hf : mmFetch t pc = some (.invokestatic j, len, 2 :: 57 :: 1 :: 4 :: ax)) (hw : mmWords st ≤ 8) (hm : Ev mmPT tbX4_firstToJoin 0 [some (.ref u0), none, none] [] h (some (.int r), h1)) (kk : Ev mmPT t (pc + 3) lv (.int r :: st) h1 x) : Ev mmPT t pc lv (.ref u0 :: st) h x := by
  refine Ev.call (M := mX4_firstToJoin) (as := [.ref u0]) (r := st) (v := some (.int r)) (h' := h1) (Or.inr (Or.inl ⟨rfl, len4⟩)) hf ?_ hm kk
  unfold mmCall
  dsimp only
  rw [show mmPT[57]? = some mX4_firstToJoin from rfl]
  dsimp only
  rw [if_pos ⟨rfl, hw, Nat.le_of_ble_eq_true rfl⟩, if_pos (by decide)]
  rfl
theorem kc_X4_moveValues_2 {u0 : Nat} {u1 : Int32} {u2 : Int32} (hf : mmFetch t pc = some (.invokestatic j, len, 2 :: 58 :: 3 :: 4 :: ax)) (hw : mmWords st ≤ 8) (hm : Ev mmPT tbX4_moveValues 0 [some (.ref u0), some (.int u1), some (.int u2), none, none] [] h (none, h1)) (kk : Ev mmPT t (pc + 3) lv st h1 x) : Ev mmPT t pc lv (.int u2 :: .int u1 :: .ref u0 :: st) h x := by
  refine Ev.call (M := mX4_moveValues) (as := [.ref u0, .int u1, .int u2]) (r := st) (v := none) (h' := h1) (Or.inr (Or.inl ⟨rfl, len4⟩)) hf ?_ hm kk
  unfold mmCall
  dsimp only
  rw [show mmPT[58]? = some mX4_moveValues from rfl]
  dsimp only
  rw [if_pos ⟨rfl, hw, Nat.le_of_ble_eq_true rfl⟩, if_pos (by decide)]
  rfl
theorem kc_X3_takeEnd_0 {u0 : Int32} {u1 : Int32} (hf : mmFetch t pc = some (.invokevirtual j, len, 0 :: 51 :: 3 :: 3 :: ax)) (ho : h[a]? = some c) (hc : c.1 = 3) (hw : mmWords st ≤ 8) (hm : Ev mmPT tbX3_takeEnd 0 [some (.ref a), some (.int u0), some (.int u1)] [] h (none, h1)) (kk : Ev mmPT t (pc + 3) lv st h1 x) : Ev mmPT t pc lv (.int u1 :: .int u0 :: .ref a :: st) h x := by
  refine Ev.call (M := mX3_takeEnd) (as := [.ref a, .int u0, .int u1]) (r := st) (v := none) (h' := h1) (Or.inl rfl) hf ?_ hm kk
  unfold mmCall
  dsimp only
  rw [show mmPT[51]? = some mX3_takeEnd from rfl]
  dsimp only
  rw [if_pos ⟨rfl, hw, Nat.le_of_ble_eq_true rfl⟩, if_neg (by decide)]
  simp only [List.take_succ_cons, List.take_zero, List.reverse_cons, List.reverse_nil, List.nil_append, List.cons_append, List.drop_succ_cons, List.drop_zero, ho]
  rw [if_pos ⟨hc, by decide⟩]
theorem kc_X4_moveEnd_2 {u0 : Nat} {u1 : Int32} {u2 : Int32} (hf : mmFetch t pc = some (.invokestatic j, len, 2 :: 59 :: 3 :: 4 :: ax)) (hw : mmWords st ≤ 8) (hm : Ev mmPT tbX4_moveEnd 0 [some (.ref u0), some (.int u1), some (.int u2), none] [] h (none, h1)) (kk : Ev mmPT t (pc + 3) lv st h1 x) : Ev mmPT t pc lv (.int u2 :: .int u1 :: .ref u0 :: st) h x := by
  refine Ev.call (M := mX4_moveEnd) (as := [.ref u0, .int u1, .int u2]) (r := st) (v := none) (h' := h1) (Or.inr (Or.inl ⟨rfl, len4⟩)) hf ?_ hm kk
  unfold mmCall
  dsimp only
  rw [show mmPT[59]? = some mX4_moveEnd from rfl]
  dsimp only
  rw [if_pos ⟨rfl, hw, Nat.le_of_ble_eq_true rfl⟩, if_pos (by decide)]
  rfl
theorem kc_X4_goOver_0 {u0 : Nat} (hf : mmFetch t pc = some (.invokevirtual j, len, 0 :: 56 :: 2 :: 4 :: ax)) (ho : h[a]? = some c) (hc : c.1 = 4) (hw : mmWords st ≤ 8) (hm : Ev mmPT tbX4_goOver 0 [some (.ref a), some (.ref u0), none, none, none] [] h (none, h1)) (kk : Ev mmPT t (pc + 3) lv st h1 x) : Ev mmPT t pc lv (.ref u0 :: .ref a :: st) h x := by
  refine Ev.call (M := mX4_goOver) (as := [.ref a, .ref u0]) (r := st) (v := none) (h' := h1) (Or.inl rfl) hf ?_ hm kk
  unfold mmCall
  dsimp only
  rw [show mmPT[56]? = some mX4_goOver from rfl]
  dsimp only
  rw [if_pos ⟨rfl, hw, Nat.le_of_ble_eq_true rfl⟩, if_neg (by decide)]
  simp only [List.take_succ_cons, List.take_zero, List.reverse_cons, List.reverse_nil, List.nil_append, List.cons_append, List.drop_succ_cons, List.drop_zero, ho]
  rw [if_pos ⟨hc, by decide⟩]
theorem kc_X3_sweep_0 (hf : mmFetch t pc = some (.invokevirtual j, len, 0 :: 47 :: 1 :: 3 :: ax)) (ho : h[a]? = some c) (hc : c.1 = 3) (hw : mmWords st ≤ 8) (hm : Ev mmPT tbX3_sweep 0 [some (.ref a), none, none, none, none, none] [] h (none, h1)) (kk : Ev mmPT t (pc + 3) lv st h1 x) : Ev mmPT t pc lv (.ref a :: st) h x := by
  refine Ev.call (M := mX3_sweep) (as := [.ref a]) (r := st) (v := none) (h' := h1) (Or.inl rfl) hf ?_ hm kk
  unfold mmCall
  dsimp only
  rw [show mmPT[47]? = some mX3_sweep from rfl]
  dsimp only
  rw [if_pos ⟨rfl, hw, Nat.le_of_ble_eq_true rfl⟩, if_neg (by decide)]
  simp only [List.take_succ_cons, List.take_zero, List.reverse_cons, List.reverse_nil, List.nil_append, List.cons_append, List.drop_succ_cons, List.drop_zero, ho]
  rw [if_pos ⟨hc, by decide⟩]
theorem kc_X11_passOver_0 {u0 : Nat} {u1 : Int32} {r : Int32} (hf : mmFetch t pc = some (.invokevirtual j, len, 0 :: 145 :: 3 :: 11 :: ax)) (ho : h[a]? = some c) (hc : c.1 = 11) (hw : mmWords st ≤ 8) (hm : Ev mmPT tbX11_passOver 0 [some (.ref a), some (.ref u0), some (.int u1), none] [] h (some (.int r), h1)) (kk : Ev mmPT t (pc + 3) lv (.int r :: st) h1 x) : Ev mmPT t pc lv (.int u1 :: .ref u0 :: .ref a :: st) h x := by
  refine Ev.call (M := mX11_passOver) (as := [.ref a, .ref u0, .int u1]) (r := st) (v := some (.int r)) (h' := h1) (Or.inl rfl) hf ?_ hm kk
  unfold mmCall
  dsimp only
  rw [show mmPT[145]? = some mX11_passOver from rfl]
  dsimp only
  rw [if_pos ⟨rfl, hw, Nat.le_of_ble_eq_true rfl⟩, if_neg (by decide)]
  simp only [List.take_succ_cons, List.take_zero, List.reverse_cons, List.reverse_nil, List.nil_append, List.cons_append, List.drop_succ_cons, List.drop_zero, ho]
  rw [if_pos ⟨hc, by decide⟩]
theorem kc_X11_isValue_0 {u0 : Int32} {r : Int32} (hf : mmFetch t pc = some (.invokevirtual j, len, 0 :: 140 :: 2 :: 11 :: ax)) (ho : h[a]? = some c) (hc : c.1 = 11) (hw : mmWords st ≤ 8) (hm : Ev mmPT tbX11_isValue 0 [some (.ref a), some (.int u0)] [] h (some (.int r), h1)) (kk : Ev mmPT t (pc + 3) lv (.int r :: st) h1 x) : Ev mmPT t pc lv (.int u0 :: .ref a :: st) h x := by
  refine Ev.call (M := mX11_isValue) (as := [.ref a, .int u0]) (r := st) (v := some (.int r)) (h' := h1) (Or.inl rfl) hf ?_ hm kk
  unfold mmCall
  dsimp only
  rw [show mmPT[140]? = some mX11_isValue from rfl]
  dsimp only
  rw [if_pos ⟨rfl, hw, Nat.le_of_ble_eq_true rfl⟩, if_neg (by decide)]
  simp only [List.take_succ_cons, List.take_zero, List.reverse_cons, List.reverse_nil, List.nil_append, List.cons_append, List.drop_succ_cons, List.drop_zero, ho]
  rw [if_pos ⟨hc, by decide⟩]
theorem kc_X3_usesOf_0 {u0 : Int32} {r : Int32} (hf : mmFetch t pc = some (.invokevirtual j, len, 0 :: 41 :: 2 :: 3 :: ax)) (ho : h[a]? = some c) (hc : c.1 = 3) (hw : mmWords st ≤ 8) (hm : Ev mmPT tbX3_usesOf 0 [some (.ref a), some (.int u0), none, none, none] [] h (some (.int r), h1)) (kk : Ev mmPT t (pc + 3) lv (.int r :: st) h1 x) : Ev mmPT t pc lv (.int u0 :: .ref a :: st) h x := by
  refine Ev.call (M := mX3_usesOf) (as := [.ref a, .int u0]) (r := st) (v := some (.int r)) (h' := h1) (Or.inl rfl) hf ?_ hm kk
  unfold mmCall
  dsimp only
  rw [show mmPT[41]? = some mX3_usesOf from rfl]
  dsimp only
  rw [if_pos ⟨rfl, hw, Nat.le_of_ble_eq_true rfl⟩, if_neg (by decide)]
  simp only [List.take_succ_cons, List.take_zero, List.reverse_cons, List.reverse_nil, List.nil_append, List.cons_append, List.drop_succ_cons, List.drop_zero, ho]
  rw [if_pos ⟨hc, by decide⟩]
theorem kc_X11_isArgument_0 {u0 : Int32} {u1 : Int32} {r : Int32} (hf : mmFetch t pc = some (.invokevirtual j, len, 0 :: 141 :: 3 :: 11 :: ax)) (ho : h[a]? = some c) (hc : c.1 = 11) (hw : mmWords st ≤ 8) (hm : Ev mmPT tbX11_isArgument 0 [some (.ref a), some (.int u0), some (.int u1)] [] h (some (.int r), h1)) (kk : Ev mmPT t (pc + 3) lv (.int r :: st) h1 x) : Ev mmPT t pc lv (.int u1 :: .int u0 :: .ref a :: st) h x := by
  refine Ev.call (M := mX11_isArgument) (as := [.ref a, .int u0, .int u1]) (r := st) (v := some (.int r)) (h' := h1) (Or.inl rfl) hf ?_ hm kk
  unfold mmCall
  dsimp only
  rw [show mmPT[141]? = some mX11_isArgument from rfl]
  dsimp only
  rw [if_pos ⟨rfl, hw, Nat.le_of_ble_eq_true rfl⟩, if_neg (by decide)]
  simp only [List.take_succ_cons, List.take_zero, List.reverse_cons, List.reverse_nil, List.nil_append, List.cons_append, List.drop_succ_cons, List.drop_zero, ho]
  rw [if_pos ⟨hc, by decide⟩]
theorem kc_X9_begin_0 (hf : mmFetch t pc = some (.invokevirtual j, len, 0 :: 95 :: 1 :: 9 :: ax)) (ho : h[a]? = some c) (hc : c.1 = 9) (hw : mmWords st ≤ 8) (hm : Ev mmPT tbX9_begin 0 [some (.ref a)] [] h (none, h1)) (kk : Ev mmPT t (pc + 3) lv st h1 x) : Ev mmPT t pc lv (.ref a :: st) h x := by
  refine Ev.call (M := mX9_begin) (as := [.ref a]) (r := st) (v := none) (h' := h1) (Or.inl rfl) hf ?_ hm kk
  unfold mmCall
  dsimp only
  rw [show mmPT[95]? = some mX9_begin from rfl]
  dsimp only
  rw [if_pos ⟨rfl, hw, Nat.le_of_ble_eq_true rfl⟩, if_neg (by decide)]
  simp only [List.take_succ_cons, List.take_zero, List.reverse_cons, List.reverse_nil, List.nil_append, List.cons_append, List.drop_succ_cons, List.drop_zero, ho]
  rw [if_pos ⟨hc, by decide⟩]
theorem kc_X8_read_0 {u0 : Int32} {r : Int32} (hf : mmFetch t pc = some (.invokevirtual j, len, 0 :: 89 :: 2 :: 8 :: ax)) (ho : h[a]? = some c) (hc : c.1 = 8) (hw : mmWords st ≤ 8) (hm : Ev mmPT tbX8_read 0 [some (.ref a), some (.int u0), none] [] h (some (.int r), h1)) (kk : Ev mmPT t (pc + 3) lv (.int r :: st) h1 x) : Ev mmPT t pc lv (.int u0 :: .ref a :: st) h x := by
  refine Ev.call (M := mX8_read) (as := [.ref a, .int u0]) (r := st) (v := some (.int r)) (h' := h1) (Or.inl rfl) hf ?_ hm kk
  unfold mmCall
  dsimp only
  rw [show mmPT[89]? = some mX8_read from rfl]
  dsimp only
  rw [if_pos ⟨rfl, hw, Nat.le_of_ble_eq_true rfl⟩, if_neg (by decide)]
  simp only [List.take_succ_cons, List.take_zero, List.reverse_cons, List.reverse_nil, List.nil_append, List.cons_append, List.drop_succ_cons, List.drop_zero, ho]
  rw [if_pos ⟨hc, by decide⟩]
theorem kc_X11_costOf_3 {u0 : Int32} {r : Int32} (hf : mmFetch t pc = some (.invokestatic j, len, 3 :: 158 :: 1 :: 11 :: ax)) (hw : mmWords st ≤ 8) (hm : Ev mmPT tbX11_costOf 0 [some (.int u0)] [] h (some (.int r), h1)) (kk : Ev mmPT t (pc + 3) lv (.int r :: st) h1 x) : Ev mmPT t pc lv (.int u0 :: st) h x := by
  refine Ev.call (M := mX11_costOf) (as := [.int u0]) (r := st) (v := some (.int r)) (h' := h1) (Or.inr (Or.inl ⟨rfl, len4⟩)) hf ?_ hm kk
  unfold mmCall
  dsimp only
  rw [show mmPT[158]? = some mX11_costOf from rfl]
  dsimp only
  rw [if_pos ⟨rfl, hw, Nat.le_of_ble_eq_true rfl⟩, if_pos (by decide)]
  rfl
theorem kc_J9_floorMod_7cf53_2 {u0 : Int32} {u1 : Int32} {r : Int32} (hf : mmFetch t pc = some (.invokestatic j, len, 2 :: 166 :: 2 :: 0 :: ax)) (hw : mmWords st ≤ 8) (hm : Ev mmPT tbJ9_floorMod_7cf53 0 [some (.int u0), some (.int u1), none] [] h (some (.int r), h1)) (kk : Ev mmPT t (pc + 3) lv (.int r :: st) h1 x) : Ev mmPT t pc lv (.int u1 :: .int u0 :: st) h x := by
  refine Ev.call (M := mJ9_floorMod_7cf53) (as := [.int u0, .int u1]) (r := st) (v := some (.int r)) (h' := h1) (Or.inr (Or.inl ⟨rfl, len4⟩)) hf ?_ hm kk
  unfold mmCall
  dsimp only
  rw [show mmPT[166]? = some mJ9_floorMod_7cf53 from rfl]
  dsimp only
  rw [if_pos ⟨rfl, hw, Nat.le_of_ble_eq_true rfl⟩, if_pos (by decide)]
  rfl
theorem kc_X9_finish_0 {u0 : Int32} (hf : mmFetch t pc = some (.invokevirtual j, len, 0 :: 96 :: 2 :: 9 :: ax)) (ho : h[a]? = some c) (hc : c.1 = 9) (hw : mmWords st ≤ 8) (hm : Ev mmPT tbX9_finish 0 [some (.ref a), some (.int u0)] [] h (none, h1)) (kk : Ev mmPT t (pc + 3) lv st h1 x) : Ev mmPT t pc lv (.int u0 :: .ref a :: st) h x := by
  refine Ev.call (M := mX9_finish) (as := [.ref a, .int u0]) (r := st) (v := none) (h' := h1) (Or.inl rfl) hf ?_ hm kk
  unfold mmCall
  dsimp only
  rw [show mmPT[96]? = some mX9_finish from rfl]
  dsimp only
  rw [if_pos ⟨rfl, hw, Nat.le_of_ble_eq_true rfl⟩, if_neg (by decide)]
  simp only [List.take_succ_cons, List.take_zero, List.reverse_cons, List.reverse_nil, List.nil_append, List.cons_append, List.drop_succ_cons, List.drop_zero, ho]
  rw [if_pos ⟨hc, by decide⟩]
theorem kc_X9_act_0 {u0 : Int32} {u1 : Int32} {u2 : Int32} {r : Int32} (hf : mmFetch t pc = some (.invokevirtual j, len, 0 :: 97 :: 4 :: 9 :: ax)) (ho : h[a]? = some c) (hc : c.1 = 9) (hw : mmWords st ≤ 8) (hm : Ev mmPT tbX9_act 0 [some (.ref a), some (.int u0), some (.int u1), some (.int u2)] [] h (some (.int r), h1)) (kk : Ev mmPT t (pc + 3) lv (.int r :: st) h1 x) : Ev mmPT t pc lv (.int u2 :: .int u1 :: .int u0 :: .ref a :: st) h x := by
  refine Ev.call (M := mX9_act) (as := [.ref a, .int u0, .int u1, .int u2]) (r := st) (v := some (.int r)) (h' := h1) (Or.inl rfl) hf ?_ hm kk
  unfold mmCall
  dsimp only
  rw [show mmPT[97]? = some mX9_act from rfl]
  dsimp only
  rw [if_pos ⟨rfl, hw, Nat.le_of_ble_eq_true rfl⟩, if_neg (by decide)]
  simp only [List.take_succ_cons, List.take_zero, List.reverse_cons, List.reverse_nil, List.nil_append, List.cons_append, List.drop_succ_cons, List.drop_zero, ho]
  rw [if_pos ⟨hc, by decide⟩]
theorem kc_X8_doLines_0 {u0 : Nat} {u1 : Int32} {u2 : Nat} (hf : mmFetch t pc = some (.invokevirtual j, len, 0 :: 88 :: 4 :: 8 :: ax)) (ho : h[a]? = some c) (hc : c.1 = 8) (hw : mmWords st ≤ 8) (hm : Ev mmPT tbX8_doLines 0 [some (.ref a), some (.ref u0), some (.int u1), some (.ref u2), none, none, none, none] [] h (none, h1)) (kk : Ev mmPT t (pc + 3) lv st h1 x) : Ev mmPT t pc lv (.ref u2 :: .int u1 :: .ref u0 :: .ref a :: st) h x := by
  refine Ev.call (M := mX8_doLines) (as := [.ref a, .ref u0, .int u1, .ref u2]) (r := st) (v := none) (h' := h1) (Or.inl rfl) hf ?_ hm kk
  unfold mmCall
  dsimp only
  rw [show mmPT[88]? = some mX8_doLines from rfl]
  dsimp only
  rw [if_pos ⟨rfl, hw, Nat.le_of_ble_eq_true rfl⟩, if_neg (by decide)]
  simp only [List.take_succ_cons, List.take_zero, List.reverse_cons, List.reverse_nil, List.nil_append, List.cons_append, List.drop_succ_cons, List.drop_zero, ho]
  rw [if_pos ⟨hc, by decide⟩]
theorem kc_X9_leaveBy_0 {u0 : Int32} {u1 : Int32} {r : Int32} (hf : mmFetch t pc = some (.invokevirtual j, len, 0 :: 98 :: 3 :: 9 :: ax)) (ho : h[a]? = some c) (hc : c.1 = 9) (hw : mmWords st ≤ 8) (hm : Ev mmPT tbX9_leaveBy 0 [some (.ref a), some (.int u0), some (.int u1)] [] h (some (.int r), h1)) (kk : Ev mmPT t (pc + 3) lv (.int r :: st) h1 x) : Ev mmPT t pc lv (.int u1 :: .int u0 :: .ref a :: st) h x := by
  refine Ev.call (M := mX9_leaveBy) (as := [.ref a, .int u0, .int u1]) (r := st) (v := some (.int r)) (h' := h1) (Or.inl rfl) hf ?_ hm kk
  unfold mmCall
  dsimp only
  rw [show mmPT[98]? = some mX9_leaveBy from rfl]
  dsimp only
  rw [if_pos ⟨rfl, hw, Nat.le_of_ble_eq_true rfl⟩, if_neg (by decide)]
  simp only [List.take_succ_cons, List.take_zero, List.reverse_cons, List.reverse_nil, List.nil_append, List.cons_append, List.drop_succ_cons, List.drop_zero, ho]
  rw [if_pos ⟨hc, by decide⟩]
theorem kc_X8_walkBlocks_0 {u0 : Nat} {u1 : Int32} {u2 : Int32} {u3 : Nat} (hf : mmFetch t pc = some (.invokevirtual j, len, 0 :: 87 :: 5 :: 8 :: ax)) (ho : h[a]? = some c) (hc : c.1 = 8) (hw : mmWords st ≤ 8) (hm : Ev mmPT tbX8_walkBlocks 0 [some (.ref a), some (.ref u0), some (.int u1), some (.int u2), some (.ref u3), none, none, none] [] h (none, h1)) (kk : Ev mmPT t (pc + 3) lv st h1 x) : Ev mmPT t pc lv (.ref u3 :: .int u2 :: .int u1 :: .ref u0 :: .ref a :: st) h x := by
  refine Ev.call (M := mX8_walkBlocks) (as := [.ref a, .ref u0, .int u1, .int u2, .ref u3]) (r := st) (v := none) (h' := h1) (Or.inl rfl) hf ?_ hm kk
  unfold mmCall
  dsimp only
  rw [show mmPT[87]? = some mX8_walkBlocks from rfl]
  dsimp only
  rw [if_pos ⟨rfl, hw, Nat.le_of_ble_eq_true rfl⟩, if_neg (by decide)]
  simp only [List.take_succ_cons, List.take_zero, List.reverse_cons, List.reverse_nil, List.nil_append, List.cons_append, List.drop_succ_cons, List.drop_zero, ho]
  rw [if_pos ⟨hc, by decide⟩]
theorem kc_X11_countRun_0 (hf : mmFetch t pc = some (.invokevirtual j, len, 0 :: 142 :: 1 :: 11 :: ax)) (ho : h[a]? = some c) (hc : c.1 = 11) (hw : mmWords st ≤ 8) (hm : Ev mmPT tbX11_countRun 0 [some (.ref a)] [] h (none, h1)) (kk : Ev mmPT t (pc + 3) lv st h1 x) : Ev mmPT t pc lv (.ref a :: st) h x := by
  refine Ev.call (M := mX11_countRun) (as := [.ref a]) (r := st) (v := none) (h' := h1) (Or.inl rfl) hf ?_ hm kk
  unfold mmCall
  dsimp only
  rw [show mmPT[142]? = some mX11_countRun from rfl]
  dsimp only
  rw [if_pos ⟨rfl, hw, Nat.le_of_ble_eq_true rfl⟩, if_neg (by decide)]
  simp only [List.take_succ_cons, List.take_zero, List.reverse_cons, List.reverse_nil, List.nil_append, List.cons_append, List.drop_succ_cons, List.drop_zero, ho]
  rw [if_pos ⟨hc, by decide⟩]
theorem kc_X8_reckon_0 {u0 : Nat} {u1 : Int32} {u2 : Int32} {r : Int32} (hf : mmFetch t pc = some (.invokevirtual j, len, 0 :: 93 :: 4 :: 8 :: ax)) (ho : h[a]? = some c) (hc : c.1 = 8) (hw : mmWords st ≤ 8) (hm : Ev mmPT tbX8_reckon 0 [some (.ref a), some (.ref u0), some (.int u1), some (.int u2), none] [] h (some (.int r), h1)) (kk : Ev mmPT t (pc + 3) lv (.int r :: st) h1 x) : Ev mmPT t pc lv (.int u2 :: .int u1 :: .ref u0 :: .ref a :: st) h x := by
  refine Ev.call (M := mX8_reckon) (as := [.ref a, .ref u0, .int u1, .int u2]) (r := st) (v := some (.int r)) (h' := h1) (Or.inl rfl) hf ?_ hm kk
  unfold mmCall
  dsimp only
  rw [show mmPT[93]? = some mX8_reckon from rfl]
  dsimp only
  rw [if_pos ⟨rfl, hw, Nat.le_of_ble_eq_true rfl⟩, if_neg (by decide)]
  simp only [List.take_succ_cons, List.take_zero, List.reverse_cons, List.reverse_nil, List.nil_append, List.cons_append, List.drop_succ_cons, List.drop_zero, ho]
  rw [if_pos ⟨hc, by decide⟩]
theorem kc_X8_doPhis_0 {u0 : Nat} {u1 : Int32} {u2 : Int32} (hf : mmFetch t pc = some (.invokevirtual j, len, 0 :: 91 :: 4 :: 8 :: ax)) (ho : h[a]? = some c) (hc : c.1 = 8) (hw : mmWords st ≤ 8) (hm : Ev mmPT tbX8_doPhis 0 [some (.ref a), some (.ref u0), some (.int u1), some (.int u2), none, none] [] h (none, h1)) (kk : Ev mmPT t (pc + 3) lv st h1 x) : Ev mmPT t pc lv (.int u2 :: .int u1 :: .ref u0 :: .ref a :: st) h x := by
  refine Ev.call (M := mX8_doPhis) (as := [.ref a, .ref u0, .int u1, .int u2]) (r := st) (v := none) (h' := h1) (Or.inl rfl) hf ?_ hm kk
  unfold mmCall
  dsimp only
  rw [show mmPT[91]? = some mX8_doPhis from rfl]
  dsimp only
  rw [if_pos ⟨rfl, hw, Nat.le_of_ble_eq_true rfl⟩, if_neg (by decide)]
  simp only [List.take_succ_cons, List.take_zero, List.reverse_cons, List.reverse_nil, List.nil_append, List.cons_append, List.drop_succ_cons, List.drop_zero, ho]
  rw [if_pos ⟨hc, by decide⟩]
theorem kc_X8_doValues_0 {u0 : Nat} {u1 : Int32} {u2 : Nat} (hf : mmFetch t pc = some (.invokevirtual j, len, 0 :: 92 :: 4 :: 8 :: ax)) (ho : h[a]? = some c) (hc : c.1 = 8) (hw : mmWords st ≤ 8) (hm : Ev mmPT tbX8_doValues 0 [some (.ref a), some (.ref u0), some (.int u1), some (.ref u2), none, none, none] [] h (none, h1)) (kk : Ev mmPT t (pc + 3) lv st h1 x) : Ev mmPT t pc lv (.ref u2 :: .int u1 :: .ref u0 :: .ref a :: st) h x := by
  refine Ev.call (M := mX8_doValues) (as := [.ref a, .ref u0, .int u1, .ref u2]) (r := st) (v := none) (h' := h1) (Or.inl rfl) hf ?_ hm kk
  unfold mmCall
  dsimp only
  rw [show mmPT[92]? = some mX8_doValues from rfl]
  dsimp only
  rw [if_pos ⟨rfl, hw, Nat.le_of_ble_eq_true rfl⟩, if_neg (by decide)]
  simp only [List.take_succ_cons, List.take_zero, List.reverse_cons, List.reverse_nil, List.nil_append, List.cons_append, List.drop_succ_cons, List.drop_zero, ho]
  rw [if_pos ⟨hc, by decide⟩]
theorem kc_X8_walkForm_0 {u0 : Nat} {u1 : Int32} {u2 : Int32} {u3 : Nat} (hf : mmFetch t pc = some (.invokevirtual j, len, 0 :: 90 :: 5 :: 8 :: ax)) (ho : h[a]? = some c) (hc : c.1 = 8) (hw : mmWords st ≤ 8) (hm : Ev mmPT tbX8_walkForm 0 [some (.ref a), some (.ref u0), some (.int u1), some (.int u2), some (.ref u3), none, none, none] [] h (none, h1)) (kk : Ev mmPT t (pc + 3) lv st h1 x) : Ev mmPT t pc lv (.ref u3 :: .int u2 :: .int u1 :: .ref u0 :: .ref a :: st) h x := by
  refine Ev.call (M := mX8_walkForm) (as := [.ref a, .ref u0, .int u1, .int u2, .ref u3]) (r := st) (v := none) (h' := h1) (Or.inl rfl) hf ?_ hm kk
  unfold mmCall
  dsimp only
  rw [show mmPT[90]? = some mX8_walkForm from rfl]
  dsimp only
  rw [if_pos ⟨rfl, hw, Nat.le_of_ble_eq_true rfl⟩, if_neg (by decide)]
  simp only [List.take_succ_cons, List.take_zero, List.reverse_cons, List.reverse_nil, List.nil_append, List.cons_append, List.drop_succ_cons, List.drop_zero, ho]
  rw [if_pos ⟨hc, by decide⟩]
theorem kc_X10_allLines_0 {r : Int32} (hf : mmFetch t pc = some (.invokevirtual j, len, 0 :: 105 :: 1 :: 10 :: ax)) (ho : h[a]? = some c) (hc : c.1 = 10) (hw : mmWords st ≤ 8) (hm : Ev mmPT tbX10_allLines 0 [some (.ref a), none, none] [] h (some (.int r), h1)) (kk : Ev mmPT t (pc + 3) lv (.int r :: st) h1 x) : Ev mmPT t pc lv (.ref a :: st) h x := by
  refine Ev.call (M := mX10_allLines) (as := [.ref a]) (r := st) (v := some (.int r)) (h' := h1) (Or.inl rfl) hf ?_ hm kk
  unfold mmCall
  dsimp only
  rw [show mmPT[105]? = some mX10_allLines from rfl]
  dsimp only
  rw [if_pos ⟨rfl, hw, Nat.le_of_ble_eq_true rfl⟩, if_neg (by decide)]
  simp only [List.take_succ_cons, List.take_zero, List.reverse_cons, List.reverse_nil, List.nil_append, List.cons_append, List.drop_succ_cons, List.drop_zero, ho]
  rw [if_pos ⟨hc, by decide⟩]
theorem kc_X3_allIn_0 {u0 : Nat} {r : Int32} (hf : mmFetch t pc = some (.invokevirtual j, len, 0 :: 39 :: 2 :: 3 :: ax)) (ho : h[a]? = some c) (hc : c.1 = 3) (hw : mmWords st ≤ 8) (hm : Ev mmPT tbX3_allIn 0 [some (.ref a), some (.ref u0), none, none] [] h (some (.int r), h1)) (kk : Ev mmPT t (pc + 3) lv (.int r :: st) h1 x) : Ev mmPT t pc lv (.ref u0 :: .ref a :: st) h x := by
  refine Ev.call (M := mX3_allIn) (as := [.ref a, .ref u0]) (r := st) (v := some (.int r)) (h' := h1) (Or.inl rfl) hf ?_ hm kk
  unfold mmCall
  dsimp only
  rw [show mmPT[39]? = some mX3_allIn from rfl]
  dsimp only
  rw [if_pos ⟨rfl, hw, Nat.le_of_ble_eq_true rfl⟩, if_neg (by decide)]
  simp only [List.take_succ_cons, List.take_zero, List.reverse_cons, List.reverse_nil, List.nil_append, List.cons_append, List.drop_succ_cons, List.drop_zero, ho]
  rw [if_pos ⟨hc, by decide⟩]
theorem kc_X3_allPhis_0 {r : Int32} (hf : mmFetch t pc = some (.invokevirtual j, len, 0 :: 40 :: 1 :: 3 :: ax)) (ho : h[a]? = some c) (hc : c.1 = 3) (hw : mmWords st ≤ 8) (hm : Ev mmPT tbX3_allPhis 0 [some (.ref a), none, none] [] h (some (.int r), h1)) (kk : Ev mmPT t (pc + 3) lv (.int r :: st) h1 x) : Ev mmPT t pc lv (.ref a :: st) h x := by
  refine Ev.call (M := mX3_allPhis) (as := [.ref a]) (r := st) (v := some (.int r)) (h' := h1) (Or.inl rfl) hf ?_ hm kk
  unfold mmCall
  dsimp only
  rw [show mmPT[40]? = some mX3_allPhis from rfl]
  dsimp only
  rw [if_pos ⟨rfl, hw, Nat.le_of_ble_eq_true rfl⟩, if_neg (by decide)]
  simp only [List.take_succ_cons, List.take_zero, List.reverse_cons, List.reverse_nil, List.nil_append, List.cons_append, List.drop_succ_cons, List.drop_zero, ho]
  rw [if_pos ⟨hc, by decide⟩]
theorem kc_X11_manyOfForm_0 {u0 : Int32} {r : Int32} (hf : mmFetch t pc = some (.invokevirtual j, len, 0 :: 143 :: 2 :: 11 :: ax)) (ho : h[a]? = some c) (hc : c.1 = 11) (hw : mmWords st ≤ 8) (hm : Ev mmPT tbX11_manyOfForm 0 [some (.ref a), some (.int u0)] [] h (some (.int r), h1)) (kk : Ev mmPT t (pc + 3) lv (.int r :: st) h1 x) : Ev mmPT t pc lv (.int u0 :: .ref a :: st) h x := by
  refine Ev.call (M := mX11_manyOfForm) (as := [.ref a, .int u0]) (r := st) (v := some (.int r)) (h' := h1) (Or.inl rfl) hf ?_ hm kk
  unfold mmCall
  dsimp only
  rw [show mmPT[143]? = some mX11_manyOfForm from rfl]
  dsimp only
  rw [if_pos ⟨rfl, hw, Nat.le_of_ble_eq_true rfl⟩, if_neg (by decide)]
  simp only [List.take_succ_cons, List.take_zero, List.reverse_cons, List.reverse_nil, List.nil_append, List.cons_append, List.drop_succ_cons, List.drop_zero, ho]
  rw [if_pos ⟨hc, by decide⟩]
theorem kc_X3_take_0 {u0 : Nat} (hf : mmFetch t pc = some (.invokevirtual j, len, 0 :: 30 :: 2 :: 3 :: ax)) (ho : h[a]? = some c) (hc : c.1 = 3) (hw : mmWords st ≤ 8) (hm : Ev mmPT tbX3_take 0 [some (.ref a), some (.ref u0)] [] h (none, h1)) (kk : Ev mmPT t (pc + 3) lv st h1 x) : Ev mmPT t pc lv (.ref u0 :: .ref a :: st) h x := by
  refine Ev.call (M := mX3_take) (as := [.ref a, .ref u0]) (r := st) (v := none) (h' := h1) (Or.inl rfl) hf ?_ hm kk
  unfold mmCall
  dsimp only
  rw [show mmPT[30]? = some mX3_take from rfl]
  dsimp only
  rw [if_pos ⟨rfl, hw, Nat.le_of_ble_eq_true rfl⟩, if_neg (by decide)]
  simp only [List.take_succ_cons, List.take_zero, List.reverse_cons, List.reverse_nil, List.nil_append, List.cons_append, List.drop_succ_cons, List.drop_zero, ho]
  rw [if_pos ⟨hc, by decide⟩]
theorem kc_X11_passBehind_2 {u0 : Int32} {r : Int32} (hf : mmFetch t pc = some (.invokestatic j, len, 2 :: 144 :: 1 :: 11 :: ax)) (hw : mmWords st ≤ 8) (hm : Ev mmPT tbX11_passBehind 0 [some (.int u0)] [] h (some (.int r), h1)) (kk : Ev mmPT t (pc + 3) lv (.int r :: st) h1 x) : Ev mmPT t pc lv (.int u0 :: st) h x := by
  refine Ev.call (M := mX11_passBehind) (as := [.int u0]) (r := st) (v := some (.int r)) (h' := h1) (Or.inr (Or.inl ⟨rfl, len4⟩)) hf ?_ hm kk
  unfold mmCall
  dsimp only
  rw [show mmPT[144]? = some mX11_passBehind from rfl]
  dsimp only
  rw [if_pos ⟨rfl, hw, Nat.le_of_ble_eq_true rfl⟩, if_pos (by decide)]
  rfl
theorem kc_X9_isLike_0 {u0 : Nat} {r : Int32} (hf : mmFetch t pc = some (.invokevirtual j, len, 0 :: 99 :: 2 :: 9 :: ax)) (ho : h[a]? = some c) (hc : c.1 = 9) (hw : mmWords st ≤ 8) (hm : Ev mmPT tbX9_isLike 0 [some (.ref a), some (.ref u0), none, none] [] h (some (.int r), h1)) (kk : Ev mmPT t (pc + 3) lv (.int r :: st) h1 x) : Ev mmPT t pc lv (.ref u0 :: .ref a :: st) h x := by
  refine Ev.call (M := mX9_isLike) (as := [.ref a, .ref u0]) (r := st) (v := some (.int r)) (h' := h1) (Or.inl rfl) hf ?_ hm kk
  unfold mmCall
  dsimp only
  rw [show mmPT[99]? = some mX9_isLike from rfl]
  dsimp only
  rw [if_pos ⟨rfl, hw, Nat.le_of_ble_eq_true rfl⟩, if_neg (by decide)]
  simp only [List.take_succ_cons, List.take_zero, List.reverse_cons, List.reverse_nil, List.nil_append, List.cons_append, List.drop_succ_cons, List.drop_zero, ho]
  rw [if_pos ⟨hc, by decide⟩]
theorem kc_X11_ofBlock_0 {u0 : Int32} {u1 : Int32} {r : Int32} (hf : mmFetch t pc = some (.invokevirtual j, len, 0 :: 114 :: 3 :: 11 :: ax)) (ho : h[a]? = some c) (hc : c.1 = 11) (hw : mmWords st ≤ 8) (hm : Ev mmPT tbX11_ofBlock 0 [some (.ref a), some (.int u0), some (.int u1), none] [] h (some (.int r), h1)) (kk : Ev mmPT t (pc + 3) lv (.int r :: st) h1 x) : Ev mmPT t pc lv (.int u1 :: .int u0 :: .ref a :: st) h x := by
  refine Ev.call (M := mX11_ofBlock) (as := [.ref a, .int u0, .int u1]) (r := st) (v := some (.int r)) (h' := h1) (Or.inl rfl) hf ?_ hm kk
  unfold mmCall
  dsimp only
  rw [show mmPT[114]? = some mX11_ofBlock from rfl]
  dsimp only
  rw [if_pos ⟨rfl, hw, Nat.le_of_ble_eq_true rfl⟩, if_neg (by decide)]
  simp only [List.take_succ_cons, List.take_zero, List.reverse_cons, List.reverse_nil, List.nil_append, List.cons_append, List.drop_succ_cons, List.drop_zero, ho]
  rw [if_pos ⟨hc, by decide⟩]
theorem kc_X11_mixed_2 {u0 : Int64} {u1 : Int64} {r : Int64} (hf : mmFetch t pc = some (.invokestatic j, len, 2 :: 146 :: 2 :: 11 :: ax)) (hw : mmWords st ≤ 8) (hm : Ev mmPT tbX11_mixed 0 [some (.long u0), none, some (.long u1), none] [] h (some (.long r), h1)) (kk : Ev mmPT t (pc + 3) lv (.long r :: st) h1 x) : Ev mmPT t pc lv (.long u1 :: .long u0 :: st) h x := by
  refine Ev.call (M := mX11_mixed) (as := [.long u0, .long u1]) (r := st) (v := some (.long r)) (h' := h1) (Or.inr (Or.inl ⟨rfl, len4⟩)) hf ?_ hm kk
  unfold mmCall
  dsimp only
  rw [show mmPT[146]? = some mX11_mixed from rfl]
  dsimp only
  rw [if_pos ⟨rfl, hw, Nat.le_of_ble_eq_true rfl⟩, if_pos (by decide)]
  rfl
theorem kc_X11_mixedWithBlocks_0 {u0 : Int64} {r : Int64} (hf : mmFetch t pc = some (.invokevirtual j, len, 0 :: 147 :: 2 :: 11 :: ax)) (ho : h[a]? = some c) (hc : c.1 = 11) (hw : mmWords st ≤ 8) (hm : Ev mmPT tbX11_mixedWithBlocks 0 [some (.ref a), some (.long u0), none, none, none, none, none] [] h (some (.long r), h1)) (kk : Ev mmPT t (pc + 3) lv (.long r :: st) h1 x) : Ev mmPT t pc lv (.long u0 :: .ref a :: st) h x := by
  refine Ev.call (M := mX11_mixedWithBlocks) (as := [.ref a, .long u0]) (r := st) (v := some (.long r)) (h' := h1) (Or.inl rfl) hf ?_ hm kk
  unfold mmCall
  dsimp only
  rw [show mmPT[147]? = some mX11_mixedWithBlocks from rfl]
  dsimp only
  rw [if_pos ⟨rfl, hw, Nat.le_of_ble_eq_true rfl⟩, if_neg (by decide)]
  simp only [List.take_succ_cons, List.take_zero, List.reverse_cons, List.reverse_nil, List.nil_append, List.cons_append, List.drop_succ_cons, List.drop_zero, ho]
  rw [if_pos ⟨hc, by decide⟩]
theorem kc_X11_ofRun_0 {u0 : Int32} {r : Int32} (hf : mmFetch t pc = some (.invokevirtual j, len, 0 :: 125 :: 2 :: 11 :: ax)) (ho : h[a]? = some c) (hc : c.1 = 11) (hw : mmWords st ≤ 8) (hm : Ev mmPT tbX11_ofRun 0 [some (.ref a), some (.int u0)] [] h (some (.int r), h1)) (kk : Ev mmPT t (pc + 3) lv (.int r :: st) h1 x) : Ev mmPT t pc lv (.int u0 :: .ref a :: st) h x := by
  refine Ev.call (M := mX11_ofRun) (as := [.ref a, .int u0]) (r := st) (v := some (.int r)) (h' := h1) (Or.inl rfl) hf ?_ hm kk
  unfold mmCall
  dsimp only
  rw [show mmPT[125]? = some mX11_ofRun from rfl]
  dsimp only
  rw [if_pos ⟨rfl, hw, Nat.le_of_ble_eq_true rfl⟩, if_neg (by decide)]
  simp only [List.take_succ_cons, List.take_zero, List.reverse_cons, List.reverse_nil, List.nil_append, List.cons_append, List.drop_succ_cons, List.drop_zero, ho]
  rw [if_pos ⟨hc, by decide⟩]
theorem kc_X11_printed_0 {u0 : Int32} {r : Int32} (hf : mmFetch t pc = some (.invokevirtual j, len, 0 :: 126 :: 2 :: 11 :: ax)) (ho : h[a]? = some c) (hc : c.1 = 11) (hw : mmWords st ≤ 8) (hm : Ev mmPT tbX11_printed 0 [some (.ref a), some (.int u0)] [] h (some (.int r), h1)) (kk : Ev mmPT t (pc + 3) lv (.int r :: st) h1 x) : Ev mmPT t pc lv (.int u0 :: .ref a :: st) h x := by
  refine Ev.call (M := mX11_printed) (as := [.ref a, .int u0]) (r := st) (v := some (.int r)) (h' := h1) (Or.inl rfl) hf ?_ hm kk
  unfold mmCall
  dsimp only
  rw [show mmPT[126]? = some mX11_printed from rfl]
  dsimp only
  rw [if_pos ⟨rfl, hw, Nat.le_of_ble_eq_true rfl⟩, if_neg (by decide)]
  simp only [List.take_succ_cons, List.take_zero, List.reverse_cons, List.reverse_nil, List.nil_append, List.cons_append, List.drop_succ_cons, List.drop_zero, ho]
  rw [if_pos ⟨hc, by decide⟩]
theorem kc_X11_cell_0 {u0 : Int32} {r : Int32} (hf : mmFetch t pc = some (.invokevirtual j, len, 0 :: 127 :: 2 :: 11 :: ax)) (ho : h[a]? = some c) (hc : c.1 = 11) (hw : mmWords st ≤ 8) (hm : Ev mmPT tbX11_cell 0 [some (.ref a), some (.int u0)] [] h (some (.int r), h1)) (kk : Ev mmPT t (pc + 3) lv (.int r :: st) h1 x) : Ev mmPT t pc lv (.int u0 :: .ref a :: st) h x := by
  refine Ev.call (M := mX11_cell) (as := [.ref a, .int u0]) (r := st) (v := some (.int r)) (h' := h1) (Or.inl rfl) hf ?_ hm kk
  unfold mmCall
  dsimp only
  rw [show mmPT[127]? = some mX11_cell from rfl]
  dsimp only
  rw [if_pos ⟨rfl, hw, Nat.le_of_ble_eq_true rfl⟩, if_neg (by decide)]
  simp only [List.take_succ_cons, List.take_zero, List.reverse_cons, List.reverse_nil, List.nil_append, List.cons_append, List.drop_succ_cons, List.drop_zero, ho]
  rw [if_pos ⟨hc, by decide⟩]
theorem kc_X11_mixedWithRun_0 {u0 : Int64} {r : Int64} (hf : mmFetch t pc = some (.invokevirtual j, len, 0 :: 148 :: 2 :: 11 :: ax)) (ho : h[a]? = some c) (hc : c.1 = 11) (hw : mmWords st ≤ 8) (hm : Ev mmPT tbX11_mixedWithRun 0 [some (.ref a), some (.long u0), none, none, none, none] [] h (some (.long r), h1)) (kk : Ev mmPT t (pc + 3) lv (.long r :: st) h1 x) : Ev mmPT t pc lv (.long u0 :: .ref a :: st) h x := by
  refine Ev.call (M := mX11_mixedWithRun) (as := [.ref a, .long u0]) (r := st) (v := some (.long r)) (h' := h1) (Or.inl rfl) hf ?_ hm kk
  unfold mmCall
  dsimp only
  rw [show mmPT[148]? = some mX11_mixedWithRun from rfl]
  dsimp only
  rw [if_pos ⟨rfl, hw, Nat.le_of_ble_eq_true rfl⟩, if_neg (by decide)]
  simp only [List.take_succ_cons, List.take_zero, List.reverse_cons, List.reverse_nil, List.nil_append, List.cons_append, List.drop_succ_cons, List.drop_zero, ho]
  rw [if_pos ⟨hc, by decide⟩]
theorem kc_X11_many_0 {u0 : Int32} {r : Int32} (hf : mmFetch t pc = some (.invokevirtual j, len, 0 :: 128 :: 2 :: 11 :: ax)) (ho : h[a]? = some c) (hc : c.1 = 11) (hw : mmWords st ≤ 8) (hm : Ev mmPT tbX11_many 0 [some (.ref a), some (.int u0)] [] h (some (.int r), h1)) (kk : Ev mmPT t (pc + 3) lv (.int r :: st) h1 x) : Ev mmPT t pc lv (.int u0 :: .ref a :: st) h x := by
  refine Ev.call (M := mX11_many) (as := [.ref a, .int u0]) (r := st) (v := some (.int r)) (h' := h1) (Or.inl rfl) hf ?_ hm kk
  unfold mmCall
  dsimp only
  rw [show mmPT[128]? = some mX11_many from rfl]
  dsimp only
  rw [if_pos ⟨rfl, hw, Nat.le_of_ble_eq_true rfl⟩, if_neg (by decide)]
  simp only [List.take_succ_cons, List.take_zero, List.reverse_cons, List.reverse_nil, List.nil_append, List.cons_append, List.drop_succ_cons, List.drop_zero, ho]
  rw [if_pos ⟨hc, by decide⟩]
theorem kc_X11_ofPlace_0 {u0 : Int32} {u1 : Int32} {r : Int32} (hf : mmFetch t pc = some (.invokevirtual j, len, 0 :: 117 :: 3 :: 11 :: ax)) (ho : h[a]? = some c) (hc : c.1 = 11) (hw : mmWords st ≤ 8) (hm : Ev mmPT tbX11_ofPlace 0 [some (.ref a), some (.int u0), some (.int u1), none] [] h (some (.int r), h1)) (kk : Ev mmPT t (pc + 3) lv (.int r :: st) h1 x) : Ev mmPT t pc lv (.int u1 :: .int u0 :: .ref a :: st) h x := by
  refine Ev.call (M := mX11_ofPlace) (as := [.ref a, .int u0, .int u1]) (r := st) (v := some (.int r)) (h' := h1) (Or.inl rfl) hf ?_ hm kk
  unfold mmCall
  dsimp only
  rw [show mmPT[117]? = some mX11_ofPlace from rfl]
  dsimp only
  rw [if_pos ⟨rfl, hw, Nat.le_of_ble_eq_true rfl⟩, if_neg (by decide)]
  simp only [List.take_succ_cons, List.take_zero, List.reverse_cons, List.reverse_nil, List.nil_append, List.cons_append, List.drop_succ_cons, List.drop_zero, ho]
  rw [if_pos ⟨hc, by decide⟩]
theorem kc_X11_fromOf_2 {u0 : Int32} {r : Int32} (hf : mmFetch t pc = some (.invokestatic j, len, 2 :: 156 :: 1 :: 11 :: ax)) (hw : mmWords st ≤ 8) (hm : Ev mmPT tbX11_fromOf 0 [some (.int u0)] [] h (some (.int r), h1)) (kk : Ev mmPT t (pc + 3) lv (.int r :: st) h1 x) : Ev mmPT t pc lv (.int u0 :: st) h x := by
  refine Ev.call (M := mX11_fromOf) (as := [.int u0]) (r := st) (v := some (.int r)) (h' := h1) (Or.inr (Or.inl ⟨rfl, len4⟩)) hf ?_ hm kk
  unfold mmCall
  dsimp only
  rw [show mmPT[156]? = some mX11_fromOf from rfl]
  dsimp only
  rw [if_pos ⟨rfl, hw, Nat.le_of_ble_eq_true rfl⟩, if_pos (by decide)]
  rfl
theorem kc_X11_edge_0 {u0 : Int32} {u1 : Int32} {r : Int32} (hf : mmFetch t pc = some (.invokevirtual j, len, 0 :: 119 :: 3 :: 11 :: ax)) (ho : h[a]? = some c) (hc : c.1 = 11) (hw : mmWords st ≤ 8) (hm : Ev mmPT tbX11_edge 0 [some (.ref a), some (.int u0), some (.int u1)] [] h (some (.int r), h1)) (kk : Ev mmPT t (pc + 3) lv (.int r :: st) h1 x) : Ev mmPT t pc lv (.int u1 :: .int u0 :: .ref a :: st) h x := by
  refine Ev.call (M := mX11_edge) (as := [.ref a, .int u0, .int u1]) (r := st) (v := some (.int r)) (h' := h1) (Or.inl rfl) hf ?_ hm kk
  unfold mmCall
  dsimp only
  rw [show mmPT[119]? = some mX11_edge from rfl]
  dsimp only
  rw [if_pos ⟨rfl, hw, Nat.le_of_ble_eq_true rfl⟩, if_neg (by decide)]
  simp only [List.take_succ_cons, List.take_zero, List.reverse_cons, List.reverse_nil, List.nil_append, List.cons_append, List.drop_succ_cons, List.drop_zero, ho]
  rw [if_pos ⟨hc, by decide⟩]
theorem kc_X11_valueAt_0 {u0 : Int32} {u1 : Int32} {r : Int32} (hf : mmFetch t pc = some (.invokevirtual j, len, 0 :: 118 :: 3 :: 11 :: ax)) (ho : h[a]? = some c) (hc : c.1 = 11) (hw : mmWords st ≤ 8) (hm : Ev mmPT tbX11_valueAt 0 [some (.ref a), some (.int u0), some (.int u1)] [] h (some (.int r), h1)) (kk : Ev mmPT t (pc + 3) lv (.int r :: st) h1 x) : Ev mmPT t pc lv (.int u1 :: .int u0 :: .ref a :: st) h x := by
  refine Ev.call (M := mX11_valueAt) (as := [.ref a, .int u0, .int u1]) (r := st) (v := some (.int r)) (h' := h1) (Or.inl rfl) hf ?_ hm kk
  unfold mmCall
  dsimp only
  rw [show mmPT[118]? = some mX11_valueAt from rfl]
  dsimp only
  rw [if_pos ⟨rfl, hw, Nat.le_of_ble_eq_true rfl⟩, if_neg (by decide)]
  simp only [List.take_succ_cons, List.take_zero, List.reverse_cons, List.reverse_nil, List.nil_append, List.cons_append, List.drop_succ_cons, List.drop_zero, ho]
  rw [if_pos ⟨hc, by decide⟩]
theorem kc_X11_mixedWithPlace_0 {u0 : Int64} {u1 : Int32} {r : Int64} (hf : mmFetch t pc = some (.invokevirtual j, len, 0 :: 149 :: 3 :: 11 :: ax)) (ho : h[a]? = some c) (hc : c.1 = 11) (hw : mmWords st ≤ 8) (hm : Ev mmPT tbX11_mixedWithPlace 0 [some (.ref a), some (.long u0), none, some (.int u1), none, none, none] [] h (some (.long r), h1)) (kk : Ev mmPT t (pc + 3) lv (.long r :: st) h1 x) : Ev mmPT t pc lv (.int u1 :: .long u0 :: .ref a :: st) h x := by
  refine Ev.call (M := mX11_mixedWithPlace) (as := [.ref a, .long u0, .int u1]) (r := st) (v := some (.long r)) (h' := h1) (Or.inl rfl) hf ?_ hm kk
  unfold mmCall
  dsimp only
  rw [show mmPT[149]? = some mX11_mixedWithPlace from rfl]
  dsimp only
  rw [if_pos ⟨rfl, hw, Nat.le_of_ble_eq_true rfl⟩, if_neg (by decide)]
  simp only [List.take_succ_cons, List.take_zero, List.reverse_cons, List.reverse_nil, List.nil_append, List.cons_append, List.drop_succ_cons, List.drop_zero, ho]
  rw [if_pos ⟨hc, by decide⟩]
theorem kc_X11_ofValue_0 {u0 : Int32} {u1 : Int32} {r : Int32} (hf : mmFetch t pc = some (.invokevirtual j, len, 0 :: 120 :: 3 :: 11 :: ax)) (ho : h[a]? = some c) (hc : c.1 = 11) (hw : mmWords st ≤ 8) (hm : Ev mmPT tbX11_ofValue 0 [some (.ref a), some (.int u0), some (.int u1)] [] h (some (.int r), h1)) (kk : Ev mmPT t (pc + 3) lv (.int r :: st) h1 x) : Ev mmPT t pc lv (.int u1 :: .int u0 :: .ref a :: st) h x := by
  refine Ev.call (M := mX11_ofValue) (as := [.ref a, .int u0, .int u1]) (r := st) (v := some (.int r)) (h' := h1) (Or.inl rfl) hf ?_ hm kk
  unfold mmCall
  dsimp only
  rw [show mmPT[120]? = some mX11_ofValue from rfl]
  dsimp only
  rw [if_pos ⟨rfl, hw, Nat.le_of_ble_eq_true rfl⟩, if_neg (by decide)]
  simp only [List.take_succ_cons, List.take_zero, List.reverse_cons, List.reverse_nil, List.nil_append, List.cons_append, List.drop_succ_cons, List.drop_zero, ho]
  rw [if_pos ⟨hc, by decide⟩]
theorem kc_X11_argument_0 {u0 : Int32} {u1 : Int32} {r : Int32} (hf : mmFetch t pc = some (.invokevirtual j, len, 0 :: 121 :: 3 :: 11 :: ax)) (ho : h[a]? = some c) (hc : c.1 = 11) (hw : mmWords st ≤ 8) (hm : Ev mmPT tbX11_argument 0 [some (.ref a), some (.int u0), some (.int u1)] [] h (some (.int r), h1)) (kk : Ev mmPT t (pc + 3) lv (.int r :: st) h1 x) : Ev mmPT t pc lv (.int u1 :: .int u0 :: .ref a :: st) h x := by
  refine Ev.call (M := mX11_argument) (as := [.ref a, .int u0, .int u1]) (r := st) (v := some (.int r)) (h' := h1) (Or.inl rfl) hf ?_ hm kk
  unfold mmCall
  dsimp only
  rw [show mmPT[121]? = some mX11_argument from rfl]
  dsimp only
  rw [if_pos ⟨rfl, hw, Nat.le_of_ble_eq_true rfl⟩, if_neg (by decide)]
  simp only [List.take_succ_cons, List.take_zero, List.reverse_cons, List.reverse_nil, List.nil_append, List.cons_append, List.drop_succ_cons, List.drop_zero, ho]
  rw [if_pos ⟨hc, by decide⟩]
theorem kc_X11_number_0 {u0 : Int32} {u1 : Int32} {r : Int32} (hf : mmFetch t pc = some (.invokevirtual j, len, 0 :: 122 :: 3 :: 11 :: ax)) (ho : h[a]? = some c) (hc : c.1 = 11) (hw : mmWords st ≤ 8) (hm : Ev mmPT tbX11_number 0 [some (.ref a), some (.int u0), some (.int u1)] [] h (some (.int r), h1)) (kk : Ev mmPT t (pc + 3) lv (.int r :: st) h1 x) : Ev mmPT t pc lv (.int u1 :: .int u0 :: .ref a :: st) h x := by
  refine Ev.call (M := mX11_number) (as := [.ref a, .int u0, .int u1]) (r := st) (v := some (.int r)) (h' := h1) (Or.inl rfl) hf ?_ hm kk
  unfold mmCall
  dsimp only
  rw [show mmPT[122]? = some mX11_number from rfl]
  dsimp only
  rw [if_pos ⟨rfl, hw, Nat.le_of_ble_eq_true rfl⟩, if_neg (by decide)]
  simp only [List.take_succ_cons, List.take_zero, List.reverse_cons, List.reverse_nil, List.nil_append, List.cons_append, List.drop_succ_cons, List.drop_zero, ho]
  rw [if_pos ⟨hc, by decide⟩]
theorem kc_X11_mixedWithValue_0 {u0 : Int64} {u1 : Int32} {r : Int64} (hf : mmFetch t pc = some (.invokevirtual j, len, 0 :: 150 :: 3 :: 11 :: ax)) (ho : h[a]? = some c) (hc : c.1 = 11) (hw : mmWords st ≤ 8) (hm : Ev mmPT tbX11_mixedWithValue 0 [some (.ref a), some (.long u0), none, some (.int u1), none, none, none] [] h (some (.long r), h1)) (kk : Ev mmPT t (pc + 3) lv (.long r :: st) h1 x) : Ev mmPT t pc lv (.int u1 :: .long u0 :: .ref a :: st) h x := by
  refine Ev.call (M := mX11_mixedWithValue) (as := [.ref a, .long u0, .int u1]) (r := st) (v := some (.long r)) (h' := h1) (Or.inl rfl) hf ?_ hm kk
  unfold mmCall
  dsimp only
  rw [show mmPT[150]? = some mX11_mixedWithValue from rfl]
  dsimp only
  rw [if_pos ⟨rfl, hw, Nat.le_of_ble_eq_true rfl⟩, if_neg (by decide)]
  simp only [List.take_succ_cons, List.take_zero, List.reverse_cons, List.reverse_nil, List.nil_append, List.cons_append, List.drop_succ_cons, List.drop_zero, ho]
  rw [if_pos ⟨hc, by decide⟩]
theorem kc_X11_wouldCost_0 {u0 : Int32} {u1 : Int32} {u2 : Int32} {r : Int32} (hf : mmFetch t pc = some (.invokevirtual j, len, 0 :: 130 :: 4 :: 11 :: ax)) (ho : h[a]? = some c) (hc : c.1 = 11) (hw : mmWords st ≤ 8) (hm : Ev mmPT tbX11_wouldCost 0 [some (.ref a), some (.int u0), some (.int u1), some (.int u2), none] [] h (some (.int r), h1)) (kk : Ev mmPT t (pc + 3) lv (.int r :: st) h1 x) : Ev mmPT t pc lv (.int u2 :: .int u1 :: .int u0 :: .ref a :: st) h x := by
  refine Ev.call (M := mX11_wouldCost) (as := [.ref a, .int u0, .int u1, .int u2]) (r := st) (v := some (.int r)) (h' := h1) (Or.inl rfl) hf ?_ hm kk
  unfold mmCall
  dsimp only
  rw [show mmPT[130]? = some mX11_wouldCost from rfl]
  dsimp only
  rw [if_pos ⟨rfl, hw, Nat.le_of_ble_eq_true rfl⟩, if_neg (by decide)]
  simp only [List.take_succ_cons, List.take_zero, List.reverse_cons, List.reverse_nil, List.nil_append, List.cons_append, List.drop_succ_cons, List.drop_zero, ho]
  rw [if_pos ⟨hc, by decide⟩]
theorem kc_X11_wouldGo_0 {u0 : Int32} {r : Int32} (hf : mmFetch t pc = some (.invokevirtual j, len, 0 :: 129 :: 2 :: 11 :: ax)) (ho : h[a]? = some c) (hc : c.1 = 11) (hw : mmWords st ≤ 8) (hm : Ev mmPT tbX11_wouldGo 0 [some (.ref a), some (.int u0)] [] h (some (.int r), h1)) (kk : Ev mmPT t (pc + 3) lv (.int r :: st) h1 x) : Ev mmPT t pc lv (.int u0 :: .ref a :: st) h x := by
  refine Ev.call (M := mX11_wouldGo) (as := [.ref a, .int u0]) (r := st) (v := some (.int r)) (h' := h1) (Or.inl rfl) hf ?_ hm kk
  unfold mmCall
  dsimp only
  rw [show mmPT[129]? = some mX11_wouldGo from rfl]
  dsimp only
  rw [if_pos ⟨rfl, hw, Nat.le_of_ble_eq_true rfl⟩, if_neg (by decide)]
  simp only [List.take_succ_cons, List.take_zero, List.reverse_cons, List.reverse_nil, List.nil_append, List.cons_append, List.drop_succ_cons, List.drop_zero, ho]
  rw [if_pos ⟨hc, by decide⟩]
theorem kc_L_below_2 {u0 : Int32} {u1 : Int32} {r : Int32} (hf : mmFetch t pc = some (.invokestatic j, len, 2 :: 169 :: 2 :: 0 :: ax)) (hw : mmWords st ≤ 8) (hm : Ev mmPT tbL_below 0 [some (.int u0), some (.int u1)] [] h (some (.int r), h1)) (kk : Ev mmPT t (pc + 3) lv (.int r :: st) h1 x) : Ev mmPT t pc lv (.int u1 :: .int u0 :: st) h x := by
  refine Ev.call (M := mL_below) (as := [.int u0, .int u1]) (r := st) (v := some (.int r)) (h' := h1) (Or.inr (Or.inl ⟨rfl, len4⟩)) hf ?_ hm kk
  unfold mmCall
  dsimp only
  rw [show mmPT[169]? = some mL_below from rfl]
  dsimp only
  rw [if_pos ⟨rfl, hw, Nat.le_of_ble_eq_true rfl⟩, if_pos (by decide)]
  rfl
theorem kc_X11_run_0 {u0 : Int32} {u1 : Int32} {r : Int32} (hf : mmFetch t pc = some (.invokevirtual j, len, 0 :: 123 :: 3 :: 11 :: ax)) (ho : h[a]? = some c) (hc : c.1 = 11) (hw : mmWords st ≤ 8) (hm : Ev mmPT tbX11_run 0 [some (.ref a), some (.int u0), some (.int u1)] [] h (some (.int r), h1)) (kk : Ev mmPT t (pc + 3) lv (.int r :: st) h1 x) : Ev mmPT t pc lv (.int u1 :: .int u0 :: .ref a :: st) h x := by
  refine Ev.call (M := mX11_run) (as := [.ref a, .int u0, .int u1]) (r := st) (v := some (.int r)) (h' := h1) (Or.inl rfl) hf ?_ hm kk
  unfold mmCall
  dsimp only
  rw [show mmPT[123]? = some mX11_run from rfl]
  dsimp only
  rw [if_pos ⟨rfl, hw, Nat.le_of_ble_eq_true rfl⟩, if_neg (by decide)]
  simp only [List.take_succ_cons, List.take_zero, List.reverse_cons, List.reverse_nil, List.nil_append, List.cons_append, List.drop_succ_cons, List.drop_zero, ho]
  rw [if_pos ⟨hc, by decide⟩]
theorem kc_J9_min_7cf53_2 {u0 : Int32} {u1 : Int32} {r : Int32} (hf : mmFetch t pc = some (.invokestatic j, len, 2 :: 167 :: 2 :: 0 :: ax)) (hw : mmWords st ≤ 8) (hm : Ev mmPT tbJ9_min_7cf53 0 [some (.int u0), some (.int u1)] [] h (some (.int r), h1)) (kk : Ev mmPT t (pc + 3) lv (.int r :: st) h1 x) : Ev mmPT t pc lv (.int u1 :: .int u0 :: st) h x := by
  refine Ev.call (M := mJ9_min_7cf53) (as := [.int u0, .int u1]) (r := st) (v := some (.int r)) (h' := h1) (Or.inr (Or.inl ⟨rfl, len4⟩)) hf ?_ hm kk
  unfold mmCall
  dsimp only
  rw [show mmPT[167]? = some mJ9_min_7cf53 from rfl]
  dsimp only
  rw [if_pos ⟨rfl, hw, Nat.le_of_ble_eq_true rfl⟩, if_pos (by decide)]
  rfl
theorem kc_X11_isAlike_0 {u0 : Int32} {u1 : Int32} {r : Int32} (hf : mmFetch t pc = some (.invokevirtual j, len, 0 :: 132 :: 3 :: 11 :: ax)) (ho : h[a]? = some c) (hc : c.1 = 11) (hw : mmWords st ≤ 8) (hm : Ev mmPT tbX11_isAlike 0 [some (.ref a), some (.int u0), some (.int u1)] [] h (some (.int r), h1)) (kk : Ev mmPT t (pc + 3) lv (.int r :: st) h1 x) : Ev mmPT t pc lv (.int u1 :: .int u0 :: .ref a :: st) h x := by
  refine Ev.call (M := mX11_isAlike) (as := [.ref a, .int u0, .int u1]) (r := st) (v := some (.int r)) (h' := h1) (Or.inl rfl) hf ?_ hm kk
  unfold mmCall
  dsimp only
  rw [show mmPT[132]? = some mX11_isAlike from rfl]
  dsimp only
  rw [if_pos ⟨rfl, hw, Nat.le_of_ble_eq_true rfl⟩, if_neg (by decide)]
  simp only [List.take_succ_cons, List.take_zero, List.reverse_cons, List.reverse_nil, List.nil_append, List.cons_append, List.drop_succ_cons, List.drop_zero, ho]
  rw [if_pos ⟨hc, by decide⟩]
theorem kc_X11_runForm_0 {u0 : Int32} {u1 : Int32} {r : Int32} (hf : mmFetch t pc = some (.invokevirtual j, len, 0 :: 124 :: 3 :: 11 :: ax)) (ho : h[a]? = some c) (hc : c.1 = 11) (hw : mmWords st ≤ 8) (hm : Ev mmPT tbX11_runForm 0 [some (.ref a), some (.int u0), some (.int u1)] [] h (some (.int r), h1)) (kk : Ev mmPT t (pc + 3) lv (.int r :: st) h1 x) : Ev mmPT t pc lv (.int u1 :: .int u0 :: .ref a :: st) h x := by
  refine Ev.call (M := mX11_runForm) (as := [.ref a, .int u0, .int u1]) (r := st) (v := some (.int r)) (h' := h1) (Or.inl rfl) hf ?_ hm kk
  unfold mmCall
  dsimp only
  rw [show mmPT[124]? = some mX11_runForm from rfl]
  dsimp only
  rw [if_pos ⟨rfl, hw, Nat.le_of_ble_eq_true rfl⟩, if_neg (by decide)]
  simp only [List.take_succ_cons, List.take_zero, List.reverse_cons, List.reverse_nil, List.nil_append, List.cons_append, List.drop_succ_cons, List.drop_zero, ho]
  rw [if_pos ⟨hc, by decide⟩]
theorem kc_L_reachedSet_2 {u0 : Nat} {u1 : Int32} {r : Int32} (hf : mmFetch t pc = some (.invokestatic j, len, 2 :: 175 :: 2 :: 0 :: ax)) (hw : mmWords st ≤ 8) (hm : Ev mmPT tbL_reachedSet 0 [some (.ref u0), some (.int u1), none, none] [] h (some (.int r), h1)) (kk : Ev mmPT t (pc + 3) lv (.int r :: st) h1 x) : Ev mmPT t pc lv (.int u1 :: .ref u0 :: st) h x := by
  refine Ev.call (M := mL_reachedSet) (as := [.ref u0, .int u1]) (r := st) (v := some (.int r)) (h' := h1) (Or.inr (Or.inl ⟨rfl, len4⟩)) hf ?_ hm kk
  unfold mmCall
  dsimp only
  rw [show mmPT[175]? = some mL_reachedSet from rfl]
  dsimp only
  rw [if_pos ⟨rfl, hw, Nat.le_of_ble_eq_true rfl⟩, if_pos (by decide)]
  rfl
theorem kc_X11_digest_0 {r : Int64} (hf : mmFetch t pc = some (.invokevirtual j, len, 0 :: 133 :: 1 :: 11 :: ax)) (ho : h[a]? = some c) (hc : c.1 = 11) (hw : mmWords st ≤ 8) (hm : Ev mmPT tbX11_digest 0 [some (.ref a), none, none, none] [] h (some (.long r), h1)) (kk : Ev mmPT t (pc + 3) lv (.long r :: st) h1 x) : Ev mmPT t pc lv (.ref a :: st) h x := by
  refine Ev.call (M := mX11_digest) (as := [.ref a]) (r := st) (v := some (.long r)) (h' := h1) (Or.inl rfl) hf ?_ hm kk
  unfold mmCall
  dsimp only
  rw [show mmPT[133]? = some mX11_digest from rfl]
  dsimp only
  rw [if_pos ⟨rfl, hw, Nat.le_of_ble_eq_true rfl⟩, if_neg (by decide)]
  simp only [List.take_succ_cons, List.take_zero, List.reverse_cons, List.reverse_nil, List.nil_append, List.cons_append, List.drop_succ_cons, List.drop_zero, ho]
  rw [if_pos ⟨hc, by decide⟩]
theorem kc_X11_untilStill_0 {r : Int32} (hf : mmFetch t pc = some (.invokevirtual j, len, 0 :: 131 :: 1 :: 11 :: ax)) (ho : h[a]? = some c) (hc : c.1 = 11) (hw : mmWords st ≤ 8) (hm : Ev mmPT tbX11_untilStill 0 [some (.ref a), none, none] [] h (some (.int r), h1)) (kk : Ev mmPT t (pc + 3) lv (.int r :: st) h1 x) : Ev mmPT t pc lv (.ref a :: st) h x := by
  refine Ev.call (M := mX11_untilStill) (as := [.ref a]) (r := st) (v := some (.int r)) (h' := h1) (Or.inl rfl) hf ?_ hm kk
  unfold mmCall
  dsimp only
  rw [show mmPT[131]? = some mX11_untilStill from rfl]
  dsimp only
  rw [if_pos ⟨rfl, hw, Nat.le_of_ble_eq_true rfl⟩, if_neg (by decide)]
  simp only [List.take_succ_cons, List.take_zero, List.reverse_cons, List.reverse_nil, List.nil_append, List.cons_append, List.drop_succ_cons, List.drop_zero, ho]
  rw [if_pos ⟨hc, by decide⟩]
end CALLS
