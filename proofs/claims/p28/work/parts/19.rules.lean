/-! CALLS of a row's methods -/
section ROWC
variable {t : List mmI} {pc len j o a n : Nat} {f : Nat → Int32} {lv : List (Option Value)} {st : List Value} {h : List mmC} {ax : List Nat} {k y : Int32} {x : Option Value × List mmC}
theorem mmCall_at (ho : h[o]? = some (7, [.ref a])) (hw : mmWords st ≤ 8) : mmCall mmPT (0 :: 82 :: 2 :: 7 :: ax) (.int k :: .ref o :: st) h = some (mX7_at, [.ref o, .int k], st) := by
  unfold mmCall
  dsimp only
  rw [show mmPT[82]? = some mX7_at from rfl]
  dsimp only
  rw [if_pos ⟨rfl, hw, Nat.le_of_ble_eq_true rfl⟩, if_neg (by decide)]
  simp only [List.take_succ_cons, List.take_zero, List.reverse_cons, List.reverse_nil, List.nil_append, List.cons_append, List.drop_succ_cons, List.drop_zero, ho]
  rfl
theorem Ev.cat (hf : mmFetch t pc = some (.invokevirtual j, len, 0 :: 82 :: 2 :: 7 :: ax)) (ho : h[o]? = some (7, [.ref a])) (ha : h[a]? = some (1000, mmIR f n)) (hn : n < 2 ^ 31) (hw : mmWords st ≤ 8) (K : Ev mmPT t (pc + 3) lv (.int (rat n f k) :: st) h x) : Ev mmPT t pc lv (.int k :: .ref o :: st) h x :=
  Ev.call (Or.inl rfl) hf (mmCall_at ho hw) (Ev_at ho ha hn) K
theorem mmCall_put (ho : h[o]? = some (7, [.ref a])) (hw : mmWords st ≤ 8) : mmCall mmPT (0 :: 83 :: 3 :: 7 :: ax) (.int y :: .int k :: .ref o :: st) h = some (mX7_put, [.ref o, .int k, .int y], st) := by
  unfold mmCall
  dsimp only
  rw [show mmPT[83]? = some mX7_put from rfl]
  dsimp only
  rw [if_pos ⟨rfl, hw, Nat.le_of_ble_eq_true rfl⟩, if_neg (by decide)]
  simp only [List.take_succ_cons, List.take_zero, List.reverse_cons, List.reverse_nil, List.nil_append, List.cons_append, List.drop_succ_cons, List.drop_zero, ho]
  rfl
theorem Ev.cput (hf : mmFetch t pc = some (.invokevirtual j, len, 0 :: 83 :: 3 :: 7 :: ax)) (ho : h[o]? = some (7, [.ref a])) (ha : h[a]? = some (1000, mmIR f n)) (hn : n < 2 ^ 31) (hro : mmRo ≤ a) (hw : mmWords st ≤ 8) (K : Ev mmPT t (pc + 3) lv st (h.set a (1000, mmIR (rput n f k y) n)) x) : Ev mmPT t pc lv (.int y :: .int k :: .ref o :: st) h x :=
  Ev.call (Or.inl rfl) hf (mmCall_put ho hw) (Ev_put ho ha hn hro) K
end ROWC
/-! RULES for the state: a field read, a field written, a row read, a row written -/
theorem fit_b (b : Bool) : mmFit 1 (.int (b2i b)) = true := by cases b <;> decide
section RUL
variable {sc : mmC} {rest : List mmC} {s : St} {t : List mmI} {pc len j : Nat} {lv : List (Option Value)} {st : List Value} {ax : List Nat} {x : Option Value × List mmC}
theorem gf_1_0 (hf : mmFetch t pc = some (.getfield j, len, 11 :: 0 :: ax)) (K : Ev mmPT t (pc + 3) lv (.ref 2 :: st) (mh sc rest s) x) : Ev mmPT t pc lv (.ref 1 :: st) (mh sc rest s) x := Ev.s hf (mmS_get (ob_1 sc rest s) ⟨rfl, by decide⟩ rfl) K
theorem gf_1_1 (hf : mmFetch t pc = some (.getfield j, len, 11 :: 1 :: ax)) (K : Ev mmPT t (pc + 3) lv (.ref 34 :: st) (mh sc rest s) x) : Ev mmPT t pc lv (.ref 1 :: st) (mh sc rest s) x := Ev.s hf (mmS_get (ob_1 sc rest s) ⟨rfl, by decide⟩ rfl) K
theorem gf_1_2 (hf : mmFetch t pc = some (.getfield j, len, 11 :: 2 :: ax)) (K : Ev mmPT t (pc + 3) lv (.ref 61 :: st) (mh sc rest s) x) : Ev mmPT t pc lv (.ref 1 :: st) (mh sc rest s) x := Ev.s hf (mmS_get (ob_1 sc rest s) ⟨rfl, by decide⟩ rfl) K
theorem gf_1_3 (hf : mmFetch t pc = some (.getfield j, len, 11 :: 3 :: ax)) (K : Ev mmPT t (pc + 3) lv (.ref 88 :: st) (mh sc rest s) x) : Ev mmPT t pc lv (.ref 1 :: st) (mh sc rest s) x := Ev.s hf (mmS_get (ob_1 sc rest s) ⟨rfl, by decide⟩ rfl) K
theorem gf_1_4 (hf : mmFetch t pc = some (.getfield j, len, 11 :: 4 :: ax)) (K : Ev mmPT t (pc + 3) lv (.ref 95 :: st) (mh sc rest s) x) : Ev mmPT t pc lv (.ref 1 :: st) (mh sc rest s) x := Ev.s hf (mmS_get (ob_1 sc rest s) ⟨rfl, by decide⟩ rfl) K
theorem gf_1_5 (hf : mmFetch t pc = some (.getfield j, len, 11 :: 5 :: ax)) (K : Ev mmPT t (pc + 3) lv (.ref 100 :: st) (mh sc rest s) x) : Ev mmPT t pc lv (.ref 1 :: st) (mh sc rest s) x := Ev.s hf (mmS_get (ob_1 sc rest s) ⟨rfl, by decide⟩ rfl) K
theorem gf_1_6 (hf : mmFetch t pc = some (.getfield j, len, 11 :: 6 :: ax)) (K : Ev mmPT t (pc + 3) lv (.ref 110 :: st) (mh sc rest s) x) : Ev mmPT t pc lv (.ref 1 :: st) (mh sc rest s) x := Ev.s hf (mmS_get (ob_1 sc rest s) ⟨rfl, by decide⟩ rfl) K
theorem gf_1_7 (hf : mmFetch t pc = some (.getfield j, len, 11 :: 7 :: ax)) (K : Ev mmPT t (pc + 3) lv (.ref 113 :: st) (mh sc rest s) x) : Ev mmPT t pc lv (.ref 1 :: st) (mh sc rest s) x := Ev.s hf (mmS_get (ob_1 sc rest s) ⟨rfl, by decide⟩ rfl) K
theorem gf_1_8 (hf : mmFetch t pc = some (.getfield j, len, 11 :: 8 :: ax)) (K : Ev mmPT t (pc + 3) lv (.ref 114 :: st) (mh sc rest s) x) : Ev mmPT t pc lv (.ref 1 :: st) (mh sc rest s) x := Ev.s hf (mmS_get (ob_1 sc rest s) ⟨rfl, by decide⟩ rfl) K
theorem gf_1_9 (hf : mmFetch t pc = some (.getfield j, len, 11 :: 9 :: ax)) (K : Ev mmPT t (pc + 3) lv (.ref 121 :: st) (mh sc rest s) x) : Ev mmPT t pc lv (.ref 1 :: st) (mh sc rest s) x := Ev.s hf (mmS_get (ob_1 sc rest s) ⟨rfl, by decide⟩ rfl) K
theorem gf_1_10 (hf : mmFetch t pc = some (.getfield j, len, 11 :: 10 :: ax)) (K : Ev mmPT t (pc + 3) lv (.ref 126 :: st) (mh sc rest s) x) : Ev mmPT t pc lv (.ref 1 :: st) (mh sc rest s) x := Ev.s hf (mmS_get (ob_1 sc rest s) ⟨rfl, by decide⟩ rfl) K
theorem gf_1_11 (hf : mmFetch t pc = some (.getfield j, len, 11 :: 11 :: ax)) (K : Ev mmPT t (pc + 3) lv (.ref 131 :: st) (mh sc rest s) x) : Ev mmPT t pc lv (.ref 1 :: st) (mh sc rest s) x := Ev.s hf (mmS_get (ob_1 sc rest s) ⟨rfl, by decide⟩ rfl) K
theorem gf_1_12 (hf : mmFetch t pc = some (.getfield j, len, 11 :: 12 :: ax)) (K : Ev mmPT t (pc + 3) lv (.int (b2i (s.2.2.1 5)) :: st) (mh sc rest s) x) : Ev mmPT t pc lv (.ref 1 :: st) (mh sc rest s) x := Ev.s hf (mmS_get (ob_1 sc rest s) ⟨rfl, by decide⟩ rfl) K
theorem pf_1_12 {y : Bool} (hf : mmFetch t pc = some (.putfield j, len, 11 :: 12 :: 1 :: ax)) (K : Ev mmPT t (pc + 3) lv st (mh sc rest (sB s 5 y)) x) : Ev mmPT t pc lv (.int (b2i y) :: .ref 1 :: st) (mh sc rest s) x := by
  refine Ev.s hf (mmS_put (ob_1 sc rest s) ⟨rfl, by decide, Nat.le_of_ble_eq_true rfl, fit_b y, by decide⟩) ?_
  rw [os_1_12]
  exact K
theorem gf_1_13 (hf : mmFetch t pc = some (.getfield j, len, 11 :: 13 :: ax)) (K : Ev mmPT t (pc + 3) lv (.int (s.2.1 32) :: st) (mh sc rest s) x) : Ev mmPT t pc lv (.ref 1 :: st) (mh sc rest s) x := Ev.s hf (mmS_get (ob_1 sc rest s) ⟨rfl, by decide⟩ rfl) K
theorem pf_1_13 {y : Int32} (hf : mmFetch t pc = some (.putfield j, len, 11 :: 13 :: 0 :: ax)) (K : Ev mmPT t (pc + 3) lv st (mh sc rest (sG s 32 y)) x) : Ev mmPT t pc lv (.int y :: .ref 1 :: st) (mh sc rest s) x := by
  refine Ev.s hf (mmS_put (ob_1 sc rest s) ⟨rfl, by decide, Nat.le_of_ble_eq_true rfl, rfl, by decide⟩) ?_
  rw [os_1_13]
  exact K
theorem gf_1_14 (hf : mmFetch t pc = some (.getfield j, len, 11 :: 14 :: ax)) (K : Ev mmPT t (pc + 3) lv (.long s.2.2.2 :: st) (mh sc rest s) x) : Ev mmPT t pc lv (.ref 1 :: st) (mh sc rest s) x := Ev.s hf (mmS_get (ob_1 sc rest s) ⟨rfl, by decide⟩ rfl) K
theorem pf_1_14 {y : Int64} (hf : mmFetch t pc = some (.putfield j, len, 11 :: 14 :: 2 :: ax)) (K : Ev mmPT t (pc + 3) lv st (mh sc rest (sC s y)) x) : Ev mmPT t pc lv (.long y :: .ref 1 :: st) (mh sc rest s) x := by
  refine Ev.s hf (mmS_put (ob_1 sc rest s) ⟨rfl, by decide, Nat.le_of_ble_eq_true rfl, rfl, by decide⟩) ?_
  rw [os_1_14]
  exact K
theorem gf_2_0 (hf : mmFetch t pc = some (.getfield j, len, 10 :: 0 :: ax)) (K : Ev mmPT t (pc + 3) lv (.ref 3 :: st) (mh sc rest s) x) : Ev mmPT t pc lv (.ref 2 :: st) (mh sc rest s) x := Ev.s hf (mmS_get (ob_2 sc rest s) ⟨rfl, by decide⟩ rfl) K
theorem gf_2_1 (hf : mmFetch t pc = some (.getfield j, len, 10 :: 1 :: ax)) (K : Ev mmPT t (pc + 3) lv (.ref 5 :: st) (mh sc rest s) x) : Ev mmPT t pc lv (.ref 2 :: st) (mh sc rest s) x := Ev.s hf (mmS_get (ob_2 sc rest s) ⟨rfl, by decide⟩ rfl) K
theorem gf_2_2 (hf : mmFetch t pc = some (.getfield j, len, 10 :: 2 :: ax)) (K : Ev mmPT t (pc + 3) lv (.ref 7 :: st) (mh sc rest s) x) : Ev mmPT t pc lv (.ref 2 :: st) (mh sc rest s) x := Ev.s hf (mmS_get (ob_2 sc rest s) ⟨rfl, by decide⟩ rfl) K
theorem gf_2_3 (hf : mmFetch t pc = some (.getfield j, len, 10 :: 3 :: ax)) (K : Ev mmPT t (pc + 3) lv (.ref 9 :: st) (mh sc rest s) x) : Ev mmPT t pc lv (.ref 2 :: st) (mh sc rest s) x := Ev.s hf (mmS_get (ob_2 sc rest s) ⟨rfl, by decide⟩ rfl) K
theorem gf_2_4 (hf : mmFetch t pc = some (.getfield j, len, 10 :: 4 :: ax)) (K : Ev mmPT t (pc + 3) lv (.ref 11 :: st) (mh sc rest s) x) : Ev mmPT t pc lv (.ref 2 :: st) (mh sc rest s) x := Ev.s hf (mmS_get (ob_2 sc rest s) ⟨rfl, by decide⟩ rfl) K
theorem gf_2_5 (hf : mmFetch t pc = some (.getfield j, len, 10 :: 5 :: ax)) (K : Ev mmPT t (pc + 3) lv (.ref 13 :: st) (mh sc rest s) x) : Ev mmPT t pc lv (.ref 2 :: st) (mh sc rest s) x := Ev.s hf (mmS_get (ob_2 sc rest s) ⟨rfl, by decide⟩ rfl) K
theorem gf_2_6 (hf : mmFetch t pc = some (.getfield j, len, 10 :: 6 :: ax)) (K : Ev mmPT t (pc + 3) lv (.ref 15 :: st) (mh sc rest s) x) : Ev mmPT t pc lv (.ref 2 :: st) (mh sc rest s) x := Ev.s hf (mmS_get (ob_2 sc rest s) ⟨rfl, by decide⟩ rfl) K
theorem gf_2_7 (hf : mmFetch t pc = some (.getfield j, len, 10 :: 7 :: ax)) (K : Ev mmPT t (pc + 3) lv (.ref 17 :: st) (mh sc rest s) x) : Ev mmPT t pc lv (.ref 2 :: st) (mh sc rest s) x := Ev.s hf (mmS_get (ob_2 sc rest s) ⟨rfl, by decide⟩ rfl) K
theorem gf_2_8 (hf : mmFetch t pc = some (.getfield j, len, 10 :: 8 :: ax)) (K : Ev mmPT t (pc + 3) lv (.ref 19 :: st) (mh sc rest s) x) : Ev mmPT t pc lv (.ref 2 :: st) (mh sc rest s) x := Ev.s hf (mmS_get (ob_2 sc rest s) ⟨rfl, by decide⟩ rfl) K
theorem gf_2_9 (hf : mmFetch t pc = some (.getfield j, len, 10 :: 9 :: ax)) (K : Ev mmPT t (pc + 3) lv (.ref 21 :: st) (mh sc rest s) x) : Ev mmPT t pc lv (.ref 2 :: st) (mh sc rest s) x := Ev.s hf (mmS_get (ob_2 sc rest s) ⟨rfl, by decide⟩ rfl) K
theorem gf_2_10 (hf : mmFetch t pc = some (.getfield j, len, 10 :: 10 :: ax)) (K : Ev mmPT t (pc + 3) lv (.ref 23 :: st) (mh sc rest s) x) : Ev mmPT t pc lv (.ref 2 :: st) (mh sc rest s) x := Ev.s hf (mmS_get (ob_2 sc rest s) ⟨rfl, by decide⟩ rfl) K
theorem gf_2_11 (hf : mmFetch t pc = some (.getfield j, len, 10 :: 11 :: ax)) (K : Ev mmPT t (pc + 3) lv (.ref 25 :: st) (mh sc rest s) x) : Ev mmPT t pc lv (.ref 2 :: st) (mh sc rest s) x := Ev.s hf (mmS_get (ob_2 sc rest s) ⟨rfl, by decide⟩ rfl) K
theorem gf_2_12 (hf : mmFetch t pc = some (.getfield j, len, 10 :: 12 :: ax)) (K : Ev mmPT t (pc + 3) lv (.int (s.2.1 1) :: st) (mh sc rest s) x) : Ev mmPT t pc lv (.ref 2 :: st) (mh sc rest s) x := Ev.s hf (mmS_get (ob_2 sc rest s) ⟨rfl, by decide⟩ rfl) K
theorem pf_2_12 {y : Int32} (hf : mmFetch t pc = some (.putfield j, len, 10 :: 12 :: 0 :: ax)) (K : Ev mmPT t (pc + 3) lv st (mh sc rest (sG s 1 y)) x) : Ev mmPT t pc lv (.int y :: .ref 2 :: st) (mh sc rest s) x := by
  refine Ev.s hf (mmS_put (ob_2 sc rest s) ⟨rfl, by decide, Nat.le_of_ble_eq_true rfl, rfl, by decide⟩) ?_
  rw [os_2_12]
  exact K
theorem gf_25_0 (hf : mmFetch t pc = some (.getfield j, len, 2 :: 0 :: ax)) (K : Ev mmPT t (pc + 3) lv (.ref 26 :: st) (mh sc rest s) x) : Ev mmPT t pc lv (.ref 25 :: st) (mh sc rest s) x := Ev.s hf (mmS_get (ob_25 sc rest s) ⟨rfl, by decide⟩ rfl) K
theorem gf_25_1 (hf : mmFetch t pc = some (.getfield j, len, 2 :: 1 :: ax)) (K : Ev mmPT t (pc + 3) lv (.ref 28 :: st) (mh sc rest s) x) : Ev mmPT t pc lv (.ref 25 :: st) (mh sc rest s) x := Ev.s hf (mmS_get (ob_25 sc rest s) ⟨rfl, by decide⟩ rfl) K
theorem gf_25_2 (hf : mmFetch t pc = some (.getfield j, len, 2 :: 2 :: ax)) (K : Ev mmPT t (pc + 3) lv (.ref 30 :: st) (mh sc rest s) x) : Ev mmPT t pc lv (.ref 25 :: st) (mh sc rest s) x := Ev.s hf (mmS_get (ob_25 sc rest s) ⟨rfl, by decide⟩ rfl) K
theorem gf_25_3 (hf : mmFetch t pc = some (.getfield j, len, 2 :: 3 :: ax)) (K : Ev mmPT t (pc + 3) lv (.ref 32 :: st) (mh sc rest s) x) : Ev mmPT t pc lv (.ref 25 :: st) (mh sc rest s) x := Ev.s hf (mmS_get (ob_25 sc rest s) ⟨rfl, by decide⟩ rfl) K
theorem gf_25_4 (hf : mmFetch t pc = some (.getfield j, len, 2 :: 4 :: ax)) (K : Ev mmPT t (pc + 3) lv (.int (s.2.1 0) :: st) (mh sc rest s) x) : Ev mmPT t pc lv (.ref 25 :: st) (mh sc rest s) x := Ev.s hf (mmS_get (ob_25 sc rest s) ⟨rfl, by decide⟩ rfl) K
theorem pf_25_4 {y : Int32} (hf : mmFetch t pc = some (.putfield j, len, 2 :: 4 :: 0 :: ax)) (K : Ev mmPT t (pc + 3) lv st (mh sc rest (sG s 0 y)) x) : Ev mmPT t pc lv (.int y :: .ref 25 :: st) (mh sc rest s) x := by
  refine Ev.s hf (mmS_put (ob_25 sc rest s) ⟨rfl, by decide, Nat.le_of_ble_eq_true rfl, rfl, by decide⟩) ?_
  rw [os_25_4]
  exact K
theorem gf_34_0 (hf : mmFetch t pc = some (.getfield j, len, 3 :: 0 :: ax)) (K : Ev mmPT t (pc + 3) lv (.ref 35 :: st) (mh sc rest s) x) : Ev mmPT t pc lv (.ref 34 :: st) (mh sc rest s) x := Ev.s hf (mmS_get (ob_34 sc rest s) ⟨rfl, by decide⟩ rfl) K
theorem gf_34_1 (hf : mmFetch t pc = some (.getfield j, len, 3 :: 1 :: ax)) (K : Ev mmPT t (pc + 3) lv (.ref 37 :: st) (mh sc rest s) x) : Ev mmPT t pc lv (.ref 34 :: st) (mh sc rest s) x := Ev.s hf (mmS_get (ob_34 sc rest s) ⟨rfl, by decide⟩ rfl) K
theorem gf_34_2 (hf : mmFetch t pc = some (.getfield j, len, 3 :: 2 :: ax)) (K : Ev mmPT t (pc + 3) lv (.ref 39 :: st) (mh sc rest s) x) : Ev mmPT t pc lv (.ref 34 :: st) (mh sc rest s) x := Ev.s hf (mmS_get (ob_34 sc rest s) ⟨rfl, by decide⟩ rfl) K
theorem gf_34_3 (hf : mmFetch t pc = some (.getfield j, len, 3 :: 3 :: ax)) (K : Ev mmPT t (pc + 3) lv (.ref 41 :: st) (mh sc rest s) x) : Ev mmPT t pc lv (.ref 34 :: st) (mh sc rest s) x := Ev.s hf (mmS_get (ob_34 sc rest s) ⟨rfl, by decide⟩ rfl) K
theorem gf_34_4 (hf : mmFetch t pc = some (.getfield j, len, 3 :: 4 :: ax)) (K : Ev mmPT t (pc + 3) lv (.ref 43 :: st) (mh sc rest s) x) : Ev mmPT t pc lv (.ref 34 :: st) (mh sc rest s) x := Ev.s hf (mmS_get (ob_34 sc rest s) ⟨rfl, by decide⟩ rfl) K
theorem gf_34_5 (hf : mmFetch t pc = some (.getfield j, len, 3 :: 5 :: ax)) (K : Ev mmPT t (pc + 3) lv (.ref 45 :: st) (mh sc rest s) x) : Ev mmPT t pc lv (.ref 34 :: st) (mh sc rest s) x := Ev.s hf (mmS_get (ob_34 sc rest s) ⟨rfl, by decide⟩ rfl) K
theorem gf_34_6 (hf : mmFetch t pc = some (.getfield j, len, 3 :: 6 :: ax)) (K : Ev mmPT t (pc + 3) lv (.ref 47 :: st) (mh sc rest s) x) : Ev mmPT t pc lv (.ref 34 :: st) (mh sc rest s) x := Ev.s hf (mmS_get (ob_34 sc rest s) ⟨rfl, by decide⟩ rfl) K
theorem gf_34_7 (hf : mmFetch t pc = some (.getfield j, len, 3 :: 7 :: ax)) (K : Ev mmPT t (pc + 3) lv (.ref 49 :: st) (mh sc rest s) x) : Ev mmPT t pc lv (.ref 34 :: st) (mh sc rest s) x := Ev.s hf (mmS_get (ob_34 sc rest s) ⟨rfl, by decide⟩ rfl) K
theorem gf_34_8 (hf : mmFetch t pc = some (.getfield j, len, 3 :: 8 :: ax)) (K : Ev mmPT t (pc + 3) lv (.ref 51 :: st) (mh sc rest s) x) : Ev mmPT t pc lv (.ref 34 :: st) (mh sc rest s) x := Ev.s hf (mmS_get (ob_34 sc rest s) ⟨rfl, by decide⟩ rfl) K
theorem gf_34_9 (hf : mmFetch t pc = some (.getfield j, len, 3 :: 9 :: ax)) (K : Ev mmPT t (pc + 3) lv (.ref 53 :: st) (mh sc rest s) x) : Ev mmPT t pc lv (.ref 34 :: st) (mh sc rest s) x := Ev.s hf (mmS_get (ob_34 sc rest s) ⟨rfl, by decide⟩ rfl) K
theorem gf_34_10 (hf : mmFetch t pc = some (.getfield j, len, 3 :: 10 :: ax)) (K : Ev mmPT t (pc + 3) lv (.ref 55 :: st) (mh sc rest s) x) : Ev mmPT t pc lv (.ref 34 :: st) (mh sc rest s) x := Ev.s hf (mmS_get (ob_34 sc rest s) ⟨rfl, by decide⟩ rfl) K
theorem gf_34_11 (hf : mmFetch t pc = some (.getfield j, len, 3 :: 11 :: ax)) (K : Ev mmPT t (pc + 3) lv (.ref 57 :: st) (mh sc rest s) x) : Ev mmPT t pc lv (.ref 34 :: st) (mh sc rest s) x := Ev.s hf (mmS_get (ob_34 sc rest s) ⟨rfl, by decide⟩ rfl) K
theorem gf_34_12 (hf : mmFetch t pc = some (.getfield j, len, 3 :: 12 :: ax)) (K : Ev mmPT t (pc + 3) lv (.ref 59 :: st) (mh sc rest s) x) : Ev mmPT t pc lv (.ref 34 :: st) (mh sc rest s) x := Ev.s hf (mmS_get (ob_34 sc rest s) ⟨rfl, by decide⟩ rfl) K
theorem gf_34_13 (hf : mmFetch t pc = some (.getfield j, len, 3 :: 13 :: ax)) (K : Ev mmPT t (pc + 3) lv (.int (s.2.1 2) :: st) (mh sc rest s) x) : Ev mmPT t pc lv (.ref 34 :: st) (mh sc rest s) x := Ev.s hf (mmS_get (ob_34 sc rest s) ⟨rfl, by decide⟩ rfl) K
theorem pf_34_13 {y : Int32} (hf : mmFetch t pc = some (.putfield j, len, 3 :: 13 :: 0 :: ax)) (K : Ev mmPT t (pc + 3) lv st (mh sc rest (sG s 2 y)) x) : Ev mmPT t pc lv (.int y :: .ref 34 :: st) (mh sc rest s) x := by
  refine Ev.s hf (mmS_put (ob_34 sc rest s) ⟨rfl, by decide, Nat.le_of_ble_eq_true rfl, rfl, by decide⟩) ?_
  rw [os_34_13]
  exact K
theorem gf_34_14 (hf : mmFetch t pc = some (.getfield j, len, 3 :: 14 :: ax)) (K : Ev mmPT t (pc + 3) lv (.int (s.2.1 3) :: st) (mh sc rest s) x) : Ev mmPT t pc lv (.ref 34 :: st) (mh sc rest s) x := Ev.s hf (mmS_get (ob_34 sc rest s) ⟨rfl, by decide⟩ rfl) K
theorem pf_34_14 {y : Int32} (hf : mmFetch t pc = some (.putfield j, len, 3 :: 14 :: 0 :: ax)) (K : Ev mmPT t (pc + 3) lv st (mh sc rest (sG s 3 y)) x) : Ev mmPT t pc lv (.int y :: .ref 34 :: st) (mh sc rest s) x := by
  refine Ev.s hf (mmS_put (ob_34 sc rest s) ⟨rfl, by decide, Nat.le_of_ble_eq_true rfl, rfl, by decide⟩) ?_
  rw [os_34_14]
  exact K
theorem gf_34_15 (hf : mmFetch t pc = some (.getfield j, len, 3 :: 15 :: ax)) (K : Ev mmPT t (pc + 3) lv (.int (s.2.1 4) :: st) (mh sc rest s) x) : Ev mmPT t pc lv (.ref 34 :: st) (mh sc rest s) x := Ev.s hf (mmS_get (ob_34 sc rest s) ⟨rfl, by decide⟩ rfl) K
theorem pf_34_15 {y : Int32} (hf : mmFetch t pc = some (.putfield j, len, 3 :: 15 :: 0 :: ax)) (K : Ev mmPT t (pc + 3) lv st (mh sc rest (sG s 4 y)) x) : Ev mmPT t pc lv (.int y :: .ref 34 :: st) (mh sc rest s) x := by
  refine Ev.s hf (mmS_put (ob_34 sc rest s) ⟨rfl, by decide, Nat.le_of_ble_eq_true rfl, rfl, by decide⟩) ?_
  rw [os_34_15]
  exact K
theorem gf_34_16 (hf : mmFetch t pc = some (.getfield j, len, 3 :: 16 :: ax)) (K : Ev mmPT t (pc + 3) lv (.int (s.2.1 5) :: st) (mh sc rest s) x) : Ev mmPT t pc lv (.ref 34 :: st) (mh sc rest s) x := Ev.s hf (mmS_get (ob_34 sc rest s) ⟨rfl, by decide⟩ rfl) K
theorem pf_34_16 {y : Int32} (hf : mmFetch t pc = some (.putfield j, len, 3 :: 16 :: 0 :: ax)) (K : Ev mmPT t (pc + 3) lv st (mh sc rest (sG s 5 y)) x) : Ev mmPT t pc lv (.int y :: .ref 34 :: st) (mh sc rest s) x := by
  refine Ev.s hf (mmS_put (ob_34 sc rest s) ⟨rfl, by decide, Nat.le_of_ble_eq_true rfl, rfl, by decide⟩) ?_
  rw [os_34_16]
  exact K
theorem gf_34_17 (hf : mmFetch t pc = some (.getfield j, len, 3 :: 17 :: ax)) (K : Ev mmPT t (pc + 3) lv (.int (s.2.1 6) :: st) (mh sc rest s) x) : Ev mmPT t pc lv (.ref 34 :: st) (mh sc rest s) x := Ev.s hf (mmS_get (ob_34 sc rest s) ⟨rfl, by decide⟩ rfl) K
theorem pf_34_17 {y : Int32} (hf : mmFetch t pc = some (.putfield j, len, 3 :: 17 :: 0 :: ax)) (K : Ev mmPT t (pc + 3) lv st (mh sc rest (sG s 6 y)) x) : Ev mmPT t pc lv (.int y :: .ref 34 :: st) (mh sc rest s) x := by
  refine Ev.s hf (mmS_put (ob_34 sc rest s) ⟨rfl, by decide, Nat.le_of_ble_eq_true rfl, rfl, by decide⟩) ?_
  rw [os_34_17]
  exact K
theorem gf_34_18 (hf : mmFetch t pc = some (.getfield j, len, 3 :: 18 :: ax)) (K : Ev mmPT t (pc + 3) lv (.int (s.2.1 7) :: st) (mh sc rest s) x) : Ev mmPT t pc lv (.ref 34 :: st) (mh sc rest s) x := Ev.s hf (mmS_get (ob_34 sc rest s) ⟨rfl, by decide⟩ rfl) K
theorem pf_34_18 {y : Int32} (hf : mmFetch t pc = some (.putfield j, len, 3 :: 18 :: 0 :: ax)) (K : Ev mmPT t (pc + 3) lv st (mh sc rest (sG s 7 y)) x) : Ev mmPT t pc lv (.int y :: .ref 34 :: st) (mh sc rest s) x := by
  refine Ev.s hf (mmS_put (ob_34 sc rest s) ⟨rfl, by decide, Nat.le_of_ble_eq_true rfl, rfl, by decide⟩) ?_
  rw [os_34_18]
  exact K
theorem gf_61_0 (hf : mmFetch t pc = some (.getfield j, len, 3 :: 0 :: ax)) (K : Ev mmPT t (pc + 3) lv (.ref 62 :: st) (mh sc rest s) x) : Ev mmPT t pc lv (.ref 61 :: st) (mh sc rest s) x := Ev.s hf (mmS_get (ob_61 sc rest s) ⟨rfl, by decide⟩ rfl) K
theorem gf_61_1 (hf : mmFetch t pc = some (.getfield j, len, 3 :: 1 :: ax)) (K : Ev mmPT t (pc + 3) lv (.ref 64 :: st) (mh sc rest s) x) : Ev mmPT t pc lv (.ref 61 :: st) (mh sc rest s) x := Ev.s hf (mmS_get (ob_61 sc rest s) ⟨rfl, by decide⟩ rfl) K
theorem gf_61_2 (hf : mmFetch t pc = some (.getfield j, len, 3 :: 2 :: ax)) (K : Ev mmPT t (pc + 3) lv (.ref 66 :: st) (mh sc rest s) x) : Ev mmPT t pc lv (.ref 61 :: st) (mh sc rest s) x := Ev.s hf (mmS_get (ob_61 sc rest s) ⟨rfl, by decide⟩ rfl) K
theorem gf_61_3 (hf : mmFetch t pc = some (.getfield j, len, 3 :: 3 :: ax)) (K : Ev mmPT t (pc + 3) lv (.ref 68 :: st) (mh sc rest s) x) : Ev mmPT t pc lv (.ref 61 :: st) (mh sc rest s) x := Ev.s hf (mmS_get (ob_61 sc rest s) ⟨rfl, by decide⟩ rfl) K
theorem gf_61_4 (hf : mmFetch t pc = some (.getfield j, len, 3 :: 4 :: ax)) (K : Ev mmPT t (pc + 3) lv (.ref 70 :: st) (mh sc rest s) x) : Ev mmPT t pc lv (.ref 61 :: st) (mh sc rest s) x := Ev.s hf (mmS_get (ob_61 sc rest s) ⟨rfl, by decide⟩ rfl) K
theorem gf_61_5 (hf : mmFetch t pc = some (.getfield j, len, 3 :: 5 :: ax)) (K : Ev mmPT t (pc + 3) lv (.ref 72 :: st) (mh sc rest s) x) : Ev mmPT t pc lv (.ref 61 :: st) (mh sc rest s) x := Ev.s hf (mmS_get (ob_61 sc rest s) ⟨rfl, by decide⟩ rfl) K
theorem gf_61_6 (hf : mmFetch t pc = some (.getfield j, len, 3 :: 6 :: ax)) (K : Ev mmPT t (pc + 3) lv (.ref 74 :: st) (mh sc rest s) x) : Ev mmPT t pc lv (.ref 61 :: st) (mh sc rest s) x := Ev.s hf (mmS_get (ob_61 sc rest s) ⟨rfl, by decide⟩ rfl) K
theorem gf_61_7 (hf : mmFetch t pc = some (.getfield j, len, 3 :: 7 :: ax)) (K : Ev mmPT t (pc + 3) lv (.ref 76 :: st) (mh sc rest s) x) : Ev mmPT t pc lv (.ref 61 :: st) (mh sc rest s) x := Ev.s hf (mmS_get (ob_61 sc rest s) ⟨rfl, by decide⟩ rfl) K
theorem gf_61_8 (hf : mmFetch t pc = some (.getfield j, len, 3 :: 8 :: ax)) (K : Ev mmPT t (pc + 3) lv (.ref 78 :: st) (mh sc rest s) x) : Ev mmPT t pc lv (.ref 61 :: st) (mh sc rest s) x := Ev.s hf (mmS_get (ob_61 sc rest s) ⟨rfl, by decide⟩ rfl) K
theorem gf_61_9 (hf : mmFetch t pc = some (.getfield j, len, 3 :: 9 :: ax)) (K : Ev mmPT t (pc + 3) lv (.ref 80 :: st) (mh sc rest s) x) : Ev mmPT t pc lv (.ref 61 :: st) (mh sc rest s) x := Ev.s hf (mmS_get (ob_61 sc rest s) ⟨rfl, by decide⟩ rfl) K
theorem gf_61_10 (hf : mmFetch t pc = some (.getfield j, len, 3 :: 10 :: ax)) (K : Ev mmPT t (pc + 3) lv (.ref 82 :: st) (mh sc rest s) x) : Ev mmPT t pc lv (.ref 61 :: st) (mh sc rest s) x := Ev.s hf (mmS_get (ob_61 sc rest s) ⟨rfl, by decide⟩ rfl) K
theorem gf_61_11 (hf : mmFetch t pc = some (.getfield j, len, 3 :: 11 :: ax)) (K : Ev mmPT t (pc + 3) lv (.ref 84 :: st) (mh sc rest s) x) : Ev mmPT t pc lv (.ref 61 :: st) (mh sc rest s) x := Ev.s hf (mmS_get (ob_61 sc rest s) ⟨rfl, by decide⟩ rfl) K
theorem gf_61_12 (hf : mmFetch t pc = some (.getfield j, len, 3 :: 12 :: ax)) (K : Ev mmPT t (pc + 3) lv (.ref 86 :: st) (mh sc rest s) x) : Ev mmPT t pc lv (.ref 61 :: st) (mh sc rest s) x := Ev.s hf (mmS_get (ob_61 sc rest s) ⟨rfl, by decide⟩ rfl) K
theorem gf_61_13 (hf : mmFetch t pc = some (.getfield j, len, 3 :: 13 :: ax)) (K : Ev mmPT t (pc + 3) lv (.int (s.2.1 8) :: st) (mh sc rest s) x) : Ev mmPT t pc lv (.ref 61 :: st) (mh sc rest s) x := Ev.s hf (mmS_get (ob_61 sc rest s) ⟨rfl, by decide⟩ rfl) K
theorem pf_61_13 {y : Int32} (hf : mmFetch t pc = some (.putfield j, len, 3 :: 13 :: 0 :: ax)) (K : Ev mmPT t (pc + 3) lv st (mh sc rest (sG s 8 y)) x) : Ev mmPT t pc lv (.int y :: .ref 61 :: st) (mh sc rest s) x := by
  refine Ev.s hf (mmS_put (ob_61 sc rest s) ⟨rfl, by decide, Nat.le_of_ble_eq_true rfl, rfl, by decide⟩) ?_
  rw [os_61_13]
  exact K
theorem gf_61_14 (hf : mmFetch t pc = some (.getfield j, len, 3 :: 14 :: ax)) (K : Ev mmPT t (pc + 3) lv (.int (s.2.1 9) :: st) (mh sc rest s) x) : Ev mmPT t pc lv (.ref 61 :: st) (mh sc rest s) x := Ev.s hf (mmS_get (ob_61 sc rest s) ⟨rfl, by decide⟩ rfl) K
theorem pf_61_14 {y : Int32} (hf : mmFetch t pc = some (.putfield j, len, 3 :: 14 :: 0 :: ax)) (K : Ev mmPT t (pc + 3) lv st (mh sc rest (sG s 9 y)) x) : Ev mmPT t pc lv (.int y :: .ref 61 :: st) (mh sc rest s) x := by
  refine Ev.s hf (mmS_put (ob_61 sc rest s) ⟨rfl, by decide, Nat.le_of_ble_eq_true rfl, rfl, by decide⟩) ?_
  rw [os_61_14]
  exact K
theorem gf_61_15 (hf : mmFetch t pc = some (.getfield j, len, 3 :: 15 :: ax)) (K : Ev mmPT t (pc + 3) lv (.int (s.2.1 10) :: st) (mh sc rest s) x) : Ev mmPT t pc lv (.ref 61 :: st) (mh sc rest s) x := Ev.s hf (mmS_get (ob_61 sc rest s) ⟨rfl, by decide⟩ rfl) K
theorem pf_61_15 {y : Int32} (hf : mmFetch t pc = some (.putfield j, len, 3 :: 15 :: 0 :: ax)) (K : Ev mmPT t (pc + 3) lv st (mh sc rest (sG s 10 y)) x) : Ev mmPT t pc lv (.int y :: .ref 61 :: st) (mh sc rest s) x := by
  refine Ev.s hf (mmS_put (ob_61 sc rest s) ⟨rfl, by decide, Nat.le_of_ble_eq_true rfl, rfl, by decide⟩) ?_
  rw [os_61_15]
  exact K
theorem gf_61_16 (hf : mmFetch t pc = some (.getfield j, len, 3 :: 16 :: ax)) (K : Ev mmPT t (pc + 3) lv (.int (s.2.1 11) :: st) (mh sc rest s) x) : Ev mmPT t pc lv (.ref 61 :: st) (mh sc rest s) x := Ev.s hf (mmS_get (ob_61 sc rest s) ⟨rfl, by decide⟩ rfl) K
theorem pf_61_16 {y : Int32} (hf : mmFetch t pc = some (.putfield j, len, 3 :: 16 :: 0 :: ax)) (K : Ev mmPT t (pc + 3) lv st (mh sc rest (sG s 11 y)) x) : Ev mmPT t pc lv (.int y :: .ref 61 :: st) (mh sc rest s) x := by
  refine Ev.s hf (mmS_put (ob_61 sc rest s) ⟨rfl, by decide, Nat.le_of_ble_eq_true rfl, rfl, by decide⟩) ?_
  rw [os_61_16]
  exact K
theorem gf_61_17 (hf : mmFetch t pc = some (.getfield j, len, 3 :: 17 :: ax)) (K : Ev mmPT t (pc + 3) lv (.int (s.2.1 12) :: st) (mh sc rest s) x) : Ev mmPT t pc lv (.ref 61 :: st) (mh sc rest s) x := Ev.s hf (mmS_get (ob_61 sc rest s) ⟨rfl, by decide⟩ rfl) K
theorem pf_61_17 {y : Int32} (hf : mmFetch t pc = some (.putfield j, len, 3 :: 17 :: 0 :: ax)) (K : Ev mmPT t (pc + 3) lv st (mh sc rest (sG s 12 y)) x) : Ev mmPT t pc lv (.int y :: .ref 61 :: st) (mh sc rest s) x := by
  refine Ev.s hf (mmS_put (ob_61 sc rest s) ⟨rfl, by decide, Nat.le_of_ble_eq_true rfl, rfl, by decide⟩) ?_
  rw [os_61_17]
  exact K
theorem gf_61_18 (hf : mmFetch t pc = some (.getfield j, len, 3 :: 18 :: ax)) (K : Ev mmPT t (pc + 3) lv (.int (s.2.1 13) :: st) (mh sc rest s) x) : Ev mmPT t pc lv (.ref 61 :: st) (mh sc rest s) x := Ev.s hf (mmS_get (ob_61 sc rest s) ⟨rfl, by decide⟩ rfl) K
theorem pf_61_18 {y : Int32} (hf : mmFetch t pc = some (.putfield j, len, 3 :: 18 :: 0 :: ax)) (K : Ev mmPT t (pc + 3) lv st (mh sc rest (sG s 13 y)) x) : Ev mmPT t pc lv (.int y :: .ref 61 :: st) (mh sc rest s) x := by
  refine Ev.s hf (mmS_put (ob_61 sc rest s) ⟨rfl, by decide, Nat.le_of_ble_eq_true rfl, rfl, by decide⟩) ?_
  rw [os_61_18]
  exact K
theorem gf_88_0 (hf : mmFetch t pc = some (.getfield j, len, 5 :: 0 :: ax)) (K : Ev mmPT t (pc + 3) lv (.ref 89 :: st) (mh sc rest s) x) : Ev mmPT t pc lv (.ref 88 :: st) (mh sc rest s) x := Ev.s hf (mmS_get (ob_88 sc rest s) ⟨rfl, by decide⟩ rfl) K
theorem gf_88_1 (hf : mmFetch t pc = some (.getfield j, len, 5 :: 1 :: ax)) (K : Ev mmPT t (pc + 3) lv (.ref 91 :: st) (mh sc rest s) x) : Ev mmPT t pc lv (.ref 88 :: st) (mh sc rest s) x := Ev.s hf (mmS_get (ob_88 sc rest s) ⟨rfl, by decide⟩ rfl) K
theorem gf_88_2 (hf : mmFetch t pc = some (.getfield j, len, 5 :: 2 :: ax)) (K : Ev mmPT t (pc + 3) lv (.ref 93 :: st) (mh sc rest s) x) : Ev mmPT t pc lv (.ref 88 :: st) (mh sc rest s) x := Ev.s hf (mmS_get (ob_88 sc rest s) ⟨rfl, by decide⟩ rfl) K
theorem gf_95_0 (hf : mmFetch t pc = some (.getfield j, len, 0 :: 0 :: ax)) (K : Ev mmPT t (pc + 3) lv (.ref 96 :: st) (mh sc rest s) x) : Ev mmPT t pc lv (.ref 95 :: st) (mh sc rest s) x := Ev.s hf (mmS_get (ob_95 sc rest s) ⟨rfl, by decide⟩ rfl) K
theorem gf_95_1 (hf : mmFetch t pc = some (.getfield j, len, 0 :: 1 :: ax)) (K : Ev mmPT t (pc + 3) lv (.ref 98 :: st) (mh sc rest s) x) : Ev mmPT t pc lv (.ref 95 :: st) (mh sc rest s) x := Ev.s hf (mmS_get (ob_95 sc rest s) ⟨rfl, by decide⟩ rfl) K
theorem gf_95_2 (hf : mmFetch t pc = some (.getfield j, len, 0 :: 2 :: ax)) (K : Ev mmPT t (pc + 3) lv (.int (s.2.1 14) :: st) (mh sc rest s) x) : Ev mmPT t pc lv (.ref 95 :: st) (mh sc rest s) x := Ev.s hf (mmS_get (ob_95 sc rest s) ⟨rfl, by decide⟩ rfl) K
theorem pf_95_2 {y : Int32} (hf : mmFetch t pc = some (.putfield j, len, 0 :: 2 :: 0 :: ax)) (K : Ev mmPT t (pc + 3) lv st (mh sc rest (sG s 14 y)) x) : Ev mmPT t pc lv (.int y :: .ref 95 :: st) (mh sc rest s) x := by
  refine Ev.s hf (mmS_put (ob_95 sc rest s) ⟨rfl, by decide, Nat.le_of_ble_eq_true rfl, rfl, by decide⟩) ?_
  rw [os_95_2]
  exact K
theorem gf_95_3 (hf : mmFetch t pc = some (.getfield j, len, 0 :: 3 :: ax)) (K : Ev mmPT t (pc + 3) lv (.int (s.2.1 15) :: st) (mh sc rest s) x) : Ev mmPT t pc lv (.ref 95 :: st) (mh sc rest s) x := Ev.s hf (mmS_get (ob_95 sc rest s) ⟨rfl, by decide⟩ rfl) K
theorem pf_95_3 {y : Int32} (hf : mmFetch t pc = some (.putfield j, len, 0 :: 3 :: 0 :: ax)) (K : Ev mmPT t (pc + 3) lv st (mh sc rest (sG s 15 y)) x) : Ev mmPT t pc lv (.int y :: .ref 95 :: st) (mh sc rest s) x := by
  refine Ev.s hf (mmS_put (ob_95 sc rest s) ⟨rfl, by decide, Nat.le_of_ble_eq_true rfl, rfl, by decide⟩) ?_
  rw [os_95_3]
  exact K
theorem gf_95_4 (hf : mmFetch t pc = some (.getfield j, len, 0 :: 4 :: ax)) (K : Ev mmPT t (pc + 3) lv (.int (b2i (s.2.2.1 0)) :: st) (mh sc rest s) x) : Ev mmPT t pc lv (.ref 95 :: st) (mh sc rest s) x := Ev.s hf (mmS_get (ob_95 sc rest s) ⟨rfl, by decide⟩ rfl) K
theorem pf_95_4 {y : Bool} (hf : mmFetch t pc = some (.putfield j, len, 0 :: 4 :: 1 :: ax)) (K : Ev mmPT t (pc + 3) lv st (mh sc rest (sB s 0 y)) x) : Ev mmPT t pc lv (.int (b2i y) :: .ref 95 :: st) (mh sc rest s) x := by
  refine Ev.s hf (mmS_put (ob_95 sc rest s) ⟨rfl, by decide, Nat.le_of_ble_eq_true rfl, fit_b y, by decide⟩) ?_
  rw [os_95_4]
  exact K
theorem gf_100_0 (hf : mmFetch t pc = some (.getfield j, len, 6 :: 0 :: ax)) (K : Ev mmPT t (pc + 3) lv (.ref 101 :: st) (mh sc rest s) x) : Ev mmPT t pc lv (.ref 100 :: st) (mh sc rest s) x := Ev.s hf (mmS_get (ob_100 sc rest s) ⟨rfl, by decide⟩ rfl) K
theorem gf_101_0 (hf : mmFetch t pc = some (.getfield j, len, 2 :: 0 :: ax)) (K : Ev mmPT t (pc + 3) lv (.ref 102 :: st) (mh sc rest s) x) : Ev mmPT t pc lv (.ref 101 :: st) (mh sc rest s) x := Ev.s hf (mmS_get (ob_101 sc rest s) ⟨rfl, by decide⟩ rfl) K
theorem gf_101_1 (hf : mmFetch t pc = some (.getfield j, len, 2 :: 1 :: ax)) (K : Ev mmPT t (pc + 3) lv (.ref 104 :: st) (mh sc rest s) x) : Ev mmPT t pc lv (.ref 101 :: st) (mh sc rest s) x := Ev.s hf (mmS_get (ob_101 sc rest s) ⟨rfl, by decide⟩ rfl) K
theorem gf_101_2 (hf : mmFetch t pc = some (.getfield j, len, 2 :: 2 :: ax)) (K : Ev mmPT t (pc + 3) lv (.ref 106 :: st) (mh sc rest s) x) : Ev mmPT t pc lv (.ref 101 :: st) (mh sc rest s) x := Ev.s hf (mmS_get (ob_101 sc rest s) ⟨rfl, by decide⟩ rfl) K
theorem gf_101_3 (hf : mmFetch t pc = some (.getfield j, len, 2 :: 3 :: ax)) (K : Ev mmPT t (pc + 3) lv (.ref 108 :: st) (mh sc rest s) x) : Ev mmPT t pc lv (.ref 101 :: st) (mh sc rest s) x := Ev.s hf (mmS_get (ob_101 sc rest s) ⟨rfl, by decide⟩ rfl) K
theorem gf_101_4 (hf : mmFetch t pc = some (.getfield j, len, 2 :: 4 :: ax)) (K : Ev mmPT t (pc + 3) lv (.int (s.2.1 16) :: st) (mh sc rest s) x) : Ev mmPT t pc lv (.ref 101 :: st) (mh sc rest s) x := Ev.s hf (mmS_get (ob_101 sc rest s) ⟨rfl, by decide⟩ rfl) K
theorem pf_101_4 {y : Int32} (hf : mmFetch t pc = some (.putfield j, len, 2 :: 4 :: 0 :: ax)) (K : Ev mmPT t (pc + 3) lv st (mh sc rest (sG s 16 y)) x) : Ev mmPT t pc lv (.int y :: .ref 101 :: st) (mh sc rest s) x := by
  refine Ev.s hf (mmS_put (ob_101 sc rest s) ⟨rfl, by decide, Nat.le_of_ble_eq_true rfl, rfl, by decide⟩) ?_
  rw [os_101_4]
  exact K
theorem gf_110_0 (hf : mmFetch t pc = some (.getfield j, len, 1 :: 0 :: ax)) (K : Ev mmPT t (pc + 3) lv (.ref 111 :: st) (mh sc rest s) x) : Ev mmPT t pc lv (.ref 110 :: st) (mh sc rest s) x := Ev.s hf (mmS_get (ob_110 sc rest s) ⟨rfl, by decide⟩ rfl) K
theorem gf_110_1 (hf : mmFetch t pc = some (.getfield j, len, 1 :: 1 :: ax)) (K : Ev mmPT t (pc + 3) lv (.int (b2i (s.2.2.1 1)) :: st) (mh sc rest s) x) : Ev mmPT t pc lv (.ref 110 :: st) (mh sc rest s) x := Ev.s hf (mmS_get (ob_110 sc rest s) ⟨rfl, by decide⟩ rfl) K
theorem pf_110_1 {y : Bool} (hf : mmFetch t pc = some (.putfield j, len, 1 :: 1 :: 1 :: ax)) (K : Ev mmPT t (pc + 3) lv st (mh sc rest (sB s 1 y)) x) : Ev mmPT t pc lv (.int (b2i y) :: .ref 110 :: st) (mh sc rest s) x := by
  refine Ev.s hf (mmS_put (ob_110 sc rest s) ⟨rfl, by decide, Nat.le_of_ble_eq_true rfl, fit_b y, by decide⟩) ?_
  rw [os_110_1]
  exact K
theorem gf_114_0 (hf : mmFetch t pc = some (.getfield j, len, 8 :: 0 :: ax)) (K : Ev mmPT t (pc + 3) lv (.ref 115 :: st) (mh sc rest s) x) : Ev mmPT t pc lv (.ref 114 :: st) (mh sc rest s) x := Ev.s hf (mmS_get (ob_114 sc rest s) ⟨rfl, by decide⟩ rfl) K
theorem gf_114_1 (hf : mmFetch t pc = some (.getfield j, len, 8 :: 1 :: ax)) (K : Ev mmPT t (pc + 3) lv (.ref 117 :: st) (mh sc rest s) x) : Ev mmPT t pc lv (.ref 114 :: st) (mh sc rest s) x := Ev.s hf (mmS_get (ob_114 sc rest s) ⟨rfl, by decide⟩ rfl) K
theorem gf_114_2 (hf : mmFetch t pc = some (.getfield j, len, 8 :: 2 :: ax)) (K : Ev mmPT t (pc + 3) lv (.ref 119 :: st) (mh sc rest s) x) : Ev mmPT t pc lv (.ref 114 :: st) (mh sc rest s) x := Ev.s hf (mmS_get (ob_114 sc rest s) ⟨rfl, by decide⟩ rfl) K
theorem gf_121_0 (hf : mmFetch t pc = some (.getfield j, len, 9 :: 0 :: ax)) (K : Ev mmPT t (pc + 3) lv (.ref 124 :: st) (mh sc rest s) x) : Ev mmPT t pc lv (.ref 121 :: st) (mh sc rest s) x := Ev.s hf (mmS_get (ob_121 sc rest s) ⟨rfl, by decide⟩ rfl) K
theorem gf_121_1 (hf : mmFetch t pc = some (.getfield j, len, 9 :: 1 :: ax)) (K : Ev mmPT t (pc + 3) lv (.ref 122 :: st) (mh sc rest s) x) : Ev mmPT t pc lv (.ref 121 :: st) (mh sc rest s) x := Ev.s hf (mmS_get (ob_121 sc rest s) ⟨rfl, by decide⟩ rfl) K
theorem gf_121_2 (hf : mmFetch t pc = some (.getfield j, len, 9 :: 2 :: ax)) (K : Ev mmPT t (pc + 3) lv (.int (b2i (s.2.2.1 2)) :: st) (mh sc rest s) x) : Ev mmPT t pc lv (.ref 121 :: st) (mh sc rest s) x := Ev.s hf (mmS_get (ob_121 sc rest s) ⟨rfl, by decide⟩ rfl) K
theorem pf_121_2 {y : Bool} (hf : mmFetch t pc = some (.putfield j, len, 9 :: 2 :: 1 :: ax)) (K : Ev mmPT t (pc + 3) lv st (mh sc rest (sB s 2 y)) x) : Ev mmPT t pc lv (.int (b2i y) :: .ref 121 :: st) (mh sc rest s) x := by
  refine Ev.s hf (mmS_put (ob_121 sc rest s) ⟨rfl, by decide, Nat.le_of_ble_eq_true rfl, fit_b y, by decide⟩) ?_
  rw [os_121_2]
  exact K
theorem gf_121_3 (hf : mmFetch t pc = some (.getfield j, len, 9 :: 3 :: ax)) (K : Ev mmPT t (pc + 3) lv (.int (s.2.1 17) :: st) (mh sc rest s) x) : Ev mmPT t pc lv (.ref 121 :: st) (mh sc rest s) x := Ev.s hf (mmS_get (ob_121 sc rest s) ⟨rfl, by decide⟩ rfl) K
theorem pf_121_3 {y : Int32} (hf : mmFetch t pc = some (.putfield j, len, 9 :: 3 :: 0 :: ax)) (K : Ev mmPT t (pc + 3) lv st (mh sc rest (sG s 17 y)) x) : Ev mmPT t pc lv (.int y :: .ref 121 :: st) (mh sc rest s) x := by
  refine Ev.s hf (mmS_put (ob_121 sc rest s) ⟨rfl, by decide, Nat.le_of_ble_eq_true rfl, rfl, by decide⟩) ?_
  rw [os_121_3]
  exact K
theorem gf_121_4 (hf : mmFetch t pc = some (.getfield j, len, 9 :: 4 :: ax)) (K : Ev mmPT t (pc + 3) lv (.int (s.2.1 18) :: st) (mh sc rest s) x) : Ev mmPT t pc lv (.ref 121 :: st) (mh sc rest s) x := Ev.s hf (mmS_get (ob_121 sc rest s) ⟨rfl, by decide⟩ rfl) K
theorem pf_121_4 {y : Int32} (hf : mmFetch t pc = some (.putfield j, len, 9 :: 4 :: 0 :: ax)) (K : Ev mmPT t (pc + 3) lv st (mh sc rest (sG s 18 y)) x) : Ev mmPT t pc lv (.int y :: .ref 121 :: st) (mh sc rest s) x := by
  refine Ev.s hf (mmS_put (ob_121 sc rest s) ⟨rfl, by decide, Nat.le_of_ble_eq_true rfl, rfl, by decide⟩) ?_
  rw [os_121_4]
  exact K
theorem gf_121_5 (hf : mmFetch t pc = some (.getfield j, len, 9 :: 5 :: ax)) (K : Ev mmPT t (pc + 3) lv (.int (s.2.1 19) :: st) (mh sc rest s) x) : Ev mmPT t pc lv (.ref 121 :: st) (mh sc rest s) x := Ev.s hf (mmS_get (ob_121 sc rest s) ⟨rfl, by decide⟩ rfl) K
theorem pf_121_5 {y : Int32} (hf : mmFetch t pc = some (.putfield j, len, 9 :: 5 :: 0 :: ax)) (K : Ev mmPT t (pc + 3) lv st (mh sc rest (sG s 19 y)) x) : Ev mmPT t pc lv (.int y :: .ref 121 :: st) (mh sc rest s) x := by
  refine Ev.s hf (mmS_put (ob_121 sc rest s) ⟨rfl, by decide, Nat.le_of_ble_eq_true rfl, rfl, by decide⟩) ?_
  rw [os_121_5]
  exact K
theorem gf_121_6 (hf : mmFetch t pc = some (.getfield j, len, 9 :: 6 :: ax)) (K : Ev mmPT t (pc + 3) lv (.int (s.2.1 20) :: st) (mh sc rest s) x) : Ev mmPT t pc lv (.ref 121 :: st) (mh sc rest s) x := Ev.s hf (mmS_get (ob_121 sc rest s) ⟨rfl, by decide⟩ rfl) K
theorem pf_121_6 {y : Int32} (hf : mmFetch t pc = some (.putfield j, len, 9 :: 6 :: 0 :: ax)) (K : Ev mmPT t (pc + 3) lv st (mh sc rest (sG s 20 y)) x) : Ev mmPT t pc lv (.int y :: .ref 121 :: st) (mh sc rest s) x := by
  refine Ev.s hf (mmS_put (ob_121 sc rest s) ⟨rfl, by decide, Nat.le_of_ble_eq_true rfl, rfl, by decide⟩) ?_
  rw [os_121_6]
  exact K
theorem gf_121_7 (hf : mmFetch t pc = some (.getfield j, len, 9 :: 7 :: ax)) (K : Ev mmPT t (pc + 3) lv (.int (s.2.1 21) :: st) (mh sc rest s) x) : Ev mmPT t pc lv (.ref 121 :: st) (mh sc rest s) x := Ev.s hf (mmS_get (ob_121 sc rest s) ⟨rfl, by decide⟩ rfl) K
theorem pf_121_7 {y : Int32} (hf : mmFetch t pc = some (.putfield j, len, 9 :: 7 :: 0 :: ax)) (K : Ev mmPT t (pc + 3) lv st (mh sc rest (sG s 21 y)) x) : Ev mmPT t pc lv (.int y :: .ref 121 :: st) (mh sc rest s) x := by
  refine Ev.s hf (mmS_put (ob_121 sc rest s) ⟨rfl, by decide, Nat.le_of_ble_eq_true rfl, rfl, by decide⟩) ?_
  rw [os_121_7]
  exact K
theorem gf_126_0 (hf : mmFetch t pc = some (.getfield j, len, 9 :: 0 :: ax)) (K : Ev mmPT t (pc + 3) lv (.ref 129 :: st) (mh sc rest s) x) : Ev mmPT t pc lv (.ref 126 :: st) (mh sc rest s) x := Ev.s hf (mmS_get (ob_126 sc rest s) ⟨rfl, by decide⟩ rfl) K
theorem gf_126_1 (hf : mmFetch t pc = some (.getfield j, len, 9 :: 1 :: ax)) (K : Ev mmPT t (pc + 3) lv (.ref 127 :: st) (mh sc rest s) x) : Ev mmPT t pc lv (.ref 126 :: st) (mh sc rest s) x := Ev.s hf (mmS_get (ob_126 sc rest s) ⟨rfl, by decide⟩ rfl) K
theorem gf_126_2 (hf : mmFetch t pc = some (.getfield j, len, 9 :: 2 :: ax)) (K : Ev mmPT t (pc + 3) lv (.int (b2i (s.2.2.1 3)) :: st) (mh sc rest s) x) : Ev mmPT t pc lv (.ref 126 :: st) (mh sc rest s) x := Ev.s hf (mmS_get (ob_126 sc rest s) ⟨rfl, by decide⟩ rfl) K
theorem pf_126_2 {y : Bool} (hf : mmFetch t pc = some (.putfield j, len, 9 :: 2 :: 1 :: ax)) (K : Ev mmPT t (pc + 3) lv st (mh sc rest (sB s 3 y)) x) : Ev mmPT t pc lv (.int (b2i y) :: .ref 126 :: st) (mh sc rest s) x := by
  refine Ev.s hf (mmS_put (ob_126 sc rest s) ⟨rfl, by decide, Nat.le_of_ble_eq_true rfl, fit_b y, by decide⟩) ?_
  rw [os_126_2]
  exact K
theorem gf_126_3 (hf : mmFetch t pc = some (.getfield j, len, 9 :: 3 :: ax)) (K : Ev mmPT t (pc + 3) lv (.int (s.2.1 22) :: st) (mh sc rest s) x) : Ev mmPT t pc lv (.ref 126 :: st) (mh sc rest s) x := Ev.s hf (mmS_get (ob_126 sc rest s) ⟨rfl, by decide⟩ rfl) K
theorem pf_126_3 {y : Int32} (hf : mmFetch t pc = some (.putfield j, len, 9 :: 3 :: 0 :: ax)) (K : Ev mmPT t (pc + 3) lv st (mh sc rest (sG s 22 y)) x) : Ev mmPT t pc lv (.int y :: .ref 126 :: st) (mh sc rest s) x := by
  refine Ev.s hf (mmS_put (ob_126 sc rest s) ⟨rfl, by decide, Nat.le_of_ble_eq_true rfl, rfl, by decide⟩) ?_
  rw [os_126_3]
  exact K
theorem gf_126_4 (hf : mmFetch t pc = some (.getfield j, len, 9 :: 4 :: ax)) (K : Ev mmPT t (pc + 3) lv (.int (s.2.1 23) :: st) (mh sc rest s) x) : Ev mmPT t pc lv (.ref 126 :: st) (mh sc rest s) x := Ev.s hf (mmS_get (ob_126 sc rest s) ⟨rfl, by decide⟩ rfl) K
theorem pf_126_4 {y : Int32} (hf : mmFetch t pc = some (.putfield j, len, 9 :: 4 :: 0 :: ax)) (K : Ev mmPT t (pc + 3) lv st (mh sc rest (sG s 23 y)) x) : Ev mmPT t pc lv (.int y :: .ref 126 :: st) (mh sc rest s) x := by
  refine Ev.s hf (mmS_put (ob_126 sc rest s) ⟨rfl, by decide, Nat.le_of_ble_eq_true rfl, rfl, by decide⟩) ?_
  rw [os_126_4]
  exact K
theorem gf_126_5 (hf : mmFetch t pc = some (.getfield j, len, 9 :: 5 :: ax)) (K : Ev mmPT t (pc + 3) lv (.int (s.2.1 24) :: st) (mh sc rest s) x) : Ev mmPT t pc lv (.ref 126 :: st) (mh sc rest s) x := Ev.s hf (mmS_get (ob_126 sc rest s) ⟨rfl, by decide⟩ rfl) K
theorem pf_126_5 {y : Int32} (hf : mmFetch t pc = some (.putfield j, len, 9 :: 5 :: 0 :: ax)) (K : Ev mmPT t (pc + 3) lv st (mh sc rest (sG s 24 y)) x) : Ev mmPT t pc lv (.int y :: .ref 126 :: st) (mh sc rest s) x := by
  refine Ev.s hf (mmS_put (ob_126 sc rest s) ⟨rfl, by decide, Nat.le_of_ble_eq_true rfl, rfl, by decide⟩) ?_
  rw [os_126_5]
  exact K
theorem gf_126_6 (hf : mmFetch t pc = some (.getfield j, len, 9 :: 6 :: ax)) (K : Ev mmPT t (pc + 3) lv (.int (s.2.1 25) :: st) (mh sc rest s) x) : Ev mmPT t pc lv (.ref 126 :: st) (mh sc rest s) x := Ev.s hf (mmS_get (ob_126 sc rest s) ⟨rfl, by decide⟩ rfl) K
theorem pf_126_6 {y : Int32} (hf : mmFetch t pc = some (.putfield j, len, 9 :: 6 :: 0 :: ax)) (K : Ev mmPT t (pc + 3) lv st (mh sc rest (sG s 25 y)) x) : Ev mmPT t pc lv (.int y :: .ref 126 :: st) (mh sc rest s) x := by
  refine Ev.s hf (mmS_put (ob_126 sc rest s) ⟨rfl, by decide, Nat.le_of_ble_eq_true rfl, rfl, by decide⟩) ?_
  rw [os_126_6]
  exact K
theorem gf_126_7 (hf : mmFetch t pc = some (.getfield j, len, 9 :: 7 :: ax)) (K : Ev mmPT t (pc + 3) lv (.int (s.2.1 26) :: st) (mh sc rest s) x) : Ev mmPT t pc lv (.ref 126 :: st) (mh sc rest s) x := Ev.s hf (mmS_get (ob_126 sc rest s) ⟨rfl, by decide⟩ rfl) K
theorem pf_126_7 {y : Int32} (hf : mmFetch t pc = some (.putfield j, len, 9 :: 7 :: 0 :: ax)) (K : Ev mmPT t (pc + 3) lv st (mh sc rest (sG s 26 y)) x) : Ev mmPT t pc lv (.int y :: .ref 126 :: st) (mh sc rest s) x := by
  refine Ev.s hf (mmS_put (ob_126 sc rest s) ⟨rfl, by decide, Nat.le_of_ble_eq_true rfl, rfl, by decide⟩) ?_
  rw [os_126_7]
  exact K
theorem gf_131_0 (hf : mmFetch t pc = some (.getfield j, len, 9 :: 0 :: ax)) (K : Ev mmPT t (pc + 3) lv (.ref 134 :: st) (mh sc rest s) x) : Ev mmPT t pc lv (.ref 131 :: st) (mh sc rest s) x := Ev.s hf (mmS_get (ob_131 sc rest s) ⟨rfl, by decide⟩ rfl) K
theorem gf_131_1 (hf : mmFetch t pc = some (.getfield j, len, 9 :: 1 :: ax)) (K : Ev mmPT t (pc + 3) lv (.ref 132 :: st) (mh sc rest s) x) : Ev mmPT t pc lv (.ref 131 :: st) (mh sc rest s) x := Ev.s hf (mmS_get (ob_131 sc rest s) ⟨rfl, by decide⟩ rfl) K
theorem gf_131_2 (hf : mmFetch t pc = some (.getfield j, len, 9 :: 2 :: ax)) (K : Ev mmPT t (pc + 3) lv (.int (b2i (s.2.2.1 4)) :: st) (mh sc rest s) x) : Ev mmPT t pc lv (.ref 131 :: st) (mh sc rest s) x := Ev.s hf (mmS_get (ob_131 sc rest s) ⟨rfl, by decide⟩ rfl) K
theorem pf_131_2 {y : Bool} (hf : mmFetch t pc = some (.putfield j, len, 9 :: 2 :: 1 :: ax)) (K : Ev mmPT t (pc + 3) lv st (mh sc rest (sB s 4 y)) x) : Ev mmPT t pc lv (.int (b2i y) :: .ref 131 :: st) (mh sc rest s) x := by
  refine Ev.s hf (mmS_put (ob_131 sc rest s) ⟨rfl, by decide, Nat.le_of_ble_eq_true rfl, fit_b y, by decide⟩) ?_
  rw [os_131_2]
  exact K
theorem gf_131_3 (hf : mmFetch t pc = some (.getfield j, len, 9 :: 3 :: ax)) (K : Ev mmPT t (pc + 3) lv (.int (s.2.1 27) :: st) (mh sc rest s) x) : Ev mmPT t pc lv (.ref 131 :: st) (mh sc rest s) x := Ev.s hf (mmS_get (ob_131 sc rest s) ⟨rfl, by decide⟩ rfl) K
theorem pf_131_3 {y : Int32} (hf : mmFetch t pc = some (.putfield j, len, 9 :: 3 :: 0 :: ax)) (K : Ev mmPT t (pc + 3) lv st (mh sc rest (sG s 27 y)) x) : Ev mmPT t pc lv (.int y :: .ref 131 :: st) (mh sc rest s) x := by
  refine Ev.s hf (mmS_put (ob_131 sc rest s) ⟨rfl, by decide, Nat.le_of_ble_eq_true rfl, rfl, by decide⟩) ?_
  rw [os_131_3]
  exact K
theorem gf_131_4 (hf : mmFetch t pc = some (.getfield j, len, 9 :: 4 :: ax)) (K : Ev mmPT t (pc + 3) lv (.int (s.2.1 28) :: st) (mh sc rest s) x) : Ev mmPT t pc lv (.ref 131 :: st) (mh sc rest s) x := Ev.s hf (mmS_get (ob_131 sc rest s) ⟨rfl, by decide⟩ rfl) K
theorem pf_131_4 {y : Int32} (hf : mmFetch t pc = some (.putfield j, len, 9 :: 4 :: 0 :: ax)) (K : Ev mmPT t (pc + 3) lv st (mh sc rest (sG s 28 y)) x) : Ev mmPT t pc lv (.int y :: .ref 131 :: st) (mh sc rest s) x := by
  refine Ev.s hf (mmS_put (ob_131 sc rest s) ⟨rfl, by decide, Nat.le_of_ble_eq_true rfl, rfl, by decide⟩) ?_
  rw [os_131_4]
  exact K
theorem gf_131_5 (hf : mmFetch t pc = some (.getfield j, len, 9 :: 5 :: ax)) (K : Ev mmPT t (pc + 3) lv (.int (s.2.1 29) :: st) (mh sc rest s) x) : Ev mmPT t pc lv (.ref 131 :: st) (mh sc rest s) x := Ev.s hf (mmS_get (ob_131 sc rest s) ⟨rfl, by decide⟩ rfl) K
theorem pf_131_5 {y : Int32} (hf : mmFetch t pc = some (.putfield j, len, 9 :: 5 :: 0 :: ax)) (K : Ev mmPT t (pc + 3) lv st (mh sc rest (sG s 29 y)) x) : Ev mmPT t pc lv (.int y :: .ref 131 :: st) (mh sc rest s) x := by
  refine Ev.s hf (mmS_put (ob_131 sc rest s) ⟨rfl, by decide, Nat.le_of_ble_eq_true rfl, rfl, by decide⟩) ?_
  rw [os_131_5]
  exact K
theorem gf_131_6 (hf : mmFetch t pc = some (.getfield j, len, 9 :: 6 :: ax)) (K : Ev mmPT t (pc + 3) lv (.int (s.2.1 30) :: st) (mh sc rest s) x) : Ev mmPT t pc lv (.ref 131 :: st) (mh sc rest s) x := Ev.s hf (mmS_get (ob_131 sc rest s) ⟨rfl, by decide⟩ rfl) K
theorem pf_131_6 {y : Int32} (hf : mmFetch t pc = some (.putfield j, len, 9 :: 6 :: 0 :: ax)) (K : Ev mmPT t (pc + 3) lv st (mh sc rest (sG s 30 y)) x) : Ev mmPT t pc lv (.int y :: .ref 131 :: st) (mh sc rest s) x := by
  refine Ev.s hf (mmS_put (ob_131 sc rest s) ⟨rfl, by decide, Nat.le_of_ble_eq_true rfl, rfl, by decide⟩) ?_
  rw [os_131_6]
  exact K
theorem gf_131_7 (hf : mmFetch t pc = some (.getfield j, len, 9 :: 7 :: ax)) (K : Ev mmPT t (pc + 3) lv (.int (s.2.1 31) :: st) (mh sc rest s) x) : Ev mmPT t pc lv (.ref 131 :: st) (mh sc rest s) x := Ev.s hf (mmS_get (ob_131 sc rest s) ⟨rfl, by decide⟩ rfl) K
theorem pf_131_7 {y : Int32} (hf : mmFetch t pc = some (.putfield j, len, 9 :: 7 :: 0 :: ax)) (K : Ev mmPT t (pc + 3) lv st (mh sc rest (sG s 31 y)) x) : Ev mmPT t pc lv (.int y :: .ref 131 :: st) (mh sc rest s) x := by
  refine Ev.s hf (mmS_put (ob_131 sc rest s) ⟨rfl, by decide, Nat.le_of_ble_eq_true rfl, rfl, by decide⟩) ?_
  rw [os_131_7]
  exact K
theorem at_0 {k : Int32} (hf : mmFetch t pc = some (.invokevirtual j, len, 0 :: 82 :: 2 :: 7 :: ax)) (hw : mmWords st ≤ 8) (K : Ev mmPT t (pc + 3) lv (.int (rat 10 (s.1 0) k) :: st) (mh sc rest s) x) : Ev mmPT t pc lv (.int k :: .ref 3 :: st) (mh sc rest s) x := Ev.cat hf (ro_0 sc rest s) (ra_0 sc rest s) (Nat.le_of_ble_eq_true rfl) hw K
theorem pt_0 {k y : Int32} (hf : mmFetch t pc = some (.invokevirtual j, len, 0 :: 83 :: 3 :: 7 :: ax)) (hw : mmWords st ≤ 8) (K : Ev mmPT t (pc + 3) lv st (mh sc rest (sR s 0 (rput 10 (s.1 0) k y))) x) : Ev mmPT t pc lv (.int y :: .int k :: .ref 3 :: st) (mh sc rest s) x := by
  refine Ev.cput hf (ro_0 sc rest s) (ra_0 sc rest s) (Nat.le_of_ble_eq_true rfl) (Nat.le_of_ble_eq_true rfl) hw ?_
  rw [rs_0]
  exact K
theorem at_1 {k : Int32} (hf : mmFetch t pc = some (.invokevirtual j, len, 0 :: 82 :: 2 :: 7 :: ax)) (hw : mmWords st ≤ 8) (K : Ev mmPT t (pc + 3) lv (.int (rat 80 (s.1 1) k) :: st) (mh sc rest s) x) : Ev mmPT t pc lv (.int k :: .ref 5 :: st) (mh sc rest s) x := Ev.cat hf (ro_1 sc rest s) (ra_1 sc rest s) (Nat.le_of_ble_eq_true rfl) hw K
theorem pt_1 {k y : Int32} (hf : mmFetch t pc = some (.invokevirtual j, len, 0 :: 83 :: 3 :: 7 :: ax)) (hw : mmWords st ≤ 8) (K : Ev mmPT t (pc + 3) lv st (mh sc rest (sR s 1 (rput 80 (s.1 1) k y))) x) : Ev mmPT t pc lv (.int y :: .int k :: .ref 5 :: st) (mh sc rest s) x := by
  refine Ev.cput hf (ro_1 sc rest s) (ra_1 sc rest s) (Nat.le_of_ble_eq_true rfl) (Nat.le_of_ble_eq_true rfl) hw ?_
  rw [rs_1]
  exact K
theorem at_2 {k : Int32} (hf : mmFetch t pc = some (.invokevirtual j, len, 0 :: 82 :: 2 :: 7 :: ax)) (hw : mmWords st ≤ 8) (K : Ev mmPT t (pc + 3) lv (.int (rat 80 (s.1 2) k) :: st) (mh sc rest s) x) : Ev mmPT t pc lv (.int k :: .ref 7 :: st) (mh sc rest s) x := Ev.cat hf (ro_2 sc rest s) (ra_2 sc rest s) (Nat.le_of_ble_eq_true rfl) hw K
theorem pt_2 {k y : Int32} (hf : mmFetch t pc = some (.invokevirtual j, len, 0 :: 83 :: 3 :: 7 :: ax)) (hw : mmWords st ≤ 8) (K : Ev mmPT t (pc + 3) lv st (mh sc rest (sR s 2 (rput 80 (s.1 2) k y))) x) : Ev mmPT t pc lv (.int y :: .int k :: .ref 7 :: st) (mh sc rest s) x := by
  refine Ev.cput hf (ro_2 sc rest s) (ra_2 sc rest s) (Nat.le_of_ble_eq_true rfl) (Nat.le_of_ble_eq_true rfl) hw ?_
  rw [rs_2]
  exact K
theorem at_3 {k : Int32} (hf : mmFetch t pc = some (.invokevirtual j, len, 0 :: 82 :: 2 :: 7 :: ax)) (hw : mmWords st ≤ 8) (K : Ev mmPT t (pc + 3) lv (.int (rat 80 (s.1 3) k) :: st) (mh sc rest s) x) : Ev mmPT t pc lv (.int k :: .ref 9 :: st) (mh sc rest s) x := Ev.cat hf (ro_3 sc rest s) (ra_3 sc rest s) (Nat.le_of_ble_eq_true rfl) hw K
theorem pt_3 {k y : Int32} (hf : mmFetch t pc = some (.invokevirtual j, len, 0 :: 83 :: 3 :: 7 :: ax)) (hw : mmWords st ≤ 8) (K : Ev mmPT t (pc + 3) lv st (mh sc rest (sR s 3 (rput 80 (s.1 3) k y))) x) : Ev mmPT t pc lv (.int y :: .int k :: .ref 9 :: st) (mh sc rest s) x := by
  refine Ev.cput hf (ro_3 sc rest s) (ra_3 sc rest s) (Nat.le_of_ble_eq_true rfl) (Nat.le_of_ble_eq_true rfl) hw ?_
  rw [rs_3]
  exact K
theorem at_4 {k : Int32} (hf : mmFetch t pc = some (.invokevirtual j, len, 0 :: 82 :: 2 :: 7 :: ax)) (hw : mmWords st ≤ 8) (K : Ev mmPT t (pc + 3) lv (.int (rat 80 (s.1 4) k) :: st) (mh sc rest s) x) : Ev mmPT t pc lv (.int k :: .ref 11 :: st) (mh sc rest s) x := Ev.cat hf (ro_4 sc rest s) (ra_4 sc rest s) (Nat.le_of_ble_eq_true rfl) hw K
theorem pt_4 {k y : Int32} (hf : mmFetch t pc = some (.invokevirtual j, len, 0 :: 83 :: 3 :: 7 :: ax)) (hw : mmWords st ≤ 8) (K : Ev mmPT t (pc + 3) lv st (mh sc rest (sR s 4 (rput 80 (s.1 4) k y))) x) : Ev mmPT t pc lv (.int y :: .int k :: .ref 11 :: st) (mh sc rest s) x := by
  refine Ev.cput hf (ro_4 sc rest s) (ra_4 sc rest s) (Nat.le_of_ble_eq_true rfl) (Nat.le_of_ble_eq_true rfl) hw ?_
  rw [rs_4]
  exact K
theorem at_5 {k : Int32} (hf : mmFetch t pc = some (.invokevirtual j, len, 0 :: 82 :: 2 :: 7 :: ax)) (hw : mmWords st ≤ 8) (K : Ev mmPT t (pc + 3) lv (.int (rat 10 (s.1 5) k) :: st) (mh sc rest s) x) : Ev mmPT t pc lv (.int k :: .ref 13 :: st) (mh sc rest s) x := Ev.cat hf (ro_5 sc rest s) (ra_5 sc rest s) (Nat.le_of_ble_eq_true rfl) hw K
theorem pt_5 {k y : Int32} (hf : mmFetch t pc = some (.invokevirtual j, len, 0 :: 83 :: 3 :: 7 :: ax)) (hw : mmWords st ≤ 8) (K : Ev mmPT t (pc + 3) lv st (mh sc rest (sR s 5 (rput 10 (s.1 5) k y))) x) : Ev mmPT t pc lv (.int y :: .int k :: .ref 13 :: st) (mh sc rest s) x := by
  refine Ev.cput hf (ro_5 sc rest s) (ra_5 sc rest s) (Nat.le_of_ble_eq_true rfl) (Nat.le_of_ble_eq_true rfl) hw ?_
  rw [rs_5]
  exact K
theorem at_6 {k : Int32} (hf : mmFetch t pc = some (.invokevirtual j, len, 0 :: 82 :: 2 :: 7 :: ax)) (hw : mmWords st ≤ 8) (K : Ev mmPT t (pc + 3) lv (.int (rat 10 (s.1 6) k) :: st) (mh sc rest s) x) : Ev mmPT t pc lv (.int k :: .ref 15 :: st) (mh sc rest s) x := Ev.cat hf (ro_6 sc rest s) (ra_6 sc rest s) (Nat.le_of_ble_eq_true rfl) hw K
theorem pt_6 {k y : Int32} (hf : mmFetch t pc = some (.invokevirtual j, len, 0 :: 83 :: 3 :: 7 :: ax)) (hw : mmWords st ≤ 8) (K : Ev mmPT t (pc + 3) lv st (mh sc rest (sR s 6 (rput 10 (s.1 6) k y))) x) : Ev mmPT t pc lv (.int y :: .int k :: .ref 15 :: st) (mh sc rest s) x := by
  refine Ev.cput hf (ro_6 sc rest s) (ra_6 sc rest s) (Nat.le_of_ble_eq_true rfl) (Nat.le_of_ble_eq_true rfl) hw ?_
  rw [rs_6]
  exact K
theorem at_7 {k : Int32} (hf : mmFetch t pc = some (.invokevirtual j, len, 0 :: 82 :: 2 :: 7 :: ax)) (hw : mmWords st ≤ 8) (K : Ev mmPT t (pc + 3) lv (.int (rat 20 (s.1 7) k) :: st) (mh sc rest s) x) : Ev mmPT t pc lv (.int k :: .ref 17 :: st) (mh sc rest s) x := Ev.cat hf (ro_7 sc rest s) (ra_7 sc rest s) (Nat.le_of_ble_eq_true rfl) hw K
theorem pt_7 {k y : Int32} (hf : mmFetch t pc = some (.invokevirtual j, len, 0 :: 83 :: 3 :: 7 :: ax)) (hw : mmWords st ≤ 8) (K : Ev mmPT t (pc + 3) lv st (mh sc rest (sR s 7 (rput 20 (s.1 7) k y))) x) : Ev mmPT t pc lv (.int y :: .int k :: .ref 17 :: st) (mh sc rest s) x := by
  refine Ev.cput hf (ro_7 sc rest s) (ra_7 sc rest s) (Nat.le_of_ble_eq_true rfl) (Nat.le_of_ble_eq_true rfl) hw ?_
  rw [rs_7]
  exact K
theorem at_8 {k : Int32} (hf : mmFetch t pc = some (.invokevirtual j, len, 0 :: 82 :: 2 :: 7 :: ax)) (hw : mmWords st ≤ 8) (K : Ev mmPT t (pc + 3) lv (.int (rat 10 (s.1 8) k) :: st) (mh sc rest s) x) : Ev mmPT t pc lv (.int k :: .ref 19 :: st) (mh sc rest s) x := Ev.cat hf (ro_8 sc rest s) (ra_8 sc rest s) (Nat.le_of_ble_eq_true rfl) hw K
theorem pt_8 {k y : Int32} (hf : mmFetch t pc = some (.invokevirtual j, len, 0 :: 83 :: 3 :: 7 :: ax)) (hw : mmWords st ≤ 8) (K : Ev mmPT t (pc + 3) lv st (mh sc rest (sR s 8 (rput 10 (s.1 8) k y))) x) : Ev mmPT t pc lv (.int y :: .int k :: .ref 19 :: st) (mh sc rest s) x := by
  refine Ev.cput hf (ro_8 sc rest s) (ra_8 sc rest s) (Nat.le_of_ble_eq_true rfl) (Nat.le_of_ble_eq_true rfl) hw ?_
  rw [rs_8]
  exact K
theorem at_9 {k : Int32} (hf : mmFetch t pc = some (.invokevirtual j, len, 0 :: 82 :: 2 :: 7 :: ax)) (hw : mmWords st ≤ 8) (K : Ev mmPT t (pc + 3) lv (.int (rat 10 (s.1 9) k) :: st) (mh sc rest s) x) : Ev mmPT t pc lv (.int k :: .ref 21 :: st) (mh sc rest s) x := Ev.cat hf (ro_9 sc rest s) (ra_9 sc rest s) (Nat.le_of_ble_eq_true rfl) hw K
theorem pt_9 {k y : Int32} (hf : mmFetch t pc = some (.invokevirtual j, len, 0 :: 83 :: 3 :: 7 :: ax)) (hw : mmWords st ≤ 8) (K : Ev mmPT t (pc + 3) lv st (mh sc rest (sR s 9 (rput 10 (s.1 9) k y))) x) : Ev mmPT t pc lv (.int y :: .int k :: .ref 21 :: st) (mh sc rest s) x := by
  refine Ev.cput hf (ro_9 sc rest s) (ra_9 sc rest s) (Nat.le_of_ble_eq_true rfl) (Nat.le_of_ble_eq_true rfl) hw ?_
  rw [rs_9]
  exact K
theorem at_10 {k : Int32} (hf : mmFetch t pc = some (.invokevirtual j, len, 0 :: 82 :: 2 :: 7 :: ax)) (hw : mmWords st ≤ 8) (K : Ev mmPT t (pc + 3) lv (.int (rat 10 (s.1 10) k) :: st) (mh sc rest s) x) : Ev mmPT t pc lv (.int k :: .ref 23 :: st) (mh sc rest s) x := Ev.cat hf (ro_10 sc rest s) (ra_10 sc rest s) (Nat.le_of_ble_eq_true rfl) hw K
theorem pt_10 {k y : Int32} (hf : mmFetch t pc = some (.invokevirtual j, len, 0 :: 83 :: 3 :: 7 :: ax)) (hw : mmWords st ≤ 8) (K : Ev mmPT t (pc + 3) lv st (mh sc rest (sR s 10 (rput 10 (s.1 10) k y))) x) : Ev mmPT t pc lv (.int y :: .int k :: .ref 23 :: st) (mh sc rest s) x := by
  refine Ev.cput hf (ro_10 sc rest s) (ra_10 sc rest s) (Nat.le_of_ble_eq_true rfl) (Nat.le_of_ble_eq_true rfl) hw ?_
  rw [rs_10]
  exact K
theorem at_11 {k : Int32} (hf : mmFetch t pc = some (.invokevirtual j, len, 0 :: 82 :: 2 :: 7 :: ax)) (hw : mmWords st ≤ 8) (K : Ev mmPT t (pc + 3) lv (.int (rat 10 (s.1 11) k) :: st) (mh sc rest s) x) : Ev mmPT t pc lv (.int k :: .ref 26 :: st) (mh sc rest s) x := Ev.cat hf (ro_11 sc rest s) (ra_11 sc rest s) (Nat.le_of_ble_eq_true rfl) hw K
theorem pt_11 {k y : Int32} (hf : mmFetch t pc = some (.invokevirtual j, len, 0 :: 83 :: 3 :: 7 :: ax)) (hw : mmWords st ≤ 8) (K : Ev mmPT t (pc + 3) lv st (mh sc rest (sR s 11 (rput 10 (s.1 11) k y))) x) : Ev mmPT t pc lv (.int y :: .int k :: .ref 26 :: st) (mh sc rest s) x := by
  refine Ev.cput hf (ro_11 sc rest s) (ra_11 sc rest s) (Nat.le_of_ble_eq_true rfl) (Nat.le_of_ble_eq_true rfl) hw ?_
  rw [rs_11]
  exact K
theorem at_12 {k : Int32} (hf : mmFetch t pc = some (.invokevirtual j, len, 0 :: 82 :: 2 :: 7 :: ax)) (hw : mmWords st ≤ 8) (K : Ev mmPT t (pc + 3) lv (.int (rat 10 (s.1 12) k) :: st) (mh sc rest s) x) : Ev mmPT t pc lv (.int k :: .ref 28 :: st) (mh sc rest s) x := Ev.cat hf (ro_12 sc rest s) (ra_12 sc rest s) (Nat.le_of_ble_eq_true rfl) hw K
theorem pt_12 {k y : Int32} (hf : mmFetch t pc = some (.invokevirtual j, len, 0 :: 83 :: 3 :: 7 :: ax)) (hw : mmWords st ≤ 8) (K : Ev mmPT t (pc + 3) lv st (mh sc rest (sR s 12 (rput 10 (s.1 12) k y))) x) : Ev mmPT t pc lv (.int y :: .int k :: .ref 28 :: st) (mh sc rest s) x := by
  refine Ev.cput hf (ro_12 sc rest s) (ra_12 sc rest s) (Nat.le_of_ble_eq_true rfl) (Nat.le_of_ble_eq_true rfl) hw ?_
  rw [rs_12]
  exact K
theorem at_13 {k : Int32} (hf : mmFetch t pc = some (.invokevirtual j, len, 0 :: 82 :: 2 :: 7 :: ax)) (hw : mmWords st ≤ 8) (K : Ev mmPT t (pc + 3) lv (.int (rat 10 (s.1 13) k) :: st) (mh sc rest s) x) : Ev mmPT t pc lv (.int k :: .ref 30 :: st) (mh sc rest s) x := Ev.cat hf (ro_13 sc rest s) (ra_13 sc rest s) (Nat.le_of_ble_eq_true rfl) hw K
theorem pt_13 {k y : Int32} (hf : mmFetch t pc = some (.invokevirtual j, len, 0 :: 83 :: 3 :: 7 :: ax)) (hw : mmWords st ≤ 8) (K : Ev mmPT t (pc + 3) lv st (mh sc rest (sR s 13 (rput 10 (s.1 13) k y))) x) : Ev mmPT t pc lv (.int y :: .int k :: .ref 30 :: st) (mh sc rest s) x := by
  refine Ev.cput hf (ro_13 sc rest s) (ra_13 sc rest s) (Nat.le_of_ble_eq_true rfl) (Nat.le_of_ble_eq_true rfl) hw ?_
  rw [rs_13]
  exact K
theorem at_14 {k : Int32} (hf : mmFetch t pc = some (.invokevirtual j, len, 0 :: 82 :: 2 :: 7 :: ax)) (hw : mmWords st ≤ 8) (K : Ev mmPT t (pc + 3) lv (.int (rat 10 (s.1 14) k) :: st) (mh sc rest s) x) : Ev mmPT t pc lv (.int k :: .ref 32 :: st) (mh sc rest s) x := Ev.cat hf (ro_14 sc rest s) (ra_14 sc rest s) (Nat.le_of_ble_eq_true rfl) hw K
theorem pt_14 {k y : Int32} (hf : mmFetch t pc = some (.invokevirtual j, len, 0 :: 83 :: 3 :: 7 :: ax)) (hw : mmWords st ≤ 8) (K : Ev mmPT t (pc + 3) lv st (mh sc rest (sR s 14 (rput 10 (s.1 14) k y))) x) : Ev mmPT t pc lv (.int y :: .int k :: .ref 32 :: st) (mh sc rest s) x := by
  refine Ev.cput hf (ro_14 sc rest s) (ra_14 sc rest s) (Nat.le_of_ble_eq_true rfl) (Nat.le_of_ble_eq_true rfl) hw ?_
  rw [rs_14]
  exact K
theorem at_15 {k : Int32} (hf : mmFetch t pc = some (.invokevirtual j, len, 0 :: 82 :: 2 :: 7 :: ax)) (hw : mmWords st ≤ 8) (K : Ev mmPT t (pc + 3) lv (.int (rat 140 (s.1 15) k) :: st) (mh sc rest s) x) : Ev mmPT t pc lv (.int k :: .ref 35 :: st) (mh sc rest s) x := Ev.cat hf (ro_15 sc rest s) (ra_15 sc rest s) (Nat.le_of_ble_eq_true rfl) hw K
theorem pt_15 {k y : Int32} (hf : mmFetch t pc = some (.invokevirtual j, len, 0 :: 83 :: 3 :: 7 :: ax)) (hw : mmWords st ≤ 8) (K : Ev mmPT t (pc + 3) lv st (mh sc rest (sR s 15 (rput 140 (s.1 15) k y))) x) : Ev mmPT t pc lv (.int y :: .int k :: .ref 35 :: st) (mh sc rest s) x := by
  refine Ev.cput hf (ro_15 sc rest s) (ra_15 sc rest s) (Nat.le_of_ble_eq_true rfl) (Nat.le_of_ble_eq_true rfl) hw ?_
  rw [rs_15]
  exact K
theorem at_16 {k : Int32} (hf : mmFetch t pc = some (.invokevirtual j, len, 0 :: 82 :: 2 :: 7 :: ax)) (hw : mmWords st ≤ 8) (K : Ev mmPT t (pc + 3) lv (.int (rat 140 (s.1 16) k) :: st) (mh sc rest s) x) : Ev mmPT t pc lv (.int k :: .ref 37 :: st) (mh sc rest s) x := Ev.cat hf (ro_16 sc rest s) (ra_16 sc rest s) (Nat.le_of_ble_eq_true rfl) hw K
theorem pt_16 {k y : Int32} (hf : mmFetch t pc = some (.invokevirtual j, len, 0 :: 83 :: 3 :: 7 :: ax)) (hw : mmWords st ≤ 8) (K : Ev mmPT t (pc + 3) lv st (mh sc rest (sR s 16 (rput 140 (s.1 16) k y))) x) : Ev mmPT t pc lv (.int y :: .int k :: .ref 37 :: st) (mh sc rest s) x := by
  refine Ev.cput hf (ro_16 sc rest s) (ra_16 sc rest s) (Nat.le_of_ble_eq_true rfl) (Nat.le_of_ble_eq_true rfl) hw ?_
  rw [rs_16]
  exact K
theorem at_17 {k : Int32} (hf : mmFetch t pc = some (.invokevirtual j, len, 0 :: 82 :: 2 :: 7 :: ax)) (hw : mmWords st ≤ 8) (K : Ev mmPT t (pc + 3) lv (.int (rat 140 (s.1 17) k) :: st) (mh sc rest s) x) : Ev mmPT t pc lv (.int k :: .ref 39 :: st) (mh sc rest s) x := Ev.cat hf (ro_17 sc rest s) (ra_17 sc rest s) (Nat.le_of_ble_eq_true rfl) hw K
theorem pt_17 {k y : Int32} (hf : mmFetch t pc = some (.invokevirtual j, len, 0 :: 83 :: 3 :: 7 :: ax)) (hw : mmWords st ≤ 8) (K : Ev mmPT t (pc + 3) lv st (mh sc rest (sR s 17 (rput 140 (s.1 17) k y))) x) : Ev mmPT t pc lv (.int y :: .int k :: .ref 39 :: st) (mh sc rest s) x := by
  refine Ev.cput hf (ro_17 sc rest s) (ra_17 sc rest s) (Nat.le_of_ble_eq_true rfl) (Nat.le_of_ble_eq_true rfl) hw ?_
  rw [rs_17]
  exact K
theorem at_18 {k : Int32} (hf : mmFetch t pc = some (.invokevirtual j, len, 0 :: 82 :: 2 :: 7 :: ax)) (hw : mmWords st ≤ 8) (K : Ev mmPT t (pc + 3) lv (.int (rat 150 (s.1 18) k) :: st) (mh sc rest s) x) : Ev mmPT t pc lv (.int k :: .ref 41 :: st) (mh sc rest s) x := Ev.cat hf (ro_18 sc rest s) (ra_18 sc rest s) (Nat.le_of_ble_eq_true rfl) hw K
theorem pt_18 {k y : Int32} (hf : mmFetch t pc = some (.invokevirtual j, len, 0 :: 83 :: 3 :: 7 :: ax)) (hw : mmWords st ≤ 8) (K : Ev mmPT t (pc + 3) lv st (mh sc rest (sR s 18 (rput 150 (s.1 18) k y))) x) : Ev mmPT t pc lv (.int y :: .int k :: .ref 41 :: st) (mh sc rest s) x := by
  refine Ev.cput hf (ro_18 sc rest s) (ra_18 sc rest s) (Nat.le_of_ble_eq_true rfl) (Nat.le_of_ble_eq_true rfl) hw ?_
  rw [rs_18]
  exact K
theorem at_19 {k : Int32} (hf : mmFetch t pc = some (.invokevirtual j, len, 0 :: 82 :: 2 :: 7 :: ax)) (hw : mmWords st ≤ 8) (K : Ev mmPT t (pc + 3) lv (.int (rat 150 (s.1 19) k) :: st) (mh sc rest s) x) : Ev mmPT t pc lv (.int k :: .ref 43 :: st) (mh sc rest s) x := Ev.cat hf (ro_19 sc rest s) (ra_19 sc rest s) (Nat.le_of_ble_eq_true rfl) hw K
theorem pt_19 {k y : Int32} (hf : mmFetch t pc = some (.invokevirtual j, len, 0 :: 83 :: 3 :: 7 :: ax)) (hw : mmWords st ≤ 8) (K : Ev mmPT t (pc + 3) lv st (mh sc rest (sR s 19 (rput 150 (s.1 19) k y))) x) : Ev mmPT t pc lv (.int y :: .int k :: .ref 43 :: st) (mh sc rest s) x := by
  refine Ev.cput hf (ro_19 sc rest s) (ra_19 sc rest s) (Nat.le_of_ble_eq_true rfl) (Nat.le_of_ble_eq_true rfl) hw ?_
  rw [rs_19]
  exact K
theorem at_20 {k : Int32} (hf : mmFetch t pc = some (.invokevirtual j, len, 0 :: 82 :: 2 :: 7 :: ax)) (hw : mmWords st ≤ 8) (K : Ev mmPT t (pc + 3) lv (.int (rat 290 (s.1 20) k) :: st) (mh sc rest s) x) : Ev mmPT t pc lv (.int k :: .ref 45 :: st) (mh sc rest s) x := Ev.cat hf (ro_20 sc rest s) (ra_20 sc rest s) (Nat.le_of_ble_eq_true rfl) hw K
theorem pt_20 {k y : Int32} (hf : mmFetch t pc = some (.invokevirtual j, len, 0 :: 83 :: 3 :: 7 :: ax)) (hw : mmWords st ≤ 8) (K : Ev mmPT t (pc + 3) lv st (mh sc rest (sR s 20 (rput 290 (s.1 20) k y))) x) : Ev mmPT t pc lv (.int y :: .int k :: .ref 45 :: st) (mh sc rest s) x := by
  refine Ev.cput hf (ro_20 sc rest s) (ra_20 sc rest s) (Nat.le_of_ble_eq_true rfl) (Nat.le_of_ble_eq_true rfl) hw ?_
  rw [rs_20]
  exact K
theorem at_21 {k : Int32} (hf : mmFetch t pc = some (.invokevirtual j, len, 0 :: 82 :: 2 :: 7 :: ax)) (hw : mmWords st ≤ 8) (K : Ev mmPT t (pc + 3) lv (.int (rat 290 (s.1 21) k) :: st) (mh sc rest s) x) : Ev mmPT t pc lv (.int k :: .ref 47 :: st) (mh sc rest s) x := Ev.cat hf (ro_21 sc rest s) (ra_21 sc rest s) (Nat.le_of_ble_eq_true rfl) hw K
theorem pt_21 {k y : Int32} (hf : mmFetch t pc = some (.invokevirtual j, len, 0 :: 83 :: 3 :: 7 :: ax)) (hw : mmWords st ≤ 8) (K : Ev mmPT t (pc + 3) lv st (mh sc rest (sR s 21 (rput 290 (s.1 21) k y))) x) : Ev mmPT t pc lv (.int y :: .int k :: .ref 47 :: st) (mh sc rest s) x := by
  refine Ev.cput hf (ro_21 sc rest s) (ra_21 sc rest s) (Nat.le_of_ble_eq_true rfl) (Nat.le_of_ble_eq_true rfl) hw ?_
  rw [rs_21]
  exact K
theorem at_22 {k : Int32} (hf : mmFetch t pc = some (.invokevirtual j, len, 0 :: 82 :: 2 :: 7 :: ax)) (hw : mmWords st ≤ 8) (K : Ev mmPT t (pc + 3) lv (.int (rat 10 (s.1 22) k) :: st) (mh sc rest s) x) : Ev mmPT t pc lv (.int k :: .ref 49 :: st) (mh sc rest s) x := Ev.cat hf (ro_22 sc rest s) (ra_22 sc rest s) (Nat.le_of_ble_eq_true rfl) hw K
theorem pt_22 {k y : Int32} (hf : mmFetch t pc = some (.invokevirtual j, len, 0 :: 83 :: 3 :: 7 :: ax)) (hw : mmWords st ≤ 8) (K : Ev mmPT t (pc + 3) lv st (mh sc rest (sR s 22 (rput 10 (s.1 22) k y))) x) : Ev mmPT t pc lv (.int y :: .int k :: .ref 49 :: st) (mh sc rest s) x := by
  refine Ev.cput hf (ro_22 sc rest s) (ra_22 sc rest s) (Nat.le_of_ble_eq_true rfl) (Nat.le_of_ble_eq_true rfl) hw ?_
  rw [rs_22]
  exact K
theorem at_23 {k : Int32} (hf : mmFetch t pc = some (.invokevirtual j, len, 0 :: 82 :: 2 :: 7 :: ax)) (hw : mmWords st ≤ 8) (K : Ev mmPT t (pc + 3) lv (.int (rat 1400 (s.1 23) k) :: st) (mh sc rest s) x) : Ev mmPT t pc lv (.int k :: .ref 51 :: st) (mh sc rest s) x := Ev.cat hf (ro_23 sc rest s) (ra_23 sc rest s) (Nat.le_of_ble_eq_true rfl) hw K
theorem pt_23 {k y : Int32} (hf : mmFetch t pc = some (.invokevirtual j, len, 0 :: 83 :: 3 :: 7 :: ax)) (hw : mmWords st ≤ 8) (K : Ev mmPT t (pc + 3) lv st (mh sc rest (sR s 23 (rput 1400 (s.1 23) k y))) x) : Ev mmPT t pc lv (.int y :: .int k :: .ref 51 :: st) (mh sc rest s) x := by
  refine Ev.cput hf (ro_23 sc rest s) (ra_23 sc rest s) (Nat.le_of_ble_eq_true rfl) (Nat.le_of_ble_eq_true rfl) hw ?_
  rw [rs_23]
  exact K
theorem at_24 {k : Int32} (hf : mmFetch t pc = some (.invokevirtual j, len, 0 :: 82 :: 2 :: 7 :: ax)) (hw : mmWords st ≤ 8) (K : Ev mmPT t (pc + 3) lv (.int (rat 10 (s.1 24) k) :: st) (mh sc rest s) x) : Ev mmPT t pc lv (.int k :: .ref 53 :: st) (mh sc rest s) x := Ev.cat hf (ro_24 sc rest s) (ra_24 sc rest s) (Nat.le_of_ble_eq_true rfl) hw K
theorem pt_24 {k y : Int32} (hf : mmFetch t pc = some (.invokevirtual j, len, 0 :: 83 :: 3 :: 7 :: ax)) (hw : mmWords st ≤ 8) (K : Ev mmPT t (pc + 3) lv st (mh sc rest (sR s 24 (rput 10 (s.1 24) k y))) x) : Ev mmPT t pc lv (.int y :: .int k :: .ref 53 :: st) (mh sc rest s) x := by
  refine Ev.cput hf (ro_24 sc rest s) (ra_24 sc rest s) (Nat.le_of_ble_eq_true rfl) (Nat.le_of_ble_eq_true rfl) hw ?_
  rw [rs_24]
  exact K
theorem at_25 {k : Int32} (hf : mmFetch t pc = some (.invokevirtual j, len, 0 :: 82 :: 2 :: 7 :: ax)) (hw : mmWords st ≤ 8) (K : Ev mmPT t (pc + 3) lv (.int (rat 200 (s.1 25) k) :: st) (mh sc rest s) x) : Ev mmPT t pc lv (.int k :: .ref 55 :: st) (mh sc rest s) x := Ev.cat hf (ro_25 sc rest s) (ra_25 sc rest s) (Nat.le_of_ble_eq_true rfl) hw K
theorem pt_25 {k y : Int32} (hf : mmFetch t pc = some (.invokevirtual j, len, 0 :: 83 :: 3 :: 7 :: ax)) (hw : mmWords st ≤ 8) (K : Ev mmPT t (pc + 3) lv st (mh sc rest (sR s 25 (rput 200 (s.1 25) k y))) x) : Ev mmPT t pc lv (.int y :: .int k :: .ref 55 :: st) (mh sc rest s) x := by
  refine Ev.cput hf (ro_25 sc rest s) (ra_25 sc rest s) (Nat.le_of_ble_eq_true rfl) (Nat.le_of_ble_eq_true rfl) hw ?_
  rw [rs_25]
  exact K
theorem at_26 {k : Int32} (hf : mmFetch t pc = some (.invokevirtual j, len, 0 :: 82 :: 2 :: 7 :: ax)) (hw : mmWords st ≤ 8) (K : Ev mmPT t (pc + 3) lv (.int (rat 10 (s.1 26) k) :: st) (mh sc rest s) x) : Ev mmPT t pc lv (.int k :: .ref 57 :: st) (mh sc rest s) x := Ev.cat hf (ro_26 sc rest s) (ra_26 sc rest s) (Nat.le_of_ble_eq_true rfl) hw K
theorem pt_26 {k y : Int32} (hf : mmFetch t pc = some (.invokevirtual j, len, 0 :: 83 :: 3 :: 7 :: ax)) (hw : mmWords st ≤ 8) (K : Ev mmPT t (pc + 3) lv st (mh sc rest (sR s 26 (rput 10 (s.1 26) k y))) x) : Ev mmPT t pc lv (.int y :: .int k :: .ref 57 :: st) (mh sc rest s) x := by
  refine Ev.cput hf (ro_26 sc rest s) (ra_26 sc rest s) (Nat.le_of_ble_eq_true rfl) (Nat.le_of_ble_eq_true rfl) hw ?_
  rw [rs_26]
  exact K
theorem at_27 {k : Int32} (hf : mmFetch t pc = some (.invokevirtual j, len, 0 :: 82 :: 2 :: 7 :: ax)) (hw : mmWords st ≤ 8) (K : Ev mmPT t (pc + 3) lv (.int (rat 20 (s.1 27) k) :: st) (mh sc rest s) x) : Ev mmPT t pc lv (.int k :: .ref 59 :: st) (mh sc rest s) x := Ev.cat hf (ro_27 sc rest s) (ra_27 sc rest s) (Nat.le_of_ble_eq_true rfl) hw K
theorem pt_27 {k y : Int32} (hf : mmFetch t pc = some (.invokevirtual j, len, 0 :: 83 :: 3 :: 7 :: ax)) (hw : mmWords st ≤ 8) (K : Ev mmPT t (pc + 3) lv st (mh sc rest (sR s 27 (rput 20 (s.1 27) k y))) x) : Ev mmPT t pc lv (.int y :: .int k :: .ref 59 :: st) (mh sc rest s) x := by
  refine Ev.cput hf (ro_27 sc rest s) (ra_27 sc rest s) (Nat.le_of_ble_eq_true rfl) (Nat.le_of_ble_eq_true rfl) hw ?_
  rw [rs_27]
  exact K
theorem at_28 {k : Int32} (hf : mmFetch t pc = some (.invokevirtual j, len, 0 :: 82 :: 2 :: 7 :: ax)) (hw : mmWords st ≤ 8) (K : Ev mmPT t (pc + 3) lv (.int (rat 140 (s.1 28) k) :: st) (mh sc rest s) x) : Ev mmPT t pc lv (.int k :: .ref 62 :: st) (mh sc rest s) x := Ev.cat hf (ro_28 sc rest s) (ra_28 sc rest s) (Nat.le_of_ble_eq_true rfl) hw K
theorem pt_28 {k y : Int32} (hf : mmFetch t pc = some (.invokevirtual j, len, 0 :: 83 :: 3 :: 7 :: ax)) (hw : mmWords st ≤ 8) (K : Ev mmPT t (pc + 3) lv st (mh sc rest (sR s 28 (rput 140 (s.1 28) k y))) x) : Ev mmPT t pc lv (.int y :: .int k :: .ref 62 :: st) (mh sc rest s) x := by
  refine Ev.cput hf (ro_28 sc rest s) (ra_28 sc rest s) (Nat.le_of_ble_eq_true rfl) (Nat.le_of_ble_eq_true rfl) hw ?_
  rw [rs_28]
  exact K
theorem at_29 {k : Int32} (hf : mmFetch t pc = some (.invokevirtual j, len, 0 :: 82 :: 2 :: 7 :: ax)) (hw : mmWords st ≤ 8) (K : Ev mmPT t (pc + 3) lv (.int (rat 140 (s.1 29) k) :: st) (mh sc rest s) x) : Ev mmPT t pc lv (.int k :: .ref 64 :: st) (mh sc rest s) x := Ev.cat hf (ro_29 sc rest s) (ra_29 sc rest s) (Nat.le_of_ble_eq_true rfl) hw K
theorem pt_29 {k y : Int32} (hf : mmFetch t pc = some (.invokevirtual j, len, 0 :: 83 :: 3 :: 7 :: ax)) (hw : mmWords st ≤ 8) (K : Ev mmPT t (pc + 3) lv st (mh sc rest (sR s 29 (rput 140 (s.1 29) k y))) x) : Ev mmPT t pc lv (.int y :: .int k :: .ref 64 :: st) (mh sc rest s) x := by
  refine Ev.cput hf (ro_29 sc rest s) (ra_29 sc rest s) (Nat.le_of_ble_eq_true rfl) (Nat.le_of_ble_eq_true rfl) hw ?_
  rw [rs_29]
  exact K
theorem at_30 {k : Int32} (hf : mmFetch t pc = some (.invokevirtual j, len, 0 :: 82 :: 2 :: 7 :: ax)) (hw : mmWords st ≤ 8) (K : Ev mmPT t (pc + 3) lv (.int (rat 140 (s.1 30) k) :: st) (mh sc rest s) x) : Ev mmPT t pc lv (.int k :: .ref 66 :: st) (mh sc rest s) x := Ev.cat hf (ro_30 sc rest s) (ra_30 sc rest s) (Nat.le_of_ble_eq_true rfl) hw K
theorem pt_30 {k y : Int32} (hf : mmFetch t pc = some (.invokevirtual j, len, 0 :: 83 :: 3 :: 7 :: ax)) (hw : mmWords st ≤ 8) (K : Ev mmPT t (pc + 3) lv st (mh sc rest (sR s 30 (rput 140 (s.1 30) k y))) x) : Ev mmPT t pc lv (.int y :: .int k :: .ref 66 :: st) (mh sc rest s) x := by
  refine Ev.cput hf (ro_30 sc rest s) (ra_30 sc rest s) (Nat.le_of_ble_eq_true rfl) (Nat.le_of_ble_eq_true rfl) hw ?_
  rw [rs_30]
  exact K
theorem at_31 {k : Int32} (hf : mmFetch t pc = some (.invokevirtual j, len, 0 :: 82 :: 2 :: 7 :: ax)) (hw : mmWords st ≤ 8) (K : Ev mmPT t (pc + 3) lv (.int (rat 150 (s.1 31) k) :: st) (mh sc rest s) x) : Ev mmPT t pc lv (.int k :: .ref 68 :: st) (mh sc rest s) x := Ev.cat hf (ro_31 sc rest s) (ra_31 sc rest s) (Nat.le_of_ble_eq_true rfl) hw K
theorem pt_31 {k y : Int32} (hf : mmFetch t pc = some (.invokevirtual j, len, 0 :: 83 :: 3 :: 7 :: ax)) (hw : mmWords st ≤ 8) (K : Ev mmPT t (pc + 3) lv st (mh sc rest (sR s 31 (rput 150 (s.1 31) k y))) x) : Ev mmPT t pc lv (.int y :: .int k :: .ref 68 :: st) (mh sc rest s) x := by
  refine Ev.cput hf (ro_31 sc rest s) (ra_31 sc rest s) (Nat.le_of_ble_eq_true rfl) (Nat.le_of_ble_eq_true rfl) hw ?_
  rw [rs_31]
  exact K
theorem at_32 {k : Int32} (hf : mmFetch t pc = some (.invokevirtual j, len, 0 :: 82 :: 2 :: 7 :: ax)) (hw : mmWords st ≤ 8) (K : Ev mmPT t (pc + 3) lv (.int (rat 150 (s.1 32) k) :: st) (mh sc rest s) x) : Ev mmPT t pc lv (.int k :: .ref 70 :: st) (mh sc rest s) x := Ev.cat hf (ro_32 sc rest s) (ra_32 sc rest s) (Nat.le_of_ble_eq_true rfl) hw K
theorem pt_32 {k y : Int32} (hf : mmFetch t pc = some (.invokevirtual j, len, 0 :: 83 :: 3 :: 7 :: ax)) (hw : mmWords st ≤ 8) (K : Ev mmPT t (pc + 3) lv st (mh sc rest (sR s 32 (rput 150 (s.1 32) k y))) x) : Ev mmPT t pc lv (.int y :: .int k :: .ref 70 :: st) (mh sc rest s) x := by
  refine Ev.cput hf (ro_32 sc rest s) (ra_32 sc rest s) (Nat.le_of_ble_eq_true rfl) (Nat.le_of_ble_eq_true rfl) hw ?_
  rw [rs_32]
  exact K
theorem at_33 {k : Int32} (hf : mmFetch t pc = some (.invokevirtual j, len, 0 :: 82 :: 2 :: 7 :: ax)) (hw : mmWords st ≤ 8) (K : Ev mmPT t (pc + 3) lv (.int (rat 290 (s.1 33) k) :: st) (mh sc rest s) x) : Ev mmPT t pc lv (.int k :: .ref 72 :: st) (mh sc rest s) x := Ev.cat hf (ro_33 sc rest s) (ra_33 sc rest s) (Nat.le_of_ble_eq_true rfl) hw K
theorem pt_33 {k y : Int32} (hf : mmFetch t pc = some (.invokevirtual j, len, 0 :: 83 :: 3 :: 7 :: ax)) (hw : mmWords st ≤ 8) (K : Ev mmPT t (pc + 3) lv st (mh sc rest (sR s 33 (rput 290 (s.1 33) k y))) x) : Ev mmPT t pc lv (.int y :: .int k :: .ref 72 :: st) (mh sc rest s) x := by
  refine Ev.cput hf (ro_33 sc rest s) (ra_33 sc rest s) (Nat.le_of_ble_eq_true rfl) (Nat.le_of_ble_eq_true rfl) hw ?_
  rw [rs_33]
  exact K
theorem at_34 {k : Int32} (hf : mmFetch t pc = some (.invokevirtual j, len, 0 :: 82 :: 2 :: 7 :: ax)) (hw : mmWords st ≤ 8) (K : Ev mmPT t (pc + 3) lv (.int (rat 290 (s.1 34) k) :: st) (mh sc rest s) x) : Ev mmPT t pc lv (.int k :: .ref 74 :: st) (mh sc rest s) x := Ev.cat hf (ro_34 sc rest s) (ra_34 sc rest s) (Nat.le_of_ble_eq_true rfl) hw K
theorem pt_34 {k y : Int32} (hf : mmFetch t pc = some (.invokevirtual j, len, 0 :: 83 :: 3 :: 7 :: ax)) (hw : mmWords st ≤ 8) (K : Ev mmPT t (pc + 3) lv st (mh sc rest (sR s 34 (rput 290 (s.1 34) k y))) x) : Ev mmPT t pc lv (.int y :: .int k :: .ref 74 :: st) (mh sc rest s) x := by
  refine Ev.cput hf (ro_34 sc rest s) (ra_34 sc rest s) (Nat.le_of_ble_eq_true rfl) (Nat.le_of_ble_eq_true rfl) hw ?_
  rw [rs_34]
  exact K
theorem at_35 {k : Int32} (hf : mmFetch t pc = some (.invokevirtual j, len, 0 :: 82 :: 2 :: 7 :: ax)) (hw : mmWords st ≤ 8) (K : Ev mmPT t (pc + 3) lv (.int (rat 10 (s.1 35) k) :: st) (mh sc rest s) x) : Ev mmPT t pc lv (.int k :: .ref 76 :: st) (mh sc rest s) x := Ev.cat hf (ro_35 sc rest s) (ra_35 sc rest s) (Nat.le_of_ble_eq_true rfl) hw K
theorem pt_35 {k y : Int32} (hf : mmFetch t pc = some (.invokevirtual j, len, 0 :: 83 :: 3 :: 7 :: ax)) (hw : mmWords st ≤ 8) (K : Ev mmPT t (pc + 3) lv st (mh sc rest (sR s 35 (rput 10 (s.1 35) k y))) x) : Ev mmPT t pc lv (.int y :: .int k :: .ref 76 :: st) (mh sc rest s) x := by
  refine Ev.cput hf (ro_35 sc rest s) (ra_35 sc rest s) (Nat.le_of_ble_eq_true rfl) (Nat.le_of_ble_eq_true rfl) hw ?_
  rw [rs_35]
  exact K
theorem at_36 {k : Int32} (hf : mmFetch t pc = some (.invokevirtual j, len, 0 :: 82 :: 2 :: 7 :: ax)) (hw : mmWords st ≤ 8) (K : Ev mmPT t (pc + 3) lv (.int (rat 1400 (s.1 36) k) :: st) (mh sc rest s) x) : Ev mmPT t pc lv (.int k :: .ref 78 :: st) (mh sc rest s) x := Ev.cat hf (ro_36 sc rest s) (ra_36 sc rest s) (Nat.le_of_ble_eq_true rfl) hw K
theorem pt_36 {k y : Int32} (hf : mmFetch t pc = some (.invokevirtual j, len, 0 :: 83 :: 3 :: 7 :: ax)) (hw : mmWords st ≤ 8) (K : Ev mmPT t (pc + 3) lv st (mh sc rest (sR s 36 (rput 1400 (s.1 36) k y))) x) : Ev mmPT t pc lv (.int y :: .int k :: .ref 78 :: st) (mh sc rest s) x := by
  refine Ev.cput hf (ro_36 sc rest s) (ra_36 sc rest s) (Nat.le_of_ble_eq_true rfl) (Nat.le_of_ble_eq_true rfl) hw ?_
  rw [rs_36]
  exact K
theorem at_37 {k : Int32} (hf : mmFetch t pc = some (.invokevirtual j, len, 0 :: 82 :: 2 :: 7 :: ax)) (hw : mmWords st ≤ 8) (K : Ev mmPT t (pc + 3) lv (.int (rat 10 (s.1 37) k) :: st) (mh sc rest s) x) : Ev mmPT t pc lv (.int k :: .ref 80 :: st) (mh sc rest s) x := Ev.cat hf (ro_37 sc rest s) (ra_37 sc rest s) (Nat.le_of_ble_eq_true rfl) hw K
theorem pt_37 {k y : Int32} (hf : mmFetch t pc = some (.invokevirtual j, len, 0 :: 83 :: 3 :: 7 :: ax)) (hw : mmWords st ≤ 8) (K : Ev mmPT t (pc + 3) lv st (mh sc rest (sR s 37 (rput 10 (s.1 37) k y))) x) : Ev mmPT t pc lv (.int y :: .int k :: .ref 80 :: st) (mh sc rest s) x := by
  refine Ev.cput hf (ro_37 sc rest s) (ra_37 sc rest s) (Nat.le_of_ble_eq_true rfl) (Nat.le_of_ble_eq_true rfl) hw ?_
  rw [rs_37]
  exact K
theorem at_38 {k : Int32} (hf : mmFetch t pc = some (.invokevirtual j, len, 0 :: 82 :: 2 :: 7 :: ax)) (hw : mmWords st ≤ 8) (K : Ev mmPT t (pc + 3) lv (.int (rat 200 (s.1 38) k) :: st) (mh sc rest s) x) : Ev mmPT t pc lv (.int k :: .ref 82 :: st) (mh sc rest s) x := Ev.cat hf (ro_38 sc rest s) (ra_38 sc rest s) (Nat.le_of_ble_eq_true rfl) hw K
theorem pt_38 {k y : Int32} (hf : mmFetch t pc = some (.invokevirtual j, len, 0 :: 83 :: 3 :: 7 :: ax)) (hw : mmWords st ≤ 8) (K : Ev mmPT t (pc + 3) lv st (mh sc rest (sR s 38 (rput 200 (s.1 38) k y))) x) : Ev mmPT t pc lv (.int y :: .int k :: .ref 82 :: st) (mh sc rest s) x := by
  refine Ev.cput hf (ro_38 sc rest s) (ra_38 sc rest s) (Nat.le_of_ble_eq_true rfl) (Nat.le_of_ble_eq_true rfl) hw ?_
  rw [rs_38]
  exact K
theorem at_39 {k : Int32} (hf : mmFetch t pc = some (.invokevirtual j, len, 0 :: 82 :: 2 :: 7 :: ax)) (hw : mmWords st ≤ 8) (K : Ev mmPT t (pc + 3) lv (.int (rat 10 (s.1 39) k) :: st) (mh sc rest s) x) : Ev mmPT t pc lv (.int k :: .ref 84 :: st) (mh sc rest s) x := Ev.cat hf (ro_39 sc rest s) (ra_39 sc rest s) (Nat.le_of_ble_eq_true rfl) hw K
theorem pt_39 {k y : Int32} (hf : mmFetch t pc = some (.invokevirtual j, len, 0 :: 83 :: 3 :: 7 :: ax)) (hw : mmWords st ≤ 8) (K : Ev mmPT t (pc + 3) lv st (mh sc rest (sR s 39 (rput 10 (s.1 39) k y))) x) : Ev mmPT t pc lv (.int y :: .int k :: .ref 84 :: st) (mh sc rest s) x := by
  refine Ev.cput hf (ro_39 sc rest s) (ra_39 sc rest s) (Nat.le_of_ble_eq_true rfl) (Nat.le_of_ble_eq_true rfl) hw ?_
  rw [rs_39]
  exact K
theorem at_40 {k : Int32} (hf : mmFetch t pc = some (.invokevirtual j, len, 0 :: 82 :: 2 :: 7 :: ax)) (hw : mmWords st ≤ 8) (K : Ev mmPT t (pc + 3) lv (.int (rat 20 (s.1 40) k) :: st) (mh sc rest s) x) : Ev mmPT t pc lv (.int k :: .ref 86 :: st) (mh sc rest s) x := Ev.cat hf (ro_40 sc rest s) (ra_40 sc rest s) (Nat.le_of_ble_eq_true rfl) hw K
theorem pt_40 {k y : Int32} (hf : mmFetch t pc = some (.invokevirtual j, len, 0 :: 83 :: 3 :: 7 :: ax)) (hw : mmWords st ≤ 8) (K : Ev mmPT t (pc + 3) lv st (mh sc rest (sR s 40 (rput 20 (s.1 40) k y))) x) : Ev mmPT t pc lv (.int y :: .int k :: .ref 86 :: st) (mh sc rest s) x := by
  refine Ev.cput hf (ro_40 sc rest s) (ra_40 sc rest s) (Nat.le_of_ble_eq_true rfl) (Nat.le_of_ble_eq_true rfl) hw ?_
  rw [rs_40]
  exact K
theorem at_41 {k : Int32} (hf : mmFetch t pc = some (.invokevirtual j, len, 0 :: 82 :: 2 :: 7 :: ax)) (hw : mmWords st ≤ 8) (K : Ev mmPT t (pc + 3) lv (.int (rat 60 (s.1 41) k) :: st) (mh sc rest s) x) : Ev mmPT t pc lv (.int k :: .ref 89 :: st) (mh sc rest s) x := Ev.cat hf (ro_41 sc rest s) (ra_41 sc rest s) (Nat.le_of_ble_eq_true rfl) hw K
theorem pt_41 {k y : Int32} (hf : mmFetch t pc = some (.invokevirtual j, len, 0 :: 83 :: 3 :: 7 :: ax)) (hw : mmWords st ≤ 8) (K : Ev mmPT t (pc + 3) lv st (mh sc rest (sR s 41 (rput 60 (s.1 41) k y))) x) : Ev mmPT t pc lv (.int y :: .int k :: .ref 89 :: st) (mh sc rest s) x := by
  refine Ev.cput hf (ro_41 sc rest s) (ra_41 sc rest s) (Nat.le_of_ble_eq_true rfl) (Nat.le_of_ble_eq_true rfl) hw ?_
  rw [rs_41]
  exact K
theorem at_42 {k : Int32} (hf : mmFetch t pc = some (.invokevirtual j, len, 0 :: 82 :: 2 :: 7 :: ax)) (hw : mmWords st ≤ 8) (K : Ev mmPT t (pc + 3) lv (.int (rat 60 (s.1 42) k) :: st) (mh sc rest s) x) : Ev mmPT t pc lv (.int k :: .ref 91 :: st) (mh sc rest s) x := Ev.cat hf (ro_42 sc rest s) (ra_42 sc rest s) (Nat.le_of_ble_eq_true rfl) hw K
theorem pt_42 {k y : Int32} (hf : mmFetch t pc = some (.invokevirtual j, len, 0 :: 83 :: 3 :: 7 :: ax)) (hw : mmWords st ≤ 8) (K : Ev mmPT t (pc + 3) lv st (mh sc rest (sR s 42 (rput 60 (s.1 42) k y))) x) : Ev mmPT t pc lv (.int y :: .int k :: .ref 91 :: st) (mh sc rest s) x := by
  refine Ev.cput hf (ro_42 sc rest s) (ra_42 sc rest s) (Nat.le_of_ble_eq_true rfl) (Nat.le_of_ble_eq_true rfl) hw ?_
  rw [rs_42]
  exact K
theorem at_43 {k : Int32} (hf : mmFetch t pc = some (.invokevirtual j, len, 0 :: 82 :: 2 :: 7 :: ax)) (hw : mmWords st ≤ 8) (K : Ev mmPT t (pc + 3) lv (.int (rat 10 (s.1 43) k) :: st) (mh sc rest s) x) : Ev mmPT t pc lv (.int k :: .ref 93 :: st) (mh sc rest s) x := Ev.cat hf (ro_43 sc rest s) (ra_43 sc rest s) (Nat.le_of_ble_eq_true rfl) hw K
theorem pt_43 {k y : Int32} (hf : mmFetch t pc = some (.invokevirtual j, len, 0 :: 83 :: 3 :: 7 :: ax)) (hw : mmWords st ≤ 8) (K : Ev mmPT t (pc + 3) lv st (mh sc rest (sR s 43 (rput 10 (s.1 43) k y))) x) : Ev mmPT t pc lv (.int y :: .int k :: .ref 93 :: st) (mh sc rest s) x := by
  refine Ev.cput hf (ro_43 sc rest s) (ra_43 sc rest s) (Nat.le_of_ble_eq_true rfl) (Nat.le_of_ble_eq_true rfl) hw ?_
  rw [rs_43]
  exact K
theorem at_44 {k : Int32} (hf : mmFetch t pc = some (.invokevirtual j, len, 0 :: 82 :: 2 :: 7 :: ax)) (hw : mmWords st ≤ 8) (K : Ev mmPT t (pc + 3) lv (.int (rat 140 (s.1 44) k) :: st) (mh sc rest s) x) : Ev mmPT t pc lv (.int k :: .ref 96 :: st) (mh sc rest s) x := Ev.cat hf (ro_44 sc rest s) (ra_44 sc rest s) (Nat.le_of_ble_eq_true rfl) hw K
theorem pt_44 {k y : Int32} (hf : mmFetch t pc = some (.invokevirtual j, len, 0 :: 83 :: 3 :: 7 :: ax)) (hw : mmWords st ≤ 8) (K : Ev mmPT t (pc + 3) lv st (mh sc rest (sR s 44 (rput 140 (s.1 44) k y))) x) : Ev mmPT t pc lv (.int y :: .int k :: .ref 96 :: st) (mh sc rest s) x := by
  refine Ev.cput hf (ro_44 sc rest s) (ra_44 sc rest s) (Nat.le_of_ble_eq_true rfl) (Nat.le_of_ble_eq_true rfl) hw ?_
  rw [rs_44]
  exact K
theorem at_45 {k : Int32} (hf : mmFetch t pc = some (.invokevirtual j, len, 0 :: 82 :: 2 :: 7 :: ax)) (hw : mmWords st ≤ 8) (K : Ev mmPT t (pc + 3) lv (.int (rat 140 (s.1 45) k) :: st) (mh sc rest s) x) : Ev mmPT t pc lv (.int k :: .ref 98 :: st) (mh sc rest s) x := Ev.cat hf (ro_45 sc rest s) (ra_45 sc rest s) (Nat.le_of_ble_eq_true rfl) hw K
theorem pt_45 {k y : Int32} (hf : mmFetch t pc = some (.invokevirtual j, len, 0 :: 83 :: 3 :: 7 :: ax)) (hw : mmWords st ≤ 8) (K : Ev mmPT t (pc + 3) lv st (mh sc rest (sR s 45 (rput 140 (s.1 45) k y))) x) : Ev mmPT t pc lv (.int y :: .int k :: .ref 98 :: st) (mh sc rest s) x := by
  refine Ev.cput hf (ro_45 sc rest s) (ra_45 sc rest s) (Nat.le_of_ble_eq_true rfl) (Nat.le_of_ble_eq_true rfl) hw ?_
  rw [rs_45]
  exact K
theorem at_46 {k : Int32} (hf : mmFetch t pc = some (.invokevirtual j, len, 0 :: 82 :: 2 :: 7 :: ax)) (hw : mmWords st ≤ 8) (K : Ev mmPT t (pc + 3) lv (.int (rat 10 (s.1 46) k) :: st) (mh sc rest s) x) : Ev mmPT t pc lv (.int k :: .ref 102 :: st) (mh sc rest s) x := Ev.cat hf (ro_46 sc rest s) (ra_46 sc rest s) (Nat.le_of_ble_eq_true rfl) hw K
theorem pt_46 {k y : Int32} (hf : mmFetch t pc = some (.invokevirtual j, len, 0 :: 83 :: 3 :: 7 :: ax)) (hw : mmWords st ≤ 8) (K : Ev mmPT t (pc + 3) lv st (mh sc rest (sR s 46 (rput 10 (s.1 46) k y))) x) : Ev mmPT t pc lv (.int y :: .int k :: .ref 102 :: st) (mh sc rest s) x := by
  refine Ev.cput hf (ro_46 sc rest s) (ra_46 sc rest s) (Nat.le_of_ble_eq_true rfl) (Nat.le_of_ble_eq_true rfl) hw ?_
  rw [rs_46]
  exact K
theorem at_47 {k : Int32} (hf : mmFetch t pc = some (.invokevirtual j, len, 0 :: 82 :: 2 :: 7 :: ax)) (hw : mmWords st ≤ 8) (K : Ev mmPT t (pc + 3) lv (.int (rat 10 (s.1 47) k) :: st) (mh sc rest s) x) : Ev mmPT t pc lv (.int k :: .ref 104 :: st) (mh sc rest s) x := Ev.cat hf (ro_47 sc rest s) (ra_47 sc rest s) (Nat.le_of_ble_eq_true rfl) hw K
theorem pt_47 {k y : Int32} (hf : mmFetch t pc = some (.invokevirtual j, len, 0 :: 83 :: 3 :: 7 :: ax)) (hw : mmWords st ≤ 8) (K : Ev mmPT t (pc + 3) lv st (mh sc rest (sR s 47 (rput 10 (s.1 47) k y))) x) : Ev mmPT t pc lv (.int y :: .int k :: .ref 104 :: st) (mh sc rest s) x := by
  refine Ev.cput hf (ro_47 sc rest s) (ra_47 sc rest s) (Nat.le_of_ble_eq_true rfl) (Nat.le_of_ble_eq_true rfl) hw ?_
  rw [rs_47]
  exact K
theorem at_48 {k : Int32} (hf : mmFetch t pc = some (.invokevirtual j, len, 0 :: 82 :: 2 :: 7 :: ax)) (hw : mmWords st ≤ 8) (K : Ev mmPT t (pc + 3) lv (.int (rat 10 (s.1 48) k) :: st) (mh sc rest s) x) : Ev mmPT t pc lv (.int k :: .ref 106 :: st) (mh sc rest s) x := Ev.cat hf (ro_48 sc rest s) (ra_48 sc rest s) (Nat.le_of_ble_eq_true rfl) hw K
theorem pt_48 {k y : Int32} (hf : mmFetch t pc = some (.invokevirtual j, len, 0 :: 83 :: 3 :: 7 :: ax)) (hw : mmWords st ≤ 8) (K : Ev mmPT t (pc + 3) lv st (mh sc rest (sR s 48 (rput 10 (s.1 48) k y))) x) : Ev mmPT t pc lv (.int y :: .int k :: .ref 106 :: st) (mh sc rest s) x := by
  refine Ev.cput hf (ro_48 sc rest s) (ra_48 sc rest s) (Nat.le_of_ble_eq_true rfl) (Nat.le_of_ble_eq_true rfl) hw ?_
  rw [rs_48]
  exact K
theorem at_49 {k : Int32} (hf : mmFetch t pc = some (.invokevirtual j, len, 0 :: 82 :: 2 :: 7 :: ax)) (hw : mmWords st ≤ 8) (K : Ev mmPT t (pc + 3) lv (.int (rat 10 (s.1 49) k) :: st) (mh sc rest s) x) : Ev mmPT t pc lv (.int k :: .ref 108 :: st) (mh sc rest s) x := Ev.cat hf (ro_49 sc rest s) (ra_49 sc rest s) (Nat.le_of_ble_eq_true rfl) hw K
theorem pt_49 {k y : Int32} (hf : mmFetch t pc = some (.invokevirtual j, len, 0 :: 83 :: 3 :: 7 :: ax)) (hw : mmWords st ≤ 8) (K : Ev mmPT t (pc + 3) lv st (mh sc rest (sR s 49 (rput 10 (s.1 49) k y))) x) : Ev mmPT t pc lv (.int y :: .int k :: .ref 108 :: st) (mh sc rest s) x := by
  refine Ev.cput hf (ro_49 sc rest s) (ra_49 sc rest s) (Nat.le_of_ble_eq_true rfl) (Nat.le_of_ble_eq_true rfl) hw ?_
  rw [rs_49]
  exact K
theorem at_50 {k : Int32} (hf : mmFetch t pc = some (.invokevirtual j, len, 0 :: 82 :: 2 :: 7 :: ax)) (hw : mmWords st ≤ 8) (K : Ev mmPT t (pc + 3) lv (.int (rat 140 (s.1 50) k) :: st) (mh sc rest s) x) : Ev mmPT t pc lv (.int k :: .ref 111 :: st) (mh sc rest s) x := Ev.cat hf (ro_50 sc rest s) (ra_50 sc rest s) (Nat.le_of_ble_eq_true rfl) hw K
theorem pt_50 {k y : Int32} (hf : mmFetch t pc = some (.invokevirtual j, len, 0 :: 83 :: 3 :: 7 :: ax)) (hw : mmWords st ≤ 8) (K : Ev mmPT t (pc + 3) lv st (mh sc rest (sR s 50 (rput 140 (s.1 50) k y))) x) : Ev mmPT t pc lv (.int y :: .int k :: .ref 111 :: st) (mh sc rest s) x := by
  refine Ev.cput hf (ro_50 sc rest s) (ra_50 sc rest s) (Nat.le_of_ble_eq_true rfl) (Nat.le_of_ble_eq_true rfl) hw ?_
  rw [rs_50]
  exact K
theorem at_51 {k : Int32} (hf : mmFetch t pc = some (.invokevirtual j, len, 0 :: 82 :: 2 :: 7 :: ax)) (hw : mmWords st ≤ 8) (K : Ev mmPT t (pc + 3) lv (.int (rat 6 (s.1 51) k) :: st) (mh sc rest s) x) : Ev mmPT t pc lv (.int k :: .ref 115 :: st) (mh sc rest s) x := Ev.cat hf (ro_51 sc rest s) (ra_51 sc rest s) (Nat.le_of_ble_eq_true rfl) hw K
theorem pt_51 {k y : Int32} (hf : mmFetch t pc = some (.invokevirtual j, len, 0 :: 83 :: 3 :: 7 :: ax)) (hw : mmWords st ≤ 8) (K : Ev mmPT t (pc + 3) lv st (mh sc rest (sR s 51 (rput 6 (s.1 51) k y))) x) : Ev mmPT t pc lv (.int y :: .int k :: .ref 115 :: st) (mh sc rest s) x := by
  refine Ev.cput hf (ro_51 sc rest s) (ra_51 sc rest s) (Nat.le_of_ble_eq_true rfl) (Nat.le_of_ble_eq_true rfl) hw ?_
  rw [rs_51]
  exact K
theorem at_52 {k : Int32} (hf : mmFetch t pc = some (.invokevirtual j, len, 0 :: 82 :: 2 :: 7 :: ax)) (hw : mmWords st ≤ 8) (K : Ev mmPT t (pc + 3) lv (.int (rat 140 (s.1 52) k) :: st) (mh sc rest s) x) : Ev mmPT t pc lv (.int k :: .ref 117 :: st) (mh sc rest s) x := Ev.cat hf (ro_52 sc rest s) (ra_52 sc rest s) (Nat.le_of_ble_eq_true rfl) hw K
theorem pt_52 {k y : Int32} (hf : mmFetch t pc = some (.invokevirtual j, len, 0 :: 83 :: 3 :: 7 :: ax)) (hw : mmWords st ≤ 8) (K : Ev mmPT t (pc + 3) lv st (mh sc rest (sR s 52 (rput 140 (s.1 52) k y))) x) : Ev mmPT t pc lv (.int y :: .int k :: .ref 117 :: st) (mh sc rest s) x := by
  refine Ev.cput hf (ro_52 sc rest s) (ra_52 sc rest s) (Nat.le_of_ble_eq_true rfl) (Nat.le_of_ble_eq_true rfl) hw ?_
  rw [rs_52]
  exact K
theorem at_53 {k : Int32} (hf : mmFetch t pc = some (.invokevirtual j, len, 0 :: 82 :: 2 :: 7 :: ax)) (hw : mmWords st ≤ 8) (K : Ev mmPT t (pc + 3) lv (.int (rat 140 (s.1 53) k) :: st) (mh sc rest s) x) : Ev mmPT t pc lv (.int k :: .ref 119 :: st) (mh sc rest s) x := Ev.cat hf (ro_53 sc rest s) (ra_53 sc rest s) (Nat.le_of_ble_eq_true rfl) hw K
theorem pt_53 {k y : Int32} (hf : mmFetch t pc = some (.invokevirtual j, len, 0 :: 83 :: 3 :: 7 :: ax)) (hw : mmWords st ≤ 8) (K : Ev mmPT t (pc + 3) lv st (mh sc rest (sR s 53 (rput 140 (s.1 53) k y))) x) : Ev mmPT t pc lv (.int y :: .int k :: .ref 119 :: st) (mh sc rest s) x := by
  refine Ev.cput hf (ro_53 sc rest s) (ra_53 sc rest s) (Nat.le_of_ble_eq_true rfl) (Nat.le_of_ble_eq_true rfl) hw ?_
  rw [rs_53]
  exact K
theorem at_54 {k : Int32} (hf : mmFetch t pc = some (.invokevirtual j, len, 0 :: 82 :: 2 :: 7 :: ax)) (hw : mmWords st ≤ 8) (K : Ev mmPT t (pc + 3) lv (.int (rat 8 (s.1 54) k) :: st) (mh sc rest s) x) : Ev mmPT t pc lv (.int k :: .ref 122 :: st) (mh sc rest s) x := Ev.cat hf (ro_54 sc rest s) (ra_54 sc rest s) (Nat.le_of_ble_eq_true rfl) hw K
theorem pt_54 {k y : Int32} (hf : mmFetch t pc = some (.invokevirtual j, len, 0 :: 83 :: 3 :: 7 :: ax)) (hw : mmWords st ≤ 8) (K : Ev mmPT t (pc + 3) lv st (mh sc rest (sR s 54 (rput 8 (s.1 54) k y))) x) : Ev mmPT t pc lv (.int y :: .int k :: .ref 122 :: st) (mh sc rest s) x := by
  refine Ev.cput hf (ro_54 sc rest s) (ra_54 sc rest s) (Nat.le_of_ble_eq_true rfl) (Nat.le_of_ble_eq_true rfl) hw ?_
  rw [rs_54]
  exact K
theorem at_55 {k : Int32} (hf : mmFetch t pc = some (.invokevirtual j, len, 0 :: 82 :: 2 :: 7 :: ax)) (hw : mmWords st ≤ 8) (K : Ev mmPT t (pc + 3) lv (.int (rat 60 (s.1 55) k) :: st) (mh sc rest s) x) : Ev mmPT t pc lv (.int k :: .ref 124 :: st) (mh sc rest s) x := Ev.cat hf (ro_55 sc rest s) (ra_55 sc rest s) (Nat.le_of_ble_eq_true rfl) hw K
theorem pt_55 {k y : Int32} (hf : mmFetch t pc = some (.invokevirtual j, len, 0 :: 83 :: 3 :: 7 :: ax)) (hw : mmWords st ≤ 8) (K : Ev mmPT t (pc + 3) lv st (mh sc rest (sR s 55 (rput 60 (s.1 55) k y))) x) : Ev mmPT t pc lv (.int y :: .int k :: .ref 124 :: st) (mh sc rest s) x := by
  refine Ev.cput hf (ro_55 sc rest s) (ra_55 sc rest s) (Nat.le_of_ble_eq_true rfl) (Nat.le_of_ble_eq_true rfl) hw ?_
  rw [rs_55]
  exact K
theorem at_56 {k : Int32} (hf : mmFetch t pc = some (.invokevirtual j, len, 0 :: 82 :: 2 :: 7 :: ax)) (hw : mmWords st ≤ 8) (K : Ev mmPT t (pc + 3) lv (.int (rat 8 (s.1 56) k) :: st) (mh sc rest s) x) : Ev mmPT t pc lv (.int k :: .ref 127 :: st) (mh sc rest s) x := Ev.cat hf (ro_56 sc rest s) (ra_56 sc rest s) (Nat.le_of_ble_eq_true rfl) hw K
theorem pt_56 {k y : Int32} (hf : mmFetch t pc = some (.invokevirtual j, len, 0 :: 83 :: 3 :: 7 :: ax)) (hw : mmWords st ≤ 8) (K : Ev mmPT t (pc + 3) lv st (mh sc rest (sR s 56 (rput 8 (s.1 56) k y))) x) : Ev mmPT t pc lv (.int y :: .int k :: .ref 127 :: st) (mh sc rest s) x := by
  refine Ev.cput hf (ro_56 sc rest s) (ra_56 sc rest s) (Nat.le_of_ble_eq_true rfl) (Nat.le_of_ble_eq_true rfl) hw ?_
  rw [rs_56]
  exact K
theorem at_57 {k : Int32} (hf : mmFetch t pc = some (.invokevirtual j, len, 0 :: 82 :: 2 :: 7 :: ax)) (hw : mmWords st ≤ 8) (K : Ev mmPT t (pc + 3) lv (.int (rat 2408 (s.1 57) k) :: st) (mh sc rest s) x) : Ev mmPT t pc lv (.int k :: .ref 129 :: st) (mh sc rest s) x := Ev.cat hf (ro_57 sc rest s) (ra_57 sc rest s) (Nat.le_of_ble_eq_true rfl) hw K
theorem pt_57 {k y : Int32} (hf : mmFetch t pc = some (.invokevirtual j, len, 0 :: 83 :: 3 :: 7 :: ax)) (hw : mmWords st ≤ 8) (K : Ev mmPT t (pc + 3) lv st (mh sc rest (sR s 57 (rput 2408 (s.1 57) k y))) x) : Ev mmPT t pc lv (.int y :: .int k :: .ref 129 :: st) (mh sc rest s) x := by
  refine Ev.cput hf (ro_57 sc rest s) (ra_57 sc rest s) (Nat.le_of_ble_eq_true rfl) (Nat.le_of_ble_eq_true rfl) hw ?_
  rw [rs_57]
  exact K
theorem at_58 {k : Int32} (hf : mmFetch t pc = some (.invokevirtual j, len, 0 :: 82 :: 2 :: 7 :: ax)) (hw : mmWords st ≤ 8) (K : Ev mmPT t (pc + 3) lv (.int (rat 8 (s.1 58) k) :: st) (mh sc rest s) x) : Ev mmPT t pc lv (.int k :: .ref 132 :: st) (mh sc rest s) x := Ev.cat hf (ro_58 sc rest s) (ra_58 sc rest s) (Nat.le_of_ble_eq_true rfl) hw K
theorem pt_58 {k y : Int32} (hf : mmFetch t pc = some (.invokevirtual j, len, 0 :: 83 :: 3 :: 7 :: ax)) (hw : mmWords st ≤ 8) (K : Ev mmPT t (pc + 3) lv st (mh sc rest (sR s 58 (rput 8 (s.1 58) k y))) x) : Ev mmPT t pc lv (.int y :: .int k :: .ref 132 :: st) (mh sc rest s) x := by
  refine Ev.cput hf (ro_58 sc rest s) (ra_58 sc rest s) (Nat.le_of_ble_eq_true rfl) (Nat.le_of_ble_eq_true rfl) hw ?_
  rw [rs_58]
  exact K
theorem at_59 {k : Int32} (hf : mmFetch t pc = some (.invokevirtual j, len, 0 :: 82 :: 2 :: 7 :: ax)) (hw : mmWords st ≤ 8) (K : Ev mmPT t (pc + 3) lv (.int (rat 2408 (s.1 59) k) :: st) (mh sc rest s) x) : Ev mmPT t pc lv (.int k :: .ref 134 :: st) (mh sc rest s) x := Ev.cat hf (ro_59 sc rest s) (ra_59 sc rest s) (Nat.le_of_ble_eq_true rfl) hw K
theorem pt_59 {k y : Int32} (hf : mmFetch t pc = some (.invokevirtual j, len, 0 :: 83 :: 3 :: 7 :: ax)) (hw : mmWords st ≤ 8) (K : Ev mmPT t (pc + 3) lv st (mh sc rest (sR s 59 (rput 2408 (s.1 59) k y))) x) : Ev mmPT t pc lv (.int y :: .int k :: .ref 134 :: st) (mh sc rest s) x := by
  refine Ev.cput hf (ro_59 sc rest s) (ra_59 sc rest s) (Nat.le_of_ble_eq_true rfl) (Nat.le_of_ble_eq_true rfl) hw ?_
  rw [rs_59]
  exact K
end RUL
