/-! CALLS of a row's methods -/
section ROWC
variable {t : List mmI} {pc len j o a n : Nat} {f : Nat → Int32} {lv : List (Option Value)} {st : List Value} {h : List mmC} {ax : List Nat} {k y : Int32} {x : Option Value × List mmC}
theorem mmCall_at (ho : h[o]? = some (7, [.ref a])) (hw : mmWords st ≤ 8) : mmCall mmPT (0 :: 82 :: 2 :: 7 :: ax) (.int k :: .ref o :: st) h = some (mX7_at, [.ref o, .int k], st) := by
  unfold mmCall
  dsimp only
  rw [show mmPT[82]? = some mX7_at from rfl]
  dsimp only
  rw [if_pos ⟨rfl, hw, Nat.le_of_ble_eq_true rfl⟩, if_neg (by decide)]
  simp only [List.take_succ_cons, List.take_zero, List.reverse_cons, List.reverse_nil, List.nil_append, List.cons_append, List.drop_succ_cons, List.drop_zero, ho]
  rfl
theorem Ev.cat (hf : mmFetch t pc = some (.invokevirtual j, len, 0 :: 82 :: 2 :: 7 :: ax)) (ho : h[o]? = some (7, [.ref a])) (ha : h[a]? = some (1000, mmIR f n)) (hn : n < 2 ^ 31) (hw : mmWords st ≤ 8) (K : Ev mmPT t (pc + 3) lv (.int (rat n f k) :: st) h x) : Ev mmPT t pc lv (.int k :: .ref o :: st) h x :=
  Ev.call (Or.inl rfl) hf (mmCall_at ho hw) (Ev_at ho ha hn) K
theorem mmCall_put (ho : h[o]? = some (7, [.ref a])) (hw : mmWords st ≤ 8) : mmCall mmPT (0 :: 83 :: 3 :: 7 :: ax) (.int y :: .int k :: .ref o :: st) h = some (mX7_put, [.ref o, .int k, .int y], st) := by
  unfold mmCall
  dsimp only
  rw [show mmPT[83]? = some mX7_put from rfl]
  dsimp only
  rw [if_pos ⟨rfl, hw, Nat.le_of_ble_eq_true rfl⟩, if_neg (by decide)]
  simp only [List.take_succ_cons, List.take_zero, List.reverse_cons, List.reverse_nil, List.nil_append, List.cons_append, List.drop_succ_cons, List.drop_zero, ho]
  rfl
theorem Ev.cput (hf : mmFetch t pc = some (.invokevirtual j, len, 0 :: 83 :: 3 :: 7 :: ax)) (ho : h[o]? = some (7, [.ref a])) (ha : h[a]? = some (1000, mmIR f n)) (hn : n < 2 ^ 31) (hro : mmRo ≤ a) (hw : mmWords st ≤ 8) (K : Ev mmPT t (pc + 3) lv st (h.set a (1000, mmIR (rput n f k y) n)) x) : Ev mmPT t pc lv (.int y :: .int k :: .ref o :: st) h x :=
  Ev.call (Or.inl rfl) hf (mmCall_put ho hw) (Ev_put ho ha hn hro) K
end ROWC
section ROWF
variable {t : List mmI} {pc len j o a o2 a2 n : Nat} {f g : Nat → Int32} {lv : List (Option Value)} {st : List Value} {h : List mmC} {ax : List Nat} {y : Int32} {x : Option Value × List mmC}
def rfl_to (f : Nat → Int32) (y : Int32) (i : Nat) : Nat → Int32 := fun j => if j < i then y else f j
theorem rfl_to_step (f : Nat → Int32) (y : Int32) (i : Nat) : ru (rfl_to f y i) i y = rfl_to f y (i + 1) := by
  funext j
  unfold ru rfl_to
  by_cases h1 : j = i
  · subst h1
    rw [if_pos rfl, if_pos (Nat.lt_succ_self _)]
  · rw [if_neg h1]
    by_cases h2 : j < i
    · rw [if_pos h2, if_pos (by omega)]
    · rw [if_neg h2, if_neg (by omega)]
theorem mmIR_fill (f : Nat → Int32) (y : Int32) (n : Nat) : mmIR (rfl_to f y n) n = mmIR (fun _ => y) n := by
  unfold mmIR
  refine List.map_congr_left fun k hk => ?_
  unfold rfl_to
  rw [if_pos (List.mem_range.mp hk)]
theorem Ev_fillLoop (ha : h[a]? = some (1000, mmIR f n)) (hn : n < 2 ^ 31) (hro : mmRo ≤ a) : ∀ (d i : Nat), i + d = n → ∀ hh : List mmC, hh = h.set a (1000, mmIR (rfl_to f y i) n) → Ev mmPT tbJ7_fill_53178 5 [some (.ref a), some (.int y), some (.int (nI i)), some (.int (nI n))] [] hh (none, h.set a (1000, mmIR (fun _ => y) n)) := by
  have hal : a < h.length := (List.getElem?_eq_some_iff.mp ha).1
  intro d
  induction d with
  | zero =>
    intro i hi hh e
    have hin : i = n := by omega
    subst hin
    refine Ev.s (ins := .iload_n 2) rfl rfl ?_
    refine Ev.s (ins := .iload_n 3) rfl rfl ?_
    refine Ev.if2 rfl rfl (fun c1 => ?_) (fun c1 => ?_)
    · refine Ev.vret rfl rfl ?_
      rw [e, mmIR_fill]
    · have h9 : nI i ≤ nI i := nI_le (Nat.le_refl _) hn
      simp [mmIc, h9] at c1
  | succ d ih =>
    intro i hi hh e
    have hlt : i < n := by omega
    have hag : hh[a]? = some (1000, mmIR (rfl_to f y i) n) := by rw [e, List.getElem?_set_self hal]
    refine Ev.s (ins := .iload_n 2) rfl rfl ?_
    refine Ev.s (ins := .iload_n 3) rfl rfl ?_
    refine Ev.if2 rfl rfl (fun c1 => ?_) (fun c1 => ?_)
    · exact absurd (by simpa [mmIc] using c1) (nI_ge hlt hn)
    · have h0 : ¬ nI i < 0 := nI_pos (by omega)
      refine Ev.s (ins := .aload_n 0) rfl rfl ?_
      refine Ev.s (ins := .iload_n 2) rfl rfl ?_
      refine Ev.s (ins := .iload_n 1) rfl rfl ?_
      refine Ev.s rfl (mmS_iast hag ⟨rfl, h0, by rw [mmIR_len, nI_clamp (by omega)]; exact hlt, hro⟩) ?_
      refine Ev.s (ins := .iinc 2 1) rfl rfl ?_
      refine Ev.goto rfl ?_
      have hs : nI i + Int32.ofInt 1 = nI (i + 1) := by
        have e1 : Int32.ofInt 1 = 1 := by decide
        rw [e1]
        exact nI_1 i
      rw [nI_clamp (by omega), mmIR_set hlt, rfl_to_step]
      have hg := ih (i + 1) (by omega) (hh.set a (1000, mmIR (rfl_to f y (i + 1)) n)) (by rw [e, List.set_set])
      rw [← hs] at hg
      exact hg
theorem Ev_fill (ho : h[o]? = some (7, [.ref a])) (ha : h[a]? = some (1000, mmIR f n)) (hn : n < 2 ^ 31) (hro : mmRo ≤ a) : Ev mmPT tbX7_fill 0 [some (.ref o), some (.int y)] [] h (none, h.set a (1000, mmIR (fun _ => y) n)) := by
  refine Ev.s (ins := .aload_n 0) rfl rfl ?_
  refine Ev.s rfl (mmS_get ho ⟨rfl, by decide⟩ rfl) ?_
  refine Ev.s (ins := .iload_n 1) rfl rfl ?_
  refine Ev.call (M := mJ7_fill_53178) (as := [.ref a, .int y]) (r := []) (v := none) (h' := h.set a (1000, mmIR (fun _ => y) n)) (Or.inr (Or.inl ⟨rfl, by decide⟩)) rfl rfl ?_ ?_
  · refine Ev.s (ins := .iconst 0) rfl rfl ?_
    refine Ev.s (ins := .istore_n 2) rfl rfl ?_
    refine Ev.s (ins := .aload_n 0) rfl rfl ?_
    refine Ev.s rfl (mmS_alen ha (Or.inl rfl)) ?_
    rw [mmIR_len]
    refine Ev.s (ins := .istore_n 3) rfl rfl ?_
    have hself : h.set a (1000, mmIR f n) = h := by
      obtain ⟨hl, he⟩ := List.getElem?_eq_some_iff.mp ha
      rw [← he, List.set_getElem_self]
    have hz : rfl_to f y 0 = f := by
      funext j
      unfold rfl_to
      rw [if_neg (Nat.not_lt_zero _)]
    exact Ev_fillLoop ha hn hro n 0 (by omega) h (by rw [hz, hself])
  · exact Ev.vret rfl rfl rfl
theorem mmCall_fill (ho : h[o]? = some (7, [.ref a])) (hw : mmWords st ≤ 8) : mmCall mmPT (0 :: 84 :: 2 :: 7 :: ax) (.int y :: .ref o :: st) h = some (mX7_fill, [.ref o, .int y], st) := by
  unfold mmCall
  dsimp only
  rw [show mmPT[84]? = some mX7_fill from rfl]
  dsimp only
  rw [if_pos ⟨rfl, hw, Nat.le_of_ble_eq_true rfl⟩, if_neg (by decide)]
  simp only [List.take_succ_cons, List.take_zero, List.reverse_cons, List.reverse_nil, List.nil_append, List.cons_append, List.drop_succ_cons, List.drop_zero, ho]
  rfl
theorem Ev.cfill (hf : mmFetch t pc = some (.invokevirtual j, len, 0 :: 84 :: 2 :: 7 :: ax)) (ho : h[o]? = some (7, [.ref a])) (ha : h[a]? = some (1000, mmIR f n)) (hn : n < 2 ^ 31) (hro : mmRo ≤ a) (hw : mmWords st ≤ 8) (K : Ev mmPT t (pc + 3) lv st (h.set a (1000, mmIR (fun _ => y) n)) x) : Ev mmPT t pc lv (.int y :: .ref o :: st) h x :=
  Ev.call (Or.inl rfl) hf (mmCall_fill ho hw) (Ev_fill ho ha hn hro) K
theorem mmCpy_all (f g : Nat → Int32) (n : Nat) : mmCpy (mmIR g n) (mmIR f n) 0 0 n = mmIR g n := by
  unfold mmCpy
  rw [List.take_zero, List.drop_zero, List.take_of_length_le (by rw [mmIR_len]; exact Nat.le_refl _), List.drop_of_length_le (by rw [mmIR_len]; omega)]
  simp
theorem mmIR_isI (f : Nat → Int32) (n : Nat) : (mmIR f n).all mmIsI = true := by
  unfold mmIR
  rw [List.all_map]
  exact List.all_eq_true.mpr fun k _ => rfl
theorem Ev_take (ho : h[o]? = some (7, [.ref a])) (ha : h[a]? = some (1000, mmIR f n)) (ho2 : h[o2]? = some (7, [.ref a2])) (ha2 : h[a2]? = some (1000, mmIR g n)) (hn : n < 2 ^ 31) (hro : mmRo ≤ a) : Ev mmPT tbX7_take 0 [some (.ref o), some (.ref o2)] [] h (none, h.set a (1000, mmIR g n)) := by
  have h0 : ¬ nI n < 0 := nI_pos hn
  refine Ev.s (ins := .aload_n 1) rfl rfl ?_
  refine Ev.s rfl (mmS_get ho2 ⟨rfl, by decide⟩ rfl) ?_
  refine Ev.s (ins := .iconst 0) rfl rfl ?_
  refine Ev.s (ins := .aload_n 0) rfl rfl ?_
  refine Ev.s rfl (mmS_get ho ⟨rfl, by decide⟩ rfl) ?_
  refine Ev.s (ins := .iconst 0) rfl rfl ?_
  refine Ev.s (ins := .aload_n 0) rfl rfl ?_
  refine Ev.s rfl (mmS_get ho ⟨rfl, by decide⟩ rfl) ?_
  refine Ev.s rfl (mmS_alen ha (Or.inl rfl)) ?_
  refine Ev.s (ins := .aload_n 1) rfl rfl ?_
  refine Ev.s rfl (mmS_get ho2 ⟨rfl, by decide⟩ rfl) ?_
  refine Ev.s rfl (mmS_alen ha2 (Or.inl rfl)) ?_
  rw [mmIR_len, mmIR_len]
  refine Ev.call (M := mJ9_min_7cf53) (as := [.int (nI n), .int (nI n)]) (r := [.int (Int32.ofInt 0), .ref a, .int (Int32.ofInt 0), .ref a2]) (v := some (.int (nI n))) (h' := h) (Or.inr (Or.inl ⟨rfl, by decide⟩)) rfl rfl ?_ ?_
  · refine Ev.s (ins := .iload_n 0) rfl rfl ?_
    refine Ev.s (ins := .iload_n 1) rfl rfl ?_
    refine Ev.if2 rfl rfl (fun c1 => ?_) (fun c1 => ?_)
    · refine Ev.s (ins := .iload_n 1) rfl rfl ?_
      exact Ev.iret rfl rfl rfl
    · refine Ev.s (ins := .iload_n 0) rfl rfl ?_
      refine Ev.goto rfl ?_
      exact Ev.iret rfl rfl rfl
  · have hz : (Int32.ofInt 0).toNatClampNeg = 0 := by decide
    refine Ev.copy rfl (r := []) (h' := h.set a (1000, mmIR g n)) ?_ (Ev.vret rfl rfl rfl)
    unfold mmCopy
    simp only [Option.toList, List.cons_append, List.nil_append, ha, ha2]
    rw [if_pos ⟨trivial, trivial, by decide, by decide, h0, by rw [hz, nI_clamp hn, mmIR_len]; omega, by rw [hz, nI_clamp hn, mmIR_len]; omega, mmIR_isI _ _, by decide, hro⟩, hz, nI_clamp hn, mmCpy_all]
theorem mmCall_take (ho : h[o]? = some (7, [.ref a])) (hw : mmWords st ≤ 8) : mmCall mmPT (0 :: 85 :: 2 :: 7 :: ax) (.ref o2 :: .ref o :: st) h = some (mX7_take, [.ref o, .ref o2], st) := by
  unfold mmCall
  dsimp only
  rw [show mmPT[85]? = some mX7_take from rfl]
  dsimp only
  rw [if_pos ⟨rfl, hw, Nat.le_of_ble_eq_true rfl⟩, if_neg (by decide)]
  simp only [List.take_succ_cons, List.take_zero, List.reverse_cons, List.reverse_nil, List.nil_append, List.cons_append, List.drop_succ_cons, List.drop_zero, ho]
  rfl
theorem Ev.ctake (hf : mmFetch t pc = some (.invokevirtual j, len, 0 :: 85 :: 2 :: 7 :: ax)) (ho : h[o]? = some (7, [.ref a])) (ha : h[a]? = some (1000, mmIR f n)) (ho2 : h[o2]? = some (7, [.ref a2])) (ha2 : h[a2]? = some (1000, mmIR g n)) (hn : n < 2 ^ 31) (hro : mmRo ≤ a) (hw : mmWords st ≤ 8) (K : Ev mmPT t (pc + 3) lv st (h.set a (1000, mmIR g n)) x) : Ev mmPT t pc lv (.ref o2 :: .ref o :: st) h x :=
  Ev.call (Or.inl rfl) hf (mmCall_take ho hw) (Ev_take ho ha ho2 ha2 hn hro) K
end ROWF
/-! RULES for the state: a field read, a field written, a row read, a row written -/
theorem fit_b (b : Bool) : mmFit 1 (.int (b2i b)) = true := by cases b <;> decide
section RUL
variable {sc : mmC} {rest : List mmC} {to fl ma tr mk cn nu de ru la tb tf ph : Ob} {cs : Int64} {t : List mmI} {pc len j : Nat} {lv : List (Option Value)} {st : List Value} {ax : List Nat} {x : Option Value × List mmC}
theorem gf_1_0 (hf : mmFetch t pc = some (.getfield j, len, 11 :: 0 :: ax)) (K : Ev mmPT t (pc + 3) lv (.ref 2 :: st) (mh sc rest to fl ma tr mk cn nu de ru la tb tf ph cs) x) : Ev mmPT t pc lv (.ref 1 :: st) (mh sc rest to fl ma tr mk cn nu de ru la tb tf ph cs) x := Ev.s hf (mmS_get (ob_1 sc rest to fl ma tr mk cn nu de ru la tb tf ph cs) ⟨rfl, by decide⟩ rfl) K
theorem gf_1_1 (hf : mmFetch t pc = some (.getfield j, len, 11 :: 1 :: ax)) (K : Ev mmPT t (pc + 3) lv (.ref 34 :: st) (mh sc rest to fl ma tr mk cn nu de ru la tb tf ph cs) x) : Ev mmPT t pc lv (.ref 1 :: st) (mh sc rest to fl ma tr mk cn nu de ru la tb tf ph cs) x := Ev.s hf (mmS_get (ob_1 sc rest to fl ma tr mk cn nu de ru la tb tf ph cs) ⟨rfl, by decide⟩ rfl) K
theorem gf_1_2 (hf : mmFetch t pc = some (.getfield j, len, 11 :: 2 :: ax)) (K : Ev mmPT t (pc + 3) lv (.ref 61 :: st) (mh sc rest to fl ma tr mk cn nu de ru la tb tf ph cs) x) : Ev mmPT t pc lv (.ref 1 :: st) (mh sc rest to fl ma tr mk cn nu de ru la tb tf ph cs) x := Ev.s hf (mmS_get (ob_1 sc rest to fl ma tr mk cn nu de ru la tb tf ph cs) ⟨rfl, by decide⟩ rfl) K
theorem gf_1_3 (hf : mmFetch t pc = some (.getfield j, len, 11 :: 3 :: ax)) (K : Ev mmPT t (pc + 3) lv (.ref 88 :: st) (mh sc rest to fl ma tr mk cn nu de ru la tb tf ph cs) x) : Ev mmPT t pc lv (.ref 1 :: st) (mh sc rest to fl ma tr mk cn nu de ru la tb tf ph cs) x := Ev.s hf (mmS_get (ob_1 sc rest to fl ma tr mk cn nu de ru la tb tf ph cs) ⟨rfl, by decide⟩ rfl) K
theorem gf_1_4 (hf : mmFetch t pc = some (.getfield j, len, 11 :: 4 :: ax)) (K : Ev mmPT t (pc + 3) lv (.ref 95 :: st) (mh sc rest to fl ma tr mk cn nu de ru la tb tf ph cs) x) : Ev mmPT t pc lv (.ref 1 :: st) (mh sc rest to fl ma tr mk cn nu de ru la tb tf ph cs) x := Ev.s hf (mmS_get (ob_1 sc rest to fl ma tr mk cn nu de ru la tb tf ph cs) ⟨rfl, by decide⟩ rfl) K
theorem gf_1_5 (hf : mmFetch t pc = some (.getfield j, len, 11 :: 5 :: ax)) (K : Ev mmPT t (pc + 3) lv (.ref 100 :: st) (mh sc rest to fl ma tr mk cn nu de ru la tb tf ph cs) x) : Ev mmPT t pc lv (.ref 1 :: st) (mh sc rest to fl ma tr mk cn nu de ru la tb tf ph cs) x := Ev.s hf (mmS_get (ob_1 sc rest to fl ma tr mk cn nu de ru la tb tf ph cs) ⟨rfl, by decide⟩ rfl) K
theorem gf_1_6 (hf : mmFetch t pc = some (.getfield j, len, 11 :: 6 :: ax)) (K : Ev mmPT t (pc + 3) lv (.ref 110 :: st) (mh sc rest to fl ma tr mk cn nu de ru la tb tf ph cs) x) : Ev mmPT t pc lv (.ref 1 :: st) (mh sc rest to fl ma tr mk cn nu de ru la tb tf ph cs) x := Ev.s hf (mmS_get (ob_1 sc rest to fl ma tr mk cn nu de ru la tb tf ph cs) ⟨rfl, by decide⟩ rfl) K
theorem gf_1_7 (hf : mmFetch t pc = some (.getfield j, len, 11 :: 7 :: ax)) (K : Ev mmPT t (pc + 3) lv (.ref 113 :: st) (mh sc rest to fl ma tr mk cn nu de ru la tb tf ph cs) x) : Ev mmPT t pc lv (.ref 1 :: st) (mh sc rest to fl ma tr mk cn nu de ru la tb tf ph cs) x := Ev.s hf (mmS_get (ob_1 sc rest to fl ma tr mk cn nu de ru la tb tf ph cs) ⟨rfl, by decide⟩ rfl) K
theorem gf_1_8 (hf : mmFetch t pc = some (.getfield j, len, 11 :: 8 :: ax)) (K : Ev mmPT t (pc + 3) lv (.ref 114 :: st) (mh sc rest to fl ma tr mk cn nu de ru la tb tf ph cs) x) : Ev mmPT t pc lv (.ref 1 :: st) (mh sc rest to fl ma tr mk cn nu de ru la tb tf ph cs) x := Ev.s hf (mmS_get (ob_1 sc rest to fl ma tr mk cn nu de ru la tb tf ph cs) ⟨rfl, by decide⟩ rfl) K
theorem gf_1_9 (hf : mmFetch t pc = some (.getfield j, len, 11 :: 9 :: ax)) (K : Ev mmPT t (pc + 3) lv (.ref 121 :: st) (mh sc rest to fl ma tr mk cn nu de ru la tb tf ph cs) x) : Ev mmPT t pc lv (.ref 1 :: st) (mh sc rest to fl ma tr mk cn nu de ru la tb tf ph cs) x := Ev.s hf (mmS_get (ob_1 sc rest to fl ma tr mk cn nu de ru la tb tf ph cs) ⟨rfl, by decide⟩ rfl) K
theorem gf_1_10 (hf : mmFetch t pc = some (.getfield j, len, 11 :: 10 :: ax)) (K : Ev mmPT t (pc + 3) lv (.ref 126 :: st) (mh sc rest to fl ma tr mk cn nu de ru la tb tf ph cs) x) : Ev mmPT t pc lv (.ref 1 :: st) (mh sc rest to fl ma tr mk cn nu de ru la tb tf ph cs) x := Ev.s hf (mmS_get (ob_1 sc rest to fl ma tr mk cn nu de ru la tb tf ph cs) ⟨rfl, by decide⟩ rfl) K
theorem gf_1_11 (hf : mmFetch t pc = some (.getfield j, len, 11 :: 11 :: ax)) (K : Ev mmPT t (pc + 3) lv (.ref 131 :: st) (mh sc rest to fl ma tr mk cn nu de ru la tb tf ph cs) x) : Ev mmPT t pc lv (.ref 1 :: st) (mh sc rest to fl ma tr mk cn nu de ru la tb tf ph cs) x := Ev.s hf (mmS_get (ob_1 sc rest to fl ma tr mk cn nu de ru la tb tf ph cs) ⟨rfl, by decide⟩ rfl) K
theorem gf_1_12 (y : Bool) (hf : mmFetch t pc = some (.getfield j, len, 11 :: 12 :: ax)) (hv : ph.2.2 0 = y) (K : Ev mmPT t (pc + 3) lv (.int (b2i y) :: st) (mh sc rest to fl ma tr mk cn nu de ru la tb tf ph cs) x) : Ev mmPT t pc lv (.ref 1 :: st) (mh sc rest to fl ma tr mk cn nu de ru la tb tf ph cs) x := by
  subst hv
  exact Ev.s hf (mmS_get (ob_1 sc rest to fl ma tr mk cn nu de ru la tb tf ph cs) ⟨rfl, by decide⟩ rfl) K
theorem pf_1_12 (y : Bool) (hf : mmFetch t pc = some (.putfield j, len, 11 :: 12 :: 1 :: ax)) (K : Ev mmPT t (pc + 3) lv st (mh sc rest to fl ma tr mk cn nu de ru la tb tf (oB ph 0 y) cs) x) : Ev mmPT t pc lv (.int (b2i y) :: .ref 1 :: st) (mh sc rest to fl ma tr mk cn nu de ru la tb tf ph cs) x := by
  refine Ev.s hf (mmS_put (ob_1 sc rest to fl ma tr mk cn nu de ru la tb tf ph cs) ⟨rfl, by decide, Nat.le_of_ble_eq_true rfl, fit_b y, by decide⟩) ?_
  rw [os_1_12]
  exact K
theorem gf_1_13 (y : Int32) (hf : mmFetch t pc = some (.getfield j, len, 11 :: 13 :: ax)) (hv : ph.2.1 0 = y) (K : Ev mmPT t (pc + 3) lv (.int y :: st) (mh sc rest to fl ma tr mk cn nu de ru la tb tf ph cs) x) : Ev mmPT t pc lv (.ref 1 :: st) (mh sc rest to fl ma tr mk cn nu de ru la tb tf ph cs) x := by
  subst hv
  exact Ev.s hf (mmS_get (ob_1 sc rest to fl ma tr mk cn nu de ru la tb tf ph cs) ⟨rfl, by decide⟩ rfl) K
theorem pf_1_13 (y : Int32) (hf : mmFetch t pc = some (.putfield j, len, 11 :: 13 :: 0 :: ax)) (K : Ev mmPT t (pc + 3) lv st (mh sc rest to fl ma tr mk cn nu de ru la tb tf (oG ph 0 y) cs) x) : Ev mmPT t pc lv (.int y :: .ref 1 :: st) (mh sc rest to fl ma tr mk cn nu de ru la tb tf ph cs) x := by
  refine Ev.s hf (mmS_put (ob_1 sc rest to fl ma tr mk cn nu de ru la tb tf ph cs) ⟨rfl, by decide, Nat.le_of_ble_eq_true rfl, rfl, by decide⟩) ?_
  rw [os_1_13]
  exact K
theorem gf_1_14 (y : Int64) (hf : mmFetch t pc = some (.getfield j, len, 11 :: 14 :: ax)) (hv : cs = y) (K : Ev mmPT t (pc + 3) lv (.long y :: st) (mh sc rest to fl ma tr mk cn nu de ru la tb tf ph cs) x) : Ev mmPT t pc lv (.ref 1 :: st) (mh sc rest to fl ma tr mk cn nu de ru la tb tf ph cs) x := by
  subst hv
  exact Ev.s hf (mmS_get (ob_1 sc rest to fl ma tr mk cn nu de ru la tb tf ph cs) ⟨rfl, by decide⟩ rfl) K
theorem pf_1_14 (y : Int64) (hf : mmFetch t pc = some (.putfield j, len, 11 :: 14 :: 2 :: ax)) (K : Ev mmPT t (pc + 3) lv st (mh sc rest to fl ma tr mk cn nu de ru la tb tf ph y) x) : Ev mmPT t pc lv (.long y :: .ref 1 :: st) (mh sc rest to fl ma tr mk cn nu de ru la tb tf ph cs) x := by
  refine Ev.s hf (mmS_put (ob_1 sc rest to fl ma tr mk cn nu de ru la tb tf ph cs) ⟨rfl, by decide, Nat.le_of_ble_eq_true rfl, rfl, by decide⟩) ?_
  rw [os_1_14]
  exact K
theorem gf_2_0 (hf : mmFetch t pc = some (.getfield j, len, 10 :: 0 :: ax)) (K : Ev mmPT t (pc + 3) lv (.ref 3 :: st) (mh sc rest to fl ma tr mk cn nu de ru la tb tf ph cs) x) : Ev mmPT t pc lv (.ref 2 :: st) (mh sc rest to fl ma tr mk cn nu de ru la tb tf ph cs) x := Ev.s hf (mmS_get (ob_2 sc rest to fl ma tr mk cn nu de ru la tb tf ph cs) ⟨rfl, by decide⟩ rfl) K
theorem gf_2_1 (hf : mmFetch t pc = some (.getfield j, len, 10 :: 1 :: ax)) (K : Ev mmPT t (pc + 3) lv (.ref 5 :: st) (mh sc rest to fl ma tr mk cn nu de ru la tb tf ph cs) x) : Ev mmPT t pc lv (.ref 2 :: st) (mh sc rest to fl ma tr mk cn nu de ru la tb tf ph cs) x := Ev.s hf (mmS_get (ob_2 sc rest to fl ma tr mk cn nu de ru la tb tf ph cs) ⟨rfl, by decide⟩ rfl) K
theorem gf_2_2 (hf : mmFetch t pc = some (.getfield j, len, 10 :: 2 :: ax)) (K : Ev mmPT t (pc + 3) lv (.ref 7 :: st) (mh sc rest to fl ma tr mk cn nu de ru la tb tf ph cs) x) : Ev mmPT t pc lv (.ref 2 :: st) (mh sc rest to fl ma tr mk cn nu de ru la tb tf ph cs) x := Ev.s hf (mmS_get (ob_2 sc rest to fl ma tr mk cn nu de ru la tb tf ph cs) ⟨rfl, by decide⟩ rfl) K
theorem gf_2_3 (hf : mmFetch t pc = some (.getfield j, len, 10 :: 3 :: ax)) (K : Ev mmPT t (pc + 3) lv (.ref 9 :: st) (mh sc rest to fl ma tr mk cn nu de ru la tb tf ph cs) x) : Ev mmPT t pc lv (.ref 2 :: st) (mh sc rest to fl ma tr mk cn nu de ru la tb tf ph cs) x := Ev.s hf (mmS_get (ob_2 sc rest to fl ma tr mk cn nu de ru la tb tf ph cs) ⟨rfl, by decide⟩ rfl) K
theorem gf_2_4 (hf : mmFetch t pc = some (.getfield j, len, 10 :: 4 :: ax)) (K : Ev mmPT t (pc + 3) lv (.ref 11 :: st) (mh sc rest to fl ma tr mk cn nu de ru la tb tf ph cs) x) : Ev mmPT t pc lv (.ref 2 :: st) (mh sc rest to fl ma tr mk cn nu de ru la tb tf ph cs) x := Ev.s hf (mmS_get (ob_2 sc rest to fl ma tr mk cn nu de ru la tb tf ph cs) ⟨rfl, by decide⟩ rfl) K
theorem gf_2_5 (hf : mmFetch t pc = some (.getfield j, len, 10 :: 5 :: ax)) (K : Ev mmPT t (pc + 3) lv (.ref 13 :: st) (mh sc rest to fl ma tr mk cn nu de ru la tb tf ph cs) x) : Ev mmPT t pc lv (.ref 2 :: st) (mh sc rest to fl ma tr mk cn nu de ru la tb tf ph cs) x := Ev.s hf (mmS_get (ob_2 sc rest to fl ma tr mk cn nu de ru la tb tf ph cs) ⟨rfl, by decide⟩ rfl) K
theorem gf_2_6 (hf : mmFetch t pc = some (.getfield j, len, 10 :: 6 :: ax)) (K : Ev mmPT t (pc + 3) lv (.ref 15 :: st) (mh sc rest to fl ma tr mk cn nu de ru la tb tf ph cs) x) : Ev mmPT t pc lv (.ref 2 :: st) (mh sc rest to fl ma tr mk cn nu de ru la tb tf ph cs) x := Ev.s hf (mmS_get (ob_2 sc rest to fl ma tr mk cn nu de ru la tb tf ph cs) ⟨rfl, by decide⟩ rfl) K
theorem gf_2_7 (hf : mmFetch t pc = some (.getfield j, len, 10 :: 7 :: ax)) (K : Ev mmPT t (pc + 3) lv (.ref 17 :: st) (mh sc rest to fl ma tr mk cn nu de ru la tb tf ph cs) x) : Ev mmPT t pc lv (.ref 2 :: st) (mh sc rest to fl ma tr mk cn nu de ru la tb tf ph cs) x := Ev.s hf (mmS_get (ob_2 sc rest to fl ma tr mk cn nu de ru la tb tf ph cs) ⟨rfl, by decide⟩ rfl) K
theorem gf_2_8 (hf : mmFetch t pc = some (.getfield j, len, 10 :: 8 :: ax)) (K : Ev mmPT t (pc + 3) lv (.ref 19 :: st) (mh sc rest to fl ma tr mk cn nu de ru la tb tf ph cs) x) : Ev mmPT t pc lv (.ref 2 :: st) (mh sc rest to fl ma tr mk cn nu de ru la tb tf ph cs) x := Ev.s hf (mmS_get (ob_2 sc rest to fl ma tr mk cn nu de ru la tb tf ph cs) ⟨rfl, by decide⟩ rfl) K
theorem gf_2_9 (hf : mmFetch t pc = some (.getfield j, len, 10 :: 9 :: ax)) (K : Ev mmPT t (pc + 3) lv (.ref 21 :: st) (mh sc rest to fl ma tr mk cn nu de ru la tb tf ph cs) x) : Ev mmPT t pc lv (.ref 2 :: st) (mh sc rest to fl ma tr mk cn nu de ru la tb tf ph cs) x := Ev.s hf (mmS_get (ob_2 sc rest to fl ma tr mk cn nu de ru la tb tf ph cs) ⟨rfl, by decide⟩ rfl) K
theorem gf_2_10 (hf : mmFetch t pc = some (.getfield j, len, 10 :: 10 :: ax)) (K : Ev mmPT t (pc + 3) lv (.ref 23 :: st) (mh sc rest to fl ma tr mk cn nu de ru la tb tf ph cs) x) : Ev mmPT t pc lv (.ref 2 :: st) (mh sc rest to fl ma tr mk cn nu de ru la tb tf ph cs) x := Ev.s hf (mmS_get (ob_2 sc rest to fl ma tr mk cn nu de ru la tb tf ph cs) ⟨rfl, by decide⟩ rfl) K
theorem gf_2_11 (hf : mmFetch t pc = some (.getfield j, len, 10 :: 11 :: ax)) (K : Ev mmPT t (pc + 3) lv (.ref 25 :: st) (mh sc rest to fl ma tr mk cn nu de ru la tb tf ph cs) x) : Ev mmPT t pc lv (.ref 2 :: st) (mh sc rest to fl ma tr mk cn nu de ru la tb tf ph cs) x := Ev.s hf (mmS_get (ob_2 sc rest to fl ma tr mk cn nu de ru la tb tf ph cs) ⟨rfl, by decide⟩ rfl) K
theorem gf_2_12 (y : Int32) (hf : mmFetch t pc = some (.getfield j, len, 10 :: 12 :: ax)) (hv : to.2.1 0 = y) (K : Ev mmPT t (pc + 3) lv (.int y :: st) (mh sc rest to fl ma tr mk cn nu de ru la tb tf ph cs) x) : Ev mmPT t pc lv (.ref 2 :: st) (mh sc rest to fl ma tr mk cn nu de ru la tb tf ph cs) x := by
  subst hv
  exact Ev.s hf (mmS_get (ob_2 sc rest to fl ma tr mk cn nu de ru la tb tf ph cs) ⟨rfl, by decide⟩ rfl) K
theorem pf_2_12 (y : Int32) (hf : mmFetch t pc = some (.putfield j, len, 10 :: 12 :: 0 :: ax)) (K : Ev mmPT t (pc + 3) lv st (mh sc rest (oG to 0 y) fl ma tr mk cn nu de ru la tb tf ph cs) x) : Ev mmPT t pc lv (.int y :: .ref 2 :: st) (mh sc rest to fl ma tr mk cn nu de ru la tb tf ph cs) x := by
  refine Ev.s hf (mmS_put (ob_2 sc rest to fl ma tr mk cn nu de ru la tb tf ph cs) ⟨rfl, by decide, Nat.le_of_ble_eq_true rfl, rfl, by decide⟩) ?_
  rw [os_2_12]
  exact K
theorem gf_25_0 (hf : mmFetch t pc = some (.getfield j, len, 2 :: 0 :: ax)) (K : Ev mmPT t (pc + 3) lv (.ref 26 :: st) (mh sc rest to fl ma tr mk cn nu de ru la tb tf ph cs) x) : Ev mmPT t pc lv (.ref 25 :: st) (mh sc rest to fl ma tr mk cn nu de ru la tb tf ph cs) x := Ev.s hf (mmS_get (ob_25 sc rest to fl ma tr mk cn nu de ru la tb tf ph cs) ⟨rfl, by decide⟩ rfl) K
theorem gf_25_1 (hf : mmFetch t pc = some (.getfield j, len, 2 :: 1 :: ax)) (K : Ev mmPT t (pc + 3) lv (.ref 28 :: st) (mh sc rest to fl ma tr mk cn nu de ru la tb tf ph cs) x) : Ev mmPT t pc lv (.ref 25 :: st) (mh sc rest to fl ma tr mk cn nu de ru la tb tf ph cs) x := Ev.s hf (mmS_get (ob_25 sc rest to fl ma tr mk cn nu de ru la tb tf ph cs) ⟨rfl, by decide⟩ rfl) K
theorem gf_25_2 (hf : mmFetch t pc = some (.getfield j, len, 2 :: 2 :: ax)) (K : Ev mmPT t (pc + 3) lv (.ref 30 :: st) (mh sc rest to fl ma tr mk cn nu de ru la tb tf ph cs) x) : Ev mmPT t pc lv (.ref 25 :: st) (mh sc rest to fl ma tr mk cn nu de ru la tb tf ph cs) x := Ev.s hf (mmS_get (ob_25 sc rest to fl ma tr mk cn nu de ru la tb tf ph cs) ⟨rfl, by decide⟩ rfl) K
theorem gf_25_3 (hf : mmFetch t pc = some (.getfield j, len, 2 :: 3 :: ax)) (K : Ev mmPT t (pc + 3) lv (.ref 32 :: st) (mh sc rest to fl ma tr mk cn nu de ru la tb tf ph cs) x) : Ev mmPT t pc lv (.ref 25 :: st) (mh sc rest to fl ma tr mk cn nu de ru la tb tf ph cs) x := Ev.s hf (mmS_get (ob_25 sc rest to fl ma tr mk cn nu de ru la tb tf ph cs) ⟨rfl, by decide⟩ rfl) K
theorem gf_25_4 (y : Int32) (hf : mmFetch t pc = some (.getfield j, len, 2 :: 4 :: ax)) (hv : fl.2.1 0 = y) (K : Ev mmPT t (pc + 3) lv (.int y :: st) (mh sc rest to fl ma tr mk cn nu de ru la tb tf ph cs) x) : Ev mmPT t pc lv (.ref 25 :: st) (mh sc rest to fl ma tr mk cn nu de ru la tb tf ph cs) x := by
  subst hv
  exact Ev.s hf (mmS_get (ob_25 sc rest to fl ma tr mk cn nu de ru la tb tf ph cs) ⟨rfl, by decide⟩ rfl) K
theorem pf_25_4 (y : Int32) (hf : mmFetch t pc = some (.putfield j, len, 2 :: 4 :: 0 :: ax)) (K : Ev mmPT t (pc + 3) lv st (mh sc rest to (oG fl 0 y) ma tr mk cn nu de ru la tb tf ph cs) x) : Ev mmPT t pc lv (.int y :: .ref 25 :: st) (mh sc rest to fl ma tr mk cn nu de ru la tb tf ph cs) x := by
  refine Ev.s hf (mmS_put (ob_25 sc rest to fl ma tr mk cn nu de ru la tb tf ph cs) ⟨rfl, by decide, Nat.le_of_ble_eq_true rfl, rfl, by decide⟩) ?_
  rw [os_25_4]
  exact K
theorem gf_34_0 (hf : mmFetch t pc = some (.getfield j, len, 3 :: 0 :: ax)) (K : Ev mmPT t (pc + 3) lv (.ref 35 :: st) (mh sc rest to fl ma tr mk cn nu de ru la tb tf ph cs) x) : Ev mmPT t pc lv (.ref 34 :: st) (mh sc rest to fl ma tr mk cn nu de ru la tb tf ph cs) x := Ev.s hf (mmS_get (ob_34 sc rest to fl ma tr mk cn nu de ru la tb tf ph cs) ⟨rfl, by decide⟩ rfl) K
theorem gf_34_1 (hf : mmFetch t pc = some (.getfield j, len, 3 :: 1 :: ax)) (K : Ev mmPT t (pc + 3) lv (.ref 37 :: st) (mh sc rest to fl ma tr mk cn nu de ru la tb tf ph cs) x) : Ev mmPT t pc lv (.ref 34 :: st) (mh sc rest to fl ma tr mk cn nu de ru la tb tf ph cs) x := Ev.s hf (mmS_get (ob_34 sc rest to fl ma tr mk cn nu de ru la tb tf ph cs) ⟨rfl, by decide⟩ rfl) K
theorem gf_34_2 (hf : mmFetch t pc = some (.getfield j, len, 3 :: 2 :: ax)) (K : Ev mmPT t (pc + 3) lv (.ref 39 :: st) (mh sc rest to fl ma tr mk cn nu de ru la tb tf ph cs) x) : Ev mmPT t pc lv (.ref 34 :: st) (mh sc rest to fl ma tr mk cn nu de ru la tb tf ph cs) x := Ev.s hf (mmS_get (ob_34 sc rest to fl ma tr mk cn nu de ru la tb tf ph cs) ⟨rfl, by decide⟩ rfl) K
theorem gf_34_3 (hf : mmFetch t pc = some (.getfield j, len, 3 :: 3 :: ax)) (K : Ev mmPT t (pc + 3) lv (.ref 41 :: st) (mh sc rest to fl ma tr mk cn nu de ru la tb tf ph cs) x) : Ev mmPT t pc lv (.ref 34 :: st) (mh sc rest to fl ma tr mk cn nu de ru la tb tf ph cs) x := Ev.s hf (mmS_get (ob_34 sc rest to fl ma tr mk cn nu de ru la tb tf ph cs) ⟨rfl, by decide⟩ rfl) K
theorem gf_34_4 (hf : mmFetch t pc = some (.getfield j, len, 3 :: 4 :: ax)) (K : Ev mmPT t (pc + 3) lv (.ref 43 :: st) (mh sc rest to fl ma tr mk cn nu de ru la tb tf ph cs) x) : Ev mmPT t pc lv (.ref 34 :: st) (mh sc rest to fl ma tr mk cn nu de ru la tb tf ph cs) x := Ev.s hf (mmS_get (ob_34 sc rest to fl ma tr mk cn nu de ru la tb tf ph cs) ⟨rfl, by decide⟩ rfl) K
theorem gf_34_5 (hf : mmFetch t pc = some (.getfield j, len, 3 :: 5 :: ax)) (K : Ev mmPT t (pc + 3) lv (.ref 45 :: st) (mh sc rest to fl ma tr mk cn nu de ru la tb tf ph cs) x) : Ev mmPT t pc lv (.ref 34 :: st) (mh sc rest to fl ma tr mk cn nu de ru la tb tf ph cs) x := Ev.s hf (mmS_get (ob_34 sc rest to fl ma tr mk cn nu de ru la tb tf ph cs) ⟨rfl, by decide⟩ rfl) K
theorem gf_34_6 (hf : mmFetch t pc = some (.getfield j, len, 3 :: 6 :: ax)) (K : Ev mmPT t (pc + 3) lv (.ref 47 :: st) (mh sc rest to fl ma tr mk cn nu de ru la tb tf ph cs) x) : Ev mmPT t pc lv (.ref 34 :: st) (mh sc rest to fl ma tr mk cn nu de ru la tb tf ph cs) x := Ev.s hf (mmS_get (ob_34 sc rest to fl ma tr mk cn nu de ru la tb tf ph cs) ⟨rfl, by decide⟩ rfl) K
theorem gf_34_7 (hf : mmFetch t pc = some (.getfield j, len, 3 :: 7 :: ax)) (K : Ev mmPT t (pc + 3) lv (.ref 49 :: st) (mh sc rest to fl ma tr mk cn nu de ru la tb tf ph cs) x) : Ev mmPT t pc lv (.ref 34 :: st) (mh sc rest to fl ma tr mk cn nu de ru la tb tf ph cs) x := Ev.s hf (mmS_get (ob_34 sc rest to fl ma tr mk cn nu de ru la tb tf ph cs) ⟨rfl, by decide⟩ rfl) K
theorem gf_34_8 (hf : mmFetch t pc = some (.getfield j, len, 3 :: 8 :: ax)) (K : Ev mmPT t (pc + 3) lv (.ref 51 :: st) (mh sc rest to fl ma tr mk cn nu de ru la tb tf ph cs) x) : Ev mmPT t pc lv (.ref 34 :: st) (mh sc rest to fl ma tr mk cn nu de ru la tb tf ph cs) x := Ev.s hf (mmS_get (ob_34 sc rest to fl ma tr mk cn nu de ru la tb tf ph cs) ⟨rfl, by decide⟩ rfl) K
theorem gf_34_9 (hf : mmFetch t pc = some (.getfield j, len, 3 :: 9 :: ax)) (K : Ev mmPT t (pc + 3) lv (.ref 53 :: st) (mh sc rest to fl ma tr mk cn nu de ru la tb tf ph cs) x) : Ev mmPT t pc lv (.ref 34 :: st) (mh sc rest to fl ma tr mk cn nu de ru la tb tf ph cs) x := Ev.s hf (mmS_get (ob_34 sc rest to fl ma tr mk cn nu de ru la tb tf ph cs) ⟨rfl, by decide⟩ rfl) K
theorem gf_34_10 (hf : mmFetch t pc = some (.getfield j, len, 3 :: 10 :: ax)) (K : Ev mmPT t (pc + 3) lv (.ref 55 :: st) (mh sc rest to fl ma tr mk cn nu de ru la tb tf ph cs) x) : Ev mmPT t pc lv (.ref 34 :: st) (mh sc rest to fl ma tr mk cn nu de ru la tb tf ph cs) x := Ev.s hf (mmS_get (ob_34 sc rest to fl ma tr mk cn nu de ru la tb tf ph cs) ⟨rfl, by decide⟩ rfl) K
theorem gf_34_11 (hf : mmFetch t pc = some (.getfield j, len, 3 :: 11 :: ax)) (K : Ev mmPT t (pc + 3) lv (.ref 57 :: st) (mh sc rest to fl ma tr mk cn nu de ru la tb tf ph cs) x) : Ev mmPT t pc lv (.ref 34 :: st) (mh sc rest to fl ma tr mk cn nu de ru la tb tf ph cs) x := Ev.s hf (mmS_get (ob_34 sc rest to fl ma tr mk cn nu de ru la tb tf ph cs) ⟨rfl, by decide⟩ rfl) K
theorem gf_34_12 (hf : mmFetch t pc = some (.getfield j, len, 3 :: 12 :: ax)) (K : Ev mmPT t (pc + 3) lv (.ref 59 :: st) (mh sc rest to fl ma tr mk cn nu de ru la tb tf ph cs) x) : Ev mmPT t pc lv (.ref 34 :: st) (mh sc rest to fl ma tr mk cn nu de ru la tb tf ph cs) x := Ev.s hf (mmS_get (ob_34 sc rest to fl ma tr mk cn nu de ru la tb tf ph cs) ⟨rfl, by decide⟩ rfl) K
theorem gf_34_13 (y : Int32) (hf : mmFetch t pc = some (.getfield j, len, 3 :: 13 :: ax)) (hv : ma.2.1 0 = y) (K : Ev mmPT t (pc + 3) lv (.int y :: st) (mh sc rest to fl ma tr mk cn nu de ru la tb tf ph cs) x) : Ev mmPT t pc lv (.ref 34 :: st) (mh sc rest to fl ma tr mk cn nu de ru la tb tf ph cs) x := by
  subst hv
  exact Ev.s hf (mmS_get (ob_34 sc rest to fl ma tr mk cn nu de ru la tb tf ph cs) ⟨rfl, by decide⟩ rfl) K
theorem pf_34_13 (y : Int32) (hf : mmFetch t pc = some (.putfield j, len, 3 :: 13 :: 0 :: ax)) (K : Ev mmPT t (pc + 3) lv st (mh sc rest to fl (oG ma 0 y) tr mk cn nu de ru la tb tf ph cs) x) : Ev mmPT t pc lv (.int y :: .ref 34 :: st) (mh sc rest to fl ma tr mk cn nu de ru la tb tf ph cs) x := by
  refine Ev.s hf (mmS_put (ob_34 sc rest to fl ma tr mk cn nu de ru la tb tf ph cs) ⟨rfl, by decide, Nat.le_of_ble_eq_true rfl, rfl, by decide⟩) ?_
  rw [os_34_13]
  exact K
theorem gf_34_14 (y : Int32) (hf : mmFetch t pc = some (.getfield j, len, 3 :: 14 :: ax)) (hv : ma.2.1 1 = y) (K : Ev mmPT t (pc + 3) lv (.int y :: st) (mh sc rest to fl ma tr mk cn nu de ru la tb tf ph cs) x) : Ev mmPT t pc lv (.ref 34 :: st) (mh sc rest to fl ma tr mk cn nu de ru la tb tf ph cs) x := by
  subst hv
  exact Ev.s hf (mmS_get (ob_34 sc rest to fl ma tr mk cn nu de ru la tb tf ph cs) ⟨rfl, by decide⟩ rfl) K
theorem pf_34_14 (y : Int32) (hf : mmFetch t pc = some (.putfield j, len, 3 :: 14 :: 0 :: ax)) (K : Ev mmPT t (pc + 3) lv st (mh sc rest to fl (oG ma 1 y) tr mk cn nu de ru la tb tf ph cs) x) : Ev mmPT t pc lv (.int y :: .ref 34 :: st) (mh sc rest to fl ma tr mk cn nu de ru la tb tf ph cs) x := by
  refine Ev.s hf (mmS_put (ob_34 sc rest to fl ma tr mk cn nu de ru la tb tf ph cs) ⟨rfl, by decide, Nat.le_of_ble_eq_true rfl, rfl, by decide⟩) ?_
  rw [os_34_14]
  exact K
theorem gf_34_15 (y : Int32) (hf : mmFetch t pc = some (.getfield j, len, 3 :: 15 :: ax)) (hv : ma.2.1 2 = y) (K : Ev mmPT t (pc + 3) lv (.int y :: st) (mh sc rest to fl ma tr mk cn nu de ru la tb tf ph cs) x) : Ev mmPT t pc lv (.ref 34 :: st) (mh sc rest to fl ma tr mk cn nu de ru la tb tf ph cs) x := by
  subst hv
  exact Ev.s hf (mmS_get (ob_34 sc rest to fl ma tr mk cn nu de ru la tb tf ph cs) ⟨rfl, by decide⟩ rfl) K
theorem pf_34_15 (y : Int32) (hf : mmFetch t pc = some (.putfield j, len, 3 :: 15 :: 0 :: ax)) (K : Ev mmPT t (pc + 3) lv st (mh sc rest to fl (oG ma 2 y) tr mk cn nu de ru la tb tf ph cs) x) : Ev mmPT t pc lv (.int y :: .ref 34 :: st) (mh sc rest to fl ma tr mk cn nu de ru la tb tf ph cs) x := by
  refine Ev.s hf (mmS_put (ob_34 sc rest to fl ma tr mk cn nu de ru la tb tf ph cs) ⟨rfl, by decide, Nat.le_of_ble_eq_true rfl, rfl, by decide⟩) ?_
  rw [os_34_15]
  exact K
theorem gf_34_16 (y : Int32) (hf : mmFetch t pc = some (.getfield j, len, 3 :: 16 :: ax)) (hv : ma.2.1 3 = y) (K : Ev mmPT t (pc + 3) lv (.int y :: st) (mh sc rest to fl ma tr mk cn nu de ru la tb tf ph cs) x) : Ev mmPT t pc lv (.ref 34 :: st) (mh sc rest to fl ma tr mk cn nu de ru la tb tf ph cs) x := by
  subst hv
  exact Ev.s hf (mmS_get (ob_34 sc rest to fl ma tr mk cn nu de ru la tb tf ph cs) ⟨rfl, by decide⟩ rfl) K
theorem pf_34_16 (y : Int32) (hf : mmFetch t pc = some (.putfield j, len, 3 :: 16 :: 0 :: ax)) (K : Ev mmPT t (pc + 3) lv st (mh sc rest to fl (oG ma 3 y) tr mk cn nu de ru la tb tf ph cs) x) : Ev mmPT t pc lv (.int y :: .ref 34 :: st) (mh sc rest to fl ma tr mk cn nu de ru la tb tf ph cs) x := by
  refine Ev.s hf (mmS_put (ob_34 sc rest to fl ma tr mk cn nu de ru la tb tf ph cs) ⟨rfl, by decide, Nat.le_of_ble_eq_true rfl, rfl, by decide⟩) ?_
  rw [os_34_16]
  exact K
theorem gf_34_17 (y : Int32) (hf : mmFetch t pc = some (.getfield j, len, 3 :: 17 :: ax)) (hv : ma.2.1 4 = y) (K : Ev mmPT t (pc + 3) lv (.int y :: st) (mh sc rest to fl ma tr mk cn nu de ru la tb tf ph cs) x) : Ev mmPT t pc lv (.ref 34 :: st) (mh sc rest to fl ma tr mk cn nu de ru la tb tf ph cs) x := by
  subst hv
  exact Ev.s hf (mmS_get (ob_34 sc rest to fl ma tr mk cn nu de ru la tb tf ph cs) ⟨rfl, by decide⟩ rfl) K
theorem pf_34_17 (y : Int32) (hf : mmFetch t pc = some (.putfield j, len, 3 :: 17 :: 0 :: ax)) (K : Ev mmPT t (pc + 3) lv st (mh sc rest to fl (oG ma 4 y) tr mk cn nu de ru la tb tf ph cs) x) : Ev mmPT t pc lv (.int y :: .ref 34 :: st) (mh sc rest to fl ma tr mk cn nu de ru la tb tf ph cs) x := by
  refine Ev.s hf (mmS_put (ob_34 sc rest to fl ma tr mk cn nu de ru la tb tf ph cs) ⟨rfl, by decide, Nat.le_of_ble_eq_true rfl, rfl, by decide⟩) ?_
  rw [os_34_17]
  exact K
theorem gf_34_18 (y : Int32) (hf : mmFetch t pc = some (.getfield j, len, 3 :: 18 :: ax)) (hv : ma.2.1 5 = y) (K : Ev mmPT t (pc + 3) lv (.int y :: st) (mh sc rest to fl ma tr mk cn nu de ru la tb tf ph cs) x) : Ev mmPT t pc lv (.ref 34 :: st) (mh sc rest to fl ma tr mk cn nu de ru la tb tf ph cs) x := by
  subst hv
  exact Ev.s hf (mmS_get (ob_34 sc rest to fl ma tr mk cn nu de ru la tb tf ph cs) ⟨rfl, by decide⟩ rfl) K
theorem pf_34_18 (y : Int32) (hf : mmFetch t pc = some (.putfield j, len, 3 :: 18 :: 0 :: ax)) (K : Ev mmPT t (pc + 3) lv st (mh sc rest to fl (oG ma 5 y) tr mk cn nu de ru la tb tf ph cs) x) : Ev mmPT t pc lv (.int y :: .ref 34 :: st) (mh sc rest to fl ma tr mk cn nu de ru la tb tf ph cs) x := by
  refine Ev.s hf (mmS_put (ob_34 sc rest to fl ma tr mk cn nu de ru la tb tf ph cs) ⟨rfl, by decide, Nat.le_of_ble_eq_true rfl, rfl, by decide⟩) ?_
  rw [os_34_18]
  exact K
theorem gf_61_0 (hf : mmFetch t pc = some (.getfield j, len, 3 :: 0 :: ax)) (K : Ev mmPT t (pc + 3) lv (.ref 62 :: st) (mh sc rest to fl ma tr mk cn nu de ru la tb tf ph cs) x) : Ev mmPT t pc lv (.ref 61 :: st) (mh sc rest to fl ma tr mk cn nu de ru la tb tf ph cs) x := Ev.s hf (mmS_get (ob_61 sc rest to fl ma tr mk cn nu de ru la tb tf ph cs) ⟨rfl, by decide⟩ rfl) K
theorem gf_61_1 (hf : mmFetch t pc = some (.getfield j, len, 3 :: 1 :: ax)) (K : Ev mmPT t (pc + 3) lv (.ref 64 :: st) (mh sc rest to fl ma tr mk cn nu de ru la tb tf ph cs) x) : Ev mmPT t pc lv (.ref 61 :: st) (mh sc rest to fl ma tr mk cn nu de ru la tb tf ph cs) x := Ev.s hf (mmS_get (ob_61 sc rest to fl ma tr mk cn nu de ru la tb tf ph cs) ⟨rfl, by decide⟩ rfl) K
theorem gf_61_2 (hf : mmFetch t pc = some (.getfield j, len, 3 :: 2 :: ax)) (K : Ev mmPT t (pc + 3) lv (.ref 66 :: st) (mh sc rest to fl ma tr mk cn nu de ru la tb tf ph cs) x) : Ev mmPT t pc lv (.ref 61 :: st) (mh sc rest to fl ma tr mk cn nu de ru la tb tf ph cs) x := Ev.s hf (mmS_get (ob_61 sc rest to fl ma tr mk cn nu de ru la tb tf ph cs) ⟨rfl, by decide⟩ rfl) K
theorem gf_61_3 (hf : mmFetch t pc = some (.getfield j, len, 3 :: 3 :: ax)) (K : Ev mmPT t (pc + 3) lv (.ref 68 :: st) (mh sc rest to fl ma tr mk cn nu de ru la tb tf ph cs) x) : Ev mmPT t pc lv (.ref 61 :: st) (mh sc rest to fl ma tr mk cn nu de ru la tb tf ph cs) x := Ev.s hf (mmS_get (ob_61 sc rest to fl ma tr mk cn nu de ru la tb tf ph cs) ⟨rfl, by decide⟩ rfl) K
theorem gf_61_4 (hf : mmFetch t pc = some (.getfield j, len, 3 :: 4 :: ax)) (K : Ev mmPT t (pc + 3) lv (.ref 70 :: st) (mh sc rest to fl ma tr mk cn nu de ru la tb tf ph cs) x) : Ev mmPT t pc lv (.ref 61 :: st) (mh sc rest to fl ma tr mk cn nu de ru la tb tf ph cs) x := Ev.s hf (mmS_get (ob_61 sc rest to fl ma tr mk cn nu de ru la tb tf ph cs) ⟨rfl, by decide⟩ rfl) K
theorem gf_61_5 (hf : mmFetch t pc = some (.getfield j, len, 3 :: 5 :: ax)) (K : Ev mmPT t (pc + 3) lv (.ref 72 :: st) (mh sc rest to fl ma tr mk cn nu de ru la tb tf ph cs) x) : Ev mmPT t pc lv (.ref 61 :: st) (mh sc rest to fl ma tr mk cn nu de ru la tb tf ph cs) x := Ev.s hf (mmS_get (ob_61 sc rest to fl ma tr mk cn nu de ru la tb tf ph cs) ⟨rfl, by decide⟩ rfl) K
theorem gf_61_6 (hf : mmFetch t pc = some (.getfield j, len, 3 :: 6 :: ax)) (K : Ev mmPT t (pc + 3) lv (.ref 74 :: st) (mh sc rest to fl ma tr mk cn nu de ru la tb tf ph cs) x) : Ev mmPT t pc lv (.ref 61 :: st) (mh sc rest to fl ma tr mk cn nu de ru la tb tf ph cs) x := Ev.s hf (mmS_get (ob_61 sc rest to fl ma tr mk cn nu de ru la tb tf ph cs) ⟨rfl, by decide⟩ rfl) K
theorem gf_61_7 (hf : mmFetch t pc = some (.getfield j, len, 3 :: 7 :: ax)) (K : Ev mmPT t (pc + 3) lv (.ref 76 :: st) (mh sc rest to fl ma tr mk cn nu de ru la tb tf ph cs) x) : Ev mmPT t pc lv (.ref 61 :: st) (mh sc rest to fl ma tr mk cn nu de ru la tb tf ph cs) x := Ev.s hf (mmS_get (ob_61 sc rest to fl ma tr mk cn nu de ru la tb tf ph cs) ⟨rfl, by decide⟩ rfl) K
theorem gf_61_8 (hf : mmFetch t pc = some (.getfield j, len, 3 :: 8 :: ax)) (K : Ev mmPT t (pc + 3) lv (.ref 78 :: st) (mh sc rest to fl ma tr mk cn nu de ru la tb tf ph cs) x) : Ev mmPT t pc lv (.ref 61 :: st) (mh sc rest to fl ma tr mk cn nu de ru la tb tf ph cs) x := Ev.s hf (mmS_get (ob_61 sc rest to fl ma tr mk cn nu de ru la tb tf ph cs) ⟨rfl, by decide⟩ rfl) K
theorem gf_61_9 (hf : mmFetch t pc = some (.getfield j, len, 3 :: 9 :: ax)) (K : Ev mmPT t (pc + 3) lv (.ref 80 :: st) (mh sc rest to fl ma tr mk cn nu de ru la tb tf ph cs) x) : Ev mmPT t pc lv (.ref 61 :: st) (mh sc rest to fl ma tr mk cn nu de ru la tb tf ph cs) x := Ev.s hf (mmS_get (ob_61 sc rest to fl ma tr mk cn nu de ru la tb tf ph cs) ⟨rfl, by decide⟩ rfl) K
theorem gf_61_10 (hf : mmFetch t pc = some (.getfield j, len, 3 :: 10 :: ax)) (K : Ev mmPT t (pc + 3) lv (.ref 82 :: st) (mh sc rest to fl ma tr mk cn nu de ru la tb tf ph cs) x) : Ev mmPT t pc lv (.ref 61 :: st) (mh sc rest to fl ma tr mk cn nu de ru la tb tf ph cs) x := Ev.s hf (mmS_get (ob_61 sc rest to fl ma tr mk cn nu de ru la tb tf ph cs) ⟨rfl, by decide⟩ rfl) K
theorem gf_61_11 (hf : mmFetch t pc = some (.getfield j, len, 3 :: 11 :: ax)) (K : Ev mmPT t (pc + 3) lv (.ref 84 :: st) (mh sc rest to fl ma tr mk cn nu de ru la tb tf ph cs) x) : Ev mmPT t pc lv (.ref 61 :: st) (mh sc rest to fl ma tr mk cn nu de ru la tb tf ph cs) x := Ev.s hf (mmS_get (ob_61 sc rest to fl ma tr mk cn nu de ru la tb tf ph cs) ⟨rfl, by decide⟩ rfl) K
theorem gf_61_12 (hf : mmFetch t pc = some (.getfield j, len, 3 :: 12 :: ax)) (K : Ev mmPT t (pc + 3) lv (.ref 86 :: st) (mh sc rest to fl ma tr mk cn nu de ru la tb tf ph cs) x) : Ev mmPT t pc lv (.ref 61 :: st) (mh sc rest to fl ma tr mk cn nu de ru la tb tf ph cs) x := Ev.s hf (mmS_get (ob_61 sc rest to fl ma tr mk cn nu de ru la tb tf ph cs) ⟨rfl, by decide⟩ rfl) K
theorem gf_61_13 (y : Int32) (hf : mmFetch t pc = some (.getfield j, len, 3 :: 13 :: ax)) (hv : tr.2.1 0 = y) (K : Ev mmPT t (pc + 3) lv (.int y :: st) (mh sc rest to fl ma tr mk cn nu de ru la tb tf ph cs) x) : Ev mmPT t pc lv (.ref 61 :: st) (mh sc rest to fl ma tr mk cn nu de ru la tb tf ph cs) x := by
  subst hv
  exact Ev.s hf (mmS_get (ob_61 sc rest to fl ma tr mk cn nu de ru la tb tf ph cs) ⟨rfl, by decide⟩ rfl) K
theorem pf_61_13 (y : Int32) (hf : mmFetch t pc = some (.putfield j, len, 3 :: 13 :: 0 :: ax)) (K : Ev mmPT t (pc + 3) lv st (mh sc rest to fl ma (oG tr 0 y) mk cn nu de ru la tb tf ph cs) x) : Ev mmPT t pc lv (.int y :: .ref 61 :: st) (mh sc rest to fl ma tr mk cn nu de ru la tb tf ph cs) x := by
  refine Ev.s hf (mmS_put (ob_61 sc rest to fl ma tr mk cn nu de ru la tb tf ph cs) ⟨rfl, by decide, Nat.le_of_ble_eq_true rfl, rfl, by decide⟩) ?_
  rw [os_61_13]
  exact K
theorem gf_61_14 (y : Int32) (hf : mmFetch t pc = some (.getfield j, len, 3 :: 14 :: ax)) (hv : tr.2.1 1 = y) (K : Ev mmPT t (pc + 3) lv (.int y :: st) (mh sc rest to fl ma tr mk cn nu de ru la tb tf ph cs) x) : Ev mmPT t pc lv (.ref 61 :: st) (mh sc rest to fl ma tr mk cn nu de ru la tb tf ph cs) x := by
  subst hv
  exact Ev.s hf (mmS_get (ob_61 sc rest to fl ma tr mk cn nu de ru la tb tf ph cs) ⟨rfl, by decide⟩ rfl) K
theorem pf_61_14 (y : Int32) (hf : mmFetch t pc = some (.putfield j, len, 3 :: 14 :: 0 :: ax)) (K : Ev mmPT t (pc + 3) lv st (mh sc rest to fl ma (oG tr 1 y) mk cn nu de ru la tb tf ph cs) x) : Ev mmPT t pc lv (.int y :: .ref 61 :: st) (mh sc rest to fl ma tr mk cn nu de ru la tb tf ph cs) x := by
  refine Ev.s hf (mmS_put (ob_61 sc rest to fl ma tr mk cn nu de ru la tb tf ph cs) ⟨rfl, by decide, Nat.le_of_ble_eq_true rfl, rfl, by decide⟩) ?_
  rw [os_61_14]
  exact K
theorem gf_61_15 (y : Int32) (hf : mmFetch t pc = some (.getfield j, len, 3 :: 15 :: ax)) (hv : tr.2.1 2 = y) (K : Ev mmPT t (pc + 3) lv (.int y :: st) (mh sc rest to fl ma tr mk cn nu de ru la tb tf ph cs) x) : Ev mmPT t pc lv (.ref 61 :: st) (mh sc rest to fl ma tr mk cn nu de ru la tb tf ph cs) x := by
  subst hv
  exact Ev.s hf (mmS_get (ob_61 sc rest to fl ma tr mk cn nu de ru la tb tf ph cs) ⟨rfl, by decide⟩ rfl) K
theorem pf_61_15 (y : Int32) (hf : mmFetch t pc = some (.putfield j, len, 3 :: 15 :: 0 :: ax)) (K : Ev mmPT t (pc + 3) lv st (mh sc rest to fl ma (oG tr 2 y) mk cn nu de ru la tb tf ph cs) x) : Ev mmPT t pc lv (.int y :: .ref 61 :: st) (mh sc rest to fl ma tr mk cn nu de ru la tb tf ph cs) x := by
  refine Ev.s hf (mmS_put (ob_61 sc rest to fl ma tr mk cn nu de ru la tb tf ph cs) ⟨rfl, by decide, Nat.le_of_ble_eq_true rfl, rfl, by decide⟩) ?_
  rw [os_61_15]
  exact K
theorem gf_61_16 (y : Int32) (hf : mmFetch t pc = some (.getfield j, len, 3 :: 16 :: ax)) (hv : tr.2.1 3 = y) (K : Ev mmPT t (pc + 3) lv (.int y :: st) (mh sc rest to fl ma tr mk cn nu de ru la tb tf ph cs) x) : Ev mmPT t pc lv (.ref 61 :: st) (mh sc rest to fl ma tr mk cn nu de ru la tb tf ph cs) x := by
  subst hv
  exact Ev.s hf (mmS_get (ob_61 sc rest to fl ma tr mk cn nu de ru la tb tf ph cs) ⟨rfl, by decide⟩ rfl) K
theorem pf_61_16 (y : Int32) (hf : mmFetch t pc = some (.putfield j, len, 3 :: 16 :: 0 :: ax)) (K : Ev mmPT t (pc + 3) lv st (mh sc rest to fl ma (oG tr 3 y) mk cn nu de ru la tb tf ph cs) x) : Ev mmPT t pc lv (.int y :: .ref 61 :: st) (mh sc rest to fl ma tr mk cn nu de ru la tb tf ph cs) x := by
  refine Ev.s hf (mmS_put (ob_61 sc rest to fl ma tr mk cn nu de ru la tb tf ph cs) ⟨rfl, by decide, Nat.le_of_ble_eq_true rfl, rfl, by decide⟩) ?_
  rw [os_61_16]
  exact K
theorem gf_61_17 (y : Int32) (hf : mmFetch t pc = some (.getfield j, len, 3 :: 17 :: ax)) (hv : tr.2.1 4 = y) (K : Ev mmPT t (pc + 3) lv (.int y :: st) (mh sc rest to fl ma tr mk cn nu de ru la tb tf ph cs) x) : Ev mmPT t pc lv (.ref 61 :: st) (mh sc rest to fl ma tr mk cn nu de ru la tb tf ph cs) x := by
  subst hv
  exact Ev.s hf (mmS_get (ob_61 sc rest to fl ma tr mk cn nu de ru la tb tf ph cs) ⟨rfl, by decide⟩ rfl) K
theorem pf_61_17 (y : Int32) (hf : mmFetch t pc = some (.putfield j, len, 3 :: 17 :: 0 :: ax)) (K : Ev mmPT t (pc + 3) lv st (mh sc rest to fl ma (oG tr 4 y) mk cn nu de ru la tb tf ph cs) x) : Ev mmPT t pc lv (.int y :: .ref 61 :: st) (mh sc rest to fl ma tr mk cn nu de ru la tb tf ph cs) x := by
  refine Ev.s hf (mmS_put (ob_61 sc rest to fl ma tr mk cn nu de ru la tb tf ph cs) ⟨rfl, by decide, Nat.le_of_ble_eq_true rfl, rfl, by decide⟩) ?_
  rw [os_61_17]
  exact K
theorem gf_61_18 (y : Int32) (hf : mmFetch t pc = some (.getfield j, len, 3 :: 18 :: ax)) (hv : tr.2.1 5 = y) (K : Ev mmPT t (pc + 3) lv (.int y :: st) (mh sc rest to fl ma tr mk cn nu de ru la tb tf ph cs) x) : Ev mmPT t pc lv (.ref 61 :: st) (mh sc rest to fl ma tr mk cn nu de ru la tb tf ph cs) x := by
  subst hv
  exact Ev.s hf (mmS_get (ob_61 sc rest to fl ma tr mk cn nu de ru la tb tf ph cs) ⟨rfl, by decide⟩ rfl) K
theorem pf_61_18 (y : Int32) (hf : mmFetch t pc = some (.putfield j, len, 3 :: 18 :: 0 :: ax)) (K : Ev mmPT t (pc + 3) lv st (mh sc rest to fl ma (oG tr 5 y) mk cn nu de ru la tb tf ph cs) x) : Ev mmPT t pc lv (.int y :: .ref 61 :: st) (mh sc rest to fl ma tr mk cn nu de ru la tb tf ph cs) x := by
  refine Ev.s hf (mmS_put (ob_61 sc rest to fl ma tr mk cn nu de ru la tb tf ph cs) ⟨rfl, by decide, Nat.le_of_ble_eq_true rfl, rfl, by decide⟩) ?_
  rw [os_61_18]
  exact K
theorem gf_88_0 (hf : mmFetch t pc = some (.getfield j, len, 5 :: 0 :: ax)) (K : Ev mmPT t (pc + 3) lv (.ref 89 :: st) (mh sc rest to fl ma tr mk cn nu de ru la tb tf ph cs) x) : Ev mmPT t pc lv (.ref 88 :: st) (mh sc rest to fl ma tr mk cn nu de ru la tb tf ph cs) x := Ev.s hf (mmS_get (ob_88 sc rest to fl ma tr mk cn nu de ru la tb tf ph cs) ⟨rfl, by decide⟩ rfl) K
theorem gf_88_1 (hf : mmFetch t pc = some (.getfield j, len, 5 :: 1 :: ax)) (K : Ev mmPT t (pc + 3) lv (.ref 91 :: st) (mh sc rest to fl ma tr mk cn nu de ru la tb tf ph cs) x) : Ev mmPT t pc lv (.ref 88 :: st) (mh sc rest to fl ma tr mk cn nu de ru la tb tf ph cs) x := Ev.s hf (mmS_get (ob_88 sc rest to fl ma tr mk cn nu de ru la tb tf ph cs) ⟨rfl, by decide⟩ rfl) K
theorem gf_88_2 (hf : mmFetch t pc = some (.getfield j, len, 5 :: 2 :: ax)) (K : Ev mmPT t (pc + 3) lv (.ref 93 :: st) (mh sc rest to fl ma tr mk cn nu de ru la tb tf ph cs) x) : Ev mmPT t pc lv (.ref 88 :: st) (mh sc rest to fl ma tr mk cn nu de ru la tb tf ph cs) x := Ev.s hf (mmS_get (ob_88 sc rest to fl ma tr mk cn nu de ru la tb tf ph cs) ⟨rfl, by decide⟩ rfl) K
theorem gf_95_0 (hf : mmFetch t pc = some (.getfield j, len, 0 :: 0 :: ax)) (K : Ev mmPT t (pc + 3) lv (.ref 96 :: st) (mh sc rest to fl ma tr mk cn nu de ru la tb tf ph cs) x) : Ev mmPT t pc lv (.ref 95 :: st) (mh sc rest to fl ma tr mk cn nu de ru la tb tf ph cs) x := Ev.s hf (mmS_get (ob_95 sc rest to fl ma tr mk cn nu de ru la tb tf ph cs) ⟨rfl, by decide⟩ rfl) K
theorem gf_95_1 (hf : mmFetch t pc = some (.getfield j, len, 0 :: 1 :: ax)) (K : Ev mmPT t (pc + 3) lv (.ref 98 :: st) (mh sc rest to fl ma tr mk cn nu de ru la tb tf ph cs) x) : Ev mmPT t pc lv (.ref 95 :: st) (mh sc rest to fl ma tr mk cn nu de ru la tb tf ph cs) x := Ev.s hf (mmS_get (ob_95 sc rest to fl ma tr mk cn nu de ru la tb tf ph cs) ⟨rfl, by decide⟩ rfl) K
theorem gf_95_2 (y : Int32) (hf : mmFetch t pc = some (.getfield j, len, 0 :: 2 :: ax)) (hv : cn.2.1 0 = y) (K : Ev mmPT t (pc + 3) lv (.int y :: st) (mh sc rest to fl ma tr mk cn nu de ru la tb tf ph cs) x) : Ev mmPT t pc lv (.ref 95 :: st) (mh sc rest to fl ma tr mk cn nu de ru la tb tf ph cs) x := by
  subst hv
  exact Ev.s hf (mmS_get (ob_95 sc rest to fl ma tr mk cn nu de ru la tb tf ph cs) ⟨rfl, by decide⟩ rfl) K
theorem pf_95_2 (y : Int32) (hf : mmFetch t pc = some (.putfield j, len, 0 :: 2 :: 0 :: ax)) (K : Ev mmPT t (pc + 3) lv st (mh sc rest to fl ma tr mk (oG cn 0 y) nu de ru la tb tf ph cs) x) : Ev mmPT t pc lv (.int y :: .ref 95 :: st) (mh sc rest to fl ma tr mk cn nu de ru la tb tf ph cs) x := by
  refine Ev.s hf (mmS_put (ob_95 sc rest to fl ma tr mk cn nu de ru la tb tf ph cs) ⟨rfl, by decide, Nat.le_of_ble_eq_true rfl, rfl, by decide⟩) ?_
  rw [os_95_2]
  exact K
theorem gf_95_3 (y : Int32) (hf : mmFetch t pc = some (.getfield j, len, 0 :: 3 :: ax)) (hv : cn.2.1 1 = y) (K : Ev mmPT t (pc + 3) lv (.int y :: st) (mh sc rest to fl ma tr mk cn nu de ru la tb tf ph cs) x) : Ev mmPT t pc lv (.ref 95 :: st) (mh sc rest to fl ma tr mk cn nu de ru la tb tf ph cs) x := by
  subst hv
  exact Ev.s hf (mmS_get (ob_95 sc rest to fl ma tr mk cn nu de ru la tb tf ph cs) ⟨rfl, by decide⟩ rfl) K
theorem pf_95_3 (y : Int32) (hf : mmFetch t pc = some (.putfield j, len, 0 :: 3 :: 0 :: ax)) (K : Ev mmPT t (pc + 3) lv st (mh sc rest to fl ma tr mk (oG cn 1 y) nu de ru la tb tf ph cs) x) : Ev mmPT t pc lv (.int y :: .ref 95 :: st) (mh sc rest to fl ma tr mk cn nu de ru la tb tf ph cs) x := by
  refine Ev.s hf (mmS_put (ob_95 sc rest to fl ma tr mk cn nu de ru la tb tf ph cs) ⟨rfl, by decide, Nat.le_of_ble_eq_true rfl, rfl, by decide⟩) ?_
  rw [os_95_3]
  exact K
theorem gf_95_4 (y : Bool) (hf : mmFetch t pc = some (.getfield j, len, 0 :: 4 :: ax)) (hv : cn.2.2 0 = y) (K : Ev mmPT t (pc + 3) lv (.int (b2i y) :: st) (mh sc rest to fl ma tr mk cn nu de ru la tb tf ph cs) x) : Ev mmPT t pc lv (.ref 95 :: st) (mh sc rest to fl ma tr mk cn nu de ru la tb tf ph cs) x := by
  subst hv
  exact Ev.s hf (mmS_get (ob_95 sc rest to fl ma tr mk cn nu de ru la tb tf ph cs) ⟨rfl, by decide⟩ rfl) K
theorem pf_95_4 (y : Bool) (hf : mmFetch t pc = some (.putfield j, len, 0 :: 4 :: 1 :: ax)) (K : Ev mmPT t (pc + 3) lv st (mh sc rest to fl ma tr mk (oB cn 0 y) nu de ru la tb tf ph cs) x) : Ev mmPT t pc lv (.int (b2i y) :: .ref 95 :: st) (mh sc rest to fl ma tr mk cn nu de ru la tb tf ph cs) x := by
  refine Ev.s hf (mmS_put (ob_95 sc rest to fl ma tr mk cn nu de ru la tb tf ph cs) ⟨rfl, by decide, Nat.le_of_ble_eq_true rfl, fit_b y, by decide⟩) ?_
  rw [os_95_4]
  exact K
theorem gf_100_0 (hf : mmFetch t pc = some (.getfield j, len, 6 :: 0 :: ax)) (K : Ev mmPT t (pc + 3) lv (.ref 101 :: st) (mh sc rest to fl ma tr mk cn nu de ru la tb tf ph cs) x) : Ev mmPT t pc lv (.ref 100 :: st) (mh sc rest to fl ma tr mk cn nu de ru la tb tf ph cs) x := Ev.s hf (mmS_get (ob_100 sc rest to fl ma tr mk cn nu de ru la tb tf ph cs) ⟨rfl, by decide⟩ rfl) K
theorem gf_101_0 (hf : mmFetch t pc = some (.getfield j, len, 2 :: 0 :: ax)) (K : Ev mmPT t (pc + 3) lv (.ref 102 :: st) (mh sc rest to fl ma tr mk cn nu de ru la tb tf ph cs) x) : Ev mmPT t pc lv (.ref 101 :: st) (mh sc rest to fl ma tr mk cn nu de ru la tb tf ph cs) x := Ev.s hf (mmS_get (ob_101 sc rest to fl ma tr mk cn nu de ru la tb tf ph cs) ⟨rfl, by decide⟩ rfl) K
theorem gf_101_1 (hf : mmFetch t pc = some (.getfield j, len, 2 :: 1 :: ax)) (K : Ev mmPT t (pc + 3) lv (.ref 104 :: st) (mh sc rest to fl ma tr mk cn nu de ru la tb tf ph cs) x) : Ev mmPT t pc lv (.ref 101 :: st) (mh sc rest to fl ma tr mk cn nu de ru la tb tf ph cs) x := Ev.s hf (mmS_get (ob_101 sc rest to fl ma tr mk cn nu de ru la tb tf ph cs) ⟨rfl, by decide⟩ rfl) K
theorem gf_101_2 (hf : mmFetch t pc = some (.getfield j, len, 2 :: 2 :: ax)) (K : Ev mmPT t (pc + 3) lv (.ref 106 :: st) (mh sc rest to fl ma tr mk cn nu de ru la tb tf ph cs) x) : Ev mmPT t pc lv (.ref 101 :: st) (mh sc rest to fl ma tr mk cn nu de ru la tb tf ph cs) x := Ev.s hf (mmS_get (ob_101 sc rest to fl ma tr mk cn nu de ru la tb tf ph cs) ⟨rfl, by decide⟩ rfl) K
theorem gf_101_3 (hf : mmFetch t pc = some (.getfield j, len, 2 :: 3 :: ax)) (K : Ev mmPT t (pc + 3) lv (.ref 108 :: st) (mh sc rest to fl ma tr mk cn nu de ru la tb tf ph cs) x) : Ev mmPT t pc lv (.ref 101 :: st) (mh sc rest to fl ma tr mk cn nu de ru la tb tf ph cs) x := Ev.s hf (mmS_get (ob_101 sc rest to fl ma tr mk cn nu de ru la tb tf ph cs) ⟨rfl, by decide⟩ rfl) K
theorem gf_101_4 (y : Int32) (hf : mmFetch t pc = some (.getfield j, len, 2 :: 4 :: ax)) (hv : nu.2.1 0 = y) (K : Ev mmPT t (pc + 3) lv (.int y :: st) (mh sc rest to fl ma tr mk cn nu de ru la tb tf ph cs) x) : Ev mmPT t pc lv (.ref 101 :: st) (mh sc rest to fl ma tr mk cn nu de ru la tb tf ph cs) x := by
  subst hv
  exact Ev.s hf (mmS_get (ob_101 sc rest to fl ma tr mk cn nu de ru la tb tf ph cs) ⟨rfl, by decide⟩ rfl) K
theorem pf_101_4 (y : Int32) (hf : mmFetch t pc = some (.putfield j, len, 2 :: 4 :: 0 :: ax)) (K : Ev mmPT t (pc + 3) lv st (mh sc rest to fl ma tr mk cn (oG nu 0 y) de ru la tb tf ph cs) x) : Ev mmPT t pc lv (.int y :: .ref 101 :: st) (mh sc rest to fl ma tr mk cn nu de ru la tb tf ph cs) x := by
  refine Ev.s hf (mmS_put (ob_101 sc rest to fl ma tr mk cn nu de ru la tb tf ph cs) ⟨rfl, by decide, Nat.le_of_ble_eq_true rfl, rfl, by decide⟩) ?_
  rw [os_101_4]
  exact K
theorem gf_110_0 (hf : mmFetch t pc = some (.getfield j, len, 1 :: 0 :: ax)) (K : Ev mmPT t (pc + 3) lv (.ref 111 :: st) (mh sc rest to fl ma tr mk cn nu de ru la tb tf ph cs) x) : Ev mmPT t pc lv (.ref 110 :: st) (mh sc rest to fl ma tr mk cn nu de ru la tb tf ph cs) x := Ev.s hf (mmS_get (ob_110 sc rest to fl ma tr mk cn nu de ru la tb tf ph cs) ⟨rfl, by decide⟩ rfl) K
theorem gf_110_1 (y : Bool) (hf : mmFetch t pc = some (.getfield j, len, 1 :: 1 :: ax)) (hv : de.2.2 0 = y) (K : Ev mmPT t (pc + 3) lv (.int (b2i y) :: st) (mh sc rest to fl ma tr mk cn nu de ru la tb tf ph cs) x) : Ev mmPT t pc lv (.ref 110 :: st) (mh sc rest to fl ma tr mk cn nu de ru la tb tf ph cs) x := by
  subst hv
  exact Ev.s hf (mmS_get (ob_110 sc rest to fl ma tr mk cn nu de ru la tb tf ph cs) ⟨rfl, by decide⟩ rfl) K
theorem pf_110_1 (y : Bool) (hf : mmFetch t pc = some (.putfield j, len, 1 :: 1 :: 1 :: ax)) (K : Ev mmPT t (pc + 3) lv st (mh sc rest to fl ma tr mk cn nu (oB de 0 y) ru la tb tf ph cs) x) : Ev mmPT t pc lv (.int (b2i y) :: .ref 110 :: st) (mh sc rest to fl ma tr mk cn nu de ru la tb tf ph cs) x := by
  refine Ev.s hf (mmS_put (ob_110 sc rest to fl ma tr mk cn nu de ru la tb tf ph cs) ⟨rfl, by decide, Nat.le_of_ble_eq_true rfl, fit_b y, by decide⟩) ?_
  rw [os_110_1]
  exact K
theorem gf_114_0 (hf : mmFetch t pc = some (.getfield j, len, 8 :: 0 :: ax)) (K : Ev mmPT t (pc + 3) lv (.ref 115 :: st) (mh sc rest to fl ma tr mk cn nu de ru la tb tf ph cs) x) : Ev mmPT t pc lv (.ref 114 :: st) (mh sc rest to fl ma tr mk cn nu de ru la tb tf ph cs) x := Ev.s hf (mmS_get (ob_114 sc rest to fl ma tr mk cn nu de ru la tb tf ph cs) ⟨rfl, by decide⟩ rfl) K
theorem gf_114_1 (hf : mmFetch t pc = some (.getfield j, len, 8 :: 1 :: ax)) (K : Ev mmPT t (pc + 3) lv (.ref 117 :: st) (mh sc rest to fl ma tr mk cn nu de ru la tb tf ph cs) x) : Ev mmPT t pc lv (.ref 114 :: st) (mh sc rest to fl ma tr mk cn nu de ru la tb tf ph cs) x := Ev.s hf (mmS_get (ob_114 sc rest to fl ma tr mk cn nu de ru la tb tf ph cs) ⟨rfl, by decide⟩ rfl) K
theorem gf_114_2 (hf : mmFetch t pc = some (.getfield j, len, 8 :: 2 :: ax)) (K : Ev mmPT t (pc + 3) lv (.ref 119 :: st) (mh sc rest to fl ma tr mk cn nu de ru la tb tf ph cs) x) : Ev mmPT t pc lv (.ref 114 :: st) (mh sc rest to fl ma tr mk cn nu de ru la tb tf ph cs) x := Ev.s hf (mmS_get (ob_114 sc rest to fl ma tr mk cn nu de ru la tb tf ph cs) ⟨rfl, by decide⟩ rfl) K
theorem gf_121_0 (hf : mmFetch t pc = some (.getfield j, len, 9 :: 0 :: ax)) (K : Ev mmPT t (pc + 3) lv (.ref 124 :: st) (mh sc rest to fl ma tr mk cn nu de ru la tb tf ph cs) x) : Ev mmPT t pc lv (.ref 121 :: st) (mh sc rest to fl ma tr mk cn nu de ru la tb tf ph cs) x := Ev.s hf (mmS_get (ob_121 sc rest to fl ma tr mk cn nu de ru la tb tf ph cs) ⟨rfl, by decide⟩ rfl) K
theorem gf_121_1 (hf : mmFetch t pc = some (.getfield j, len, 9 :: 1 :: ax)) (K : Ev mmPT t (pc + 3) lv (.ref 122 :: st) (mh sc rest to fl ma tr mk cn nu de ru la tb tf ph cs) x) : Ev mmPT t pc lv (.ref 121 :: st) (mh sc rest to fl ma tr mk cn nu de ru la tb tf ph cs) x := Ev.s hf (mmS_get (ob_121 sc rest to fl ma tr mk cn nu de ru la tb tf ph cs) ⟨rfl, by decide⟩ rfl) K
theorem gf_121_2 (y : Bool) (hf : mmFetch t pc = some (.getfield j, len, 9 :: 2 :: ax)) (hv : la.2.2 0 = y) (K : Ev mmPT t (pc + 3) lv (.int (b2i y) :: st) (mh sc rest to fl ma tr mk cn nu de ru la tb tf ph cs) x) : Ev mmPT t pc lv (.ref 121 :: st) (mh sc rest to fl ma tr mk cn nu de ru la tb tf ph cs) x := by
  subst hv
  exact Ev.s hf (mmS_get (ob_121 sc rest to fl ma tr mk cn nu de ru la tb tf ph cs) ⟨rfl, by decide⟩ rfl) K
theorem pf_121_2 (y : Bool) (hf : mmFetch t pc = some (.putfield j, len, 9 :: 2 :: 1 :: ax)) (K : Ev mmPT t (pc + 3) lv st (mh sc rest to fl ma tr mk cn nu de ru (oB la 0 y) tb tf ph cs) x) : Ev mmPT t pc lv (.int (b2i y) :: .ref 121 :: st) (mh sc rest to fl ma tr mk cn nu de ru la tb tf ph cs) x := by
  refine Ev.s hf (mmS_put (ob_121 sc rest to fl ma tr mk cn nu de ru la tb tf ph cs) ⟨rfl, by decide, Nat.le_of_ble_eq_true rfl, fit_b y, by decide⟩) ?_
  rw [os_121_2]
  exact K
theorem gf_121_3 (y : Int32) (hf : mmFetch t pc = some (.getfield j, len, 9 :: 3 :: ax)) (hv : la.2.1 0 = y) (K : Ev mmPT t (pc + 3) lv (.int y :: st) (mh sc rest to fl ma tr mk cn nu de ru la tb tf ph cs) x) : Ev mmPT t pc lv (.ref 121 :: st) (mh sc rest to fl ma tr mk cn nu de ru la tb tf ph cs) x := by
  subst hv
  exact Ev.s hf (mmS_get (ob_121 sc rest to fl ma tr mk cn nu de ru la tb tf ph cs) ⟨rfl, by decide⟩ rfl) K
theorem pf_121_3 (y : Int32) (hf : mmFetch t pc = some (.putfield j, len, 9 :: 3 :: 0 :: ax)) (K : Ev mmPT t (pc + 3) lv st (mh sc rest to fl ma tr mk cn nu de ru (oG la 0 y) tb tf ph cs) x) : Ev mmPT t pc lv (.int y :: .ref 121 :: st) (mh sc rest to fl ma tr mk cn nu de ru la tb tf ph cs) x := by
  refine Ev.s hf (mmS_put (ob_121 sc rest to fl ma tr mk cn nu de ru la tb tf ph cs) ⟨rfl, by decide, Nat.le_of_ble_eq_true rfl, rfl, by decide⟩) ?_
  rw [os_121_3]
  exact K
theorem gf_121_4 (y : Int32) (hf : mmFetch t pc = some (.getfield j, len, 9 :: 4 :: ax)) (hv : la.2.1 1 = y) (K : Ev mmPT t (pc + 3) lv (.int y :: st) (mh sc rest to fl ma tr mk cn nu de ru la tb tf ph cs) x) : Ev mmPT t pc lv (.ref 121 :: st) (mh sc rest to fl ma tr mk cn nu de ru la tb tf ph cs) x := by
  subst hv
  exact Ev.s hf (mmS_get (ob_121 sc rest to fl ma tr mk cn nu de ru la tb tf ph cs) ⟨rfl, by decide⟩ rfl) K
theorem pf_121_4 (y : Int32) (hf : mmFetch t pc = some (.putfield j, len, 9 :: 4 :: 0 :: ax)) (K : Ev mmPT t (pc + 3) lv st (mh sc rest to fl ma tr mk cn nu de ru (oG la 1 y) tb tf ph cs) x) : Ev mmPT t pc lv (.int y :: .ref 121 :: st) (mh sc rest to fl ma tr mk cn nu de ru la tb tf ph cs) x := by
  refine Ev.s hf (mmS_put (ob_121 sc rest to fl ma tr mk cn nu de ru la tb tf ph cs) ⟨rfl, by decide, Nat.le_of_ble_eq_true rfl, rfl, by decide⟩) ?_
  rw [os_121_4]
  exact K
theorem gf_121_5 (y : Int32) (hf : mmFetch t pc = some (.getfield j, len, 9 :: 5 :: ax)) (hv : la.2.1 2 = y) (K : Ev mmPT t (pc + 3) lv (.int y :: st) (mh sc rest to fl ma tr mk cn nu de ru la tb tf ph cs) x) : Ev mmPT t pc lv (.ref 121 :: st) (mh sc rest to fl ma tr mk cn nu de ru la tb tf ph cs) x := by
  subst hv
  exact Ev.s hf (mmS_get (ob_121 sc rest to fl ma tr mk cn nu de ru la tb tf ph cs) ⟨rfl, by decide⟩ rfl) K
theorem pf_121_5 (y : Int32) (hf : mmFetch t pc = some (.putfield j, len, 9 :: 5 :: 0 :: ax)) (K : Ev mmPT t (pc + 3) lv st (mh sc rest to fl ma tr mk cn nu de ru (oG la 2 y) tb tf ph cs) x) : Ev mmPT t pc lv (.int y :: .ref 121 :: st) (mh sc rest to fl ma tr mk cn nu de ru la tb tf ph cs) x := by
  refine Ev.s hf (mmS_put (ob_121 sc rest to fl ma tr mk cn nu de ru la tb tf ph cs) ⟨rfl, by decide, Nat.le_of_ble_eq_true rfl, rfl, by decide⟩) ?_
  rw [os_121_5]
  exact K
theorem gf_121_6 (y : Int32) (hf : mmFetch t pc = some (.getfield j, len, 9 :: 6 :: ax)) (hv : la.2.1 3 = y) (K : Ev mmPT t (pc + 3) lv (.int y :: st) (mh sc rest to fl ma tr mk cn nu de ru la tb tf ph cs) x) : Ev mmPT t pc lv (.ref 121 :: st) (mh sc rest to fl ma tr mk cn nu de ru la tb tf ph cs) x := by
  subst hv
  exact Ev.s hf (mmS_get (ob_121 sc rest to fl ma tr mk cn nu de ru la tb tf ph cs) ⟨rfl, by decide⟩ rfl) K
theorem pf_121_6 (y : Int32) (hf : mmFetch t pc = some (.putfield j, len, 9 :: 6 :: 0 :: ax)) (K : Ev mmPT t (pc + 3) lv st (mh sc rest to fl ma tr mk cn nu de ru (oG la 3 y) tb tf ph cs) x) : Ev mmPT t pc lv (.int y :: .ref 121 :: st) (mh sc rest to fl ma tr mk cn nu de ru la tb tf ph cs) x := by
  refine Ev.s hf (mmS_put (ob_121 sc rest to fl ma tr mk cn nu de ru la tb tf ph cs) ⟨rfl, by decide, Nat.le_of_ble_eq_true rfl, rfl, by decide⟩) ?_
  rw [os_121_6]
  exact K
theorem gf_121_7 (y : Int32) (hf : mmFetch t pc = some (.getfield j, len, 9 :: 7 :: ax)) (hv : la.2.1 4 = y) (K : Ev mmPT t (pc + 3) lv (.int y :: st) (mh sc rest to fl ma tr mk cn nu de ru la tb tf ph cs) x) : Ev mmPT t pc lv (.ref 121 :: st) (mh sc rest to fl ma tr mk cn nu de ru la tb tf ph cs) x := by
  subst hv
  exact Ev.s hf (mmS_get (ob_121 sc rest to fl ma tr mk cn nu de ru la tb tf ph cs) ⟨rfl, by decide⟩ rfl) K
theorem pf_121_7 (y : Int32) (hf : mmFetch t pc = some (.putfield j, len, 9 :: 7 :: 0 :: ax)) (K : Ev mmPT t (pc + 3) lv st (mh sc rest to fl ma tr mk cn nu de ru (oG la 4 y) tb tf ph cs) x) : Ev mmPT t pc lv (.int y :: .ref 121 :: st) (mh sc rest to fl ma tr mk cn nu de ru la tb tf ph cs) x := by
  refine Ev.s hf (mmS_put (ob_121 sc rest to fl ma tr mk cn nu de ru la tb tf ph cs) ⟨rfl, by decide, Nat.le_of_ble_eq_true rfl, rfl, by decide⟩) ?_
  rw [os_121_7]
  exact K
theorem gf_126_0 (hf : mmFetch t pc = some (.getfield j, len, 9 :: 0 :: ax)) (K : Ev mmPT t (pc + 3) lv (.ref 129 :: st) (mh sc rest to fl ma tr mk cn nu de ru la tb tf ph cs) x) : Ev mmPT t pc lv (.ref 126 :: st) (mh sc rest to fl ma tr mk cn nu de ru la tb tf ph cs) x := Ev.s hf (mmS_get (ob_126 sc rest to fl ma tr mk cn nu de ru la tb tf ph cs) ⟨rfl, by decide⟩ rfl) K
theorem gf_126_1 (hf : mmFetch t pc = some (.getfield j, len, 9 :: 1 :: ax)) (K : Ev mmPT t (pc + 3) lv (.ref 127 :: st) (mh sc rest to fl ma tr mk cn nu de ru la tb tf ph cs) x) : Ev mmPT t pc lv (.ref 126 :: st) (mh sc rest to fl ma tr mk cn nu de ru la tb tf ph cs) x := Ev.s hf (mmS_get (ob_126 sc rest to fl ma tr mk cn nu de ru la tb tf ph cs) ⟨rfl, by decide⟩ rfl) K
theorem gf_126_2 (y : Bool) (hf : mmFetch t pc = some (.getfield j, len, 9 :: 2 :: ax)) (hv : tb.2.2 0 = y) (K : Ev mmPT t (pc + 3) lv (.int (b2i y) :: st) (mh sc rest to fl ma tr mk cn nu de ru la tb tf ph cs) x) : Ev mmPT t pc lv (.ref 126 :: st) (mh sc rest to fl ma tr mk cn nu de ru la tb tf ph cs) x := by
  subst hv
  exact Ev.s hf (mmS_get (ob_126 sc rest to fl ma tr mk cn nu de ru la tb tf ph cs) ⟨rfl, by decide⟩ rfl) K
theorem pf_126_2 (y : Bool) (hf : mmFetch t pc = some (.putfield j, len, 9 :: 2 :: 1 :: ax)) (K : Ev mmPT t (pc + 3) lv st (mh sc rest to fl ma tr mk cn nu de ru la (oB tb 0 y) tf ph cs) x) : Ev mmPT t pc lv (.int (b2i y) :: .ref 126 :: st) (mh sc rest to fl ma tr mk cn nu de ru la tb tf ph cs) x := by
  refine Ev.s hf (mmS_put (ob_126 sc rest to fl ma tr mk cn nu de ru la tb tf ph cs) ⟨rfl, by decide, Nat.le_of_ble_eq_true rfl, fit_b y, by decide⟩) ?_
  rw [os_126_2]
  exact K
theorem gf_126_3 (y : Int32) (hf : mmFetch t pc = some (.getfield j, len, 9 :: 3 :: ax)) (hv : tb.2.1 0 = y) (K : Ev mmPT t (pc + 3) lv (.int y :: st) (mh sc rest to fl ma tr mk cn nu de ru la tb tf ph cs) x) : Ev mmPT t pc lv (.ref 126 :: st) (mh sc rest to fl ma tr mk cn nu de ru la tb tf ph cs) x := by
  subst hv
  exact Ev.s hf (mmS_get (ob_126 sc rest to fl ma tr mk cn nu de ru la tb tf ph cs) ⟨rfl, by decide⟩ rfl) K
theorem pf_126_3 (y : Int32) (hf : mmFetch t pc = some (.putfield j, len, 9 :: 3 :: 0 :: ax)) (K : Ev mmPT t (pc + 3) lv st (mh sc rest to fl ma tr mk cn nu de ru la (oG tb 0 y) tf ph cs) x) : Ev mmPT t pc lv (.int y :: .ref 126 :: st) (mh sc rest to fl ma tr mk cn nu de ru la tb tf ph cs) x := by
  refine Ev.s hf (mmS_put (ob_126 sc rest to fl ma tr mk cn nu de ru la tb tf ph cs) ⟨rfl, by decide, Nat.le_of_ble_eq_true rfl, rfl, by decide⟩) ?_
  rw [os_126_3]
  exact K
theorem gf_126_4 (y : Int32) (hf : mmFetch t pc = some (.getfield j, len, 9 :: 4 :: ax)) (hv : tb.2.1 1 = y) (K : Ev mmPT t (pc + 3) lv (.int y :: st) (mh sc rest to fl ma tr mk cn nu de ru la tb tf ph cs) x) : Ev mmPT t pc lv (.ref 126 :: st) (mh sc rest to fl ma tr mk cn nu de ru la tb tf ph cs) x := by
  subst hv
  exact Ev.s hf (mmS_get (ob_126 sc rest to fl ma tr mk cn nu de ru la tb tf ph cs) ⟨rfl, by decide⟩ rfl) K
theorem pf_126_4 (y : Int32) (hf : mmFetch t pc = some (.putfield j, len, 9 :: 4 :: 0 :: ax)) (K : Ev mmPT t (pc + 3) lv st (mh sc rest to fl ma tr mk cn nu de ru la (oG tb 1 y) tf ph cs) x) : Ev mmPT t pc lv (.int y :: .ref 126 :: st) (mh sc rest to fl ma tr mk cn nu de ru la tb tf ph cs) x := by
  refine Ev.s hf (mmS_put (ob_126 sc rest to fl ma tr mk cn nu de ru la tb tf ph cs) ⟨rfl, by decide, Nat.le_of_ble_eq_true rfl, rfl, by decide⟩) ?_
  rw [os_126_4]
  exact K
theorem gf_126_5 (y : Int32) (hf : mmFetch t pc = some (.getfield j, len, 9 :: 5 :: ax)) (hv : tb.2.1 2 = y) (K : Ev mmPT t (pc + 3) lv (.int y :: st) (mh sc rest to fl ma tr mk cn nu de ru la tb tf ph cs) x) : Ev mmPT t pc lv (.ref 126 :: st) (mh sc rest to fl ma tr mk cn nu de ru la tb tf ph cs) x := by
  subst hv
  exact Ev.s hf (mmS_get (ob_126 sc rest to fl ma tr mk cn nu de ru la tb tf ph cs) ⟨rfl, by decide⟩ rfl) K
theorem pf_126_5 (y : Int32) (hf : mmFetch t pc = some (.putfield j, len, 9 :: 5 :: 0 :: ax)) (K : Ev mmPT t (pc + 3) lv st (mh sc rest to fl ma tr mk cn nu de ru la (oG tb 2 y) tf ph cs) x) : Ev mmPT t pc lv (.int y :: .ref 126 :: st) (mh sc rest to fl ma tr mk cn nu de ru la tb tf ph cs) x := by
  refine Ev.s hf (mmS_put (ob_126 sc rest to fl ma tr mk cn nu de ru la tb tf ph cs) ⟨rfl, by decide, Nat.le_of_ble_eq_true rfl, rfl, by decide⟩) ?_
  rw [os_126_5]
  exact K
theorem gf_126_6 (y : Int32) (hf : mmFetch t pc = some (.getfield j, len, 9 :: 6 :: ax)) (hv : tb.2.1 3 = y) (K : Ev mmPT t (pc + 3) lv (.int y :: st) (mh sc rest to fl ma tr mk cn nu de ru la tb tf ph cs) x) : Ev mmPT t pc lv (.ref 126 :: st) (mh sc rest to fl ma tr mk cn nu de ru la tb tf ph cs) x := by
  subst hv
  exact Ev.s hf (mmS_get (ob_126 sc rest to fl ma tr mk cn nu de ru la tb tf ph cs) ⟨rfl, by decide⟩ rfl) K
theorem pf_126_6 (y : Int32) (hf : mmFetch t pc = some (.putfield j, len, 9 :: 6 :: 0 :: ax)) (K : Ev mmPT t (pc + 3) lv st (mh sc rest to fl ma tr mk cn nu de ru la (oG tb 3 y) tf ph cs) x) : Ev mmPT t pc lv (.int y :: .ref 126 :: st) (mh sc rest to fl ma tr mk cn nu de ru la tb tf ph cs) x := by
  refine Ev.s hf (mmS_put (ob_126 sc rest to fl ma tr mk cn nu de ru la tb tf ph cs) ⟨rfl, by decide, Nat.le_of_ble_eq_true rfl, rfl, by decide⟩) ?_
  rw [os_126_6]
  exact K
theorem gf_126_7 (y : Int32) (hf : mmFetch t pc = some (.getfield j, len, 9 :: 7 :: ax)) (hv : tb.2.1 4 = y) (K : Ev mmPT t (pc + 3) lv (.int y :: st) (mh sc rest to fl ma tr mk cn nu de ru la tb tf ph cs) x) : Ev mmPT t pc lv (.ref 126 :: st) (mh sc rest to fl ma tr mk cn nu de ru la tb tf ph cs) x := by
  subst hv
  exact Ev.s hf (mmS_get (ob_126 sc rest to fl ma tr mk cn nu de ru la tb tf ph cs) ⟨rfl, by decide⟩ rfl) K
theorem pf_126_7 (y : Int32) (hf : mmFetch t pc = some (.putfield j, len, 9 :: 7 :: 0 :: ax)) (K : Ev mmPT t (pc + 3) lv st (mh sc rest to fl ma tr mk cn nu de ru la (oG tb 4 y) tf ph cs) x) : Ev mmPT t pc lv (.int y :: .ref 126 :: st) (mh sc rest to fl ma tr mk cn nu de ru la tb tf ph cs) x := by
  refine Ev.s hf (mmS_put (ob_126 sc rest to fl ma tr mk cn nu de ru la tb tf ph cs) ⟨rfl, by decide, Nat.le_of_ble_eq_true rfl, rfl, by decide⟩) ?_
  rw [os_126_7]
  exact K
theorem gf_131_0 (hf : mmFetch t pc = some (.getfield j, len, 9 :: 0 :: ax)) (K : Ev mmPT t (pc + 3) lv (.ref 134 :: st) (mh sc rest to fl ma tr mk cn nu de ru la tb tf ph cs) x) : Ev mmPT t pc lv (.ref 131 :: st) (mh sc rest to fl ma tr mk cn nu de ru la tb tf ph cs) x := Ev.s hf (mmS_get (ob_131 sc rest to fl ma tr mk cn nu de ru la tb tf ph cs) ⟨rfl, by decide⟩ rfl) K
theorem gf_131_1 (hf : mmFetch t pc = some (.getfield j, len, 9 :: 1 :: ax)) (K : Ev mmPT t (pc + 3) lv (.ref 132 :: st) (mh sc rest to fl ma tr mk cn nu de ru la tb tf ph cs) x) : Ev mmPT t pc lv (.ref 131 :: st) (mh sc rest to fl ma tr mk cn nu de ru la tb tf ph cs) x := Ev.s hf (mmS_get (ob_131 sc rest to fl ma tr mk cn nu de ru la tb tf ph cs) ⟨rfl, by decide⟩ rfl) K
theorem gf_131_2 (y : Bool) (hf : mmFetch t pc = some (.getfield j, len, 9 :: 2 :: ax)) (hv : tf.2.2 0 = y) (K : Ev mmPT t (pc + 3) lv (.int (b2i y) :: st) (mh sc rest to fl ma tr mk cn nu de ru la tb tf ph cs) x) : Ev mmPT t pc lv (.ref 131 :: st) (mh sc rest to fl ma tr mk cn nu de ru la tb tf ph cs) x := by
  subst hv
  exact Ev.s hf (mmS_get (ob_131 sc rest to fl ma tr mk cn nu de ru la tb tf ph cs) ⟨rfl, by decide⟩ rfl) K
theorem pf_131_2 (y : Bool) (hf : mmFetch t pc = some (.putfield j, len, 9 :: 2 :: 1 :: ax)) (K : Ev mmPT t (pc + 3) lv st (mh sc rest to fl ma tr mk cn nu de ru la tb (oB tf 0 y) ph cs) x) : Ev mmPT t pc lv (.int (b2i y) :: .ref 131 :: st) (mh sc rest to fl ma tr mk cn nu de ru la tb tf ph cs) x := by
  refine Ev.s hf (mmS_put (ob_131 sc rest to fl ma tr mk cn nu de ru la tb tf ph cs) ⟨rfl, by decide, Nat.le_of_ble_eq_true rfl, fit_b y, by decide⟩) ?_
  rw [os_131_2]
  exact K
theorem gf_131_3 (y : Int32) (hf : mmFetch t pc = some (.getfield j, len, 9 :: 3 :: ax)) (hv : tf.2.1 0 = y) (K : Ev mmPT t (pc + 3) lv (.int y :: st) (mh sc rest to fl ma tr mk cn nu de ru la tb tf ph cs) x) : Ev mmPT t pc lv (.ref 131 :: st) (mh sc rest to fl ma tr mk cn nu de ru la tb tf ph cs) x := by
  subst hv
  exact Ev.s hf (mmS_get (ob_131 sc rest to fl ma tr mk cn nu de ru la tb tf ph cs) ⟨rfl, by decide⟩ rfl) K
theorem pf_131_3 (y : Int32) (hf : mmFetch t pc = some (.putfield j, len, 9 :: 3 :: 0 :: ax)) (K : Ev mmPT t (pc + 3) lv st (mh sc rest to fl ma tr mk cn nu de ru la tb (oG tf 0 y) ph cs) x) : Ev mmPT t pc lv (.int y :: .ref 131 :: st) (mh sc rest to fl ma tr mk cn nu de ru la tb tf ph cs) x := by
  refine Ev.s hf (mmS_put (ob_131 sc rest to fl ma tr mk cn nu de ru la tb tf ph cs) ⟨rfl, by decide, Nat.le_of_ble_eq_true rfl, rfl, by decide⟩) ?_
  rw [os_131_3]
  exact K
theorem gf_131_4 (y : Int32) (hf : mmFetch t pc = some (.getfield j, len, 9 :: 4 :: ax)) (hv : tf.2.1 1 = y) (K : Ev mmPT t (pc + 3) lv (.int y :: st) (mh sc rest to fl ma tr mk cn nu de ru la tb tf ph cs) x) : Ev mmPT t pc lv (.ref 131 :: st) (mh sc rest to fl ma tr mk cn nu de ru la tb tf ph cs) x := by
  subst hv
  exact Ev.s hf (mmS_get (ob_131 sc rest to fl ma tr mk cn nu de ru la tb tf ph cs) ⟨rfl, by decide⟩ rfl) K
theorem pf_131_4 (y : Int32) (hf : mmFetch t pc = some (.putfield j, len, 9 :: 4 :: 0 :: ax)) (K : Ev mmPT t (pc + 3) lv st (mh sc rest to fl ma tr mk cn nu de ru la tb (oG tf 1 y) ph cs) x) : Ev mmPT t pc lv (.int y :: .ref 131 :: st) (mh sc rest to fl ma tr mk cn nu de ru la tb tf ph cs) x := by
  refine Ev.s hf (mmS_put (ob_131 sc rest to fl ma tr mk cn nu de ru la tb tf ph cs) ⟨rfl, by decide, Nat.le_of_ble_eq_true rfl, rfl, by decide⟩) ?_
  rw [os_131_4]
  exact K
theorem gf_131_5 (y : Int32) (hf : mmFetch t pc = some (.getfield j, len, 9 :: 5 :: ax)) (hv : tf.2.1 2 = y) (K : Ev mmPT t (pc + 3) lv (.int y :: st) (mh sc rest to fl ma tr mk cn nu de ru la tb tf ph cs) x) : Ev mmPT t pc lv (.ref 131 :: st) (mh sc rest to fl ma tr mk cn nu de ru la tb tf ph cs) x := by
  subst hv
  exact Ev.s hf (mmS_get (ob_131 sc rest to fl ma tr mk cn nu de ru la tb tf ph cs) ⟨rfl, by decide⟩ rfl) K
theorem pf_131_5 (y : Int32) (hf : mmFetch t pc = some (.putfield j, len, 9 :: 5 :: 0 :: ax)) (K : Ev mmPT t (pc + 3) lv st (mh sc rest to fl ma tr mk cn nu de ru la tb (oG tf 2 y) ph cs) x) : Ev mmPT t pc lv (.int y :: .ref 131 :: st) (mh sc rest to fl ma tr mk cn nu de ru la tb tf ph cs) x := by
  refine Ev.s hf (mmS_put (ob_131 sc rest to fl ma tr mk cn nu de ru la tb tf ph cs) ⟨rfl, by decide, Nat.le_of_ble_eq_true rfl, rfl, by decide⟩) ?_
  rw [os_131_5]
  exact K
theorem gf_131_6 (y : Int32) (hf : mmFetch t pc = some (.getfield j, len, 9 :: 6 :: ax)) (hv : tf.2.1 3 = y) (K : Ev mmPT t (pc + 3) lv (.int y :: st) (mh sc rest to fl ma tr mk cn nu de ru la tb tf ph cs) x) : Ev mmPT t pc lv (.ref 131 :: st) (mh sc rest to fl ma tr mk cn nu de ru la tb tf ph cs) x := by
  subst hv
  exact Ev.s hf (mmS_get (ob_131 sc rest to fl ma tr mk cn nu de ru la tb tf ph cs) ⟨rfl, by decide⟩ rfl) K
theorem pf_131_6 (y : Int32) (hf : mmFetch t pc = some (.putfield j, len, 9 :: 6 :: 0 :: ax)) (K : Ev mmPT t (pc + 3) lv st (mh sc rest to fl ma tr mk cn nu de ru la tb (oG tf 3 y) ph cs) x) : Ev mmPT t pc lv (.int y :: .ref 131 :: st) (mh sc rest to fl ma tr mk cn nu de ru la tb tf ph cs) x := by
  refine Ev.s hf (mmS_put (ob_131 sc rest to fl ma tr mk cn nu de ru la tb tf ph cs) ⟨rfl, by decide, Nat.le_of_ble_eq_true rfl, rfl, by decide⟩) ?_
  rw [os_131_6]
  exact K
theorem gf_131_7 (y : Int32) (hf : mmFetch t pc = some (.getfield j, len, 9 :: 7 :: ax)) (hv : tf.2.1 4 = y) (K : Ev mmPT t (pc + 3) lv (.int y :: st) (mh sc rest to fl ma tr mk cn nu de ru la tb tf ph cs) x) : Ev mmPT t pc lv (.ref 131 :: st) (mh sc rest to fl ma tr mk cn nu de ru la tb tf ph cs) x := by
  subst hv
  exact Ev.s hf (mmS_get (ob_131 sc rest to fl ma tr mk cn nu de ru la tb tf ph cs) ⟨rfl, by decide⟩ rfl) K
theorem pf_131_7 (y : Int32) (hf : mmFetch t pc = some (.putfield j, len, 9 :: 7 :: 0 :: ax)) (K : Ev mmPT t (pc + 3) lv st (mh sc rest to fl ma tr mk cn nu de ru la tb (oG tf 4 y) ph cs) x) : Ev mmPT t pc lv (.int y :: .ref 131 :: st) (mh sc rest to fl ma tr mk cn nu de ru la tb tf ph cs) x := by
  refine Ev.s hf (mmS_put (ob_131 sc rest to fl ma tr mk cn nu de ru la tb tf ph cs) ⟨rfl, by decide, Nat.le_of_ble_eq_true rfl, rfl, by decide⟩) ?_
  rw [os_131_7]
  exact K
theorem at_3 {k : Int32} (y : Int32) (hf : mmFetch t pc = some (.invokevirtual j, len, 0 :: 82 :: 2 :: 7 :: ax)) (hw : mmWords st ≤ 8) (hv : oat to 0 10 k = y) (K : Ev mmPT t (pc + 3) lv (.int y :: st) (mh sc rest to fl ma tr mk cn nu de ru la tb tf ph cs) x) : Ev mmPT t pc lv (.int k :: .ref 3 :: st) (mh sc rest to fl ma tr mk cn nu de ru la tb tf ph cs) x := by
  subst hv
  exact Ev.cat hf (ro_3 sc rest to fl ma tr mk cn nu de ru la tb tf ph cs) (ra_3 sc rest to fl ma tr mk cn nu de ru la tb tf ph cs) (Nat.le_of_ble_eq_true rfl) hw K
theorem pt_3 {k y : Int32} (hf : mmFetch t pc = some (.invokevirtual j, len, 0 :: 83 :: 3 :: 7 :: ax)) (hw : mmWords st ≤ 8) (K : Ev mmPT t (pc + 3) lv st (mh sc rest (oput to 0 10 k y) fl ma tr mk cn nu de ru la tb tf ph cs) x) : Ev mmPT t pc lv (.int y :: .int k :: .ref 3 :: st) (mh sc rest to fl ma tr mk cn nu de ru la tb tf ph cs) x := by
  refine Ev.cput hf (ro_3 sc rest to fl ma tr mk cn nu de ru la tb tf ph cs) (ra_3 sc rest to fl ma tr mk cn nu de ru la tb tf ph cs) (Nat.le_of_ble_eq_true rfl) (Nat.le_of_ble_eq_true rfl) hw ?_
  rw [rs_3]
  exact K
theorem fl_3 {y : Int32} (hf : mmFetch t pc = some (.invokevirtual j, len, 0 :: 84 :: 2 :: 7 :: ax)) (hw : mmWords st ≤ 8) (K : Ev mmPT t (pc + 3) lv st (mh sc rest (ofil to 0 y) fl ma tr mk cn nu de ru la tb tf ph cs) x) : Ev mmPT t pc lv (.int y :: .ref 3 :: st) (mh sc rest to fl ma tr mk cn nu de ru la tb tf ph cs) x := by
  refine Ev.cfill hf (ro_3 sc rest to fl ma tr mk cn nu de ru la tb tf ph cs) (ra_3 sc rest to fl ma tr mk cn nu de ru la tb tf ph cs) (Nat.le_of_ble_eq_true rfl) (Nat.le_of_ble_eq_true rfl) hw ?_
  rw [rs_3]
  exact K
theorem at_5 {k : Int32} (y : Int32) (hf : mmFetch t pc = some (.invokevirtual j, len, 0 :: 82 :: 2 :: 7 :: ax)) (hw : mmWords st ≤ 8) (hv : oat to 1 80 k = y) (K : Ev mmPT t (pc + 3) lv (.int y :: st) (mh sc rest to fl ma tr mk cn nu de ru la tb tf ph cs) x) : Ev mmPT t pc lv (.int k :: .ref 5 :: st) (mh sc rest to fl ma tr mk cn nu de ru la tb tf ph cs) x := by
  subst hv
  exact Ev.cat hf (ro_5 sc rest to fl ma tr mk cn nu de ru la tb tf ph cs) (ra_5 sc rest to fl ma tr mk cn nu de ru la tb tf ph cs) (Nat.le_of_ble_eq_true rfl) hw K
theorem pt_5 {k y : Int32} (hf : mmFetch t pc = some (.invokevirtual j, len, 0 :: 83 :: 3 :: 7 :: ax)) (hw : mmWords st ≤ 8) (K : Ev mmPT t (pc + 3) lv st (mh sc rest (oput to 1 80 k y) fl ma tr mk cn nu de ru la tb tf ph cs) x) : Ev mmPT t pc lv (.int y :: .int k :: .ref 5 :: st) (mh sc rest to fl ma tr mk cn nu de ru la tb tf ph cs) x := by
  refine Ev.cput hf (ro_5 sc rest to fl ma tr mk cn nu de ru la tb tf ph cs) (ra_5 sc rest to fl ma tr mk cn nu de ru la tb tf ph cs) (Nat.le_of_ble_eq_true rfl) (Nat.le_of_ble_eq_true rfl) hw ?_
  rw [rs_5]
  exact K
theorem fl_5 {y : Int32} (hf : mmFetch t pc = some (.invokevirtual j, len, 0 :: 84 :: 2 :: 7 :: ax)) (hw : mmWords st ≤ 8) (K : Ev mmPT t (pc + 3) lv st (mh sc rest (ofil to 1 y) fl ma tr mk cn nu de ru la tb tf ph cs) x) : Ev mmPT t pc lv (.int y :: .ref 5 :: st) (mh sc rest to fl ma tr mk cn nu de ru la tb tf ph cs) x := by
  refine Ev.cfill hf (ro_5 sc rest to fl ma tr mk cn nu de ru la tb tf ph cs) (ra_5 sc rest to fl ma tr mk cn nu de ru la tb tf ph cs) (Nat.le_of_ble_eq_true rfl) (Nat.le_of_ble_eq_true rfl) hw ?_
  rw [rs_5]
  exact K
theorem at_7 {k : Int32} (y : Int32) (hf : mmFetch t pc = some (.invokevirtual j, len, 0 :: 82 :: 2 :: 7 :: ax)) (hw : mmWords st ≤ 8) (hv : oat to 2 80 k = y) (K : Ev mmPT t (pc + 3) lv (.int y :: st) (mh sc rest to fl ma tr mk cn nu de ru la tb tf ph cs) x) : Ev mmPT t pc lv (.int k :: .ref 7 :: st) (mh sc rest to fl ma tr mk cn nu de ru la tb tf ph cs) x := by
  subst hv
  exact Ev.cat hf (ro_7 sc rest to fl ma tr mk cn nu de ru la tb tf ph cs) (ra_7 sc rest to fl ma tr mk cn nu de ru la tb tf ph cs) (Nat.le_of_ble_eq_true rfl) hw K
theorem pt_7 {k y : Int32} (hf : mmFetch t pc = some (.invokevirtual j, len, 0 :: 83 :: 3 :: 7 :: ax)) (hw : mmWords st ≤ 8) (K : Ev mmPT t (pc + 3) lv st (mh sc rest (oput to 2 80 k y) fl ma tr mk cn nu de ru la tb tf ph cs) x) : Ev mmPT t pc lv (.int y :: .int k :: .ref 7 :: st) (mh sc rest to fl ma tr mk cn nu de ru la tb tf ph cs) x := by
  refine Ev.cput hf (ro_7 sc rest to fl ma tr mk cn nu de ru la tb tf ph cs) (ra_7 sc rest to fl ma tr mk cn nu de ru la tb tf ph cs) (Nat.le_of_ble_eq_true rfl) (Nat.le_of_ble_eq_true rfl) hw ?_
  rw [rs_7]
  exact K
theorem fl_7 {y : Int32} (hf : mmFetch t pc = some (.invokevirtual j, len, 0 :: 84 :: 2 :: 7 :: ax)) (hw : mmWords st ≤ 8) (K : Ev mmPT t (pc + 3) lv st (mh sc rest (ofil to 2 y) fl ma tr mk cn nu de ru la tb tf ph cs) x) : Ev mmPT t pc lv (.int y :: .ref 7 :: st) (mh sc rest to fl ma tr mk cn nu de ru la tb tf ph cs) x := by
  refine Ev.cfill hf (ro_7 sc rest to fl ma tr mk cn nu de ru la tb tf ph cs) (ra_7 sc rest to fl ma tr mk cn nu de ru la tb tf ph cs) (Nat.le_of_ble_eq_true rfl) (Nat.le_of_ble_eq_true rfl) hw ?_
  rw [rs_7]
  exact K
theorem at_9 {k : Int32} (y : Int32) (hf : mmFetch t pc = some (.invokevirtual j, len, 0 :: 82 :: 2 :: 7 :: ax)) (hw : mmWords st ≤ 8) (hv : oat to 3 80 k = y) (K : Ev mmPT t (pc + 3) lv (.int y :: st) (mh sc rest to fl ma tr mk cn nu de ru la tb tf ph cs) x) : Ev mmPT t pc lv (.int k :: .ref 9 :: st) (mh sc rest to fl ma tr mk cn nu de ru la tb tf ph cs) x := by
  subst hv
  exact Ev.cat hf (ro_9 sc rest to fl ma tr mk cn nu de ru la tb tf ph cs) (ra_9 sc rest to fl ma tr mk cn nu de ru la tb tf ph cs) (Nat.le_of_ble_eq_true rfl) hw K
theorem pt_9 {k y : Int32} (hf : mmFetch t pc = some (.invokevirtual j, len, 0 :: 83 :: 3 :: 7 :: ax)) (hw : mmWords st ≤ 8) (K : Ev mmPT t (pc + 3) lv st (mh sc rest (oput to 3 80 k y) fl ma tr mk cn nu de ru la tb tf ph cs) x) : Ev mmPT t pc lv (.int y :: .int k :: .ref 9 :: st) (mh sc rest to fl ma tr mk cn nu de ru la tb tf ph cs) x := by
  refine Ev.cput hf (ro_9 sc rest to fl ma tr mk cn nu de ru la tb tf ph cs) (ra_9 sc rest to fl ma tr mk cn nu de ru la tb tf ph cs) (Nat.le_of_ble_eq_true rfl) (Nat.le_of_ble_eq_true rfl) hw ?_
  rw [rs_9]
  exact K
theorem fl_9 {y : Int32} (hf : mmFetch t pc = some (.invokevirtual j, len, 0 :: 84 :: 2 :: 7 :: ax)) (hw : mmWords st ≤ 8) (K : Ev mmPT t (pc + 3) lv st (mh sc rest (ofil to 3 y) fl ma tr mk cn nu de ru la tb tf ph cs) x) : Ev mmPT t pc lv (.int y :: .ref 9 :: st) (mh sc rest to fl ma tr mk cn nu de ru la tb tf ph cs) x := by
  refine Ev.cfill hf (ro_9 sc rest to fl ma tr mk cn nu de ru la tb tf ph cs) (ra_9 sc rest to fl ma tr mk cn nu de ru la tb tf ph cs) (Nat.le_of_ble_eq_true rfl) (Nat.le_of_ble_eq_true rfl) hw ?_
  rw [rs_9]
  exact K
theorem at_11 {k : Int32} (y : Int32) (hf : mmFetch t pc = some (.invokevirtual j, len, 0 :: 82 :: 2 :: 7 :: ax)) (hw : mmWords st ≤ 8) (hv : oat to 4 80 k = y) (K : Ev mmPT t (pc + 3) lv (.int y :: st) (mh sc rest to fl ma tr mk cn nu de ru la tb tf ph cs) x) : Ev mmPT t pc lv (.int k :: .ref 11 :: st) (mh sc rest to fl ma tr mk cn nu de ru la tb tf ph cs) x := by
  subst hv
  exact Ev.cat hf (ro_11 sc rest to fl ma tr mk cn nu de ru la tb tf ph cs) (ra_11 sc rest to fl ma tr mk cn nu de ru la tb tf ph cs) (Nat.le_of_ble_eq_true rfl) hw K
theorem pt_11 {k y : Int32} (hf : mmFetch t pc = some (.invokevirtual j, len, 0 :: 83 :: 3 :: 7 :: ax)) (hw : mmWords st ≤ 8) (K : Ev mmPT t (pc + 3) lv st (mh sc rest (oput to 4 80 k y) fl ma tr mk cn nu de ru la tb tf ph cs) x) : Ev mmPT t pc lv (.int y :: .int k :: .ref 11 :: st) (mh sc rest to fl ma tr mk cn nu de ru la tb tf ph cs) x := by
  refine Ev.cput hf (ro_11 sc rest to fl ma tr mk cn nu de ru la tb tf ph cs) (ra_11 sc rest to fl ma tr mk cn nu de ru la tb tf ph cs) (Nat.le_of_ble_eq_true rfl) (Nat.le_of_ble_eq_true rfl) hw ?_
  rw [rs_11]
  exact K
theorem fl_11 {y : Int32} (hf : mmFetch t pc = some (.invokevirtual j, len, 0 :: 84 :: 2 :: 7 :: ax)) (hw : mmWords st ≤ 8) (K : Ev mmPT t (pc + 3) lv st (mh sc rest (ofil to 4 y) fl ma tr mk cn nu de ru la tb tf ph cs) x) : Ev mmPT t pc lv (.int y :: .ref 11 :: st) (mh sc rest to fl ma tr mk cn nu de ru la tb tf ph cs) x := by
  refine Ev.cfill hf (ro_11 sc rest to fl ma tr mk cn nu de ru la tb tf ph cs) (ra_11 sc rest to fl ma tr mk cn nu de ru la tb tf ph cs) (Nat.le_of_ble_eq_true rfl) (Nat.le_of_ble_eq_true rfl) hw ?_
  rw [rs_11]
  exact K
theorem at_13 {k : Int32} (y : Int32) (hf : mmFetch t pc = some (.invokevirtual j, len, 0 :: 82 :: 2 :: 7 :: ax)) (hw : mmWords st ≤ 8) (hv : oat to 5 10 k = y) (K : Ev mmPT t (pc + 3) lv (.int y :: st) (mh sc rest to fl ma tr mk cn nu de ru la tb tf ph cs) x) : Ev mmPT t pc lv (.int k :: .ref 13 :: st) (mh sc rest to fl ma tr mk cn nu de ru la tb tf ph cs) x := by
  subst hv
  exact Ev.cat hf (ro_13 sc rest to fl ma tr mk cn nu de ru la tb tf ph cs) (ra_13 sc rest to fl ma tr mk cn nu de ru la tb tf ph cs) (Nat.le_of_ble_eq_true rfl) hw K
theorem pt_13 {k y : Int32} (hf : mmFetch t pc = some (.invokevirtual j, len, 0 :: 83 :: 3 :: 7 :: ax)) (hw : mmWords st ≤ 8) (K : Ev mmPT t (pc + 3) lv st (mh sc rest (oput to 5 10 k y) fl ma tr mk cn nu de ru la tb tf ph cs) x) : Ev mmPT t pc lv (.int y :: .int k :: .ref 13 :: st) (mh sc rest to fl ma tr mk cn nu de ru la tb tf ph cs) x := by
  refine Ev.cput hf (ro_13 sc rest to fl ma tr mk cn nu de ru la tb tf ph cs) (ra_13 sc rest to fl ma tr mk cn nu de ru la tb tf ph cs) (Nat.le_of_ble_eq_true rfl) (Nat.le_of_ble_eq_true rfl) hw ?_
  rw [rs_13]
  exact K
theorem fl_13 {y : Int32} (hf : mmFetch t pc = some (.invokevirtual j, len, 0 :: 84 :: 2 :: 7 :: ax)) (hw : mmWords st ≤ 8) (K : Ev mmPT t (pc + 3) lv st (mh sc rest (ofil to 5 y) fl ma tr mk cn nu de ru la tb tf ph cs) x) : Ev mmPT t pc lv (.int y :: .ref 13 :: st) (mh sc rest to fl ma tr mk cn nu de ru la tb tf ph cs) x := by
  refine Ev.cfill hf (ro_13 sc rest to fl ma tr mk cn nu de ru la tb tf ph cs) (ra_13 sc rest to fl ma tr mk cn nu de ru la tb tf ph cs) (Nat.le_of_ble_eq_true rfl) (Nat.le_of_ble_eq_true rfl) hw ?_
  rw [rs_13]
  exact K
theorem at_15 {k : Int32} (y : Int32) (hf : mmFetch t pc = some (.invokevirtual j, len, 0 :: 82 :: 2 :: 7 :: ax)) (hw : mmWords st ≤ 8) (hv : oat to 6 10 k = y) (K : Ev mmPT t (pc + 3) lv (.int y :: st) (mh sc rest to fl ma tr mk cn nu de ru la tb tf ph cs) x) : Ev mmPT t pc lv (.int k :: .ref 15 :: st) (mh sc rest to fl ma tr mk cn nu de ru la tb tf ph cs) x := by
  subst hv
  exact Ev.cat hf (ro_15 sc rest to fl ma tr mk cn nu de ru la tb tf ph cs) (ra_15 sc rest to fl ma tr mk cn nu de ru la tb tf ph cs) (Nat.le_of_ble_eq_true rfl) hw K
theorem pt_15 {k y : Int32} (hf : mmFetch t pc = some (.invokevirtual j, len, 0 :: 83 :: 3 :: 7 :: ax)) (hw : mmWords st ≤ 8) (K : Ev mmPT t (pc + 3) lv st (mh sc rest (oput to 6 10 k y) fl ma tr mk cn nu de ru la tb tf ph cs) x) : Ev mmPT t pc lv (.int y :: .int k :: .ref 15 :: st) (mh sc rest to fl ma tr mk cn nu de ru la tb tf ph cs) x := by
  refine Ev.cput hf (ro_15 sc rest to fl ma tr mk cn nu de ru la tb tf ph cs) (ra_15 sc rest to fl ma tr mk cn nu de ru la tb tf ph cs) (Nat.le_of_ble_eq_true rfl) (Nat.le_of_ble_eq_true rfl) hw ?_
  rw [rs_15]
  exact K
theorem fl_15 {y : Int32} (hf : mmFetch t pc = some (.invokevirtual j, len, 0 :: 84 :: 2 :: 7 :: ax)) (hw : mmWords st ≤ 8) (K : Ev mmPT t (pc + 3) lv st (mh sc rest (ofil to 6 y) fl ma tr mk cn nu de ru la tb tf ph cs) x) : Ev mmPT t pc lv (.int y :: .ref 15 :: st) (mh sc rest to fl ma tr mk cn nu de ru la tb tf ph cs) x := by
  refine Ev.cfill hf (ro_15 sc rest to fl ma tr mk cn nu de ru la tb tf ph cs) (ra_15 sc rest to fl ma tr mk cn nu de ru la tb tf ph cs) (Nat.le_of_ble_eq_true rfl) (Nat.le_of_ble_eq_true rfl) hw ?_
  rw [rs_15]
  exact K
theorem at_17 {k : Int32} (y : Int32) (hf : mmFetch t pc = some (.invokevirtual j, len, 0 :: 82 :: 2 :: 7 :: ax)) (hw : mmWords st ≤ 8) (hv : oat to 7 20 k = y) (K : Ev mmPT t (pc + 3) lv (.int y :: st) (mh sc rest to fl ma tr mk cn nu de ru la tb tf ph cs) x) : Ev mmPT t pc lv (.int k :: .ref 17 :: st) (mh sc rest to fl ma tr mk cn nu de ru la tb tf ph cs) x := by
  subst hv
  exact Ev.cat hf (ro_17 sc rest to fl ma tr mk cn nu de ru la tb tf ph cs) (ra_17 sc rest to fl ma tr mk cn nu de ru la tb tf ph cs) (Nat.le_of_ble_eq_true rfl) hw K
theorem pt_17 {k y : Int32} (hf : mmFetch t pc = some (.invokevirtual j, len, 0 :: 83 :: 3 :: 7 :: ax)) (hw : mmWords st ≤ 8) (K : Ev mmPT t (pc + 3) lv st (mh sc rest (oput to 7 20 k y) fl ma tr mk cn nu de ru la tb tf ph cs) x) : Ev mmPT t pc lv (.int y :: .int k :: .ref 17 :: st) (mh sc rest to fl ma tr mk cn nu de ru la tb tf ph cs) x := by
  refine Ev.cput hf (ro_17 sc rest to fl ma tr mk cn nu de ru la tb tf ph cs) (ra_17 sc rest to fl ma tr mk cn nu de ru la tb tf ph cs) (Nat.le_of_ble_eq_true rfl) (Nat.le_of_ble_eq_true rfl) hw ?_
  rw [rs_17]
  exact K
theorem fl_17 {y : Int32} (hf : mmFetch t pc = some (.invokevirtual j, len, 0 :: 84 :: 2 :: 7 :: ax)) (hw : mmWords st ≤ 8) (K : Ev mmPT t (pc + 3) lv st (mh sc rest (ofil to 7 y) fl ma tr mk cn nu de ru la tb tf ph cs) x) : Ev mmPT t pc lv (.int y :: .ref 17 :: st) (mh sc rest to fl ma tr mk cn nu de ru la tb tf ph cs) x := by
  refine Ev.cfill hf (ro_17 sc rest to fl ma tr mk cn nu de ru la tb tf ph cs) (ra_17 sc rest to fl ma tr mk cn nu de ru la tb tf ph cs) (Nat.le_of_ble_eq_true rfl) (Nat.le_of_ble_eq_true rfl) hw ?_
  rw [rs_17]
  exact K
theorem at_19 {k : Int32} (y : Int32) (hf : mmFetch t pc = some (.invokevirtual j, len, 0 :: 82 :: 2 :: 7 :: ax)) (hw : mmWords st ≤ 8) (hv : oat to 8 10 k = y) (K : Ev mmPT t (pc + 3) lv (.int y :: st) (mh sc rest to fl ma tr mk cn nu de ru la tb tf ph cs) x) : Ev mmPT t pc lv (.int k :: .ref 19 :: st) (mh sc rest to fl ma tr mk cn nu de ru la tb tf ph cs) x := by
  subst hv
  exact Ev.cat hf (ro_19 sc rest to fl ma tr mk cn nu de ru la tb tf ph cs) (ra_19 sc rest to fl ma tr mk cn nu de ru la tb tf ph cs) (Nat.le_of_ble_eq_true rfl) hw K
theorem pt_19 {k y : Int32} (hf : mmFetch t pc = some (.invokevirtual j, len, 0 :: 83 :: 3 :: 7 :: ax)) (hw : mmWords st ≤ 8) (K : Ev mmPT t (pc + 3) lv st (mh sc rest (oput to 8 10 k y) fl ma tr mk cn nu de ru la tb tf ph cs) x) : Ev mmPT t pc lv (.int y :: .int k :: .ref 19 :: st) (mh sc rest to fl ma tr mk cn nu de ru la tb tf ph cs) x := by
  refine Ev.cput hf (ro_19 sc rest to fl ma tr mk cn nu de ru la tb tf ph cs) (ra_19 sc rest to fl ma tr mk cn nu de ru la tb tf ph cs) (Nat.le_of_ble_eq_true rfl) (Nat.le_of_ble_eq_true rfl) hw ?_
  rw [rs_19]
  exact K
theorem fl_19 {y : Int32} (hf : mmFetch t pc = some (.invokevirtual j, len, 0 :: 84 :: 2 :: 7 :: ax)) (hw : mmWords st ≤ 8) (K : Ev mmPT t (pc + 3) lv st (mh sc rest (ofil to 8 y) fl ma tr mk cn nu de ru la tb tf ph cs) x) : Ev mmPT t pc lv (.int y :: .ref 19 :: st) (mh sc rest to fl ma tr mk cn nu de ru la tb tf ph cs) x := by
  refine Ev.cfill hf (ro_19 sc rest to fl ma tr mk cn nu de ru la tb tf ph cs) (ra_19 sc rest to fl ma tr mk cn nu de ru la tb tf ph cs) (Nat.le_of_ble_eq_true rfl) (Nat.le_of_ble_eq_true rfl) hw ?_
  rw [rs_19]
  exact K
theorem at_21 {k : Int32} (y : Int32) (hf : mmFetch t pc = some (.invokevirtual j, len, 0 :: 82 :: 2 :: 7 :: ax)) (hw : mmWords st ≤ 8) (hv : oat to 9 10 k = y) (K : Ev mmPT t (pc + 3) lv (.int y :: st) (mh sc rest to fl ma tr mk cn nu de ru la tb tf ph cs) x) : Ev mmPT t pc lv (.int k :: .ref 21 :: st) (mh sc rest to fl ma tr mk cn nu de ru la tb tf ph cs) x := by
  subst hv
  exact Ev.cat hf (ro_21 sc rest to fl ma tr mk cn nu de ru la tb tf ph cs) (ra_21 sc rest to fl ma tr mk cn nu de ru la tb tf ph cs) (Nat.le_of_ble_eq_true rfl) hw K
theorem pt_21 {k y : Int32} (hf : mmFetch t pc = some (.invokevirtual j, len, 0 :: 83 :: 3 :: 7 :: ax)) (hw : mmWords st ≤ 8) (K : Ev mmPT t (pc + 3) lv st (mh sc rest (oput to 9 10 k y) fl ma tr mk cn nu de ru la tb tf ph cs) x) : Ev mmPT t pc lv (.int y :: .int k :: .ref 21 :: st) (mh sc rest to fl ma tr mk cn nu de ru la tb tf ph cs) x := by
  refine Ev.cput hf (ro_21 sc rest to fl ma tr mk cn nu de ru la tb tf ph cs) (ra_21 sc rest to fl ma tr mk cn nu de ru la tb tf ph cs) (Nat.le_of_ble_eq_true rfl) (Nat.le_of_ble_eq_true rfl) hw ?_
  rw [rs_21]
  exact K
theorem fl_21 {y : Int32} (hf : mmFetch t pc = some (.invokevirtual j, len, 0 :: 84 :: 2 :: 7 :: ax)) (hw : mmWords st ≤ 8) (K : Ev mmPT t (pc + 3) lv st (mh sc rest (ofil to 9 y) fl ma tr mk cn nu de ru la tb tf ph cs) x) : Ev mmPT t pc lv (.int y :: .ref 21 :: st) (mh sc rest to fl ma tr mk cn nu de ru la tb tf ph cs) x := by
  refine Ev.cfill hf (ro_21 sc rest to fl ma tr mk cn nu de ru la tb tf ph cs) (ra_21 sc rest to fl ma tr mk cn nu de ru la tb tf ph cs) (Nat.le_of_ble_eq_true rfl) (Nat.le_of_ble_eq_true rfl) hw ?_
  rw [rs_21]
  exact K
theorem at_23 {k : Int32} (y : Int32) (hf : mmFetch t pc = some (.invokevirtual j, len, 0 :: 82 :: 2 :: 7 :: ax)) (hw : mmWords st ≤ 8) (hv : oat to 10 10 k = y) (K : Ev mmPT t (pc + 3) lv (.int y :: st) (mh sc rest to fl ma tr mk cn nu de ru la tb tf ph cs) x) : Ev mmPT t pc lv (.int k :: .ref 23 :: st) (mh sc rest to fl ma tr mk cn nu de ru la tb tf ph cs) x := by
  subst hv
  exact Ev.cat hf (ro_23 sc rest to fl ma tr mk cn nu de ru la tb tf ph cs) (ra_23 sc rest to fl ma tr mk cn nu de ru la tb tf ph cs) (Nat.le_of_ble_eq_true rfl) hw K
theorem pt_23 {k y : Int32} (hf : mmFetch t pc = some (.invokevirtual j, len, 0 :: 83 :: 3 :: 7 :: ax)) (hw : mmWords st ≤ 8) (K : Ev mmPT t (pc + 3) lv st (mh sc rest (oput to 10 10 k y) fl ma tr mk cn nu de ru la tb tf ph cs) x) : Ev mmPT t pc lv (.int y :: .int k :: .ref 23 :: st) (mh sc rest to fl ma tr mk cn nu de ru la tb tf ph cs) x := by
  refine Ev.cput hf (ro_23 sc rest to fl ma tr mk cn nu de ru la tb tf ph cs) (ra_23 sc rest to fl ma tr mk cn nu de ru la tb tf ph cs) (Nat.le_of_ble_eq_true rfl) (Nat.le_of_ble_eq_true rfl) hw ?_
  rw [rs_23]
  exact K
theorem fl_23 {y : Int32} (hf : mmFetch t pc = some (.invokevirtual j, len, 0 :: 84 :: 2 :: 7 :: ax)) (hw : mmWords st ≤ 8) (K : Ev mmPT t (pc + 3) lv st (mh sc rest (ofil to 10 y) fl ma tr mk cn nu de ru la tb tf ph cs) x) : Ev mmPT t pc lv (.int y :: .ref 23 :: st) (mh sc rest to fl ma tr mk cn nu de ru la tb tf ph cs) x := by
  refine Ev.cfill hf (ro_23 sc rest to fl ma tr mk cn nu de ru la tb tf ph cs) (ra_23 sc rest to fl ma tr mk cn nu de ru la tb tf ph cs) (Nat.le_of_ble_eq_true rfl) (Nat.le_of_ble_eq_true rfl) hw ?_
  rw [rs_23]
  exact K
theorem at_26 {k : Int32} (y : Int32) (hf : mmFetch t pc = some (.invokevirtual j, len, 0 :: 82 :: 2 :: 7 :: ax)) (hw : mmWords st ≤ 8) (hv : oat fl 0 10 k = y) (K : Ev mmPT t (pc + 3) lv (.int y :: st) (mh sc rest to fl ma tr mk cn nu de ru la tb tf ph cs) x) : Ev mmPT t pc lv (.int k :: .ref 26 :: st) (mh sc rest to fl ma tr mk cn nu de ru la tb tf ph cs) x := by
  subst hv
  exact Ev.cat hf (ro_26 sc rest to fl ma tr mk cn nu de ru la tb tf ph cs) (ra_26 sc rest to fl ma tr mk cn nu de ru la tb tf ph cs) (Nat.le_of_ble_eq_true rfl) hw K
theorem pt_26 {k y : Int32} (hf : mmFetch t pc = some (.invokevirtual j, len, 0 :: 83 :: 3 :: 7 :: ax)) (hw : mmWords st ≤ 8) (K : Ev mmPT t (pc + 3) lv st (mh sc rest to (oput fl 0 10 k y) ma tr mk cn nu de ru la tb tf ph cs) x) : Ev mmPT t pc lv (.int y :: .int k :: .ref 26 :: st) (mh sc rest to fl ma tr mk cn nu de ru la tb tf ph cs) x := by
  refine Ev.cput hf (ro_26 sc rest to fl ma tr mk cn nu de ru la tb tf ph cs) (ra_26 sc rest to fl ma tr mk cn nu de ru la tb tf ph cs) (Nat.le_of_ble_eq_true rfl) (Nat.le_of_ble_eq_true rfl) hw ?_
  rw [rs_26]
  exact K
theorem fl_26 {y : Int32} (hf : mmFetch t pc = some (.invokevirtual j, len, 0 :: 84 :: 2 :: 7 :: ax)) (hw : mmWords st ≤ 8) (K : Ev mmPT t (pc + 3) lv st (mh sc rest to (ofil fl 0 y) ma tr mk cn nu de ru la tb tf ph cs) x) : Ev mmPT t pc lv (.int y :: .ref 26 :: st) (mh sc rest to fl ma tr mk cn nu de ru la tb tf ph cs) x := by
  refine Ev.cfill hf (ro_26 sc rest to fl ma tr mk cn nu de ru la tb tf ph cs) (ra_26 sc rest to fl ma tr mk cn nu de ru la tb tf ph cs) (Nat.le_of_ble_eq_true rfl) (Nat.le_of_ble_eq_true rfl) hw ?_
  rw [rs_26]
  exact K
theorem at_28 {k : Int32} (y : Int32) (hf : mmFetch t pc = some (.invokevirtual j, len, 0 :: 82 :: 2 :: 7 :: ax)) (hw : mmWords st ≤ 8) (hv : oat fl 1 10 k = y) (K : Ev mmPT t (pc + 3) lv (.int y :: st) (mh sc rest to fl ma tr mk cn nu de ru la tb tf ph cs) x) : Ev mmPT t pc lv (.int k :: .ref 28 :: st) (mh sc rest to fl ma tr mk cn nu de ru la tb tf ph cs) x := by
  subst hv
  exact Ev.cat hf (ro_28 sc rest to fl ma tr mk cn nu de ru la tb tf ph cs) (ra_28 sc rest to fl ma tr mk cn nu de ru la tb tf ph cs) (Nat.le_of_ble_eq_true rfl) hw K
theorem pt_28 {k y : Int32} (hf : mmFetch t pc = some (.invokevirtual j, len, 0 :: 83 :: 3 :: 7 :: ax)) (hw : mmWords st ≤ 8) (K : Ev mmPT t (pc + 3) lv st (mh sc rest to (oput fl 1 10 k y) ma tr mk cn nu de ru la tb tf ph cs) x) : Ev mmPT t pc lv (.int y :: .int k :: .ref 28 :: st) (mh sc rest to fl ma tr mk cn nu de ru la tb tf ph cs) x := by
  refine Ev.cput hf (ro_28 sc rest to fl ma tr mk cn nu de ru la tb tf ph cs) (ra_28 sc rest to fl ma tr mk cn nu de ru la tb tf ph cs) (Nat.le_of_ble_eq_true rfl) (Nat.le_of_ble_eq_true rfl) hw ?_
  rw [rs_28]
  exact K
theorem fl_28 {y : Int32} (hf : mmFetch t pc = some (.invokevirtual j, len, 0 :: 84 :: 2 :: 7 :: ax)) (hw : mmWords st ≤ 8) (K : Ev mmPT t (pc + 3) lv st (mh sc rest to (ofil fl 1 y) ma tr mk cn nu de ru la tb tf ph cs) x) : Ev mmPT t pc lv (.int y :: .ref 28 :: st) (mh sc rest to fl ma tr mk cn nu de ru la tb tf ph cs) x := by
  refine Ev.cfill hf (ro_28 sc rest to fl ma tr mk cn nu de ru la tb tf ph cs) (ra_28 sc rest to fl ma tr mk cn nu de ru la tb tf ph cs) (Nat.le_of_ble_eq_true rfl) (Nat.le_of_ble_eq_true rfl) hw ?_
  rw [rs_28]
  exact K
theorem at_30 {k : Int32} (y : Int32) (hf : mmFetch t pc = some (.invokevirtual j, len, 0 :: 82 :: 2 :: 7 :: ax)) (hw : mmWords st ≤ 8) (hv : oat fl 2 10 k = y) (K : Ev mmPT t (pc + 3) lv (.int y :: st) (mh sc rest to fl ma tr mk cn nu de ru la tb tf ph cs) x) : Ev mmPT t pc lv (.int k :: .ref 30 :: st) (mh sc rest to fl ma tr mk cn nu de ru la tb tf ph cs) x := by
  subst hv
  exact Ev.cat hf (ro_30 sc rest to fl ma tr mk cn nu de ru la tb tf ph cs) (ra_30 sc rest to fl ma tr mk cn nu de ru la tb tf ph cs) (Nat.le_of_ble_eq_true rfl) hw K
theorem pt_30 {k y : Int32} (hf : mmFetch t pc = some (.invokevirtual j, len, 0 :: 83 :: 3 :: 7 :: ax)) (hw : mmWords st ≤ 8) (K : Ev mmPT t (pc + 3) lv st (mh sc rest to (oput fl 2 10 k y) ma tr mk cn nu de ru la tb tf ph cs) x) : Ev mmPT t pc lv (.int y :: .int k :: .ref 30 :: st) (mh sc rest to fl ma tr mk cn nu de ru la tb tf ph cs) x := by
  refine Ev.cput hf (ro_30 sc rest to fl ma tr mk cn nu de ru la tb tf ph cs) (ra_30 sc rest to fl ma tr mk cn nu de ru la tb tf ph cs) (Nat.le_of_ble_eq_true rfl) (Nat.le_of_ble_eq_true rfl) hw ?_
  rw [rs_30]
  exact K
theorem fl_30 {y : Int32} (hf : mmFetch t pc = some (.invokevirtual j, len, 0 :: 84 :: 2 :: 7 :: ax)) (hw : mmWords st ≤ 8) (K : Ev mmPT t (pc + 3) lv st (mh sc rest to (ofil fl 2 y) ma tr mk cn nu de ru la tb tf ph cs) x) : Ev mmPT t pc lv (.int y :: .ref 30 :: st) (mh sc rest to fl ma tr mk cn nu de ru la tb tf ph cs) x := by
  refine Ev.cfill hf (ro_30 sc rest to fl ma tr mk cn nu de ru la tb tf ph cs) (ra_30 sc rest to fl ma tr mk cn nu de ru la tb tf ph cs) (Nat.le_of_ble_eq_true rfl) (Nat.le_of_ble_eq_true rfl) hw ?_
  rw [rs_30]
  exact K
theorem at_32 {k : Int32} (y : Int32) (hf : mmFetch t pc = some (.invokevirtual j, len, 0 :: 82 :: 2 :: 7 :: ax)) (hw : mmWords st ≤ 8) (hv : oat fl 3 10 k = y) (K : Ev mmPT t (pc + 3) lv (.int y :: st) (mh sc rest to fl ma tr mk cn nu de ru la tb tf ph cs) x) : Ev mmPT t pc lv (.int k :: .ref 32 :: st) (mh sc rest to fl ma tr mk cn nu de ru la tb tf ph cs) x := by
  subst hv
  exact Ev.cat hf (ro_32 sc rest to fl ma tr mk cn nu de ru la tb tf ph cs) (ra_32 sc rest to fl ma tr mk cn nu de ru la tb tf ph cs) (Nat.le_of_ble_eq_true rfl) hw K
theorem pt_32 {k y : Int32} (hf : mmFetch t pc = some (.invokevirtual j, len, 0 :: 83 :: 3 :: 7 :: ax)) (hw : mmWords st ≤ 8) (K : Ev mmPT t (pc + 3) lv st (mh sc rest to (oput fl 3 10 k y) ma tr mk cn nu de ru la tb tf ph cs) x) : Ev mmPT t pc lv (.int y :: .int k :: .ref 32 :: st) (mh sc rest to fl ma tr mk cn nu de ru la tb tf ph cs) x := by
  refine Ev.cput hf (ro_32 sc rest to fl ma tr mk cn nu de ru la tb tf ph cs) (ra_32 sc rest to fl ma tr mk cn nu de ru la tb tf ph cs) (Nat.le_of_ble_eq_true rfl) (Nat.le_of_ble_eq_true rfl) hw ?_
  rw [rs_32]
  exact K
theorem fl_32 {y : Int32} (hf : mmFetch t pc = some (.invokevirtual j, len, 0 :: 84 :: 2 :: 7 :: ax)) (hw : mmWords st ≤ 8) (K : Ev mmPT t (pc + 3) lv st (mh sc rest to (ofil fl 3 y) ma tr mk cn nu de ru la tb tf ph cs) x) : Ev mmPT t pc lv (.int y :: .ref 32 :: st) (mh sc rest to fl ma tr mk cn nu de ru la tb tf ph cs) x := by
  refine Ev.cfill hf (ro_32 sc rest to fl ma tr mk cn nu de ru la tb tf ph cs) (ra_32 sc rest to fl ma tr mk cn nu de ru la tb tf ph cs) (Nat.le_of_ble_eq_true rfl) (Nat.le_of_ble_eq_true rfl) hw ?_
  rw [rs_32]
  exact K
theorem at_35 {k : Int32} (y : Int32) (hf : mmFetch t pc = some (.invokevirtual j, len, 0 :: 82 :: 2 :: 7 :: ax)) (hw : mmWords st ≤ 8) (hv : oat ma 0 140 k = y) (K : Ev mmPT t (pc + 3) lv (.int y :: st) (mh sc rest to fl ma tr mk cn nu de ru la tb tf ph cs) x) : Ev mmPT t pc lv (.int k :: .ref 35 :: st) (mh sc rest to fl ma tr mk cn nu de ru la tb tf ph cs) x := by
  subst hv
  exact Ev.cat hf (ro_35 sc rest to fl ma tr mk cn nu de ru la tb tf ph cs) (ra_35 sc rest to fl ma tr mk cn nu de ru la tb tf ph cs) (Nat.le_of_ble_eq_true rfl) hw K
theorem pt_35 {k y : Int32} (hf : mmFetch t pc = some (.invokevirtual j, len, 0 :: 83 :: 3 :: 7 :: ax)) (hw : mmWords st ≤ 8) (K : Ev mmPT t (pc + 3) lv st (mh sc rest to fl (oput ma 0 140 k y) tr mk cn nu de ru la tb tf ph cs) x) : Ev mmPT t pc lv (.int y :: .int k :: .ref 35 :: st) (mh sc rest to fl ma tr mk cn nu de ru la tb tf ph cs) x := by
  refine Ev.cput hf (ro_35 sc rest to fl ma tr mk cn nu de ru la tb tf ph cs) (ra_35 sc rest to fl ma tr mk cn nu de ru la tb tf ph cs) (Nat.le_of_ble_eq_true rfl) (Nat.le_of_ble_eq_true rfl) hw ?_
  rw [rs_35]
  exact K
theorem fl_35 {y : Int32} (hf : mmFetch t pc = some (.invokevirtual j, len, 0 :: 84 :: 2 :: 7 :: ax)) (hw : mmWords st ≤ 8) (K : Ev mmPT t (pc + 3) lv st (mh sc rest to fl (ofil ma 0 y) tr mk cn nu de ru la tb tf ph cs) x) : Ev mmPT t pc lv (.int y :: .ref 35 :: st) (mh sc rest to fl ma tr mk cn nu de ru la tb tf ph cs) x := by
  refine Ev.cfill hf (ro_35 sc rest to fl ma tr mk cn nu de ru la tb tf ph cs) (ra_35 sc rest to fl ma tr mk cn nu de ru la tb tf ph cs) (Nat.le_of_ble_eq_true rfl) (Nat.le_of_ble_eq_true rfl) hw ?_
  rw [rs_35]
  exact K
theorem at_37 {k : Int32} (y : Int32) (hf : mmFetch t pc = some (.invokevirtual j, len, 0 :: 82 :: 2 :: 7 :: ax)) (hw : mmWords st ≤ 8) (hv : oat ma 1 140 k = y) (K : Ev mmPT t (pc + 3) lv (.int y :: st) (mh sc rest to fl ma tr mk cn nu de ru la tb tf ph cs) x) : Ev mmPT t pc lv (.int k :: .ref 37 :: st) (mh sc rest to fl ma tr mk cn nu de ru la tb tf ph cs) x := by
  subst hv
  exact Ev.cat hf (ro_37 sc rest to fl ma tr mk cn nu de ru la tb tf ph cs) (ra_37 sc rest to fl ma tr mk cn nu de ru la tb tf ph cs) (Nat.le_of_ble_eq_true rfl) hw K
theorem pt_37 {k y : Int32} (hf : mmFetch t pc = some (.invokevirtual j, len, 0 :: 83 :: 3 :: 7 :: ax)) (hw : mmWords st ≤ 8) (K : Ev mmPT t (pc + 3) lv st (mh sc rest to fl (oput ma 1 140 k y) tr mk cn nu de ru la tb tf ph cs) x) : Ev mmPT t pc lv (.int y :: .int k :: .ref 37 :: st) (mh sc rest to fl ma tr mk cn nu de ru la tb tf ph cs) x := by
  refine Ev.cput hf (ro_37 sc rest to fl ma tr mk cn nu de ru la tb tf ph cs) (ra_37 sc rest to fl ma tr mk cn nu de ru la tb tf ph cs) (Nat.le_of_ble_eq_true rfl) (Nat.le_of_ble_eq_true rfl) hw ?_
  rw [rs_37]
  exact K
theorem fl_37 {y : Int32} (hf : mmFetch t pc = some (.invokevirtual j, len, 0 :: 84 :: 2 :: 7 :: ax)) (hw : mmWords st ≤ 8) (K : Ev mmPT t (pc + 3) lv st (mh sc rest to fl (ofil ma 1 y) tr mk cn nu de ru la tb tf ph cs) x) : Ev mmPT t pc lv (.int y :: .ref 37 :: st) (mh sc rest to fl ma tr mk cn nu de ru la tb tf ph cs) x := by
  refine Ev.cfill hf (ro_37 sc rest to fl ma tr mk cn nu de ru la tb tf ph cs) (ra_37 sc rest to fl ma tr mk cn nu de ru la tb tf ph cs) (Nat.le_of_ble_eq_true rfl) (Nat.le_of_ble_eq_true rfl) hw ?_
  rw [rs_37]
  exact K
theorem at_39 {k : Int32} (y : Int32) (hf : mmFetch t pc = some (.invokevirtual j, len, 0 :: 82 :: 2 :: 7 :: ax)) (hw : mmWords st ≤ 8) (hv : oat ma 2 140 k = y) (K : Ev mmPT t (pc + 3) lv (.int y :: st) (mh sc rest to fl ma tr mk cn nu de ru la tb tf ph cs) x) : Ev mmPT t pc lv (.int k :: .ref 39 :: st) (mh sc rest to fl ma tr mk cn nu de ru la tb tf ph cs) x := by
  subst hv
  exact Ev.cat hf (ro_39 sc rest to fl ma tr mk cn nu de ru la tb tf ph cs) (ra_39 sc rest to fl ma tr mk cn nu de ru la tb tf ph cs) (Nat.le_of_ble_eq_true rfl) hw K
theorem pt_39 {k y : Int32} (hf : mmFetch t pc = some (.invokevirtual j, len, 0 :: 83 :: 3 :: 7 :: ax)) (hw : mmWords st ≤ 8) (K : Ev mmPT t (pc + 3) lv st (mh sc rest to fl (oput ma 2 140 k y) tr mk cn nu de ru la tb tf ph cs) x) : Ev mmPT t pc lv (.int y :: .int k :: .ref 39 :: st) (mh sc rest to fl ma tr mk cn nu de ru la tb tf ph cs) x := by
  refine Ev.cput hf (ro_39 sc rest to fl ma tr mk cn nu de ru la tb tf ph cs) (ra_39 sc rest to fl ma tr mk cn nu de ru la tb tf ph cs) (Nat.le_of_ble_eq_true rfl) (Nat.le_of_ble_eq_true rfl) hw ?_
  rw [rs_39]
  exact K
theorem fl_39 {y : Int32} (hf : mmFetch t pc = some (.invokevirtual j, len, 0 :: 84 :: 2 :: 7 :: ax)) (hw : mmWords st ≤ 8) (K : Ev mmPT t (pc + 3) lv st (mh sc rest to fl (ofil ma 2 y) tr mk cn nu de ru la tb tf ph cs) x) : Ev mmPT t pc lv (.int y :: .ref 39 :: st) (mh sc rest to fl ma tr mk cn nu de ru la tb tf ph cs) x := by
  refine Ev.cfill hf (ro_39 sc rest to fl ma tr mk cn nu de ru la tb tf ph cs) (ra_39 sc rest to fl ma tr mk cn nu de ru la tb tf ph cs) (Nat.le_of_ble_eq_true rfl) (Nat.le_of_ble_eq_true rfl) hw ?_
  rw [rs_39]
  exact K
theorem at_41 {k : Int32} (y : Int32) (hf : mmFetch t pc = some (.invokevirtual j, len, 0 :: 82 :: 2 :: 7 :: ax)) (hw : mmWords st ≤ 8) (hv : oat ma 3 150 k = y) (K : Ev mmPT t (pc + 3) lv (.int y :: st) (mh sc rest to fl ma tr mk cn nu de ru la tb tf ph cs) x) : Ev mmPT t pc lv (.int k :: .ref 41 :: st) (mh sc rest to fl ma tr mk cn nu de ru la tb tf ph cs) x := by
  subst hv
  exact Ev.cat hf (ro_41 sc rest to fl ma tr mk cn nu de ru la tb tf ph cs) (ra_41 sc rest to fl ma tr mk cn nu de ru la tb tf ph cs) (Nat.le_of_ble_eq_true rfl) hw K
theorem pt_41 {k y : Int32} (hf : mmFetch t pc = some (.invokevirtual j, len, 0 :: 83 :: 3 :: 7 :: ax)) (hw : mmWords st ≤ 8) (K : Ev mmPT t (pc + 3) lv st (mh sc rest to fl (oput ma 3 150 k y) tr mk cn nu de ru la tb tf ph cs) x) : Ev mmPT t pc lv (.int y :: .int k :: .ref 41 :: st) (mh sc rest to fl ma tr mk cn nu de ru la tb tf ph cs) x := by
  refine Ev.cput hf (ro_41 sc rest to fl ma tr mk cn nu de ru la tb tf ph cs) (ra_41 sc rest to fl ma tr mk cn nu de ru la tb tf ph cs) (Nat.le_of_ble_eq_true rfl) (Nat.le_of_ble_eq_true rfl) hw ?_
  rw [rs_41]
  exact K
theorem fl_41 {y : Int32} (hf : mmFetch t pc = some (.invokevirtual j, len, 0 :: 84 :: 2 :: 7 :: ax)) (hw : mmWords st ≤ 8) (K : Ev mmPT t (pc + 3) lv st (mh sc rest to fl (ofil ma 3 y) tr mk cn nu de ru la tb tf ph cs) x) : Ev mmPT t pc lv (.int y :: .ref 41 :: st) (mh sc rest to fl ma tr mk cn nu de ru la tb tf ph cs) x := by
  refine Ev.cfill hf (ro_41 sc rest to fl ma tr mk cn nu de ru la tb tf ph cs) (ra_41 sc rest to fl ma tr mk cn nu de ru la tb tf ph cs) (Nat.le_of_ble_eq_true rfl) (Nat.le_of_ble_eq_true rfl) hw ?_
  rw [rs_41]
  exact K
theorem at_43 {k : Int32} (y : Int32) (hf : mmFetch t pc = some (.invokevirtual j, len, 0 :: 82 :: 2 :: 7 :: ax)) (hw : mmWords st ≤ 8) (hv : oat ma 4 150 k = y) (K : Ev mmPT t (pc + 3) lv (.int y :: st) (mh sc rest to fl ma tr mk cn nu de ru la tb tf ph cs) x) : Ev mmPT t pc lv (.int k :: .ref 43 :: st) (mh sc rest to fl ma tr mk cn nu de ru la tb tf ph cs) x := by
  subst hv
  exact Ev.cat hf (ro_43 sc rest to fl ma tr mk cn nu de ru la tb tf ph cs) (ra_43 sc rest to fl ma tr mk cn nu de ru la tb tf ph cs) (Nat.le_of_ble_eq_true rfl) hw K
theorem pt_43 {k y : Int32} (hf : mmFetch t pc = some (.invokevirtual j, len, 0 :: 83 :: 3 :: 7 :: ax)) (hw : mmWords st ≤ 8) (K : Ev mmPT t (pc + 3) lv st (mh sc rest to fl (oput ma 4 150 k y) tr mk cn nu de ru la tb tf ph cs) x) : Ev mmPT t pc lv (.int y :: .int k :: .ref 43 :: st) (mh sc rest to fl ma tr mk cn nu de ru la tb tf ph cs) x := by
  refine Ev.cput hf (ro_43 sc rest to fl ma tr mk cn nu de ru la tb tf ph cs) (ra_43 sc rest to fl ma tr mk cn nu de ru la tb tf ph cs) (Nat.le_of_ble_eq_true rfl) (Nat.le_of_ble_eq_true rfl) hw ?_
  rw [rs_43]
  exact K
theorem fl_43 {y : Int32} (hf : mmFetch t pc = some (.invokevirtual j, len, 0 :: 84 :: 2 :: 7 :: ax)) (hw : mmWords st ≤ 8) (K : Ev mmPT t (pc + 3) lv st (mh sc rest to fl (ofil ma 4 y) tr mk cn nu de ru la tb tf ph cs) x) : Ev mmPT t pc lv (.int y :: .ref 43 :: st) (mh sc rest to fl ma tr mk cn nu de ru la tb tf ph cs) x := by
  refine Ev.cfill hf (ro_43 sc rest to fl ma tr mk cn nu de ru la tb tf ph cs) (ra_43 sc rest to fl ma tr mk cn nu de ru la tb tf ph cs) (Nat.le_of_ble_eq_true rfl) (Nat.le_of_ble_eq_true rfl) hw ?_
  rw [rs_43]
  exact K
theorem at_45 {k : Int32} (y : Int32) (hf : mmFetch t pc = some (.invokevirtual j, len, 0 :: 82 :: 2 :: 7 :: ax)) (hw : mmWords st ≤ 8) (hv : oat ma 5 290 k = y) (K : Ev mmPT t (pc + 3) lv (.int y :: st) (mh sc rest to fl ma tr mk cn nu de ru la tb tf ph cs) x) : Ev mmPT t pc lv (.int k :: .ref 45 :: st) (mh sc rest to fl ma tr mk cn nu de ru la tb tf ph cs) x := by
  subst hv
  exact Ev.cat hf (ro_45 sc rest to fl ma tr mk cn nu de ru la tb tf ph cs) (ra_45 sc rest to fl ma tr mk cn nu de ru la tb tf ph cs) (Nat.le_of_ble_eq_true rfl) hw K
theorem pt_45 {k y : Int32} (hf : mmFetch t pc = some (.invokevirtual j, len, 0 :: 83 :: 3 :: 7 :: ax)) (hw : mmWords st ≤ 8) (K : Ev mmPT t (pc + 3) lv st (mh sc rest to fl (oput ma 5 290 k y) tr mk cn nu de ru la tb tf ph cs) x) : Ev mmPT t pc lv (.int y :: .int k :: .ref 45 :: st) (mh sc rest to fl ma tr mk cn nu de ru la tb tf ph cs) x := by
  refine Ev.cput hf (ro_45 sc rest to fl ma tr mk cn nu de ru la tb tf ph cs) (ra_45 sc rest to fl ma tr mk cn nu de ru la tb tf ph cs) (Nat.le_of_ble_eq_true rfl) (Nat.le_of_ble_eq_true rfl) hw ?_
  rw [rs_45]
  exact K
theorem fl_45 {y : Int32} (hf : mmFetch t pc = some (.invokevirtual j, len, 0 :: 84 :: 2 :: 7 :: ax)) (hw : mmWords st ≤ 8) (K : Ev mmPT t (pc + 3) lv st (mh sc rest to fl (ofil ma 5 y) tr mk cn nu de ru la tb tf ph cs) x) : Ev mmPT t pc lv (.int y :: .ref 45 :: st) (mh sc rest to fl ma tr mk cn nu de ru la tb tf ph cs) x := by
  refine Ev.cfill hf (ro_45 sc rest to fl ma tr mk cn nu de ru la tb tf ph cs) (ra_45 sc rest to fl ma tr mk cn nu de ru la tb tf ph cs) (Nat.le_of_ble_eq_true rfl) (Nat.le_of_ble_eq_true rfl) hw ?_
  rw [rs_45]
  exact K
theorem at_47 {k : Int32} (y : Int32) (hf : mmFetch t pc = some (.invokevirtual j, len, 0 :: 82 :: 2 :: 7 :: ax)) (hw : mmWords st ≤ 8) (hv : oat ma 6 290 k = y) (K : Ev mmPT t (pc + 3) lv (.int y :: st) (mh sc rest to fl ma tr mk cn nu de ru la tb tf ph cs) x) : Ev mmPT t pc lv (.int k :: .ref 47 :: st) (mh sc rest to fl ma tr mk cn nu de ru la tb tf ph cs) x := by
  subst hv
  exact Ev.cat hf (ro_47 sc rest to fl ma tr mk cn nu de ru la tb tf ph cs) (ra_47 sc rest to fl ma tr mk cn nu de ru la tb tf ph cs) (Nat.le_of_ble_eq_true rfl) hw K
theorem pt_47 {k y : Int32} (hf : mmFetch t pc = some (.invokevirtual j, len, 0 :: 83 :: 3 :: 7 :: ax)) (hw : mmWords st ≤ 8) (K : Ev mmPT t (pc + 3) lv st (mh sc rest to fl (oput ma 6 290 k y) tr mk cn nu de ru la tb tf ph cs) x) : Ev mmPT t pc lv (.int y :: .int k :: .ref 47 :: st) (mh sc rest to fl ma tr mk cn nu de ru la tb tf ph cs) x := by
  refine Ev.cput hf (ro_47 sc rest to fl ma tr mk cn nu de ru la tb tf ph cs) (ra_47 sc rest to fl ma tr mk cn nu de ru la tb tf ph cs) (Nat.le_of_ble_eq_true rfl) (Nat.le_of_ble_eq_true rfl) hw ?_
  rw [rs_47]
  exact K
theorem fl_47 {y : Int32} (hf : mmFetch t pc = some (.invokevirtual j, len, 0 :: 84 :: 2 :: 7 :: ax)) (hw : mmWords st ≤ 8) (K : Ev mmPT t (pc + 3) lv st (mh sc rest to fl (ofil ma 6 y) tr mk cn nu de ru la tb tf ph cs) x) : Ev mmPT t pc lv (.int y :: .ref 47 :: st) (mh sc rest to fl ma tr mk cn nu de ru la tb tf ph cs) x := by
  refine Ev.cfill hf (ro_47 sc rest to fl ma tr mk cn nu de ru la tb tf ph cs) (ra_47 sc rest to fl ma tr mk cn nu de ru la tb tf ph cs) (Nat.le_of_ble_eq_true rfl) (Nat.le_of_ble_eq_true rfl) hw ?_
  rw [rs_47]
  exact K
theorem at_49 {k : Int32} (y : Int32) (hf : mmFetch t pc = some (.invokevirtual j, len, 0 :: 82 :: 2 :: 7 :: ax)) (hw : mmWords st ≤ 8) (hv : oat ma 7 10 k = y) (K : Ev mmPT t (pc + 3) lv (.int y :: st) (mh sc rest to fl ma tr mk cn nu de ru la tb tf ph cs) x) : Ev mmPT t pc lv (.int k :: .ref 49 :: st) (mh sc rest to fl ma tr mk cn nu de ru la tb tf ph cs) x := by
  subst hv
  exact Ev.cat hf (ro_49 sc rest to fl ma tr mk cn nu de ru la tb tf ph cs) (ra_49 sc rest to fl ma tr mk cn nu de ru la tb tf ph cs) (Nat.le_of_ble_eq_true rfl) hw K
theorem pt_49 {k y : Int32} (hf : mmFetch t pc = some (.invokevirtual j, len, 0 :: 83 :: 3 :: 7 :: ax)) (hw : mmWords st ≤ 8) (K : Ev mmPT t (pc + 3) lv st (mh sc rest to fl (oput ma 7 10 k y) tr mk cn nu de ru la tb tf ph cs) x) : Ev mmPT t pc lv (.int y :: .int k :: .ref 49 :: st) (mh sc rest to fl ma tr mk cn nu de ru la tb tf ph cs) x := by
  refine Ev.cput hf (ro_49 sc rest to fl ma tr mk cn nu de ru la tb tf ph cs) (ra_49 sc rest to fl ma tr mk cn nu de ru la tb tf ph cs) (Nat.le_of_ble_eq_true rfl) (Nat.le_of_ble_eq_true rfl) hw ?_
  rw [rs_49]
  exact K
theorem fl_49 {y : Int32} (hf : mmFetch t pc = some (.invokevirtual j, len, 0 :: 84 :: 2 :: 7 :: ax)) (hw : mmWords st ≤ 8) (K : Ev mmPT t (pc + 3) lv st (mh sc rest to fl (ofil ma 7 y) tr mk cn nu de ru la tb tf ph cs) x) : Ev mmPT t pc lv (.int y :: .ref 49 :: st) (mh sc rest to fl ma tr mk cn nu de ru la tb tf ph cs) x := by
  refine Ev.cfill hf (ro_49 sc rest to fl ma tr mk cn nu de ru la tb tf ph cs) (ra_49 sc rest to fl ma tr mk cn nu de ru la tb tf ph cs) (Nat.le_of_ble_eq_true rfl) (Nat.le_of_ble_eq_true rfl) hw ?_
  rw [rs_49]
  exact K
theorem at_51 {k : Int32} (y : Int32) (hf : mmFetch t pc = some (.invokevirtual j, len, 0 :: 82 :: 2 :: 7 :: ax)) (hw : mmWords st ≤ 8) (hv : oat ma 8 1400 k = y) (K : Ev mmPT t (pc + 3) lv (.int y :: st) (mh sc rest to fl ma tr mk cn nu de ru la tb tf ph cs) x) : Ev mmPT t pc lv (.int k :: .ref 51 :: st) (mh sc rest to fl ma tr mk cn nu de ru la tb tf ph cs) x := by
  subst hv
  exact Ev.cat hf (ro_51 sc rest to fl ma tr mk cn nu de ru la tb tf ph cs) (ra_51 sc rest to fl ma tr mk cn nu de ru la tb tf ph cs) (Nat.le_of_ble_eq_true rfl) hw K
theorem pt_51 {k y : Int32} (hf : mmFetch t pc = some (.invokevirtual j, len, 0 :: 83 :: 3 :: 7 :: ax)) (hw : mmWords st ≤ 8) (K : Ev mmPT t (pc + 3) lv st (mh sc rest to fl (oput ma 8 1400 k y) tr mk cn nu de ru la tb tf ph cs) x) : Ev mmPT t pc lv (.int y :: .int k :: .ref 51 :: st) (mh sc rest to fl ma tr mk cn nu de ru la tb tf ph cs) x := by
  refine Ev.cput hf (ro_51 sc rest to fl ma tr mk cn nu de ru la tb tf ph cs) (ra_51 sc rest to fl ma tr mk cn nu de ru la tb tf ph cs) (Nat.le_of_ble_eq_true rfl) (Nat.le_of_ble_eq_true rfl) hw ?_
  rw [rs_51]
  exact K
theorem fl_51 {y : Int32} (hf : mmFetch t pc = some (.invokevirtual j, len, 0 :: 84 :: 2 :: 7 :: ax)) (hw : mmWords st ≤ 8) (K : Ev mmPT t (pc + 3) lv st (mh sc rest to fl (ofil ma 8 y) tr mk cn nu de ru la tb tf ph cs) x) : Ev mmPT t pc lv (.int y :: .ref 51 :: st) (mh sc rest to fl ma tr mk cn nu de ru la tb tf ph cs) x := by
  refine Ev.cfill hf (ro_51 sc rest to fl ma tr mk cn nu de ru la tb tf ph cs) (ra_51 sc rest to fl ma tr mk cn nu de ru la tb tf ph cs) (Nat.le_of_ble_eq_true rfl) (Nat.le_of_ble_eq_true rfl) hw ?_
  rw [rs_51]
  exact K
theorem at_53 {k : Int32} (y : Int32) (hf : mmFetch t pc = some (.invokevirtual j, len, 0 :: 82 :: 2 :: 7 :: ax)) (hw : mmWords st ≤ 8) (hv : oat ma 9 10 k = y) (K : Ev mmPT t (pc + 3) lv (.int y :: st) (mh sc rest to fl ma tr mk cn nu de ru la tb tf ph cs) x) : Ev mmPT t pc lv (.int k :: .ref 53 :: st) (mh sc rest to fl ma tr mk cn nu de ru la tb tf ph cs) x := by
  subst hv
  exact Ev.cat hf (ro_53 sc rest to fl ma tr mk cn nu de ru la tb tf ph cs) (ra_53 sc rest to fl ma tr mk cn nu de ru la tb tf ph cs) (Nat.le_of_ble_eq_true rfl) hw K
theorem pt_53 {k y : Int32} (hf : mmFetch t pc = some (.invokevirtual j, len, 0 :: 83 :: 3 :: 7 :: ax)) (hw : mmWords st ≤ 8) (K : Ev mmPT t (pc + 3) lv st (mh sc rest to fl (oput ma 9 10 k y) tr mk cn nu de ru la tb tf ph cs) x) : Ev mmPT t pc lv (.int y :: .int k :: .ref 53 :: st) (mh sc rest to fl ma tr mk cn nu de ru la tb tf ph cs) x := by
  refine Ev.cput hf (ro_53 sc rest to fl ma tr mk cn nu de ru la tb tf ph cs) (ra_53 sc rest to fl ma tr mk cn nu de ru la tb tf ph cs) (Nat.le_of_ble_eq_true rfl) (Nat.le_of_ble_eq_true rfl) hw ?_
  rw [rs_53]
  exact K
theorem fl_53 {y : Int32} (hf : mmFetch t pc = some (.invokevirtual j, len, 0 :: 84 :: 2 :: 7 :: ax)) (hw : mmWords st ≤ 8) (K : Ev mmPT t (pc + 3) lv st (mh sc rest to fl (ofil ma 9 y) tr mk cn nu de ru la tb tf ph cs) x) : Ev mmPT t pc lv (.int y :: .ref 53 :: st) (mh sc rest to fl ma tr mk cn nu de ru la tb tf ph cs) x := by
  refine Ev.cfill hf (ro_53 sc rest to fl ma tr mk cn nu de ru la tb tf ph cs) (ra_53 sc rest to fl ma tr mk cn nu de ru la tb tf ph cs) (Nat.le_of_ble_eq_true rfl) (Nat.le_of_ble_eq_true rfl) hw ?_
  rw [rs_53]
  exact K
theorem at_55 {k : Int32} (y : Int32) (hf : mmFetch t pc = some (.invokevirtual j, len, 0 :: 82 :: 2 :: 7 :: ax)) (hw : mmWords st ≤ 8) (hv : oat ma 10 200 k = y) (K : Ev mmPT t (pc + 3) lv (.int y :: st) (mh sc rest to fl ma tr mk cn nu de ru la tb tf ph cs) x) : Ev mmPT t pc lv (.int k :: .ref 55 :: st) (mh sc rest to fl ma tr mk cn nu de ru la tb tf ph cs) x := by
  subst hv
  exact Ev.cat hf (ro_55 sc rest to fl ma tr mk cn nu de ru la tb tf ph cs) (ra_55 sc rest to fl ma tr mk cn nu de ru la tb tf ph cs) (Nat.le_of_ble_eq_true rfl) hw K
theorem pt_55 {k y : Int32} (hf : mmFetch t pc = some (.invokevirtual j, len, 0 :: 83 :: 3 :: 7 :: ax)) (hw : mmWords st ≤ 8) (K : Ev mmPT t (pc + 3) lv st (mh sc rest to fl (oput ma 10 200 k y) tr mk cn nu de ru la tb tf ph cs) x) : Ev mmPT t pc lv (.int y :: .int k :: .ref 55 :: st) (mh sc rest to fl ma tr mk cn nu de ru la tb tf ph cs) x := by
  refine Ev.cput hf (ro_55 sc rest to fl ma tr mk cn nu de ru la tb tf ph cs) (ra_55 sc rest to fl ma tr mk cn nu de ru la tb tf ph cs) (Nat.le_of_ble_eq_true rfl) (Nat.le_of_ble_eq_true rfl) hw ?_
  rw [rs_55]
  exact K
theorem fl_55 {y : Int32} (hf : mmFetch t pc = some (.invokevirtual j, len, 0 :: 84 :: 2 :: 7 :: ax)) (hw : mmWords st ≤ 8) (K : Ev mmPT t (pc + 3) lv st (mh sc rest to fl (ofil ma 10 y) tr mk cn nu de ru la tb tf ph cs) x) : Ev mmPT t pc lv (.int y :: .ref 55 :: st) (mh sc rest to fl ma tr mk cn nu de ru la tb tf ph cs) x := by
  refine Ev.cfill hf (ro_55 sc rest to fl ma tr mk cn nu de ru la tb tf ph cs) (ra_55 sc rest to fl ma tr mk cn nu de ru la tb tf ph cs) (Nat.le_of_ble_eq_true rfl) (Nat.le_of_ble_eq_true rfl) hw ?_
  rw [rs_55]
  exact K
theorem at_57 {k : Int32} (y : Int32) (hf : mmFetch t pc = some (.invokevirtual j, len, 0 :: 82 :: 2 :: 7 :: ax)) (hw : mmWords st ≤ 8) (hv : oat ma 11 10 k = y) (K : Ev mmPT t (pc + 3) lv (.int y :: st) (mh sc rest to fl ma tr mk cn nu de ru la tb tf ph cs) x) : Ev mmPT t pc lv (.int k :: .ref 57 :: st) (mh sc rest to fl ma tr mk cn nu de ru la tb tf ph cs) x := by
  subst hv
  exact Ev.cat hf (ro_57 sc rest to fl ma tr mk cn nu de ru la tb tf ph cs) (ra_57 sc rest to fl ma tr mk cn nu de ru la tb tf ph cs) (Nat.le_of_ble_eq_true rfl) hw K
theorem pt_57 {k y : Int32} (hf : mmFetch t pc = some (.invokevirtual j, len, 0 :: 83 :: 3 :: 7 :: ax)) (hw : mmWords st ≤ 8) (K : Ev mmPT t (pc + 3) lv st (mh sc rest to fl (oput ma 11 10 k y) tr mk cn nu de ru la tb tf ph cs) x) : Ev mmPT t pc lv (.int y :: .int k :: .ref 57 :: st) (mh sc rest to fl ma tr mk cn nu de ru la tb tf ph cs) x := by
  refine Ev.cput hf (ro_57 sc rest to fl ma tr mk cn nu de ru la tb tf ph cs) (ra_57 sc rest to fl ma tr mk cn nu de ru la tb tf ph cs) (Nat.le_of_ble_eq_true rfl) (Nat.le_of_ble_eq_true rfl) hw ?_
  rw [rs_57]
  exact K
theorem fl_57 {y : Int32} (hf : mmFetch t pc = some (.invokevirtual j, len, 0 :: 84 :: 2 :: 7 :: ax)) (hw : mmWords st ≤ 8) (K : Ev mmPT t (pc + 3) lv st (mh sc rest to fl (ofil ma 11 y) tr mk cn nu de ru la tb tf ph cs) x) : Ev mmPT t pc lv (.int y :: .ref 57 :: st) (mh sc rest to fl ma tr mk cn nu de ru la tb tf ph cs) x := by
  refine Ev.cfill hf (ro_57 sc rest to fl ma tr mk cn nu de ru la tb tf ph cs) (ra_57 sc rest to fl ma tr mk cn nu de ru la tb tf ph cs) (Nat.le_of_ble_eq_true rfl) (Nat.le_of_ble_eq_true rfl) hw ?_
  rw [rs_57]
  exact K
theorem at_59 {k : Int32} (y : Int32) (hf : mmFetch t pc = some (.invokevirtual j, len, 0 :: 82 :: 2 :: 7 :: ax)) (hw : mmWords st ≤ 8) (hv : oat ma 12 20 k = y) (K : Ev mmPT t (pc + 3) lv (.int y :: st) (mh sc rest to fl ma tr mk cn nu de ru la tb tf ph cs) x) : Ev mmPT t pc lv (.int k :: .ref 59 :: st) (mh sc rest to fl ma tr mk cn nu de ru la tb tf ph cs) x := by
  subst hv
  exact Ev.cat hf (ro_59 sc rest to fl ma tr mk cn nu de ru la tb tf ph cs) (ra_59 sc rest to fl ma tr mk cn nu de ru la tb tf ph cs) (Nat.le_of_ble_eq_true rfl) hw K
theorem pt_59 {k y : Int32} (hf : mmFetch t pc = some (.invokevirtual j, len, 0 :: 83 :: 3 :: 7 :: ax)) (hw : mmWords st ≤ 8) (K : Ev mmPT t (pc + 3) lv st (mh sc rest to fl (oput ma 12 20 k y) tr mk cn nu de ru la tb tf ph cs) x) : Ev mmPT t pc lv (.int y :: .int k :: .ref 59 :: st) (mh sc rest to fl ma tr mk cn nu de ru la tb tf ph cs) x := by
  refine Ev.cput hf (ro_59 sc rest to fl ma tr mk cn nu de ru la tb tf ph cs) (ra_59 sc rest to fl ma tr mk cn nu de ru la tb tf ph cs) (Nat.le_of_ble_eq_true rfl) (Nat.le_of_ble_eq_true rfl) hw ?_
  rw [rs_59]
  exact K
theorem fl_59 {y : Int32} (hf : mmFetch t pc = some (.invokevirtual j, len, 0 :: 84 :: 2 :: 7 :: ax)) (hw : mmWords st ≤ 8) (K : Ev mmPT t (pc + 3) lv st (mh sc rest to fl (ofil ma 12 y) tr mk cn nu de ru la tb tf ph cs) x) : Ev mmPT t pc lv (.int y :: .ref 59 :: st) (mh sc rest to fl ma tr mk cn nu de ru la tb tf ph cs) x := by
  refine Ev.cfill hf (ro_59 sc rest to fl ma tr mk cn nu de ru la tb tf ph cs) (ra_59 sc rest to fl ma tr mk cn nu de ru la tb tf ph cs) (Nat.le_of_ble_eq_true rfl) (Nat.le_of_ble_eq_true rfl) hw ?_
  rw [rs_59]
  exact K
theorem at_62 {k : Int32} (y : Int32) (hf : mmFetch t pc = some (.invokevirtual j, len, 0 :: 82 :: 2 :: 7 :: ax)) (hw : mmWords st ≤ 8) (hv : oat tr 0 140 k = y) (K : Ev mmPT t (pc + 3) lv (.int y :: st) (mh sc rest to fl ma tr mk cn nu de ru la tb tf ph cs) x) : Ev mmPT t pc lv (.int k :: .ref 62 :: st) (mh sc rest to fl ma tr mk cn nu de ru la tb tf ph cs) x := by
  subst hv
  exact Ev.cat hf (ro_62 sc rest to fl ma tr mk cn nu de ru la tb tf ph cs) (ra_62 sc rest to fl ma tr mk cn nu de ru la tb tf ph cs) (Nat.le_of_ble_eq_true rfl) hw K
theorem pt_62 {k y : Int32} (hf : mmFetch t pc = some (.invokevirtual j, len, 0 :: 83 :: 3 :: 7 :: ax)) (hw : mmWords st ≤ 8) (K : Ev mmPT t (pc + 3) lv st (mh sc rest to fl ma (oput tr 0 140 k y) mk cn nu de ru la tb tf ph cs) x) : Ev mmPT t pc lv (.int y :: .int k :: .ref 62 :: st) (mh sc rest to fl ma tr mk cn nu de ru la tb tf ph cs) x := by
  refine Ev.cput hf (ro_62 sc rest to fl ma tr mk cn nu de ru la tb tf ph cs) (ra_62 sc rest to fl ma tr mk cn nu de ru la tb tf ph cs) (Nat.le_of_ble_eq_true rfl) (Nat.le_of_ble_eq_true rfl) hw ?_
  rw [rs_62]
  exact K
theorem fl_62 {y : Int32} (hf : mmFetch t pc = some (.invokevirtual j, len, 0 :: 84 :: 2 :: 7 :: ax)) (hw : mmWords st ≤ 8) (K : Ev mmPT t (pc + 3) lv st (mh sc rest to fl ma (ofil tr 0 y) mk cn nu de ru la tb tf ph cs) x) : Ev mmPT t pc lv (.int y :: .ref 62 :: st) (mh sc rest to fl ma tr mk cn nu de ru la tb tf ph cs) x := by
  refine Ev.cfill hf (ro_62 sc rest to fl ma tr mk cn nu de ru la tb tf ph cs) (ra_62 sc rest to fl ma tr mk cn nu de ru la tb tf ph cs) (Nat.le_of_ble_eq_true rfl) (Nat.le_of_ble_eq_true rfl) hw ?_
  rw [rs_62]
  exact K
theorem at_64 {k : Int32} (y : Int32) (hf : mmFetch t pc = some (.invokevirtual j, len, 0 :: 82 :: 2 :: 7 :: ax)) (hw : mmWords st ≤ 8) (hv : oat tr 1 140 k = y) (K : Ev mmPT t (pc + 3) lv (.int y :: st) (mh sc rest to fl ma tr mk cn nu de ru la tb tf ph cs) x) : Ev mmPT t pc lv (.int k :: .ref 64 :: st) (mh sc rest to fl ma tr mk cn nu de ru la tb tf ph cs) x := by
  subst hv
  exact Ev.cat hf (ro_64 sc rest to fl ma tr mk cn nu de ru la tb tf ph cs) (ra_64 sc rest to fl ma tr mk cn nu de ru la tb tf ph cs) (Nat.le_of_ble_eq_true rfl) hw K
theorem pt_64 {k y : Int32} (hf : mmFetch t pc = some (.invokevirtual j, len, 0 :: 83 :: 3 :: 7 :: ax)) (hw : mmWords st ≤ 8) (K : Ev mmPT t (pc + 3) lv st (mh sc rest to fl ma (oput tr 1 140 k y) mk cn nu de ru la tb tf ph cs) x) : Ev mmPT t pc lv (.int y :: .int k :: .ref 64 :: st) (mh sc rest to fl ma tr mk cn nu de ru la tb tf ph cs) x := by
  refine Ev.cput hf (ro_64 sc rest to fl ma tr mk cn nu de ru la tb tf ph cs) (ra_64 sc rest to fl ma tr mk cn nu de ru la tb tf ph cs) (Nat.le_of_ble_eq_true rfl) (Nat.le_of_ble_eq_true rfl) hw ?_
  rw [rs_64]
  exact K
theorem fl_64 {y : Int32} (hf : mmFetch t pc = some (.invokevirtual j, len, 0 :: 84 :: 2 :: 7 :: ax)) (hw : mmWords st ≤ 8) (K : Ev mmPT t (pc + 3) lv st (mh sc rest to fl ma (ofil tr 1 y) mk cn nu de ru la tb tf ph cs) x) : Ev mmPT t pc lv (.int y :: .ref 64 :: st) (mh sc rest to fl ma tr mk cn nu de ru la tb tf ph cs) x := by
  refine Ev.cfill hf (ro_64 sc rest to fl ma tr mk cn nu de ru la tb tf ph cs) (ra_64 sc rest to fl ma tr mk cn nu de ru la tb tf ph cs) (Nat.le_of_ble_eq_true rfl) (Nat.le_of_ble_eq_true rfl) hw ?_
  rw [rs_64]
  exact K
theorem at_66 {k : Int32} (y : Int32) (hf : mmFetch t pc = some (.invokevirtual j, len, 0 :: 82 :: 2 :: 7 :: ax)) (hw : mmWords st ≤ 8) (hv : oat tr 2 140 k = y) (K : Ev mmPT t (pc + 3) lv (.int y :: st) (mh sc rest to fl ma tr mk cn nu de ru la tb tf ph cs) x) : Ev mmPT t pc lv (.int k :: .ref 66 :: st) (mh sc rest to fl ma tr mk cn nu de ru la tb tf ph cs) x := by
  subst hv
  exact Ev.cat hf (ro_66 sc rest to fl ma tr mk cn nu de ru la tb tf ph cs) (ra_66 sc rest to fl ma tr mk cn nu de ru la tb tf ph cs) (Nat.le_of_ble_eq_true rfl) hw K
theorem pt_66 {k y : Int32} (hf : mmFetch t pc = some (.invokevirtual j, len, 0 :: 83 :: 3 :: 7 :: ax)) (hw : mmWords st ≤ 8) (K : Ev mmPT t (pc + 3) lv st (mh sc rest to fl ma (oput tr 2 140 k y) mk cn nu de ru la tb tf ph cs) x) : Ev mmPT t pc lv (.int y :: .int k :: .ref 66 :: st) (mh sc rest to fl ma tr mk cn nu de ru la tb tf ph cs) x := by
  refine Ev.cput hf (ro_66 sc rest to fl ma tr mk cn nu de ru la tb tf ph cs) (ra_66 sc rest to fl ma tr mk cn nu de ru la tb tf ph cs) (Nat.le_of_ble_eq_true rfl) (Nat.le_of_ble_eq_true rfl) hw ?_
  rw [rs_66]
  exact K
theorem fl_66 {y : Int32} (hf : mmFetch t pc = some (.invokevirtual j, len, 0 :: 84 :: 2 :: 7 :: ax)) (hw : mmWords st ≤ 8) (K : Ev mmPT t (pc + 3) lv st (mh sc rest to fl ma (ofil tr 2 y) mk cn nu de ru la tb tf ph cs) x) : Ev mmPT t pc lv (.int y :: .ref 66 :: st) (mh sc rest to fl ma tr mk cn nu de ru la tb tf ph cs) x := by
  refine Ev.cfill hf (ro_66 sc rest to fl ma tr mk cn nu de ru la tb tf ph cs) (ra_66 sc rest to fl ma tr mk cn nu de ru la tb tf ph cs) (Nat.le_of_ble_eq_true rfl) (Nat.le_of_ble_eq_true rfl) hw ?_
  rw [rs_66]
  exact K
theorem at_68 {k : Int32} (y : Int32) (hf : mmFetch t pc = some (.invokevirtual j, len, 0 :: 82 :: 2 :: 7 :: ax)) (hw : mmWords st ≤ 8) (hv : oat tr 3 150 k = y) (K : Ev mmPT t (pc + 3) lv (.int y :: st) (mh sc rest to fl ma tr mk cn nu de ru la tb tf ph cs) x) : Ev mmPT t pc lv (.int k :: .ref 68 :: st) (mh sc rest to fl ma tr mk cn nu de ru la tb tf ph cs) x := by
  subst hv
  exact Ev.cat hf (ro_68 sc rest to fl ma tr mk cn nu de ru la tb tf ph cs) (ra_68 sc rest to fl ma tr mk cn nu de ru la tb tf ph cs) (Nat.le_of_ble_eq_true rfl) hw K
theorem pt_68 {k y : Int32} (hf : mmFetch t pc = some (.invokevirtual j, len, 0 :: 83 :: 3 :: 7 :: ax)) (hw : mmWords st ≤ 8) (K : Ev mmPT t (pc + 3) lv st (mh sc rest to fl ma (oput tr 3 150 k y) mk cn nu de ru la tb tf ph cs) x) : Ev mmPT t pc lv (.int y :: .int k :: .ref 68 :: st) (mh sc rest to fl ma tr mk cn nu de ru la tb tf ph cs) x := by
  refine Ev.cput hf (ro_68 sc rest to fl ma tr mk cn nu de ru la tb tf ph cs) (ra_68 sc rest to fl ma tr mk cn nu de ru la tb tf ph cs) (Nat.le_of_ble_eq_true rfl) (Nat.le_of_ble_eq_true rfl) hw ?_
  rw [rs_68]
  exact K
theorem fl_68 {y : Int32} (hf : mmFetch t pc = some (.invokevirtual j, len, 0 :: 84 :: 2 :: 7 :: ax)) (hw : mmWords st ≤ 8) (K : Ev mmPT t (pc + 3) lv st (mh sc rest to fl ma (ofil tr 3 y) mk cn nu de ru la tb tf ph cs) x) : Ev mmPT t pc lv (.int y :: .ref 68 :: st) (mh sc rest to fl ma tr mk cn nu de ru la tb tf ph cs) x := by
  refine Ev.cfill hf (ro_68 sc rest to fl ma tr mk cn nu de ru la tb tf ph cs) (ra_68 sc rest to fl ma tr mk cn nu de ru la tb tf ph cs) (Nat.le_of_ble_eq_true rfl) (Nat.le_of_ble_eq_true rfl) hw ?_
  rw [rs_68]
  exact K
theorem at_70 {k : Int32} (y : Int32) (hf : mmFetch t pc = some (.invokevirtual j, len, 0 :: 82 :: 2 :: 7 :: ax)) (hw : mmWords st ≤ 8) (hv : oat tr 4 150 k = y) (K : Ev mmPT t (pc + 3) lv (.int y :: st) (mh sc rest to fl ma tr mk cn nu de ru la tb tf ph cs) x) : Ev mmPT t pc lv (.int k :: .ref 70 :: st) (mh sc rest to fl ma tr mk cn nu de ru la tb tf ph cs) x := by
  subst hv
  exact Ev.cat hf (ro_70 sc rest to fl ma tr mk cn nu de ru la tb tf ph cs) (ra_70 sc rest to fl ma tr mk cn nu de ru la tb tf ph cs) (Nat.le_of_ble_eq_true rfl) hw K
theorem pt_70 {k y : Int32} (hf : mmFetch t pc = some (.invokevirtual j, len, 0 :: 83 :: 3 :: 7 :: ax)) (hw : mmWords st ≤ 8) (K : Ev mmPT t (pc + 3) lv st (mh sc rest to fl ma (oput tr 4 150 k y) mk cn nu de ru la tb tf ph cs) x) : Ev mmPT t pc lv (.int y :: .int k :: .ref 70 :: st) (mh sc rest to fl ma tr mk cn nu de ru la tb tf ph cs) x := by
  refine Ev.cput hf (ro_70 sc rest to fl ma tr mk cn nu de ru la tb tf ph cs) (ra_70 sc rest to fl ma tr mk cn nu de ru la tb tf ph cs) (Nat.le_of_ble_eq_true rfl) (Nat.le_of_ble_eq_true rfl) hw ?_
  rw [rs_70]
  exact K
theorem fl_70 {y : Int32} (hf : mmFetch t pc = some (.invokevirtual j, len, 0 :: 84 :: 2 :: 7 :: ax)) (hw : mmWords st ≤ 8) (K : Ev mmPT t (pc + 3) lv st (mh sc rest to fl ma (ofil tr 4 y) mk cn nu de ru la tb tf ph cs) x) : Ev mmPT t pc lv (.int y :: .ref 70 :: st) (mh sc rest to fl ma tr mk cn nu de ru la tb tf ph cs) x := by
  refine Ev.cfill hf (ro_70 sc rest to fl ma tr mk cn nu de ru la tb tf ph cs) (ra_70 sc rest to fl ma tr mk cn nu de ru la tb tf ph cs) (Nat.le_of_ble_eq_true rfl) (Nat.le_of_ble_eq_true rfl) hw ?_
  rw [rs_70]
  exact K
theorem at_72 {k : Int32} (y : Int32) (hf : mmFetch t pc = some (.invokevirtual j, len, 0 :: 82 :: 2 :: 7 :: ax)) (hw : mmWords st ≤ 8) (hv : oat tr 5 290 k = y) (K : Ev mmPT t (pc + 3) lv (.int y :: st) (mh sc rest to fl ma tr mk cn nu de ru la tb tf ph cs) x) : Ev mmPT t pc lv (.int k :: .ref 72 :: st) (mh sc rest to fl ma tr mk cn nu de ru la tb tf ph cs) x := by
  subst hv
  exact Ev.cat hf (ro_72 sc rest to fl ma tr mk cn nu de ru la tb tf ph cs) (ra_72 sc rest to fl ma tr mk cn nu de ru la tb tf ph cs) (Nat.le_of_ble_eq_true rfl) hw K
theorem pt_72 {k y : Int32} (hf : mmFetch t pc = some (.invokevirtual j, len, 0 :: 83 :: 3 :: 7 :: ax)) (hw : mmWords st ≤ 8) (K : Ev mmPT t (pc + 3) lv st (mh sc rest to fl ma (oput tr 5 290 k y) mk cn nu de ru la tb tf ph cs) x) : Ev mmPT t pc lv (.int y :: .int k :: .ref 72 :: st) (mh sc rest to fl ma tr mk cn nu de ru la tb tf ph cs) x := by
  refine Ev.cput hf (ro_72 sc rest to fl ma tr mk cn nu de ru la tb tf ph cs) (ra_72 sc rest to fl ma tr mk cn nu de ru la tb tf ph cs) (Nat.le_of_ble_eq_true rfl) (Nat.le_of_ble_eq_true rfl) hw ?_
  rw [rs_72]
  exact K
theorem fl_72 {y : Int32} (hf : mmFetch t pc = some (.invokevirtual j, len, 0 :: 84 :: 2 :: 7 :: ax)) (hw : mmWords st ≤ 8) (K : Ev mmPT t (pc + 3) lv st (mh sc rest to fl ma (ofil tr 5 y) mk cn nu de ru la tb tf ph cs) x) : Ev mmPT t pc lv (.int y :: .ref 72 :: st) (mh sc rest to fl ma tr mk cn nu de ru la tb tf ph cs) x := by
  refine Ev.cfill hf (ro_72 sc rest to fl ma tr mk cn nu de ru la tb tf ph cs) (ra_72 sc rest to fl ma tr mk cn nu de ru la tb tf ph cs) (Nat.le_of_ble_eq_true rfl) (Nat.le_of_ble_eq_true rfl) hw ?_
  rw [rs_72]
  exact K
theorem at_74 {k : Int32} (y : Int32) (hf : mmFetch t pc = some (.invokevirtual j, len, 0 :: 82 :: 2 :: 7 :: ax)) (hw : mmWords st ≤ 8) (hv : oat tr 6 290 k = y) (K : Ev mmPT t (pc + 3) lv (.int y :: st) (mh sc rest to fl ma tr mk cn nu de ru la tb tf ph cs) x) : Ev mmPT t pc lv (.int k :: .ref 74 :: st) (mh sc rest to fl ma tr mk cn nu de ru la tb tf ph cs) x := by
  subst hv
  exact Ev.cat hf (ro_74 sc rest to fl ma tr mk cn nu de ru la tb tf ph cs) (ra_74 sc rest to fl ma tr mk cn nu de ru la tb tf ph cs) (Nat.le_of_ble_eq_true rfl) hw K
theorem pt_74 {k y : Int32} (hf : mmFetch t pc = some (.invokevirtual j, len, 0 :: 83 :: 3 :: 7 :: ax)) (hw : mmWords st ≤ 8) (K : Ev mmPT t (pc + 3) lv st (mh sc rest to fl ma (oput tr 6 290 k y) mk cn nu de ru la tb tf ph cs) x) : Ev mmPT t pc lv (.int y :: .int k :: .ref 74 :: st) (mh sc rest to fl ma tr mk cn nu de ru la tb tf ph cs) x := by
  refine Ev.cput hf (ro_74 sc rest to fl ma tr mk cn nu de ru la tb tf ph cs) (ra_74 sc rest to fl ma tr mk cn nu de ru la tb tf ph cs) (Nat.le_of_ble_eq_true rfl) (Nat.le_of_ble_eq_true rfl) hw ?_
  rw [rs_74]
  exact K
theorem fl_74 {y : Int32} (hf : mmFetch t pc = some (.invokevirtual j, len, 0 :: 84 :: 2 :: 7 :: ax)) (hw : mmWords st ≤ 8) (K : Ev mmPT t (pc + 3) lv st (mh sc rest to fl ma (ofil tr 6 y) mk cn nu de ru la tb tf ph cs) x) : Ev mmPT t pc lv (.int y :: .ref 74 :: st) (mh sc rest to fl ma tr mk cn nu de ru la tb tf ph cs) x := by
  refine Ev.cfill hf (ro_74 sc rest to fl ma tr mk cn nu de ru la tb tf ph cs) (ra_74 sc rest to fl ma tr mk cn nu de ru la tb tf ph cs) (Nat.le_of_ble_eq_true rfl) (Nat.le_of_ble_eq_true rfl) hw ?_
  rw [rs_74]
  exact K
theorem at_76 {k : Int32} (y : Int32) (hf : mmFetch t pc = some (.invokevirtual j, len, 0 :: 82 :: 2 :: 7 :: ax)) (hw : mmWords st ≤ 8) (hv : oat tr 7 10 k = y) (K : Ev mmPT t (pc + 3) lv (.int y :: st) (mh sc rest to fl ma tr mk cn nu de ru la tb tf ph cs) x) : Ev mmPT t pc lv (.int k :: .ref 76 :: st) (mh sc rest to fl ma tr mk cn nu de ru la tb tf ph cs) x := by
  subst hv
  exact Ev.cat hf (ro_76 sc rest to fl ma tr mk cn nu de ru la tb tf ph cs) (ra_76 sc rest to fl ma tr mk cn nu de ru la tb tf ph cs) (Nat.le_of_ble_eq_true rfl) hw K
theorem pt_76 {k y : Int32} (hf : mmFetch t pc = some (.invokevirtual j, len, 0 :: 83 :: 3 :: 7 :: ax)) (hw : mmWords st ≤ 8) (K : Ev mmPT t (pc + 3) lv st (mh sc rest to fl ma (oput tr 7 10 k y) mk cn nu de ru la tb tf ph cs) x) : Ev mmPT t pc lv (.int y :: .int k :: .ref 76 :: st) (mh sc rest to fl ma tr mk cn nu de ru la tb tf ph cs) x := by
  refine Ev.cput hf (ro_76 sc rest to fl ma tr mk cn nu de ru la tb tf ph cs) (ra_76 sc rest to fl ma tr mk cn nu de ru la tb tf ph cs) (Nat.le_of_ble_eq_true rfl) (Nat.le_of_ble_eq_true rfl) hw ?_
  rw [rs_76]
  exact K
theorem fl_76 {y : Int32} (hf : mmFetch t pc = some (.invokevirtual j, len, 0 :: 84 :: 2 :: 7 :: ax)) (hw : mmWords st ≤ 8) (K : Ev mmPT t (pc + 3) lv st (mh sc rest to fl ma (ofil tr 7 y) mk cn nu de ru la tb tf ph cs) x) : Ev mmPT t pc lv (.int y :: .ref 76 :: st) (mh sc rest to fl ma tr mk cn nu de ru la tb tf ph cs) x := by
  refine Ev.cfill hf (ro_76 sc rest to fl ma tr mk cn nu de ru la tb tf ph cs) (ra_76 sc rest to fl ma tr mk cn nu de ru la tb tf ph cs) (Nat.le_of_ble_eq_true rfl) (Nat.le_of_ble_eq_true rfl) hw ?_
  rw [rs_76]
  exact K
theorem at_78 {k : Int32} (y : Int32) (hf : mmFetch t pc = some (.invokevirtual j, len, 0 :: 82 :: 2 :: 7 :: ax)) (hw : mmWords st ≤ 8) (hv : oat tr 8 1400 k = y) (K : Ev mmPT t (pc + 3) lv (.int y :: st) (mh sc rest to fl ma tr mk cn nu de ru la tb tf ph cs) x) : Ev mmPT t pc lv (.int k :: .ref 78 :: st) (mh sc rest to fl ma tr mk cn nu de ru la tb tf ph cs) x := by
  subst hv
  exact Ev.cat hf (ro_78 sc rest to fl ma tr mk cn nu de ru la tb tf ph cs) (ra_78 sc rest to fl ma tr mk cn nu de ru la tb tf ph cs) (Nat.le_of_ble_eq_true rfl) hw K
theorem pt_78 {k y : Int32} (hf : mmFetch t pc = some (.invokevirtual j, len, 0 :: 83 :: 3 :: 7 :: ax)) (hw : mmWords st ≤ 8) (K : Ev mmPT t (pc + 3) lv st (mh sc rest to fl ma (oput tr 8 1400 k y) mk cn nu de ru la tb tf ph cs) x) : Ev mmPT t pc lv (.int y :: .int k :: .ref 78 :: st) (mh sc rest to fl ma tr mk cn nu de ru la tb tf ph cs) x := by
  refine Ev.cput hf (ro_78 sc rest to fl ma tr mk cn nu de ru la tb tf ph cs) (ra_78 sc rest to fl ma tr mk cn nu de ru la tb tf ph cs) (Nat.le_of_ble_eq_true rfl) (Nat.le_of_ble_eq_true rfl) hw ?_
  rw [rs_78]
  exact K
theorem fl_78 {y : Int32} (hf : mmFetch t pc = some (.invokevirtual j, len, 0 :: 84 :: 2 :: 7 :: ax)) (hw : mmWords st ≤ 8) (K : Ev mmPT t (pc + 3) lv st (mh sc rest to fl ma (ofil tr 8 y) mk cn nu de ru la tb tf ph cs) x) : Ev mmPT t pc lv (.int y :: .ref 78 :: st) (mh sc rest to fl ma tr mk cn nu de ru la tb tf ph cs) x := by
  refine Ev.cfill hf (ro_78 sc rest to fl ma tr mk cn nu de ru la tb tf ph cs) (ra_78 sc rest to fl ma tr mk cn nu de ru la tb tf ph cs) (Nat.le_of_ble_eq_true rfl) (Nat.le_of_ble_eq_true rfl) hw ?_
  rw [rs_78]
  exact K
theorem at_80 {k : Int32} (y : Int32) (hf : mmFetch t pc = some (.invokevirtual j, len, 0 :: 82 :: 2 :: 7 :: ax)) (hw : mmWords st ≤ 8) (hv : oat tr 9 10 k = y) (K : Ev mmPT t (pc + 3) lv (.int y :: st) (mh sc rest to fl ma tr mk cn nu de ru la tb tf ph cs) x) : Ev mmPT t pc lv (.int k :: .ref 80 :: st) (mh sc rest to fl ma tr mk cn nu de ru la tb tf ph cs) x := by
  subst hv
  exact Ev.cat hf (ro_80 sc rest to fl ma tr mk cn nu de ru la tb tf ph cs) (ra_80 sc rest to fl ma tr mk cn nu de ru la tb tf ph cs) (Nat.le_of_ble_eq_true rfl) hw K
theorem pt_80 {k y : Int32} (hf : mmFetch t pc = some (.invokevirtual j, len, 0 :: 83 :: 3 :: 7 :: ax)) (hw : mmWords st ≤ 8) (K : Ev mmPT t (pc + 3) lv st (mh sc rest to fl ma (oput tr 9 10 k y) mk cn nu de ru la tb tf ph cs) x) : Ev mmPT t pc lv (.int y :: .int k :: .ref 80 :: st) (mh sc rest to fl ma tr mk cn nu de ru la tb tf ph cs) x := by
  refine Ev.cput hf (ro_80 sc rest to fl ma tr mk cn nu de ru la tb tf ph cs) (ra_80 sc rest to fl ma tr mk cn nu de ru la tb tf ph cs) (Nat.le_of_ble_eq_true rfl) (Nat.le_of_ble_eq_true rfl) hw ?_
  rw [rs_80]
  exact K
theorem fl_80 {y : Int32} (hf : mmFetch t pc = some (.invokevirtual j, len, 0 :: 84 :: 2 :: 7 :: ax)) (hw : mmWords st ≤ 8) (K : Ev mmPT t (pc + 3) lv st (mh sc rest to fl ma (ofil tr 9 y) mk cn nu de ru la tb tf ph cs) x) : Ev mmPT t pc lv (.int y :: .ref 80 :: st) (mh sc rest to fl ma tr mk cn nu de ru la tb tf ph cs) x := by
  refine Ev.cfill hf (ro_80 sc rest to fl ma tr mk cn nu de ru la tb tf ph cs) (ra_80 sc rest to fl ma tr mk cn nu de ru la tb tf ph cs) (Nat.le_of_ble_eq_true rfl) (Nat.le_of_ble_eq_true rfl) hw ?_
  rw [rs_80]
  exact K
theorem at_82 {k : Int32} (y : Int32) (hf : mmFetch t pc = some (.invokevirtual j, len, 0 :: 82 :: 2 :: 7 :: ax)) (hw : mmWords st ≤ 8) (hv : oat tr 10 200 k = y) (K : Ev mmPT t (pc + 3) lv (.int y :: st) (mh sc rest to fl ma tr mk cn nu de ru la tb tf ph cs) x) : Ev mmPT t pc lv (.int k :: .ref 82 :: st) (mh sc rest to fl ma tr mk cn nu de ru la tb tf ph cs) x := by
  subst hv
  exact Ev.cat hf (ro_82 sc rest to fl ma tr mk cn nu de ru la tb tf ph cs) (ra_82 sc rest to fl ma tr mk cn nu de ru la tb tf ph cs) (Nat.le_of_ble_eq_true rfl) hw K
theorem pt_82 {k y : Int32} (hf : mmFetch t pc = some (.invokevirtual j, len, 0 :: 83 :: 3 :: 7 :: ax)) (hw : mmWords st ≤ 8) (K : Ev mmPT t (pc + 3) lv st (mh sc rest to fl ma (oput tr 10 200 k y) mk cn nu de ru la tb tf ph cs) x) : Ev mmPT t pc lv (.int y :: .int k :: .ref 82 :: st) (mh sc rest to fl ma tr mk cn nu de ru la tb tf ph cs) x := by
  refine Ev.cput hf (ro_82 sc rest to fl ma tr mk cn nu de ru la tb tf ph cs) (ra_82 sc rest to fl ma tr mk cn nu de ru la tb tf ph cs) (Nat.le_of_ble_eq_true rfl) (Nat.le_of_ble_eq_true rfl) hw ?_
  rw [rs_82]
  exact K
theorem fl_82 {y : Int32} (hf : mmFetch t pc = some (.invokevirtual j, len, 0 :: 84 :: 2 :: 7 :: ax)) (hw : mmWords st ≤ 8) (K : Ev mmPT t (pc + 3) lv st (mh sc rest to fl ma (ofil tr 10 y) mk cn nu de ru la tb tf ph cs) x) : Ev mmPT t pc lv (.int y :: .ref 82 :: st) (mh sc rest to fl ma tr mk cn nu de ru la tb tf ph cs) x := by
  refine Ev.cfill hf (ro_82 sc rest to fl ma tr mk cn nu de ru la tb tf ph cs) (ra_82 sc rest to fl ma tr mk cn nu de ru la tb tf ph cs) (Nat.le_of_ble_eq_true rfl) (Nat.le_of_ble_eq_true rfl) hw ?_
  rw [rs_82]
  exact K
theorem at_84 {k : Int32} (y : Int32) (hf : mmFetch t pc = some (.invokevirtual j, len, 0 :: 82 :: 2 :: 7 :: ax)) (hw : mmWords st ≤ 8) (hv : oat tr 11 10 k = y) (K : Ev mmPT t (pc + 3) lv (.int y :: st) (mh sc rest to fl ma tr mk cn nu de ru la tb tf ph cs) x) : Ev mmPT t pc lv (.int k :: .ref 84 :: st) (mh sc rest to fl ma tr mk cn nu de ru la tb tf ph cs) x := by
  subst hv
  exact Ev.cat hf (ro_84 sc rest to fl ma tr mk cn nu de ru la tb tf ph cs) (ra_84 sc rest to fl ma tr mk cn nu de ru la tb tf ph cs) (Nat.le_of_ble_eq_true rfl) hw K
theorem pt_84 {k y : Int32} (hf : mmFetch t pc = some (.invokevirtual j, len, 0 :: 83 :: 3 :: 7 :: ax)) (hw : mmWords st ≤ 8) (K : Ev mmPT t (pc + 3) lv st (mh sc rest to fl ma (oput tr 11 10 k y) mk cn nu de ru la tb tf ph cs) x) : Ev mmPT t pc lv (.int y :: .int k :: .ref 84 :: st) (mh sc rest to fl ma tr mk cn nu de ru la tb tf ph cs) x := by
  refine Ev.cput hf (ro_84 sc rest to fl ma tr mk cn nu de ru la tb tf ph cs) (ra_84 sc rest to fl ma tr mk cn nu de ru la tb tf ph cs) (Nat.le_of_ble_eq_true rfl) (Nat.le_of_ble_eq_true rfl) hw ?_
  rw [rs_84]
  exact K
theorem fl_84 {y : Int32} (hf : mmFetch t pc = some (.invokevirtual j, len, 0 :: 84 :: 2 :: 7 :: ax)) (hw : mmWords st ≤ 8) (K : Ev mmPT t (pc + 3) lv st (mh sc rest to fl ma (ofil tr 11 y) mk cn nu de ru la tb tf ph cs) x) : Ev mmPT t pc lv (.int y :: .ref 84 :: st) (mh sc rest to fl ma tr mk cn nu de ru la tb tf ph cs) x := by
  refine Ev.cfill hf (ro_84 sc rest to fl ma tr mk cn nu de ru la tb tf ph cs) (ra_84 sc rest to fl ma tr mk cn nu de ru la tb tf ph cs) (Nat.le_of_ble_eq_true rfl) (Nat.le_of_ble_eq_true rfl) hw ?_
  rw [rs_84]
  exact K
theorem at_86 {k : Int32} (y : Int32) (hf : mmFetch t pc = some (.invokevirtual j, len, 0 :: 82 :: 2 :: 7 :: ax)) (hw : mmWords st ≤ 8) (hv : oat tr 12 20 k = y) (K : Ev mmPT t (pc + 3) lv (.int y :: st) (mh sc rest to fl ma tr mk cn nu de ru la tb tf ph cs) x) : Ev mmPT t pc lv (.int k :: .ref 86 :: st) (mh sc rest to fl ma tr mk cn nu de ru la tb tf ph cs) x := by
  subst hv
  exact Ev.cat hf (ro_86 sc rest to fl ma tr mk cn nu de ru la tb tf ph cs) (ra_86 sc rest to fl ma tr mk cn nu de ru la tb tf ph cs) (Nat.le_of_ble_eq_true rfl) hw K
theorem pt_86 {k y : Int32} (hf : mmFetch t pc = some (.invokevirtual j, len, 0 :: 83 :: 3 :: 7 :: ax)) (hw : mmWords st ≤ 8) (K : Ev mmPT t (pc + 3) lv st (mh sc rest to fl ma (oput tr 12 20 k y) mk cn nu de ru la tb tf ph cs) x) : Ev mmPT t pc lv (.int y :: .int k :: .ref 86 :: st) (mh sc rest to fl ma tr mk cn nu de ru la tb tf ph cs) x := by
  refine Ev.cput hf (ro_86 sc rest to fl ma tr mk cn nu de ru la tb tf ph cs) (ra_86 sc rest to fl ma tr mk cn nu de ru la tb tf ph cs) (Nat.le_of_ble_eq_true rfl) (Nat.le_of_ble_eq_true rfl) hw ?_
  rw [rs_86]
  exact K
theorem fl_86 {y : Int32} (hf : mmFetch t pc = some (.invokevirtual j, len, 0 :: 84 :: 2 :: 7 :: ax)) (hw : mmWords st ≤ 8) (K : Ev mmPT t (pc + 3) lv st (mh sc rest to fl ma (ofil tr 12 y) mk cn nu de ru la tb tf ph cs) x) : Ev mmPT t pc lv (.int y :: .ref 86 :: st) (mh sc rest to fl ma tr mk cn nu de ru la tb tf ph cs) x := by
  refine Ev.cfill hf (ro_86 sc rest to fl ma tr mk cn nu de ru la tb tf ph cs) (ra_86 sc rest to fl ma tr mk cn nu de ru la tb tf ph cs) (Nat.le_of_ble_eq_true rfl) (Nat.le_of_ble_eq_true rfl) hw ?_
  rw [rs_86]
  exact K
theorem at_89 {k : Int32} (y : Int32) (hf : mmFetch t pc = some (.invokevirtual j, len, 0 :: 82 :: 2 :: 7 :: ax)) (hw : mmWords st ≤ 8) (hv : oat mk 0 60 k = y) (K : Ev mmPT t (pc + 3) lv (.int y :: st) (mh sc rest to fl ma tr mk cn nu de ru la tb tf ph cs) x) : Ev mmPT t pc lv (.int k :: .ref 89 :: st) (mh sc rest to fl ma tr mk cn nu de ru la tb tf ph cs) x := by
  subst hv
  exact Ev.cat hf (ro_89 sc rest to fl ma tr mk cn nu de ru la tb tf ph cs) (ra_89 sc rest to fl ma tr mk cn nu de ru la tb tf ph cs) (Nat.le_of_ble_eq_true rfl) hw K
theorem pt_89 {k y : Int32} (hf : mmFetch t pc = some (.invokevirtual j, len, 0 :: 83 :: 3 :: 7 :: ax)) (hw : mmWords st ≤ 8) (K : Ev mmPT t (pc + 3) lv st (mh sc rest to fl ma tr (oput mk 0 60 k y) cn nu de ru la tb tf ph cs) x) : Ev mmPT t pc lv (.int y :: .int k :: .ref 89 :: st) (mh sc rest to fl ma tr mk cn nu de ru la tb tf ph cs) x := by
  refine Ev.cput hf (ro_89 sc rest to fl ma tr mk cn nu de ru la tb tf ph cs) (ra_89 sc rest to fl ma tr mk cn nu de ru la tb tf ph cs) (Nat.le_of_ble_eq_true rfl) (Nat.le_of_ble_eq_true rfl) hw ?_
  rw [rs_89]
  exact K
theorem fl_89 {y : Int32} (hf : mmFetch t pc = some (.invokevirtual j, len, 0 :: 84 :: 2 :: 7 :: ax)) (hw : mmWords st ≤ 8) (K : Ev mmPT t (pc + 3) lv st (mh sc rest to fl ma tr (ofil mk 0 y) cn nu de ru la tb tf ph cs) x) : Ev mmPT t pc lv (.int y :: .ref 89 :: st) (mh sc rest to fl ma tr mk cn nu de ru la tb tf ph cs) x := by
  refine Ev.cfill hf (ro_89 sc rest to fl ma tr mk cn nu de ru la tb tf ph cs) (ra_89 sc rest to fl ma tr mk cn nu de ru la tb tf ph cs) (Nat.le_of_ble_eq_true rfl) (Nat.le_of_ble_eq_true rfl) hw ?_
  rw [rs_89]
  exact K
theorem at_91 {k : Int32} (y : Int32) (hf : mmFetch t pc = some (.invokevirtual j, len, 0 :: 82 :: 2 :: 7 :: ax)) (hw : mmWords st ≤ 8) (hv : oat mk 1 60 k = y) (K : Ev mmPT t (pc + 3) lv (.int y :: st) (mh sc rest to fl ma tr mk cn nu de ru la tb tf ph cs) x) : Ev mmPT t pc lv (.int k :: .ref 91 :: st) (mh sc rest to fl ma tr mk cn nu de ru la tb tf ph cs) x := by
  subst hv
  exact Ev.cat hf (ro_91 sc rest to fl ma tr mk cn nu de ru la tb tf ph cs) (ra_91 sc rest to fl ma tr mk cn nu de ru la tb tf ph cs) (Nat.le_of_ble_eq_true rfl) hw K
theorem pt_91 {k y : Int32} (hf : mmFetch t pc = some (.invokevirtual j, len, 0 :: 83 :: 3 :: 7 :: ax)) (hw : mmWords st ≤ 8) (K : Ev mmPT t (pc + 3) lv st (mh sc rest to fl ma tr (oput mk 1 60 k y) cn nu de ru la tb tf ph cs) x) : Ev mmPT t pc lv (.int y :: .int k :: .ref 91 :: st) (mh sc rest to fl ma tr mk cn nu de ru la tb tf ph cs) x := by
  refine Ev.cput hf (ro_91 sc rest to fl ma tr mk cn nu de ru la tb tf ph cs) (ra_91 sc rest to fl ma tr mk cn nu de ru la tb tf ph cs) (Nat.le_of_ble_eq_true rfl) (Nat.le_of_ble_eq_true rfl) hw ?_
  rw [rs_91]
  exact K
theorem fl_91 {y : Int32} (hf : mmFetch t pc = some (.invokevirtual j, len, 0 :: 84 :: 2 :: 7 :: ax)) (hw : mmWords st ≤ 8) (K : Ev mmPT t (pc + 3) lv st (mh sc rest to fl ma tr (ofil mk 1 y) cn nu de ru la tb tf ph cs) x) : Ev mmPT t pc lv (.int y :: .ref 91 :: st) (mh sc rest to fl ma tr mk cn nu de ru la tb tf ph cs) x := by
  refine Ev.cfill hf (ro_91 sc rest to fl ma tr mk cn nu de ru la tb tf ph cs) (ra_91 sc rest to fl ma tr mk cn nu de ru la tb tf ph cs) (Nat.le_of_ble_eq_true rfl) (Nat.le_of_ble_eq_true rfl) hw ?_
  rw [rs_91]
  exact K
theorem at_93 {k : Int32} (y : Int32) (hf : mmFetch t pc = some (.invokevirtual j, len, 0 :: 82 :: 2 :: 7 :: ax)) (hw : mmWords st ≤ 8) (hv : oat mk 2 10 k = y) (K : Ev mmPT t (pc + 3) lv (.int y :: st) (mh sc rest to fl ma tr mk cn nu de ru la tb tf ph cs) x) : Ev mmPT t pc lv (.int k :: .ref 93 :: st) (mh sc rest to fl ma tr mk cn nu de ru la tb tf ph cs) x := by
  subst hv
  exact Ev.cat hf (ro_93 sc rest to fl ma tr mk cn nu de ru la tb tf ph cs) (ra_93 sc rest to fl ma tr mk cn nu de ru la tb tf ph cs) (Nat.le_of_ble_eq_true rfl) hw K
theorem pt_93 {k y : Int32} (hf : mmFetch t pc = some (.invokevirtual j, len, 0 :: 83 :: 3 :: 7 :: ax)) (hw : mmWords st ≤ 8) (K : Ev mmPT t (pc + 3) lv st (mh sc rest to fl ma tr (oput mk 2 10 k y) cn nu de ru la tb tf ph cs) x) : Ev mmPT t pc lv (.int y :: .int k :: .ref 93 :: st) (mh sc rest to fl ma tr mk cn nu de ru la tb tf ph cs) x := by
  refine Ev.cput hf (ro_93 sc rest to fl ma tr mk cn nu de ru la tb tf ph cs) (ra_93 sc rest to fl ma tr mk cn nu de ru la tb tf ph cs) (Nat.le_of_ble_eq_true rfl) (Nat.le_of_ble_eq_true rfl) hw ?_
  rw [rs_93]
  exact K
theorem fl_93 {y : Int32} (hf : mmFetch t pc = some (.invokevirtual j, len, 0 :: 84 :: 2 :: 7 :: ax)) (hw : mmWords st ≤ 8) (K : Ev mmPT t (pc + 3) lv st (mh sc rest to fl ma tr (ofil mk 2 y) cn nu de ru la tb tf ph cs) x) : Ev mmPT t pc lv (.int y :: .ref 93 :: st) (mh sc rest to fl ma tr mk cn nu de ru la tb tf ph cs) x := by
  refine Ev.cfill hf (ro_93 sc rest to fl ma tr mk cn nu de ru la tb tf ph cs) (ra_93 sc rest to fl ma tr mk cn nu de ru la tb tf ph cs) (Nat.le_of_ble_eq_true rfl) (Nat.le_of_ble_eq_true rfl) hw ?_
  rw [rs_93]
  exact K
theorem at_96 {k : Int32} (y : Int32) (hf : mmFetch t pc = some (.invokevirtual j, len, 0 :: 82 :: 2 :: 7 :: ax)) (hw : mmWords st ≤ 8) (hv : oat cn 0 140 k = y) (K : Ev mmPT t (pc + 3) lv (.int y :: st) (mh sc rest to fl ma tr mk cn nu de ru la tb tf ph cs) x) : Ev mmPT t pc lv (.int k :: .ref 96 :: st) (mh sc rest to fl ma tr mk cn nu de ru la tb tf ph cs) x := by
  subst hv
  exact Ev.cat hf (ro_96 sc rest to fl ma tr mk cn nu de ru la tb tf ph cs) (ra_96 sc rest to fl ma tr mk cn nu de ru la tb tf ph cs) (Nat.le_of_ble_eq_true rfl) hw K
theorem pt_96 {k y : Int32} (hf : mmFetch t pc = some (.invokevirtual j, len, 0 :: 83 :: 3 :: 7 :: ax)) (hw : mmWords st ≤ 8) (K : Ev mmPT t (pc + 3) lv st (mh sc rest to fl ma tr mk (oput cn 0 140 k y) nu de ru la tb tf ph cs) x) : Ev mmPT t pc lv (.int y :: .int k :: .ref 96 :: st) (mh sc rest to fl ma tr mk cn nu de ru la tb tf ph cs) x := by
  refine Ev.cput hf (ro_96 sc rest to fl ma tr mk cn nu de ru la tb tf ph cs) (ra_96 sc rest to fl ma tr mk cn nu de ru la tb tf ph cs) (Nat.le_of_ble_eq_true rfl) (Nat.le_of_ble_eq_true rfl) hw ?_
  rw [rs_96]
  exact K
theorem fl_96 {y : Int32} (hf : mmFetch t pc = some (.invokevirtual j, len, 0 :: 84 :: 2 :: 7 :: ax)) (hw : mmWords st ≤ 8) (K : Ev mmPT t (pc + 3) lv st (mh sc rest to fl ma tr mk (ofil cn 0 y) nu de ru la tb tf ph cs) x) : Ev mmPT t pc lv (.int y :: .ref 96 :: st) (mh sc rest to fl ma tr mk cn nu de ru la tb tf ph cs) x := by
  refine Ev.cfill hf (ro_96 sc rest to fl ma tr mk cn nu de ru la tb tf ph cs) (ra_96 sc rest to fl ma tr mk cn nu de ru la tb tf ph cs) (Nat.le_of_ble_eq_true rfl) (Nat.le_of_ble_eq_true rfl) hw ?_
  rw [rs_96]
  exact K
theorem at_98 {k : Int32} (y : Int32) (hf : mmFetch t pc = some (.invokevirtual j, len, 0 :: 82 :: 2 :: 7 :: ax)) (hw : mmWords st ≤ 8) (hv : oat cn 1 140 k = y) (K : Ev mmPT t (pc + 3) lv (.int y :: st) (mh sc rest to fl ma tr mk cn nu de ru la tb tf ph cs) x) : Ev mmPT t pc lv (.int k :: .ref 98 :: st) (mh sc rest to fl ma tr mk cn nu de ru la tb tf ph cs) x := by
  subst hv
  exact Ev.cat hf (ro_98 sc rest to fl ma tr mk cn nu de ru la tb tf ph cs) (ra_98 sc rest to fl ma tr mk cn nu de ru la tb tf ph cs) (Nat.le_of_ble_eq_true rfl) hw K
theorem pt_98 {k y : Int32} (hf : mmFetch t pc = some (.invokevirtual j, len, 0 :: 83 :: 3 :: 7 :: ax)) (hw : mmWords st ≤ 8) (K : Ev mmPT t (pc + 3) lv st (mh sc rest to fl ma tr mk (oput cn 1 140 k y) nu de ru la tb tf ph cs) x) : Ev mmPT t pc lv (.int y :: .int k :: .ref 98 :: st) (mh sc rest to fl ma tr mk cn nu de ru la tb tf ph cs) x := by
  refine Ev.cput hf (ro_98 sc rest to fl ma tr mk cn nu de ru la tb tf ph cs) (ra_98 sc rest to fl ma tr mk cn nu de ru la tb tf ph cs) (Nat.le_of_ble_eq_true rfl) (Nat.le_of_ble_eq_true rfl) hw ?_
  rw [rs_98]
  exact K
theorem fl_98 {y : Int32} (hf : mmFetch t pc = some (.invokevirtual j, len, 0 :: 84 :: 2 :: 7 :: ax)) (hw : mmWords st ≤ 8) (K : Ev mmPT t (pc + 3) lv st (mh sc rest to fl ma tr mk (ofil cn 1 y) nu de ru la tb tf ph cs) x) : Ev mmPT t pc lv (.int y :: .ref 98 :: st) (mh sc rest to fl ma tr mk cn nu de ru la tb tf ph cs) x := by
  refine Ev.cfill hf (ro_98 sc rest to fl ma tr mk cn nu de ru la tb tf ph cs) (ra_98 sc rest to fl ma tr mk cn nu de ru la tb tf ph cs) (Nat.le_of_ble_eq_true rfl) (Nat.le_of_ble_eq_true rfl) hw ?_
  rw [rs_98]
  exact K
theorem at_102 {k : Int32} (y : Int32) (hf : mmFetch t pc = some (.invokevirtual j, len, 0 :: 82 :: 2 :: 7 :: ax)) (hw : mmWords st ≤ 8) (hv : oat nu 0 10 k = y) (K : Ev mmPT t (pc + 3) lv (.int y :: st) (mh sc rest to fl ma tr mk cn nu de ru la tb tf ph cs) x) : Ev mmPT t pc lv (.int k :: .ref 102 :: st) (mh sc rest to fl ma tr mk cn nu de ru la tb tf ph cs) x := by
  subst hv
  exact Ev.cat hf (ro_102 sc rest to fl ma tr mk cn nu de ru la tb tf ph cs) (ra_102 sc rest to fl ma tr mk cn nu de ru la tb tf ph cs) (Nat.le_of_ble_eq_true rfl) hw K
theorem pt_102 {k y : Int32} (hf : mmFetch t pc = some (.invokevirtual j, len, 0 :: 83 :: 3 :: 7 :: ax)) (hw : mmWords st ≤ 8) (K : Ev mmPT t (pc + 3) lv st (mh sc rest to fl ma tr mk cn (oput nu 0 10 k y) de ru la tb tf ph cs) x) : Ev mmPT t pc lv (.int y :: .int k :: .ref 102 :: st) (mh sc rest to fl ma tr mk cn nu de ru la tb tf ph cs) x := by
  refine Ev.cput hf (ro_102 sc rest to fl ma tr mk cn nu de ru la tb tf ph cs) (ra_102 sc rest to fl ma tr mk cn nu de ru la tb tf ph cs) (Nat.le_of_ble_eq_true rfl) (Nat.le_of_ble_eq_true rfl) hw ?_
  rw [rs_102]
  exact K
theorem fl_102 {y : Int32} (hf : mmFetch t pc = some (.invokevirtual j, len, 0 :: 84 :: 2 :: 7 :: ax)) (hw : mmWords st ≤ 8) (K : Ev mmPT t (pc + 3) lv st (mh sc rest to fl ma tr mk cn (ofil nu 0 y) de ru la tb tf ph cs) x) : Ev mmPT t pc lv (.int y :: .ref 102 :: st) (mh sc rest to fl ma tr mk cn nu de ru la tb tf ph cs) x := by
  refine Ev.cfill hf (ro_102 sc rest to fl ma tr mk cn nu de ru la tb tf ph cs) (ra_102 sc rest to fl ma tr mk cn nu de ru la tb tf ph cs) (Nat.le_of_ble_eq_true rfl) (Nat.le_of_ble_eq_true rfl) hw ?_
  rw [rs_102]
  exact K
theorem at_104 {k : Int32} (y : Int32) (hf : mmFetch t pc = some (.invokevirtual j, len, 0 :: 82 :: 2 :: 7 :: ax)) (hw : mmWords st ≤ 8) (hv : oat nu 1 10 k = y) (K : Ev mmPT t (pc + 3) lv (.int y :: st) (mh sc rest to fl ma tr mk cn nu de ru la tb tf ph cs) x) : Ev mmPT t pc lv (.int k :: .ref 104 :: st) (mh sc rest to fl ma tr mk cn nu de ru la tb tf ph cs) x := by
  subst hv
  exact Ev.cat hf (ro_104 sc rest to fl ma tr mk cn nu de ru la tb tf ph cs) (ra_104 sc rest to fl ma tr mk cn nu de ru la tb tf ph cs) (Nat.le_of_ble_eq_true rfl) hw K
theorem pt_104 {k y : Int32} (hf : mmFetch t pc = some (.invokevirtual j, len, 0 :: 83 :: 3 :: 7 :: ax)) (hw : mmWords st ≤ 8) (K : Ev mmPT t (pc + 3) lv st (mh sc rest to fl ma tr mk cn (oput nu 1 10 k y) de ru la tb tf ph cs) x) : Ev mmPT t pc lv (.int y :: .int k :: .ref 104 :: st) (mh sc rest to fl ma tr mk cn nu de ru la tb tf ph cs) x := by
  refine Ev.cput hf (ro_104 sc rest to fl ma tr mk cn nu de ru la tb tf ph cs) (ra_104 sc rest to fl ma tr mk cn nu de ru la tb tf ph cs) (Nat.le_of_ble_eq_true rfl) (Nat.le_of_ble_eq_true rfl) hw ?_
  rw [rs_104]
  exact K
theorem fl_104 {y : Int32} (hf : mmFetch t pc = some (.invokevirtual j, len, 0 :: 84 :: 2 :: 7 :: ax)) (hw : mmWords st ≤ 8) (K : Ev mmPT t (pc + 3) lv st (mh sc rest to fl ma tr mk cn (ofil nu 1 y) de ru la tb tf ph cs) x) : Ev mmPT t pc lv (.int y :: .ref 104 :: st) (mh sc rest to fl ma tr mk cn nu de ru la tb tf ph cs) x := by
  refine Ev.cfill hf (ro_104 sc rest to fl ma tr mk cn nu de ru la tb tf ph cs) (ra_104 sc rest to fl ma tr mk cn nu de ru la tb tf ph cs) (Nat.le_of_ble_eq_true rfl) (Nat.le_of_ble_eq_true rfl) hw ?_
  rw [rs_104]
  exact K
theorem at_106 {k : Int32} (y : Int32) (hf : mmFetch t pc = some (.invokevirtual j, len, 0 :: 82 :: 2 :: 7 :: ax)) (hw : mmWords st ≤ 8) (hv : oat nu 2 10 k = y) (K : Ev mmPT t (pc + 3) lv (.int y :: st) (mh sc rest to fl ma tr mk cn nu de ru la tb tf ph cs) x) : Ev mmPT t pc lv (.int k :: .ref 106 :: st) (mh sc rest to fl ma tr mk cn nu de ru la tb tf ph cs) x := by
  subst hv
  exact Ev.cat hf (ro_106 sc rest to fl ma tr mk cn nu de ru la tb tf ph cs) (ra_106 sc rest to fl ma tr mk cn nu de ru la tb tf ph cs) (Nat.le_of_ble_eq_true rfl) hw K
theorem pt_106 {k y : Int32} (hf : mmFetch t pc = some (.invokevirtual j, len, 0 :: 83 :: 3 :: 7 :: ax)) (hw : mmWords st ≤ 8) (K : Ev mmPT t (pc + 3) lv st (mh sc rest to fl ma tr mk cn (oput nu 2 10 k y) de ru la tb tf ph cs) x) : Ev mmPT t pc lv (.int y :: .int k :: .ref 106 :: st) (mh sc rest to fl ma tr mk cn nu de ru la tb tf ph cs) x := by
  refine Ev.cput hf (ro_106 sc rest to fl ma tr mk cn nu de ru la tb tf ph cs) (ra_106 sc rest to fl ma tr mk cn nu de ru la tb tf ph cs) (Nat.le_of_ble_eq_true rfl) (Nat.le_of_ble_eq_true rfl) hw ?_
  rw [rs_106]
  exact K
theorem fl_106 {y : Int32} (hf : mmFetch t pc = some (.invokevirtual j, len, 0 :: 84 :: 2 :: 7 :: ax)) (hw : mmWords st ≤ 8) (K : Ev mmPT t (pc + 3) lv st (mh sc rest to fl ma tr mk cn (ofil nu 2 y) de ru la tb tf ph cs) x) : Ev mmPT t pc lv (.int y :: .ref 106 :: st) (mh sc rest to fl ma tr mk cn nu de ru la tb tf ph cs) x := by
  refine Ev.cfill hf (ro_106 sc rest to fl ma tr mk cn nu de ru la tb tf ph cs) (ra_106 sc rest to fl ma tr mk cn nu de ru la tb tf ph cs) (Nat.le_of_ble_eq_true rfl) (Nat.le_of_ble_eq_true rfl) hw ?_
  rw [rs_106]
  exact K
theorem at_108 {k : Int32} (y : Int32) (hf : mmFetch t pc = some (.invokevirtual j, len, 0 :: 82 :: 2 :: 7 :: ax)) (hw : mmWords st ≤ 8) (hv : oat nu 3 10 k = y) (K : Ev mmPT t (pc + 3) lv (.int y :: st) (mh sc rest to fl ma tr mk cn nu de ru la tb tf ph cs) x) : Ev mmPT t pc lv (.int k :: .ref 108 :: st) (mh sc rest to fl ma tr mk cn nu de ru la tb tf ph cs) x := by
  subst hv
  exact Ev.cat hf (ro_108 sc rest to fl ma tr mk cn nu de ru la tb tf ph cs) (ra_108 sc rest to fl ma tr mk cn nu de ru la tb tf ph cs) (Nat.le_of_ble_eq_true rfl) hw K
theorem pt_108 {k y : Int32} (hf : mmFetch t pc = some (.invokevirtual j, len, 0 :: 83 :: 3 :: 7 :: ax)) (hw : mmWords st ≤ 8) (K : Ev mmPT t (pc + 3) lv st (mh sc rest to fl ma tr mk cn (oput nu 3 10 k y) de ru la tb tf ph cs) x) : Ev mmPT t pc lv (.int y :: .int k :: .ref 108 :: st) (mh sc rest to fl ma tr mk cn nu de ru la tb tf ph cs) x := by
  refine Ev.cput hf (ro_108 sc rest to fl ma tr mk cn nu de ru la tb tf ph cs) (ra_108 sc rest to fl ma tr mk cn nu de ru la tb tf ph cs) (Nat.le_of_ble_eq_true rfl) (Nat.le_of_ble_eq_true rfl) hw ?_
  rw [rs_108]
  exact K
theorem fl_108 {y : Int32} (hf : mmFetch t pc = some (.invokevirtual j, len, 0 :: 84 :: 2 :: 7 :: ax)) (hw : mmWords st ≤ 8) (K : Ev mmPT t (pc + 3) lv st (mh sc rest to fl ma tr mk cn (ofil nu 3 y) de ru la tb tf ph cs) x) : Ev mmPT t pc lv (.int y :: .ref 108 :: st) (mh sc rest to fl ma tr mk cn nu de ru la tb tf ph cs) x := by
  refine Ev.cfill hf (ro_108 sc rest to fl ma tr mk cn nu de ru la tb tf ph cs) (ra_108 sc rest to fl ma tr mk cn nu de ru la tb tf ph cs) (Nat.le_of_ble_eq_true rfl) (Nat.le_of_ble_eq_true rfl) hw ?_
  rw [rs_108]
  exact K
theorem at_111 {k : Int32} (y : Int32) (hf : mmFetch t pc = some (.invokevirtual j, len, 0 :: 82 :: 2 :: 7 :: ax)) (hw : mmWords st ≤ 8) (hv : oat de 0 140 k = y) (K : Ev mmPT t (pc + 3) lv (.int y :: st) (mh sc rest to fl ma tr mk cn nu de ru la tb tf ph cs) x) : Ev mmPT t pc lv (.int k :: .ref 111 :: st) (mh sc rest to fl ma tr mk cn nu de ru la tb tf ph cs) x := by
  subst hv
  exact Ev.cat hf (ro_111 sc rest to fl ma tr mk cn nu de ru la tb tf ph cs) (ra_111 sc rest to fl ma tr mk cn nu de ru la tb tf ph cs) (Nat.le_of_ble_eq_true rfl) hw K
theorem pt_111 {k y : Int32} (hf : mmFetch t pc = some (.invokevirtual j, len, 0 :: 83 :: 3 :: 7 :: ax)) (hw : mmWords st ≤ 8) (K : Ev mmPT t (pc + 3) lv st (mh sc rest to fl ma tr mk cn nu (oput de 0 140 k y) ru la tb tf ph cs) x) : Ev mmPT t pc lv (.int y :: .int k :: .ref 111 :: st) (mh sc rest to fl ma tr mk cn nu de ru la tb tf ph cs) x := by
  refine Ev.cput hf (ro_111 sc rest to fl ma tr mk cn nu de ru la tb tf ph cs) (ra_111 sc rest to fl ma tr mk cn nu de ru la tb tf ph cs) (Nat.le_of_ble_eq_true rfl) (Nat.le_of_ble_eq_true rfl) hw ?_
  rw [rs_111]
  exact K
theorem fl_111 {y : Int32} (hf : mmFetch t pc = some (.invokevirtual j, len, 0 :: 84 :: 2 :: 7 :: ax)) (hw : mmWords st ≤ 8) (K : Ev mmPT t (pc + 3) lv st (mh sc rest to fl ma tr mk cn nu (ofil de 0 y) ru la tb tf ph cs) x) : Ev mmPT t pc lv (.int y :: .ref 111 :: st) (mh sc rest to fl ma tr mk cn nu de ru la tb tf ph cs) x := by
  refine Ev.cfill hf (ro_111 sc rest to fl ma tr mk cn nu de ru la tb tf ph cs) (ra_111 sc rest to fl ma tr mk cn nu de ru la tb tf ph cs) (Nat.le_of_ble_eq_true rfl) (Nat.le_of_ble_eq_true rfl) hw ?_
  rw [rs_111]
  exact K
theorem at_115 {k : Int32} (y : Int32) (hf : mmFetch t pc = some (.invokevirtual j, len, 0 :: 82 :: 2 :: 7 :: ax)) (hw : mmWords st ≤ 8) (hv : oat ru 0 6 k = y) (K : Ev mmPT t (pc + 3) lv (.int y :: st) (mh sc rest to fl ma tr mk cn nu de ru la tb tf ph cs) x) : Ev mmPT t pc lv (.int k :: .ref 115 :: st) (mh sc rest to fl ma tr mk cn nu de ru la tb tf ph cs) x := by
  subst hv
  exact Ev.cat hf (ro_115 sc rest to fl ma tr mk cn nu de ru la tb tf ph cs) (ra_115 sc rest to fl ma tr mk cn nu de ru la tb tf ph cs) (Nat.le_of_ble_eq_true rfl) hw K
theorem pt_115 {k y : Int32} (hf : mmFetch t pc = some (.invokevirtual j, len, 0 :: 83 :: 3 :: 7 :: ax)) (hw : mmWords st ≤ 8) (K : Ev mmPT t (pc + 3) lv st (mh sc rest to fl ma tr mk cn nu de (oput ru 0 6 k y) la tb tf ph cs) x) : Ev mmPT t pc lv (.int y :: .int k :: .ref 115 :: st) (mh sc rest to fl ma tr mk cn nu de ru la tb tf ph cs) x := by
  refine Ev.cput hf (ro_115 sc rest to fl ma tr mk cn nu de ru la tb tf ph cs) (ra_115 sc rest to fl ma tr mk cn nu de ru la tb tf ph cs) (Nat.le_of_ble_eq_true rfl) (Nat.le_of_ble_eq_true rfl) hw ?_
  rw [rs_115]
  exact K
theorem fl_115 {y : Int32} (hf : mmFetch t pc = some (.invokevirtual j, len, 0 :: 84 :: 2 :: 7 :: ax)) (hw : mmWords st ≤ 8) (K : Ev mmPT t (pc + 3) lv st (mh sc rest to fl ma tr mk cn nu de (ofil ru 0 y) la tb tf ph cs) x) : Ev mmPT t pc lv (.int y :: .ref 115 :: st) (mh sc rest to fl ma tr mk cn nu de ru la tb tf ph cs) x := by
  refine Ev.cfill hf (ro_115 sc rest to fl ma tr mk cn nu de ru la tb tf ph cs) (ra_115 sc rest to fl ma tr mk cn nu de ru la tb tf ph cs) (Nat.le_of_ble_eq_true rfl) (Nat.le_of_ble_eq_true rfl) hw ?_
  rw [rs_115]
  exact K
theorem at_117 {k : Int32} (y : Int32) (hf : mmFetch t pc = some (.invokevirtual j, len, 0 :: 82 :: 2 :: 7 :: ax)) (hw : mmWords st ≤ 8) (hv : oat ru 1 140 k = y) (K : Ev mmPT t (pc + 3) lv (.int y :: st) (mh sc rest to fl ma tr mk cn nu de ru la tb tf ph cs) x) : Ev mmPT t pc lv (.int k :: .ref 117 :: st) (mh sc rest to fl ma tr mk cn nu de ru la tb tf ph cs) x := by
  subst hv
  exact Ev.cat hf (ro_117 sc rest to fl ma tr mk cn nu de ru la tb tf ph cs) (ra_117 sc rest to fl ma tr mk cn nu de ru la tb tf ph cs) (Nat.le_of_ble_eq_true rfl) hw K
theorem pt_117 {k y : Int32} (hf : mmFetch t pc = some (.invokevirtual j, len, 0 :: 83 :: 3 :: 7 :: ax)) (hw : mmWords st ≤ 8) (K : Ev mmPT t (pc + 3) lv st (mh sc rest to fl ma tr mk cn nu de (oput ru 1 140 k y) la tb tf ph cs) x) : Ev mmPT t pc lv (.int y :: .int k :: .ref 117 :: st) (mh sc rest to fl ma tr mk cn nu de ru la tb tf ph cs) x := by
  refine Ev.cput hf (ro_117 sc rest to fl ma tr mk cn nu de ru la tb tf ph cs) (ra_117 sc rest to fl ma tr mk cn nu de ru la tb tf ph cs) (Nat.le_of_ble_eq_true rfl) (Nat.le_of_ble_eq_true rfl) hw ?_
  rw [rs_117]
  exact K
theorem fl_117 {y : Int32} (hf : mmFetch t pc = some (.invokevirtual j, len, 0 :: 84 :: 2 :: 7 :: ax)) (hw : mmWords st ≤ 8) (K : Ev mmPT t (pc + 3) lv st (mh sc rest to fl ma tr mk cn nu de (ofil ru 1 y) la tb tf ph cs) x) : Ev mmPT t pc lv (.int y :: .ref 117 :: st) (mh sc rest to fl ma tr mk cn nu de ru la tb tf ph cs) x := by
  refine Ev.cfill hf (ro_117 sc rest to fl ma tr mk cn nu de ru la tb tf ph cs) (ra_117 sc rest to fl ma tr mk cn nu de ru la tb tf ph cs) (Nat.le_of_ble_eq_true rfl) (Nat.le_of_ble_eq_true rfl) hw ?_
  rw [rs_117]
  exact K
theorem at_119 {k : Int32} (y : Int32) (hf : mmFetch t pc = some (.invokevirtual j, len, 0 :: 82 :: 2 :: 7 :: ax)) (hw : mmWords st ≤ 8) (hv : oat ru 2 140 k = y) (K : Ev mmPT t (pc + 3) lv (.int y :: st) (mh sc rest to fl ma tr mk cn nu de ru la tb tf ph cs) x) : Ev mmPT t pc lv (.int k :: .ref 119 :: st) (mh sc rest to fl ma tr mk cn nu de ru la tb tf ph cs) x := by
  subst hv
  exact Ev.cat hf (ro_119 sc rest to fl ma tr mk cn nu de ru la tb tf ph cs) (ra_119 sc rest to fl ma tr mk cn nu de ru la tb tf ph cs) (Nat.le_of_ble_eq_true rfl) hw K
theorem pt_119 {k y : Int32} (hf : mmFetch t pc = some (.invokevirtual j, len, 0 :: 83 :: 3 :: 7 :: ax)) (hw : mmWords st ≤ 8) (K : Ev mmPT t (pc + 3) lv st (mh sc rest to fl ma tr mk cn nu de (oput ru 2 140 k y) la tb tf ph cs) x) : Ev mmPT t pc lv (.int y :: .int k :: .ref 119 :: st) (mh sc rest to fl ma tr mk cn nu de ru la tb tf ph cs) x := by
  refine Ev.cput hf (ro_119 sc rest to fl ma tr mk cn nu de ru la tb tf ph cs) (ra_119 sc rest to fl ma tr mk cn nu de ru la tb tf ph cs) (Nat.le_of_ble_eq_true rfl) (Nat.le_of_ble_eq_true rfl) hw ?_
  rw [rs_119]
  exact K
theorem fl_119 {y : Int32} (hf : mmFetch t pc = some (.invokevirtual j, len, 0 :: 84 :: 2 :: 7 :: ax)) (hw : mmWords st ≤ 8) (K : Ev mmPT t (pc + 3) lv st (mh sc rest to fl ma tr mk cn nu de (ofil ru 2 y) la tb tf ph cs) x) : Ev mmPT t pc lv (.int y :: .ref 119 :: st) (mh sc rest to fl ma tr mk cn nu de ru la tb tf ph cs) x := by
  refine Ev.cfill hf (ro_119 sc rest to fl ma tr mk cn nu de ru la tb tf ph cs) (ra_119 sc rest to fl ma tr mk cn nu de ru la tb tf ph cs) (Nat.le_of_ble_eq_true rfl) (Nat.le_of_ble_eq_true rfl) hw ?_
  rw [rs_119]
  exact K
theorem at_122 {k : Int32} (y : Int32) (hf : mmFetch t pc = some (.invokevirtual j, len, 0 :: 82 :: 2 :: 7 :: ax)) (hw : mmWords st ≤ 8) (hv : oat la 0 8 k = y) (K : Ev mmPT t (pc + 3) lv (.int y :: st) (mh sc rest to fl ma tr mk cn nu de ru la tb tf ph cs) x) : Ev mmPT t pc lv (.int k :: .ref 122 :: st) (mh sc rest to fl ma tr mk cn nu de ru la tb tf ph cs) x := by
  subst hv
  exact Ev.cat hf (ro_122 sc rest to fl ma tr mk cn nu de ru la tb tf ph cs) (ra_122 sc rest to fl ma tr mk cn nu de ru la tb tf ph cs) (Nat.le_of_ble_eq_true rfl) hw K
theorem pt_122 {k y : Int32} (hf : mmFetch t pc = some (.invokevirtual j, len, 0 :: 83 :: 3 :: 7 :: ax)) (hw : mmWords st ≤ 8) (K : Ev mmPT t (pc + 3) lv st (mh sc rest to fl ma tr mk cn nu de ru (oput la 0 8 k y) tb tf ph cs) x) : Ev mmPT t pc lv (.int y :: .int k :: .ref 122 :: st) (mh sc rest to fl ma tr mk cn nu de ru la tb tf ph cs) x := by
  refine Ev.cput hf (ro_122 sc rest to fl ma tr mk cn nu de ru la tb tf ph cs) (ra_122 sc rest to fl ma tr mk cn nu de ru la tb tf ph cs) (Nat.le_of_ble_eq_true rfl) (Nat.le_of_ble_eq_true rfl) hw ?_
  rw [rs_122]
  exact K
theorem fl_122 {y : Int32} (hf : mmFetch t pc = some (.invokevirtual j, len, 0 :: 84 :: 2 :: 7 :: ax)) (hw : mmWords st ≤ 8) (K : Ev mmPT t (pc + 3) lv st (mh sc rest to fl ma tr mk cn nu de ru (ofil la 0 y) tb tf ph cs) x) : Ev mmPT t pc lv (.int y :: .ref 122 :: st) (mh sc rest to fl ma tr mk cn nu de ru la tb tf ph cs) x := by
  refine Ev.cfill hf (ro_122 sc rest to fl ma tr mk cn nu de ru la tb tf ph cs) (ra_122 sc rest to fl ma tr mk cn nu de ru la tb tf ph cs) (Nat.le_of_ble_eq_true rfl) (Nat.le_of_ble_eq_true rfl) hw ?_
  rw [rs_122]
  exact K
theorem at_124 {k : Int32} (y : Int32) (hf : mmFetch t pc = some (.invokevirtual j, len, 0 :: 82 :: 2 :: 7 :: ax)) (hw : mmWords st ≤ 8) (hv : oat la 1 60 k = y) (K : Ev mmPT t (pc + 3) lv (.int y :: st) (mh sc rest to fl ma tr mk cn nu de ru la tb tf ph cs) x) : Ev mmPT t pc lv (.int k :: .ref 124 :: st) (mh sc rest to fl ma tr mk cn nu de ru la tb tf ph cs) x := by
  subst hv
  exact Ev.cat hf (ro_124 sc rest to fl ma tr mk cn nu de ru la tb tf ph cs) (ra_124 sc rest to fl ma tr mk cn nu de ru la tb tf ph cs) (Nat.le_of_ble_eq_true rfl) hw K
theorem pt_124 {k y : Int32} (hf : mmFetch t pc = some (.invokevirtual j, len, 0 :: 83 :: 3 :: 7 :: ax)) (hw : mmWords st ≤ 8) (K : Ev mmPT t (pc + 3) lv st (mh sc rest to fl ma tr mk cn nu de ru (oput la 1 60 k y) tb tf ph cs) x) : Ev mmPT t pc lv (.int y :: .int k :: .ref 124 :: st) (mh sc rest to fl ma tr mk cn nu de ru la tb tf ph cs) x := by
  refine Ev.cput hf (ro_124 sc rest to fl ma tr mk cn nu de ru la tb tf ph cs) (ra_124 sc rest to fl ma tr mk cn nu de ru la tb tf ph cs) (Nat.le_of_ble_eq_true rfl) (Nat.le_of_ble_eq_true rfl) hw ?_
  rw [rs_124]
  exact K
theorem fl_124 {y : Int32} (hf : mmFetch t pc = some (.invokevirtual j, len, 0 :: 84 :: 2 :: 7 :: ax)) (hw : mmWords st ≤ 8) (K : Ev mmPT t (pc + 3) lv st (mh sc rest to fl ma tr mk cn nu de ru (ofil la 1 y) tb tf ph cs) x) : Ev mmPT t pc lv (.int y :: .ref 124 :: st) (mh sc rest to fl ma tr mk cn nu de ru la tb tf ph cs) x := by
  refine Ev.cfill hf (ro_124 sc rest to fl ma tr mk cn nu de ru la tb tf ph cs) (ra_124 sc rest to fl ma tr mk cn nu de ru la tb tf ph cs) (Nat.le_of_ble_eq_true rfl) (Nat.le_of_ble_eq_true rfl) hw ?_
  rw [rs_124]
  exact K
theorem at_127 {k : Int32} (y : Int32) (hf : mmFetch t pc = some (.invokevirtual j, len, 0 :: 82 :: 2 :: 7 :: ax)) (hw : mmWords st ≤ 8) (hv : oat tb 0 8 k = y) (K : Ev mmPT t (pc + 3) lv (.int y :: st) (mh sc rest to fl ma tr mk cn nu de ru la tb tf ph cs) x) : Ev mmPT t pc lv (.int k :: .ref 127 :: st) (mh sc rest to fl ma tr mk cn nu de ru la tb tf ph cs) x := by
  subst hv
  exact Ev.cat hf (ro_127 sc rest to fl ma tr mk cn nu de ru la tb tf ph cs) (ra_127 sc rest to fl ma tr mk cn nu de ru la tb tf ph cs) (Nat.le_of_ble_eq_true rfl) hw K
theorem pt_127 {k y : Int32} (hf : mmFetch t pc = some (.invokevirtual j, len, 0 :: 83 :: 3 :: 7 :: ax)) (hw : mmWords st ≤ 8) (K : Ev mmPT t (pc + 3) lv st (mh sc rest to fl ma tr mk cn nu de ru la (oput tb 0 8 k y) tf ph cs) x) : Ev mmPT t pc lv (.int y :: .int k :: .ref 127 :: st) (mh sc rest to fl ma tr mk cn nu de ru la tb tf ph cs) x := by
  refine Ev.cput hf (ro_127 sc rest to fl ma tr mk cn nu de ru la tb tf ph cs) (ra_127 sc rest to fl ma tr mk cn nu de ru la tb tf ph cs) (Nat.le_of_ble_eq_true rfl) (Nat.le_of_ble_eq_true rfl) hw ?_
  rw [rs_127]
  exact K
theorem fl_127 {y : Int32} (hf : mmFetch t pc = some (.invokevirtual j, len, 0 :: 84 :: 2 :: 7 :: ax)) (hw : mmWords st ≤ 8) (K : Ev mmPT t (pc + 3) lv st (mh sc rest to fl ma tr mk cn nu de ru la (ofil tb 0 y) tf ph cs) x) : Ev mmPT t pc lv (.int y :: .ref 127 :: st) (mh sc rest to fl ma tr mk cn nu de ru la tb tf ph cs) x := by
  refine Ev.cfill hf (ro_127 sc rest to fl ma tr mk cn nu de ru la tb tf ph cs) (ra_127 sc rest to fl ma tr mk cn nu de ru la tb tf ph cs) (Nat.le_of_ble_eq_true rfl) (Nat.le_of_ble_eq_true rfl) hw ?_
  rw [rs_127]
  exact K
theorem at_129 {k : Int32} (y : Int32) (hf : mmFetch t pc = some (.invokevirtual j, len, 0 :: 82 :: 2 :: 7 :: ax)) (hw : mmWords st ≤ 8) (hv : oat tb 1 2408 k = y) (K : Ev mmPT t (pc + 3) lv (.int y :: st) (mh sc rest to fl ma tr mk cn nu de ru la tb tf ph cs) x) : Ev mmPT t pc lv (.int k :: .ref 129 :: st) (mh sc rest to fl ma tr mk cn nu de ru la tb tf ph cs) x := by
  subst hv
  exact Ev.cat hf (ro_129 sc rest to fl ma tr mk cn nu de ru la tb tf ph cs) (ra_129 sc rest to fl ma tr mk cn nu de ru la tb tf ph cs) (Nat.le_of_ble_eq_true rfl) hw K
theorem pt_129 {k y : Int32} (hf : mmFetch t pc = some (.invokevirtual j, len, 0 :: 83 :: 3 :: 7 :: ax)) (hw : mmWords st ≤ 8) (K : Ev mmPT t (pc + 3) lv st (mh sc rest to fl ma tr mk cn nu de ru la (oput tb 1 2408 k y) tf ph cs) x) : Ev mmPT t pc lv (.int y :: .int k :: .ref 129 :: st) (mh sc rest to fl ma tr mk cn nu de ru la tb tf ph cs) x := by
  refine Ev.cput hf (ro_129 sc rest to fl ma tr mk cn nu de ru la tb tf ph cs) (ra_129 sc rest to fl ma tr mk cn nu de ru la tb tf ph cs) (Nat.le_of_ble_eq_true rfl) (Nat.le_of_ble_eq_true rfl) hw ?_
  rw [rs_129]
  exact K
theorem fl_129 {y : Int32} (hf : mmFetch t pc = some (.invokevirtual j, len, 0 :: 84 :: 2 :: 7 :: ax)) (hw : mmWords st ≤ 8) (K : Ev mmPT t (pc + 3) lv st (mh sc rest to fl ma tr mk cn nu de ru la (ofil tb 1 y) tf ph cs) x) : Ev mmPT t pc lv (.int y :: .ref 129 :: st) (mh sc rest to fl ma tr mk cn nu de ru la tb tf ph cs) x := by
  refine Ev.cfill hf (ro_129 sc rest to fl ma tr mk cn nu de ru la tb tf ph cs) (ra_129 sc rest to fl ma tr mk cn nu de ru la tb tf ph cs) (Nat.le_of_ble_eq_true rfl) (Nat.le_of_ble_eq_true rfl) hw ?_
  rw [rs_129]
  exact K
theorem at_132 {k : Int32} (y : Int32) (hf : mmFetch t pc = some (.invokevirtual j, len, 0 :: 82 :: 2 :: 7 :: ax)) (hw : mmWords st ≤ 8) (hv : oat tf 0 8 k = y) (K : Ev mmPT t (pc + 3) lv (.int y :: st) (mh sc rest to fl ma tr mk cn nu de ru la tb tf ph cs) x) : Ev mmPT t pc lv (.int k :: .ref 132 :: st) (mh sc rest to fl ma tr mk cn nu de ru la tb tf ph cs) x := by
  subst hv
  exact Ev.cat hf (ro_132 sc rest to fl ma tr mk cn nu de ru la tb tf ph cs) (ra_132 sc rest to fl ma tr mk cn nu de ru la tb tf ph cs) (Nat.le_of_ble_eq_true rfl) hw K
theorem pt_132 {k y : Int32} (hf : mmFetch t pc = some (.invokevirtual j, len, 0 :: 83 :: 3 :: 7 :: ax)) (hw : mmWords st ≤ 8) (K : Ev mmPT t (pc + 3) lv st (mh sc rest to fl ma tr mk cn nu de ru la tb (oput tf 0 8 k y) ph cs) x) : Ev mmPT t pc lv (.int y :: .int k :: .ref 132 :: st) (mh sc rest to fl ma tr mk cn nu de ru la tb tf ph cs) x := by
  refine Ev.cput hf (ro_132 sc rest to fl ma tr mk cn nu de ru la tb tf ph cs) (ra_132 sc rest to fl ma tr mk cn nu de ru la tb tf ph cs) (Nat.le_of_ble_eq_true rfl) (Nat.le_of_ble_eq_true rfl) hw ?_
  rw [rs_132]
  exact K
theorem fl_132 {y : Int32} (hf : mmFetch t pc = some (.invokevirtual j, len, 0 :: 84 :: 2 :: 7 :: ax)) (hw : mmWords st ≤ 8) (K : Ev mmPT t (pc + 3) lv st (mh sc rest to fl ma tr mk cn nu de ru la tb (ofil tf 0 y) ph cs) x) : Ev mmPT t pc lv (.int y :: .ref 132 :: st) (mh sc rest to fl ma tr mk cn nu de ru la tb tf ph cs) x := by
  refine Ev.cfill hf (ro_132 sc rest to fl ma tr mk cn nu de ru la tb tf ph cs) (ra_132 sc rest to fl ma tr mk cn nu de ru la tb tf ph cs) (Nat.le_of_ble_eq_true rfl) (Nat.le_of_ble_eq_true rfl) hw ?_
  rw [rs_132]
  exact K
theorem at_134 {k : Int32} (y : Int32) (hf : mmFetch t pc = some (.invokevirtual j, len, 0 :: 82 :: 2 :: 7 :: ax)) (hw : mmWords st ≤ 8) (hv : oat tf 1 2408 k = y) (K : Ev mmPT t (pc + 3) lv (.int y :: st) (mh sc rest to fl ma tr mk cn nu de ru la tb tf ph cs) x) : Ev mmPT t pc lv (.int k :: .ref 134 :: st) (mh sc rest to fl ma tr mk cn nu de ru la tb tf ph cs) x := by
  subst hv
  exact Ev.cat hf (ro_134 sc rest to fl ma tr mk cn nu de ru la tb tf ph cs) (ra_134 sc rest to fl ma tr mk cn nu de ru la tb tf ph cs) (Nat.le_of_ble_eq_true rfl) hw K
theorem pt_134 {k y : Int32} (hf : mmFetch t pc = some (.invokevirtual j, len, 0 :: 83 :: 3 :: 7 :: ax)) (hw : mmWords st ≤ 8) (K : Ev mmPT t (pc + 3) lv st (mh sc rest to fl ma tr mk cn nu de ru la tb (oput tf 1 2408 k y) ph cs) x) : Ev mmPT t pc lv (.int y :: .int k :: .ref 134 :: st) (mh sc rest to fl ma tr mk cn nu de ru la tb tf ph cs) x := by
  refine Ev.cput hf (ro_134 sc rest to fl ma tr mk cn nu de ru la tb tf ph cs) (ra_134 sc rest to fl ma tr mk cn nu de ru la tb tf ph cs) (Nat.le_of_ble_eq_true rfl) (Nat.le_of_ble_eq_true rfl) hw ?_
  rw [rs_134]
  exact K
theorem fl_134 {y : Int32} (hf : mmFetch t pc = some (.invokevirtual j, len, 0 :: 84 :: 2 :: 7 :: ax)) (hw : mmWords st ≤ 8) (K : Ev mmPT t (pc + 3) lv st (mh sc rest to fl ma tr mk cn nu de ru la tb (ofil tf 1 y) ph cs) x) : Ev mmPT t pc lv (.int y :: .ref 134 :: st) (mh sc rest to fl ma tr mk cn nu de ru la tb tf ph cs) x := by
  refine Ev.cfill hf (ro_134 sc rest to fl ma tr mk cn nu de ru la tb tf ph cs) (ra_134 sc rest to fl ma tr mk cn nu de ru la tb tf ph cs) (Nat.le_of_ble_eq_true rfl) (Nat.le_of_ble_eq_true rfl) hw ?_
  rw [rs_134]
  exact K
theorem tk_23_19 (hf : mmFetch t pc = some (.invokevirtual j, len, 0 :: 85 :: 2 :: 7 :: ax)) (hw : mmWords st ≤ 8) (K : Ev mmPT t (pc + 3) lv st (mh sc rest (oR to 10 (to.1 8)) fl ma tr mk cn nu de ru la tb tf ph cs) x) : Ev mmPT t pc lv (.ref 19 :: .ref 23 :: st) (mh sc rest to fl ma tr mk cn nu de ru la tb tf ph cs) x := by
  refine Ev.ctake hf (ro_23 sc rest to fl ma tr mk cn nu de ru la tb tf ph cs) (ra_23 sc rest to fl ma tr mk cn nu de ru la tb tf ph cs) (ro_19 sc rest to fl ma tr mk cn nu de ru la tb tf ph cs) (ra_19 sc rest to fl ma tr mk cn nu de ru la tb tf ph cs) (Nat.le_of_ble_eq_true rfl) (Nat.le_of_ble_eq_true rfl) hw ?_
  rw [rs_23]
  exact K
theorem tk_62_35 (hf : mmFetch t pc = some (.invokevirtual j, len, 0 :: 85 :: 2 :: 7 :: ax)) (hw : mmWords st ≤ 8) (K : Ev mmPT t (pc + 3) lv st (mh sc rest to fl ma (oR tr 0 (ma.1 0)) mk cn nu de ru la tb tf ph cs) x) : Ev mmPT t pc lv (.ref 35 :: .ref 62 :: st) (mh sc rest to fl ma tr mk cn nu de ru la tb tf ph cs) x := by
  refine Ev.ctake hf (ro_62 sc rest to fl ma tr mk cn nu de ru la tb tf ph cs) (ra_62 sc rest to fl ma tr mk cn nu de ru la tb tf ph cs) (ro_35 sc rest to fl ma tr mk cn nu de ru la tb tf ph cs) (ra_35 sc rest to fl ma tr mk cn nu de ru la tb tf ph cs) (Nat.le_of_ble_eq_true rfl) (Nat.le_of_ble_eq_true rfl) hw ?_
  rw [rs_62]
  exact K
theorem tk_64_37 (hf : mmFetch t pc = some (.invokevirtual j, len, 0 :: 85 :: 2 :: 7 :: ax)) (hw : mmWords st ≤ 8) (K : Ev mmPT t (pc + 3) lv st (mh sc rest to fl ma (oR tr 1 (ma.1 1)) mk cn nu de ru la tb tf ph cs) x) : Ev mmPT t pc lv (.ref 37 :: .ref 64 :: st) (mh sc rest to fl ma tr mk cn nu de ru la tb tf ph cs) x := by
  refine Ev.ctake hf (ro_64 sc rest to fl ma tr mk cn nu de ru la tb tf ph cs) (ra_64 sc rest to fl ma tr mk cn nu de ru la tb tf ph cs) (ro_37 sc rest to fl ma tr mk cn nu de ru la tb tf ph cs) (ra_37 sc rest to fl ma tr mk cn nu de ru la tb tf ph cs) (Nat.le_of_ble_eq_true rfl) (Nat.le_of_ble_eq_true rfl) hw ?_
  rw [rs_64]
  exact K
theorem tk_66_39 (hf : mmFetch t pc = some (.invokevirtual j, len, 0 :: 85 :: 2 :: 7 :: ax)) (hw : mmWords st ≤ 8) (K : Ev mmPT t (pc + 3) lv st (mh sc rest to fl ma (oR tr 2 (ma.1 2)) mk cn nu de ru la tb tf ph cs) x) : Ev mmPT t pc lv (.ref 39 :: .ref 66 :: st) (mh sc rest to fl ma tr mk cn nu de ru la tb tf ph cs) x := by
  refine Ev.ctake hf (ro_66 sc rest to fl ma tr mk cn nu de ru la tb tf ph cs) (ra_66 sc rest to fl ma tr mk cn nu de ru la tb tf ph cs) (ro_39 sc rest to fl ma tr mk cn nu de ru la tb tf ph cs) (ra_39 sc rest to fl ma tr mk cn nu de ru la tb tf ph cs) (Nat.le_of_ble_eq_true rfl) (Nat.le_of_ble_eq_true rfl) hw ?_
  rw [rs_66]
  exact K
theorem tk_68_41 (hf : mmFetch t pc = some (.invokevirtual j, len, 0 :: 85 :: 2 :: 7 :: ax)) (hw : mmWords st ≤ 8) (K : Ev mmPT t (pc + 3) lv st (mh sc rest to fl ma (oR tr 3 (ma.1 3)) mk cn nu de ru la tb tf ph cs) x) : Ev mmPT t pc lv (.ref 41 :: .ref 68 :: st) (mh sc rest to fl ma tr mk cn nu de ru la tb tf ph cs) x := by
  refine Ev.ctake hf (ro_68 sc rest to fl ma tr mk cn nu de ru la tb tf ph cs) (ra_68 sc rest to fl ma tr mk cn nu de ru la tb tf ph cs) (ro_41 sc rest to fl ma tr mk cn nu de ru la tb tf ph cs) (ra_41 sc rest to fl ma tr mk cn nu de ru la tb tf ph cs) (Nat.le_of_ble_eq_true rfl) (Nat.le_of_ble_eq_true rfl) hw ?_
  rw [rs_68]
  exact K
theorem tk_70_43 (hf : mmFetch t pc = some (.invokevirtual j, len, 0 :: 85 :: 2 :: 7 :: ax)) (hw : mmWords st ≤ 8) (K : Ev mmPT t (pc + 3) lv st (mh sc rest to fl ma (oR tr 4 (ma.1 4)) mk cn nu de ru la tb tf ph cs) x) : Ev mmPT t pc lv (.ref 43 :: .ref 70 :: st) (mh sc rest to fl ma tr mk cn nu de ru la tb tf ph cs) x := by
  refine Ev.ctake hf (ro_70 sc rest to fl ma tr mk cn nu de ru la tb tf ph cs) (ra_70 sc rest to fl ma tr mk cn nu de ru la tb tf ph cs) (ro_43 sc rest to fl ma tr mk cn nu de ru la tb tf ph cs) (ra_43 sc rest to fl ma tr mk cn nu de ru la tb tf ph cs) (Nat.le_of_ble_eq_true rfl) (Nat.le_of_ble_eq_true rfl) hw ?_
  rw [rs_70]
  exact K
theorem tk_72_45 (hf : mmFetch t pc = some (.invokevirtual j, len, 0 :: 85 :: 2 :: 7 :: ax)) (hw : mmWords st ≤ 8) (K : Ev mmPT t (pc + 3) lv st (mh sc rest to fl ma (oR tr 5 (ma.1 5)) mk cn nu de ru la tb tf ph cs) x) : Ev mmPT t pc lv (.ref 45 :: .ref 72 :: st) (mh sc rest to fl ma tr mk cn nu de ru la tb tf ph cs) x := by
  refine Ev.ctake hf (ro_72 sc rest to fl ma tr mk cn nu de ru la tb tf ph cs) (ra_72 sc rest to fl ma tr mk cn nu de ru la tb tf ph cs) (ro_45 sc rest to fl ma tr mk cn nu de ru la tb tf ph cs) (ra_45 sc rest to fl ma tr mk cn nu de ru la tb tf ph cs) (Nat.le_of_ble_eq_true rfl) (Nat.le_of_ble_eq_true rfl) hw ?_
  rw [rs_72]
  exact K
theorem tk_74_47 (hf : mmFetch t pc = some (.invokevirtual j, len, 0 :: 85 :: 2 :: 7 :: ax)) (hw : mmWords st ≤ 8) (K : Ev mmPT t (pc + 3) lv st (mh sc rest to fl ma (oR tr 6 (ma.1 6)) mk cn nu de ru la tb tf ph cs) x) : Ev mmPT t pc lv (.ref 47 :: .ref 74 :: st) (mh sc rest to fl ma tr mk cn nu de ru la tb tf ph cs) x := by
  refine Ev.ctake hf (ro_74 sc rest to fl ma tr mk cn nu de ru la tb tf ph cs) (ra_74 sc rest to fl ma tr mk cn nu de ru la tb tf ph cs) (ro_47 sc rest to fl ma tr mk cn nu de ru la tb tf ph cs) (ra_47 sc rest to fl ma tr mk cn nu de ru la tb tf ph cs) (Nat.le_of_ble_eq_true rfl) (Nat.le_of_ble_eq_true rfl) hw ?_
  rw [rs_74]
  exact K
theorem tk_76_49 (hf : mmFetch t pc = some (.invokevirtual j, len, 0 :: 85 :: 2 :: 7 :: ax)) (hw : mmWords st ≤ 8) (K : Ev mmPT t (pc + 3) lv st (mh sc rest to fl ma (oR tr 7 (ma.1 7)) mk cn nu de ru la tb tf ph cs) x) : Ev mmPT t pc lv (.ref 49 :: .ref 76 :: st) (mh sc rest to fl ma tr mk cn nu de ru la tb tf ph cs) x := by
  refine Ev.ctake hf (ro_76 sc rest to fl ma tr mk cn nu de ru la tb tf ph cs) (ra_76 sc rest to fl ma tr mk cn nu de ru la tb tf ph cs) (ro_49 sc rest to fl ma tr mk cn nu de ru la tb tf ph cs) (ra_49 sc rest to fl ma tr mk cn nu de ru la tb tf ph cs) (Nat.le_of_ble_eq_true rfl) (Nat.le_of_ble_eq_true rfl) hw ?_
  rw [rs_76]
  exact K
theorem tk_78_51 (hf : mmFetch t pc = some (.invokevirtual j, len, 0 :: 85 :: 2 :: 7 :: ax)) (hw : mmWords st ≤ 8) (K : Ev mmPT t (pc + 3) lv st (mh sc rest to fl ma (oR tr 8 (ma.1 8)) mk cn nu de ru la tb tf ph cs) x) : Ev mmPT t pc lv (.ref 51 :: .ref 78 :: st) (mh sc rest to fl ma tr mk cn nu de ru la tb tf ph cs) x := by
  refine Ev.ctake hf (ro_78 sc rest to fl ma tr mk cn nu de ru la tb tf ph cs) (ra_78 sc rest to fl ma tr mk cn nu de ru la tb tf ph cs) (ro_51 sc rest to fl ma tr mk cn nu de ru la tb tf ph cs) (ra_51 sc rest to fl ma tr mk cn nu de ru la tb tf ph cs) (Nat.le_of_ble_eq_true rfl) (Nat.le_of_ble_eq_true rfl) hw ?_
  rw [rs_78]
  exact K
theorem tk_80_53 (hf : mmFetch t pc = some (.invokevirtual j, len, 0 :: 85 :: 2 :: 7 :: ax)) (hw : mmWords st ≤ 8) (K : Ev mmPT t (pc + 3) lv st (mh sc rest to fl ma (oR tr 9 (ma.1 9)) mk cn nu de ru la tb tf ph cs) x) : Ev mmPT t pc lv (.ref 53 :: .ref 80 :: st) (mh sc rest to fl ma tr mk cn nu de ru la tb tf ph cs) x := by
  refine Ev.ctake hf (ro_80 sc rest to fl ma tr mk cn nu de ru la tb tf ph cs) (ra_80 sc rest to fl ma tr mk cn nu de ru la tb tf ph cs) (ro_53 sc rest to fl ma tr mk cn nu de ru la tb tf ph cs) (ra_53 sc rest to fl ma tr mk cn nu de ru la tb tf ph cs) (Nat.le_of_ble_eq_true rfl) (Nat.le_of_ble_eq_true rfl) hw ?_
  rw [rs_80]
  exact K
theorem tk_82_55 (hf : mmFetch t pc = some (.invokevirtual j, len, 0 :: 85 :: 2 :: 7 :: ax)) (hw : mmWords st ≤ 8) (K : Ev mmPT t (pc + 3) lv st (mh sc rest to fl ma (oR tr 10 (ma.1 10)) mk cn nu de ru la tb tf ph cs) x) : Ev mmPT t pc lv (.ref 55 :: .ref 82 :: st) (mh sc rest to fl ma tr mk cn nu de ru la tb tf ph cs) x := by
  refine Ev.ctake hf (ro_82 sc rest to fl ma tr mk cn nu de ru la tb tf ph cs) (ra_82 sc rest to fl ma tr mk cn nu de ru la tb tf ph cs) (ro_55 sc rest to fl ma tr mk cn nu de ru la tb tf ph cs) (ra_55 sc rest to fl ma tr mk cn nu de ru la tb tf ph cs) (Nat.le_of_ble_eq_true rfl) (Nat.le_of_ble_eq_true rfl) hw ?_
  rw [rs_82]
  exact K
theorem tk_84_57 (hf : mmFetch t pc = some (.invokevirtual j, len, 0 :: 85 :: 2 :: 7 :: ax)) (hw : mmWords st ≤ 8) (K : Ev mmPT t (pc + 3) lv st (mh sc rest to fl ma (oR tr 11 (ma.1 11)) mk cn nu de ru la tb tf ph cs) x) : Ev mmPT t pc lv (.ref 57 :: .ref 84 :: st) (mh sc rest to fl ma tr mk cn nu de ru la tb tf ph cs) x := by
  refine Ev.ctake hf (ro_84 sc rest to fl ma tr mk cn nu de ru la tb tf ph cs) (ra_84 sc rest to fl ma tr mk cn nu de ru la tb tf ph cs) (ro_57 sc rest to fl ma tr mk cn nu de ru la tb tf ph cs) (ra_57 sc rest to fl ma tr mk cn nu de ru la tb tf ph cs) (Nat.le_of_ble_eq_true rfl) (Nat.le_of_ble_eq_true rfl) hw ?_
  rw [rs_84]
  exact K
theorem tk_86_59 (hf : mmFetch t pc = some (.invokevirtual j, len, 0 :: 85 :: 2 :: 7 :: ax)) (hw : mmWords st ≤ 8) (K : Ev mmPT t (pc + 3) lv st (mh sc rest to fl ma (oR tr 12 (ma.1 12)) mk cn nu de ru la tb tf ph cs) x) : Ev mmPT t pc lv (.ref 59 :: .ref 86 :: st) (mh sc rest to fl ma tr mk cn nu de ru la tb tf ph cs) x := by
  refine Ev.ctake hf (ro_86 sc rest to fl ma tr mk cn nu de ru la tb tf ph cs) (ra_86 sc rest to fl ma tr mk cn nu de ru la tb tf ph cs) (ro_59 sc rest to fl ma tr mk cn nu de ru la tb tf ph cs) (ra_59 sc rest to fl ma tr mk cn nu de ru la tb tf ph cs) (Nat.le_of_ble_eq_true rfl) (Nat.le_of_ble_eq_true rfl) hw ?_
  rw [rs_86]
  exact K
end RUL
