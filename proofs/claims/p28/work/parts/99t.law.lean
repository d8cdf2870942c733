/-! THE LAW, from pc 42 on: the script's cells; calls; the functions, by program -/
def Law_cellv (sc : mmC) (k : Int32) : Option Int32 := if sc.1 = 1999 ∧ sc.2.length < 2 ^ 31 ∧ ¬ k < 0 then (if k < nI sc.2.length then (match sc.2[k.toNatClampNeg]? with
    | some (.int x) => some x
    | _ => none) else some ((790386105 : Int32) * (k + 3))) else none
theorem Ev_cellv {sc : mmC} {h : List mmC} (ho : h[0]? = some sc) {k r : Int32} (e : Law_cellv sc k = some r) : Ev mmPT tbL_cell 0 [some (.ref 0), some (.int k)] [] h (some (.int r), h) := by
  unfold Law_cellv at e
  split at e
  · rename_i hc
    obtain ⟨h1, h2, h3⟩ := hc
    refine Ev.s (ins := .iload_n 1) (pc' := 1) rfl rfl ?_
    refine Ev.s (ins := .aload_n 0) (pc' := 2) rfl rfl ?_
    refine Ev.s (ins := .arraylength) (pc' := 3) rfl (mmS_alen ho (Or.inr h1)) ?_
    split at e
    · rename_i hlt
      refine Ev.if2 rfl rfl (fun z => absurd hlt (Int32.not_lt.mpr (by simpa [mmIc] using z))) (fun _ => ?_)
      refine Ev.s (ins := .aload_n 0) (pc' := 7) rfl rfl ?_
      refine Ev.s (ins := .iload_n 1) (pc' := 8) rfl rfl ?_
      split at e
      · rename_i x hx
        cases e
        refine Ev.s (ins := .iaload) (pc' := 9) rfl (mmS_iald ho ⟨Or.inr h1, h3⟩ hx) ?_
        refine Ev.goto rfl ?_
        exact Ev.iret rfl rfl rfl
      · cases e
    · rename_i hlt
      cases e
      refine Ev.if2 rfl rfl (fun _ => ?_) (fun z => absurd (Int32.not_lt.mp hlt) (by simpa [mmIc] using z))
      refine q_ld 790386105 rfl rfl ?_
      refine Ev.s (ins := .iload_n 1) (pc' := 15) rfl rfl ?_
      refine q_ic 3 rfl rfl ?_
      refine Ev.s (ins := .iadd) (pc' := 17) rfl rfl ?_
      refine Ev.s (ins := .imul) (pc' := 18) rfl rfl ?_
      exact Ev.iret rfl rfl rfl
  · cases e
theorem e_Law_cellv {sc : mmC} {rest : List mmC} {to fl ma tr mk cn nu de ru la tb tf ph : Ob} {cs : Int64} {k r : Int32} (e : Law_cellv sc k = some r) : Ev mmPT tbL_cell 0 [some (.ref 0), some (.int k)] [] (mh sc rest to fl ma tr mk cn nu de ru la tb tf ph cs) (some (.int r), mh sc rest to fl ma tr mk cn nu de ru la tb tf ph cs) := Ev_cellv rfl e
section CALLSL
variable {t : List mmI} {pc len j a : Nat} {c : mmC} {lv : List (Option Value)} {st : List Value} {h h1 : List mmC} {ax : List Nat} {x : Option Value × List mmC}
theorem kc_L_cell_2 {u0 : Nat} {u1 : Int32} {r : Int32} (hf : mmFetch t pc = some (.invokestatic j, len, 2 :: 170 :: 2 :: 0 :: ax)) (hw : mmWords st ≤ 8) (hm : Ev mmPT tbL_cell 0 [some (.ref u0), some (.int u1)] [] h (some (.int r), h1)) (kk : Ev mmPT t (pc + 3) lv (.int r :: st) h1 x) : Ev mmPT t pc lv (.int u1 :: .ref u0 :: st) h x := by
  refine Ev.call (M := mL_cell) (as := [.ref u0, .int u1]) (r := st) (v := some (.int r)) (h' := h1) (Or.inr (Or.inl ⟨rfl, len4⟩)) hf ?_ hm kk
  unfold mmCall
  dsimp only
  rw [show mmPT[170]? = some mL_cell from rfl]
  dsimp only
  rw [if_pos ⟨rfl, hw, Nat.le_of_ble_eq_true rfl⟩, if_pos (by decide)]
  rfl
theorem kc_X11_cut_0 {u0 : Int32} {r : Int32} (hf : mmFetch t pc = some (.invokevirtual j, len, 0 :: 112 :: 2 :: 11 :: ax)) (ho : h[a]? = some c) (hc : c.1 = 11) (hw : mmWords st ≤ 8) (hm : Ev mmPT tbX11_cut 0 [some (.ref a), some (.int u0)] [] h (some (.int r), h1)) (kk : Ev mmPT t (pc + 3) lv (.int r :: st) h1 x) : Ev mmPT t pc lv (.int u0 :: .ref a :: st) h x := by
  refine Ev.call (M := mX11_cut) (as := [.ref a, .int u0]) (r := st) (v := some (.int r)) (h' := h1) (Or.inl rfl) hf ?_ hm kk
  unfold mmCall
  dsimp only
  rw [show mmPT[112]? = some mX11_cut from rfl]
  dsimp only
  rw [if_pos ⟨rfl, hw, Nat.le_of_ble_eq_true rfl⟩, if_neg (by decide)]
  simp only [List.take_succ_cons, List.take_zero, List.reverse_cons, List.reverse_nil, List.nil_append, List.cons_append, List.drop_succ_cons, List.drop_zero, ho]
  rw [if_pos ⟨hc, by decide⟩]
theorem kc_X11_line_0 {u0 : Int32} {u1 : Int32} {u2 : Int32} {u3 : Int32} {u4 : Int32} {r : Int32} (hf : mmFetch t pc = some (.invokevirtual j, len, 0 :: 111 :: 6 :: 11 :: ax)) (ho : h[a]? = some c) (hc : c.1 = 11) (hw : mmWords st ≤ 8) (hm : Ev mmPT tbX11_line 0 [some (.ref a), some (.int u0), some (.int u1), some (.int u2), some (.int u3), some (.int u4)] [] h (some (.int r), h1)) (kk : Ev mmPT t (pc + 3) lv (.int r :: st) h1 x) : Ev mmPT t pc lv (.int u4 :: .int u3 :: .int u2 :: .int u1 :: .int u0 :: .ref a :: st) h x := by
  refine Ev.call (M := mX11_line) (as := [.ref a, .int u0, .int u1, .int u2, .int u3, .int u4]) (r := st) (v := some (.int r)) (h' := h1) (Or.inl rfl) hf ?_ hm kk
  unfold mmCall
  dsimp only
  rw [show mmPT[111]? = some mX11_line from rfl]
  dsimp only
  rw [if_pos ⟨rfl, hw, Nat.le_of_ble_eq_true rfl⟩, if_neg (by decide)]
  simp only [List.take_succ_cons, List.take_zero, List.reverse_cons, List.reverse_nil, List.nil_append, List.cons_append, List.drop_succ_cons, List.drop_zero, ho]
  rw [if_pos ⟨hc, by decide⟩]
theorem kc_X11_form_0 {r : Int32} (hf : mmFetch t pc = some (.invokevirtual j, len, 0 :: 115 :: 1 :: 11 :: ax)) (ho : h[a]? = some c) (hc : c.1 = 11) (hw : mmWords st ≤ 8) (hm : Ev mmPT tbX11_form 0 [some (.ref a)] [] h (some (.int r), h1)) (kk : Ev mmPT t (pc + 3) lv (.int r :: st) h1 x) : Ev mmPT t pc lv (.ref a :: st) h x := by
  refine Ev.call (M := mX11_form) (as := [.ref a]) (r := st) (v := some (.int r)) (h' := h1) (Or.inl rfl) hf ?_ hm kk
  unfold mmCall
  dsimp only
  rw [show mmPT[115]? = some mX11_form from rfl]
  dsimp only
  rw [if_pos ⟨rfl, hw, Nat.le_of_ble_eq_true rfl⟩, if_neg (by decide)]
  simp only [List.take_succ_cons, List.take_zero, List.reverse_cons, List.reverse_nil, List.nil_append, List.cons_append, List.drop_succ_cons, List.drop_zero, ho]
  rw [if_pos ⟨hc, by decide⟩]
theorem kc_L_areBlocksRight_2 {u0 : Nat} {u1 : Int32} {r : Int32} (hf : mmFetch t pc = some (.invokestatic j, len, 2 :: 174 :: 2 :: 0 :: ax)) (hw : mmWords st ≤ 8) (hm : Ev mmPT tbL_areBlocksRight 0 [some (.ref u0), some (.int u1), none, none, none, none] [] h (some (.int r), h1)) (kk : Ev mmPT t (pc + 3) lv (.int r :: st) h1 x) : Ev mmPT t pc lv (.int u1 :: .ref u0 :: st) h x := by
  refine Ev.call (M := mL_areBlocksRight) (as := [.ref u0, .int u1]) (r := st) (v := some (.int r)) (h' := h1) (Or.inr (Or.inl ⟨rfl, len4⟩)) hf ?_ hm kk
  unfold mmCall
  dsimp only
  rw [show mmPT[174]? = some mL_areBlocksRight from rfl]
  dsimp only
  rw [if_pos ⟨rfl, hw, Nat.le_of_ble_eq_true rfl⟩, if_pos (by decide)]
  rfl
theorem kc_L_isFormRight_2 {u0 : Nat} {u1 : Int32} {r : Int32} (hf : mmFetch t pc = some (.invokestatic j, len, 2 :: 176 :: 2 :: 0 :: ax)) (hw : mmWords st ≤ 8) (hm : Ev mmPT tbL_isFormRight 0 [some (.ref u0), some (.int u1), none, none, none, none, none, none, none, none, none, none] [] h (some (.int r), h1)) (kk : Ev mmPT t (pc + 3) lv (.int r :: st) h1 x) : Ev mmPT t pc lv (.int u1 :: .ref u0 :: st) h x := by
  refine Ev.call (M := mL_isFormRight) (as := [.ref u0, .int u1]) (r := st) (v := some (.int r)) (h' := h1) (Or.inr (Or.inl ⟨rfl, len4⟩)) hf ?_ hm kk
  unfold mmCall
  dsimp only
  rw [show mmPT[176]? = some mL_isFormRight from rfl]
  dsimp only
  rw [if_pos ⟨rfl, hw, Nat.le_of_ble_eq_true rfl⟩, if_pos (by decide)]
  rfl
theorem kc_X11_pass_0 {u0 : Int32} {r : Int32} (hf : mmFetch t pc = some (.invokevirtual j, len, 0 :: 116 :: 2 :: 11 :: ax)) (ho : h[a]? = some c) (hc : c.1 = 11) (hw : mmWords st ≤ 8) (hm : Ev mmPT tbX11_pass 0 [some (.ref a), some (.int u0)] [] h (some (.int r), h1)) (kk : Ev mmPT t (pc + 3) lv (.int r :: st) h1 x) : Ev mmPT t pc lv (.int u0 :: .ref a :: st) h x := by
  refine Ev.call (M := mX11_pass) (as := [.ref a, .int u0]) (r := st) (v := some (.int r)) (h' := h1) (Or.inl rfl) hf ?_ hm kk
  unfold mmCall
  dsimp only
  rw [show mmPT[116]? = some mX11_pass from rfl]
  dsimp only
  rw [if_pos ⟨rfl, hw, Nat.le_of_ble_eq_true rfl⟩, if_neg (by decide)]
  simp only [List.take_succ_cons, List.take_zero, List.reverse_cons, List.reverse_nil, List.nil_append, List.cons_append, List.drop_succ_cons, List.drop_zero, ho]
  rw [if_pos ⟨hc, by decide⟩]
theorem kc_L_isCut_2 {u0 : Nat} {u1 : Int32} {r : Int32} (hf : mmFetch t pc = some (.invokestatic j, len, 2 :: 172 :: 2 :: 0 :: ax)) (hw : mmWords st ≤ 8) (hm : Ev mmPT tbL_isCut 0 [some (.ref u0), some (.int u1)] [] h (some (.int r), h1)) (kk : Ev mmPT t (pc + 3) lv (.int r :: st) h1 x) : Ev mmPT t pc lv (.int u1 :: .ref u0 :: st) h x := by
  refine Ev.call (M := mL_isCut) (as := [.ref u0, .int u1]) (r := st) (v := some (.int r)) (h' := h1) (Or.inr (Or.inl ⟨rfl, len4⟩)) hf ?_ hm kk
  unfold mmCall
  dsimp only
  rw [show mmPT[172]? = some mL_isCut from rfl]
  dsimp only
  rw [if_pos ⟨rfl, hw, Nat.le_of_ble_eq_true rfl⟩, if_pos (by decide)]
  rfl
theorem kc_L_isRunRight_2 {u0 : Nat} {u1 : Int32} {r : Int32} (hf : mmFetch t pc = some (.invokestatic j, len, 2 :: 173 :: 2 :: 0 :: ax)) (hw : mmWords st ≤ 8) (hm : Ev mmPT tbL_isRunRight 0 [some (.ref u0), some (.int u1), none, none, none, none, none, none, none, none, none, none] [] h (some (.int r), h1)) (kk : Ev mmPT t (pc + 3) lv (.int r :: st) h1 x) : Ev mmPT t pc lv (.int u1 :: .ref u0 :: st) h x := by
  refine Ev.call (M := mL_isRunRight) (as := [.ref u0, .int u1]) (r := st) (v := some (.int r)) (h' := h1) (Or.inr (Or.inl ⟨rfl, len4⟩)) hf ?_ hm kk
  unfold mmCall
  dsimp only
  rw [show mmPT[173]? = some mL_isRunRight from rfl]
  dsimp only
  rw [if_pos ⟨rfl, hw, Nat.le_of_ble_eq_true rfl⟩, if_pos (by decide)]
  rfl
end CALLSL
noncomputable def Law_below (v0 : Int32) (v1 : Int32) : Option (Int32) :=
  (if v1 = 0 then none else (some ((v0 &&& 2147483647) - (v0 &&& 2147483647) / v1 * v1)))
noncomputable def Law_below_6 (v0 : Int32) : Int32 :=
  ((v0 &&& 2147483647) - (v0 &&& 2147483647) / 6 * 6)
noncomputable def Law_below_4 (v0 : Int32) : Int32 :=
  ((v0 &&& 2147483647) - (v0 &&& 2147483647) / 4 * 4)
noncomputable def Law_law_264 (to : Ob) (fl : Ob) (ma : Ob) (tr : Ob) (mk : Ob) (cn : Ob) (nu : Ob) (de : Ob) (ru : Ob) (la : Ob) (tb : Ob) (tf : Ob) (ph : Ob) (cs : Int64) (sc : mmC) : Option (Bool × Ob × Ob × Ob × Ob × Ob × Ob × Ob × Ob × Ob × Ob × Ob × Ob × Ob × Int64) :=
  (some (false, to, fl, ma, tr, mk, cn, nu, de, ru, la, tb, tf, ph, cs))
noncomputable def Law_law_374 (to : Ob) (fl : Ob) (ma : Ob) (tr : Ob) (mk : Ob) (cn : Ob) (nu : Ob) (de : Ob) (ru : Ob) (la : Ob) (tb : Ob) (tf : Ob) (ph : Ob) (cs : Int64) (sc : mmC) (v3 : Int32) (v4 : Int32) (v6 : Int32) (v7 : Int32) (v8 : Int32) (w0 : Bool) : (Int32 × Int32 × Ob × Ob × Ob × Ob × Ob × Ob × Ob × Ob × Ob × Ob × Int64) ⊕ ((Int32 × Ob × Ob × Ob × Ob × Ob × Ob × Ob × Ob × Ob × Ob × Ob × Ob × Ob × Int64) ⊕ (Option (Bool × Ob × Ob × Ob × Ob × Ob × Ob × Ob × Ob × Ob × Ob × Ob × Ob × Ob × Int64))) :=
  (if w0 = true then (Sum.inl (v7, (v8 + 1), ma, tr, cn, nu, de, ru, la, tb, tf, ph, cs)) else (Sum.inr (Sum.inr (some (false, to, fl, ma, tr, mk, cn, nu, de, ru, la, tb, tf, ph, cs)))))
noncomputable def Law_law_368 (to : Ob) (fl : Ob) (ma : Ob) (tr : Ob) (mk : Ob) (cn : Ob) (nu : Ob) (de : Ob) (ru : Ob) (la : Ob) (tb : Ob) (tf : Ob) (ph : Ob) (cs : Int64) (sc : mmC) (v3 : Int32) (v4 : Int32) (v6 : Int32) (v7 : Int32) (v8 : Int32) (v9 : Int32) : (Int32 × Int32 × Ob × Ob × Ob × Ob × Ob × Ob × Ob × Ob × Ob × Ob × Int64) ⊕ ((Int32 × Ob × Ob × Ob × Ob × Ob × Ob × Ob × Ob × Ob × Ob × Ob × Ob × Ob × Int64) ⊕ (Option (Bool × Ob × Ob × Ob × Ob × Ob × Ob × Ob × Ob × Ob × Ob × Ob × Ob × Ob × Int64))) :=
  (obn (Sum.inr (Sum.inr none)) (Law_isRunRight to ma tr cn nu de ru la tb tf ph cs v9) (fun r371 => (Law_law_374 to fl ma r371.2.1 mk r371.2.2.1 r371.2.2.2.1 r371.2.2.2.2.1 r371.2.2.2.2.2.1 r371.2.2.2.2.2.2.1 r371.2.2.2.2.2.2.2.1 r371.2.2.2.2.2.2.2.2.1 r371.2.2.2.2.2.2.2.2.2.1 r371.2.2.2.2.2.2.2.2.2.2 sc v3 v4 v6 v7 v8 r371.1)))
noncomputable def Law_law_366 (to : Ob) (fl : Ob) (ma : Ob) (tr : Ob) (mk : Ob) (cn : Ob) (nu : Ob) (de : Ob) (ru : Ob) (la : Ob) (tb : Ob) (tf : Ob) (ph : Ob) (cs : Int64) (sc : mmC) : Option (Bool × Ob × Ob × Ob × Ob × Ob × Ob × Ob × Ob × Ob × Ob × Ob × Ob × Ob × Int64) :=
  (some (false, to, fl, ma, tr, mk, cn, nu, de, ru, la, tb, tf, ph, cs))
noncomputable def Law_law_363 (to : Ob) (fl : Ob) (ma : Ob) (tr : Ob) (mk : Ob) (cn : Ob) (nu : Ob) (de : Ob) (ru : Ob) (la : Ob) (tb : Ob) (tf : Ob) (ph : Ob) (cs : Int64) (sc : mmC) (v3 : Int32) (v4 : Int32) (v6 : Int32) (v7 : Int32) (v8 : Int32) (v9 : Int32) (w0 : Bool) : (Int32 × Int32 × Ob × Ob × Ob × Ob × Ob × Ob × Ob × Ob × Ob × Ob × Int64) ⊕ ((Int32 × Ob × Ob × Ob × Ob × Ob × Ob × Ob × Ob × Ob × Ob × Ob × Ob × Ob × Int64) ⊕ (Option (Bool × Ob × Ob × Ob × Ob × Ob × Ob × Ob × Ob × Ob × Ob × Ob × Ob × Ob × Int64))) :=
  (if w0 = true then (Law_law_368 to fl ma tr mk cn nu de ru la tb tf ph cs sc v3 v4 v6 v7 v8 v9) else (Sum.inr (Sum.inr (Law_law_366 to fl ma tr mk cn nu de ru la tb tf ph cs sc))))
noncomputable def Law_law_352 (to : Ob) (fl : Ob) (ma : Ob) (tr : Ob) (mk : Ob) (cn : Ob) (nu : Ob) (de : Ob) (ru : Ob) (la : Ob) (tb : Ob) (tf : Ob) (ph : Ob) (cs : Int64) (sc : mmC) (v3 : Int32) (v4 : Int32) (v6 : Int32) (v7 : Int32) (v8 : Int32) (v9 : Int32) (v12 : Int32) (w0 : Int32) : (Int32 × Int32 × Ob × Ob × Ob × Ob × Ob × Ob × Ob × Ob × Ob × Ob × Int64) ⊕ ((Int32 × Ob × Ob × Ob × Ob × Ob × Ob × Ob × Ob × Ob × Ob × Ob × Ob × Ob × Int64) ⊕ (Option (Bool × Ob × Ob × Ob × Ob × Ob × Ob × Ob × Ob × Ob × Ob × Ob × Ob × Ob × Int64))) :=
  (if v12 < w0 then (Law_law_363 to fl ma tr mk cn nu de (Law_isCut to ru la ph cs v9).2.1 (Law_isCut to ru la ph cs v9).2.2.1 tb tf (Law_isCut to ru la ph cs v9).2.2.2.1 ((Law_isCut to ru la ph cs v9).2.2.2.2) sc v3 v4 v6 v7 v8 v9 ((Law_isCut to ru la ph cs v9).1)) else (Law_law_368 to fl ma tr mk cn nu de ru la tb tf ph cs sc v3 v4 v6 v7 v8 v9))
noncomputable def Law_law_254 (to : Ob) (fl : Ob) (ma : Ob) (tr : Ob) (mk : Ob) (cn : Ob) (nu : Ob) (de : Ob) (ru : Ob) (la : Ob) (tb : Ob) (tf : Ob) (ph : Ob) (cs : Int64) (sc : mmC) (v3 : Int32) (v4 : Int32) (v6 : Int32) (v7 : Int32) (v8 : Int32) (v9 : Int32) (v11 : Int32) (v12 : Int32) (w0 : Int32) : (Int32 × Int32 × Ob × Ob × Ob × Ob × Ob × Ob × Ob × Ob × Ob × Ob × Int64) ⊕ ((Int32 × Ob × Ob × Ob × Ob × Ob × Ob × Ob × Ob × Ob × Ob × Ob × Ob × Ob × Int64) ⊕ (Option (Bool × Ob × Ob × Ob × Ob × Ob × Ob × Ob × Ob × Ob × Ob × Ob × Ob × Ob × Int64))) :=
  (if w0 = v11 then (if v11 < 0 then (Sum.inr (Sum.inr (Law_law_264 to fl ma tr mk cn nu de ru la tb tf ph cs sc))) else (obn (Sum.inr (Sum.inr none)) (Ph_many to fl ma ph 10) (fun r276 => (if r276 = (v7 + v11) then (obn (Sum.inr (Sum.inr none)) (Ph_many to fl ma ph 9) (fun r287 => (if r287 = (v8 + 1) then (obn (Sum.inr (Sum.inr none)) (Ph_many to fl ma ph 5) (fun r299 => (obn (Sum.inr (Sum.inr none)) (Ph_many to fl ma ph 7) (fun r305 => (obn (Sum.inr (Sum.inr none)) (Ph_many to fl ma ph 1) (fun r316 => (if (r299 + r305) = (((v6 - 6) + r316) - (v7 + v11)) then (obn (Sum.inr (Sum.inr none)) (Ph_wouldCost ma tr cn nu de ru tf ph 0 ((Law_below_20 (v9 >>> (3 &&& 31))) - 5) (Law_below_9 (v9 >>> (6 &&& 31)))) (fun r349 => (Law_law_352 to fl ma r349.2.1 mk r349.2.2.1 r349.2.2.2.1 r349.2.2.2.2.1 r349.2.2.2.2.2.1 la tb r349.2.2.2.2.2.2 ph cs sc v3 v4 v6 (v7 + v11) v8 v9 v12 r349.1))) else (Sum.inr (Sum.inr (Law_law_366 to fl ma tr mk cn nu de ru la tb tf ph cs sc)))))))))) else (Sum.inr (Sum.inr (Law_law_366 to fl ma tr mk cn nu de ru la tb tf ph cs sc)))))) else (Sum.inr (Sum.inr (Law_law_366 to fl ma tr mk cn nu de ru la tb tf ph cs sc))))))) else (Sum.inr (Sum.inr (Law_law_264 to fl ma tr mk cn nu de ru la tb tf ph cs sc))))
noncomputable def Law_law_246 (to : Ob) (fl : Ob) (ma : Ob) (tr : Ob) (mk : Ob) (cn : Ob) (nu : Ob) (de : Ob) (ru : Ob) (la : Ob) (tb : Ob) (tf : Ob) (ph : Ob) (cs : Int64) (sc : mmC) (v3 : Int32) (v4 : Int32) (v6 : Int32) (v7 : Int32) (v8 : Int32) (v9 : Int32) (v10 : Int32) (v11 : Int32) (w0 : Int32) : (Int32 × Int32 × Ob × Ob × Ob × Ob × Ob × Ob × Ob × Ob × Ob × Ob × Int64) ⊕ ((Int32 × Ob × Ob × Ob × Ob × Ob × Ob × Ob × Ob × Ob × Ob × Ob × Ob × Ob × Int64) ⊕ (Option (Bool × Ob × Ob × Ob × Ob × Ob × Ob × Ob × Ob × Ob × Ob × Ob × Ob × Ob × Int64))) :=
  (obn (Sum.inr (Sum.inr none)) (Ph_pass ma cn nu de ph v10) (fun r251 => (Law_law_254 to fl r251.2.1 tr mk r251.2.2.1 r251.2.2.2.1 r251.2.2.2.2 ru la tb tf ph cs sc v3 v4 v6 v7 v8 v9 v11 w0 r251.1)))
noncomputable def Law_law_218 (to : Ob) (fl : Ob) (ma : Ob) (tr : Ob) (mk : Ob) (cn : Ob) (nu : Ob) (de : Ob) (ru : Ob) (la : Ob) (tb : Ob) (tf : Ob) (ph : Ob) (cs : Int64) (sc : mmC) (v3 : Int32) (v4 : Int32) (v6 : Int32) (v7 : Int32) (v8 : Int32) (v9 : Int32) (v10 : Int32) (w0 : Int32) : (Int32 × Int32 × Ob × Ob × Ob × Ob × Ob × Ob × Ob × Ob × Ob × Ob × Int64) ⊕ ((Int32 × Ob × Ob × Ob × Ob × Ob × Ob × Ob × Ob × Ob × Ob × Ob × Ob × Ob × Int64) ⊕ (Option (Bool × Ob × Ob × Ob × Ob × Ob × Ob × Ob × Ob × Ob × Ob × Ob × Ob × Ob × Int64))) :=
  (obn (Sum.inr (Sum.inr none)) (Ph_wouldCost ma tr cn nu de ru tf ph 0 ((Law_below_20 (v9 >>> (3 &&& 31))) - 5) (Law_below_9 (v9 >>> (6 &&& 31)))) (fun r243 => (Law_law_246 to fl ma r243.2.1 mk r243.2.2.1 r243.2.2.2.1 r243.2.2.2.2.1 r243.2.2.2.2.2.1 la tb r243.2.2.2.2.2.2 ph cs sc v3 v4 v6 v7 v8 v9 v10 w0 r243.1)))
noncomputable def Law_law_390 (to : Ob) (fl : Ob) (ma : Ob) (tr : Ob) (mk : Ob) (cn : Ob) (nu : Ob) (de : Ob) (ru : Ob) (la : Ob) (tb : Ob) (tf : Ob) (ph : Ob) (cs : Int64) (sc : mmC) (v3 : Int32) (v4 : Int32) (w0 : Bool) : (Int32 × Ob × Ob × Ob × Ob × Ob × Ob × Ob × Ob × Ob × Ob × Ob × Ob × Ob × Int64) ⊕ (Option (Bool × Ob × Ob × Ob × Ob × Ob × Ob × Ob × Ob × Ob × Ob × Ob × Ob × Ob × Int64)) :=
  (if w0 = true then (Sum.inl ((v4 + 1), to, fl, ma, tr, mk, cn, nu, de, ru, la, tb, tf, ph, cs)) else (Sum.inr (some (false, to, fl, ma, tr, mk, cn, nu, de, ru, la, tb, tf, ph, cs))))
noncomputable def Law_law_L181b (to : Ob) (fl : Ob) (ma : Ob) (tr : Ob) (mk : Ob) (cn : Ob) (nu : Ob) (de : Ob) (ru : Ob) (la : Ob) (tb : Ob) (tf : Ob) (ph : Ob) (cs : Int64) (sc : mmC) (v3 : Int32) (v4 : Int32) (v6 : Int32) (v7 : Int32) (v8 : Int32) : (Int32 × Int32 × Ob × Ob × Ob × Ob × Ob × Ob × Ob × Ob × Ob × Ob × Int64) ⊕ ((Int32 × Ob × Ob × Ob × Ob × Ob × Ob × Ob × Ob × Ob × Ob × Ob × Ob × Ob × Int64) ⊕ (Option (Bool × Ob × Ob × Ob × Ob × Ob × Ob × Ob × Ob × Ob × Ob × Ob × Ob × Ob × Int64))) :=
  (if v8 < 7 then (obn (Sum.inr (Sum.inr none)) (Law_cellv sc (v8 + ((7 : Int32) * v4))) (fun r197 => (obn (Sum.inr (Sum.inr none)) (Ph_wouldGo ma tr cn nu de ph ((1 : Int32) + (Law_below_4 r197))) (fun r215 => (Law_law_218 to fl ma r215.2.1 mk r215.2.2.1 r215.2.2.2.1 r215.2.2.2.2 ru la tb tf ph cs sc v3 v4 v6 v7 v8 r197 ((1 : Int32) + (Law_below_4 r197)) r215.1))))) else (Sum.inr (obn (Sum.inr none) (Law_isFormRight to fl ma tr cn nu de ru la tf ph v3) (fun r387 => (Law_law_390 to fl ma r387.2.1 mk r387.2.2.1 r387.2.2.2.1 r387.2.2.2.2.1 r387.2.2.2.2.2.1 la tb r387.2.2.2.2.2.2 ph cs sc v3 v4 r387.1)))))
noncomputable def Law_law_L181 (to : Ob) (fl : Ob) (ma : Ob) (tr : Ob) (mk : Ob) (cn : Ob) (nu : Ob) (de : Ob) (ru : Ob) (la : Ob) (tb : Ob) (tf : Ob) (ph : Ob) (cs : Int64) (sc : mmC) (v3 : Int32) (v4 : Int32) (v6 : Int32) (v7 : Int32) (v8 : Int32) : (Int32 × Ob × Ob × Ob × Ob × Ob × Ob × Ob × Ob × Ob × Ob × Ob × Ob × Ob × Int64) ⊕ (Option (Bool × Ob × Ob × Ob × Ob × Ob × Ob × Ob × Ob × Ob × Ob × Ob × Ob × Ob × Int64)) :=
  loopW (fun a : Int32 × Int32 × Ob × Ob × Ob × Ob × Ob × Ob × Ob × Ob × Ob × Ob × Int64 => Law_law_L181b to fl a.2.2.1 a.2.2.2.1 mk a.2.2.2.2.1 a.2.2.2.2.2.1 a.2.2.2.2.2.2.1 a.2.2.2.2.2.2.2.1 a.2.2.2.2.2.2.2.2.1 a.2.2.2.2.2.2.2.2.2.1 a.2.2.2.2.2.2.2.2.2.2.1 a.2.2.2.2.2.2.2.2.2.2.2.1 a.2.2.2.2.2.2.2.2.2.2.2.2 sc v3 v4 v6 a.1 a.2.1) (v7, v8, ma, tr, cn, nu, de, ru, la, tb, tf, ph, cs)
noncomputable def Law_law_176 (to : Ob) (fl : Ob) (ma : Ob) (tr : Ob) (mk : Ob) (cn : Ob) (nu : Ob) (de : Ob) (ru : Ob) (la : Ob) (tb : Ob) (tf : Ob) (ph : Ob) (cs : Int64) (sc : mmC) : Option (Bool × Ob × Ob × Ob × Ob × Ob × Ob × Ob × Ob × Ob × Ob × Ob × Ob × Ob × Int64) :=
  (some (false, to, fl, ma, tr, mk, cn, nu, de, ru, la, tb, tf, ph, cs))
noncomputable def Law_law_121 (to : Ob) (fl : Ob) (ma : Ob) (tr : Ob) (mk : Ob) (cn : Ob) (nu : Ob) (de : Ob) (ru : Ob) (la : Ob) (tb : Ob) (tf : Ob) (ph : Ob) (cs : Int64) (sc : mmC) (v3 : Int32) (v4 : Int32) (w0 : Int32) : (Int32 × Ob × Ob × Ob × Ob × Ob × Ob × Ob × Ob × Ob × Ob × Ob × Ob × Ob × Int64) ⊕ (Option (Bool × Ob × Ob × Ob × Ob × Ob × Ob × Ob × Ob × Ob × Ob × Ob × Ob × Ob × Int64)) :=
  (obn (Sum.inr none) (Ph_many to fl ma ph 4) (fun r128 => (if r128 = w0 then (obn (Sum.inr none) (Ph_many to fl ma ph 9) (fun r139 => (if r139 = 0 then (obn (Sum.inr none) (Ph_many to fl ma ph 10) (fun r148 => (if r148 = 0 then (obn (Sum.inr none) (Ph_many to fl ma ph 7) (fun r157 => (obn (Sum.inr none) (Ph_many to fl ma ph 1) (fun r162 => (if r157 = r162 then (obn (Sum.inr none) (Law_areBlocksRight to fl ma ph v3) (fun r170 => (if r170 = true then (Law_law_L181 to fl ma tr mk cn nu de ru la tb tf ph cs sc v3 v4 w0 0 0) else (Sum.inr (Law_law_176 to fl ma tr mk cn nu de ru la tb tf ph cs sc))))) else (Sum.inr (Law_law_176 to fl ma tr mk cn nu de ru la tb tf ph cs sc))))))) else (Sum.inr (Law_law_176 to fl ma tr mk cn nu de ru la tb tf ph cs sc))))) else (Sum.inr (Law_law_176 to fl ma tr mk cn nu de ru la tb tf ph cs sc))))) else (Sum.inr (Law_law_176 to fl ma tr mk cn nu de ru la tb tf ph cs sc)))))
noncomputable def Law_law_117 (to : Ob) (fl : Ob) (ma : Ob) (tr : Ob) (mk : Ob) (cn : Ob) (nu : Ob) (de : Ob) (ru : Ob) (la : Ob) (tb : Ob) (tf : Ob) (ph : Ob) (cs : Int64) (sc : mmC) (v3 : Int32) (v4 : Int32) : (Int32 × Ob × Ob × Ob × Ob × Ob × Ob × Ob × Ob × Ob × Ob × Ob × Ob × Ob × Int64) ⊕ (Option (Bool × Ob × Ob × Ob × Ob × Ob × Ob × Ob × Ob × Ob × Ob × Ob × Ob × Ob × Int64)) :=
  (Law_law_121 to fl (Ph_form to fl ma mk ph).2.1 tr (Ph_form to fl ma mk ph).2.2.1 cn nu de ru la tb tf (Ph_form to fl ma mk ph).2.2.2 cs sc v3 v4 ((Ph_form to fl ma mk ph).1))
noncomputable def Law_law_116 (to : Ob) (fl : Ob) (ma : Ob) (tr : Ob) (mk : Ob) (cn : Ob) (nu : Ob) (de : Ob) (ru : Ob) (la : Ob) (tb : Ob) (tf : Ob) (ph : Ob) (cs : Int64) (sc : mmC) (v3 : Int32) (v4 : Int32) (w0 : Int32) : (Int32 × Ob × Ob × Ob × Ob × Ob × Ob × Ob × Ob × Ob × Ob × Ob × Ob × Ob × Int64) ⊕ (Option (Bool × Ob × Ob × Ob × Ob × Ob × Ob × Ob × Ob × Ob × Ob × Ob × Ob × Ob × Int64)) :=
  (Law_law_117 to fl ma tr mk cn nu de ru la tb tf ph cs sc v3 v4)
noncomputable def Law_law_88 (to : Ob) (fl : Ob) (ma : Ob) (tr : Ob) (mk : Ob) (cn : Ob) (nu : Ob) (de : Ob) (ru : Ob) (la : Ob) (tb : Ob) (tf : Ob) (ph : Ob) (cs : Int64) (sc : mmC) (v3 : Int32) (v4 : Int32) (v5 : Int32) : (Int32 × Ob × Ob × Ob × Ob × Ob × Ob × Ob × Ob × Ob × Ob × Ob × Ob × Ob × Int64) ⊕ (Option (Bool × Ob × Ob × Ob × Ob × Ob × Ob × Ob × Ob × Ob × Ob × Ob × Ob × Ob × Int64)) :=
  (if v4 = 2 then (obn (Sum.inr none) (Law_cellv sc 9) (fun r101 => (obn (Sum.inr none) (Ph_line to fl v5 1 (Law_below_6 r101) 100 101) (fun r113 => (Law_law_116 r113.2.1 r113.2.2 ma tr mk cn nu de ru la tb tf ph cs sc v3 v4 r113.1))))) else (Law_law_117 to fl ma tr mk cn nu de ru la tb tf ph cs sc v3 v4))
noncomputable def Law_law_87 (to : Ob) (fl : Ob) (ma : Ob) (tr : Ob) (mk : Ob) (cn : Ob) (nu : Ob) (de : Ob) (ru : Ob) (la : Ob) (tb : Ob) (tf : Ob) (ph : Ob) (cs : Int64) (sc : mmC) (v3 : Int32) (v4 : Int32) (v5 : Int32) (w0 : Int32) : (Int32 × Ob × Ob × Ob × Ob × Ob × Ob × Ob × Ob × Ob × Ob × Ob × Ob × Ob × Int64) ⊕ (Option (Bool × Ob × Ob × Ob × Ob × Ob × Ob × Ob × Ob × Ob × Ob × Ob × Ob × Ob × Int64)) :=
  (Law_law_88 to fl ma tr mk cn nu de ru la tb tf ph cs sc v3 v4 v5)
noncomputable def Law_law_L45b (to : Ob) (fl : Ob) (ma : Ob) (tr : Ob) (mk : Ob) (cn : Ob) (nu : Ob) (de : Ob) (ru : Ob) (la : Ob) (tb : Ob) (tf : Ob) (ph : Ob) (cs : Int64) (sc : mmC) (v3 : Int32) (v4 : Int32) : (Int32 × Ob × Ob × Ob × Ob × Ob × Ob × Ob × Ob × Ob × Ob × Ob × Ob × Ob × Int64) ⊕ (Option (Bool × Ob × Ob × Ob × Ob × Ob × Ob × Ob × Ob × Ob × Ob × Ob × Ob × Ob × Int64)) :=
  (if v4 < 3 then (obn (Sum.inr none) (Law_cellv sc ((20 : Int32) + v4)) (fun r57 => (obn (Sum.inr none) (Law_below r57 v3) (fun r61 => (if 0 < v4 then (obn (Sum.inr none) (Ph_ofBlock to fl r61 0) (fun r75 => (if 0 < r75 then (obn (Sum.inr none) (Ph_cut to fl r61) (fun r84 => (Law_law_87 r84.2.1 r84.2.2 ma tr mk cn nu de ru la tb tf ph cs sc v3 v4 r61 r84.1))) else (Law_law_88 to fl ma tr mk cn nu de ru la tb tf ph cs sc v3 v4 r61)))) else (Law_law_88 to fl ma tr mk cn nu de ru la tb tf ph cs sc v3 v4 r61)))))) else (Sum.inr (some (true, to, fl, ma, tr, mk, cn, nu, de, ru, la, tb, tf, ph, cs))))
noncomputable def Law_law_L45 (to : Ob) (fl : Ob) (ma : Ob) (tr : Ob) (mk : Ob) (cn : Ob) (nu : Ob) (de : Ob) (ru : Ob) (la : Ob) (tb : Ob) (tf : Ob) (ph : Ob) (cs : Int64) (sc : mmC) (v3 : Int32) (v4 : Int32) : Option (Bool × Ob × Ob × Ob × Ob × Ob × Ob × Ob × Ob × Ob × Ob × Ob × Ob × Ob × Int64) :=
  loopW (fun a : Int32 × Ob × Ob × Ob × Ob × Ob × Ob × Ob × Ob × Ob × Ob × Ob × Ob × Ob × Int64 => Law_law_L45b a.2.1 a.2.2.1 a.2.2.2.1 a.2.2.2.2.1 a.2.2.2.2.2.1 a.2.2.2.2.2.2.1 a.2.2.2.2.2.2.2.1 a.2.2.2.2.2.2.2.2.1 a.2.2.2.2.2.2.2.2.2.1 a.2.2.2.2.2.2.2.2.2.2.1 a.2.2.2.2.2.2.2.2.2.2.2.1 a.2.2.2.2.2.2.2.2.2.2.2.2.1 a.2.2.2.2.2.2.2.2.2.2.2.2.2.1 a.2.2.2.2.2.2.2.2.2.2.2.2.2.2 sc v3 a.1) (v4, to, fl, ma, tr, mk, cn, nu, de, ru, la, tb, tf, ph, cs)
noncomputable def Law_law (to : Ob) (fl : Ob) (ma : Ob) (tr : Ob) (mk : Ob) (cn : Ob) (nu : Ob) (de : Ob) (ru : Ob) (la : Ob) (tb : Ob) (tf : Ob) (ph : Ob) (cs : Int64) (sc : mmC) (v3 : Int32) : Option (Bool × Ob × Ob × Ob × Ob × Ob × Ob × Ob × Ob × Ob × Ob × Ob × Ob × Ob × Int64) :=
  (Law_law_L45 to fl ma tr mk cn nu de ru la tb tf ph cs sc v3 0)
