/-! THE OBJECT Own: its cells lie behind the class's; rules for them; calls -/
theorem hqV_ok {v w : Value} (h : hqV v w = true) : v = w := by
  cases v <;> cases w <;> first
    | (cases h; done)
    | rfl
    | exact congrArg _ (of_decide_eq_true h)
    | exact congrArg _ (Nat.eq_of_beq_eq_true h)
theorem hqL_ok : ∀ {a b : List Value}, hqL a b = true → a = b := by
  intro a
  induction a with
  | nil => intro b h; cases b with
    | nil => rfl
    | cons w b => cases h
  | cons v a ih => intro b h; cases b with
    | nil => cases h
    | cons w b =>
      unfold hqL at h
      rw [Bool.and_eq_true] at h
      rw [hqV_ok h.1, ih h.2]
theorem hqH_ok : ∀ {a b : List mmC}, hqH a b = true → a = b := by
  intro a
  induction a with
  | nil => intro b h; cases b with
    | nil => rfl
    | cons w b => cases h
  | cons v a ih => intro b h; cases b with
    | nil => cases h
    | cons w b =>
      unfold hqH at h
      rw [Bool.and_eq_true, Bool.and_eq_true] at h
      rw [Prod.ext (Nat.eq_of_beq_eq_true h.1.1) (hqL_ok h.1.2), ih h.2]
theorem hqX_ok {o : Option (Option Value × List mmC)} {g : List mmC} (h : hqX o g = true) : o = some (none, g) := by
  unfold hqX at h
  split at h
  · rw [hqH_ok h]
  · cases h
theorem any_ok {o : Option (List Value)} {l : List Value} (h : o.any (fun a => hqL a l) = true) : o = some l := by
  cases o with
  | none => cases h
  | some a => rw [hqL_ok (show hqL a l = true from h)]
theorem TJ_0 : TJ to0 1 := by
  refine ⟨rfl, ⟨Nat.le_refl _, by decide, fun b hb => ⟨⟨0, by decide, rfl, fun k hk => by omega⟩, 0, by decide, rfl, fun q => absurd (show (0 : Int32) < 100 by decide) q, fun k hk => by omega⟩⟩, fun b => ⟨0, by decide, rfl⟩, fun b hb => ⟨rfl, rfl, rfl⟩⟩
/-- what the constructor leaves -/
theorem Ev_fresh (sc : mmC) : ∃ to fl, TI to fl 1 ∧ (to.1 0 = fun _ => 0) ∧ (to.1 5 = fun _ => 0) ∧ Ev mmPT tbX11_init 0 [some (.ref 1)] [] [sc, (11, phFs)] (none, mh sc [] to fl zOb zOb zOb zOb zOb zOb zOb zOb zOb zOb zOb 0) := by
  obtain ⟨t1, t2, -⟩ := TJ_0.reckon zOb
  have a := e_Told_reckon_2 (sc := psn) (rest := []) (to := to0) (fl := zOb) (ma := zOb) (tr := zOb) (mk := zOb) (cn := zOb) (nu := zOb) (de := zOb) (ru := zOb) (la := zOb) (tb := zOb) (tf := zOb) (ph := zOb) (cs := 0)
  have b := congrArg Prod.snd (ev_det a ⟨3000, hqX_ok reck_run⟩)
  have c : mh psn [] (Told_reckon to0 zOb).1 (Told_reckon to0 zOb).2 zOb zOb zOb zOb zOb zOb zOb zOb zOb zOb zOb 0 = mh psn [] to0 fl1 zOb zOb zOb zOb zOb zOb zOb zOb zOb zOb zOb 0 := b
  obtain ⟨h2, e1, e2⟩ := mx_psn sc mmPT 3000 (hqX_ok init_run)
  have e3 : hp to0 fl1 zOb zOb zOb zOb zOb zOb zOb zOb zOb zOb zOb 0 ++ [] = h2 := (List.cons.inj e1).2
  have e4 := (List.cons.inj c).2
  refine ⟨_, _, t1, by rw [t2 0 (by decide) (by decide) (by decide)]; rfl, by rw [t2 5 (by decide) (by decide) (by decide)]; rfl, 3000, ?_⟩
  rw [e2, ← e3, ← e4]
  rfl
section OWNR
variable {sc : mmC} {rest : List mmC} {to fl ma tr mk cn nu de ru la tb tf ph : Ob} {cs : Int64}
set_option maxRecDepth 100000 in
theorem hp_len : (hp to fl ma tr mk cn nu de ru la tb tf ph cs).length = 135 := rfl
theorem rg (i : Nat) : (mh sc rest to fl ma tr mk cn nu de ru la tb tf ph cs)[136 + i]? = rest[i]? := by
  unfold mh
  rw [show 136 + i = (135 + i) + 1 by omega, List.getElem?_cons_succ, List.getElem?_append_right (by rw [hp_len]; omega), hp_len, Nat.add_sub_cancel_left]
theorem rgs (i : Nat) (c : mmC) : (mh sc rest to fl ma tr mk cn nu de ru la tb tf ph cs).set (136 + i) c = mh sc (rest.set i c) to fl ma tr mk cn nu de ru la tb tf ph cs := by
  unfold mh
  rw [show 136 + i = (135 + i) + 1 by omega, List.set_cons_succ, List.set_append, if_neg (by rw [hp_len]; omega), hp_len, Nat.add_sub_cancel_left]
theorem rlen : (mh sc rest to fl ma tr mk cn nu de ru la tb tf ph cs).length = 136 + rest.length := by
  unfold mh
  rw [List.length_cons, List.length_append, hp_len]
  omega
theorem rapp (l : List mmC) : mh sc rest to fl ma tr mk cn nu de ru la tb tf ph cs ++ l = mh sc (rest ++ l) to fl ma tr mk cn nu de ru la tb tf ph cs := by
  unfold mh
  rw [List.cons_append, List.append_assoc]
end OWNR
section OWNS
variable {h : List mmC} {pc : Nat} {lv : List (Option Value)} {st : List Value}
theorem mmS_aald {a x : Nat} {ax : List Nat} {c : mmC} {j : Int32} (ha : h[a]? = some c) (hc : (c.1 = 1001 ∨ c.1 = 1002) ∧ ¬ j < 0) (hv : c.2[j.toNatClampNeg]? = some (.ref x)) : mmS .aaload ax pc lv (.int j :: .ref a :: st) h = some (pc + 1, lv, .ref x :: st, h) := by
  simp only [mmS, ha, if_pos hc, hv]
theorem mmS_aast {a b : Nat} {ax : List Nat} {c d : mmC} {j : Int32} (ha : h[a]? = some c) (hb : h[b]? = some d) (hc : (c.1 = 1001 ∧ d.1 = 1000 ∨ c.1 = 1002 ∧ d.1 = 1001) ∧ ¬ j < 0 ∧ j.toNatClampNeg < c.2.length ∧ mmRo ≤ a) : mmS .aastore ax pc lv (.ref b :: .int j :: .ref a :: st) h = some (pc + 1, lv, st, h.set a (c.1, c.2.set j.toNatClampNeg (.ref b))) := by
  simp only [mmS, ha, hb, if_pos hc]
theorem mmS_newa {n : Int32} {ax : List Nat} (hc : ¬ n < 0 ∧ n.toNatClampNeg ≤ 100000) : mmS (.newarray .int) ax pc lv (.int n :: st) h = some (pc + 2, lv, .ref h.length :: st, h ++ [(1000, List.replicate n.toNatClampNeg (.int 0))]) := by
  simp only [mmS, if_pos hc]
theorem mmS_mult {i tg : Nat} {ax : List Nat} {n k : Int32} (hc : (tg = 1001 ∨ tg = 1002) ∧ ¬ n < 0 ∧ ¬ k < 0 ∧ n.toNatClampNeg ≤ 100 ∧ k.toNatClampNeg ≤ 100) : mmS (.multianewarray i 2) (tg :: ax) pc lv (.int k :: .int n :: st) h = some (pc + 4, lv, .ref h.length :: st, h ++ mmMulti tg h.length n.toNatClampNeg k.toNatClampNeg) := by
  simp only [mmS, if_pos hc]
theorem mmS_new {i ci : Nat} {ax : List Nat} {fs : List Value} (hf : mmDefs[ci]? = some fs) (hc : ci < 1000) : mmS (.new i) (ci :: ax) pc lv st h = some (pc + 3, lv, .ref h.length :: st, h ++ [(ci, fs)]) := by
  simp only [mmS, hf, if_pos hc]
end OWNS
section CALLSO
variable {t : List mmI} {pc len j a : Nat} {c : mmC} {lv : List (Option Value)} {st : List Value} {h h1 : List mmC} {ax : List Nat} {x : Option Value × List mmC}
theorem kc_X11_end_0 {u0 : Int32} {u1 : Int32} {u2 : Int32} {u3 : Int32} {u4 : Int32} {r : Int32} (hf : mmFetch t pc = some (.invokevirtual j, len, 0 :: 113 :: 6 :: 11 :: ax)) (ho : h[a]? = some c) (hc : c.1 = 11) (hw : mmWords st ≤ 8) (hm : Ev mmPT tbX11_end 0 [some (.ref a), some (.int u0), some (.int u1), some (.int u2), some (.int u3), some (.int u4)] [] h (some (.int r), h1)) (kk : Ev mmPT t (pc + 3) lv (.int r :: st) h1 x) : Ev mmPT t pc lv (.int u4 :: .int u3 :: .int u2 :: .int u1 :: .int u0 :: .ref a :: st) h x := by
  refine Ev.call (M := mX11_end) (as := [.ref a, .int u0, .int u1, .int u2, .int u3, .int u4]) (r := st) (v := some (.int r)) (h' := h1) (Or.inl rfl) hf ?_ hm kk
  unfold mmCall
  dsimp only
  rw [show mmPT[113]? = some mX11_end from rfl]
  dsimp only
  rw [if_pos ⟨rfl, hw, Nat.le_of_ble_eq_true rfl⟩, if_neg (by decide)]
  simp only [List.take_succ_cons, List.take_zero, List.reverse_cons, List.reverse_nil, List.nil_append, List.cons_append, List.drop_succ_cons, List.drop_zero, ho]
  rw [if_pos ⟨hc, by decide⟩]
theorem kc_L_below_3 {u0 : Int32} {u1 : Int32} {r : Int32} (hf : mmFetch t pc = some (.invokestatic j, len, 3 :: 169 :: 2 :: 0 :: ax)) (hw : mmWords st ≤ 8) (hm : Ev mmPT tbL_below 0 [some (.int u0), some (.int u1)] [] h (some (.int r), h1)) (kk : Ev mmPT t (pc + 3) lv (.int r :: st) h1 x) : Ev mmPT t pc lv (.int u1 :: .int u0 :: st) h x := by
  refine Ev.call (M := mL_below) (as := [.int u0, .int u1]) (r := st) (v := some (.int r)) (h' := h1) (Or.inr (Or.inl ⟨rfl, len4⟩)) hf ?_ hm kk
  unfold mmCall
  dsimp only
  rw [show mmPT[169]? = some mL_below from rfl]
  dsimp only
  rw [if_pos ⟨rfl, hw, Nat.le_of_ble_eq_true rfl⟩, if_pos (by decide)]
  rfl
theorem kc_X12_operand_2 {u0 : Int32} {r : Int32} (hf : mmFetch t pc = some (.invokestatic j, len, 2 :: 162 :: 1 :: 12 :: ax)) (hw : mmWords st ≤ 8) (hm : Ev mmPT tbX12_operand 0 [some (.int u0)] [] h (some (.int r), h1)) (kk : Ev mmPT t (pc + 3) lv (.int r :: st) h1 x) : Ev mmPT t pc lv (.int u0 :: st) h x := by
  refine Ev.call (M := mX12_operand) (as := [.int u0]) (r := st) (v := some (.int r)) (h' := h1) (Or.inr (Or.inl ⟨rfl, len4⟩)) hf ?_ hm kk
  unfold mmCall
  dsimp only
  rw [show mmPT[162]? = some mX12_operand from rfl]
  dsimp only
  rw [if_pos ⟨rfl, hw, Nat.le_of_ble_eq_true rfl⟩, if_pos (by decide)]
  rfl
theorem kc_X12_isLine_0 {u0 : Nat} {u1 : Int32} {u2 : Int32} {u3 : Int32} {u4 : Int32} {u5 : Int32} {r : Int32} (hf : mmFetch t pc = some (.invokevirtual j, len, 0 :: 160 :: 7 :: 12 :: ax)) (ho : h[a]? = some c) (hc : c.1 = 12) (hw : mmWords st ≤ 8) (hm : Ev mmPT tbX12_isLine 0 [some (.ref a), some (.ref u0), some (.int u1), some (.int u2), some (.int u3), some (.int u4), some (.int u5), none] [] h (some (.int r), h1)) (kk : Ev mmPT t (pc + 3) lv (.int r :: st) h1 x) : Ev mmPT t pc lv (.int u5 :: .int u4 :: .int u3 :: .int u2 :: .int u1 :: .ref u0 :: .ref a :: st) h x := by
  refine Ev.call (M := mX12_isLine) (as := [.ref a, .ref u0, .int u1, .int u2, .int u3, .int u4, .int u5]) (r := st) (v := some (.int r)) (h' := h1) (Or.inl rfl) hf ?_ hm kk
  unfold mmCall
  dsimp only
  rw [show mmPT[160]? = some mX12_isLine from rfl]
  dsimp only
  rw [if_pos ⟨rfl, hw, Nat.le_of_ble_eq_true rfl⟩, if_neg (by decide)]
  simp only [List.take_succ_cons, List.take_zero, List.reverse_cons, List.reverse_nil, List.nil_append, List.cons_append, List.drop_succ_cons, List.drop_zero, ho]
  rw [if_pos ⟨hc, by decide⟩]
theorem kc_X11_block_0 {r : Int32} (hf : mmFetch t pc = some (.invokevirtual j, len, 0 :: 110 :: 1 :: 11 :: ax)) (ho : h[a]? = some c) (hc : c.1 = 11) (hw : mmWords st ≤ 8) (hm : Ev mmPT tbX11_block 0 [some (.ref a)] [] h (some (.int r), h1)) (kk : Ev mmPT t (pc + 3) lv (.int r :: st) h1 x) : Ev mmPT t pc lv (.ref a :: st) h x := by
  refine Ev.call (M := mX11_block) (as := [.ref a]) (r := st) (v := some (.int r)) (h' := h1) (Or.inl rfl) hf ?_ hm kk
  unfold mmCall
  dsimp only
  rw [show mmPT[110]? = some mX11_block from rfl]
  dsimp only
  rw [if_pos ⟨rfl, hw, Nat.le_of_ble_eq_true rfl⟩, if_neg (by decide)]
  simp only [List.take_succ_cons, List.take_zero, List.reverse_cons, List.reverse_nil, List.nil_append, List.cons_append, List.drop_succ_cons, List.drop_zero, ho]
  rw [if_pos ⟨hc, by decide⟩]
theorem kc_L_cell_3 {u0 : Nat} {u1 : Int32} {r : Int32} (hf : mmFetch t pc = some (.invokestatic j, len, 3 :: 170 :: 2 :: 0 :: ax)) (hw : mmWords st ≤ 8) (hm : Ev mmPT tbL_cell 0 [some (.ref u0), some (.int u1)] [] h (some (.int r), h1)) (kk : Ev mmPT t (pc + 3) lv (.int r :: st) h1 x) : Ev mmPT t pc lv (.int u1 :: .ref u0 :: st) h x := by
  refine Ev.call (M := mL_cell) (as := [.ref u0, .int u1]) (r := st) (v := some (.int r)) (h' := h1) (Or.inr (Or.inl ⟨rfl, len4⟩)) hf ?_ hm kk
  unfold mmCall
  dsimp only
  rw [show mmPT[170]? = some mL_cell from rfl]
  dsimp only
  rw [if_pos ⟨rfl, hw, Nat.le_of_ble_eq_true rfl⟩, if_pos (by decide)]
  rfl
theorem kc_X12_isDrawn_0 {u0 : Nat} {u1 : Int32} {u2 : Int32} {r : Int32} (hf : mmFetch t pc = some (.invokevirtual j, len, 0 :: 163 :: 4 :: 12 :: ax)) (ho : h[a]? = some c) (hc : c.1 = 12) (hw : mmWords st ≤ 8) (hm : Ev mmPT tbX12_isDrawn 0 [some (.ref a), some (.ref u0), some (.int u1), some (.int u2), none, none, none, none] [] h (some (.int r), h1)) (kk : Ev mmPT t (pc + 3) lv (.int r :: st) h1 x) : Ev mmPT t pc lv (.int u2 :: .int u1 :: .ref u0 :: .ref a :: st) h x := by
  refine Ev.call (M := mX12_isDrawn) (as := [.ref a, .ref u0, .int u1, .int u2]) (r := st) (v := some (.int r)) (h' := h1) (Or.inl rfl) hf ?_ hm kk
  unfold mmCall
  dsimp only
  rw [show mmPT[163]? = some mX12_isDrawn from rfl]
  dsimp only
  rw [if_pos ⟨rfl, hw, Nat.le_of_ble_eq_true rfl⟩, if_neg (by decide)]
  simp only [List.take_succ_cons, List.take_zero, List.reverse_cons, List.reverse_nil, List.nil_append, List.cons_append, List.drop_succ_cons, List.drop_zero, ho]
  rw [if_pos ⟨hc, by decide⟩]
theorem kc_X12_isEnd_0 {u0 : Nat} {u1 : Int32} {u2 : Int32} {u3 : Int32} {u4 : Int32} {u5 : Int32} {r : Int32} (hf : mmFetch t pc = some (.invokevirtual j, len, 0 :: 161 :: 7 :: 12 :: ax)) (ho : h[a]? = some c) (hc : c.1 = 12) (hw : mmWords st ≤ 8) (hm : Ev mmPT tbX12_isEnd 0 [some (.ref a), some (.ref u0), some (.int u1), some (.int u2), some (.int u3), some (.int u4), some (.int u5), none, none] [] h (some (.int r), h1)) (kk : Ev mmPT t (pc + 3) lv (.int r :: st) h1 x) : Ev mmPT t pc lv (.int u5 :: .int u4 :: .int u3 :: .int u2 :: .int u1 :: .ref u0 :: .ref a :: st) h x := by
  refine Ev.call (M := mX12_isEnd) (as := [.ref a, .ref u0, .int u1, .int u2, .int u3, .int u4, .int u5]) (r := st) (v := some (.int r)) (h' := h1) (Or.inl rfl) hf ?_ hm kk
  unfold mmCall
  dsimp only
  rw [show mmPT[161]? = some mX12_isEnd from rfl]
  dsimp only
  rw [if_pos ⟨rfl, hw, Nat.le_of_ble_eq_true rfl⟩, if_neg (by decide)]
  simp only [List.take_succ_cons, List.take_zero, List.reverse_cons, List.reverse_nil, List.nil_append, List.cons_append, List.drop_succ_cons, List.drop_zero, ho]
  rw [if_pos ⟨hc, by decide⟩]
theorem kc_X12_isTold_0 {u0 : Nat} {u1 : Nat} {u2 : Int32} {r : Int32} (hf : mmFetch t pc = some (.invokevirtual j, len, 0 :: 164 :: 4 :: 12 :: ax)) (ho : h[a]? = some c) (hc : c.1 = 12) (hw : mmWords st ≤ 8) (hm : Ev mmPT tbX12_isTold 0 [some (.ref a), some (.ref u0), some (.ref u1), some (.int u2), none, none, none, none, none] [] h (some (.int r), h1)) (kk : Ev mmPT t (pc + 3) lv (.int r :: st) h1 x) : Ev mmPT t pc lv (.int u2 :: .ref u1 :: .ref u0 :: .ref a :: st) h x := by
  refine Ev.call (M := mX12_isTold) (as := [.ref a, .ref u0, .ref u1, .int u2]) (r := st) (v := some (.int r)) (h' := h1) (Or.inl rfl) hf ?_ hm kk
  unfold mmCall
  dsimp only
  rw [show mmPT[164]? = some mX12_isTold from rfl]
  dsimp only
  rw [if_pos ⟨rfl, hw, Nat.le_of_ble_eq_true rfl⟩, if_neg (by decide)]
  simp only [List.take_succ_cons, List.take_zero, List.reverse_cons, List.reverse_nil, List.nil_append, List.cons_append, List.drop_succ_cons, List.drop_zero, ho]
  rw [if_pos ⟨hc, by decide⟩]
theorem kc_X11_init (hf : mmFetch t pc = some (.invokespecial j, len, 4 :: 109 :: 1 :: 11 :: ax)) (ho : h[a]? = some c) (hc : c.1 = 11) (hw : mmWords st ≤ 8) (hm : Ev mmPT tbX11_init 0 [some (.ref a)] [] h (none, h1)) (kk : Ev mmPT t (pc + 3) lv st h1 x) : Ev mmPT t pc lv (.ref a :: st) h x := by
  refine Ev.call (M := mX11_init) (as := [.ref a]) (r := st) (v := none) (h' := h1) (Or.inr (Or.inr ⟨rfl, len4⟩)) hf ?_ hm kk
  unfold mmCall
  dsimp only
  rw [show mmPT[109]? = some mX11_init from rfl]
  dsimp only
  rw [if_pos ⟨rfl, hw, Nat.le_of_ble_eq_true rfl⟩, if_neg (by decide)]
  simp only [List.take_succ_cons, List.take_zero, List.reverse_cons, List.reverse_nil, List.nil_append, List.cons_append, List.drop_succ_cons, List.drop_zero, ho]
  rw [if_pos ⟨hc, by decide⟩]
theorem kc_X12_init (hf : mmFetch t pc = some (.invokespecial j, len, 5 :: 159 :: 1 :: 12 :: ax)) (ho : h[a]? = some c) (hc : c.1 = 12) (hw : mmWords st ≤ 8) (hm : Ev mmPT tbX12_init 0 [some (.ref a)] [] h (none, h1)) (kk : Ev mmPT t (pc + 3) lv st h1 x) : Ev mmPT t pc lv (.ref a :: st) h x := by
  refine Ev.call (M := mX12_init) (as := [.ref a]) (r := st) (v := none) (h' := h1) (Or.inr (Or.inr ⟨rfl, len4⟩)) hf ?_ hm kk
  unfold mmCall
  dsimp only
  rw [show mmPT[159]? = some mX12_init from rfl]
  dsimp only
  rw [if_pos ⟨rfl, hw, Nat.le_of_ble_eq_true rfl⟩, if_neg (by decide)]
  simp only [List.take_succ_cons, List.take_zero, List.reverse_cons, List.reverse_nil, List.nil_append, List.cons_append, List.drop_succ_cons, List.drop_zero, ho]
  rw [if_pos ⟨hc, by decide⟩]
end CALLSO
