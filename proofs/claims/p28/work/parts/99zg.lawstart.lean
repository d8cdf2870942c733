/-! THE LAW, whole: its run from the first row on -/
section LAWSTART
variable {sc : mmC} {rest : List mmC} {to fl ma tr mk cn nu de ru la tb tf ph : Ob} {cs : Int64}
theorem sl_hp : mmSl (hp to fl ma tr mk cn nu de ru la tb tf ph cs) = 12290 := by
  unfold mmSl hp
  simp only [List.map_cons, List.map_nil, List.sum_cons, List.sum_nil, mmIR_len, List.length_cons, List.length_nil]
  rfl
theorem sl_mh : mmSl (mh sc rest to fl ma tr mk cn nu de ru la tb tf ph cs) = sc.2.length + (12290 + mmSl rest) := by
  unfold mh
  rw [show mmSl (sc :: (hp to fl ma tr mk cn nu de ru la tb tf ph cs ++ rest)) = sc.2.length + mmSl (hp to fl ma tr mk cn nu de ru la tb tf ph cs ++ rest) by simp [mmSl], mmSl_app, sl_hp]
theorem law_run_all (hs : scOk sc) : ∃ rest' to' fl' ma' tr' mk' cn' nu' de' ru' la' tb' tf' ph' cs', OB rest' 40 ∧ Ev mmPT tbL_law 0 (mmEntry 13 [.ref 0]) [] [sc] (some (.int 1), mh sc rest' to' fl' ma' tr' mk' cn' nu' de' ru' la' tb' tf' ph' cs') := by
  obtain ⟨to, fl, hTI, e0, e5, eF⟩ := Ev_fresh sc
  obtain ⟨z, hz⟩ := cell_S hs (show 28 < 2 ^ 31 by decide)
  have hz : Law_cellv sc 28 = some z := hz
  obtain ⟨j, hj, ej⟩ := bel_l z (m := 8) (y := 8) rfl (by decide) (by decide)
  obtain ⟨hO, hB⟩ := OI_0 e0 e5
  obtain ⟨rest1, to1, fl1, eT, hO1, hTI1, hB1⟩ := own_told (ma := zOb) (tr := zOb) (mk := zOb) (cn := zOb) (nu := zOb) (de := zOb) (ru := zOb) (la := zOb) (tb := zOb) (tf := zOb) (ph := zOb) (cs := 0) (n := 1 + j) hs hO hB hTI (by omega) (by omega)
  obtain ⟨r, er⟩ := law_law (ma := zOb) (tr := zOb) (mk := zOb) (cn := zOb) (nu := zOb) (de := zOb) (ru := zOb) (la := zOb) (tb := zOb) (tf := zOb) (ph := zOb) (cs := 0) hTI1 hs (fun u _ => ⟨0, by decide, rfl⟩)
  have eL := e_Law_law_0 (rest := rest1) er
  obtain ⟨⟨bl, h0⟩, -⟩ := id hO
  refine ⟨rest1, r.1, r.2.1, r.2.2.1, r.2.2.2.1, r.2.2.2.2.1, r.2.2.2.2.2.1, r.2.2.2.2.2.2.1, r.2.2.2.2.2.2.2.1, r.2.2.2.2.2.2.2.2.1, r.2.2.2.2.2.2.2.2.2.1, r.2.2.2.2.2.2.2.2.2.2.1, r.2.2.2.2.2.2.2.2.2.2.2.1, r.2.2.2.2.2.2.2.2.2.2.2.2.1, r.2.2.2.2.2.2.2.2.2.2.2.2.2, ?_, ?_⟩
  · unfold OB at hB1 ⊢
    omega
  · show Ev mmPT tbL_law 0 [some (.ref 0), none, none, none, none, none, none, none, none, none, none, none, none] [] [sc] _
    refine Ev.s (pc' := 3) rfl (mmS_new (any_ok defs_11) (by decide)) ?_
    show Ev mmPT tbL_law 3 [some (.ref 0), none, none, none, none, none, none, none, none, none, none, none, none] [.ref 1] [sc, (11, phFs)] _
    refine Ev.s (ins := .dup) (pc' := 4) rfl rfl ?_
    refine kc_X11_init rfl (show [sc, (11, phFs)][1]? = some (11, phFs) from rfl) rfl (Nat.le_of_ble_eq_true rfl) eF ?_
    refine Ev.s (ins := .astore_n 1) (pc' := 8) (lv' := [some (.ref 0), some (.ref 1), none, none, none, none, none, none, none, none, none, none, none]) rfl rfl ?_
    refine Ev.s (pc' := 11) rfl (mmS_new (any_ok defs_12) (by decide)) ?_
    rw [rlen, rapp]
    show Ev mmPT tbL_law 11 [some (.ref 0), some (.ref 1), none, none, none, none, none, none, none, none, none, none, none] [.ref 136] (mh sc [(12, [.null, .null, .null, .int 0])] to fl zOb zOb zOb zOb zOb zOb zOb zOb zOb zOb zOb 0) _
    refine Ev.s (ins := .dup) (pc' := 12) rfl rfl ?_
    refine kc_X12_init rfl (rg 0) rfl (Nat.le_of_ble_eq_true rfl) e_Own_init ?_
    refine Ev.s (ins := .astore_n 2) (pc' := 16) (lv' := [some (.ref 0), some (.ref 1), some (.ref 136), none, none, none, none, none, none, none, none, none, none]) rfl rfl ?_
    refine q_ic 1 rfl rfl ?_
    refine Ev.s (ins := .aload_n 0) (pc' := 18) rfl rfl ?_
    refine q_bi 28 rfl rfl ?_
    refine kc_L_cell_2 rfl (Nat.le_of_ble_eq_true rfl) (e_Law_cellv hz) ?_
    refine q_bi 8 rfl rfl ?_
    refine kc_L_below_2 rfl (Nat.le_of_ble_eq_true rfl) (e_Law_below ej) ?_
    refine Ev.s (ins := .iadd) (pc' := 29) rfl rfl ?_
    rw [show (1 : Int32) + nI j = nI (1 + j) from nI_add 1 j]
    refine Ev.s (ins := .istore_n 3) (pc' := 30) (lv' := [some (.ref 0), some (.ref 1), some (.ref 136), some (.int (nI (1 + j))), none, none, none, none, none, none, none, none, none]) rfl rfl ?_
    refine Ev.s (ins := .aload_n 2) (pc' := 31) rfl rfl ?_
    refine Ev.s (ins := .aload_n 1) (pc' := 32) rfl rfl ?_
    refine Ev.s (ins := .aload_n 0) (pc' := 33) rfl rfl ?_
    refine Ev.s (ins := .iload_n 3) (pc' := 34) rfl rfl ?_
    refine kc_X12_isTold_0 rfl ((rg 0).trans h0) rfl (Nat.le_of_ble_eq_true rfl) eT ?_
    refine Ev.if1 rfl rfl (fun _ => ?_) (fun e => absurd e (by decide))
    refine Ev.weak [some (.ref 0), some (.ref 1), none, some (.int (nI (1 + j))), none, none, none, none, none, none, none, none, none] ⟨rfl, rfl, rfl, rfl, rfl, rfl, rfl, rfl, rfl, rfl, rfl, rfl, rfl, trivial⟩ ?_
    exact eL
end LAWSTART
theorem scr_ok {L : Nat} {xs : Nat → Int32} (hL : L ≤ 260) : scOk (mmScr L xs) := by
  refine ⟨rfl, by show (List.map _ _).length < _; rw [List.length_map, List.length_range]; omega, fun i v hv => ?_⟩
  have hv : ((List.range L).map fun k => Value.int (xs k))[i]? = some v := hv
  rw [List.getElem?_map] at hv
  obtain ⟨k, -, e⟩ := Option.map_eq_some_iff.mp hv
  exact ⟨xs k, e.symm⟩
