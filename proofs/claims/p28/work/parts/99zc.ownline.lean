/-! THE OBJECT Own: a line is told -/
theorem get_app {α : Type} {R l : List α} {i : Nat} {c : α} (h : R[i]? = some c) : (R ++ l)[i]? = some c := (List.getElem?_append_left (List.getElem?_eq_some_iff.mp h).1).trans h
theorem get_last {α : Type} (R : List α) (c : α) : (R ++ [c])[R.length]? = some c := by
  rw [List.getElem?_append_right (Nat.le_refl _), Nat.sub_self]
  rfl
theorem set_last {α : Type} (R : List α) (c d : α) : (R ++ [c]).set R.length d = R ++ [d] := by
  rw [List.set_append, if_neg (Nat.lt_irrefl _), Nat.sub_self]
  rfl
theorem get_set {α : Type} {R : List α} {i j : Nat} {c d : α} (h : R[i]? = some c) (hij : j ≠ i) : (R.set j d)[i]? = some c := by
  rw [List.getElem?_set_ne hij]
  exact h
theorem get_self {α : Type} {R : List α} {i : Nat} {c d : α} (h : R[i]? = some c) : (R.set i d)[i]? = some d := List.getElem?_set_self (List.getElem?_eq_some_iff.mp h).1
theorem rowN {f g : Nat → Int32} {b : Nat} {y : Int32} (h : ∀ c, g c = if c = b then y else f c) (hb : b < 10) : (mmIR f 10).set b (.int y) = mmIR g 10 := by
  rw [mmIR_set hb]
  refine congrArg (fun z => mmIR z 10) (funext fun c => ?_)
  rw [h]
  rfl
theorem ne_self (x : Int32) : mmIc .ne x x = false := by
  unfold mmIc
  exact decide_eq_false (fun h => h rfl)
section OIS
variable {rest : List mmC} {to to' : Ob}
theorem OI.app (h : OI rest to) (l : List mmC) : OI (rest ++ l) to := by
  obtain ⟨⟨bl, h0⟩, h1, h2, h12, E, e1, e2, e3⟩ := h
  refine ⟨⟨bl, get_app h0⟩, get_app h1, fun b hb => ?_, get_app h12, E, e1, get_app e2, fun b hb => ?_⟩
  · obtain ⟨L, l1, l2⟩ := h2 b hb
    exact ⟨L, l1, get_app l2⟩
  · obtain ⟨x, t, x1, x2, x3⟩ := e3 b hb
    exact ⟨x, t, x1, x2, get_app x3⟩
theorem OI.setL (h : OI rest to) {b : Nat} (hb : b < 10) {L : List Value} (hL : L.length = 8) : OI (rest.set (2 + b) (1001, L)) to := by
  obtain ⟨⟨bl, h0⟩, h1, h2, h12, E, e1, e2, e3⟩ := h
  refine ⟨⟨bl, get_set h0 (by omega)⟩, get_set h1 (by omega), fun c hc => ?_, get_set h12 (by omega), E, e1, get_set e2 (by omega), fun c hc => ?_⟩
  · obtain ⟨M, m1, m2⟩ := h2 c hc
    by_cases q : c = b
    · subst q
      exact ⟨L, hL, get_self m2⟩
    · exact ⟨M, m1, get_set m2 (by omega)⟩
  · obtain ⟨x, t, x1, x2, x3⟩ := e3 c hc
    exact ⟨x, t, x1, x2, get_set x3 (by omega)⟩
theorem OI.setN (h : OI rest to) (h5 : to'.1 5 = to.1 5) : OI (rest.set 12 (1000, mmIR (to'.1 0) 10)) to' := by
  obtain ⟨⟨bl, h0⟩, h1, h2, h12, E, e1, e2, e3⟩ := h
  refine ⟨⟨bl, get_set h0 (by omega)⟩, get_set h1 (by omega), fun c hc => ?_, get_self h12, E, e1, get_set e2 (by omega), fun c hc => ?_⟩
  · obtain ⟨M, m1, m2⟩ := h2 c hc
    exact ⟨M, m1, get_set m2 (by omega)⟩
  · obtain ⟨x, t, x1, x2, x3⟩ := e3 c hc
    exact ⟨x, t, x1, x2, by rw [h5]; exact get_set x3 (by omega)⟩
end OIS
section OWNL
variable {sc : mmC} {rest : List mmC} {to fl ma tr mk cn nu de ru la tb tf ph : Ob} {cs : Int64} {nb q : Nat}
theorem own_line (hO : OI rest to) (hB : OB rest q) (hTI : TI to fl nb) {b kk j : Nat} {p r : Int32} (hb : b < nb) (hk : kk < 9) (hj : j < 6) (hj0 : 7 ≤ kk → j = 0) (hp : opR p) (hq : opR r) (hq0 : kk = 0 ∨ kk = 6 ∨ kk = 8 → r = 0) : ∃ rest' to' fl', Ev mmPT tbX12_isLine 0 [some (.ref 136), some (.ref 1), some (.int (nI b)), some (.int (nI kk)), some (.int (nI j)), some (.int p), some (.int r), none] [] (mh sc rest to fl ma tr mk cn nu de ru la tb tf ph cs) (some (.int 1), mh sc rest' to' fl' ma tr mk cn nu de ru la tb tf ph cs) ∧ OI rest' to' ∧ TI to' fl' nb ∧ OB rest' (q + 1) := by
  have hb10 : b < 10 := by have := hTI.2.2.1.2.1; omega
  obtain ⟨l, l8, hl⟩ := hTI.2.2.2.1 b
  obtain ⟨⟨bl, h0⟩, -, -, h12, -⟩ := id hO
  have hcl : (nI b).toNatClampNeg = b := nI_clamp (by omega)
  by_cases hl8 : l = 8
  · refine ⟨rest, to, fl, ?_, hO, hTI, by unfold OB at hB ⊢; omega⟩
    subst hl8
    refine Ev.s (ins := .aload_n 0) (pc' := 1) rfl rfl ?_
    refine Ev.s (pc' := 4) rfl (mmS_get ((rg 0).trans h0) ⟨rfl, by decide⟩ rfl) ?_
    refine Ev.s (ins := .iload_n 2) (pc' := 5) rfl rfl ?_
    refine Ev.s (pc' := 6) rfl (mmS_iald ((rg 12).trans h12) ⟨Or.inl rfl, nI_pos (by omega)⟩ (by rw [hcl]; exact mmIR_get hb10)) ?_
    rw [hl]
    refine q_bi 8 rfl rfl ?_
    refine Ev.if2 rfl rfl (fun e => absurd e (by decide)) (fun _ => ?_)
    refine q_ic 1 rfl rfl ?_
    exact Ev.zret rfl rfl (Or.inr rfl) rfl
  · obtain ⟨to', fl', hr, hTI', r0, r5⟩ := line_TI (kk := kk) (j := j) (p := p) (q := r) hTI hb hl (by omega) hk hj hj0 hp hq hq0
    have hO1 := hO.app [(1000, [Value.int (nI kk), .int (nI j), .int p, .int r])]
    obtain ⟨-, g1, g2, -⟩ := id hO1
    obtain ⟨L, hL, gL⟩ := g2 b hb10
    have hO2 := hO1.setL hb10 (L := L.set l (.ref (136 + rest.length))) (by rw [List.length_set]; exact hL)
    obtain ⟨⟨bl2, k0⟩, -, -, k12, -⟩ := id hO2
    have hO3 := hO2.setN (to' := to') r5
    obtain ⟨⟨bl3, m0⟩, -, -, m12, -⟩ := id hO3
    have hne : mmIc .ne (nI l) 8 = true := by
      unfold mmIc
      exact decide_eq_true (fun y => hl8 (nI_inj (a := l) (b := 8) (by omega) (by decide) y))
    refine ⟨_, to', fl', ?_, hO3, hTI', ?_⟩
    · refine Ev.s (ins := .aload_n 0) (pc' := 1) rfl rfl ?_
      refine Ev.s (pc' := 4) rfl (mmS_get ((rg 0).trans h0) ⟨rfl, by decide⟩ rfl) ?_
      refine Ev.s (ins := .iload_n 2) (pc' := 5) rfl rfl ?_
      refine Ev.s (pc' := 6) rfl (mmS_iald ((rg 12).trans h12) ⟨Or.inl rfl, nI_pos (by omega)⟩ (by rw [hcl]; exact mmIR_get hb10)) ?_
      rw [hl]
      refine q_bi 8 rfl rfl ?_
      refine Ev.if2 rfl rfl (fun _ => ?_) (fun e => absurd (hne.symm.trans e) (by decide))
      refine q_ic 4 rfl rfl ?_
      refine Ev.s (pc' := 16) rfl (mmS_newa (by decide)) ?_
      rw [rlen, rapp]
      refine Ev.s (ins := .dup) (pc' := 17) rfl rfl ?_
      refine q_ic 0 rfl rfl ?_
      refine Ev.s (ins := .iload_n 3) (pc' := 19) rfl rfl ?_
      refine Ev.s (pc' := 20) rfl (mmS_iast ((rg _).trans (get_last _ _)) ⟨rfl, by decide, (show (0 : Nat) < 4 by decide), Nat.le_trans (by decide) (Nat.le_add_right 136 _)⟩) ?_
      rw [rgs, set_last]
      refine Ev.s (ins := .dup) (pc' := 21) rfl rfl ?_
      refine q_ic 1 rfl rfl ?_
      refine Ev.s (ins := .iload 4) (pc' := 24) rfl rfl ?_
      refine Ev.s (pc' := 25) rfl (mmS_iast ((rg _).trans (get_last _ _)) ⟨rfl, by decide, (show (1 : Nat) < 4 by decide), Nat.le_trans (by decide) (Nat.le_add_right 136 _)⟩) ?_
      rw [rgs, set_last]
      refine Ev.s (ins := .dup) (pc' := 26) rfl rfl ?_
      refine q_ic 2 rfl rfl ?_
      refine Ev.s (ins := .iload 5) (pc' := 29) rfl rfl ?_
      refine Ev.s (pc' := 30) rfl (mmS_iast ((rg _).trans (get_last _ _)) ⟨rfl, by decide, (show (2 : Nat) < 4 by decide), Nat.le_trans (by decide) (Nat.le_add_right 136 _)⟩) ?_
      rw [rgs, set_last]
      refine Ev.s (ins := .dup) (pc' := 31) rfl rfl ?_
      refine q_ic 3 rfl rfl ?_
      refine Ev.s (ins := .iload 6) (pc' := 34) rfl rfl ?_
      refine Ev.s (pc' := 35) rfl (mmS_iast ((rg _).trans (get_last _ _)) ⟨rfl, by decide, (show (3 : Nat) < 4 by decide), Nat.le_trans (by decide) (Nat.le_add_right 136 _)⟩) ?_
      rw [rgs, set_last]
      show Ev mmPT tbX12_isLine 35 _ _ (mh sc (rest ++ [(1000, [Value.int (nI kk), .int (nI j), .int p, .int r])]) to fl ma tr mk cn nu de ru la tb tf ph cs) _
      refine Ev.s (ins := .astore 7) (pc' := 37) (lv' := [some (.ref 136), some (.ref 1), some (.int (nI b)), some (.int (nI kk)), some (.int (nI j)), some (.int p), some (.int r), some (.ref (136 + rest.length))]) rfl rfl ?_
      refine Ev.s (ins := .aload_n 0) (pc' := 38) rfl rfl ?_
      refine Ev.s (pc' := 41) rfl (mmS_get ((rg 0).trans (get_app h0)) ⟨rfl, by decide⟩ rfl) ?_
      refine Ev.s (ins := .iload_n 2) (pc' := 42) rfl rfl ?_
      refine Ev.s (pc' := 43) rfl (mmS_aald (x := 138 + b) ((rg 1).trans g1) ⟨Or.inr rfl, nI_pos (by omega)⟩ (by rw [hcl]; simp [hb10])) ?_
      refine Ev.s (ins := .aload_n 0) (pc' := 44) rfl rfl ?_
      refine Ev.s (pc' := 47) rfl (mmS_get ((rg 0).trans (get_app h0)) ⟨rfl, by decide⟩ rfl) ?_
      refine Ev.s (ins := .iload_n 2) (pc' := 48) rfl rfl ?_
      refine Ev.s (pc' := 49) rfl (mmS_iald ((rg 12).trans (get_app h12)) ⟨Or.inl rfl, nI_pos (by omega)⟩ (by rw [hcl]; exact mmIR_get hb10)) ?_
      rw [hl]
      refine Ev.s (ins := .aload 7) (pc' := 51) rfl rfl ?_
      refine Ev.s (pc' := 52) rfl (mmS_aast (c := (1001, L)) (d := (1000, [Value.int (nI kk), .int (nI j), .int p, .int r])) (by rw [show 138 + b = 136 + (2 + b) by omega]; exact (rg (2 + b)).trans gL) ((rg _).trans (get_last _ _)) ⟨Or.inl ⟨rfl, rfl⟩, nI_pos (by omega), by rw [nI_clamp (by omega)]; show l < L.length; omega, Nat.le_trans (by decide) (Nat.le_add_right 138 b)⟩) ?_
      rw [rgsb, nI_clamp (by omega)]
      refine Ev.s (ins := .aload_n 0) (pc' := 53) rfl rfl ?_
      refine Ev.s (pc' := 56) rfl (mmS_get ((rg 0).trans k0) ⟨rfl, by decide⟩ rfl) ?_
      refine Ev.s (ins := .iload_n 2) (pc' := 57) rfl rfl ?_
      refine Ev.s (ins := .dup2) (pc' := 58) rfl rfl ?_
      refine Ev.s (pc' := 59) rfl (mmS_iald ((rg 12).trans k12) ⟨Or.inl rfl, nI_pos (by omega)⟩ (by rw [hcl]; exact mmIR_get hb10)) ?_
      rw [hl]
      refine q_ic 1 rfl rfl ?_
      refine Ev.s (ins := .iadd) (pc' := 61) rfl rfl ?_
      refine Ev.s (pc' := 62) rfl (mmS_iast ((rg 12).trans k12) ⟨rfl, nI_pos (by omega), by rw [hcl, mmIR_len]; exact hb10, by decide⟩) ?_
      rw [rgs12, hcl, nI_1]
      show Ev mmPT tbX12_isLine 62 _ _ (mh sc (List.set _ 12 (1000, (mmIR (to.1 0) 10).set b (Value.int (nI (l + 1))))) to fl ma tr mk cn nu de ru la tb tf ph cs) _
      rw [rowN r0 hb10]
      refine Ev.s (ins := .aload_n 1) (pc' := 63) rfl rfl ?_
      refine Ev.s (ins := .iload_n 2) (pc' := 64) rfl rfl ?_
      refine Ev.s (ins := .iload_n 3) (pc' := 65) rfl rfl ?_
      refine Ev.s (ins := .iload 4) (pc' := 67) rfl rfl ?_
      refine Ev.s (ins := .iload 5) (pc' := 69) rfl rfl ?_
      refine Ev.s (ins := .iload 6) (pc' := 71) rfl rfl ?_
      refine kc_X11_line_0 rfl oi_1 rfl (Nat.le_of_ble_eq_true rfl) (e_Ph_line hr) ?_
      refine Ev.s (ins := .aload_n 0) (pc' := 75) rfl rfl ?_
      refine Ev.s (pc' := 78) rfl (mmS_get ((rg 0).trans m0) ⟨rfl, by decide⟩ rfl) ?_
      refine Ev.s (ins := .iload_n 2) (pc' := 79) rfl rfl ?_
      refine Ev.s (pc' := 80) rfl (mmS_iald ((rg 12).trans m12) ⟨Or.inl rfl, nI_pos (by omega)⟩ (by rw [hcl]; exact mmIR_get hb10)) ?_
      rw [r0, if_pos rfl]
      refine q_ic 1 rfl rfl ?_
      refine Ev.s (ins := .isub) (pc' := 82) rfl rfl ?_
      rw [nI_pred]
      refine Ev.if2 rfl rfl (fun e => absurd ((ne_self _).symm.trans e) (by decide)) (fun _ => ?_)
      refine q_ic 1 rfl rfl ?_
      refine Ev.goto rfl ?_
      exact Ev.zret rfl rfl (Or.inr rfl) rfl
    · unfold OB at hB ⊢
      obtain ⟨-, -, -, u12, -⟩ := id hO2
      rw [List.length_set, List.length_set, List.length_append, mmSl_set u12 (by show (mmIR _ 10).length = (mmIR _ 10).length; rw [mmIR_len, mmIR_len]), mmSl_set gL (by show (L.set _ _).length = L.length; rw [List.length_set]), mmSl_push]
      show rest.length + 1 ≤ _ ∧ mmSl rest + 4 ≤ _
      omega
end OWNL
