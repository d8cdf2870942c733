/-! THE OBJECT Own: an end is told -/
theorem OI.setE {rest : List mmC} {to to' : Ob} (h : OI rest to) {E : List Value} (hE : rest[13]? = some (1001, E)) {b y : Nat} {v : Int32} {t : List Value} (hb : b < 10) (hy : rest[y]? = some (1000, .int v :: t)) (hy14 : 14 ≤ y) (h0 : to'.1 0 = to.1 0) (h5 : ∀ c, to'.1 5 c = if c = b then v else to.1 5 c) : OI (rest.set 13 (1001, E.set b (.ref (136 + y)))) to' := by
  obtain ⟨⟨bl, k0⟩, h1, h2, h12, E', e1, e2, e3⟩ := h
  have eE : E' = E := congrArg Prod.snd (Option.some.inj (e2.symm.trans hE))
  subst eE
  refine ⟨⟨bl, get_set k0 (by omega)⟩, get_set h1 (by omega), fun c hc => ?_, by rw [h0]; exact get_set h12 (by omega), _, by rw [List.length_set]; exact e1, get_self e2, fun c hc => ?_⟩
  · obtain ⟨M, m1, m2⟩ := h2 c hc
    exact ⟨M, m1, get_set m2 (by omega)⟩
  · rw [h5]
    by_cases q : c = b
    · subst q
      rw [if_pos rfl]
      exact ⟨y, t, List.getElem?_set_self (by omega), hy14, get_set hy (by omega)⟩
    · rw [if_neg q]
      obtain ⟨x, t', x1, x2, x3⟩ := e3 c hc
      exact ⟨x, t', get_set x1 (fun z => q z.symm), x2, get_set x3 (by omega)⟩
section OWNE
variable {sc : mmC} {rest : List mmC} {to fl ma tr mk cn nu de ru la tb tf ph : Ob} {cs : Int64} {nb q : Nat}
theorem own_end (hO : OI rest to) (hB : OB rest q) (hTI : TI to fl nb) {b e : Nat} {p t o : Int32} (hb : b < nb) (he : e ≤ 2) (hp : opR p) (hp0 : e = 1 → p = 0) (ht0 : e = 0 → t = 0) (ho0 : e < 2 → o = 0) (ht : 1 ≤ e → ∃ c, 1 ≤ c ∧ c < nb ∧ t = nI c) (ho : e = 2 → ∃ c, 1 ≤ c ∧ c < nb ∧ o = nI c) : ∃ rest' to' fl', Ev mmPT tbX12_isEnd 0 [some (.ref 136), some (.ref 1), some (.int (nI b)), some (.int (nI e)), some (.int p), some (.int t), some (.int o), none, none] [] (mh sc rest to fl ma tr mk cn nu de ru la tb tf ph cs) (some (.int 1), mh sc rest' to' fl' ma tr mk cn nu de ru la tb tf ph cs) ∧ OI rest' to' ∧ TI to' fl' nb ∧ OB rest' (q + 1) := by
  have hb10 : b < 10 := by have := hTI.2.2.1.2.1; omega
  have hcl : (nI b).toNatClampNeg = b := nI_clamp (by omega)
  obtain ⟨⟨bl, h0⟩, -, -, -, E, eE, h13, hE⟩ := id hO
  obtain ⟨x, tl, x1, x2, x3⟩ := hE b hb10
  obtain ⟨to', fl', hr, hTI', r0, r5⟩ := end_TI hTI hb he hp hp0 ht0 ho0 ht ho
  have hO1 := hO.app [(1000, [Value.int (nI e), .int p, .int t, .int o])]
  have h14 : 14 ≤ rest.length := by
    have := (List.getElem?_eq_some_iff.mp h13).1
    omega
  have hO2 := hO1.setE (to' := to') (get_app h13) hb10 (get_last rest (1000, [Value.int (nI e), .int p, .int t, .int o])) h14 r0 r5
  refine ⟨_, to', fl', ?_, hO2, hTI', ?_⟩
  · refine Ev.s (ins := .aload_n 0) (pc' := 1) rfl rfl ?_
    refine Ev.s (pc' := 4) rfl (mmS_get ((rg 0).trans h0) ⟨rfl, by decide⟩ rfl) ?_
    refine Ev.s (ins := .iload_n 2) (pc' := 5) rfl rfl ?_
    refine Ev.s (pc' := 6) rfl (mmS_aald ((rg 13).trans h13) ⟨Or.inl rfl, nI_pos (by omega)⟩ (by rw [hcl]; exact x1)) ?_
    refine q_ic 0 rfl rfl ?_
    refine Ev.s (pc' := 8) rfl (mmS_iald ((rg x).trans x3) ⟨Or.inl rfl, by decide⟩ rfl) ?_
    refine Ev.s (ins := .istore 7) (pc' := 10) (lv' := [some (.ref 136), some (.ref 1), some (.int (nI b)), some (.int (nI e)), some (.int p), some (.int t), some (.int o), some (.int (to.1 5 b)), none]) rfl rfl ?_
    refine q_ic 4 rfl rfl ?_
    refine Ev.s (pc' := 13) rfl (mmS_newa (by decide)) ?_
    rw [rlen, rapp]
    refine Ev.s (ins := .dup) (pc' := 14) rfl rfl ?_
    refine q_ic 0 rfl rfl ?_
    refine Ev.s (ins := .iload_n 3) (pc' := 16) rfl rfl ?_
    refine Ev.s (pc' := 17) rfl (mmS_iast ((rg _).trans (get_last _ _)) ⟨rfl, by decide, (show (0 : Nat) < 4 by decide), Nat.le_trans (by decide) (Nat.le_add_right 136 _)⟩) ?_
    rw [rgs, set_last]
    refine Ev.s (ins := .dup) (pc' := 18) rfl rfl ?_
    refine q_ic 1 rfl rfl ?_
    refine Ev.s (ins := .iload 4) (pc' := 21) rfl rfl ?_
    refine Ev.s (pc' := 22) rfl (mmS_iast ((rg _).trans (get_last _ _)) ⟨rfl, by decide, (show (1 : Nat) < 4 by decide), Nat.le_trans (by decide) (Nat.le_add_right 136 _)⟩) ?_
    rw [rgs, set_last]
    refine Ev.s (ins := .dup) (pc' := 23) rfl rfl ?_
    refine q_ic 2 rfl rfl ?_
    refine Ev.s (ins := .iload 5) (pc' := 26) rfl rfl ?_
    refine Ev.s (pc' := 27) rfl (mmS_iast ((rg _).trans (get_last _ _)) ⟨rfl, by decide, (show (2 : Nat) < 4 by decide), Nat.le_trans (by decide) (Nat.le_add_right 136 _)⟩) ?_
    rw [rgs, set_last]
    refine Ev.s (ins := .dup) (pc' := 28) rfl rfl ?_
    refine q_ic 3 rfl rfl ?_
    refine Ev.s (ins := .iload 6) (pc' := 31) rfl rfl ?_
    refine Ev.s (pc' := 32) rfl (mmS_iast ((rg _).trans (get_last _ _)) ⟨rfl, by decide, (show (3 : Nat) < 4 by decide), Nat.le_trans (by decide) (Nat.le_add_right 136 _)⟩) ?_
    rw [rgs, set_last]
    show Ev mmPT tbX12_isEnd 32 _ _ (mh sc (rest ++ [(1000, [Value.int (nI e), .int p, .int t, .int o])]) to fl ma tr mk cn nu de ru la tb tf ph cs) _
    refine Ev.s (ins := .astore 8) (pc' := 34) (lv' := [some (.ref 136), some (.ref 1), some (.int (nI b)), some (.int (nI e)), some (.int p), some (.int t), some (.int o), some (.int (to.1 5 b)), some (.ref (136 + rest.length))]) rfl rfl ?_
    refine Ev.s (ins := .aload_n 0) (pc' := 35) rfl rfl ?_
    refine Ev.s (pc' := 38) rfl (mmS_get ((rg 0).trans (get_app h0)) ⟨rfl, by decide⟩ rfl) ?_
    refine Ev.s (ins := .iload_n 2) (pc' := 39) rfl rfl ?_
    refine Ev.s (ins := .aload 8) (pc' := 41) rfl rfl ?_
    refine Ev.s (pc' := 42) rfl (mmS_aast ((rg 13).trans (get_app h13)) ((rg _).trans (get_last _ _)) ⟨Or.inl ⟨rfl, rfl⟩, nI_pos (by omega), by rw [hcl]; show b < E.length; omega, by decide⟩) ?_
    rw [rgs13, hcl]
    refine Ev.s (ins := .aload_n 1) (pc' := 43) rfl rfl ?_
    refine Ev.s (ins := .iload_n 2) (pc' := 44) rfl rfl ?_
    refine Ev.s (ins := .iload_n 3) (pc' := 45) rfl rfl ?_
    refine Ev.s (ins := .iload 4) (pc' := 47) rfl rfl ?_
    refine Ev.s (ins := .iload 5) (pc' := 49) rfl rfl ?_
    refine Ev.s (ins := .iload 6) (pc' := 51) rfl rfl ?_
    refine kc_X11_end_0 rfl oi_1 rfl (Nat.le_of_ble_eq_true rfl) (e_Ph_end hr) ?_
    refine Ev.s (ins := .iload 7) (pc' := 56) rfl rfl ?_
    refine Ev.if2 rfl rfl (fun e => absurd ((ne_self _).symm.trans e) (by decide)) (fun _ => ?_)
    refine q_ic 1 rfl rfl ?_
    refine Ev.goto rfl ?_
    exact Ev.zret rfl rfl (Or.inr rfl) rfl
  · unfold OB at hB ⊢
    rw [List.length_set, List.length_append, mmSl_set (get_app h13) (by show (E.set _ _).length = E.length; rw [List.length_set]), mmSl_push]
    show rest.length + 1 ≤ _ ∧ mmSl rest + 4 ≤ _
    omega
end OWNE
