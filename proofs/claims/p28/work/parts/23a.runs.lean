/-! THE RUNS ARE THE FUNCTIONS, by program: 1 -/
section RF0
variable {sc : mmC} {rest : List mmC} {to fl ma tr mk cn nu de ru la tb tf ph : Ob} {cs : Int64}
set_option maxRecDepth 100000 in
theorem e_Flow_forget_25_0 {x : Option Value × List mmC} (hk : (kO (fun r : Ob => (none, mh sc rest to r ma tr mk cn nu de ru la tb tf ph cs)) x) (Flow_forget fl)) : Ev mmPT tbX2_forget 0 [some (.ref 25)] [] (mh sc rest to fl ma tr mk cn nu de ru la tb tf ph cs) x := by
  unfold Flow_forget at hk
  refine Ev.s (ins := .aload_n 0) (pc' := 1) rfl rfl ?_
  refine gf_25_0 rfl ?_
  refine q_ic 0 rfl rfl ?_
  refine fl_26 rfl (Nat.le_of_ble_eq_true rfl) ?_
  exact Ev.vret rfl rfl hk
set_option maxRecDepth 100000 in
theorem e_Flow_forget_25 : Ev mmPT tbX2_forget 0 [some (.ref 25)] [] (mh sc rest to fl ma tr mk cn nu de ru la tb tf ph cs) ((fun r : Ob => (none, mh sc rest to r ma tr mk cn nu de ru la tb tf ph cs)) (Flow_forget fl)) := e_Flow_forget_25_0 (by exact rfl)
set_option maxRecDepth 100000 in
theorem e_Ph_bit_16 {x : Option Value × List mmC} (hk : (kO (fun r : Int32 => (some (.int r), mh sc rest to fl ma tr mk cn nu de ru la tb tf ph cs)) x) (Ph_bit_16)) : Ev mmPT tbX11_bit 16 [none] [] (mh sc rest to fl ma tr mk cn nu de ru la tb tf ph cs) x := by
  unfold Ph_bit_16 at hk
  refine q_ic 0 rfl rfl ?_
  exact Ev.iret rfl rfl hk
set_option maxRecDepth 100000 in
theorem e_Ph_bit_0 {v0 : Int32} {x : Option Value × List mmC} (hk : (kO (fun r : Int32 => (some (.int r), mh sc rest to fl ma tr mk cn nu de ru la tb tf ph cs)) x) (Ph_bit v0)) : Ev mmPT tbX11_bit 0 [some (.int v0)] [] (mh sc rest to fl ma tr mk cn nu de ru la tb tf ph cs) x := by
  unfold Ph_bit at hk
  refine Ev.s (ins := .iload_n 0) (pc' := 1) rfl rfl ?_
  refine q_lt rfl hk (fun c1 hk => ?_) (fun c1 hk => ?_)
  · refine Ev.weak [none] ⟨rfl, trivial⟩ ?_
    exact e_Ph_bit_16 hk
  · refine Ev.s (ins := .iload_n 0) (pc' := 5) rfl rfl ?_
    refine q_bi 20 rfl rfl ?_
    refine q_cge rfl hk (fun c2 hk => ?_) (fun c2 hk => ?_)
    · refine q_ic 1 rfl rfl ?_
      refine Ev.s (ins := .iload_n 0) (pc' := 12) rfl rfl ?_
      refine Ev.s (ins := .ishl) (pc' := 13) rfl rfl ?_
      refine Ev.goto rfl ?_
      exact Ev.iret rfl rfl hk
    · refine Ev.weak [none] ⟨rfl, trivial⟩ ?_
      exact e_Ph_bit_16 hk
set_option maxRecDepth 100000 in
theorem e_Ph_bit {v0 : Int32} : Ev mmPT tbX11_bit 0 [some (.int v0)] [] (mh sc rest to fl ma tr mk cn nu de ru la tb tf ph cs) ((fun r : Int32 => (some (.int r), mh sc rest to fl ma tr mk cn nu de ru la tb tf ph cs)) (Ph_bit v0)) := e_Ph_bit_0 (by exact rfl)
set_option maxRecDepth 100000 in
theorem e_Ph_has_23 {x : Option Value × List mmC} (hk : (kO (fun r : Bool => (some (.int (b2i r)), mh sc rest to fl ma tr mk cn nu de ru la tb tf ph cs)) x) (Ph_has_23)) : Ev mmPT tbX11_has 23 [none, none] [] (mh sc rest to fl ma tr mk cn nu de ru la tb tf ph cs) x := by
  unfold Ph_has_23 at hk
  refine q_ic 0 rfl rfl ?_
  exact Ev.zret rfl rfl (Or.inl rfl) hk
set_option maxRecDepth 100000 in
theorem e_Ph_has_0 {v0 : Int32} {v1 : Int32} {x : Option Value × List mmC} (hk : (kO (fun r : Bool => (some (.int (b2i r)), mh sc rest to fl ma tr mk cn nu de ru la tb tf ph cs)) x) (Ph_has v0 v1)) : Ev mmPT tbX11_has 0 [some (.int v0), some (.int v1)] [] (mh sc rest to fl ma tr mk cn nu de ru la tb tf ph cs) x := by
  unfold Ph_has at hk
  refine Ev.s (ins := .iload_n 1) (pc' := 1) rfl rfl ?_
  refine q_lt rfl hk (fun c1 hk => ?_) (fun c1 hk => ?_)
  · refine Ev.weak [none, none] ⟨rfl, rfl, trivial⟩ ?_
    exact e_Ph_has_23 hk
  · refine Ev.s (ins := .iload_n 1) (pc' := 5) rfl rfl ?_
    refine q_bi 20 rfl rfl ?_
    refine q_cge rfl hk (fun c2 hk => ?_) (fun c2 hk => ?_)
    · refine Ev.s (ins := .iload_n 0) (pc' := 11) rfl rfl ?_
      refine Ev.s (ins := .iload_n 1) (pc' := 12) rfl rfl ?_
      refine Ev.s (ins := .ishr) (pc' := 13) rfl rfl ?_
      refine q_ic 1 rfl rfl ?_
      refine Ev.s (ins := .iand) (pc' := 15) rfl rfl ?_
      refine q_ic 1 rfl rfl ?_
      refine q_cne rfl hk (fun c3 hk => ?_) (fun c3 hk => ?_)
      · refine q_ic 1 rfl rfl ?_
        refine Ev.goto rfl ?_
        exact Ev.zret rfl rfl (Or.inr rfl) hk
      · refine Ev.weak [none, none] ⟨rfl, rfl, trivial⟩ ?_
        exact e_Ph_has_23 hk
    · refine Ev.weak [none, none] ⟨rfl, rfl, trivial⟩ ?_
      exact e_Ph_has_23 hk
set_option maxRecDepth 100000 in
theorem e_Ph_has {v0 : Int32} {v1 : Int32} : Ev mmPT tbX11_has 0 [some (.int v0), some (.int v1)] [] (mh sc rest to fl ma tr mk cn nu de ru la tb tf ph cs) ((fun r : Bool => (some (.int (b2i r)), mh sc rest to fl ma tr mk cn nu de ru la tb tf ph cs)) (Ph_has v0 v1)) := e_Ph_has_0 (by exact rfl)
set_option maxRecDepth 100000 in
theorem e_Flow_reachedWithout_25_56 {v1 : Int32} {v2 : Int32} {v3 : Int32} {v4 : Int32} {v5 : Int32} {x : Option Value × List mmC} (b14 : v3 < 2147483647) (b26 : v5 < 2147483647) (hk : (kK (fun a : Int32 × Int32 => mu a.2) (mu v5) (fun a : Int32 × Int32 => Ev mmPT tbX2_reachedWithout 26 [some (.ref 25), some (.int v1), some (.int v2), some (.int v3), some (.int a.1), some (.int a.2)] [] (mh sc rest to fl ma tr mk cn nu de ru la tb tf ph cs) x) (kK (fun a : Int32 × Int32 => mu a.2) (mu v3) (fun a : Int32 × Int32 => Ev mmPT tbX2_reachedWithout 14 [some (.ref 25), some (.int v1), some (.int a.1), some (.int a.2), none, none] [] (mh sc rest to fl ma tr mk cn nu de ru la tb tf ph cs) x) (kO (fun r : Int32 => (some (.int r), mh sc rest to fl ma tr mk cn nu de ru la tb tf ph cs)) x))) (Flow_reachedWithout_56 fl v1 v2 v3 v4 v5)) : Ev mmPT tbX2_reachedWithout 56 [some (.ref 25), some (.int v1), some (.int v2), some (.int v3), some (.int v4), some (.int v5)] [] (mh sc rest to fl ma tr mk cn nu de ru la tb tf ph cs) x := by
  unfold Flow_reachedWithout_56 at hk
  refine q_inc 1 [some (.ref 25), some (.int v1), some (.int v2), some (.int v3), some (.int v4), some (.int (v5 + 1))] rfl rfl rfl rfl ?_
  refine Ev.goto rfl ?_
  replace hk := kK_l hk
  exact hk (mu_lt b26)
set_option maxRecDepth 100000 in
theorem e_Flow_reachedWithout_25_L26b {v1 : Int32} {v2 : Int32} {v3 : Int32} {v4 : Int32} {v5 : Int32} {x : Option Value × List mmC} (b14 : v3 < 2147483647) (hk : (kK (fun a : Int32 × Int32 => mu a.2) (mu v5) (fun a : Int32 × Int32 => Ev mmPT tbX2_reachedWithout 26 [some (.ref 25), some (.int v1), some (.int v2), some (.int v3), some (.int a.1), some (.int a.2)] [] (mh sc rest to fl ma tr mk cn nu de ru la tb tf ph cs) x) (kK (fun a : Int32 × Int32 => mu a.2) (mu v3) (fun a : Int32 × Int32 => Ev mmPT tbX2_reachedWithout 14 [some (.ref 25), some (.int v1), some (.int a.1), some (.int a.2), none, none] [] (mh sc rest to fl ma tr mk cn nu de ru la tb tf ph cs) x) (kO (fun r : Int32 => (some (.int r), mh sc rest to fl ma tr mk cn nu de ru la tb tf ph cs)) x))) (Flow_reachedWithout_L26b fl v1 v2 v3 v4 v5)) : Ev mmPT tbX2_reachedWithout 26 [some (.ref 25), some (.int v1), some (.int v2), some (.int v3), some (.int v4), some (.int v5)] [] (mh sc rest to fl ma tr mk cn nu de ru la tb tf ph cs) x := by
  unfold Flow_reachedWithout_L26b at hk
  refine Ev.s (ins := .iload 5) (pc' := 28) rfl rfl ?_
  refine q_bi 10 rfl rfl ?_
  refine q_cge rfl hk (fun c1 hk => ?_) (fun c1 hk => ?_)
  · refine Ev.s (ins := .iload_n 2) (pc' := 34) rfl rfl ?_
    refine Ev.s (ins := .iload 5) (pc' := 36) rfl rfl ?_
    refine kc_X11_has_3 rfl (Nat.le_of_ble_eq_true rfl) (e_Ph_has) ?_
    refine q_beq rfl hk (fun c2 hk => ?_) (fun c2 hk => ?_)
    · refine Ev.s (ins := .iload 4) (pc' := 44) rfl rfl ?_
      refine Ev.s (ins := .aload_n 0) (pc' := 45) rfl rfl ?_
      refine gf_25_0 rfl ?_
      refine Ev.s (ins := .iload 5) (pc' := 50) rfl rfl ?_
      refine at_26 (oat fl 0 10 v5) rfl (Nat.le_of_ble_eq_true rfl) rfl ?_
      refine Ev.s (ins := .ior) (pc' := 54) rfl rfl ?_
      refine Ev.s (ins := .istore 4) (pc' := 56) (lv' := [some (.ref 25), some (.int v1), some (.int v2), some (.int v3), some (.int (v4 ||| (oat fl 0 10 v5))), some (.int v5)]) rfl rfl ?_
      exact e_Flow_reachedWithout_25_56 b14 (lt31 c1) hk
    · exact e_Flow_reachedWithout_25_56 b14 (lt31 c1) hk
  · replace hk := kK_r hk
    refine Ev.s (ins := .iload 4) (pc' := 64) rfl rfl ?_
    refine Ev.s (ins := .iload_n 1) (pc' := 65) rfl rfl ?_
    refine kc_X11_bit_3 rfl (Nat.le_of_ble_eq_true rfl) (e_Ph_bit) ?_
    refine q_ic (-1) rfl rfl ?_
    refine Ev.s (ins := .ixor) (pc' := 70) rfl rfl ?_
    refine Ev.s (ins := .iand) (pc' := 71) rfl rfl ?_
    refine Ev.s (ins := .istore_n 2) (pc' := 72) (lv' := [some (.ref 25), some (.int v1), some (.int (v4 &&& ((Ph_bit v1) ^^^ (-1)))), some (.int v3), some (.int v4), some (.int v5)]) rfl rfl ?_
    refine q_inc 1 [some (.ref 25), some (.int v1), some (.int (v4 &&& ((Ph_bit v1) ^^^ (-1)))), some (.int (v3 + 1)), some (.int v4), some (.int v5)] rfl rfl rfl rfl ?_
    refine Ev.goto rfl ?_
    refine Ev.weak [some (.ref 25), some (.int v1), some (.int (v4 &&& ((Ph_bit v1) ^^^ (-1)))), some (.int (v3 + 1)), none, none] ⟨rfl, rfl, rfl, rfl, rfl, rfl, trivial⟩ ?_
    replace hk := kK_l hk
    exact hk (mu_lt b14)
set_option maxRecDepth 100000 in
theorem e_Flow_reachedWithout_25_L26 {v1 : Int32} {v2 : Int32} {v3 : Int32} {v4 : Int32} {v5 : Int32} {x : Option Value × List mmC} (b14 : v3 < 2147483647) (hk : (kK (fun a : Int32 × Int32 => mu a.2) (mu v3) (fun a : Int32 × Int32 => Ev mmPT tbX2_reachedWithout 14 [some (.ref 25), some (.int v1), some (.int a.1), some (.int a.2), none, none] [] (mh sc rest to fl ma tr mk cn nu de ru la tb tf ph cs) x) (kO (fun r : Int32 => (some (.int r), mh sc rest to fl ma tr mk cn nu de ru la tb tf ph cs)) x)) (Flow_reachedWithout_L26 fl v1 v2 v3 v4 v5)) : Ev mmPT tbX2_reachedWithout 26 [some (.ref 25), some (.int v1), some (.int v2), some (.int v3), some (.int v4), some (.int v5)] [] (mh sc rest to fl ma tr mk cn nu de ru la tb tf ph cs) x :=
  k_loop (B := (fun a : Int32 × Int32 => Flow_reachedWithout_L26b fl v1 v2 v3 a.1 a.2)) (μ := fun a : Int32 × Int32 => mu a.2) (E := fun a : Int32 × Int32 => Ev mmPT tbX2_reachedWithout 26 [some (.ref 25), some (.int v1), some (.int v2), some (.int v3), some (.int a.1), some (.int a.2)] [] (mh sc rest to fl ma tr mk cn nu de ru la tb tf ph cs) x) (X := (kK (fun a : Int32 × Int32 => mu a.2) (mu v3) (fun a : Int32 × Int32 => Ev mmPT tbX2_reachedWithout 14 [some (.ref 25), some (.int v1), some (.int a.1), some (.int a.2), none, none] [] (mh sc rest to fl ma tr mk cn nu de ru la tb tf ph cs) x) (kO (fun r : Int32 => (some (.int r), mh sc rest to fl ma tr mk cn nu de ru la tb tf ph cs)) x))) (fun a hk => e_Flow_reachedWithout_25_L26b b14 hk) (v4, v5) hk
set_option maxRecDepth 100000 in
theorem e_Flow_reachedWithout_25_L14b {v1 : Int32} {v2 : Int32} {v3 : Int32} {x : Option Value × List mmC} (hk : (kK (fun a : Int32 × Int32 => mu a.2) (mu v3) (fun a : Int32 × Int32 => Ev mmPT tbX2_reachedWithout 14 [some (.ref 25), some (.int v1), some (.int a.1), some (.int a.2), none, none] [] (mh sc rest to fl ma tr mk cn nu de ru la tb tf ph cs) x) (kO (fun r : Int32 => (some (.int r), mh sc rest to fl ma tr mk cn nu de ru la tb tf ph cs)) x)) (Flow_reachedWithout_L14b fl v1 v2 v3)) : Ev mmPT tbX2_reachedWithout 14 [some (.ref 25), some (.int v1), some (.int v2), some (.int v3), none, none] [] (mh sc rest to fl ma tr mk cn nu de ru la tb tf ph cs) x := by
  unfold Flow_reachedWithout_L14b at hk
  refine Ev.s (ins := .iload_n 3) (pc' := 15) rfl rfl ?_
  refine q_bi 10 rfl rfl ?_
  refine q_cge rfl hk (fun c1 hk => ?_) (fun c1 hk => ?_)
  · refine Ev.s (ins := .iload_n 2) (pc' := 21) rfl rfl ?_
    refine Ev.s (ins := .istore 4) (pc' := 23) (lv' := [some (.ref 25), some (.int v1), some (.int v2), some (.int v3), some (.int v2), none]) rfl rfl ?_
    refine q_ic 0 rfl rfl ?_
    refine Ev.s (ins := .istore 5) (pc' := 26) (lv' := [some (.ref 25), some (.int v1), some (.int v2), some (.int v3), some (.int v2), some (.int 0)]) rfl rfl ?_
    exact e_Flow_reachedWithout_25_L26 (lt31 c1) hk
  · replace hk := kK_r hk
    refine Ev.s (ins := .iload_n 2) (pc' := 79) rfl rfl ?_
    exact Ev.iret rfl rfl hk
set_option maxRecDepth 100000 in
theorem e_Flow_reachedWithout_25_L14 {v1 : Int32} {v2 : Int32} {v3 : Int32} {x : Option Value × List mmC} (hk : (kO (fun r : Int32 => (some (.int r), mh sc rest to fl ma tr mk cn nu de ru la tb tf ph cs)) x) (Flow_reachedWithout_L14 fl v1 v2 v3)) : Ev mmPT tbX2_reachedWithout 14 [some (.ref 25), some (.int v1), some (.int v2), some (.int v3), none, none] [] (mh sc rest to fl ma tr mk cn nu de ru la tb tf ph cs) x :=
  k_loop (B := (fun a : Int32 × Int32 => Flow_reachedWithout_L14b fl v1 a.1 a.2)) (μ := fun a : Int32 × Int32 => mu a.2) (E := fun a : Int32 × Int32 => Ev mmPT tbX2_reachedWithout 14 [some (.ref 25), some (.int v1), some (.int a.1), some (.int a.2), none, none] [] (mh sc rest to fl ma tr mk cn nu de ru la tb tf ph cs) x) (X := (kO (fun r : Int32 => (some (.int r), mh sc rest to fl ma tr mk cn nu de ru la tb tf ph cs)) x)) (fun a hk => e_Flow_reachedWithout_25_L14b hk) (v2, v3) hk
set_option maxRecDepth 100000 in
theorem e_Flow_reachedWithout_25_0 {v1 : Int32} {x : Option Value × List mmC} (hk : (kO (fun r : Int32 => (some (.int r), mh sc rest to fl ma tr mk cn nu de ru la tb tf ph cs)) x) (Flow_reachedWithout fl v1)) : Ev mmPT tbX2_reachedWithout 0 [some (.ref 25), some (.int v1), none, none, none, none] [] (mh sc rest to fl ma tr mk cn nu de ru la tb tf ph cs) x := by
  unfold Flow_reachedWithout at hk
  refine q_ic 0 rfl rfl ?_
  refine kc_X11_bit_3 rfl (Nat.le_of_ble_eq_true rfl) (e_Ph_bit) ?_
  refine Ev.s (ins := .iload_n 1) (pc' := 5) rfl rfl ?_
  refine kc_X11_bit_3 rfl (Nat.le_of_ble_eq_true rfl) (e_Ph_bit) ?_
  refine q_ic (-1) rfl rfl ?_
  refine Ev.s (ins := .ixor) (pc' := 10) rfl rfl ?_
  refine Ev.s (ins := .iand) (pc' := 11) rfl rfl ?_
  refine Ev.s (ins := .istore_n 2) (pc' := 12) (lv' := [some (.ref 25), some (.int v1), some (.int ((Ph_bit 0) &&& ((Ph_bit v1) ^^^ (-1)))), none, none, none]) rfl rfl ?_
  refine q_ic 0 rfl rfl ?_
  refine Ev.s (ins := .istore_n 3) (pc' := 14) (lv' := [some (.ref 25), some (.int v1), some (.int ((Ph_bit 0) &&& ((Ph_bit v1) ^^^ (-1)))), some (.int 0), none, none]) rfl rfl ?_
  exact e_Flow_reachedWithout_25_L14 hk
set_option maxRecDepth 100000 in
theorem e_Flow_reachedWithout_25 {v1 : Int32} : Ev mmPT tbX2_reachedWithout 0 [some (.ref 25), some (.int v1), none, none, none, none] [] (mh sc rest to fl ma tr mk cn nu de ru la tb tf ph cs) ((fun r : Int32 => (some (.int r), mh sc rest to fl ma tr mk cn nu de ru la tb tf ph cs)) (Flow_reachedWithout fl v1)) := e_Flow_reachedWithout_25_0 (by exact rfl)
set_option maxRecDepth 100000 in
theorem e_Flow_addDominator_25_37 {v1 : Int32} {v2 : Int32} {v3 : Int32} {x : Option Value × List mmC} (b2 : v3 < 2147483647) (hk : (kK (fun a : Int32 × Ob => mu a.1) (mu v3) (fun a : Int32 × Ob => Ev mmPT tbX2_addDominator 2 [some (.ref 25), some (.int v1), some (.int v2), some (.int a.1)] [] (mh sc rest to a.2 ma tr mk cn nu de ru la tb tf ph cs) x) (kO (fun r : Ob => (none, mh sc rest to r ma tr mk cn nu de ru la tb tf ph cs)) x)) (Flow_addDominator_37 fl v1 v2 v3)) : Ev mmPT tbX2_addDominator 37 [some (.ref 25), some (.int v1), some (.int v2), some (.int v3)] [] (mh sc rest to fl ma tr mk cn nu de ru la tb tf ph cs) x := by
  unfold Flow_addDominator_37 at hk
  refine q_inc 1 [some (.ref 25), some (.int v1), some (.int v2), some (.int (v3 + 1))] rfl rfl rfl rfl ?_
  refine Ev.goto rfl ?_
  replace hk := kK_l hk
  exact hk (mu_lt b2)
set_option maxRecDepth 100000 in
theorem e_Flow_addDominator_25_L2b {v1 : Int32} {v2 : Int32} {v3 : Int32} {x : Option Value × List mmC} (hk : (kK (fun a : Int32 × Ob => mu a.1) (mu v3) (fun a : Int32 × Ob => Ev mmPT tbX2_addDominator 2 [some (.ref 25), some (.int v1), some (.int v2), some (.int a.1)] [] (mh sc rest to a.2 ma tr mk cn nu de ru la tb tf ph cs) x) (kO (fun r : Ob => (none, mh sc rest to r ma tr mk cn nu de ru la tb tf ph cs)) x)) (Flow_addDominator_L2b fl v1 v2 v3)) : Ev mmPT tbX2_addDominator 2 [some (.ref 25), some (.int v1), some (.int v2), some (.int v3)] [] (mh sc rest to fl ma tr mk cn nu de ru la tb tf ph cs) x := by
  unfold Flow_addDominator_L2b at hk
  refine Ev.s (ins := .iload_n 3) (pc' := 3) rfl rfl ?_
  refine q_bi 10 rfl rfl ?_
  refine q_cge rfl hk (fun c1 hk => ?_) (fun c1 hk => ?_)
  · refine Ev.s (ins := .iload_n 1) (pc' := 9) rfl rfl ?_
    refine Ev.s (ins := .iload_n 3) (pc' := 10) rfl rfl ?_
    refine kc_X11_has_3 rfl (Nat.le_of_ble_eq_true rfl) (e_Ph_has) ?_
    refine q_beq rfl hk (fun c2 hk => ?_) (fun c2 hk => ?_)
    · refine Ev.s (ins := .aload_n 0) (pc' := 17) rfl rfl ?_
      refine gf_25_2 rfl ?_
      refine Ev.s (ins := .iload_n 3) (pc' := 21) rfl rfl ?_
      refine Ev.s (ins := .aload_n 0) (pc' := 22) rfl rfl ?_
      refine gf_25_2 rfl ?_
      refine Ev.s (ins := .iload_n 3) (pc' := 26) rfl rfl ?_
      refine at_30 (oat fl 2 10 v3) rfl (Nat.le_of_ble_eq_true rfl) rfl ?_
      refine Ev.s (ins := .iload_n 2) (pc' := 30) rfl rfl ?_
      refine kc_X11_bit_3 rfl (Nat.le_of_ble_eq_true rfl) (e_Ph_bit) ?_
      refine Ev.s (ins := .ior) (pc' := 34) rfl rfl ?_
      refine pt_30 rfl (Nat.le_of_ble_eq_true rfl) ?_
      exact e_Flow_addDominator_25_37 (lt31 c1) hk
    · exact e_Flow_addDominator_25_37 (lt31 c1) hk
  · replace hk := kK_r hk
    exact Ev.vret rfl rfl hk
set_option maxRecDepth 100000 in
theorem e_Flow_addDominator_25_L2 {v1 : Int32} {v2 : Int32} {v3 : Int32} {x : Option Value × List mmC} (hk : (kO (fun r : Ob => (none, mh sc rest to r ma tr mk cn nu de ru la tb tf ph cs)) x) (Flow_addDominator_L2 fl v1 v2 v3)) : Ev mmPT tbX2_addDominator 2 [some (.ref 25), some (.int v1), some (.int v2), some (.int v3)] [] (mh sc rest to fl ma tr mk cn nu de ru la tb tf ph cs) x :=
  k_loop (B := (fun a : Int32 × Ob => Flow_addDominator_L2b a.2 v1 v2 a.1)) (μ := fun a : Int32 × Ob => mu a.1) (E := fun a : Int32 × Ob => Ev mmPT tbX2_addDominator 2 [some (.ref 25), some (.int v1), some (.int v2), some (.int a.1)] [] (mh sc rest to a.2 ma tr mk cn nu de ru la tb tf ph cs) x) (X := (kO (fun r : Ob => (none, mh sc rest to r ma tr mk cn nu de ru la tb tf ph cs)) x)) (fun a hk => e_Flow_addDominator_25_L2b hk) (v3, fl) hk
set_option maxRecDepth 100000 in
theorem e_Flow_addDominator_25_0 {v1 : Int32} {v2 : Int32} {x : Option Value × List mmC} (hk : (kO (fun r : Ob => (none, mh sc rest to r ma tr mk cn nu de ru la tb tf ph cs)) x) (Flow_addDominator fl v1 v2)) : Ev mmPT tbX2_addDominator 0 [some (.ref 25), some (.int v1), some (.int v2), none] [] (mh sc rest to fl ma tr mk cn nu de ru la tb tf ph cs) x := by
  unfold Flow_addDominator at hk
  refine q_ic 0 rfl rfl ?_
  refine Ev.s (ins := .istore_n 3) (pc' := 2) (lv' := [some (.ref 25), some (.int v1), some (.int v2), some (.int 0)]) rfl rfl ?_
  exact e_Flow_addDominator_25_L2 hk
set_option maxRecDepth 100000 in
theorem e_Flow_addDominator_25 {v1 : Int32} {v2 : Int32} : Ev mmPT tbX2_addDominator 0 [some (.ref 25), some (.int v1), some (.int v2), none] [] (mh sc rest to fl ma tr mk cn nu de ru la tb tf ph cs) ((fun r : Ob => (none, mh sc rest to r ma tr mk cn nu de ru la tb tf ph cs)) (Flow_addDominator fl v1 v2)) := e_Flow_addDominator_25_0 (by exact rfl)
set_option maxRecDepth 100000 in
theorem e_Flow_firstReady_25_44 {v1 : Int32} {v2 : Int32} {x : Option Value × List mmC} (b2 : v2 < 2147483647) (hk : (kK (fun a : Int32 => mu a) (mu v2) (fun a : Int32 => Ev mmPT tbX2_firstReady 2 [some (.ref 25), some (.int v1), some (.int a)] [] (mh sc rest to fl ma tr mk cn nu de ru la tb tf ph cs) x) (kO (fun r : Int32 => (some (.int r), mh sc rest to fl ma tr mk cn nu de ru la tb tf ph cs)) x)) (Flow_firstReady_44 fl v1 v2)) : Ev mmPT tbX2_firstReady 44 [some (.ref 25), some (.int v1), some (.int v2)] [] (mh sc rest to fl ma tr mk cn nu de ru la tb tf ph cs) x := by
  unfold Flow_firstReady_44 at hk
  refine q_inc 1 [some (.ref 25), some (.int v1), some (.int (v2 + 1))] rfl rfl rfl rfl ?_
  refine Ev.goto rfl ?_
  replace hk := kK_l hk
  exact hk (mu_lt b2)
set_option maxRecDepth 100000 in
theorem e_Flow_firstReady_25_L2b {v1 : Int32} {v2 : Int32} {x : Option Value × List mmC} (hk : (kK (fun a : Int32 => mu a) (mu v2) (fun a : Int32 => Ev mmPT tbX2_firstReady 2 [some (.ref 25), some (.int v1), some (.int a)] [] (mh sc rest to fl ma tr mk cn nu de ru la tb tf ph cs) x) (kO (fun r : Int32 => (some (.int r), mh sc rest to fl ma tr mk cn nu de ru la tb tf ph cs)) x)) (Flow_firstReady_L2b fl v1 v2)) : Ev mmPT tbX2_firstReady 2 [some (.ref 25), some (.int v1), some (.int v2)] [] (mh sc rest to fl ma tr mk cn nu de ru la tb tf ph cs) x := by
  unfold Flow_firstReady_L2b at hk
  refine Ev.s (ins := .iload_n 2) (pc' := 3) rfl rfl ?_
  refine q_bi 10 rfl rfl ?_
  refine q_cge rfl hk (fun c1 hk => ?_) (fun c1 hk => ?_)
  · refine Ev.s (ins := .aload_n 0) (pc' := 9) rfl rfl ?_
    refine gf_25_4 (fl.2.1 0) rfl rfl ?_
    refine Ev.s (ins := .iload_n 1) (pc' := 13) rfl rfl ?_
    refine q_ic (-1) rfl rfl ?_
    refine Ev.s (ins := .ixor) (pc' := 15) rfl rfl ?_
    refine Ev.s (ins := .iand) (pc' := 16) rfl rfl ?_
    refine Ev.s (ins := .iload_n 2) (pc' := 17) rfl rfl ?_
    refine kc_X11_has_3 rfl (Nat.le_of_ble_eq_true rfl) (e_Ph_has) ?_
    refine q_beq rfl hk (fun c2 hk => ?_) (fun c2 hk => ?_)
    · refine Ev.s (ins := .aload_n 0) (pc' := 24) rfl rfl ?_
      refine gf_25_2 rfl ?_
      refine Ev.s (ins := .iload_n 2) (pc' := 28) rfl rfl ?_
      refine at_30 (oat fl 2 10 v2) rfl (Nat.le_of_ble_eq_true rfl) rfl ?_
      refine Ev.s (ins := .iload_n 1) (pc' := 32) rfl rfl ?_
      refine q_ic (-1) rfl rfl ?_
      refine Ev.s (ins := .ixor) (pc' := 34) rfl rfl ?_
      refine Ev.s (ins := .iand) (pc' := 35) rfl rfl ?_
      refine Ev.s (ins := .iload_n 2) (pc' := 36) rfl rfl ?_
      refine kc_X11_bit_3 rfl (Nat.le_of_ble_eq_true rfl) (e_Ph_bit) ?_
      refine q_cne rfl hk (fun c3 hk => ?_) (fun c3 hk => ?_)
      · replace hk := kK_r hk
        refine Ev.s (ins := .iload_n 2) (pc' := 43) rfl rfl ?_
        exact Ev.iret rfl rfl hk
      · exact e_Flow_firstReady_25_44 (lt31 c1) hk
    · exact e_Flow_firstReady_25_44 (lt31 c1) hk
  · replace hk := kK_r hk
    refine q_ic (-1) rfl rfl ?_
    exact Ev.iret rfl rfl hk
set_option maxRecDepth 100000 in
theorem e_Flow_firstReady_25_L2 {v1 : Int32} {v2 : Int32} {x : Option Value × List mmC} (hk : (kO (fun r : Int32 => (some (.int r), mh sc rest to fl ma tr mk cn nu de ru la tb tf ph cs)) x) (Flow_firstReady_L2 fl v1 v2)) : Ev mmPT tbX2_firstReady 2 [some (.ref 25), some (.int v1), some (.int v2)] [] (mh sc rest to fl ma tr mk cn nu de ru la tb tf ph cs) x :=
  k_loop (B := (fun a : Int32 => Flow_firstReady_L2b fl v1 a)) (μ := fun a : Int32 => mu a) (E := fun a : Int32 => Ev mmPT tbX2_firstReady 2 [some (.ref 25), some (.int v1), some (.int a)] [] (mh sc rest to fl ma tr mk cn nu de ru la tb tf ph cs) x) (X := (kO (fun r : Int32 => (some (.int r), mh sc rest to fl ma tr mk cn nu de ru la tb tf ph cs)) x)) (fun a hk => e_Flow_firstReady_25_L2b hk) v2 hk
set_option maxRecDepth 100000 in
theorem e_Flow_firstReady_25_0 {v1 : Int32} {x : Option Value × List mmC} (hk : (kO (fun r : Int32 => (some (.int r), mh sc rest to fl ma tr mk cn nu de ru la tb tf ph cs)) x) (Flow_firstReady fl v1)) : Ev mmPT tbX2_firstReady 0 [some (.ref 25), some (.int v1), none] [] (mh sc rest to fl ma tr mk cn nu de ru la tb tf ph cs) x := by
  unfold Flow_firstReady at hk
  refine q_ic 0 rfl rfl ?_
  refine Ev.s (ins := .istore_n 2) (pc' := 2) (lv' := [some (.ref 25), some (.int v1), some (.int 0)]) rfl rfl ?_
  exact e_Flow_firstReady_25_L2 hk
set_option maxRecDepth 100000 in
theorem e_Flow_firstReady_25 {v1 : Int32} : Ev mmPT tbX2_firstReady 0 [some (.ref 25), some (.int v1), none] [] (mh sc rest to fl ma tr mk cn nu de ru la tb tf ph cs) ((fun r : Int32 => (some (.int r), mh sc rest to fl ma tr mk cn nu de ru la tb tf ph cs)) (Flow_firstReady fl v1)) := e_Flow_firstReady_25_0 (by exact rfl)
set_option maxRecDepth 100000 in
theorem e_Flow_reckon_25_52 {v1 : Int32} {w0 : Int32} {x : Option Value × List mmC} (b19 : v1 < 2147483647) (hk : (kK (fun a : Int32 × Ob => mu a.1) (mu v1) (fun a : Int32 × Ob => Ev mmPT tbX2_reckon 19 [some (.ref 25), some (.int a.1), none, none] [] (mh sc rest to a.2 ma tr mk cn nu de ru la tb tf ph cs) x) (kO (fun r : Ob => (none, mh sc rest to r ma tr mk cn nu de ru la tb tf ph cs)) x)) (Flow_reckon_52 fl v1 w0)) : Ev mmPT tbX2_reckon 52 [some (.ref 25), some (.int v1), none, none] [.int w0] (mh sc rest to fl ma tr mk cn nu de ru la tb tf ph cs) x := by
  unfold Flow_reckon_52 at hk
  refine Ev.s (ins := .istore_n 2) (pc' := 53) (lv' := [some (.ref 25), some (.int v1), some (.int w0), none]) rfl rfl ?_
  refine Ev.s (ins := .aload_n 0) (pc' := 54) rfl rfl ?_
  refine gf_25_1 rfl ?_
  refine Ev.s (ins := .iload_n 1) (pc' := 58) rfl rfl ?_
  refine Ev.s (ins := .iload_n 2) (pc' := 59) rfl rfl ?_
  refine pt_28 rfl (Nat.le_of_ble_eq_true rfl) ?_
  refine Ev.s (ins := .aload_n 0) (pc' := 63) rfl rfl ?_
  refine Ev.s (ins := .iload_n 2) (pc' := 64) rfl rfl ?_
  refine Ev.s (ins := .iload_n 1) (pc' := 65) rfl rfl ?_
  refine kc_X2_addDominator_0 rfl oi_25 rfl (Nat.le_of_ble_eq_true rfl) (e_Flow_addDominator_25) ?_
  refine q_inc 1 [some (.ref 25), some (.int (v1 + 1)), some (.int w0), none] rfl rfl rfl rfl ?_
  refine Ev.goto rfl ?_
  refine Ev.weak [some (.ref 25), some (.int (v1 + 1)), none, none] ⟨rfl, rfl, rfl, rfl, trivial⟩ ?_
  replace hk := kK_l hk
  exact hk (mu_lt b19)
set_option maxRecDepth 100000 in
theorem e_Flow_reckon_25_L78b {v1 : Int32} {v2 : Int32} {x : Option Value × List mmC} (hk : (kK (fun a : Int32 × Int32 × Ob => mu a.2.1) (mu v2) (fun a : Int32 × Int32 × Ob => Ev mmPT tbX2_reckon 78 [some (.ref 25), some (.int a.1), some (.int a.2.1), none] [] (mh sc rest to a.2.2 ma tr mk cn nu de ru la tb tf ph cs) x) (kO (fun r : Ob => (none, mh sc rest to r ma tr mk cn nu de ru la tb tf ph cs)) x)) (Flow_reckon_L78b fl v1 v2)) : Ev mmPT tbX2_reckon 78 [some (.ref 25), some (.int v1), some (.int v2), none] [] (mh sc rest to fl ma tr mk cn nu de ru la tb tf ph cs) x := by
  unfold Flow_reckon_L78b at hk
  refine Ev.s (ins := .iload_n 2) (pc' := 79) rfl rfl ?_
  refine q_bi 10 rfl rfl ?_
  refine q_cge rfl hk (fun c1 hk => ?_) (fun c1 hk => ?_)
  · refine Ev.s (ins := .aload_n 0) (pc' := 85) rfl rfl ?_
    refine Ev.s (ins := .iload_n 1) (pc' := 86) rfl rfl ?_
    refine kc_X2_firstReady_0 rfl oi_25 rfl (Nat.le_of_ble_eq_true rfl) (e_Flow_firstReady_25) ?_
    refine Ev.s (ins := .istore_n 3) (pc' := 90) (lv' := [some (.ref 25), some (.int v1), some (.int v2), some (.int (Flow_firstReady fl v1))]) rfl rfl ?_
    refine Ev.s (ins := .aload_n 0) (pc' := 91) rfl rfl ?_
    refine gf_25_3 rfl ?_
    refine Ev.s (ins := .iload_n 2) (pc' := 95) rfl rfl ?_
    refine Ev.s (ins := .iload_n 3) (pc' := 96) rfl rfl ?_
    refine pt_32 rfl (Nat.le_of_ble_eq_true rfl) ?_
    refine Ev.s (ins := .iload_n 1) (pc' := 100) rfl rfl ?_
    refine Ev.s (ins := .iload_n 3) (pc' := 101) rfl rfl ?_
    refine kc_X11_bit_3 rfl (Nat.le_of_ble_eq_true rfl) (e_Ph_bit) ?_
    refine Ev.s (ins := .ior) (pc' := 105) rfl rfl ?_
    refine Ev.s (ins := .istore_n 1) (pc' := 106) (lv' := [some (.ref 25), some (.int (v1 ||| (Ph_bit (Flow_firstReady fl v1)))), some (.int v2), some (.int (Flow_firstReady fl v1))]) rfl rfl ?_
    refine q_inc 1 [some (.ref 25), some (.int (v1 ||| (Ph_bit (Flow_firstReady fl v1)))), some (.int (v2 + 1)), some (.int (Flow_firstReady fl v1))] rfl rfl rfl rfl ?_
    refine Ev.goto rfl ?_
    refine Ev.weak [some (.ref 25), some (.int (v1 ||| (Ph_bit (Flow_firstReady fl v1)))), some (.int (v2 + 1)), none] ⟨rfl, rfl, rfl, rfl, trivial⟩ ?_
    replace hk := kK_l hk
    exact hk (mu_lt (lt31 c1))
  · replace hk := kK_r hk
    exact Ev.vret rfl rfl hk
set_option maxRecDepth 100000 in
theorem e_Flow_reckon_25_L78 {v1 : Int32} {v2 : Int32} {x : Option Value × List mmC} (hk : (kO (fun r : Ob => (none, mh sc rest to r ma tr mk cn nu de ru la tb tf ph cs)) x) (Flow_reckon_L78 fl v1 v2)) : Ev mmPT tbX2_reckon 78 [some (.ref 25), some (.int v1), some (.int v2), none] [] (mh sc rest to fl ma tr mk cn nu de ru la tb tf ph cs) x :=
  k_loop (B := (fun a : Int32 × Int32 × Ob => Flow_reckon_L78b a.2.2 a.1 a.2.1)) (μ := fun a : Int32 × Int32 × Ob => mu a.2.1) (E := fun a : Int32 × Int32 × Ob => Ev mmPT tbX2_reckon 78 [some (.ref 25), some (.int a.1), some (.int a.2.1), none] [] (mh sc rest to a.2.2 ma tr mk cn nu de ru la tb tf ph cs) x) (X := (kO (fun r : Ob => (none, mh sc rest to r ma tr mk cn nu de ru la tb tf ph cs)) x)) (fun a hk => e_Flow_reckon_25_L78b hk) (v1, v2, fl) hk
set_option maxRecDepth 100000 in
theorem e_Flow_reckon_25_L19b {v1 : Int32} {x : Option Value × List mmC} (hk : (kK (fun a : Int32 × Ob => mu a.1) (mu v1) (fun a : Int32 × Ob => Ev mmPT tbX2_reckon 19 [some (.ref 25), some (.int a.1), none, none] [] (mh sc rest to a.2 ma tr mk cn nu de ru la tb tf ph cs) x) (kO (fun r : Ob => (none, mh sc rest to r ma tr mk cn nu de ru la tb tf ph cs)) x)) (Flow_reckon_L19b fl v1)) : Ev mmPT tbX2_reckon 19 [some (.ref 25), some (.int v1), none, none] [] (mh sc rest to fl ma tr mk cn nu de ru la tb tf ph cs) x := by
  unfold Flow_reckon_L19b at hk
  refine Ev.s (ins := .iload_n 1) (pc' := 20) rfl rfl ?_
  refine q_bi 10 rfl rfl ?_
  refine q_cge rfl hk (fun c1 hk => ?_) (fun c1 hk => ?_)
  · refine Ev.s (ins := .aload_n 0) (pc' := 26) rfl rfl ?_
    refine gf_25_4 (fl.2.1 0) rfl rfl ?_
    refine Ev.s (ins := .iload_n 1) (pc' := 30) rfl rfl ?_
    refine kc_X11_has_3 rfl (Nat.le_of_ble_eq_true rfl) (e_Ph_has) ?_
    refine q_beq rfl hk (fun c2 hk => ?_) (fun c2 hk => ?_)
    · refine Ev.s (ins := .aload_n 0) (pc' := 37) rfl rfl ?_
      refine gf_25_4 (fl.2.1 0) rfl rfl ?_
      refine Ev.s (ins := .aload_n 0) (pc' := 41) rfl rfl ?_
      refine Ev.s (ins := .iload_n 1) (pc' := 42) rfl rfl ?_
      refine kc_X2_reachedWithout_0 rfl oi_25 rfl (Nat.le_of_ble_eq_true rfl) (e_Flow_reachedWithout_25) ?_
      refine q_ic (-1) rfl rfl ?_
      refine Ev.s (ins := .ixor) (pc' := 47) rfl rfl ?_
      refine Ev.s (ins := .iand) (pc' := 48) rfl rfl ?_
      refine Ev.goto rfl ?_
      exact e_Flow_reckon_25_52 (lt31 c1) hk
    · refine q_ic 0 rfl rfl ?_
      exact e_Flow_reckon_25_52 (lt31 c1) hk
  · replace hk := kK_r hk
    refine q_ic 0 rfl rfl ?_
    refine Ev.s (ins := .istore_n 1) (pc' := 76) (lv' := [some (.ref 25), some (.int 0), none, none]) rfl rfl ?_
    refine q_ic 0 rfl rfl ?_
    refine Ev.s (ins := .istore_n 2) (pc' := 78) (lv' := [some (.ref 25), some (.int 0), some (.int 0), none]) rfl rfl ?_
    exact e_Flow_reckon_25_L78 hk
set_option maxRecDepth 100000 in
theorem e_Flow_reckon_25_L19 {v1 : Int32} {x : Option Value × List mmC} (hk : (kO (fun r : Ob => (none, mh sc rest to r ma tr mk cn nu de ru la tb tf ph cs)) x) (Flow_reckon_L19 fl v1)) : Ev mmPT tbX2_reckon 19 [some (.ref 25), some (.int v1), none, none] [] (mh sc rest to fl ma tr mk cn nu de ru la tb tf ph cs) x :=
  k_loop (B := (fun a : Int32 × Ob => Flow_reckon_L19b a.2 a.1)) (μ := fun a : Int32 × Ob => mu a.1) (E := fun a : Int32 × Ob => Ev mmPT tbX2_reckon 19 [some (.ref 25), some (.int a.1), none, none] [] (mh sc rest to a.2 ma tr mk cn nu de ru la tb tf ph cs) x) (X := (kO (fun r : Ob => (none, mh sc rest to r ma tr mk cn nu de ru la tb tf ph cs)) x)) (fun a hk => e_Flow_reckon_25_L19b hk) (v1, fl) hk
set_option maxRecDepth 100000 in
theorem e_Flow_reckon_25_0 {x : Option Value × List mmC} (hk : (kO (fun r : Ob => (none, mh sc rest to r ma tr mk cn nu de ru la tb tf ph cs)) x) (Flow_reckon fl)) : Ev mmPT tbX2_reckon 0 [some (.ref 25), none, none, none] [] (mh sc rest to fl ma tr mk cn nu de ru la tb tf ph cs) x := by
  unfold Flow_reckon at hk
  refine Ev.s (ins := .aload_n 0) (pc' := 1) rfl rfl ?_
  refine Ev.s (ins := .aload_n 0) (pc' := 2) rfl rfl ?_
  refine q_ic (-1) rfl rfl ?_
  refine kc_X2_reachedWithout_0 rfl oi_25 rfl (Nat.le_of_ble_eq_true rfl) (e_Flow_reachedWithout_25) ?_
  refine pf_25_4 (Flow_reachedWithout fl (-1)) rfl ?_
  refine Ev.s (ins := .aload_n 0) (pc' := 10) rfl rfl ?_
  refine gf_25_2 rfl ?_
  refine q_ic 0 rfl rfl ?_
  refine fl_30 rfl (Nat.le_of_ble_eq_true rfl) ?_
  refine q_ic 0 rfl rfl ?_
  refine Ev.s (ins := .istore_n 1) (pc' := 19) (lv' := [some (.ref 25), some (.int 0), none, none]) rfl rfl ?_
  exact e_Flow_reckon_25_L19 hk
set_option maxRecDepth 100000 in
theorem e_Flow_reckon_25 : Ev mmPT tbX2_reckon 0 [some (.ref 25), none, none, none] [] (mh sc rest to fl ma tr mk cn nu de ru la tb tf ph cs) ((fun r : Ob => (none, mh sc rest to r ma tr mk cn nu de ru la tb tf ph cs)) (Flow_reckon fl)) := e_Flow_reckon_25_0 (by exact rfl)
set_option maxRecDepth 100000 in
theorem e_Told_reckonWanted_2_L34b {v1 : Int32} {v2 : Int32} {v3 : Int32} {v4 : Int32} {x : Option Value × List mmC} (b13 : v1 < 2147483647) (b21 : v2 < 2147483647) (hk : (kK (fun a : Int32 × Int32 => mu a.2) (mu v4) (fun a : Int32 × Int32 => Ev mmPT tbX10_reckonWanted 34 [some (.ref 2), some (.int v1), some (.int v2), some (.int a.1), some (.int a.2)] [] (mh sc rest to fl ma tr mk cn nu de ru la tb tf ph cs) x) (kK (fun a : Int32 × Ob => mu a.1) (mu v2) (fun a : Int32 × Ob => Ev mmPT tbX10_reckonWanted 21 [some (.ref 2), some (.int v1), some (.int a.1), none, none] [] (mh sc rest a.2 fl ma tr mk cn nu de ru la tb tf ph cs) x) (kK (fun a : Int32 × Ob => mu a.1) (mu v1) (fun a : Int32 × Ob => Ev mmPT tbX10_reckonWanted 13 [some (.ref 2), some (.int a.1), none, none, none] [] (mh sc rest a.2 fl ma tr mk cn nu de ru la tb tf ph cs) x) (kO (fun r : Ob => (none, mh sc rest r fl ma tr mk cn nu de ru la tb tf ph cs)) x)))) (Told_reckonWanted_L34b to v1 v2 v3 v4)) : Ev mmPT tbX10_reckonWanted 34 [some (.ref 2), some (.int v1), some (.int v2), some (.int v3), some (.int v4)] [] (mh sc rest to fl ma tr mk cn nu de ru la tb tf ph cs) x := by
  unfold Told_reckonWanted_L34b at hk
  refine Ev.s (ins := .iload 4) (pc' := 36) rfl rfl ?_
  refine Ev.s (ins := .aload_n 0) (pc' := 37) rfl rfl ?_
  refine gf_2_5 rfl ?_
  refine Ev.s (ins := .iload_n 2) (pc' := 41) rfl rfl ?_
  refine at_13 (oat to 5 10 v2) rfl (Nat.le_of_ble_eq_true rfl) rfl ?_
  refine q_cge rfl hk (fun c1 hk => ?_) (fun c1 hk => ?_)
  · refine Ev.s (ins := .iload_n 3) (pc' := 48) rfl rfl ?_
    refine Ev.s (ins := .aload_n 0) (pc' := 49) rfl rfl ?_
    refine gf_2_10 rfl ?_
    refine Ev.s (ins := .aload_n 0) (pc' := 53) rfl rfl ?_
    refine gf_2_7 rfl ?_
    refine Ev.s (ins := .iload_n 2) (pc' := 57) rfl rfl ?_
    refine q_ic 2 rfl rfl ?_
    refine Ev.s (ins := .imul) (pc' := 59) rfl rfl ?_
    refine Ev.s (ins := .iload 4) (pc' := 61) rfl rfl ?_
    refine Ev.s (ins := .iadd) (pc' := 62) rfl rfl ?_
    refine at_17 (oat to 7 20 ((v2 * 2) + v4)) rfl (Nat.le_of_ble_eq_true rfl) rfl ?_
    refine at_23 (oat to 10 10 (oat to 7 20 ((v2 * 2) + v4))) rfl (Nat.le_of_ble_eq_true rfl) rfl ?_
    refine Ev.s (ins := .ior) (pc' := 69) rfl rfl ?_
    refine Ev.s (ins := .istore_n 3) (pc' := 70) (lv' := [some (.ref 2), some (.int v1), some (.int v2), some (.int (v3 ||| (oat to 10 10 (oat to 7 20 ((v2 * 2) + v4))))), some (.int v4)]) rfl rfl ?_
    refine q_inc 1 [some (.ref 2), some (.int v1), some (.int v2), some (.int (v3 ||| (oat to 10 10 (oat to 7 20 ((v2 * 2) + v4))))), some (.int (v4 + 1))] rfl rfl rfl rfl ?_
    refine Ev.goto rfl ?_
    replace hk := kK_l hk
    exact hk (mu_lt (lt31 c1))
  · replace hk := kK_r hk
    refine Ev.s (ins := .aload_n 0) (pc' := 77) rfl rfl ?_
    refine gf_2_10 rfl ?_
    refine Ev.s (ins := .iload_n 2) (pc' := 81) rfl rfl ?_
    refine Ev.s (ins := .aload_n 0) (pc' := 82) rfl rfl ?_
    refine gf_2_8 rfl ?_
    refine Ev.s (ins := .iload_n 2) (pc' := 86) rfl rfl ?_
    refine at_19 (oat to 8 10 v2) rfl (Nat.le_of_ble_eq_true rfl) rfl ?_
    refine Ev.s (ins := .iload_n 3) (pc' := 90) rfl rfl ?_
    refine Ev.s (ins := .aload_n 0) (pc' := 91) rfl rfl ?_
    refine gf_2_9 rfl ?_
    refine Ev.s (ins := .iload_n 2) (pc' := 95) rfl rfl ?_
    refine at_21 (oat to 9 10 v2) rfl (Nat.le_of_ble_eq_true rfl) rfl ?_
    refine q_ic (-1) rfl rfl ?_
    refine Ev.s (ins := .ixor) (pc' := 100) rfl rfl ?_
    refine Ev.s (ins := .iand) (pc' := 101) rfl rfl ?_
    refine Ev.s (ins := .ior) (pc' := 102) rfl rfl ?_
    refine pt_23 rfl (Nat.le_of_ble_eq_true rfl) ?_
    refine q_inc 1 [some (.ref 2), some (.int v1), some (.int (v2 + 1)), some (.int v3), some (.int v4)] rfl rfl rfl rfl ?_
    refine Ev.goto rfl ?_
    refine Ev.weak [some (.ref 2), some (.int v1), some (.int (v2 + 1)), none, none] ⟨rfl, rfl, rfl, rfl, rfl, trivial⟩ ?_
    replace hk := kK_l hk
    exact hk (mu_lt b21)
set_option maxRecDepth 100000 in
theorem e_Told_reckonWanted_2_L34 {v1 : Int32} {v2 : Int32} {v3 : Int32} {v4 : Int32} {x : Option Value × List mmC} (b13 : v1 < 2147483647) (b21 : v2 < 2147483647) (hk : (kK (fun a : Int32 × Ob => mu a.1) (mu v2) (fun a : Int32 × Ob => Ev mmPT tbX10_reckonWanted 21 [some (.ref 2), some (.int v1), some (.int a.1), none, none] [] (mh sc rest a.2 fl ma tr mk cn nu de ru la tb tf ph cs) x) (kK (fun a : Int32 × Ob => mu a.1) (mu v1) (fun a : Int32 × Ob => Ev mmPT tbX10_reckonWanted 13 [some (.ref 2), some (.int a.1), none, none, none] [] (mh sc rest a.2 fl ma tr mk cn nu de ru la tb tf ph cs) x) (kO (fun r : Ob => (none, mh sc rest r fl ma tr mk cn nu de ru la tb tf ph cs)) x))) (Told_reckonWanted_L34 to v1 v2 v3 v4)) : Ev mmPT tbX10_reckonWanted 34 [some (.ref 2), some (.int v1), some (.int v2), some (.int v3), some (.int v4)] [] (mh sc rest to fl ma tr mk cn nu de ru la tb tf ph cs) x :=
  k_loop (B := (fun a : Int32 × Int32 => Told_reckonWanted_L34b to v1 v2 a.1 a.2)) (μ := fun a : Int32 × Int32 => mu a.2) (E := fun a : Int32 × Int32 => Ev mmPT tbX10_reckonWanted 34 [some (.ref 2), some (.int v1), some (.int v2), some (.int a.1), some (.int a.2)] [] (mh sc rest to fl ma tr mk cn nu de ru la tb tf ph cs) x) (X := (kK (fun a : Int32 × Ob => mu a.1) (mu v2) (fun a : Int32 × Ob => Ev mmPT tbX10_reckonWanted 21 [some (.ref 2), some (.int v1), some (.int a.1), none, none] [] (mh sc rest a.2 fl ma tr mk cn nu de ru la tb tf ph cs) x) (kK (fun a : Int32 × Ob => mu a.1) (mu v1) (fun a : Int32 × Ob => Ev mmPT tbX10_reckonWanted 13 [some (.ref 2), some (.int a.1), none, none, none] [] (mh sc rest a.2 fl ma tr mk cn nu de ru la tb tf ph cs) x) (kO (fun r : Ob => (none, mh sc rest r fl ma tr mk cn nu de ru la tb tf ph cs)) x)))) (fun a hk => e_Told_reckonWanted_2_L34b b13 b21 hk) (v3, v4) hk
set_option maxRecDepth 100000 in
theorem e_Told_reckonWanted_2_L21b {v1 : Int32} {v2 : Int32} {x : Option Value × List mmC} (b13 : v1 < 2147483647) (hk : (kK (fun a : Int32 × Ob => mu a.1) (mu v2) (fun a : Int32 × Ob => Ev mmPT tbX10_reckonWanted 21 [some (.ref 2), some (.int v1), some (.int a.1), none, none] [] (mh sc rest a.2 fl ma tr mk cn nu de ru la tb tf ph cs) x) (kK (fun a : Int32 × Ob => mu a.1) (mu v1) (fun a : Int32 × Ob => Ev mmPT tbX10_reckonWanted 13 [some (.ref 2), some (.int a.1), none, none, none] [] (mh sc rest a.2 fl ma tr mk cn nu de ru la tb tf ph cs) x) (kO (fun r : Ob => (none, mh sc rest r fl ma tr mk cn nu de ru la tb tf ph cs)) x))) (Told_reckonWanted_L21b to v1 v2)) : Ev mmPT tbX10_reckonWanted 21 [some (.ref 2), some (.int v1), some (.int v2), none, none] [] (mh sc rest to fl ma tr mk cn nu de ru la tb tf ph cs) x := by
  unfold Told_reckonWanted_L21b at hk
  refine Ev.s (ins := .iload_n 2) (pc' := 22) rfl rfl ?_
  refine Ev.s (ins := .aload_n 0) (pc' := 23) rfl rfl ?_
  refine gf_2_12 (to.2.1 0) rfl rfl ?_
  refine q_cge rfl hk (fun c1 hk => ?_) (fun c1 hk => ?_)
  · refine q_ic 0 rfl rfl ?_
    refine Ev.s (ins := .istore_n 3) (pc' := 31) (lv' := [some (.ref 2), some (.int v1), some (.int v2), some (.int 0), none]) rfl rfl ?_
    refine q_ic 0 rfl rfl ?_
    refine Ev.s (ins := .istore 4) (pc' := 34) (lv' := [some (.ref 2), some (.int v1), some (.int v2), some (.int 0), some (.int 0)]) rfl rfl ?_
    exact e_Told_reckonWanted_2_L34 b13 (lt31 c1) hk
  · replace hk := kK_r hk
    refine q_inc 1 [some (.ref 2), some (.int (v1 + 1)), some (.int v2), none, none] rfl rfl rfl rfl ?_
    refine Ev.goto rfl ?_
    refine Ev.weak [some (.ref 2), some (.int (v1 + 1)), none, none, none] ⟨rfl, rfl, rfl, rfl, rfl, trivial⟩ ?_
    replace hk := kK_l hk
    exact hk (mu_lt b13)
set_option maxRecDepth 100000 in
theorem e_Told_reckonWanted_2_L21 {v1 : Int32} {v2 : Int32} {x : Option Value × List mmC} (b13 : v1 < 2147483647) (hk : (kK (fun a : Int32 × Ob => mu a.1) (mu v1) (fun a : Int32 × Ob => Ev mmPT tbX10_reckonWanted 13 [some (.ref 2), some (.int a.1), none, none, none] [] (mh sc rest a.2 fl ma tr mk cn nu de ru la tb tf ph cs) x) (kO (fun r : Ob => (none, mh sc rest r fl ma tr mk cn nu de ru la tb tf ph cs)) x)) (Told_reckonWanted_L21 to v1 v2)) : Ev mmPT tbX10_reckonWanted 21 [some (.ref 2), some (.int v1), some (.int v2), none, none] [] (mh sc rest to fl ma tr mk cn nu de ru la tb tf ph cs) x :=
  k_loop (B := (fun a : Int32 × Ob => Told_reckonWanted_L21b a.2 v1 a.1)) (μ := fun a : Int32 × Ob => mu a.1) (E := fun a : Int32 × Ob => Ev mmPT tbX10_reckonWanted 21 [some (.ref 2), some (.int v1), some (.int a.1), none, none] [] (mh sc rest a.2 fl ma tr mk cn nu de ru la tb tf ph cs) x) (X := (kK (fun a : Int32 × Ob => mu a.1) (mu v1) (fun a : Int32 × Ob => Ev mmPT tbX10_reckonWanted 13 [some (.ref 2), some (.int a.1), none, none, none] [] (mh sc rest a.2 fl ma tr mk cn nu de ru la tb tf ph cs) x) (kO (fun r : Ob => (none, mh sc rest r fl ma tr mk cn nu de ru la tb tf ph cs)) x))) (fun a hk => e_Told_reckonWanted_2_L21b b13 hk) (v2, to) hk
set_option maxRecDepth 100000 in
theorem e_Told_reckonWanted_2_L13b {v1 : Int32} {x : Option Value × List mmC} (hk : (kK (fun a : Int32 × Ob => mu a.1) (mu v1) (fun a : Int32 × Ob => Ev mmPT tbX10_reckonWanted 13 [some (.ref 2), some (.int a.1), none, none, none] [] (mh sc rest a.2 fl ma tr mk cn nu de ru la tb tf ph cs) x) (kO (fun r : Ob => (none, mh sc rest r fl ma tr mk cn nu de ru la tb tf ph cs)) x)) (Told_reckonWanted_L13b to v1)) : Ev mmPT tbX10_reckonWanted 13 [some (.ref 2), some (.int v1), none, none, none] [] (mh sc rest to fl ma tr mk cn nu de ru la tb tf ph cs) x := by
  unfold Told_reckonWanted_L13b at hk
  refine Ev.s (ins := .iload_n 1) (pc' := 14) rfl rfl ?_
  refine q_bi 10 rfl rfl ?_
  refine q_cge rfl hk (fun c1 hk => ?_) (fun c1 hk => ?_)
  · refine q_ic 0 rfl rfl ?_
    refine Ev.s (ins := .istore_n 2) (pc' := 21) (lv' := [some (.ref 2), some (.int v1), some (.int 0), none, none]) rfl rfl ?_
    exact e_Told_reckonWanted_2_L21 (lt31 c1) hk
  · replace hk := kK_r hk
    exact Ev.vret rfl rfl hk
set_option maxRecDepth 100000 in
theorem e_Told_reckonWanted_2_L13 {v1 : Int32} {x : Option Value × List mmC} (hk : (kO (fun r : Ob => (none, mh sc rest r fl ma tr mk cn nu de ru la tb tf ph cs)) x) (Told_reckonWanted_L13 to v1)) : Ev mmPT tbX10_reckonWanted 13 [some (.ref 2), some (.int v1), none, none, none] [] (mh sc rest to fl ma tr mk cn nu de ru la tb tf ph cs) x :=
  k_loop (B := (fun a : Int32 × Ob => Told_reckonWanted_L13b a.2 a.1)) (μ := fun a : Int32 × Ob => mu a.1) (E := fun a : Int32 × Ob => Ev mmPT tbX10_reckonWanted 13 [some (.ref 2), some (.int a.1), none, none, none] [] (mh sc rest a.2 fl ma tr mk cn nu de ru la tb tf ph cs) x) (X := (kO (fun r : Ob => (none, mh sc rest r fl ma tr mk cn nu de ru la tb tf ph cs)) x)) (fun a hk => e_Told_reckonWanted_2_L13b hk) (v1, to) hk
set_option maxRecDepth 100000 in
theorem e_Told_reckonWanted_2_0 {x : Option Value × List mmC} (hk : (kO (fun r : Ob => (none, mh sc rest r fl ma tr mk cn nu de ru la tb tf ph cs)) x) (Told_reckonWanted to)) : Ev mmPT tbX10_reckonWanted 0 [some (.ref 2), none, none, none, none] [] (mh sc rest to fl ma tr mk cn nu de ru la tb tf ph cs) x := by
  unfold Told_reckonWanted at hk
  refine Ev.s (ins := .aload_n 0) (pc' := 1) rfl rfl ?_
  refine gf_2_10 rfl ?_
  refine Ev.s (ins := .aload_n 0) (pc' := 5) rfl rfl ?_
  refine gf_2_8 rfl ?_
  refine tk_23_19 rfl (Nat.le_of_ble_eq_true rfl) ?_
  refine q_ic 0 rfl rfl ?_
  refine Ev.s (ins := .istore_n 1) (pc' := 13) (lv' := [some (.ref 2), some (.int 0), none, none, none]) rfl rfl ?_
  exact e_Told_reckonWanted_2_L13 hk
set_option maxRecDepth 100000 in
theorem e_Told_reckonWanted_2 : Ev mmPT tbX10_reckonWanted 0 [some (.ref 2), none, none, none, none] [] (mh sc rest to fl ma tr mk cn nu de ru la tb tf ph cs) ((fun r : Ob => (none, mh sc rest r fl ma tr mk cn nu de ru la tb tf ph cs)) (Told_reckonWanted to)) := e_Told_reckonWanted_2_0 (by exact rfl)
set_option maxRecDepth 100000 in
theorem e_Flow_lead_25_0 {v1 : Int32} {v2 : Int32} {x : Option Value × List mmC} (hk : (kO (fun r : Ob => (none, mh sc rest to r ma tr mk cn nu de ru la tb tf ph cs)) x) (Flow_lead fl v1 v2)) : Ev mmPT tbX2_lead 0 [some (.ref 25), some (.int v1), some (.int v2)] [] (mh sc rest to fl ma tr mk cn nu de ru la tb tf ph cs) x := by
  unfold Flow_lead at hk
  refine Ev.s (ins := .aload_n 0) (pc' := 1) rfl rfl ?_
  refine gf_25_0 rfl ?_
  refine Ev.s (ins := .iload_n 1) (pc' := 5) rfl rfl ?_
  refine Ev.s (ins := .aload_n 0) (pc' := 6) rfl rfl ?_
  refine gf_25_0 rfl ?_
  refine Ev.s (ins := .iload_n 1) (pc' := 10) rfl rfl ?_
  refine at_26 (oat fl 0 10 v1) rfl (Nat.le_of_ble_eq_true rfl) rfl ?_
  refine Ev.s (ins := .iload_n 2) (pc' := 14) rfl rfl ?_
  refine kc_X11_bit_3 rfl (Nat.le_of_ble_eq_true rfl) (e_Ph_bit) ?_
  refine Ev.s (ins := .ior) (pc' := 18) rfl rfl ?_
  refine pt_26 rfl (Nat.le_of_ble_eq_true rfl) ?_
  exact Ev.vret rfl rfl hk
set_option maxRecDepth 100000 in
theorem e_Flow_lead_25 {v1 : Int32} {v2 : Int32} : Ev mmPT tbX2_lead 0 [some (.ref 25), some (.int v1), some (.int v2)] [] (mh sc rest to fl ma tr mk cn nu de ru la tb tf ph cs) ((fun r : Ob => (none, mh sc rest to r ma tr mk cn nu de ru la tb tf ph cs)) (Flow_lead fl v1 v2)) := e_Flow_lead_25_0 (by exact rfl)
set_option maxRecDepth 100000 in
theorem e_Ph_variableOf_0 {v0 : Int32} {x : Option Value × List mmC} (hk : (kO (fun r : Int32 => (some (.int r), mh sc rest to fl ma tr mk cn nu de ru la tb tf ph cs)) x) (Ph_variableOf v0)) : Ev mmPT tbX11_variableOf 0 [some (.int v0)] [] (mh sc rest to fl ma tr mk cn nu de ru la tb tf ph cs) x := by
  unfold Ph_variableOf at hk
  refine Ev.s (ins := .iload_n 0) (pc' := 1) rfl rfl ?_
  refine q_bi 100 rfl rfl ?_
  refine q_clt rfl hk (fun c1 hk => ?_) (fun c1 hk => ?_)
  · refine q_ic (-1) rfl rfl ?_
    exact Ev.iret rfl rfl hk
  · refine Ev.s (ins := .iload_n 0) (pc' := 7) rfl rfl ?_
    refine q_bi 100 rfl rfl ?_
    refine Ev.s (ins := .isub) (pc' := 10) rfl rfl ?_
    refine Ev.goto rfl ?_
    exact Ev.iret rfl rfl hk
set_option maxRecDepth 100000 in
theorem e_Ph_variableOf {v0 : Int32} : Ev mmPT tbX11_variableOf 0 [some (.int v0)] [] (mh sc rest to fl ma tr mk cn nu de ru la tb tf ph cs) ((fun r : Int32 => (some (.int r), mh sc rest to fl ma tr mk cn nu de ru la tb tf ph cs)) (Ph_variableOf v0)) := e_Ph_variableOf_0 (by exact rfl)
set_option maxRecDepth 100000 in
theorem e_Ph_sets_14 {x : Option Value × List mmC} (hk : (kO (fun r : Bool => (some (.int (b2i r)), mh sc rest to fl ma tr mk cn nu de ru la tb tf ph cs)) x) (Ph_sets_14)) : Ev mmPT tbX11_sets 14 [none] [] (mh sc rest to fl ma tr mk cn nu de ru la tb tf ph cs) x := by
  unfold Ph_sets_14 at hk
  refine q_ic 0 rfl rfl ?_
  exact Ev.zret rfl rfl (Or.inl rfl) hk
set_option maxRecDepth 100000 in
theorem e_Ph_sets_0 {v0 : Int32} {x : Option Value × List mmC} (hk : (kO (fun r : Bool => (some (.int (b2i r)), mh sc rest to fl ma tr mk cn nu de ru la tb tf ph cs)) x) (Ph_sets v0)) : Ev mmPT tbX11_sets 0 [some (.int v0)] [] (mh sc rest to fl ma tr mk cn nu de ru la tb tf ph cs) x := by
  unfold Ph_sets at hk
  refine Ev.s (ins := .iload_n 0) (pc' := 1) rfl rfl ?_
  refine q_lt rfl hk (fun c1 hk => ?_) (fun c1 hk => ?_)
  · refine Ev.weak [none] ⟨rfl, trivial⟩ ?_
    exact e_Ph_sets_14 hk
  · refine Ev.s (ins := .iload_n 0) (pc' := 5) rfl rfl ?_
    refine q_bi 6 rfl rfl ?_
    refine q_cgt rfl hk (fun c2 hk => ?_) (fun c2 hk => ?_)
    · refine Ev.weak [none] ⟨rfl, trivial⟩ ?_
      exact e_Ph_sets_14 hk
    · refine q_ic 1 rfl rfl ?_
      refine Ev.goto rfl ?_
      exact Ev.zret rfl rfl (Or.inr rfl) hk
set_option maxRecDepth 100000 in
theorem e_Ph_sets {v0 : Int32} : Ev mmPT tbX11_sets 0 [some (.int v0)] [] (mh sc rest to fl ma tr mk cn nu de ru la tb tf ph cs) ((fun r : Bool => (some (.int (b2i r)), mh sc rest to fl ma tr mk cn nu de ru la tb tf ph cs)) (Ph_sets v0)) := e_Ph_sets_0 (by exact rfl)
set_option maxRecDepth 100000 in
theorem e_Told_readLines_2_97 {v1 : Int32} {v2 : Int32} {v3 : Int32} {v4 : Int32} {x : Option Value × List mmC} (b7 : v4 < 2147483647) (hk : (kK (fun a : Int32 × Int32 × Int32 => mu a.2.2) (mu v4) (fun a : Int32 × Int32 × Int32 => Ev mmPT tbX10_readLines 7 [some (.ref 2), some (.int v1), some (.int a.1), some (.int a.2.1), some (.int a.2.2), none] [] (mh sc rest to fl ma tr mk cn nu de ru la tb tf ph cs) x) (kO (fun r : Ob => (none, mh sc rest r fl ma tr mk cn nu de ru la tb tf ph cs)) x)) (Told_readLines_97 to v1 v2 v3 v4)) : Ev mmPT tbX10_readLines 97 [some (.ref 2), some (.int v1), some (.int v2), some (.int v3), some (.int v4), none] [] (mh sc rest to fl ma tr mk cn nu de ru la tb tf ph cs) x := by
  unfold Told_readLines_97 at hk
  refine q_inc 1 [some (.ref 2), some (.int v1), some (.int v2), some (.int v3), some (.int (v4 + 1)), none] rfl rfl rfl rfl ?_
  refine Ev.goto rfl ?_
  replace hk := kK_l hk
  exact hk (mu_lt b7)
set_option maxRecDepth 100000 in
theorem e_Told_readLines_2_L7b {v1 : Int32} {v2 : Int32} {v3 : Int32} {v4 : Int32} {x : Option Value × List mmC} (hk : (kK (fun a : Int32 × Int32 × Int32 => mu a.2.2) (mu v4) (fun a : Int32 × Int32 × Int32 => Ev mmPT tbX10_readLines 7 [some (.ref 2), some (.int v1), some (.int a.1), some (.int a.2.1), some (.int a.2.2), none] [] (mh sc rest to fl ma tr mk cn nu de ru la tb tf ph cs) x) (kO (fun r : Ob => (none, mh sc rest r fl ma tr mk cn nu de ru la tb tf ph cs)) x)) (Told_readLines_L7b to v1 v2 v3 v4)) : Ev mmPT tbX10_readLines 7 [some (.ref 2), some (.int v1), some (.int v2), some (.int v3), some (.int v4), none] [] (mh sc rest to fl ma tr mk cn nu de ru la tb tf ph cs) x := by
  unfold Told_readLines_L7b at hk
  refine Ev.s (ins := .iload 4) (pc' := 9) rfl rfl ?_
  refine Ev.s (ins := .aload_n 0) (pc' := 10) rfl rfl ?_
  refine gf_2_0 rfl ?_
  refine Ev.s (ins := .iload_n 1) (pc' := 14) rfl rfl ?_
  refine at_3 (oat to 0 10 v1) rfl (Nat.le_of_ble_eq_true rfl) rfl ?_
  refine q_cge rfl hk (fun c1 hk => ?_) (fun c1 hk => ?_)
  · refine Ev.s (ins := .iload_n 1) (pc' := 21) rfl rfl ?_
    refine q_bi 8 rfl rfl ?_
    refine Ev.s (ins := .imul) (pc' := 24) rfl rfl ?_
    refine Ev.s (ins := .iload 4) (pc' := 26) rfl rfl ?_
    refine Ev.s (ins := .iadd) (pc' := 27) rfl rfl ?_
    refine Ev.s (ins := .istore 5) (pc' := 29) (lv' := [some (.ref 2), some (.int v1), some (.int v2), some (.int v3), some (.int v4), some (.int ((v1 * 8) + v4))]) rfl rfl ?_
    refine Ev.s (ins := .iload_n 2) (pc' := 30) rfl rfl ?_
    refine Ev.s (ins := .iload_n 3) (pc' := 31) rfl rfl ?_
    refine q_ic (-1) rfl rfl ?_
    refine Ev.s (ins := .ixor) (pc' := 33) rfl rfl ?_
    refine Ev.s (ins := .aload_n 0) (pc' := 34) rfl rfl ?_
    refine gf_2_3 rfl ?_
    refine Ev.s (ins := .iload 5) (pc' := 39) rfl rfl ?_
    refine at_9 (oat to 3 80 ((v1 * 8) + v4)) rfl (Nat.le_of_ble_eq_true rfl) rfl ?_
    refine kc_X11_variableOf_3 rfl (Nat.le_of_ble_eq_true rfl) (e_Ph_variableOf) ?_
    refine kc_X11_bit_3 rfl (Nat.le_of_ble_eq_true rfl) (e_Ph_bit) ?_
    refine Ev.s (ins := .aload_n 0) (pc' := 49) rfl rfl ?_
    refine gf_2_4 rfl ?_
    refine Ev.s (ins := .iload 5) (pc' := 54) rfl rfl ?_
    refine at_11 (oat to 4 80 ((v1 * 8) + v4)) rfl (Nat.le_of_ble_eq_true rfl) rfl ?_
    refine kc_X11_variableOf_3 rfl (Nat.le_of_ble_eq_true rfl) (e_Ph_variableOf) ?_
    refine kc_X11_bit_3 rfl (Nat.le_of_ble_eq_true rfl) (e_Ph_bit) ?_
    refine Ev.s (ins := .ior) (pc' := 64) rfl rfl ?_
    refine Ev.s (ins := .iand) (pc' := 65) rfl rfl ?_
    refine Ev.s (ins := .ior) (pc' := 66) rfl rfl ?_
    refine Ev.s (ins := .istore_n 2) (pc' := 67) (lv' := [some (.ref 2), some (.int v1), some (.int (v2 ||| ((v3 ^^^ (-1)) &&& ((Ph_bit (Ph_variableOf (oat to 3 80 ((v1 * 8) + v4)))) ||| (Ph_bit (Ph_variableOf (oat to 4 80 ((v1 * 8) + v4)))))))), some (.int v3), some (.int v4), some (.int ((v1 * 8) + v4))]) rfl rfl ?_
    refine Ev.s (ins := .aload_n 0) (pc' := 68) rfl rfl ?_
    refine gf_2_1 rfl ?_
    refine Ev.s (ins := .iload 5) (pc' := 73) rfl rfl ?_
    refine at_5 (oat to 1 80 ((v1 * 8) + v4)) rfl (Nat.le_of_ble_eq_true rfl) rfl ?_
    refine kc_X11_sets_3 rfl (Nat.le_of_ble_eq_true rfl) (e_Ph_sets) ?_
    refine q_beq rfl hk (fun c2 hk => ?_) (fun c2 hk => ?_)
    · refine Ev.s (ins := .iload_n 3) (pc' := 83) rfl rfl ?_
      refine Ev.s (ins := .aload_n 0) (pc' := 84) rfl rfl ?_
      refine gf_2_2 rfl ?_
      refine Ev.s (ins := .iload 5) (pc' := 89) rfl rfl ?_
      refine at_7 (oat to 2 80 ((v1 * 8) + v4)) rfl (Nat.le_of_ble_eq_true rfl) rfl ?_
      refine kc_X11_bit_3 rfl (Nat.le_of_ble_eq_true rfl) (e_Ph_bit) ?_
      refine Ev.s (ins := .ior) (pc' := 96) rfl rfl ?_
      refine Ev.s (ins := .istore_n 3) (pc' := 97) (lv' := [some (.ref 2), some (.int v1), some (.int (v2 ||| ((v3 ^^^ (-1)) &&& ((Ph_bit (Ph_variableOf (oat to 3 80 ((v1 * 8) + v4)))) ||| (Ph_bit (Ph_variableOf (oat to 4 80 ((v1 * 8) + v4)))))))), some (.int (v3 ||| (Ph_bit (oat to 2 80 ((v1 * 8) + v4))))), some (.int v4), some (.int ((v1 * 8) + v4))]) rfl rfl ?_
      refine Ev.weak [some (.ref 2), some (.int v1), some (.int (v2 ||| ((v3 ^^^ (-1)) &&& ((Ph_bit (Ph_variableOf (oat to 3 80 ((v1 * 8) + v4)))) ||| (Ph_bit (Ph_variableOf (oat to 4 80 ((v1 * 8) + v4)))))))), some (.int (v3 ||| (Ph_bit (oat to 2 80 ((v1 * 8) + v4))))), some (.int v4), none] ⟨rfl, rfl, rfl, rfl, rfl, rfl, trivial⟩ ?_
      exact e_Told_readLines_2_97 (lt31 c1) hk
    · refine Ev.weak [some (.ref 2), some (.int v1), some (.int (v2 ||| ((v3 ^^^ (-1)) &&& ((Ph_bit (Ph_variableOf (oat to 3 80 ((v1 * 8) + v4)))) ||| (Ph_bit (Ph_variableOf (oat to 4 80 ((v1 * 8) + v4)))))))), some (.int v3), some (.int v4), none] ⟨rfl, rfl, rfl, rfl, rfl, rfl, trivial⟩ ?_
      exact e_Told_readLines_2_97 (lt31 c1) hk
  · replace hk := kK_r hk
    refine Ev.s (ins := .aload_n 0) (pc' := 104) rfl rfl ?_
    refine gf_2_8 rfl ?_
    refine Ev.s (ins := .iload_n 1) (pc' := 108) rfl rfl ?_
    refine Ev.s (ins := .iload_n 2) (pc' := 109) rfl rfl ?_
    refine Ev.s (ins := .iload_n 3) (pc' := 110) rfl rfl ?_
    refine q_ic (-1) rfl rfl ?_
    refine Ev.s (ins := .ixor) (pc' := 112) rfl rfl ?_
    refine Ev.s (ins := .aload_n 0) (pc' := 113) rfl rfl ?_
    refine gf_2_6 rfl ?_
    refine Ev.s (ins := .iload_n 1) (pc' := 117) rfl rfl ?_
    refine at_15 (oat to 6 10 v1) rfl (Nat.le_of_ble_eq_true rfl) rfl ?_
    refine kc_X11_variableOf_3 rfl (Nat.le_of_ble_eq_true rfl) (e_Ph_variableOf) ?_
    refine kc_X11_bit_3 rfl (Nat.le_of_ble_eq_true rfl) (e_Ph_bit) ?_
    refine Ev.s (ins := .iand) (pc' := 127) rfl rfl ?_
    refine Ev.s (ins := .ior) (pc' := 128) rfl rfl ?_
    refine pt_19 rfl (Nat.le_of_ble_eq_true rfl) ?_
    refine Ev.s (ins := .aload_n 0) (pc' := 132) rfl rfl ?_
    refine gf_2_9 rfl ?_
    refine Ev.s (ins := .iload_n 1) (pc' := 136) rfl rfl ?_
    refine Ev.s (ins := .iload_n 3) (pc' := 137) rfl rfl ?_
    refine pt_21 rfl (Nat.le_of_ble_eq_true rfl) ?_
    exact Ev.vret rfl rfl hk
set_option maxRecDepth 100000 in
theorem e_Told_readLines_2_L7 {v1 : Int32} {v2 : Int32} {v3 : Int32} {v4 : Int32} {x : Option Value × List mmC} (hk : (kO (fun r : Ob => (none, mh sc rest r fl ma tr mk cn nu de ru la tb tf ph cs)) x) (Told_readLines_L7 to v1 v2 v3 v4)) : Ev mmPT tbX10_readLines 7 [some (.ref 2), some (.int v1), some (.int v2), some (.int v3), some (.int v4), none] [] (mh sc rest to fl ma tr mk cn nu de ru la tb tf ph cs) x :=
  k_loop (B := (fun a : Int32 × Int32 × Int32 => Told_readLines_L7b to v1 a.1 a.2.1 a.2.2)) (μ := fun a : Int32 × Int32 × Int32 => mu a.2.2) (E := fun a : Int32 × Int32 × Int32 => Ev mmPT tbX10_readLines 7 [some (.ref 2), some (.int v1), some (.int a.1), some (.int a.2.1), some (.int a.2.2), none] [] (mh sc rest to fl ma tr mk cn nu de ru la tb tf ph cs) x) (X := (kO (fun r : Ob => (none, mh sc rest r fl ma tr mk cn nu de ru la tb tf ph cs)) x)) (fun a hk => e_Told_readLines_2_L7b hk) (v2, v3, v4) hk
set_option maxRecDepth 100000 in
theorem e_Told_readLines_2_0 {v1 : Int32} {x : Option Value × List mmC} (hk : (kO (fun r : Ob => (none, mh sc rest r fl ma tr mk cn nu de ru la tb tf ph cs)) x) (Told_readLines to v1)) : Ev mmPT tbX10_readLines 0 [some (.ref 2), some (.int v1), none, none, none, none] [] (mh sc rest to fl ma tr mk cn nu de ru la tb tf ph cs) x := by
  unfold Told_readLines at hk
  refine q_ic 0 rfl rfl ?_
  refine Ev.s (ins := .istore_n 2) (pc' := 2) (lv' := [some (.ref 2), some (.int v1), some (.int 0), none, none, none]) rfl rfl ?_
  refine q_ic 0 rfl rfl ?_
  refine Ev.s (ins := .istore_n 3) (pc' := 4) (lv' := [some (.ref 2), some (.int v1), some (.int 0), some (.int 0), none, none]) rfl rfl ?_
  refine q_ic 0 rfl rfl ?_
  refine Ev.s (ins := .istore 4) (pc' := 7) (lv' := [some (.ref 2), some (.int v1), some (.int 0), some (.int 0), some (.int 0), none]) rfl rfl ?_
  exact e_Told_readLines_2_L7 hk
set_option maxRecDepth 100000 in
theorem e_Told_readLines_2 {v1 : Int32} : Ev mmPT tbX10_readLines 0 [some (.ref 2), some (.int v1), none, none, none, none] [] (mh sc rest to fl ma tr mk cn nu de ru la tb tf ph cs) ((fun r : Ob => (none, mh sc rest r fl ma tr mk cn nu de ru la tb tf ph cs)) (Told_readLines to v1)) := e_Told_readLines_2_0 (by exact rfl)
set_option maxRecDepth 100000 in
theorem e_Told_reckon_2_L19b {v1 : Int32} {v2 : Int32} {x : Option Value × List mmC} (b9 : v1 < 2147483647) (hk : (kK (fun a : Int32 × Ob => mu a.1) (mu v2) (fun a : Int32 × Ob => Ev mmPT tbX10_reckon 19 [some (.ref 2), some (.int v1), some (.int a.1)] [] (mh sc rest to a.2 ma tr mk cn nu de ru la tb tf ph cs) x) (kK (fun a : Int32 × Ob × Ob => mu a.1) (mu v1) (fun a : Int32 × Ob × Ob => Ev mmPT tbX10_reckon 9 [some (.ref 2), some (.int a.1), none] [] (mh sc rest a.2.1 a.2.2 ma tr mk cn nu de ru la tb tf ph cs) x) (kO (fun r : Ob × Ob => (none, mh sc rest r.1 r.2 ma tr mk cn nu de ru la tb tf ph cs)) x))) (Told_reckon_L19b to fl v1 v2)) : Ev mmPT tbX10_reckon 19 [some (.ref 2), some (.int v1), some (.int v2)] [] (mh sc rest to fl ma tr mk cn nu de ru la tb tf ph cs) x := by
  unfold Told_reckon_L19b at hk
  refine Ev.s (ins := .iload_n 2) (pc' := 20) rfl rfl ?_
  refine Ev.s (ins := .aload_n 0) (pc' := 21) rfl rfl ?_
  refine gf_2_5 rfl ?_
  refine Ev.s (ins := .iload_n 1) (pc' := 25) rfl rfl ?_
  refine at_13 (oat to 5 10 v1) rfl (Nat.le_of_ble_eq_true rfl) rfl ?_
  refine q_cge rfl hk (fun c1 hk => ?_) (fun c1 hk => ?_)
  · refine Ev.s (ins := .aload_n 0) (pc' := 32) rfl rfl ?_
    refine gf_2_11 rfl ?_
    refine Ev.s (ins := .iload_n 1) (pc' := 36) rfl rfl ?_
    refine Ev.s (ins := .aload_n 0) (pc' := 37) rfl rfl ?_
    refine gf_2_7 rfl ?_
    refine Ev.s (ins := .iload_n 1) (pc' := 41) rfl rfl ?_
    refine q_ic 2 rfl rfl ?_
    refine Ev.s (ins := .imul) (pc' := 43) rfl rfl ?_
    refine Ev.s (ins := .iload_n 2) (pc' := 44) rfl rfl ?_
    refine Ev.s (ins := .iadd) (pc' := 45) rfl rfl ?_
    refine at_17 (oat to 7 20 ((v1 * 2) + v2)) rfl (Nat.le_of_ble_eq_true rfl) rfl ?_
    refine kc_X2_lead_0 rfl oi_25 rfl (Nat.le_of_ble_eq_true rfl) (e_Flow_lead_25) ?_
    refine q_inc 1 [some (.ref 2), some (.int v1), some (.int (v2 + 1))] rfl rfl rfl rfl ?_
    refine Ev.goto rfl ?_
    replace hk := kK_l hk
    exact hk (mu_lt (lt31 c1))
  · replace hk := kK_r hk
    refine Ev.s (ins := .aload_n 0) (pc' := 58) rfl rfl ?_
    refine Ev.s (ins := .iload_n 1) (pc' := 59) rfl rfl ?_
    refine kc_X10_readLines_0 rfl oi_2 rfl (Nat.le_of_ble_eq_true rfl) (e_Told_readLines_2) ?_
    refine q_inc 1 [some (.ref 2), some (.int (v1 + 1)), some (.int v2)] rfl rfl rfl rfl ?_
    refine Ev.goto rfl ?_
    refine Ev.weak [some (.ref 2), some (.int (v1 + 1)), none] ⟨rfl, rfl, rfl, trivial⟩ ?_
    replace hk := kK_l hk
    exact hk (mu_lt b9)
set_option maxRecDepth 100000 in
theorem e_Told_reckon_2_L19 {v1 : Int32} {v2 : Int32} {x : Option Value × List mmC} (b9 : v1 < 2147483647) (hk : (kK (fun a : Int32 × Ob × Ob => mu a.1) (mu v1) (fun a : Int32 × Ob × Ob => Ev mmPT tbX10_reckon 9 [some (.ref 2), some (.int a.1), none] [] (mh sc rest a.2.1 a.2.2 ma tr mk cn nu de ru la tb tf ph cs) x) (kO (fun r : Ob × Ob => (none, mh sc rest r.1 r.2 ma tr mk cn nu de ru la tb tf ph cs)) x)) (Told_reckon_L19 to fl v1 v2)) : Ev mmPT tbX10_reckon 19 [some (.ref 2), some (.int v1), some (.int v2)] [] (mh sc rest to fl ma tr mk cn nu de ru la tb tf ph cs) x :=
  k_loop (B := (fun a : Int32 × Ob => Told_reckon_L19b to a.2 v1 a.1)) (μ := fun a : Int32 × Ob => mu a.1) (E := fun a : Int32 × Ob => Ev mmPT tbX10_reckon 19 [some (.ref 2), some (.int v1), some (.int a.1)] [] (mh sc rest to a.2 ma tr mk cn nu de ru la tb tf ph cs) x) (X := (kK (fun a : Int32 × Ob × Ob => mu a.1) (mu v1) (fun a : Int32 × Ob × Ob => Ev mmPT tbX10_reckon 9 [some (.ref 2), some (.int a.1), none] [] (mh sc rest a.2.1 a.2.2 ma tr mk cn nu de ru la tb tf ph cs) x) (kO (fun r : Ob × Ob => (none, mh sc rest r.1 r.2 ma tr mk cn nu de ru la tb tf ph cs)) x))) (fun a hk => e_Told_reckon_2_L19b b9 hk) (v2, fl) hk
set_option maxRecDepth 100000 in
theorem e_Told_reckon_2_L9b {v1 : Int32} {x : Option Value × List mmC} (hk : (kK (fun a : Int32 × Ob × Ob => mu a.1) (mu v1) (fun a : Int32 × Ob × Ob => Ev mmPT tbX10_reckon 9 [some (.ref 2), some (.int a.1), none] [] (mh sc rest a.2.1 a.2.2 ma tr mk cn nu de ru la tb tf ph cs) x) (kO (fun r : Ob × Ob => (none, mh sc rest r.1 r.2 ma tr mk cn nu de ru la tb tf ph cs)) x)) (Told_reckon_L9b to fl v1)) : Ev mmPT tbX10_reckon 9 [some (.ref 2), some (.int v1), none] [] (mh sc rest to fl ma tr mk cn nu de ru la tb tf ph cs) x := by
  unfold Told_reckon_L9b at hk
  refine Ev.s (ins := .iload_n 1) (pc' := 10) rfl rfl ?_
  refine Ev.s (ins := .aload_n 0) (pc' := 11) rfl rfl ?_
  refine gf_2_12 (to.2.1 0) rfl rfl ?_
  refine q_cge rfl hk (fun c1 hk => ?_) (fun c1 hk => ?_)
  · refine q_ic 0 rfl rfl ?_
    refine Ev.s (ins := .istore_n 2) (pc' := 19) (lv' := [some (.ref 2), some (.int v1), some (.int 0)]) rfl rfl ?_
    exact e_Told_reckon_2_L19 (lt31 c1) hk
  · replace hk := kK_r hk
    refine Ev.s (ins := .aload_n 0) (pc' := 69) rfl rfl ?_
    refine gf_2_11 rfl ?_
    refine kc_X2_reckon_0 rfl oi_25 rfl (Nat.le_of_ble_eq_true rfl) (e_Flow_reckon_25) ?_
    refine Ev.s (ins := .aload_n 0) (pc' := 76) rfl rfl ?_
    refine kc_X10_reckonWanted_0 rfl oi_2 rfl (Nat.le_of_ble_eq_true rfl) (e_Told_reckonWanted_2) ?_
    exact Ev.vret rfl rfl hk
set_option maxRecDepth 100000 in
theorem e_Told_reckon_2_L9 {v1 : Int32} {x : Option Value × List mmC} (hk : (kO (fun r : Ob × Ob => (none, mh sc rest r.1 r.2 ma tr mk cn nu de ru la tb tf ph cs)) x) (Told_reckon_L9 to fl v1)) : Ev mmPT tbX10_reckon 9 [some (.ref 2), some (.int v1), none] [] (mh sc rest to fl ma tr mk cn nu de ru la tb tf ph cs) x :=
  k_loop (B := (fun a : Int32 × Ob × Ob => Told_reckon_L9b a.2.1 a.2.2 a.1)) (μ := fun a : Int32 × Ob × Ob => mu a.1) (E := fun a : Int32 × Ob × Ob => Ev mmPT tbX10_reckon 9 [some (.ref 2), some (.int a.1), none] [] (mh sc rest a.2.1 a.2.2 ma tr mk cn nu de ru la tb tf ph cs) x) (X := (kO (fun r : Ob × Ob => (none, mh sc rest r.1 r.2 ma tr mk cn nu de ru la tb tf ph cs)) x)) (fun a hk => e_Told_reckon_2_L9b hk) (v1, to, fl) hk
set_option maxRecDepth 100000 in
theorem e_Told_reckon_2_0 {x : Option Value × List mmC} (hk : (kO (fun r : Ob × Ob => (none, mh sc rest r.1 r.2 ma tr mk cn nu de ru la tb tf ph cs)) x) (Told_reckon to fl)) : Ev mmPT tbX10_reckon 0 [some (.ref 2), none, none] [] (mh sc rest to fl ma tr mk cn nu de ru la tb tf ph cs) x := by
  unfold Told_reckon at hk
  refine Ev.s (ins := .aload_n 0) (pc' := 1) rfl rfl ?_
  refine gf_2_11 rfl ?_
  refine kc_X2_forget_0 rfl oi_25 rfl (Nat.le_of_ble_eq_true rfl) (e_Flow_forget_25) ?_
  refine q_ic 0 rfl rfl ?_
  refine Ev.s (ins := .istore_n 1) (pc' := 9) (lv' := [some (.ref 2), some (.int 0), none]) rfl rfl ?_
  exact e_Told_reckon_2_L9 hk
set_option maxRecDepth 100000 in
theorem e_Told_reckon_2 : Ev mmPT tbX10_reckon 0 [some (.ref 2), none, none] [] (mh sc rest to fl ma tr mk cn nu de ru la tb tf ph cs) ((fun r : Ob × Ob => (none, mh sc rest r.1 r.2 ma tr mk cn nu de ru la tb tf ph cs)) (Told_reckon to fl)) := e_Told_reckon_2_0 (by exact rfl)
set_option maxRecDepth 100000 in
theorem e_Told_addBlock_2_14 {x : Option Value × List mmC} (hk : (kO (fun r : Int32 × Ob × Ob => (some (.int r.1), mh sc rest r.2.1 r.2.2 ma tr mk cn nu de ru la tb tf ph cs)) x) (Told_addBlock_14 to fl)) : Ev mmPT tbX10_addBlock 14 [some (.ref 2)] [] (mh sc rest to fl ma tr mk cn nu de ru la tb tf ph cs) x := by
  unfold Told_addBlock_14 at hk
  refine Ev.s (ins := .aload_n 0) (pc' := 15) rfl rfl ?_
  refine gf_2_12 (to.2.1 0) rfl rfl ?_
  refine q_ic 1 rfl rfl ?_
  refine Ev.s (ins := .isub) (pc' := 20) rfl rfl ?_
  exact Ev.iret rfl rfl hk
set_option maxRecDepth 100000 in
theorem e_Told_addBlock_2_0 {x : Option Value × List mmC} (hk : (kO (fun r : Int32 × Ob × Ob => (some (.int r.1), mh sc rest r.2.1 r.2.2 ma tr mk cn nu de ru la tb tf ph cs)) x) (Told_addBlock to fl)) : Ev mmPT tbX10_addBlock 0 [some (.ref 2)] [] (mh sc rest to fl ma tr mk cn nu de ru la tb tf ph cs) x := by
  unfold Told_addBlock at hk
  refine Ev.s (ins := .aload_n 0) (pc' := 1) rfl rfl ?_
  refine Ev.s (ins := .dup) (pc' := 2) rfl rfl ?_
  refine gf_2_12 (to.2.1 0) rfl rfl ?_
  refine q_ic 1 rfl rfl ?_
  refine Ev.s (ins := .iadd) (pc' := 7) rfl rfl ?_
  refine pf_2_12 ((to.2.1 0) + 1) rfl ?_
  refine Ev.s (ins := .aload_n 0) (pc' := 11) rfl rfl ?_
  refine kc_X10_reckon_0 rfl oi_2 rfl (Nat.le_of_ble_eq_true rfl) (e_Told_reckon_2) ?_
  exact e_Told_addBlock_2_14 hk
set_option maxRecDepth 100000 in
theorem e_Told_addBlock_2 : Ev mmPT tbX10_addBlock 0 [some (.ref 2)] [] (mh sc rest to fl ma tr mk cn nu de ru la tb tf ph cs) ((fun r : Int32 × Ob × Ob => (some (.int r.1), mh sc rest r.2.1 r.2.2 ma tr mk cn nu de ru la tb tf ph cs)) (Told_addBlock to fl)) := e_Told_addBlock_2_0 (by exact rfl)
set_option maxRecDepth 100000 in
theorem e_Ph_block_0 {x : Option Value × List mmC} (hk : (kP (fun r : Int32 × Ob × Ob => (some (.int r.1), mh sc rest r.2.1 r.2.2 ma tr mk cn nu de ru la tb tf ph cs)) x) (Ph_block to fl)) : Ev mmPT tbX11_block 0 [some (.ref 1)] [] (mh sc rest to fl ma tr mk cn nu de ru la tb tf ph cs) x := by
  unfold Ph_block at hk
  refine Ev.s (ins := .aload_n 0) (pc' := 1) rfl rfl ?_
  refine gf_1_0 rfl ?_
  refine gf_2_12 (to.2.1 0) rfl rfl ?_
  refine q_bi 10 rfl rfl ?_
  refine q_clt rfl hk (fun c1 hk => ?_) (fun c1 hk => ?_)
  · refine Ev.s (ins := .aload_n 0) (pc' := 23) rfl rfl ?_
    refine gf_1_0 rfl ?_
    refine kc_X10_addBlock_0 rfl oi_2 rfl (Nat.le_of_ble_eq_true rfl) (e_Told_addBlock_2) ?_
    exact Ev.iret rfl rfl hk
  · exact False.elim hk
set_option maxRecDepth 100000 in
theorem e_Ph_block {r : Int32 × Ob × Ob} (hr : (Ph_block to fl) = some r) : Ev mmPT tbX11_block 0 [some (.ref 1)] [] (mh sc rest to fl ma tr mk cn nu de ru la tb tf ph cs) ((fun r : Int32 × Ob × Ob => (some (.int r.1), mh sc rest r.2.1 r.2.2 ma tr mk cn nu de ru la tb tf ph cs)) r) := e_Ph_block_0 (by rw [hr]; exact rfl)
set_option maxRecDepth 100000 in
theorem e_Ph_isTold_19 {x : Option Value × List mmC} (hk : (kO (fun r : Bool => (some (.int (b2i r)), mh sc rest to fl ma tr mk cn nu de ru la tb tf ph cs)) x) (Ph_isTold_19 to)) : Ev mmPT tbX11_isTold 19 [none, none] [] (mh sc rest to fl ma tr mk cn nu de ru la tb tf ph cs) x := by
  unfold Ph_isTold_19 at hk
  refine q_ic 0 rfl rfl ?_
  exact Ev.zret rfl rfl (Or.inl rfl) hk
set_option maxRecDepth 100000 in
theorem e_Ph_isTold_0 {v1 : Int32} {x : Option Value × List mmC} (hk : (kO (fun r : Bool => (some (.int (b2i r)), mh sc rest to fl ma tr mk cn nu de ru la tb tf ph cs)) x) (Ph_isTold to v1)) : Ev mmPT tbX11_isTold 0 [some (.ref 1), some (.int v1)] [] (mh sc rest to fl ma tr mk cn nu de ru la tb tf ph cs) x := by
  unfold Ph_isTold at hk
  refine Ev.s (ins := .iload_n 1) (pc' := 1) rfl rfl ?_
  refine q_lt rfl hk (fun c1 hk => ?_) (fun c1 hk => ?_)
  · refine Ev.weak [none, none] ⟨rfl, rfl, trivial⟩ ?_
    exact e_Ph_isTold_19 hk
  · refine Ev.s (ins := .iload_n 1) (pc' := 5) rfl rfl ?_
    refine Ev.s (ins := .aload_n 0) (pc' := 6) rfl rfl ?_
    refine gf_1_0 rfl ?_
    refine gf_2_12 (to.2.1 0) rfl rfl ?_
    refine q_cge rfl hk (fun c2 hk => ?_) (fun c2 hk => ?_)
    · refine q_ic 1 rfl rfl ?_
      refine Ev.goto rfl ?_
      exact Ev.zret rfl rfl (Or.inr rfl) hk
    · refine Ev.weak [none, none] ⟨rfl, rfl, trivial⟩ ?_
      exact e_Ph_isTold_19 hk
set_option maxRecDepth 100000 in
theorem e_Ph_isTold {v1 : Int32} : Ev mmPT tbX11_isTold 0 [some (.ref 1), some (.int v1)] [] (mh sc rest to fl ma tr mk cn nu de ru la tb tf ph cs) ((fun r : Bool => (some (.int (b2i r)), mh sc rest to fl ma tr mk cn nu de ru la tb tf ph cs)) (Ph_isTold to v1)) := e_Ph_isTold_0 (by exact rfl)
set_option maxRecDepth 100000 in
theorem e_Ph_isOperand_16 {x : Option Value × List mmC} (hk : (kO (fun r : Bool => (some (.int (b2i r)), mh sc rest to fl ma tr mk cn nu de ru la tb tf ph cs)) x) (Ph_isOperand_16)) : Ev mmPT tbX11_isOperand 16 [none] [] (mh sc rest to fl ma tr mk cn nu de ru la tb tf ph cs) x := by
  unfold Ph_isOperand_16 at hk
  refine q_ic 0 rfl rfl ?_
  exact Ev.zret rfl rfl (Or.inl rfl) hk
set_option maxRecDepth 100000 in
theorem e_Ph_isOperand_0 {v0 : Int32} {x : Option Value × List mmC} (hk : (kO (fun r : Bool => (some (.int (b2i r)), mh sc rest to fl ma tr mk cn nu de ru la tb tf ph cs)) x) (Ph_isOperand v0)) : Ev mmPT tbX11_isOperand 0 [some (.int v0)] [] (mh sc rest to fl ma tr mk cn nu de ru la tb tf ph cs) x := by
  unfold Ph_isOperand at hk
  refine Ev.s (ins := .iload_n 0) (pc' := 1) rfl rfl ?_
  refine q_bi (-99) rfl rfl ?_
  refine q_clt rfl hk (fun c1 hk => ?_) (fun c1 hk => ?_)
  · refine Ev.weak [none] ⟨rfl, trivial⟩ ?_
    exact e_Ph_isOperand_16 hk
  · refine Ev.s (ins := .iload_n 0) (pc' := 7) rfl rfl ?_
    refine q_bi 106 rfl rfl ?_
    refine q_cge rfl hk (fun c2 hk => ?_) (fun c2 hk => ?_)
    · refine q_ic 1 rfl rfl ?_
      refine Ev.goto rfl ?_
      exact Ev.zret rfl rfl (Or.inr rfl) hk
    · refine Ev.weak [none] ⟨rfl, trivial⟩ ?_
      exact e_Ph_isOperand_16 hk
set_option maxRecDepth 100000 in
theorem e_Ph_isOperand {v0 : Int32} : Ev mmPT tbX11_isOperand 0 [some (.int v0)] [] (mh sc rest to fl ma tr mk cn nu de ru la tb tf ph cs) ((fun r : Bool => (some (.int (b2i r)), mh sc rest to fl ma tr mk cn nu de ru la tb tf ph cs)) (Ph_isOperand v0)) := e_Ph_isOperand_0 (by exact rfl)
set_option maxRecDepth 100000 in
theorem e_Ph_isReckoning_14 {x : Option Value × List mmC} (hk : (kO (fun r : Bool => (some (.int (b2i r)), mh sc rest to fl ma tr mk cn nu de ru la tb tf ph cs)) x) (Ph_isReckoning_14)) : Ev mmPT tbX11_isReckoning 14 [none] [] (mh sc rest to fl ma tr mk cn nu de ru la tb tf ph cs) x := by
  unfold Ph_isReckoning_14 at hk
  refine q_ic 0 rfl rfl ?_
  exact Ev.zret rfl rfl (Or.inl rfl) hk
set_option maxRecDepth 100000 in
theorem e_Ph_isReckoning_0 {v0 : Int32} {x : Option Value × List mmC} (hk : (kO (fun r : Bool => (some (.int (b2i r)), mh sc rest to fl ma tr mk cn nu de ru la tb tf ph cs)) x) (Ph_isReckoning v0)) : Ev mmPT tbX11_isReckoning 0 [some (.int v0)] [] (mh sc rest to fl ma tr mk cn nu de ru la tb tf ph cs) x := by
  unfold Ph_isReckoning at hk
  refine Ev.s (ins := .iload_n 0) (pc' := 1) rfl rfl ?_
  refine q_ic 1 rfl rfl ?_
  refine q_clt rfl hk (fun c1 hk => ?_) (fun c1 hk => ?_)
  · refine Ev.weak [none] ⟨rfl, trivial⟩ ?_
    exact e_Ph_isReckoning_14 hk
  · refine Ev.s (ins := .iload_n 0) (pc' := 6) rfl rfl ?_
    refine q_ic 5 rfl rfl ?_
    refine q_cgt rfl hk (fun c2 hk => ?_) (fun c2 hk => ?_)
    · refine Ev.weak [none] ⟨rfl, trivial⟩ ?_
      exact e_Ph_isReckoning_14 hk
    · refine q_ic 1 rfl rfl ?_
      refine Ev.goto rfl ?_
      exact Ev.zret rfl rfl (Or.inr rfl) hk
set_option maxRecDepth 100000 in
theorem e_Ph_isReckoning {v0 : Int32} : Ev mmPT tbX11_isReckoning 0 [some (.int v0)] [] (mh sc rest to fl ma tr mk cn nu de ru la tb tf ph cs) ((fun r : Bool => (some (.int (b2i r)), mh sc rest to fl ma tr mk cn nu de ru la tb tf ph cs)) (Ph_isReckoning v0)) := e_Ph_isReckoning_0 (by exact rfl)
set_option maxRecDepth 100000 in
theorem e_Ph_isLine_17 {x : Option Value × List mmC} (hk : (kO (fun r : Bool => (some (.int (b2i r)), mh sc rest to fl ma tr mk cn nu de ru la tb tf ph cs)) x) (Ph_isLine_17)) : Ev mmPT tbX11_isLine 17 [none, none, none, none, none, none] [] (mh sc rest to fl ma tr mk cn nu de ru la tb tf ph cs) x := by
  unfold Ph_isLine_17 at hk
  refine q_ic 0 rfl rfl ?_
  exact Ev.zret rfl rfl (Or.inl rfl) hk
set_option maxRecDepth 100000 in
theorem e_Ph_isLine_98 {x : Option Value × List mmC} (hk : (kO (fun r : Bool => (some (.int (b2i r)), mh sc rest to fl ma tr mk cn nu de ru la tb tf ph cs)) x) (Ph_isLine_98)) : Ev mmPT tbX11_isLine 98 [none, none, none, none, none, none] [] (mh sc rest to fl ma tr mk cn nu de ru la tb tf ph cs) x := by
  unfold Ph_isLine_98 at hk
  refine q_ic 0 rfl rfl ?_
  exact Ev.zret rfl rfl (Or.inl rfl) hk
set_option maxRecDepth 100000 in
theorem e_Ph_isLine_94 {x : Option Value × List mmC} (hk : (kO (fun r : Bool => (some (.int (b2i r)), mh sc rest to fl ma tr mk cn nu de ru la tb tf ph cs)) x) (Ph_isLine_94)) : Ev mmPT tbX11_isLine 94 [none, none, none, none, none, none] [] (mh sc rest to fl ma tr mk cn nu de ru la tb tf ph cs) x := by
  unfold Ph_isLine_94 at hk
  refine q_ic 1 rfl rfl ?_
  refine Ev.goto rfl ?_
  exact Ev.zret rfl rfl (Or.inr rfl) hk
set_option maxRecDepth 100000 in
theorem e_Ph_isLine_75 {v3 : Int32} {v5 : Int32} {x : Option Value × List mmC} (hk : (kO (fun r : Bool => (some (.int (b2i r)), mh sc rest to fl ma tr mk cn nu de ru la tb tf ph cs)) x) (Ph_isLine_75 v3 v5)) : Ev mmPT tbX11_isLine 75 [none, none, none, some (.int v3), none, some (.int v5)] [] (mh sc rest to fl ma tr mk cn nu de ru la tb tf ph cs) x := by
  unfold Ph_isLine_75 at hk
  refine Ev.s (ins := .iload 5) (pc' := 77) rfl rfl ?_
  refine q_eq rfl hk (fun c1 hk => ?_) (fun c1 hk => ?_)
  · refine Ev.s (ins := .iload_n 3) (pc' := 91) rfl rfl ?_
    refine q_ne rfl hk (fun c2 hk => ?_) (fun c2 hk => ?_)
    · refine Ev.weak [none, none, none, none, none, none] ⟨rfl, rfl, rfl, rfl, rfl, rfl, trivial⟩ ?_
      exact e_Ph_isLine_94 hk
    · refine Ev.weak [none, none, none, none, none, none] ⟨rfl, rfl, rfl, rfl, rfl, rfl, trivial⟩ ?_
      exact e_Ph_isLine_98 hk
  · refine Ev.s (ins := .iload_n 3) (pc' := 81) rfl rfl ?_
    refine kc_X11_isOperand_2 rfl (Nat.le_of_ble_eq_true rfl) (e_Ph_isOperand) ?_
    refine q_beq rfl hk (fun c2 hk => ?_) (fun c2 hk => ?_)
    · refine Ev.goto rfl ?_
      refine Ev.weak [none, none, none, none, none, none] ⟨rfl, rfl, rfl, rfl, rfl, rfl, trivial⟩ ?_
      exact e_Ph_isLine_94 hk
    · refine Ev.weak [none, none, none, none, none, none] ⟨rfl, rfl, rfl, rfl, rfl, rfl, trivial⟩ ?_
      exact e_Ph_isLine_98 hk
set_option maxRecDepth 100000 in
theorem e_Ph_isLine_54 {v0 : Int32} {v1 : Int32} {v3 : Int32} {v4 : Int32} {w0 : Int32} {x : Option Value × List mmC} (hk : (kO (fun r : Bool => (some (.int (b2i r)), mh sc rest to fl ma tr mk cn nu de ru la tb tf ph cs)) x) (Ph_isLine_54 v0 v1 v3 v4 w0)) : Ev mmPT tbX11_isLine 54 [some (.int v0), some (.int v1), none, some (.int v3), some (.int v4), none] [.int w0] (mh sc rest to fl ma tr mk cn nu de ru la tb tf ph cs) x := by
  unfold Ph_isLine_54 at hk
  refine Ev.s (ins := .istore 5) (pc' := 56) (lv' := [some (.int v0), some (.int v1), none, some (.int v3), some (.int v4), some (.int w0)]) rfl rfl ?_
  refine Ev.s (ins := .iload_n 0) (pc' := 57) rfl rfl ?_
  refine kc_X11_sets_2 rfl (Nat.le_of_ble_eq_true rfl) (e_Ph_sets) ?_
  refine q_beq rfl hk (fun c1 hk => ?_) (fun c1 hk => ?_)
  · refine Ev.s (ins := .iload 4) (pc' := 65) rfl rfl ?_
    refine q_eq rfl hk (fun c2 hk => ?_) (fun c2 hk => ?_)
    · refine Ev.weak [none, none, none, none, none, none] ⟨rfl, rfl, rfl, rfl, rfl, rfl, trivial⟩ ?_
      exact e_Ph_isLine_98 hk
    · refine Ev.goto rfl ?_
      refine Ev.weak [none, none, none, some (.int v3), none, some (.int w0)] ⟨rfl, rfl, rfl, rfl, rfl, rfl, trivial⟩ ?_
      exact e_Ph_isLine_75 hk
  · refine Ev.s (ins := .iload_n 1) (pc' := 72) rfl rfl ?_
    refine q_ne rfl hk (fun c2 hk => ?_) (fun c2 hk => ?_)
    · refine Ev.weak [none, none, none, some (.int v3), none, some (.int w0)] ⟨rfl, rfl, rfl, rfl, rfl, rfl, trivial⟩ ?_
      exact e_Ph_isLine_75 hk
    · refine Ev.weak [none, none, none, none, none, none] ⟨rfl, rfl, rfl, rfl, rfl, rfl, trivial⟩ ?_
      exact e_Ph_isLine_98 hk
set_option maxRecDepth 100000 in
theorem e_Ph_isLine_49 {v0 : Int32} {v1 : Int32} {v3 : Int32} {v4 : Int32} {x : Option Value × List mmC} (hk : (kO (fun r : Bool => (some (.int (b2i r)), mh sc rest to fl ma tr mk cn nu de ru la tb tf ph cs)) x) (Ph_isLine_49 v0 v1 v3 v4)) : Ev mmPT tbX11_isLine 49 [some (.int v0), some (.int v1), none, some (.int v3), some (.int v4), none] [] (mh sc rest to fl ma tr mk cn nu de ru la tb tf ph cs) x := by
  unfold Ph_isLine_49 at hk
  refine q_ic 1 rfl rfl ?_
  refine Ev.goto rfl ?_
  exact e_Ph_isLine_54 hk
set_option maxRecDepth 100000 in
theorem e_Ph_isLine_34 {v0 : Int32} {v1 : Int32} {v3 : Int32} {w0 : Int32} {x : Option Value × List mmC} (hk : (kO (fun r : Bool => (some (.int (b2i r)), mh sc rest to fl ma tr mk cn nu de ru la tb tf ph cs)) x) (Ph_isLine_34 v0 v1 v3 w0)) : Ev mmPT tbX11_isLine 34 [some (.int v0), some (.int v1), none, some (.int v3), none, none] [.int w0] (mh sc rest to fl ma tr mk cn nu de ru la tb tf ph cs) x := by
  unfold Ph_isLine_34 at hk
  refine Ev.s (ins := .istore 4) (pc' := 36) (lv' := [some (.int v0), some (.int v1), none, some (.int v3), some (.int w0), none]) rfl rfl ?_
  refine Ev.s (ins := .iload_n 0) (pc' := 37) rfl rfl ?_
  refine kc_X11_isReckoning_2 rfl (Nat.le_of_ble_eq_true rfl) (e_Ph_isReckoning) ?_
  refine q_bne rfl hk (fun c1 hk => ?_) (fun c1 hk => ?_)
  · exact e_Ph_isLine_49 hk
  · refine Ev.s (ins := .iload_n 0) (pc' := 44) rfl rfl ?_
    refine q_bi 7 rfl rfl ?_
    refine q_cne rfl hk (fun c2 hk => ?_) (fun c2 hk => ?_)
    · exact e_Ph_isLine_49 hk
    · refine q_ic 0 rfl rfl ?_
      exact e_Ph_isLine_54 hk
set_option maxRecDepth 100000 in
theorem e_Ph_isLine_33 {v0 : Int32} {v1 : Int32} {v3 : Int32} {x : Option Value × List mmC} (hk : (kO (fun r : Bool => (some (.int (b2i r)), mh sc rest to fl ma tr mk cn nu de ru la tb tf ph cs)) x) (Ph_isLine_33 v0 v1 v3)) : Ev mmPT tbX11_isLine 33 [some (.int v0), some (.int v1), none, some (.int v3), none, none] [] (mh sc rest to fl ma tr mk cn nu de ru la tb tf ph cs) x := by
  unfold Ph_isLine_33 at hk
  refine q_ic 0 rfl rfl ?_
  exact e_Ph_isLine_34 hk
set_option maxRecDepth 100000 in
theorem e_Ph_isLine_0 {v0 : Int32} {v1 : Int32} {v2 : Int32} {v3 : Int32} {x : Option Value × List mmC} (hk : (kO (fun r : Bool => (some (.int (b2i r)), mh sc rest to fl ma tr mk cn nu de ru la tb tf ph cs)) x) (Ph_isLine v0 v1 v2 v3)) : Ev mmPT tbX11_isLine 0 [some (.int v0), some (.int v1), some (.int v2), some (.int v3), none, none] [] (mh sc rest to fl ma tr mk cn nu de ru la tb tf ph cs) x := by
  unfold Ph_isLine at hk
  refine Ev.s (ins := .iload_n 0) (pc' := 1) rfl rfl ?_
  refine q_lt rfl hk (fun c1 hk => ?_) (fun c1 hk => ?_)
  · refine Ev.weak [none, none, none, none, none, none] ⟨rfl, rfl, rfl, rfl, rfl, rfl, trivial⟩ ?_
    exact e_Ph_isLine_17 hk
  · refine Ev.s (ins := .iload_n 0) (pc' := 5) rfl rfl ?_
    refine q_bi 8 rfl rfl ?_
    refine q_cgt rfl hk (fun c2 hk => ?_) (fun c2 hk => ?_)
    · refine Ev.weak [none, none, none, none, none, none] ⟨rfl, rfl, rfl, rfl, rfl, rfl, trivial⟩ ?_
      exact e_Ph_isLine_17 hk
    · refine Ev.s (ins := .iload_n 2) (pc' := 11) rfl rfl ?_
      refine kc_X11_isOperand_2 rfl (Nat.le_of_ble_eq_true rfl) (e_Ph_isOperand) ?_
      refine q_bne rfl hk (fun c3 hk => ?_) (fun c3 hk => ?_)
      · refine Ev.s (ins := .iload_n 1) (pc' := 20) rfl rfl ?_
        refine q_lt rfl hk (fun c4 hk => ?_) (fun c4 hk => ?_)
        · refine Ev.weak [some (.int v0), some (.int v1), none, some (.int v3), none, none] ⟨rfl, rfl, rfl, rfl, rfl, rfl, trivial⟩ ?_
          exact e_Ph_isLine_33 hk
        · refine Ev.s (ins := .iload_n 1) (pc' := 24) rfl rfl ?_
          refine q_bi 6 rfl rfl ?_
          refine q_cge rfl hk (fun c5 hk => ?_) (fun c5 hk => ?_)
          · refine q_ic 1 rfl rfl ?_
            refine Ev.goto rfl ?_
            refine Ev.weak [some (.int v0), some (.int v1), none, some (.int v3), none, none] ⟨rfl, rfl, rfl, rfl, rfl, rfl, trivial⟩ ?_
            exact e_Ph_isLine_34 hk
          · refine Ev.weak [some (.int v0), some (.int v1), none, some (.int v3), none, none] ⟨rfl, rfl, rfl, rfl, rfl, rfl, trivial⟩ ?_
            exact e_Ph_isLine_33 hk
      · refine Ev.weak [none, none, none, none, none, none] ⟨rfl, rfl, rfl, rfl, rfl, rfl, trivial⟩ ?_
        exact e_Ph_isLine_17 hk
set_option maxRecDepth 100000 in
theorem e_Ph_isLine {v0 : Int32} {v1 : Int32} {v2 : Int32} {v3 : Int32} : Ev mmPT tbX11_isLine 0 [some (.int v0), some (.int v1), some (.int v2), some (.int v3), none, none] [] (mh sc rest to fl ma tr mk cn nu de ru la tb tf ph cs) ((fun r : Bool => (some (.int (b2i r)), mh sc rest to fl ma tr mk cn nu de ru la tb tf ph cs)) (Ph_isLine v0 v1 v2 v3)) := e_Ph_isLine_0 (by exact rfl)
set_option maxRecDepth 100000 in
theorem e_Told_addLine_2_77 {v6 : Int32} {x : Option Value × List mmC} (hk : (kO (fun r : Int32 × Ob × Ob => (some (.int r.1), mh sc rest r.2.1 r.2.2 ma tr mk cn nu de ru la tb tf ph cs)) x) (Told_addLine_77 to fl v6)) : Ev mmPT tbX10_addLine 77 [none, none, none, none, none, none, some (.int v6), none] [] (mh sc rest to fl ma tr mk cn nu de ru la tb tf ph cs) x := by
  unfold Told_addLine_77 at hk
  refine Ev.s (ins := .iload 6) (pc' := 79) rfl rfl ?_
  exact Ev.iret rfl rfl hk
set_option maxRecDepth 100000 in
theorem e_Told_addLine_2_0 {v1 : Int32} {v2 : Int32} {v3 : Int32} {v4 : Int32} {v5 : Int32} {x : Option Value × List mmC} (hk : (kO (fun r : Int32 × Ob × Ob => (some (.int r.1), mh sc rest r.2.1 r.2.2 ma tr mk cn nu de ru la tb tf ph cs)) x) (Told_addLine to fl v1 v2 v3 v4 v5)) : Ev mmPT tbX10_addLine 0 [some (.ref 2), some (.int v1), some (.int v2), some (.int v3), some (.int v4), some (.int v5), none, none] [] (mh sc rest to fl ma tr mk cn nu de ru la tb tf ph cs) x := by
  unfold Told_addLine at hk
  refine Ev.s (ins := .aload_n 0) (pc' := 1) rfl rfl ?_
  refine gf_2_0 rfl ?_
  refine Ev.s (ins := .iload_n 1) (pc' := 5) rfl rfl ?_
  refine at_3 (oat to 0 10 v1) rfl (Nat.le_of_ble_eq_true rfl) rfl ?_
  refine Ev.s (ins := .istore 6) (pc' := 10) (lv' := [some (.ref 2), some (.int v1), some (.int v2), some (.int v3), some (.int v4), some (.int v5), some (.int (oat to 0 10 v1)), none]) rfl rfl ?_
  refine Ev.s (ins := .iload_n 1) (pc' := 11) rfl rfl ?_
  refine q_bi 8 rfl rfl ?_
  refine Ev.s (ins := .imul) (pc' := 14) rfl rfl ?_
  refine Ev.s (ins := .iload 6) (pc' := 16) rfl rfl ?_
  refine Ev.s (ins := .iadd) (pc' := 17) rfl rfl ?_
  refine Ev.s (ins := .istore 7) (pc' := 19) (lv' := [some (.ref 2), some (.int v1), some (.int v2), some (.int v3), some (.int v4), some (.int v5), some (.int (oat to 0 10 v1)), some (.int ((v1 * 8) + (oat to 0 10 v1)))]) rfl rfl ?_
  refine Ev.s (ins := .aload_n 0) (pc' := 20) rfl rfl ?_
  refine gf_2_1 rfl ?_
  refine Ev.s (ins := .iload 7) (pc' := 25) rfl rfl ?_
  refine Ev.s (ins := .iload_n 2) (pc' := 26) rfl rfl ?_
  refine pt_5 rfl (Nat.le_of_ble_eq_true rfl) ?_
  refine Ev.s (ins := .aload_n 0) (pc' := 30) rfl rfl ?_
  refine gf_2_2 rfl ?_
  refine Ev.s (ins := .iload 7) (pc' := 35) rfl rfl ?_
  refine Ev.s (ins := .iload_n 3) (pc' := 36) rfl rfl ?_
  refine pt_7 rfl (Nat.le_of_ble_eq_true rfl) ?_
  refine Ev.s (ins := .aload_n 0) (pc' := 40) rfl rfl ?_
  refine gf_2_3 rfl ?_
  refine Ev.s (ins := .iload 7) (pc' := 45) rfl rfl ?_
  refine Ev.s (ins := .iload 4) (pc' := 47) rfl rfl ?_
  refine pt_9 rfl (Nat.le_of_ble_eq_true rfl) ?_
  refine Ev.s (ins := .aload_n 0) (pc' := 51) rfl rfl ?_
  refine gf_2_4 rfl ?_
  refine Ev.s (ins := .iload 7) (pc' := 56) rfl rfl ?_
  refine Ev.s (ins := .iload 5) (pc' := 58) rfl rfl ?_
  refine pt_11 rfl (Nat.le_of_ble_eq_true rfl) ?_
  refine Ev.s (ins := .aload_n 0) (pc' := 62) rfl rfl ?_
  refine gf_2_0 rfl ?_
  refine Ev.s (ins := .iload_n 1) (pc' := 66) rfl rfl ?_
  refine Ev.s (ins := .iload 6) (pc' := 68) rfl rfl ?_
  refine q_ic 1 rfl rfl ?_
  refine Ev.s (ins := .iadd) (pc' := 70) rfl rfl ?_
  refine pt_3 rfl (Nat.le_of_ble_eq_true rfl) ?_
  refine Ev.s (ins := .aload_n 0) (pc' := 74) rfl rfl ?_
  refine kc_X10_reckon_0 rfl oi_2 rfl (Nat.le_of_ble_eq_true rfl) (e_Told_reckon_2) ?_
  refine Ev.weak [none, none, none, none, none, none, some (.int (oat to 0 10 v1)), none] ⟨rfl, rfl, rfl, rfl, rfl, rfl, rfl, rfl, trivial⟩ ?_
  exact e_Told_addLine_2_77 hk
set_option maxRecDepth 100000 in
theorem e_Told_addLine_2 {v1 : Int32} {v2 : Int32} {v3 : Int32} {v4 : Int32} {v5 : Int32} : Ev mmPT tbX10_addLine 0 [some (.ref 2), some (.int v1), some (.int v2), some (.int v3), some (.int v4), some (.int v5), none, none] [] (mh sc rest to fl ma tr mk cn nu de ru la tb tf ph cs) ((fun r : Int32 × Ob × Ob => (some (.int r.1), mh sc rest r.2.1 r.2.2 ma tr mk cn nu de ru la tb tf ph cs)) (Told_addLine to fl v1 v2 v3 v4 v5)) := e_Told_addLine_2_0 (by exact rfl)
set_option maxRecDepth 100000 in
theorem e_Ph_line_0 {v1 : Int32} {v2 : Int32} {v3 : Int32} {v4 : Int32} {v5 : Int32} {x : Option Value × List mmC} (hk : (kP (fun r : Int32 × Ob × Ob => (some (.int r.1), mh sc rest r.2.1 r.2.2 ma tr mk cn nu de ru la tb tf ph cs)) x) (Ph_line to fl v1 v2 v3 v4 v5)) : Ev mmPT tbX11_line 0 [some (.ref 1), some (.int v1), some (.int v2), some (.int v3), some (.int v4), some (.int v5)] [] (mh sc rest to fl ma tr mk cn nu de ru la tb tf ph cs) x := by
  unfold Ph_line at hk
  refine Ev.s (ins := .aload_n 0) (pc' := 1) rfl rfl ?_
  refine Ev.s (ins := .iload_n 1) (pc' := 2) rfl rfl ?_
  refine kc_X11_isTold_0 rfl oi_1 rfl (Nat.le_of_ble_eq_true rfl) (e_Ph_isTold) ?_
  refine q_bne rfl hk (fun c1 hk => ?_) (fun c1 hk => ?_)
  · refine Ev.s (ins := .iload_n 2) (pc' := 19) rfl rfl ?_
    refine Ev.s (ins := .iload_n 3) (pc' := 20) rfl rfl ?_
    refine Ev.s (ins := .iload 4) (pc' := 22) rfl rfl ?_
    refine Ev.s (ins := .iload 5) (pc' := 24) rfl rfl ?_
    refine kc_X11_isLine_2 rfl (Nat.le_of_ble_eq_true rfl) (e_Ph_isLine) ?_
    refine q_bne rfl hk (fun c2 hk => ?_) (fun c2 hk => ?_)
    · refine Ev.s (ins := .aload_n 0) (pc' := 41) rfl rfl ?_
      refine gf_1_0 rfl ?_
      refine gf_2_0 rfl ?_
      refine Ev.s (ins := .iload_n 1) (pc' := 48) rfl rfl ?_
      refine at_3 (oat to 0 10 v1) rfl (Nat.le_of_ble_eq_true rfl) rfl ?_
      refine q_bi 8 rfl rfl ?_
      refine q_clt rfl hk (fun c3 hk => ?_) (fun c3 hk => ?_)
      · refine Ev.s (ins := .aload_n 0) (pc' := 67) rfl rfl ?_
        refine gf_1_0 rfl ?_
        refine Ev.s (ins := .iload_n 1) (pc' := 71) rfl rfl ?_
        refine Ev.s (ins := .iload_n 2) (pc' := 72) rfl rfl ?_
        refine Ev.s (ins := .iload_n 3) (pc' := 73) rfl rfl ?_
        refine Ev.s (ins := .iload 4) (pc' := 75) rfl rfl ?_
        refine Ev.s (ins := .iload 5) (pc' := 77) rfl rfl ?_
        refine kc_X10_addLine_0 rfl oi_2 rfl (Nat.le_of_ble_eq_true rfl) (e_Told_addLine_2) ?_
        exact Ev.iret rfl rfl hk
      · exact False.elim hk
    · exact False.elim hk
  · exact False.elim hk
set_option maxRecDepth 100000 in
theorem e_Ph_line {v1 : Int32} {v2 : Int32} {v3 : Int32} {v4 : Int32} {v5 : Int32} {r : Int32 × Ob × Ob} (hr : (Ph_line to fl v1 v2 v3 v4 v5) = some r) : Ev mmPT tbX11_line 0 [some (.ref 1), some (.int v1), some (.int v2), some (.int v3), some (.int v4), some (.int v5)] [] (mh sc rest to fl ma tr mk cn nu de ru la tb tf ph cs) ((fun r : Int32 × Ob × Ob => (some (.int r.1), mh sc rest r.2.1 r.2.2 ma tr mk cn nu de ru la tb tf ph cs)) r) := e_Ph_line_0 (by rw [hr]; exact rfl)
set_option maxRecDepth 100000 in
theorem e_Told_cutLine_2_24 {v2 : Int32} {x : Option Value × List mmC} (hk : (kO (fun r : Int32 × Ob × Ob => (some (.int r.1), mh sc rest r.2.1 r.2.2 ma tr mk cn nu de ru la tb tf ph cs)) x) (Told_cutLine_24 to fl v2)) : Ev mmPT tbX10_cutLine 24 [none, none, some (.int v2)] [] (mh sc rest to fl ma tr mk cn nu de ru la tb tf ph cs) x := by
  unfold Told_cutLine_24 at hk
  refine Ev.s (ins := .iload_n 2) (pc' := 25) rfl rfl ?_
  exact Ev.iret rfl rfl hk
set_option maxRecDepth 100000 in
theorem e_Told_cutLine_2_0 {v1 : Int32} {x : Option Value × List mmC} (hk : (kO (fun r : Int32 × Ob × Ob => (some (.int r.1), mh sc rest r.2.1 r.2.2 ma tr mk cn nu de ru la tb tf ph cs)) x) (Told_cutLine to fl v1)) : Ev mmPT tbX10_cutLine 0 [some (.ref 2), some (.int v1), none] [] (mh sc rest to fl ma tr mk cn nu de ru la tb tf ph cs) x := by
  unfold Told_cutLine at hk
  refine Ev.s (ins := .aload_n 0) (pc' := 1) rfl rfl ?_
  refine gf_2_0 rfl ?_
  refine Ev.s (ins := .iload_n 1) (pc' := 5) rfl rfl ?_
  refine at_3 (oat to 0 10 v1) rfl (Nat.le_of_ble_eq_true rfl) rfl ?_
  refine q_ic 1 rfl rfl ?_
  refine Ev.s (ins := .isub) (pc' := 10) rfl rfl ?_
  refine Ev.s (ins := .istore_n 2) (pc' := 11) (lv' := [some (.ref 2), some (.int v1), some (.int ((oat to 0 10 v1) - 1))]) rfl rfl ?_
  refine Ev.s (ins := .aload_n 0) (pc' := 12) rfl rfl ?_
  refine gf_2_0 rfl ?_
  refine Ev.s (ins := .iload_n 1) (pc' := 16) rfl rfl ?_
  refine Ev.s (ins := .iload_n 2) (pc' := 17) rfl rfl ?_
  refine pt_3 rfl (Nat.le_of_ble_eq_true rfl) ?_
  refine Ev.s (ins := .aload_n 0) (pc' := 21) rfl rfl ?_
  refine kc_X10_reckon_0 rfl oi_2 rfl (Nat.le_of_ble_eq_true rfl) (e_Told_reckon_2) ?_
  refine Ev.weak [none, none, some (.int ((oat to 0 10 v1) - 1))] ⟨rfl, rfl, rfl, trivial⟩ ?_
  exact e_Told_cutLine_2_24 hk
set_option maxRecDepth 100000 in
theorem e_Told_cutLine_2 {v1 : Int32} : Ev mmPT tbX10_cutLine 0 [some (.ref 2), some (.int v1), none] [] (mh sc rest to fl ma tr mk cn nu de ru la tb tf ph cs) ((fun r : Int32 × Ob × Ob => (some (.int r.1), mh sc rest r.2.1 r.2.2 ma tr mk cn nu de ru la tb tf ph cs)) (Told_cutLine to fl v1)) := e_Told_cutLine_2_0 (by exact rfl)
set_option maxRecDepth 100000 in
theorem e_Ph_cut_0 {v1 : Int32} {x : Option Value × List mmC} (hk : (kP (fun r : Int32 × Ob × Ob => (some (.int r.1), mh sc rest r.2.1 r.2.2 ma tr mk cn nu de ru la tb tf ph cs)) x) (Ph_cut to fl v1)) : Ev mmPT tbX11_cut 0 [some (.ref 1), some (.int v1)] [] (mh sc rest to fl ma tr mk cn nu de ru la tb tf ph cs) x := by
  unfold Ph_cut at hk
  refine Ev.s (ins := .aload_n 0) (pc' := 1) rfl rfl ?_
  refine Ev.s (ins := .iload_n 1) (pc' := 2) rfl rfl ?_
  refine kc_X11_isTold_0 rfl oi_1 rfl (Nat.le_of_ble_eq_true rfl) (e_Ph_isTold) ?_
  refine q_bne rfl hk (fun c1 hk => ?_) (fun c1 hk => ?_)
  · refine Ev.s (ins := .aload_n 0) (pc' := 19) rfl rfl ?_
    refine gf_1_0 rfl ?_
    refine gf_2_0 rfl ?_
    refine Ev.s (ins := .iload_n 1) (pc' := 26) rfl rfl ?_
    refine at_3 (oat to 0 10 v1) rfl (Nat.le_of_ble_eq_true rfl) rfl ?_
    refine q_ne rfl hk (fun c2 hk => ?_) (fun c2 hk => ?_)
    · exact False.elim hk
    · refine Ev.s (ins := .aload_n 0) (pc' := 43) rfl rfl ?_
      refine gf_1_0 rfl ?_
      refine Ev.s (ins := .iload_n 1) (pc' := 47) rfl rfl ?_
      refine kc_X10_cutLine_0 rfl oi_2 rfl (Nat.le_of_ble_eq_true rfl) (e_Told_cutLine_2) ?_
      exact Ev.iret rfl rfl hk
  · exact False.elim hk
set_option maxRecDepth 100000 in
theorem e_Ph_cut {v1 : Int32} {r : Int32 × Ob × Ob} (hr : (Ph_cut to fl v1) = some r) : Ev mmPT tbX11_cut 0 [some (.ref 1), some (.int v1)] [] (mh sc rest to fl ma tr mk cn nu de ru la tb tf ph cs) ((fun r : Int32 × Ob × Ob => (some (.int r.1), mh sc rest r.2.1 r.2.2 ma tr mk cn nu de ru la tb tf ph cs)) r) := e_Ph_cut_0 (by rw [hr]; exact rfl)
set_option maxRecDepth 100000 in
theorem e_Ph_isTarget_19 {x : Option Value × List mmC} (hk : (kO (fun r : Bool => (some (.int (b2i r)), mh sc rest to fl ma tr mk cn nu de ru la tb tf ph cs)) x) (Ph_isTarget_19 to)) : Ev mmPT tbX11_isTarget 19 [none, none] [] (mh sc rest to fl ma tr mk cn nu de ru la tb tf ph cs) x := by
  unfold Ph_isTarget_19 at hk
  refine q_ic 0 rfl rfl ?_
  exact Ev.zret rfl rfl (Or.inl rfl) hk
set_option maxRecDepth 100000 in
theorem e_Ph_isTarget_0 {v1 : Int32} {x : Option Value × List mmC} (hk : (kO (fun r : Bool => (some (.int (b2i r)), mh sc rest to fl ma tr mk cn nu de ru la tb tf ph cs)) x) (Ph_isTarget to v1)) : Ev mmPT tbX11_isTarget 0 [some (.ref 1), some (.int v1)] [] (mh sc rest to fl ma tr mk cn nu de ru la tb tf ph cs) x := by
  unfold Ph_isTarget at hk
  refine Ev.s (ins := .iload_n 1) (pc' := 1) rfl rfl ?_
  refine q_le rfl hk (fun c1 hk => ?_) (fun c1 hk => ?_)
  · refine Ev.s (ins := .iload_n 1) (pc' := 5) rfl rfl ?_
    refine Ev.s (ins := .aload_n 0) (pc' := 6) rfl rfl ?_
    refine gf_1_0 rfl ?_
    refine gf_2_12 (to.2.1 0) rfl rfl ?_
    refine q_cge rfl hk (fun c2 hk => ?_) (fun c2 hk => ?_)
    · refine q_ic 1 rfl rfl ?_
      refine Ev.goto rfl ?_
      exact Ev.zret rfl rfl (Or.inr rfl) hk
    · refine Ev.weak [none, none] ⟨rfl, rfl, trivial⟩ ?_
      exact e_Ph_isTarget_19 hk
  · refine Ev.weak [none, none] ⟨rfl, rfl, trivial⟩ ?_
    exact e_Ph_isTarget_19 hk
set_option maxRecDepth 100000 in
theorem e_Ph_isTarget {v1 : Int32} : Ev mmPT tbX11_isTarget 0 [some (.ref 1), some (.int v1)] [] (mh sc rest to fl ma tr mk cn nu de ru la tb tf ph cs) ((fun r : Bool => (some (.int (b2i r)), mh sc rest to fl ma tr mk cn nu de ru la tb tf ph cs)) (Ph_isTarget to v1)) := e_Ph_isTarget_0 (by exact rfl)
set_option maxRecDepth 100000 in
theorem e_Ph_isEnd_48 {x : Option Value × List mmC} (hk : (kO (fun r : Bool => (some (.int (b2i r)), mh sc rest to fl ma tr mk cn nu de ru la tb tf ph cs)) x) (Ph_isEnd_48 to)) : Ev mmPT tbX11_isEnd 48 [none, none, none, none, none] [] (mh sc rest to fl ma tr mk cn nu de ru la tb tf ph cs) x := by
  unfold Ph_isEnd_48 at hk
  refine q_ic 0 rfl rfl ?_
  exact Ev.zret rfl rfl (Or.inl rfl) hk
set_option maxRecDepth 100000 in
theorem e_Ph_isEnd_71 {x : Option Value × List mmC} (hk : (kO (fun r : Bool => (some (.int (b2i r)), mh sc rest to fl ma tr mk cn nu de ru la tb tf ph cs)) x) (Ph_isEnd_71 to)) : Ev mmPT tbX11_isEnd 71 [none, none, none, none, none] [] (mh sc rest to fl ma tr mk cn nu de ru la tb tf ph cs) x := by
  unfold Ph_isEnd_71 at hk
  refine q_ic 0 rfl rfl ?_
  exact Ev.zret rfl rfl (Or.inl rfl) hk
set_option maxRecDepth 100000 in
theorem e_Ph_isEnd_101 {x : Option Value × List mmC} (hk : (kO (fun r : Bool => (some (.int (b2i r)), mh sc rest to fl ma tr mk cn nu de ru la tb tf ph cs)) x) (Ph_isEnd_101 to)) : Ev mmPT tbX11_isEnd 101 [none, none, none, none, none] [] (mh sc rest to fl ma tr mk cn nu de ru la tb tf ph cs) x := by
  unfold Ph_isEnd_101 at hk
  refine q_ic 0 rfl rfl ?_
  exact Ev.zret rfl rfl (Or.inl rfl) hk
set_option maxRecDepth 100000 in
theorem e_Ph_isEnd_0 {v1 : Int32} {v2 : Int32} {v3 : Int32} {v4 : Int32} {x : Option Value × List mmC} (hk : (kO (fun r : Bool => (some (.int (b2i r)), mh sc rest to fl ma tr mk cn nu de ru la tb tf ph cs)) x) (Ph_isEnd to v1 v2 v3 v4)) : Ev mmPT tbX11_isEnd 0 [some (.ref 1), some (.int v1), some (.int v2), some (.int v3), some (.int v4)] [] (mh sc rest to fl ma tr mk cn nu de ru la tb tf ph cs) x := by
  unfold Ph_isEnd at hk
  refine Ev.s (ins := .iload_n 1) (pc' := 1) rfl rfl ?_
  refine q_if hk (fun c1 hk => ?_) (fun c1 hk => ?_)
  · refine Ev.sw (tg := 28) rfl rfl (by rw [c1]; rfl) ?_
    refine Ev.s (ins := .iload_n 2) (pc' := 29) rfl rfl ?_
    refine kc_X11_isOperand_2 rfl (Nat.le_of_ble_eq_true rfl) (e_Ph_isOperand) ?_
    refine q_beq rfl hk (fun c2 hk => ?_) (fun c2 hk => ?_)
    · refine Ev.s (ins := .iload_n 3) (pc' := 36) rfl rfl ?_
      refine q_ne rfl hk (fun c3 hk => ?_) (fun c3 hk => ?_)
      · refine Ev.s (ins := .iload 4) (pc' := 41) rfl rfl ?_
        refine q_ne rfl hk (fun c4 hk => ?_) (fun c4 hk => ?_)
        · refine q_ic 1 rfl rfl ?_
          refine Ev.goto rfl ?_
          exact Ev.zret rfl rfl (Or.inr rfl) hk
        · refine Ev.weak [none, none, none, none, none] ⟨rfl, rfl, rfl, rfl, rfl, trivial⟩ ?_
          exact e_Ph_isEnd_48 hk
      · refine Ev.weak [none, none, none, none, none] ⟨rfl, rfl, rfl, rfl, rfl, trivial⟩ ?_
        exact e_Ph_isEnd_48 hk
    · refine Ev.weak [none, none, none, none, none] ⟨rfl, rfl, rfl, rfl, rfl, trivial⟩ ?_
      exact e_Ph_isEnd_48 hk
  · skip
    refine q_if hk (fun c2 hk => ?_) (fun c2 hk => ?_)
    · refine Ev.sw (tg := 50) rfl rfl (by rw [c2]; rfl) ?_
      refine Ev.s (ins := .iload_n 2) (pc' := 51) rfl rfl ?_
      refine q_ne rfl hk (fun c3 hk => ?_) (fun c3 hk => ?_)
      · refine Ev.s (ins := .aload_n 0) (pc' := 55) rfl rfl ?_
        refine Ev.s (ins := .iload_n 3) (pc' := 56) rfl rfl ?_
        refine kc_X11_isTarget_0 rfl oi_1 rfl (Nat.le_of_ble_eq_true rfl) (e_Ph_isTarget) ?_
        refine q_beq rfl hk (fun c4 hk => ?_) (fun c4 hk => ?_)
        · refine Ev.s (ins := .iload 4) (pc' := 64) rfl rfl ?_
          refine q_ne rfl hk (fun c5 hk => ?_) (fun c5 hk => ?_)
          · refine q_ic 1 rfl rfl ?_
            refine Ev.goto rfl ?_
            exact Ev.zret rfl rfl (Or.inr rfl) hk
          · refine Ev.weak [none, none, none, none, none] ⟨rfl, rfl, rfl, rfl, rfl, trivial⟩ ?_
            exact e_Ph_isEnd_71 hk
        · refine Ev.weak [none, none, none, none, none] ⟨rfl, rfl, rfl, rfl, rfl, trivial⟩ ?_
          exact e_Ph_isEnd_71 hk
      · refine Ev.weak [none, none, none, none, none] ⟨rfl, rfl, rfl, rfl, rfl, trivial⟩ ?_
        exact e_Ph_isEnd_71 hk
    · skip
      refine q_if hk (fun c3 hk => ?_) (fun c3 hk => ?_)
      · refine Ev.sw (tg := 73) rfl rfl (by rw [c3]; rfl) ?_
        refine Ev.s (ins := .iload_n 2) (pc' := 74) rfl rfl ?_
        refine kc_X11_isOperand_2 rfl (Nat.le_of_ble_eq_true rfl) (e_Ph_isOperand) ?_
        refine q_beq rfl hk (fun c4 hk => ?_) (fun c4 hk => ?_)
        · refine Ev.s (ins := .aload_n 0) (pc' := 81) rfl rfl ?_
          refine Ev.s (ins := .iload_n 3) (pc' := 82) rfl rfl ?_
          refine kc_X11_isTarget_0 rfl oi_1 rfl (Nat.le_of_ble_eq_true rfl) (e_Ph_isTarget) ?_
          refine q_beq rfl hk (fun c5 hk => ?_) (fun c5 hk => ?_)
          · refine Ev.s (ins := .aload_n 0) (pc' := 89) rfl rfl ?_
            refine Ev.s (ins := .iload 4) (pc' := 91) rfl rfl ?_
            refine kc_X11_isTarget_0 rfl oi_1 rfl (Nat.le_of_ble_eq_true rfl) (e_Ph_isTarget) ?_
            refine q_beq rfl hk (fun c6 hk => ?_) (fun c6 hk => ?_)
            · refine q_ic 1 rfl rfl ?_
              refine Ev.goto rfl ?_
              exact Ev.zret rfl rfl (Or.inr rfl) hk
            · refine Ev.weak [none, none, none, none, none] ⟨rfl, rfl, rfl, rfl, rfl, trivial⟩ ?_
              exact e_Ph_isEnd_101 hk
          · refine Ev.weak [none, none, none, none, none] ⟨rfl, rfl, rfl, rfl, rfl, trivial⟩ ?_
            exact e_Ph_isEnd_101 hk
        · refine Ev.weak [none, none, none, none, none] ⟨rfl, rfl, rfl, rfl, rfl, trivial⟩ ?_
          exact e_Ph_isEnd_101 hk
      · skip
        refine Ev.sw (tg := 103) rfl rfl (swg (by decide) (by decide) (fun k h e => ?_)) ?_
        · have h9 : k < 3 := by omega
          match k, h9, e with
          | 0, _, e => exact absurd e c1
          | 1, _, e => exact absurd e c2
          | 2, _, e => exact absurd e c3
        · refine q_ic 0 rfl rfl ?_
          exact Ev.zret rfl rfl (Or.inl rfl) hk
set_option maxRecDepth 100000 in
theorem e_Ph_isEnd {v1 : Int32} {v2 : Int32} {v3 : Int32} {v4 : Int32} : Ev mmPT tbX11_isEnd 0 [some (.ref 1), some (.int v1), some (.int v2), some (.int v3), some (.int v4)] [] (mh sc rest to fl ma tr mk cn nu de ru la tb tf ph cs) ((fun r : Bool => (some (.int (b2i r)), mh sc rest to fl ma tr mk cn nu de ru la tb tf ph cs)) (Ph_isEnd to v1 v2 v3 v4)) := e_Ph_isEnd_0 (by exact rfl)
set_option maxRecDepth 100000 in
theorem e_Told_putEnd_2_58 {v6 : Int32} {x : Option Value × List mmC} (hk : (kO (fun r : Int32 × Ob × Ob => (some (.int r.1), mh sc rest r.2.1 r.2.2 ma tr mk cn nu de ru la tb tf ph cs)) x) (Told_putEnd_58 to fl v6)) : Ev mmPT tbX10_putEnd 58 [none, none, none, none, none, none, some (.int v6)] [] (mh sc rest to fl ma tr mk cn nu de ru la tb tf ph cs) x := by
  unfold Told_putEnd_58 at hk
  refine Ev.s (ins := .iload 6) (pc' := 60) rfl rfl ?_
  exact Ev.iret rfl rfl hk
set_option maxRecDepth 100000 in
theorem e_Told_putEnd_2_0 {v1 : Int32} {v2 : Int32} {v3 : Int32} {v4 : Int32} {v5 : Int32} {x : Option Value × List mmC} (hk : (kO (fun r : Int32 × Ob × Ob => (some (.int r.1), mh sc rest r.2.1 r.2.2 ma tr mk cn nu de ru la tb tf ph cs)) x) (Told_putEnd to fl v1 v2 v3 v4 v5)) : Ev mmPT tbX10_putEnd 0 [some (.ref 2), some (.int v1), some (.int v2), some (.int v3), some (.int v4), some (.int v5), none] [] (mh sc rest to fl ma tr mk cn nu de ru la tb tf ph cs) x := by
  unfold Told_putEnd at hk
  refine Ev.s (ins := .aload_n 0) (pc' := 1) rfl rfl ?_
  refine gf_2_5 rfl ?_
  refine Ev.s (ins := .iload_n 1) (pc' := 5) rfl rfl ?_
  refine at_13 (oat to 5 10 v1) rfl (Nat.le_of_ble_eq_true rfl) rfl ?_
  refine Ev.s (ins := .istore 6) (pc' := 10) (lv' := [some (.ref 2), some (.int v1), some (.int v2), some (.int v3), some (.int v4), some (.int v5), some (.int (oat to 5 10 v1))]) rfl rfl ?_
  refine Ev.s (ins := .aload_n 0) (pc' := 11) rfl rfl ?_
  refine gf_2_5 rfl ?_
  refine Ev.s (ins := .iload_n 1) (pc' := 15) rfl rfl ?_
  refine Ev.s (ins := .iload_n 2) (pc' := 16) rfl rfl ?_
  refine pt_13 rfl (Nat.le_of_ble_eq_true rfl) ?_
  refine Ev.s (ins := .aload_n 0) (pc' := 20) rfl rfl ?_
  refine gf_2_6 rfl ?_
  refine Ev.s (ins := .iload_n 1) (pc' := 24) rfl rfl ?_
  refine Ev.s (ins := .iload_n 3) (pc' := 25) rfl rfl ?_
  refine pt_15 rfl (Nat.le_of_ble_eq_true rfl) ?_
  refine Ev.s (ins := .aload_n 0) (pc' := 29) rfl rfl ?_
  refine gf_2_7 rfl ?_
  refine Ev.s (ins := .iload_n 1) (pc' := 33) rfl rfl ?_
  refine q_ic 2 rfl rfl ?_
  refine Ev.s (ins := .imul) (pc' := 35) rfl rfl ?_
  refine Ev.s (ins := .iload 4) (pc' := 37) rfl rfl ?_
  refine pt_17 rfl (Nat.le_of_ble_eq_true rfl) ?_
  refine Ev.s (ins := .aload_n 0) (pc' := 41) rfl rfl ?_
  refine gf_2_7 rfl ?_
  refine Ev.s (ins := .iload_n 1) (pc' := 45) rfl rfl ?_
  refine q_ic 2 rfl rfl ?_
  refine Ev.s (ins := .imul) (pc' := 47) rfl rfl ?_
  refine q_ic 1 rfl rfl ?_
  refine Ev.s (ins := .iadd) (pc' := 49) rfl rfl ?_
  refine Ev.s (ins := .iload 5) (pc' := 51) rfl rfl ?_
  refine pt_17 rfl (Nat.le_of_ble_eq_true rfl) ?_
  refine Ev.s (ins := .aload_n 0) (pc' := 55) rfl rfl ?_
  refine kc_X10_reckon_0 rfl oi_2 rfl (Nat.le_of_ble_eq_true rfl) (e_Told_reckon_2) ?_
  refine Ev.weak [none, none, none, none, none, none, some (.int (oat to 5 10 v1))] ⟨rfl, rfl, rfl, rfl, rfl, rfl, rfl, trivial⟩ ?_
  exact e_Told_putEnd_2_58 hk
set_option maxRecDepth 100000 in
theorem e_Told_putEnd_2 {v1 : Int32} {v2 : Int32} {v3 : Int32} {v4 : Int32} {v5 : Int32} : Ev mmPT tbX10_putEnd 0 [some (.ref 2), some (.int v1), some (.int v2), some (.int v3), some (.int v4), some (.int v5), none] [] (mh sc rest to fl ma tr mk cn nu de ru la tb tf ph cs) ((fun r : Int32 × Ob × Ob => (some (.int r.1), mh sc rest r.2.1 r.2.2 ma tr mk cn nu de ru la tb tf ph cs)) (Told_putEnd to fl v1 v2 v3 v4 v5)) := e_Told_putEnd_2_0 (by exact rfl)
set_option maxRecDepth 100000 in
theorem e_Ph_end_0 {v1 : Int32} {v2 : Int32} {v3 : Int32} {v4 : Int32} {v5 : Int32} {x : Option Value × List mmC} (hk : (kP (fun r : Int32 × Ob × Ob => (some (.int r.1), mh sc rest r.2.1 r.2.2 ma tr mk cn nu de ru la tb tf ph cs)) x) (Ph_end to fl v1 v2 v3 v4 v5)) : Ev mmPT tbX11_end 0 [some (.ref 1), some (.int v1), some (.int v2), some (.int v3), some (.int v4), some (.int v5)] [] (mh sc rest to fl ma tr mk cn nu de ru la tb tf ph cs) x := by
  unfold Ph_end at hk
  refine Ev.s (ins := .aload_n 0) (pc' := 1) rfl rfl ?_
  refine Ev.s (ins := .iload_n 1) (pc' := 2) rfl rfl ?_
  refine kc_X11_isTold_0 rfl oi_1 rfl (Nat.le_of_ble_eq_true rfl) (e_Ph_isTold) ?_
  refine q_bne rfl hk (fun c1 hk => ?_) (fun c1 hk => ?_)
  · refine Ev.s (ins := .aload_n 0) (pc' := 19) rfl rfl ?_
    refine Ev.s (ins := .iload_n 2) (pc' := 20) rfl rfl ?_
    refine Ev.s (ins := .iload_n 3) (pc' := 21) rfl rfl ?_
    refine Ev.s (ins := .iload 4) (pc' := 23) rfl rfl ?_
    refine Ev.s (ins := .iload 5) (pc' := 25) rfl rfl ?_
    refine kc_X11_isEnd_0 rfl oi_1 rfl (Nat.le_of_ble_eq_true rfl) (e_Ph_isEnd) ?_
    refine q_bne rfl hk (fun c2 hk => ?_) (fun c2 hk => ?_)
    · refine Ev.s (ins := .aload_n 0) (pc' := 42) rfl rfl ?_
      refine gf_1_0 rfl ?_
      refine Ev.s (ins := .iload_n 1) (pc' := 46) rfl rfl ?_
      refine Ev.s (ins := .iload_n 2) (pc' := 47) rfl rfl ?_
      refine Ev.s (ins := .iload_n 3) (pc' := 48) rfl rfl ?_
      refine Ev.s (ins := .iload 4) (pc' := 50) rfl rfl ?_
      refine Ev.s (ins := .iload 5) (pc' := 52) rfl rfl ?_
      refine kc_X10_putEnd_0 rfl oi_2 rfl (Nat.le_of_ble_eq_true rfl) (e_Told_putEnd_2) ?_
      exact Ev.iret rfl rfl hk
    · exact False.elim hk
  · exact False.elim hk
set_option maxRecDepth 100000 in
theorem e_Ph_end {v1 : Int32} {v2 : Int32} {v3 : Int32} {v4 : Int32} {v5 : Int32} {r : Int32 × Ob × Ob} (hr : (Ph_end to fl v1 v2 v3 v4 v5) = some r) : Ev mmPT tbX11_end 0 [some (.ref 1), some (.int v1), some (.int v2), some (.int v3), some (.int v4), some (.int v5)] [] (mh sc rest to fl ma tr mk cn nu de ru la tb tf ph cs) ((fun r : Int32 × Ob × Ob => (some (.int r.1), mh sc rest r.2.1 r.2.2 ma tr mk cn nu de ru la tb tf ph cs)) r) := e_Ph_end_0 (by rw [hr]; exact rfl)
set_option maxRecDepth 100000 in
theorem e_Flow_frontier_25_42 {v1 : Int32} {v2 : Int32} {v3 : Int32} {v4 : Int32} {x : Option Value × List mmC} (b14 : v4 < 2147483647) (hk : (kK (fun a : Int32 × Int32 => mu a.2) (mu v4) (fun a : Int32 × Int32 => Ev mmPT tbX2_frontier 14 [some (.ref 25), some (.int v1), some (.int v2), some (.int a.1), some (.int a.2)] [] (mh sc rest to fl ma tr mk cn nu de ru la tb tf ph cs) x) (kO (fun r : Int32 => (some (.int r), mh sc rest to fl ma tr mk cn nu de ru la tb tf ph cs)) x)) (Flow_frontier_42 fl v1 v2 v3 v4)) : Ev mmPT tbX2_frontier 42 [some (.ref 25), some (.int v1), some (.int v2), some (.int v3), some (.int v4)] [] (mh sc rest to fl ma tr mk cn nu de ru la tb tf ph cs) x := by
  unfold Flow_frontier_42 at hk
  refine q_inc 1 [some (.ref 25), some (.int v1), some (.int v2), some (.int v3), some (.int (v4 + 1))] rfl rfl rfl rfl ?_
  refine Ev.goto rfl ?_
  replace hk := kK_l hk
  exact hk (mu_lt b14)
set_option maxRecDepth 100000 in
theorem e_Flow_frontier_25_L14b {v1 : Int32} {v2 : Int32} {v3 : Int32} {v4 : Int32} {x : Option Value × List mmC} (hk : (kK (fun a : Int32 × Int32 => mu a.2) (mu v4) (fun a : Int32 × Int32 => Ev mmPT tbX2_frontier 14 [some (.ref 25), some (.int v1), some (.int v2), some (.int a.1), some (.int a.2)] [] (mh sc rest to fl ma tr mk cn nu de ru la tb tf ph cs) x) (kO (fun r : Int32 => (some (.int r), mh sc rest to fl ma tr mk cn nu de ru la tb tf ph cs)) x)) (Flow_frontier_L14b fl v1 v2 v3 v4)) : Ev mmPT tbX2_frontier 14 [some (.ref 25), some (.int v1), some (.int v2), some (.int v3), some (.int v4)] [] (mh sc rest to fl ma tr mk cn nu de ru la tb tf ph cs) x := by
  unfold Flow_frontier_L14b at hk
  refine Ev.s (ins := .iload 4) (pc' := 16) rfl rfl ?_
  refine q_bi 10 rfl rfl ?_
  refine q_cge rfl hk (fun c1 hk => ?_) (fun c1 hk => ?_)
  · refine Ev.s (ins := .iload_n 2) (pc' := 22) rfl rfl ?_
    refine Ev.s (ins := .iload 4) (pc' := 24) rfl rfl ?_
    refine kc_X11_has_3 rfl (Nat.le_of_ble_eq_true rfl) (e_Ph_has) ?_
    refine q_beq rfl hk (fun c2 hk => ?_) (fun c2 hk => ?_)
    · refine Ev.s (ins := .iload_n 3) (pc' := 31) rfl rfl ?_
      refine Ev.s (ins := .aload_n 0) (pc' := 32) rfl rfl ?_
      refine gf_25_0 rfl ?_
      refine Ev.s (ins := .iload 4) (pc' := 37) rfl rfl ?_
      refine at_26 (oat fl 0 10 v4) rfl (Nat.le_of_ble_eq_true rfl) rfl ?_
      refine Ev.s (ins := .ior) (pc' := 41) rfl rfl ?_
      refine Ev.s (ins := .istore_n 3) (pc' := 42) (lv' := [some (.ref 25), some (.int v1), some (.int v2), some (.int (v3 ||| (oat fl 0 10 v4))), some (.int v4)]) rfl rfl ?_
      exact e_Flow_frontier_25_42 (lt31 c1) hk
    · exact e_Flow_frontier_25_42 (lt31 c1) hk
  · replace hk := kK_r hk
    refine Ev.s (ins := .iload_n 3) (pc' := 49) rfl rfl ?_
    refine Ev.s (ins := .iload_n 2) (pc' := 50) rfl rfl ?_
    refine Ev.s (ins := .iload_n 1) (pc' := 51) rfl rfl ?_
    refine kc_X11_bit_3 rfl (Nat.le_of_ble_eq_true rfl) (e_Ph_bit) ?_
    refine q_ic (-1) rfl rfl ?_
    refine Ev.s (ins := .ixor) (pc' := 56) rfl rfl ?_
    refine Ev.s (ins := .iand) (pc' := 57) rfl rfl ?_
    refine q_ic (-1) rfl rfl ?_
    refine Ev.s (ins := .ixor) (pc' := 59) rfl rfl ?_
    refine Ev.s (ins := .iand) (pc' := 60) rfl rfl ?_
    exact Ev.iret rfl rfl hk
set_option maxRecDepth 100000 in
theorem e_Flow_frontier_25_L14 {v1 : Int32} {v2 : Int32} {v3 : Int32} {v4 : Int32} {x : Option Value × List mmC} (hk : (kO (fun r : Int32 => (some (.int r), mh sc rest to fl ma tr mk cn nu de ru la tb tf ph cs)) x) (Flow_frontier_L14 fl v1 v2 v3 v4)) : Ev mmPT tbX2_frontier 14 [some (.ref 25), some (.int v1), some (.int v2), some (.int v3), some (.int v4)] [] (mh sc rest to fl ma tr mk cn nu de ru la tb tf ph cs) x :=
  k_loop (B := (fun a : Int32 × Int32 => Flow_frontier_L14b fl v1 v2 a.1 a.2)) (μ := fun a : Int32 × Int32 => mu a.2) (E := fun a : Int32 × Int32 => Ev mmPT tbX2_frontier 14 [some (.ref 25), some (.int v1), some (.int v2), some (.int a.1), some (.int a.2)] [] (mh sc rest to fl ma tr mk cn nu de ru la tb tf ph cs) x) (X := (kO (fun r : Int32 => (some (.int r), mh sc rest to fl ma tr mk cn nu de ru la tb tf ph cs)) x)) (fun a hk => e_Flow_frontier_25_L14b hk) (v3, v4) hk
set_option maxRecDepth 100000 in
theorem e_Flow_frontier_25_0 {v1 : Int32} {x : Option Value × List mmC} (hk : (kO (fun r : Int32 => (some (.int r), mh sc rest to fl ma tr mk cn nu de ru la tb tf ph cs)) x) (Flow_frontier fl v1)) : Ev mmPT tbX2_frontier 0 [some (.ref 25), some (.int v1), none, none, none] [] (mh sc rest to fl ma tr mk cn nu de ru la tb tf ph cs) x := by
  unfold Flow_frontier at hk
  refine Ev.s (ins := .aload_n 0) (pc' := 1) rfl rfl ?_
  refine gf_25_1 rfl ?_
  refine Ev.s (ins := .iload_n 1) (pc' := 5) rfl rfl ?_
  refine at_28 (oat fl 1 10 v1) rfl (Nat.le_of_ble_eq_true rfl) rfl ?_
  refine Ev.s (ins := .istore_n 2) (pc' := 9) (lv' := [some (.ref 25), some (.int v1), some (.int (oat fl 1 10 v1)), none, none]) rfl rfl ?_
  refine q_ic 0 rfl rfl ?_
  refine Ev.s (ins := .istore_n 3) (pc' := 11) (lv' := [some (.ref 25), some (.int v1), some (.int (oat fl 1 10 v1)), some (.int 0), none]) rfl rfl ?_
  refine q_ic 0 rfl rfl ?_
  refine Ev.s (ins := .istore 4) (pc' := 14) (lv' := [some (.ref 25), some (.int v1), some (.int (oat fl 1 10 v1)), some (.int 0), some (.int 0)]) rfl rfl ?_
  exact e_Flow_frontier_25_L14 hk
set_option maxRecDepth 100000 in
theorem e_Flow_frontier_25 {v1 : Int32} : Ev mmPT tbX2_frontier 0 [some (.ref 25), some (.int v1), none, none, none] [] (mh sc rest to fl ma tr mk cn nu de ru la tb tf ph cs) ((fun r : Int32 => (some (.int r), mh sc rest to fl ma tr mk cn nu de ru la tb tf ph cs)) (Flow_frontier fl v1)) := e_Flow_frontier_25_0 (by exact rfl)
end RF0
