/-! THE RUNS ARE THE FUNCTIONS, by program: 4 -/
section RF3
variable {sc : mmC} {rest : List mmC} {to fl ma tr mk cn nu de ru la tb tf ph : Ob} {cs : Int64}
set_option maxRecDepth 100000 in
theorem e_Flow_reachedWithout_101_56 {v1 : Int32} {v2 : Int32} {v3 : Int32} {v4 : Int32} {v5 : Int32} {x : Option Value × List mmC} (b14 : v3 < 2147483647) (b26 : v5 < 2147483647) (hk : (kK (fun a : Int32 × Int32 => mu a.2) (mu v5) (fun a : Int32 × Int32 => Ev mmPT tbX2_reachedWithout 26 [some (.ref 101), some (.int v1), some (.int v2), some (.int v3), some (.int a.1), some (.int a.2)] [] (mh sc rest to fl ma tr mk cn nu de ru la tb tf ph cs) x) (kK (fun a : Int32 × Int32 => mu a.2) (mu v3) (fun a : Int32 × Int32 => Ev mmPT tbX2_reachedWithout 14 [some (.ref 101), some (.int v1), some (.int a.1), some (.int a.2), none, none] [] (mh sc rest to fl ma tr mk cn nu de ru la tb tf ph cs) x) (kO (fun r : Int32 => (some (.int r), mh sc rest to fl ma tr mk cn nu de ru la tb tf ph cs)) x))) (Flow_reachedWithout_56 nu v1 v2 v3 v4 v5)) : Ev mmPT tbX2_reachedWithout 56 [some (.ref 101), some (.int v1), some (.int v2), some (.int v3), some (.int v4), some (.int v5)] [] (mh sc rest to fl ma tr mk cn nu de ru la tb tf ph cs) x := by
  unfold Flow_reachedWithout_56 at hk
  refine q_inc 1 [some (.ref 101), some (.int v1), some (.int v2), some (.int v3), some (.int v4), some (.int (v5 + 1))] rfl rfl rfl rfl ?_
  refine Ev.goto rfl ?_
  replace hk := kK_l hk
  exact hk (mu_lt b26)
set_option maxRecDepth 100000 in
theorem e_Flow_reachedWithout_101_L26b {v1 : Int32} {v2 : Int32} {v3 : Int32} {v4 : Int32} {v5 : Int32} {x : Option Value × List mmC} (b14 : v3 < 2147483647) (hk : (kK (fun a : Int32 × Int32 => mu a.2) (mu v5) (fun a : Int32 × Int32 => Ev mmPT tbX2_reachedWithout 26 [some (.ref 101), some (.int v1), some (.int v2), some (.int v3), some (.int a.1), some (.int a.2)] [] (mh sc rest to fl ma tr mk cn nu de ru la tb tf ph cs) x) (kK (fun a : Int32 × Int32 => mu a.2) (mu v3) (fun a : Int32 × Int32 => Ev mmPT tbX2_reachedWithout 14 [some (.ref 101), some (.int v1), some (.int a.1), some (.int a.2), none, none] [] (mh sc rest to fl ma tr mk cn nu de ru la tb tf ph cs) x) (kO (fun r : Int32 => (some (.int r), mh sc rest to fl ma tr mk cn nu de ru la tb tf ph cs)) x))) (Flow_reachedWithout_L26b nu v1 v2 v3 v4 v5)) : Ev mmPT tbX2_reachedWithout 26 [some (.ref 101), some (.int v1), some (.int v2), some (.int v3), some (.int v4), some (.int v5)] [] (mh sc rest to fl ma tr mk cn nu de ru la tb tf ph cs) x := by
  unfold Flow_reachedWithout_L26b at hk
  refine Ev.s (ins := .iload 5) (pc' := 28) rfl rfl ?_
  refine q_bi 10 rfl rfl ?_
  refine q_cge rfl hk (fun c1 hk => ?_) (fun c1 hk => ?_)
  · refine Ev.s (ins := .iload_n 2) (pc' := 34) rfl rfl ?_
    refine Ev.s (ins := .iload 5) (pc' := 36) rfl rfl ?_
    refine kc_X11_has_3 rfl (Nat.le_of_ble_eq_true rfl) (e_Ph_has) ?_
    refine q_beq rfl hk (fun c2 hk => ?_) (fun c2 hk => ?_)
    · refine Ev.s (ins := .iload 4) (pc' := 44) rfl rfl ?_
      refine Ev.s (ins := .aload_n 0) (pc' := 45) rfl rfl ?_
      refine gf_101_0 rfl ?_
      refine Ev.s (ins := .iload 5) (pc' := 50) rfl rfl ?_
      refine at_102 (oat nu 0 10 v5) rfl (Nat.le_of_ble_eq_true rfl) rfl ?_
      refine Ev.s (ins := .ior) (pc' := 54) rfl rfl ?_
      refine Ev.s (ins := .istore 4) (pc' := 56) (lv' := [some (.ref 101), some (.int v1), some (.int v2), some (.int v3), some (.int (v4 ||| (oat nu 0 10 v5))), some (.int v5)]) rfl rfl ?_
      exact e_Flow_reachedWithout_101_56 b14 (lt31 c1) hk
    · exact e_Flow_reachedWithout_101_56 b14 (lt31 c1) hk
  · replace hk := kK_r hk
    refine Ev.s (ins := .iload 4) (pc' := 64) rfl rfl ?_
    refine Ev.s (ins := .iload_n 1) (pc' := 65) rfl rfl ?_
    refine kc_X11_bit_3 rfl (Nat.le_of_ble_eq_true rfl) (e_Ph_bit) ?_
    refine q_ic (-1) rfl rfl ?_
    refine Ev.s (ins := .ixor) (pc' := 70) rfl rfl ?_
    refine Ev.s (ins := .iand) (pc' := 71) rfl rfl ?_
    refine Ev.s (ins := .istore_n 2) (pc' := 72) (lv' := [some (.ref 101), some (.int v1), some (.int (v4 &&& ((Ph_bit v1) ^^^ (-1)))), some (.int v3), some (.int v4), some (.int v5)]) rfl rfl ?_
    refine q_inc 1 [some (.ref 101), some (.int v1), some (.int (v4 &&& ((Ph_bit v1) ^^^ (-1)))), some (.int (v3 + 1)), some (.int v4), some (.int v5)] rfl rfl rfl rfl ?_
    refine Ev.goto rfl ?_
    refine Ev.weak [some (.ref 101), some (.int v1), some (.int (v4 &&& ((Ph_bit v1) ^^^ (-1)))), some (.int (v3 + 1)), none, none] ⟨rfl, rfl, rfl, rfl, rfl, rfl, trivial⟩ ?_
    replace hk := kK_l hk
    exact hk (mu_lt b14)
set_option maxRecDepth 100000 in
theorem e_Flow_reachedWithout_101_L26 {v1 : Int32} {v2 : Int32} {v3 : Int32} {v4 : Int32} {v5 : Int32} {x : Option Value × List mmC} (b14 : v3 < 2147483647) (hk : (kK (fun a : Int32 × Int32 => mu a.2) (mu v3) (fun a : Int32 × Int32 => Ev mmPT tbX2_reachedWithout 14 [some (.ref 101), some (.int v1), some (.int a.1), some (.int a.2), none, none] [] (mh sc rest to fl ma tr mk cn nu de ru la tb tf ph cs) x) (kO (fun r : Int32 => (some (.int r), mh sc rest to fl ma tr mk cn nu de ru la tb tf ph cs)) x)) (Flow_reachedWithout_L26 nu v1 v2 v3 v4 v5)) : Ev mmPT tbX2_reachedWithout 26 [some (.ref 101), some (.int v1), some (.int v2), some (.int v3), some (.int v4), some (.int v5)] [] (mh sc rest to fl ma tr mk cn nu de ru la tb tf ph cs) x :=
  k_loop (B := (fun a : Int32 × Int32 => Flow_reachedWithout_L26b nu v1 v2 v3 a.1 a.2)) (μ := fun a : Int32 × Int32 => mu a.2) (E := fun a : Int32 × Int32 => Ev mmPT tbX2_reachedWithout 26 [some (.ref 101), some (.int v1), some (.int v2), some (.int v3), some (.int a.1), some (.int a.2)] [] (mh sc rest to fl ma tr mk cn nu de ru la tb tf ph cs) x) (X := (kK (fun a : Int32 × Int32 => mu a.2) (mu v3) (fun a : Int32 × Int32 => Ev mmPT tbX2_reachedWithout 14 [some (.ref 101), some (.int v1), some (.int a.1), some (.int a.2), none, none] [] (mh sc rest to fl ma tr mk cn nu de ru la tb tf ph cs) x) (kO (fun r : Int32 => (some (.int r), mh sc rest to fl ma tr mk cn nu de ru la tb tf ph cs)) x))) (fun a hk => e_Flow_reachedWithout_101_L26b b14 hk) (v4, v5) hk
set_option maxRecDepth 100000 in
theorem e_Flow_reachedWithout_101_L14b {v1 : Int32} {v2 : Int32} {v3 : Int32} {x : Option Value × List mmC} (hk : (kK (fun a : Int32 × Int32 => mu a.2) (mu v3) (fun a : Int32 × Int32 => Ev mmPT tbX2_reachedWithout 14 [some (.ref 101), some (.int v1), some (.int a.1), some (.int a.2), none, none] [] (mh sc rest to fl ma tr mk cn nu de ru la tb tf ph cs) x) (kO (fun r : Int32 => (some (.int r), mh sc rest to fl ma tr mk cn nu de ru la tb tf ph cs)) x)) (Flow_reachedWithout_L14b nu v1 v2 v3)) : Ev mmPT tbX2_reachedWithout 14 [some (.ref 101), some (.int v1), some (.int v2), some (.int v3), none, none] [] (mh sc rest to fl ma tr mk cn nu de ru la tb tf ph cs) x := by
  unfold Flow_reachedWithout_L14b at hk
  refine Ev.s (ins := .iload_n 3) (pc' := 15) rfl rfl ?_
  refine q_bi 10 rfl rfl ?_
  refine q_cge rfl hk (fun c1 hk => ?_) (fun c1 hk => ?_)
  · refine Ev.s (ins := .iload_n 2) (pc' := 21) rfl rfl ?_
    refine Ev.s (ins := .istore 4) (pc' := 23) (lv' := [some (.ref 101), some (.int v1), some (.int v2), some (.int v3), some (.int v2), none]) rfl rfl ?_
    refine q_ic 0 rfl rfl ?_
    refine Ev.s (ins := .istore 5) (pc' := 26) (lv' := [some (.ref 101), some (.int v1), some (.int v2), some (.int v3), some (.int v2), some (.int 0)]) rfl rfl ?_
    exact e_Flow_reachedWithout_101_L26 (lt31 c1) hk
  · replace hk := kK_r hk
    refine Ev.s (ins := .iload_n 2) (pc' := 79) rfl rfl ?_
    exact Ev.iret rfl rfl hk
set_option maxRecDepth 100000 in
theorem e_Flow_reachedWithout_101_L14 {v1 : Int32} {v2 : Int32} {v3 : Int32} {x : Option Value × List mmC} (hk : (kO (fun r : Int32 => (some (.int r), mh sc rest to fl ma tr mk cn nu de ru la tb tf ph cs)) x) (Flow_reachedWithout_L14 nu v1 v2 v3)) : Ev mmPT tbX2_reachedWithout 14 [some (.ref 101), some (.int v1), some (.int v2), some (.int v3), none, none] [] (mh sc rest to fl ma tr mk cn nu de ru la tb tf ph cs) x :=
  k_loop (B := (fun a : Int32 × Int32 => Flow_reachedWithout_L14b nu v1 a.1 a.2)) (μ := fun a : Int32 × Int32 => mu a.2) (E := fun a : Int32 × Int32 => Ev mmPT tbX2_reachedWithout 14 [some (.ref 101), some (.int v1), some (.int a.1), some (.int a.2), none, none] [] (mh sc rest to fl ma tr mk cn nu de ru la tb tf ph cs) x) (X := (kO (fun r : Int32 => (some (.int r), mh sc rest to fl ma tr mk cn nu de ru la tb tf ph cs)) x)) (fun a hk => e_Flow_reachedWithout_101_L14b hk) (v2, v3) hk
set_option maxRecDepth 100000 in
theorem e_Flow_reachedWithout_101_0 {v1 : Int32} {x : Option Value × List mmC} (hk : (kO (fun r : Int32 => (some (.int r), mh sc rest to fl ma tr mk cn nu de ru la tb tf ph cs)) x) (Flow_reachedWithout nu v1)) : Ev mmPT tbX2_reachedWithout 0 [some (.ref 101), some (.int v1), none, none, none, none] [] (mh sc rest to fl ma tr mk cn nu de ru la tb tf ph cs) x := by
  unfold Flow_reachedWithout at hk
  refine q_ic 0 rfl rfl ?_
  refine kc_X11_bit_3 rfl (Nat.le_of_ble_eq_true rfl) (e_Ph_bit) ?_
  refine Ev.s (ins := .iload_n 1) (pc' := 5) rfl rfl ?_
  refine kc_X11_bit_3 rfl (Nat.le_of_ble_eq_true rfl) (e_Ph_bit) ?_
  refine q_ic (-1) rfl rfl ?_
  refine Ev.s (ins := .ixor) (pc' := 10) rfl rfl ?_
  refine Ev.s (ins := .iand) (pc' := 11) rfl rfl ?_
  refine Ev.s (ins := .istore_n 2) (pc' := 12) (lv' := [some (.ref 101), some (.int v1), some (.int ((Ph_bit 0) &&& ((Ph_bit v1) ^^^ (-1)))), none, none, none]) rfl rfl ?_
  refine q_ic 0 rfl rfl ?_
  refine Ev.s (ins := .istore_n 3) (pc' := 14) (lv' := [some (.ref 101), some (.int v1), some (.int ((Ph_bit 0) &&& ((Ph_bit v1) ^^^ (-1)))), some (.int 0), none, none]) rfl rfl ?_
  exact e_Flow_reachedWithout_101_L14 hk
set_option maxRecDepth 100000 in
theorem e_Flow_reachedWithout_101 {v1 : Int32} : Ev mmPT tbX2_reachedWithout 0 [some (.ref 101), some (.int v1), none, none, none, none] [] (mh sc rest to fl ma tr mk cn nu de ru la tb tf ph cs) ((fun r : Int32 => (some (.int r), mh sc rest to fl ma tr mk cn nu de ru la tb tf ph cs)) (Flow_reachedWithout nu v1)) := e_Flow_reachedWithout_101_0 (by exact rfl)
set_option maxRecDepth 100000 in
theorem e_Flow_addDominator_101_37 {v1 : Int32} {v2 : Int32} {v3 : Int32} {x : Option Value × List mmC} (b2 : v3 < 2147483647) (hk : (kK (fun a : Int32 × Ob => mu a.1) (mu v3) (fun a : Int32 × Ob => Ev mmPT tbX2_addDominator 2 [some (.ref 101), some (.int v1), some (.int v2), some (.int a.1)] [] (mh sc rest to fl ma tr mk cn a.2 de ru la tb tf ph cs) x) (kO (fun r : Ob => (none, mh sc rest to fl ma tr mk cn r de ru la tb tf ph cs)) x)) (Flow_addDominator_37 nu v1 v2 v3)) : Ev mmPT tbX2_addDominator 37 [some (.ref 101), some (.int v1), some (.int v2), some (.int v3)] [] (mh sc rest to fl ma tr mk cn nu de ru la tb tf ph cs) x := by
  unfold Flow_addDominator_37 at hk
  refine q_inc 1 [some (.ref 101), some (.int v1), some (.int v2), some (.int (v3 + 1))] rfl rfl rfl rfl ?_
  refine Ev.goto rfl ?_
  replace hk := kK_l hk
  exact hk (mu_lt b2)
set_option maxRecDepth 100000 in
theorem e_Flow_addDominator_101_L2b {v1 : Int32} {v2 : Int32} {v3 : Int32} {x : Option Value × List mmC} (hk : (kK (fun a : Int32 × Ob => mu a.1) (mu v3) (fun a : Int32 × Ob => Ev mmPT tbX2_addDominator 2 [some (.ref 101), some (.int v1), some (.int v2), some (.int a.1)] [] (mh sc rest to fl ma tr mk cn a.2 de ru la tb tf ph cs) x) (kO (fun r : Ob => (none, mh sc rest to fl ma tr mk cn r de ru la tb tf ph cs)) x)) (Flow_addDominator_L2b nu v1 v2 v3)) : Ev mmPT tbX2_addDominator 2 [some (.ref 101), some (.int v1), some (.int v2), some (.int v3)] [] (mh sc rest to fl ma tr mk cn nu de ru la tb tf ph cs) x := by
  unfold Flow_addDominator_L2b at hk
  refine Ev.s (ins := .iload_n 3) (pc' := 3) rfl rfl ?_
  refine q_bi 10 rfl rfl ?_
  refine q_cge rfl hk (fun c1 hk => ?_) (fun c1 hk => ?_)
  · refine Ev.s (ins := .iload_n 1) (pc' := 9) rfl rfl ?_
    refine Ev.s (ins := .iload_n 3) (pc' := 10) rfl rfl ?_
    refine kc_X11_has_3 rfl (Nat.le_of_ble_eq_true rfl) (e_Ph_has) ?_
    refine q_beq rfl hk (fun c2 hk => ?_) (fun c2 hk => ?_)
    · refine Ev.s (ins := .aload_n 0) (pc' := 17) rfl rfl ?_
      refine gf_101_2 rfl ?_
      refine Ev.s (ins := .iload_n 3) (pc' := 21) rfl rfl ?_
      refine Ev.s (ins := .aload_n 0) (pc' := 22) rfl rfl ?_
      refine gf_101_2 rfl ?_
      refine Ev.s (ins := .iload_n 3) (pc' := 26) rfl rfl ?_
      refine at_106 (oat nu 2 10 v3) rfl (Nat.le_of_ble_eq_true rfl) rfl ?_
      refine Ev.s (ins := .iload_n 2) (pc' := 30) rfl rfl ?_
      refine kc_X11_bit_3 rfl (Nat.le_of_ble_eq_true rfl) (e_Ph_bit) ?_
      refine Ev.s (ins := .ior) (pc' := 34) rfl rfl ?_
      refine pt_106 rfl (Nat.le_of_ble_eq_true rfl) ?_
      exact e_Flow_addDominator_101_37 (lt31 c1) hk
    · exact e_Flow_addDominator_101_37 (lt31 c1) hk
  · replace hk := kK_r hk
    exact Ev.vret rfl rfl hk
set_option maxRecDepth 100000 in
theorem e_Flow_addDominator_101_L2 {v1 : Int32} {v2 : Int32} {v3 : Int32} {x : Option Value × List mmC} (hk : (kO (fun r : Ob => (none, mh sc rest to fl ma tr mk cn r de ru la tb tf ph cs)) x) (Flow_addDominator_L2 nu v1 v2 v3)) : Ev mmPT tbX2_addDominator 2 [some (.ref 101), some (.int v1), some (.int v2), some (.int v3)] [] (mh sc rest to fl ma tr mk cn nu de ru la tb tf ph cs) x :=
  k_loop (B := (fun a : Int32 × Ob => Flow_addDominator_L2b a.2 v1 v2 a.1)) (μ := fun a : Int32 × Ob => mu a.1) (E := fun a : Int32 × Ob => Ev mmPT tbX2_addDominator 2 [some (.ref 101), some (.int v1), some (.int v2), some (.int a.1)] [] (mh sc rest to fl ma tr mk cn a.2 de ru la tb tf ph cs) x) (X := (kO (fun r : Ob => (none, mh sc rest to fl ma tr mk cn r de ru la tb tf ph cs)) x)) (fun a hk => e_Flow_addDominator_101_L2b hk) (v3, nu) hk
set_option maxRecDepth 100000 in
theorem e_Flow_addDominator_101_0 {v1 : Int32} {v2 : Int32} {x : Option Value × List mmC} (hk : (kO (fun r : Ob => (none, mh sc rest to fl ma tr mk cn r de ru la tb tf ph cs)) x) (Flow_addDominator nu v1 v2)) : Ev mmPT tbX2_addDominator 0 [some (.ref 101), some (.int v1), some (.int v2), none] [] (mh sc rest to fl ma tr mk cn nu de ru la tb tf ph cs) x := by
  unfold Flow_addDominator at hk
  refine q_ic 0 rfl rfl ?_
  refine Ev.s (ins := .istore_n 3) (pc' := 2) (lv' := [some (.ref 101), some (.int v1), some (.int v2), some (.int 0)]) rfl rfl ?_
  exact e_Flow_addDominator_101_L2 hk
set_option maxRecDepth 100000 in
theorem e_Flow_addDominator_101 {v1 : Int32} {v2 : Int32} : Ev mmPT tbX2_addDominator 0 [some (.ref 101), some (.int v1), some (.int v2), none] [] (mh sc rest to fl ma tr mk cn nu de ru la tb tf ph cs) ((fun r : Ob => (none, mh sc rest to fl ma tr mk cn r de ru la tb tf ph cs)) (Flow_addDominator nu v1 v2)) := e_Flow_addDominator_101_0 (by exact rfl)
set_option maxRecDepth 100000 in
theorem e_Flow_firstReady_101_44 {v1 : Int32} {v2 : Int32} {x : Option Value × List mmC} (b2 : v2 < 2147483647) (hk : (kK (fun a : Int32 => mu a) (mu v2) (fun a : Int32 => Ev mmPT tbX2_firstReady 2 [some (.ref 101), some (.int v1), some (.int a)] [] (mh sc rest to fl ma tr mk cn nu de ru la tb tf ph cs) x) (kO (fun r : Int32 => (some (.int r), mh sc rest to fl ma tr mk cn nu de ru la tb tf ph cs)) x)) (Flow_firstReady_44 nu v1 v2)) : Ev mmPT tbX2_firstReady 44 [some (.ref 101), some (.int v1), some (.int v2)] [] (mh sc rest to fl ma tr mk cn nu de ru la tb tf ph cs) x := by
  unfold Flow_firstReady_44 at hk
  refine q_inc 1 [some (.ref 101), some (.int v1), some (.int (v2 + 1))] rfl rfl rfl rfl ?_
  refine Ev.goto rfl ?_
  replace hk := kK_l hk
  exact hk (mu_lt b2)
set_option maxRecDepth 100000 in
theorem e_Flow_firstReady_101_L2b {v1 : Int32} {v2 : Int32} {x : Option Value × List mmC} (hk : (kK (fun a : Int32 => mu a) (mu v2) (fun a : Int32 => Ev mmPT tbX2_firstReady 2 [some (.ref 101), some (.int v1), some (.int a)] [] (mh sc rest to fl ma tr mk cn nu de ru la tb tf ph cs) x) (kO (fun r : Int32 => (some (.int r), mh sc rest to fl ma tr mk cn nu de ru la tb tf ph cs)) x)) (Flow_firstReady_L2b nu v1 v2)) : Ev mmPT tbX2_firstReady 2 [some (.ref 101), some (.int v1), some (.int v2)] [] (mh sc rest to fl ma tr mk cn nu de ru la tb tf ph cs) x := by
  unfold Flow_firstReady_L2b at hk
  refine Ev.s (ins := .iload_n 2) (pc' := 3) rfl rfl ?_
  refine q_bi 10 rfl rfl ?_
  refine q_cge rfl hk (fun c1 hk => ?_) (fun c1 hk => ?_)
  · refine Ev.s (ins := .aload_n 0) (pc' := 9) rfl rfl ?_
    refine gf_101_4 (nu.2.1 0) rfl rfl ?_
    refine Ev.s (ins := .iload_n 1) (pc' := 13) rfl rfl ?_
    refine q_ic (-1) rfl rfl ?_
    refine Ev.s (ins := .ixor) (pc' := 15) rfl rfl ?_
    refine Ev.s (ins := .iand) (pc' := 16) rfl rfl ?_
    refine Ev.s (ins := .iload_n 2) (pc' := 17) rfl rfl ?_
    refine kc_X11_has_3 rfl (Nat.le_of_ble_eq_true rfl) (e_Ph_has) ?_
    refine q_beq rfl hk (fun c2 hk => ?_) (fun c2 hk => ?_)
    · refine Ev.s (ins := .aload_n 0) (pc' := 24) rfl rfl ?_
      refine gf_101_2 rfl ?_
      refine Ev.s (ins := .iload_n 2) (pc' := 28) rfl rfl ?_
      refine at_106 (oat nu 2 10 v2) rfl (Nat.le_of_ble_eq_true rfl) rfl ?_
      refine Ev.s (ins := .iload_n 1) (pc' := 32) rfl rfl ?_
      refine q_ic (-1) rfl rfl ?_
      refine Ev.s (ins := .ixor) (pc' := 34) rfl rfl ?_
      refine Ev.s (ins := .iand) (pc' := 35) rfl rfl ?_
      refine Ev.s (ins := .iload_n 2) (pc' := 36) rfl rfl ?_
      refine kc_X11_bit_3 rfl (Nat.le_of_ble_eq_true rfl) (e_Ph_bit) ?_
      refine q_cne rfl hk (fun c3 hk => ?_) (fun c3 hk => ?_)
      · replace hk := kK_r hk
        refine Ev.s (ins := .iload_n 2) (pc' := 43) rfl rfl ?_
        exact Ev.iret rfl rfl hk
      · exact e_Flow_firstReady_101_44 (lt31 c1) hk
    · exact e_Flow_firstReady_101_44 (lt31 c1) hk
  · replace hk := kK_r hk
    refine q_ic (-1) rfl rfl ?_
    exact Ev.iret rfl rfl hk
set_option maxRecDepth 100000 in
theorem e_Flow_firstReady_101_L2 {v1 : Int32} {v2 : Int32} {x : Option Value × List mmC} (hk : (kO (fun r : Int32 => (some (.int r), mh sc rest to fl ma tr mk cn nu de ru la tb tf ph cs)) x) (Flow_firstReady_L2 nu v1 v2)) : Ev mmPT tbX2_firstReady 2 [some (.ref 101), some (.int v1), some (.int v2)] [] (mh sc rest to fl ma tr mk cn nu de ru la tb tf ph cs) x :=
  k_loop (B := (fun a : Int32 => Flow_firstReady_L2b nu v1 a)) (μ := fun a : Int32 => mu a) (E := fun a : Int32 => Ev mmPT tbX2_firstReady 2 [some (.ref 101), some (.int v1), some (.int a)] [] (mh sc rest to fl ma tr mk cn nu de ru la tb tf ph cs) x) (X := (kO (fun r : Int32 => (some (.int r), mh sc rest to fl ma tr mk cn nu de ru la tb tf ph cs)) x)) (fun a hk => e_Flow_firstReady_101_L2b hk) v2 hk
set_option maxRecDepth 100000 in
theorem e_Flow_firstReady_101_0 {v1 : Int32} {x : Option Value × List mmC} (hk : (kO (fun r : Int32 => (some (.int r), mh sc rest to fl ma tr mk cn nu de ru la tb tf ph cs)) x) (Flow_firstReady nu v1)) : Ev mmPT tbX2_firstReady 0 [some (.ref 101), some (.int v1), none] [] (mh sc rest to fl ma tr mk cn nu de ru la tb tf ph cs) x := by
  unfold Flow_firstReady at hk
  refine q_ic 0 rfl rfl ?_
  refine Ev.s (ins := .istore_n 2) (pc' := 2) (lv' := [some (.ref 101), some (.int v1), some (.int 0)]) rfl rfl ?_
  exact e_Flow_firstReady_101_L2 hk
set_option maxRecDepth 100000 in
theorem e_Flow_firstReady_101 {v1 : Int32} : Ev mmPT tbX2_firstReady 0 [some (.ref 101), some (.int v1), none] [] (mh sc rest to fl ma tr mk cn nu de ru la tb tf ph cs) ((fun r : Int32 => (some (.int r), mh sc rest to fl ma tr mk cn nu de ru la tb tf ph cs)) (Flow_firstReady nu v1)) := e_Flow_firstReady_101_0 (by exact rfl)
set_option maxRecDepth 100000 in
theorem e_Flow_reckon_101_52 {v1 : Int32} {w0 : Int32} {x : Option Value × List mmC} (b19 : v1 < 2147483647) (hk : (kK (fun a : Int32 × Ob => mu a.1) (mu v1) (fun a : Int32 × Ob => Ev mmPT tbX2_reckon 19 [some (.ref 101), some (.int a.1), none, none] [] (mh sc rest to fl ma tr mk cn a.2 de ru la tb tf ph cs) x) (kO (fun r : Ob => (none, mh sc rest to fl ma tr mk cn r de ru la tb tf ph cs)) x)) (Flow_reckon_52 nu v1 w0)) : Ev mmPT tbX2_reckon 52 [some (.ref 101), some (.int v1), none, none] [.int w0] (mh sc rest to fl ma tr mk cn nu de ru la tb tf ph cs) x := by
  unfold Flow_reckon_52 at hk
  refine Ev.s (ins := .istore_n 2) (pc' := 53) (lv' := [some (.ref 101), some (.int v1), some (.int w0), none]) rfl rfl ?_
  refine Ev.s (ins := .aload_n 0) (pc' := 54) rfl rfl ?_
  refine gf_101_1 rfl ?_
  refine Ev.s (ins := .iload_n 1) (pc' := 58) rfl rfl ?_
  refine Ev.s (ins := .iload_n 2) (pc' := 59) rfl rfl ?_
  refine pt_104 rfl (Nat.le_of_ble_eq_true rfl) ?_
  refine Ev.s (ins := .aload_n 0) (pc' := 63) rfl rfl ?_
  refine Ev.s (ins := .iload_n 2) (pc' := 64) rfl rfl ?_
  refine Ev.s (ins := .iload_n 1) (pc' := 65) rfl rfl ?_
  refine kc_X2_addDominator_0 rfl oi_101 rfl (Nat.le_of_ble_eq_true rfl) (e_Flow_addDominator_101) ?_
  refine q_inc 1 [some (.ref 101), some (.int (v1 + 1)), some (.int w0), none] rfl rfl rfl rfl ?_
  refine Ev.goto rfl ?_
  refine Ev.weak [some (.ref 101), some (.int (v1 + 1)), none, none] ⟨rfl, rfl, rfl, rfl, trivial⟩ ?_
  replace hk := kK_l hk
  exact hk (mu_lt b19)
set_option maxRecDepth 100000 in
theorem e_Flow_reckon_101_L78b {v1 : Int32} {v2 : Int32} {x : Option Value × List mmC} (hk : (kK (fun a : Int32 × Int32 × Ob => mu a.2.1) (mu v2) (fun a : Int32 × Int32 × Ob => Ev mmPT tbX2_reckon 78 [some (.ref 101), some (.int a.1), some (.int a.2.1), none] [] (mh sc rest to fl ma tr mk cn a.2.2 de ru la tb tf ph cs) x) (kO (fun r : Ob => (none, mh sc rest to fl ma tr mk cn r de ru la tb tf ph cs)) x)) (Flow_reckon_L78b nu v1 v2)) : Ev mmPT tbX2_reckon 78 [some (.ref 101), some (.int v1), some (.int v2), none] [] (mh sc rest to fl ma tr mk cn nu de ru la tb tf ph cs) x := by
  unfold Flow_reckon_L78b at hk
  refine Ev.s (ins := .iload_n 2) (pc' := 79) rfl rfl ?_
  refine q_bi 10 rfl rfl ?_
  refine q_cge rfl hk (fun c1 hk => ?_) (fun c1 hk => ?_)
  · refine Ev.s (ins := .aload_n 0) (pc' := 85) rfl rfl ?_
    refine Ev.s (ins := .iload_n 1) (pc' := 86) rfl rfl ?_
    refine kc_X2_firstReady_0 rfl oi_101 rfl (Nat.le_of_ble_eq_true rfl) (e_Flow_firstReady_101) ?_
    refine Ev.s (ins := .istore_n 3) (pc' := 90) (lv' := [some (.ref 101), some (.int v1), some (.int v2), some (.int (Flow_firstReady nu v1))]) rfl rfl ?_
    refine Ev.s (ins := .aload_n 0) (pc' := 91) rfl rfl ?_
    refine gf_101_3 rfl ?_
    refine Ev.s (ins := .iload_n 2) (pc' := 95) rfl rfl ?_
    refine Ev.s (ins := .iload_n 3) (pc' := 96) rfl rfl ?_
    refine pt_108 rfl (Nat.le_of_ble_eq_true rfl) ?_
    refine Ev.s (ins := .iload_n 1) (pc' := 100) rfl rfl ?_
    refine Ev.s (ins := .iload_n 3) (pc' := 101) rfl rfl ?_
    refine kc_X11_bit_3 rfl (Nat.le_of_ble_eq_true rfl) (e_Ph_bit) ?_
    refine Ev.s (ins := .ior) (pc' := 105) rfl rfl ?_
    refine Ev.s (ins := .istore_n 1) (pc' := 106) (lv' := [some (.ref 101), some (.int (v1 ||| (Ph_bit (Flow_firstReady nu v1)))), some (.int v2), some (.int (Flow_firstReady nu v1))]) rfl rfl ?_
    refine q_inc 1 [some (.ref 101), some (.int (v1 ||| (Ph_bit (Flow_firstReady nu v1)))), some (.int (v2 + 1)), some (.int (Flow_firstReady nu v1))] rfl rfl rfl rfl ?_
    refine Ev.goto rfl ?_
    refine Ev.weak [some (.ref 101), some (.int (v1 ||| (Ph_bit (Flow_firstReady nu v1)))), some (.int (v2 + 1)), none] ⟨rfl, rfl, rfl, rfl, trivial⟩ ?_
    replace hk := kK_l hk
    exact hk (mu_lt (lt31 c1))
  · replace hk := kK_r hk
    exact Ev.vret rfl rfl hk
set_option maxRecDepth 100000 in
theorem e_Flow_reckon_101_L78 {v1 : Int32} {v2 : Int32} {x : Option Value × List mmC} (hk : (kO (fun r : Ob => (none, mh sc rest to fl ma tr mk cn r de ru la tb tf ph cs)) x) (Flow_reckon_L78 nu v1 v2)) : Ev mmPT tbX2_reckon 78 [some (.ref 101), some (.int v1), some (.int v2), none] [] (mh sc rest to fl ma tr mk cn nu de ru la tb tf ph cs) x :=
  k_loop (B := (fun a : Int32 × Int32 × Ob => Flow_reckon_L78b a.2.2 a.1 a.2.1)) (μ := fun a : Int32 × Int32 × Ob => mu a.2.1) (E := fun a : Int32 × Int32 × Ob => Ev mmPT tbX2_reckon 78 [some (.ref 101), some (.int a.1), some (.int a.2.1), none] [] (mh sc rest to fl ma tr mk cn a.2.2 de ru la tb tf ph cs) x) (X := (kO (fun r : Ob => (none, mh sc rest to fl ma tr mk cn r de ru la tb tf ph cs)) x)) (fun a hk => e_Flow_reckon_101_L78b hk) (v1, v2, nu) hk
set_option maxRecDepth 100000 in
theorem e_Flow_reckon_101_L19b {v1 : Int32} {x : Option Value × List mmC} (hk : (kK (fun a : Int32 × Ob => mu a.1) (mu v1) (fun a : Int32 × Ob => Ev mmPT tbX2_reckon 19 [some (.ref 101), some (.int a.1), none, none] [] (mh sc rest to fl ma tr mk cn a.2 de ru la tb tf ph cs) x) (kO (fun r : Ob => (none, mh sc rest to fl ma tr mk cn r de ru la tb tf ph cs)) x)) (Flow_reckon_L19b nu v1)) : Ev mmPT tbX2_reckon 19 [some (.ref 101), some (.int v1), none, none] [] (mh sc rest to fl ma tr mk cn nu de ru la tb tf ph cs) x := by
  unfold Flow_reckon_L19b at hk
  refine Ev.s (ins := .iload_n 1) (pc' := 20) rfl rfl ?_
  refine q_bi 10 rfl rfl ?_
  refine q_cge rfl hk (fun c1 hk => ?_) (fun c1 hk => ?_)
  · refine Ev.s (ins := .aload_n 0) (pc' := 26) rfl rfl ?_
    refine gf_101_4 (nu.2.1 0) rfl rfl ?_
    refine Ev.s (ins := .iload_n 1) (pc' := 30) rfl rfl ?_
    refine kc_X11_has_3 rfl (Nat.le_of_ble_eq_true rfl) (e_Ph_has) ?_
    refine q_beq rfl hk (fun c2 hk => ?_) (fun c2 hk => ?_)
    · refine Ev.s (ins := .aload_n 0) (pc' := 37) rfl rfl ?_
      refine gf_101_4 (nu.2.1 0) rfl rfl ?_
      refine Ev.s (ins := .aload_n 0) (pc' := 41) rfl rfl ?_
      refine Ev.s (ins := .iload_n 1) (pc' := 42) rfl rfl ?_
      refine kc_X2_reachedWithout_0 rfl oi_101 rfl (Nat.le_of_ble_eq_true rfl) (e_Flow_reachedWithout_101) ?_
      refine q_ic (-1) rfl rfl ?_
      refine Ev.s (ins := .ixor) (pc' := 47) rfl rfl ?_
      refine Ev.s (ins := .iand) (pc' := 48) rfl rfl ?_
      refine Ev.goto rfl ?_
      exact e_Flow_reckon_101_52 (lt31 c1) hk
    · refine q_ic 0 rfl rfl ?_
      exact e_Flow_reckon_101_52 (lt31 c1) hk
  · replace hk := kK_r hk
    refine q_ic 0 rfl rfl ?_
    refine Ev.s (ins := .istore_n 1) (pc' := 76) (lv' := [some (.ref 101), some (.int 0), none, none]) rfl rfl ?_
    refine q_ic 0 rfl rfl ?_
    refine Ev.s (ins := .istore_n 2) (pc' := 78) (lv' := [some (.ref 101), some (.int 0), some (.int 0), none]) rfl rfl ?_
    exact e_Flow_reckon_101_L78 hk
set_option maxRecDepth 100000 in
theorem e_Flow_reckon_101_L19 {v1 : Int32} {x : Option Value × List mmC} (hk : (kO (fun r : Ob => (none, mh sc rest to fl ma tr mk cn r de ru la tb tf ph cs)) x) (Flow_reckon_L19 nu v1)) : Ev mmPT tbX2_reckon 19 [some (.ref 101), some (.int v1), none, none] [] (mh sc rest to fl ma tr mk cn nu de ru la tb tf ph cs) x :=
  k_loop (B := (fun a : Int32 × Ob => Flow_reckon_L19b a.2 a.1)) (μ := fun a : Int32 × Ob => mu a.1) (E := fun a : Int32 × Ob => Ev mmPT tbX2_reckon 19 [some (.ref 101), some (.int a.1), none, none] [] (mh sc rest to fl ma tr mk cn a.2 de ru la tb tf ph cs) x) (X := (kO (fun r : Ob => (none, mh sc rest to fl ma tr mk cn r de ru la tb tf ph cs)) x)) (fun a hk => e_Flow_reckon_101_L19b hk) (v1, nu) hk
set_option maxRecDepth 100000 in
theorem e_Flow_reckon_101_0 {x : Option Value × List mmC} (hk : (kO (fun r : Ob => (none, mh sc rest to fl ma tr mk cn r de ru la tb tf ph cs)) x) (Flow_reckon nu)) : Ev mmPT tbX2_reckon 0 [some (.ref 101), none, none, none] [] (mh sc rest to fl ma tr mk cn nu de ru la tb tf ph cs) x := by
  unfold Flow_reckon at hk
  refine Ev.s (ins := .aload_n 0) (pc' := 1) rfl rfl ?_
  refine Ev.s (ins := .aload_n 0) (pc' := 2) rfl rfl ?_
  refine q_ic (-1) rfl rfl ?_
  refine kc_X2_reachedWithout_0 rfl oi_101 rfl (Nat.le_of_ble_eq_true rfl) (e_Flow_reachedWithout_101) ?_
  refine pf_101_4 (Flow_reachedWithout nu (-1)) rfl ?_
  refine Ev.s (ins := .aload_n 0) (pc' := 10) rfl rfl ?_
  refine gf_101_2 rfl ?_
  refine q_ic 0 rfl rfl ?_
  refine fl_106 rfl (Nat.le_of_ble_eq_true rfl) ?_
  refine q_ic 0 rfl rfl ?_
  refine Ev.s (ins := .istore_n 1) (pc' := 19) (lv' := [some (.ref 101), some (.int 0), none, none]) rfl rfl ?_
  exact e_Flow_reckon_101_L19 hk
set_option maxRecDepth 100000 in
theorem e_Flow_reckon_101 : Ev mmPT tbX2_reckon 0 [some (.ref 101), none, none, none] [] (mh sc rest to fl ma tr mk cn nu de ru la tb tf ph cs) ((fun r : Ob => (none, mh sc rest to fl ma tr mk cn r de ru la tb tf ph cs)) (Flow_reckon nu)) := e_Flow_reckon_101_0 (by exact rfl)
set_option maxRecDepth 100000 in
theorem e_Form_soleArgument_34_101 {v1 : Int32} {v2 : Int32} {v3 : Int32} {v4 : Int32} {x : Option Value × List mmC} (b14 : v4 < 2147483647) (hk : (kK (fun a : Int32 × Int32 => mu a.2) (mu v4) (fun a : Int32 × Int32 => Ev mmPT tbX3_soleArgument 14 [some (.ref 34), some (.int v1), some (.int v2), some (.int a.1), some (.int a.2), none] [] (mh sc rest to fl ma tr mk cn nu de ru la tb tf ph cs) x) (kO (fun r : Int32 => (some (.int r), mh sc rest to fl ma tr mk cn nu de ru la tb tf ph cs)) x)) (Form_soleArgument_101 ma v1 v2 v3 v4)) : Ev mmPT tbX3_soleArgument 101 [some (.ref 34), some (.int v1), some (.int v2), some (.int v3), some (.int v4), none] [] (mh sc rest to fl ma tr mk cn nu de ru la tb tf ph cs) x := by
  unfold Form_soleArgument_101 at hk
  refine q_inc 1 [some (.ref 34), some (.int v1), some (.int v2), some (.int v3), some (.int (v4 + 1)), none] rfl rfl rfl rfl ?_
  refine Ev.goto rfl ?_
  replace hk := kK_l hk
  exact hk (mu_lt b14)
set_option maxRecDepth 100000 in
theorem e_Form_soleArgument_34_99 {x : Option Value × List mmC} (hk : (kO (fun r : Int32 => (some (.int r), mh sc rest to fl ma tr mk cn nu de ru la tb tf ph cs)) x) (Form_soleArgument_99 ma)) : Ev mmPT tbX3_soleArgument 99 [none, none, none, none, none, none] [] (mh sc rest to fl ma tr mk cn nu de ru la tb tf ph cs) x := by
  unfold Form_soleArgument_99 at hk
  refine q_ic (-1) rfl rfl ?_
  exact Ev.iret rfl rfl hk
set_option maxRecDepth 100000 in
theorem e_Form_soleArgument_34_L14b {v1 : Int32} {v2 : Int32} {v3 : Int32} {v4 : Int32} {x : Option Value × List mmC} (hk : (kK (fun a : Int32 × Int32 => mu a.2) (mu v4) (fun a : Int32 × Int32 => Ev mmPT tbX3_soleArgument 14 [some (.ref 34), some (.int v1), some (.int v2), some (.int a.1), some (.int a.2), none] [] (mh sc rest to fl ma tr mk cn nu de ru la tb tf ph cs) x) (kO (fun r : Int32 => (some (.int r), mh sc rest to fl ma tr mk cn nu de ru la tb tf ph cs)) x)) (Form_soleArgument_L14b ma v1 v2 v3 v4)) : Ev mmPT tbX3_soleArgument 14 [some (.ref 34), some (.int v1), some (.int v2), some (.int v3), some (.int v4), none] [] (mh sc rest to fl ma tr mk cn nu de ru la tb tf ph cs) x := by
  unfold Form_soleArgument_L14b at hk
  refine Ev.s (ins := .iload 4) (pc' := 16) rfl rfl ?_
  refine Ev.s (ins := .aload_n 0) (pc' := 17) rfl rfl ?_
  refine gf_34_3 rfl ?_
  refine Ev.s (ins := .iload_n 1) (pc' := 21) rfl rfl ?_
  refine at_41 (oat ma 3 150 v1) rfl (Nat.le_of_ble_eq_true rfl) rfl ?_
  refine q_cge rfl hk (fun c1 hk => ?_) (fun c1 hk => ?_)
  · refine Ev.s (ins := .aload_n 0) (pc' := 28) rfl rfl ?_
    refine gf_34_5 rfl ?_
    refine Ev.s (ins := .iload_n 2) (pc' := 32) rfl rfl ?_
    refine Ev.s (ins := .iload 4) (pc' := 34) rfl rfl ?_
    refine Ev.s (ins := .iadd) (pc' := 35) rfl rfl ?_
    refine at_45 (oat ma 5 290 (v2 + v4)) rfl (Nat.le_of_ble_eq_true rfl) rfl ?_
    refine Ev.s (ins := .istore 5) (pc' := 40) (lv' := [some (.ref 34), some (.int v1), some (.int v2), some (.int v3), some (.int v4), some (.int (oat ma 5 290 (v2 + v4)))]) rfl rfl ?_
    refine Ev.s (ins := .iload 5) (pc' := 42) rfl rfl ?_
    refine Ev.s (ins := .iload_n 1) (pc' := 43) rfl rfl ?_
    refine q_cne rfl hk (fun c2 hk => ?_) (fun c2 hk => ?_)
    · refine Ev.goto rfl ?_
      refine Ev.weak [some (.ref 34), some (.int v1), some (.int v2), some (.int v3), some (.int v4), none] ⟨rfl, rfl, rfl, rfl, rfl, rfl, trivial⟩ ?_
      exact e_Form_soleArgument_34_101 (lt31 c1) hk
    · refine Ev.s (ins := .iload_n 3) (pc' := 50) rfl rfl ?_
      refine q_ic (-1) rfl rfl ?_
      refine q_cne rfl hk (fun c3 hk => ?_) (fun c3 hk => ?_)
      · refine Ev.s (ins := .iload 4) (pc' := 56) rfl rfl ?_
        refine Ev.s (ins := .istore_n 3) (pc' := 57) (lv' := [some (.ref 34), some (.int v1), some (.int v2), some (.int v4), some (.int v4), some (.int (oat ma 5 290 (v2 + v4)))]) rfl rfl ?_
        refine Ev.goto rfl ?_
        refine Ev.weak [some (.ref 34), some (.int v1), some (.int v2), some (.int v4), some (.int v4), none] ⟨rfl, rfl, rfl, rfl, rfl, rfl, trivial⟩ ?_
        exact e_Form_soleArgument_34_101 (lt31 c1) hk
      · refine Ev.s (ins := .iload 5) (pc' := 62) rfl rfl ?_
        refine Ev.s (ins := .aload_n 0) (pc' := 63) rfl rfl ?_
        refine gf_34_5 rfl ?_
        refine Ev.s (ins := .iload_n 2) (pc' := 67) rfl rfl ?_
        refine Ev.s (ins := .iload_n 3) (pc' := 68) rfl rfl ?_
        refine Ev.s (ins := .iadd) (pc' := 69) rfl rfl ?_
        refine at_45 (oat ma 5 290 (v2 + v3)) rfl (Nat.le_of_ble_eq_true rfl) rfl ?_
        refine q_cne rfl hk (fun c4 hk => ?_) (fun c4 hk => ?_)
        · refine Ev.s (ins := .aload_n 0) (pc' := 76) rfl rfl ?_
          refine gf_34_6 rfl ?_
          refine Ev.s (ins := .iload_n 2) (pc' := 80) rfl rfl ?_
          refine Ev.s (ins := .iload 4) (pc' := 82) rfl rfl ?_
          refine Ev.s (ins := .iadd) (pc' := 83) rfl rfl ?_
          refine at_47 (oat ma 6 290 (v2 + v4)) rfl (Nat.le_of_ble_eq_true rfl) rfl ?_
          refine Ev.s (ins := .aload_n 0) (pc' := 87) rfl rfl ?_
          refine gf_34_6 rfl ?_
          refine Ev.s (ins := .iload_n 2) (pc' := 91) rfl rfl ?_
          refine Ev.s (ins := .iload_n 3) (pc' := 92) rfl rfl ?_
          refine Ev.s (ins := .iadd) (pc' := 93) rfl rfl ?_
          refine at_47 (oat ma 6 290 (v2 + v3)) rfl (Nat.le_of_ble_eq_true rfl) rfl ?_
          refine q_ceq rfl hk (fun c5 hk => ?_) (fun c5 hk => ?_)
          · refine Ev.weak [some (.ref 34), some (.int v1), some (.int v2), some (.int v3), some (.int v4), none] ⟨rfl, rfl, rfl, rfl, rfl, rfl, trivial⟩ ?_
            exact e_Form_soleArgument_34_101 (lt31 c1) hk
          · replace hk := kK_r hk
            refine Ev.weak [none, none, none, none, none, none] ⟨rfl, rfl, rfl, rfl, rfl, rfl, trivial⟩ ?_
            exact e_Form_soleArgument_34_99 hk
        · replace hk := kK_r hk
          refine Ev.weak [none, none, none, none, none, none] ⟨rfl, rfl, rfl, rfl, rfl, rfl, trivial⟩ ?_
          exact e_Form_soleArgument_34_99 hk
  · replace hk := kK_r hk
    refine Ev.s (ins := .iload_n 3) (pc' := 108) rfl rfl ?_
    exact Ev.iret rfl rfl hk
set_option maxRecDepth 100000 in
theorem e_Form_soleArgument_34_L14 {v1 : Int32} {v2 : Int32} {v3 : Int32} {v4 : Int32} {x : Option Value × List mmC} (hk : (kO (fun r : Int32 => (some (.int r), mh sc rest to fl ma tr mk cn nu de ru la tb tf ph cs)) x) (Form_soleArgument_L14 ma v1 v2 v3 v4)) : Ev mmPT tbX3_soleArgument 14 [some (.ref 34), some (.int v1), some (.int v2), some (.int v3), some (.int v4), none] [] (mh sc rest to fl ma tr mk cn nu de ru la tb tf ph cs) x :=
  k_loop (B := (fun a : Int32 × Int32 => Form_soleArgument_L14b ma v1 v2 a.1 a.2)) (μ := fun a : Int32 × Int32 => mu a.2) (E := fun a : Int32 × Int32 => Ev mmPT tbX3_soleArgument 14 [some (.ref 34), some (.int v1), some (.int v2), some (.int a.1), some (.int a.2), none] [] (mh sc rest to fl ma tr mk cn nu de ru la tb tf ph cs) x) (X := (kO (fun r : Int32 => (some (.int r), mh sc rest to fl ma tr mk cn nu de ru la tb tf ph cs)) x)) (fun a hk => e_Form_soleArgument_34_L14b hk) (v3, v4) hk
set_option maxRecDepth 100000 in
theorem e_Form_soleArgument_34_0 {v1 : Int32} {x : Option Value × List mmC} (hk : (kO (fun r : Int32 => (some (.int r), mh sc rest to fl ma tr mk cn nu de ru la tb tf ph cs)) x) (Form_soleArgument ma v1)) : Ev mmPT tbX3_soleArgument 0 [some (.ref 34), some (.int v1), none, none, none, none] [] (mh sc rest to fl ma tr mk cn nu de ru la tb tf ph cs) x := by
  unfold Form_soleArgument at hk
  refine Ev.s (ins := .aload_n 0) (pc' := 1) rfl rfl ?_
  refine gf_34_4 rfl ?_
  refine Ev.s (ins := .iload_n 1) (pc' := 5) rfl rfl ?_
  refine at_43 (oat ma 4 150 v1) rfl (Nat.le_of_ble_eq_true rfl) rfl ?_
  refine Ev.s (ins := .istore_n 2) (pc' := 9) (lv' := [some (.ref 34), some (.int v1), some (.int (oat ma 4 150 v1)), none, none, none]) rfl rfl ?_
  refine q_ic (-1) rfl rfl ?_
  refine Ev.s (ins := .istore_n 3) (pc' := 11) (lv' := [some (.ref 34), some (.int v1), some (.int (oat ma 4 150 v1)), some (.int (-1)), none, none]) rfl rfl ?_
  refine q_ic 0 rfl rfl ?_
  refine Ev.s (ins := .istore 4) (pc' := 14) (lv' := [some (.ref 34), some (.int v1), some (.int (oat ma 4 150 v1)), some (.int (-1)), some (.int 0), none]) rfl rfl ?_
  exact e_Form_soleArgument_34_L14 hk
set_option maxRecDepth 100000 in
theorem e_Form_soleArgument_34 {v1 : Int32} : Ev mmPT tbX3_soleArgument 0 [some (.ref 34), some (.int v1), none, none, none, none] [] (mh sc rest to fl ma tr mk cn nu de ru la tb tf ph cs) ((fun r : Int32 => (some (.int r), mh sc rest to fl ma tr mk cn nu de ru la tb tf ph cs)) (Form_soleArgument ma v1)) := e_Form_soleArgument_34_0 (by exact rfl)
set_option maxRecDepth 100000 in
theorem e_Numbers_isStill_34_28 {x : Option Value × List mmC} (hk : (kO (fun r : Bool => (some (.int (b2i r)), mh sc rest to fl ma tr mk cn nu de ru la tb tf ph cs)) x) (Numbers_isStill_28 ma)) : Ev mmPT tbX6_isStill 28 [none, none, none, none] [] (mh sc rest to fl ma tr mk cn nu de ru la tb tf ph cs) x := by
  unfold Numbers_isStill_28 at hk
  refine q_ic 0 rfl rfl ?_
  exact Ev.zret rfl rfl (Or.inl rfl) hk
set_option maxRecDepth 100000 in
theorem e_Numbers_isStill_34_0 {v1 : Int32} {v2 : Int32} {v3 : Int32} {x : Option Value × List mmC} (hk : (kO (fun r : Bool => (some (.int (b2i r)), mh sc rest to fl ma tr mk cn nu de ru la tb tf ph cs)) x) (Numbers_isStill ma v1 v2 v3)) : Ev mmPT tbX6_isStill 0 [some (.ref 34), some (.int v1), some (.int v2), some (.int v3)] [] (mh sc rest to fl ma tr mk cn nu de ru la tb tf ph cs) x := by
  unfold Numbers_isStill at hk
  refine Ev.s (ins := .aload_n 0) (pc' := 1) rfl rfl ?_
  refine gf_34_0 rfl ?_
  refine Ev.s (ins := .iload_n 1) (pc' := 5) rfl rfl ?_
  refine at_35 (oat ma 0 140 v1) rfl (Nat.le_of_ble_eq_true rfl) rfl ?_
  refine Ev.s (ins := .iload_n 2) (pc' := 9) rfl rfl ?_
  refine q_cne rfl hk (fun c1 hk => ?_) (fun c1 hk => ?_)
  · refine Ev.s (ins := .aload_n 0) (pc' := 13) rfl rfl ?_
    refine gf_34_1 rfl ?_
    refine Ev.s (ins := .iload_n 1) (pc' := 17) rfl rfl ?_
    refine at_37 (oat ma 1 140 v1) rfl (Nat.le_of_ble_eq_true rfl) rfl ?_
    refine Ev.s (ins := .iload_n 3) (pc' := 21) rfl rfl ?_
    refine q_cne rfl hk (fun c2 hk => ?_) (fun c2 hk => ?_)
    · refine q_ic 1 rfl rfl ?_
      refine Ev.goto rfl ?_
      exact Ev.zret rfl rfl (Or.inr rfl) hk
    · refine Ev.weak [none, none, none, none] ⟨rfl, rfl, rfl, rfl, trivial⟩ ?_
      exact e_Numbers_isStill_34_28 hk
  · refine Ev.weak [none, none, none, none] ⟨rfl, rfl, rfl, rfl, trivial⟩ ?_
    exact e_Numbers_isStill_34_28 hk
set_option maxRecDepth 100000 in
theorem e_Numbers_isStill_34 {v1 : Int32} {v2 : Int32} {v3 : Int32} : Ev mmPT tbX6_isStill 0 [some (.ref 34), some (.int v1), some (.int v2), some (.int v3)] [] (mh sc rest to fl ma tr mk cn nu de ru la tb tf ph cs) ((fun r : Bool => (some (.int (b2i r)), mh sc rest to fl ma tr mk cn nu de ru la tb tf ph cs)) (Numbers_isStill ma v1 v2 v3)) := e_Numbers_isStill_34_0 (by exact rfl)
set_option maxRecDepth 100000 in
theorem e_Form_hasSameArguments_34_121 {v3 : Int32} {v4 : Int32} {v5 : Int32} {v7 : Int32} {w0 : Bool} {x : Option Value × List mmC} (b51 : v7 < 2147483647) (hk : (kK (fun a : Bool × Int32 => mu a.2) (mu v7) (fun a : Bool × Int32 => Ev mmPT tbX3_hasSameArguments 51 [some (.ref 34), none, none, some (.int v3), some (.int v4), some (.int v5), some (.int (b2i a.1)), some (.int a.2)] [] (mh sc rest to fl ma tr mk cn nu de ru la tb tf ph cs) x) (kO (fun r : Bool => (some (.int (b2i r)), mh sc rest to fl ma tr mk cn nu de ru la tb tf ph cs)) x)) (Form_hasSameArguments_121 ma v3 v4 v5 v7 w0)) : Ev mmPT tbX3_hasSameArguments 121 [some (.ref 34), none, none, some (.int v3), some (.int v4), some (.int v5), none, some (.int v7)] [.int (b2i w0)] (mh sc rest to fl ma tr mk cn nu de ru la tb tf ph cs) x := by
  unfold Form_hasSameArguments_121 at hk
  refine Ev.s (ins := .istore 6) (pc' := 123) (lv' := [some (.ref 34), none, none, some (.int v3), some (.int v4), some (.int v5), some (.int (b2i w0)), some (.int v7)]) rfl rfl ?_
  refine q_inc 1 [some (.ref 34), none, none, some (.int v3), some (.int v4), some (.int v5), some (.int (b2i w0)), some (.int (v7 + 1))] rfl rfl rfl rfl ?_
  refine Ev.goto rfl ?_
  replace hk := kK_l hk
  exact hk (mu_lt b51)
set_option maxRecDepth 100000 in
theorem e_Form_hasSameArguments_34_120 {v3 : Int32} {v4 : Int32} {v5 : Int32} {v7 : Int32} {x : Option Value × List mmC} (b51 : v7 < 2147483647) (hk : (kK (fun a : Bool × Int32 => mu a.2) (mu v7) (fun a : Bool × Int32 => Ev mmPT tbX3_hasSameArguments 51 [some (.ref 34), none, none, some (.int v3), some (.int v4), some (.int v5), some (.int (b2i a.1)), some (.int a.2)] [] (mh sc rest to fl ma tr mk cn nu de ru la tb tf ph cs) x) (kO (fun r : Bool => (some (.int (b2i r)), mh sc rest to fl ma tr mk cn nu de ru la tb tf ph cs)) x)) (Form_hasSameArguments_120 ma v3 v4 v5 v7)) : Ev mmPT tbX3_hasSameArguments 120 [some (.ref 34), none, none, some (.int v3), some (.int v4), some (.int v5), none, some (.int v7)] [] (mh sc rest to fl ma tr mk cn nu de ru la tb tf ph cs) x := by
  unfold Form_hasSameArguments_120 at hk
  refine q_ic 0 rfl rfl ?_
  exact e_Form_hasSameArguments_34_121 b51 hk
set_option maxRecDepth 100000 in
theorem e_Form_hasSameArguments_34_L51b {v3 : Int32} {v4 : Int32} {v5 : Int32} {v6 : Bool} {v7 : Int32} {x : Option Value × List mmC} (hk : (kK (fun a : Bool × Int32 => mu a.2) (mu v7) (fun a : Bool × Int32 => Ev mmPT tbX3_hasSameArguments 51 [some (.ref 34), none, none, some (.int v3), some (.int v4), some (.int v5), some (.int (b2i a.1)), some (.int a.2)] [] (mh sc rest to fl ma tr mk cn nu de ru la tb tf ph cs) x) (kO (fun r : Bool => (some (.int (b2i r)), mh sc rest to fl ma tr mk cn nu de ru la tb tf ph cs)) x)) (Form_hasSameArguments_L51b ma v3 v4 v5 v6 v7)) : Ev mmPT tbX3_hasSameArguments 51 [some (.ref 34), none, none, some (.int v3), some (.int v4), some (.int v5), some (.int (b2i v6)), some (.int v7)] [] (mh sc rest to fl ma tr mk cn nu de ru la tb tf ph cs) x := by
  unfold Form_hasSameArguments_L51b at hk
  refine Ev.s (ins := .iload 7) (pc' := 53) rfl rfl ?_
  refine Ev.s (ins := .iload_n 3) (pc' := 54) rfl rfl ?_
  refine q_cge rfl hk (fun c1 hk => ?_) (fun c1 hk => ?_)
  · refine Ev.s (ins := .iload 6) (pc' := 59) rfl rfl ?_
    refine q_beq rfl hk (fun c2 hk => ?_) (fun c2 hk => ?_)
    · refine Ev.s (ins := .aload_n 0) (pc' := 63) rfl rfl ?_
      refine gf_34_5 rfl ?_
      refine Ev.s (ins := .iload 4) (pc' := 68) rfl rfl ?_
      refine Ev.s (ins := .iload 7) (pc' := 70) rfl rfl ?_
      refine Ev.s (ins := .iadd) (pc' := 71) rfl rfl ?_
      refine at_45 (oat ma 5 290 (v4 + v7)) rfl (Nat.le_of_ble_eq_true rfl) rfl ?_
      refine Ev.s (ins := .aload_n 0) (pc' := 75) rfl rfl ?_
      refine gf_34_5 rfl ?_
      refine Ev.s (ins := .iload 5) (pc' := 80) rfl rfl ?_
      refine Ev.s (ins := .iload 7) (pc' := 82) rfl rfl ?_
      refine Ev.s (ins := .iadd) (pc' := 83) rfl rfl ?_
      refine at_45 (oat ma 5 290 (v5 + v7)) rfl (Nat.le_of_ble_eq_true rfl) rfl ?_
      refine q_cne rfl hk (fun c3 hk => ?_) (fun c3 hk => ?_)
      · refine Ev.s (ins := .aload_n 0) (pc' := 90) rfl rfl ?_
        refine gf_34_6 rfl ?_
        refine Ev.s (ins := .iload 4) (pc' := 95) rfl rfl ?_
        refine Ev.s (ins := .iload 7) (pc' := 97) rfl rfl ?_
        refine Ev.s (ins := .iadd) (pc' := 98) rfl rfl ?_
        refine at_47 (oat ma 6 290 (v4 + v7)) rfl (Nat.le_of_ble_eq_true rfl) rfl ?_
        refine Ev.s (ins := .aload_n 0) (pc' := 102) rfl rfl ?_
        refine gf_34_6 rfl ?_
        refine Ev.s (ins := .iload 5) (pc' := 107) rfl rfl ?_
        refine Ev.s (ins := .iload 7) (pc' := 109) rfl rfl ?_
        refine Ev.s (ins := .iadd) (pc' := 110) rfl rfl ?_
        refine at_47 (oat ma 6 290 (v5 + v7)) rfl (Nat.le_of_ble_eq_true rfl) rfl ?_
        refine q_cne rfl hk (fun c4 hk => ?_) (fun c4 hk => ?_)
        · refine q_ic 1 rfl rfl ?_
          refine Ev.goto rfl ?_
          refine Ev.weak [some (.ref 34), none, none, some (.int v3), some (.int v4), some (.int v5), none, some (.int v7)] ⟨rfl, rfl, rfl, rfl, rfl, rfl, rfl, rfl, trivial⟩ ?_
          exact e_Form_hasSameArguments_34_121 (lt31 c1) hk
        · refine Ev.weak [some (.ref 34), none, none, some (.int v3), some (.int v4), some (.int v5), none, some (.int v7)] ⟨rfl, rfl, rfl, rfl, rfl, rfl, rfl, rfl, trivial⟩ ?_
          exact e_Form_hasSameArguments_34_120 (lt31 c1) hk
      · refine Ev.weak [some (.ref 34), none, none, some (.int v3), some (.int v4), some (.int v5), none, some (.int v7)] ⟨rfl, rfl, rfl, rfl, rfl, rfl, rfl, rfl, trivial⟩ ?_
        exact e_Form_hasSameArguments_34_120 (lt31 c1) hk
    · refine Ev.weak [some (.ref 34), none, none, some (.int v3), some (.int v4), some (.int v5), none, some (.int v7)] ⟨rfl, rfl, rfl, rfl, rfl, rfl, rfl, rfl, trivial⟩ ?_
      exact e_Form_hasSameArguments_34_120 (lt31 c1) hk
  · replace hk := kK_r hk
    refine Ev.s (ins := .iload 6) (pc' := 131) rfl rfl ?_
    exact Ev.zret rfl rfl (b2i_01 _) hk
set_option maxRecDepth 100000 in
theorem e_Form_hasSameArguments_34_L51 {v3 : Int32} {v4 : Int32} {v5 : Int32} {v6 : Bool} {v7 : Int32} {x : Option Value × List mmC} (hk : (kO (fun r : Bool => (some (.int (b2i r)), mh sc rest to fl ma tr mk cn nu de ru la tb tf ph cs)) x) (Form_hasSameArguments_L51 ma v3 v4 v5 v6 v7)) : Ev mmPT tbX3_hasSameArguments 51 [some (.ref 34), none, none, some (.int v3), some (.int v4), some (.int v5), some (.int (b2i v6)), some (.int v7)] [] (mh sc rest to fl ma tr mk cn nu de ru la tb tf ph cs) x :=
  k_loop (B := (fun a : Bool × Int32 => Form_hasSameArguments_L51b ma v3 v4 v5 a.1 a.2)) (μ := fun a : Bool × Int32 => mu a.2) (E := fun a : Bool × Int32 => Ev mmPT tbX3_hasSameArguments 51 [some (.ref 34), none, none, some (.int v3), some (.int v4), some (.int v5), some (.int (b2i a.1)), some (.int a.2)] [] (mh sc rest to fl ma tr mk cn nu de ru la tb tf ph cs) x) (X := (kO (fun r : Bool => (some (.int (b2i r)), mh sc rest to fl ma tr mk cn nu de ru la tb tf ph cs)) x)) (fun a hk => e_Form_hasSameArguments_34_L51b hk) (v6, v7) hk
set_option maxRecDepth 100000 in
theorem e_Form_hasSameArguments_34_46 {v3 : Int32} {v4 : Int32} {v5 : Int32} {w0 : Bool} {x : Option Value × List mmC} (hk : (kO (fun r : Bool => (some (.int (b2i r)), mh sc rest to fl ma tr mk cn nu de ru la tb tf ph cs)) x) (Form_hasSameArguments_46 ma v3 v4 v5 w0)) : Ev mmPT tbX3_hasSameArguments 46 [some (.ref 34), none, none, some (.int v3), some (.int v4), some (.int v5), none, none] [.int (b2i w0)] (mh sc rest to fl ma tr mk cn nu de ru la tb tf ph cs) x := by
  unfold Form_hasSameArguments_46 at hk
  refine Ev.s (ins := .istore 6) (pc' := 48) (lv' := [some (.ref 34), none, none, some (.int v3), some (.int v4), some (.int v5), some (.int (b2i w0)), none]) rfl rfl ?_
  refine q_ic 0 rfl rfl ?_
  refine Ev.s (ins := .istore 7) (pc' := 51) (lv' := [some (.ref 34), none, none, some (.int v3), some (.int v4), some (.int v5), some (.int (b2i w0)), some (.int 0)]) rfl rfl ?_
  exact e_Form_hasSameArguments_34_L51 hk
set_option maxRecDepth 100000 in
theorem e_Form_hasSameArguments_34_0 {v1 : Int32} {v2 : Int32} {x : Option Value × List mmC} (hk : (kO (fun r : Bool => (some (.int (b2i r)), mh sc rest to fl ma tr mk cn nu de ru la tb tf ph cs)) x) (Form_hasSameArguments ma v1 v2)) : Ev mmPT tbX3_hasSameArguments 0 [some (.ref 34), some (.int v1), some (.int v2), none, none, none, none, none] [] (mh sc rest to fl ma tr mk cn nu de ru la tb tf ph cs) x := by
  unfold Form_hasSameArguments at hk
  refine Ev.s (ins := .aload_n 0) (pc' := 1) rfl rfl ?_
  refine gf_34_3 rfl ?_
  refine Ev.s (ins := .iload_n 1) (pc' := 5) rfl rfl ?_
  refine at_41 (oat ma 3 150 v1) rfl (Nat.le_of_ble_eq_true rfl) rfl ?_
  refine Ev.s (ins := .istore_n 3) (pc' := 9) (lv' := [some (.ref 34), some (.int v1), some (.int v2), some (.int (oat ma 3 150 v1)), none, none, none, none]) rfl rfl ?_
  refine Ev.s (ins := .aload_n 0) (pc' := 10) rfl rfl ?_
  refine gf_34_4 rfl ?_
  refine Ev.s (ins := .iload_n 1) (pc' := 14) rfl rfl ?_
  refine at_43 (oat ma 4 150 v1) rfl (Nat.le_of_ble_eq_true rfl) rfl ?_
  refine Ev.s (ins := .istore 4) (pc' := 19) (lv' := [some (.ref 34), some (.int v1), some (.int v2), some (.int (oat ma 3 150 v1)), some (.int (oat ma 4 150 v1)), none, none, none]) rfl rfl ?_
  refine Ev.s (ins := .aload_n 0) (pc' := 20) rfl rfl ?_
  refine gf_34_4 rfl ?_
  refine Ev.s (ins := .iload_n 2) (pc' := 24) rfl rfl ?_
  refine at_43 (oat ma 4 150 v2) rfl (Nat.le_of_ble_eq_true rfl) rfl ?_
  refine Ev.s (ins := .istore 5) (pc' := 29) (lv' := [some (.ref 34), some (.int v1), some (.int v2), some (.int (oat ma 3 150 v1)), some (.int (oat ma 4 150 v1)), some (.int (oat ma 4 150 v2)), none, none]) rfl rfl ?_
  refine Ev.s (ins := .iload_n 3) (pc' := 30) rfl rfl ?_
  refine Ev.s (ins := .aload_n 0) (pc' := 31) rfl rfl ?_
  refine gf_34_3 rfl ?_
  refine Ev.s (ins := .iload_n 2) (pc' := 35) rfl rfl ?_
  refine at_41 (oat ma 3 150 v2) rfl (Nat.le_of_ble_eq_true rfl) rfl ?_
  refine q_cne rfl hk (fun c1 hk => ?_) (fun c1 hk => ?_)
  · refine q_ic 1 rfl rfl ?_
    refine Ev.goto rfl ?_
    refine Ev.weak [some (.ref 34), none, none, some (.int (oat ma 3 150 v1)), some (.int (oat ma 4 150 v1)), some (.int (oat ma 4 150 v2)), none, none] ⟨rfl, rfl, rfl, rfl, rfl, rfl, rfl, rfl, trivial⟩ ?_
    exact e_Form_hasSameArguments_34_46 hk
  · refine q_ic 0 rfl rfl ?_
    refine Ev.weak [some (.ref 34), none, none, some (.int (oat ma 3 150 v1)), some (.int (oat ma 4 150 v1)), some (.int (oat ma 4 150 v2)), none, none] ⟨rfl, rfl, rfl, rfl, rfl, rfl, rfl, rfl, trivial⟩ ?_
    exact e_Form_hasSameArguments_34_46 hk
set_option maxRecDepth 100000 in
theorem e_Form_hasSameArguments_34 {v1 : Int32} {v2 : Int32} : Ev mmPT tbX3_hasSameArguments 0 [some (.ref 34), some (.int v1), some (.int v2), none, none, none, none, none] [] (mh sc rest to fl ma tr mk cn nu de ru la tb tf ph cs) ((fun r : Bool => (some (.int (b2i r)), mh sc rest to fl ma tr mk cn nu de ru la tb tf ph cs)) (Form_hasSameArguments ma v1 v2)) := e_Form_hasSameArguments_34_0 (by exact rfl)
set_option maxRecDepth 100000 in
theorem e_Numbers_twinOfPhi_34_50 {v1 : Int32} {v2 : Int32} {v3 : Int32} {v4 : Int32} {x : Option Value × List mmC} (b10 : v4 < 2147483647) (hk : (kK (fun a : Int32 => mu a) (mu v4) (fun a : Int32 => Ev mmPT tbX6_twinOfPhi 10 [some (.ref 34), some (.int v1), some (.int v2), some (.int v3), some (.int a), none] [] (mh sc rest to fl ma tr mk cn nu de ru la tb tf ph cs) x) (kO (fun r : Int32 => (some (.int r), mh sc rest to fl ma tr mk cn nu de ru la tb tf ph cs)) x)) (Numbers_twinOfPhi_50 ma v1 v2 v3 v4)) : Ev mmPT tbX6_twinOfPhi 50 [some (.ref 34), some (.int v1), some (.int v2), some (.int v3), some (.int v4), none] [] (mh sc rest to fl ma tr mk cn nu de ru la tb tf ph cs) x := by
  unfold Numbers_twinOfPhi_50 at hk
  refine q_inc 1 [some (.ref 34), some (.int v1), some (.int v2), some (.int v3), some (.int (v4 + 1)), none] rfl rfl rfl rfl ?_
  refine Ev.goto rfl ?_
  replace hk := kK_l hk
  exact hk (mu_lt b10)
set_option maxRecDepth 100000 in
theorem e_Numbers_twinOfPhi_34_L10b {v1 : Int32} {v2 : Int32} {v3 : Int32} {v4 : Int32} {x : Option Value × List mmC} (hk : (kK (fun a : Int32 => mu a) (mu v4) (fun a : Int32 => Ev mmPT tbX6_twinOfPhi 10 [some (.ref 34), some (.int v1), some (.int v2), some (.int v3), some (.int a), none] [] (mh sc rest to fl ma tr mk cn nu de ru la tb tf ph cs) x) (kO (fun r : Int32 => (some (.int r), mh sc rest to fl ma tr mk cn nu de ru la tb tf ph cs)) x)) (Numbers_twinOfPhi_L10b ma v1 v2 v3 v4)) : Ev mmPT tbX6_twinOfPhi 10 [some (.ref 34), some (.int v1), some (.int v2), some (.int v3), some (.int v4), none] [] (mh sc rest to fl ma tr mk cn nu de ru la tb tf ph cs) x := by
  unfold Numbers_twinOfPhi_L10b at hk
  refine Ev.s (ins := .iload 4) (pc' := 12) rfl rfl ?_
  refine Ev.s (ins := .iload_n 2) (pc' := 13) rfl rfl ?_
  refine q_cge rfl hk (fun c1 hk => ?_) (fun c1 hk => ?_)
  · refine Ev.s (ins := .aload_n 0) (pc' := 17) rfl rfl ?_
    refine Ev.s (ins := .iload_n 1) (pc' := 18) rfl rfl ?_
    refine Ev.s (ins := .iload 4) (pc' := 20) rfl rfl ?_
    refine kc_X3_valueIn_0 rfl oi_34 rfl (Nat.le_of_ble_eq_true rfl) (e_Form_valueIn_34) ?_
    refine Ev.s (ins := .istore 5) (pc' := 25) (lv' := [some (.ref 34), some (.int v1), some (.int v2), some (.int v3), some (.int v4), some (.int (Form_valueIn ma v1 v4))]) rfl rfl ?_
    refine Ev.s (ins := .aload_n 0) (pc' := 26) rfl rfl ?_
    refine Ev.s (ins := .iload 5) (pc' := 28) rfl rfl ?_
    refine q_bi 9 rfl rfl ?_
    refine Ev.s (ins := .iload_n 1) (pc' := 31) rfl rfl ?_
    refine kc_X6_isStill_2 rfl (Nat.le_of_ble_eq_true rfl) (e_Numbers_isStill_34) ?_
    refine q_beq rfl hk (fun c2 hk => ?_) (fun c2 hk => ?_)
    · refine Ev.s (ins := .aload_n 0) (pc' := 38) rfl rfl ?_
      refine Ev.s (ins := .iload_n 3) (pc' := 39) rfl rfl ?_
      refine Ev.s (ins := .iload 5) (pc' := 41) rfl rfl ?_
      refine kc_X3_hasSameArguments_0 rfl oi_34 rfl (Nat.le_of_ble_eq_true rfl) (e_Form_hasSameArguments_34) ?_
      refine q_beq rfl hk (fun c3 hk => ?_) (fun c3 hk => ?_)
      · replace hk := kK_r hk
        refine Ev.s (ins := .iload 5) (pc' := 49) rfl rfl ?_
        exact Ev.iret rfl rfl hk
      · refine Ev.weak [some (.ref 34), some (.int v1), some (.int v2), some (.int v3), some (.int v4), none] ⟨rfl, rfl, rfl, rfl, rfl, rfl, trivial⟩ ?_
        exact e_Numbers_twinOfPhi_34_50 (lt31 c1) hk
    · refine Ev.weak [some (.ref 34), some (.int v1), some (.int v2), some (.int v3), some (.int v4), none] ⟨rfl, rfl, rfl, rfl, rfl, rfl, trivial⟩ ?_
      exact e_Numbers_twinOfPhi_34_50 (lt31 c1) hk
  · replace hk := kK_r hk
    refine q_ic (-1) rfl rfl ?_
    exact Ev.iret rfl rfl hk
set_option maxRecDepth 100000 in
theorem e_Numbers_twinOfPhi_34_L10 {v1 : Int32} {v2 : Int32} {v3 : Int32} {v4 : Int32} {x : Option Value × List mmC} (hk : (kO (fun r : Int32 => (some (.int r), mh sc rest to fl ma tr mk cn nu de ru la tb tf ph cs)) x) (Numbers_twinOfPhi_L10 ma v1 v2 v3 v4)) : Ev mmPT tbX6_twinOfPhi 10 [some (.ref 34), some (.int v1), some (.int v2), some (.int v3), some (.int v4), none] [] (mh sc rest to fl ma tr mk cn nu de ru la tb tf ph cs) x :=
  k_loop (B := (fun a : Int32 => Numbers_twinOfPhi_L10b ma v1 v2 v3 a)) (μ := fun a : Int32 => mu a) (E := fun a : Int32 => Ev mmPT tbX6_twinOfPhi 10 [some (.ref 34), some (.int v1), some (.int v2), some (.int v3), some (.int a), none] [] (mh sc rest to fl ma tr mk cn nu de ru la tb tf ph cs) x) (X := (kO (fun r : Int32 => (some (.int r), mh sc rest to fl ma tr mk cn nu de ru la tb tf ph cs)) x)) (fun a hk => e_Numbers_twinOfPhi_34_L10b hk) v4 hk
set_option maxRecDepth 100000 in
theorem e_Numbers_twinOfPhi_34_0 {v1 : Int32} {v2 : Int32} {x : Option Value × List mmC} (hk : (kO (fun r : Int32 => (some (.int r), mh sc rest to fl ma tr mk cn nu de ru la tb tf ph cs)) x) (Numbers_twinOfPhi ma v1 v2)) : Ev mmPT tbX6_twinOfPhi 0 [some (.ref 34), some (.int v1), some (.int v2), none, none, none] [] (mh sc rest to fl ma tr mk cn nu de ru la tb tf ph cs) x := by
  unfold Numbers_twinOfPhi at hk
  refine Ev.s (ins := .aload_n 0) (pc' := 1) rfl rfl ?_
  refine Ev.s (ins := .iload_n 1) (pc' := 2) rfl rfl ?_
  refine Ev.s (ins := .iload_n 2) (pc' := 3) rfl rfl ?_
  refine kc_X3_valueIn_0 rfl oi_34 rfl (Nat.le_of_ble_eq_true rfl) (e_Form_valueIn_34) ?_
  refine Ev.s (ins := .istore_n 3) (pc' := 7) (lv' := [some (.ref 34), some (.int v1), some (.int v2), some (.int (Form_valueIn ma v1 v2)), none, none]) rfl rfl ?_
  refine q_ic 0 rfl rfl ?_
  refine Ev.s (ins := .istore 4) (pc' := 10) (lv' := [some (.ref 34), some (.int v1), some (.int v2), some (.int (Form_valueIn ma v1 v2)), some (.int 0), none]) rfl rfl ?_
  exact e_Numbers_twinOfPhi_34_L10 hk
set_option maxRecDepth 100000 in
theorem e_Numbers_twinOfPhi_34 {v1 : Int32} {v2 : Int32} : Ev mmPT tbX6_twinOfPhi 0 [some (.ref 34), some (.int v1), some (.int v2), none, none, none] [] (mh sc rest to fl ma tr mk cn nu de ru la tb tf ph cs) ((fun r : Int32 => (some (.int r), mh sc rest to fl ma tr mk cn nu de ru la tb tf ph cs)) (Numbers_twinOfPhi ma v1 v2)) := e_Numbers_twinOfPhi_34_0 (by exact rfl)
set_option maxRecDepth 100000 in
theorem e_Form_valueOf_34_36 {x : Option Value × List mmC} (hk : (kO (fun r : Int32 => (some (.int r), mh sc rest to fl ma tr mk cn nu de ru la tb tf ph cs)) x) (Form_valueOf_36 ma)) : Ev mmPT tbX3_valueOf 36 [none, none, none] [] (mh sc rest to fl ma tr mk cn nu de ru la tb tf ph cs) x := by
  unfold Form_valueOf_36 at hk
  refine q_ic (-1) rfl rfl ?_
  exact Ev.iret rfl rfl hk
set_option maxRecDepth 100000 in
theorem e_Form_valueOf_34_0 {v1 : Int32} {v2 : Int32} {x : Option Value × List mmC} (hk : (kO (fun r : Int32 => (some (.int r), mh sc rest to fl ma tr mk cn nu de ru la tb tf ph cs)) x) (Form_valueOf ma v1 v2)) : Ev mmPT tbX3_valueOf 0 [some (.ref 34), some (.int v1), some (.int v2)] [] (mh sc rest to fl ma tr mk cn nu de ru la tb tf ph cs) x := by
  unfold Form_valueOf at hk
  refine Ev.s (ins := .iload_n 2) (pc' := 1) rfl rfl ?_
  refine q_lt rfl hk (fun c1 hk => ?_) (fun c1 hk => ?_)
  · refine Ev.weak [none, none, none] ⟨rfl, rfl, rfl, trivial⟩ ?_
    exact e_Form_valueOf_34_36 hk
  · refine Ev.s (ins := .iload_n 2) (pc' := 5) rfl rfl ?_
    refine Ev.s (ins := .aload_n 0) (pc' := 6) rfl rfl ?_
    refine gf_34_3 rfl ?_
    refine Ev.s (ins := .iload_n 1) (pc' := 10) rfl rfl ?_
    refine at_41 (oat ma 3 150 v1) rfl (Nat.le_of_ble_eq_true rfl) rfl ?_
    refine q_cge rfl hk (fun c2 hk => ?_) (fun c2 hk => ?_)
    · refine Ev.s (ins := .aload_n 0) (pc' := 17) rfl rfl ?_
      refine gf_34_5 rfl ?_
      refine Ev.s (ins := .aload_n 0) (pc' := 21) rfl rfl ?_
      refine gf_34_4 rfl ?_
      refine Ev.s (ins := .iload_n 1) (pc' := 25) rfl rfl ?_
      refine at_43 (oat ma 4 150 v1) rfl (Nat.le_of_ble_eq_true rfl) rfl ?_
      refine Ev.s (ins := .iload_n 2) (pc' := 29) rfl rfl ?_
      refine Ev.s (ins := .iadd) (pc' := 30) rfl rfl ?_
      refine at_45 (oat ma 5 290 ((oat ma 4 150 v1) + v2)) rfl (Nat.le_of_ble_eq_true rfl) rfl ?_
      refine Ev.goto rfl ?_
      exact Ev.iret rfl rfl hk
    · refine Ev.weak [none, none, none] ⟨rfl, rfl, rfl, trivial⟩ ?_
      exact e_Form_valueOf_34_36 hk
set_option maxRecDepth 100000 in
theorem e_Form_valueOf_34 {v1 : Int32} {v2 : Int32} : Ev mmPT tbX3_valueOf 0 [some (.ref 34), some (.int v1), some (.int v2)] [] (mh sc rest to fl ma tr mk cn nu de ru la tb tf ph cs) ((fun r : Int32 => (some (.int r), mh sc rest to fl ma tr mk cn nu de ru la tb tf ph cs)) (Form_valueOf ma v1 v2)) := e_Form_valueOf_34_0 (by exact rfl)
set_option maxRecDepth 100000 in
theorem e_Form_numberOf_34_36 {x : Option Value × List mmC} (hk : (kO (fun r : Int32 => (some (.int r), mh sc rest to fl ma tr mk cn nu de ru la tb tf ph cs)) x) (Form_numberOf_36 ma)) : Ev mmPT tbX3_numberOf 36 [none, none, none] [] (mh sc rest to fl ma tr mk cn nu de ru la tb tf ph cs) x := by
  unfold Form_numberOf_36 at hk
  refine q_ic 0 rfl rfl ?_
  exact Ev.iret rfl rfl hk
set_option maxRecDepth 100000 in
theorem e_Form_numberOf_34_0 {v1 : Int32} {v2 : Int32} {x : Option Value × List mmC} (hk : (kO (fun r : Int32 => (some (.int r), mh sc rest to fl ma tr mk cn nu de ru la tb tf ph cs)) x) (Form_numberOf ma v1 v2)) : Ev mmPT tbX3_numberOf 0 [some (.ref 34), some (.int v1), some (.int v2)] [] (mh sc rest to fl ma tr mk cn nu de ru la tb tf ph cs) x := by
  unfold Form_numberOf at hk
  refine Ev.s (ins := .iload_n 2) (pc' := 1) rfl rfl ?_
  refine q_lt rfl hk (fun c1 hk => ?_) (fun c1 hk => ?_)
  · refine Ev.weak [none, none, none] ⟨rfl, rfl, rfl, trivial⟩ ?_
    exact e_Form_numberOf_34_36 hk
  · refine Ev.s (ins := .iload_n 2) (pc' := 5) rfl rfl ?_
    refine Ev.s (ins := .aload_n 0) (pc' := 6) rfl rfl ?_
    refine gf_34_3 rfl ?_
    refine Ev.s (ins := .iload_n 1) (pc' := 10) rfl rfl ?_
    refine at_41 (oat ma 3 150 v1) rfl (Nat.le_of_ble_eq_true rfl) rfl ?_
    refine q_cge rfl hk (fun c2 hk => ?_) (fun c2 hk => ?_)
    · refine Ev.s (ins := .aload_n 0) (pc' := 17) rfl rfl ?_
      refine gf_34_6 rfl ?_
      refine Ev.s (ins := .aload_n 0) (pc' := 21) rfl rfl ?_
      refine gf_34_4 rfl ?_
      refine Ev.s (ins := .iload_n 1) (pc' := 25) rfl rfl ?_
      refine at_43 (oat ma 4 150 v1) rfl (Nat.le_of_ble_eq_true rfl) rfl ?_
      refine Ev.s (ins := .iload_n 2) (pc' := 29) rfl rfl ?_
      refine Ev.s (ins := .iadd) (pc' := 30) rfl rfl ?_
      refine at_47 (oat ma 6 290 ((oat ma 4 150 v1) + v2)) rfl (Nat.le_of_ble_eq_true rfl) rfl ?_
      refine Ev.goto rfl ?_
      exact Ev.iret rfl rfl hk
    · refine Ev.weak [none, none, none] ⟨rfl, rfl, rfl, trivial⟩ ?_
      exact e_Form_numberOf_34_36 hk
set_option maxRecDepth 100000 in
theorem e_Form_numberOf_34 {v1 : Int32} {v2 : Int32} : Ev mmPT tbX3_numberOf 0 [some (.ref 34), some (.int v1), some (.int v2)] [] (mh sc rest to fl ma tr mk cn nu de ru la tb tf ph cs) ((fun r : Int32 => (some (.int r), mh sc rest to fl ma tr mk cn nu de ru la tb tf ph cs)) (Form_numberOf ma v1 v2)) := e_Form_numberOf_34_0 (by exact rfl)
set_option maxRecDepth 100000 in
theorem e_Form_hasCrossedArguments_34_111 {x : Option Value × List mmC} (hk : (kO (fun r : Bool => (some (.int (b2i r)), mh sc rest to fl ma tr mk cn nu de ru la tb tf ph cs)) x) (Form_hasCrossedArguments_111 ma)) : Ev mmPT tbX3_hasCrossedArguments 111 [none, none, none, none, none] [] (mh sc rest to fl ma tr mk cn nu de ru la tb tf ph cs) x := by
  unfold Form_hasCrossedArguments_111 at hk
  refine q_ic 0 rfl rfl ?_
  exact Ev.zret rfl rfl (Or.inl rfl) hk
set_option maxRecDepth 100000 in
theorem e_Form_hasCrossedArguments_34_0 {v1 : Int32} {v2 : Int32} {x : Option Value × List mmC} (hk : (kO (fun r : Bool => (some (.int (b2i r)), mh sc rest to fl ma tr mk cn nu de ru la tb tf ph cs)) x) (Form_hasCrossedArguments ma v1 v2)) : Ev mmPT tbX3_hasCrossedArguments 0 [some (.ref 34), some (.int v1), some (.int v2), none, none] [] (mh sc rest to fl ma tr mk cn nu de ru la tb tf ph cs) x := by
  unfold Form_hasCrossedArguments at hk
  refine Ev.s (ins := .aload_n 0) (pc' := 1) rfl rfl ?_
  refine gf_34_4 rfl ?_
  refine Ev.s (ins := .iload_n 1) (pc' := 5) rfl rfl ?_
  refine at_43 (oat ma 4 150 v1) rfl (Nat.le_of_ble_eq_true rfl) rfl ?_
  refine Ev.s (ins := .istore_n 3) (pc' := 9) (lv' := [some (.ref 34), some (.int v1), some (.int v2), some (.int (oat ma 4 150 v1)), none]) rfl rfl ?_
  refine Ev.s (ins := .aload_n 0) (pc' := 10) rfl rfl ?_
  refine gf_34_4 rfl ?_
  refine Ev.s (ins := .iload_n 2) (pc' := 14) rfl rfl ?_
  refine at_43 (oat ma 4 150 v2) rfl (Nat.le_of_ble_eq_true rfl) rfl ?_
  refine Ev.s (ins := .istore 4) (pc' := 19) (lv' := [some (.ref 34), some (.int v1), some (.int v2), some (.int (oat ma 4 150 v1)), some (.int (oat ma 4 150 v2))]) rfl rfl ?_
  refine Ev.s (ins := .aload_n 0) (pc' := 20) rfl rfl ?_
  refine gf_34_5 rfl ?_
  refine Ev.s (ins := .iload_n 3) (pc' := 24) rfl rfl ?_
  refine at_45 (oat ma 5 290 (oat ma 4 150 v1)) rfl (Nat.le_of_ble_eq_true rfl) rfl ?_
  refine Ev.s (ins := .aload_n 0) (pc' := 28) rfl rfl ?_
  refine gf_34_5 rfl ?_
  refine Ev.s (ins := .iload 4) (pc' := 33) rfl rfl ?_
  refine q_ic 1 rfl rfl ?_
  refine Ev.s (ins := .iadd) (pc' := 35) rfl rfl ?_
  refine at_45 (oat ma 5 290 ((oat ma 4 150 v2) + 1)) rfl (Nat.le_of_ble_eq_true rfl) rfl ?_
  refine q_cne rfl hk (fun c1 hk => ?_) (fun c1 hk => ?_)
  · refine Ev.s (ins := .aload_n 0) (pc' := 42) rfl rfl ?_
    refine gf_34_6 rfl ?_
    refine Ev.s (ins := .iload_n 3) (pc' := 46) rfl rfl ?_
    refine at_47 (oat ma 6 290 (oat ma 4 150 v1)) rfl (Nat.le_of_ble_eq_true rfl) rfl ?_
    refine Ev.s (ins := .aload_n 0) (pc' := 50) rfl rfl ?_
    refine gf_34_6 rfl ?_
    refine Ev.s (ins := .iload 4) (pc' := 55) rfl rfl ?_
    refine q_ic 1 rfl rfl ?_
    refine Ev.s (ins := .iadd) (pc' := 57) rfl rfl ?_
    refine at_47 (oat ma 6 290 ((oat ma 4 150 v2) + 1)) rfl (Nat.le_of_ble_eq_true rfl) rfl ?_
    refine q_cne rfl hk (fun c2 hk => ?_) (fun c2 hk => ?_)
    · refine Ev.s (ins := .aload_n 0) (pc' := 64) rfl rfl ?_
      refine gf_34_5 rfl ?_
      refine Ev.s (ins := .iload_n 3) (pc' := 68) rfl rfl ?_
      refine q_ic 1 rfl rfl ?_
      refine Ev.s (ins := .iadd) (pc' := 70) rfl rfl ?_
      refine at_45 (oat ma 5 290 ((oat ma 4 150 v1) + 1)) rfl (Nat.le_of_ble_eq_true rfl) rfl ?_
      refine Ev.s (ins := .aload_n 0) (pc' := 74) rfl rfl ?_
      refine gf_34_5 rfl ?_
      refine Ev.s (ins := .iload 4) (pc' := 79) rfl rfl ?_
      refine at_45 (oat ma 5 290 (oat ma 4 150 v2)) rfl (Nat.le_of_ble_eq_true rfl) rfl ?_
      refine q_cne rfl hk (fun c3 hk => ?_) (fun c3 hk => ?_)
      · refine Ev.s (ins := .aload_n 0) (pc' := 86) rfl rfl ?_
        refine gf_34_6 rfl ?_
        refine Ev.s (ins := .iload_n 3) (pc' := 90) rfl rfl ?_
        refine q_ic 1 rfl rfl ?_
        refine Ev.s (ins := .iadd) (pc' := 92) rfl rfl ?_
        refine at_47 (oat ma 6 290 ((oat ma 4 150 v1) + 1)) rfl (Nat.le_of_ble_eq_true rfl) rfl ?_
        refine Ev.s (ins := .aload_n 0) (pc' := 96) rfl rfl ?_
        refine gf_34_6 rfl ?_
        refine Ev.s (ins := .iload 4) (pc' := 101) rfl rfl ?_
        refine at_47 (oat ma 6 290 (oat ma 4 150 v2)) rfl (Nat.le_of_ble_eq_true rfl) rfl ?_
        refine q_cne rfl hk (fun c4 hk => ?_) (fun c4 hk => ?_)
        · refine q_ic 1 rfl rfl ?_
          refine Ev.goto rfl ?_
          exact Ev.zret rfl rfl (Or.inr rfl) hk
        · refine Ev.weak [none, none, none, none, none] ⟨rfl, rfl, rfl, rfl, rfl, trivial⟩ ?_
          exact e_Form_hasCrossedArguments_34_111 hk
      · refine Ev.weak [none, none, none, none, none] ⟨rfl, rfl, rfl, rfl, rfl, trivial⟩ ?_
        exact e_Form_hasCrossedArguments_34_111 hk
    · refine Ev.weak [none, none, none, none, none] ⟨rfl, rfl, rfl, rfl, rfl, trivial⟩ ?_
      exact e_Form_hasCrossedArguments_34_111 hk
  · refine Ev.weak [none, none, none, none, none] ⟨rfl, rfl, rfl, rfl, rfl, trivial⟩ ?_
    exact e_Form_hasCrossedArguments_34_111 hk
set_option maxRecDepth 100000 in
theorem e_Form_hasCrossedArguments_34 {v1 : Int32} {v2 : Int32} : Ev mmPT tbX3_hasCrossedArguments 0 [some (.ref 34), some (.int v1), some (.int v2), none, none] [] (mh sc rest to fl ma tr mk cn nu de ru la tb tf ph cs) ((fun r : Bool => (some (.int (b2i r)), mh sc rest to fl ma tr mk cn nu de ru la tb tf ph cs)) (Form_hasCrossedArguments ma v1 v2)) := e_Form_hasCrossedArguments_34_0 (by exact rfl)
set_option maxRecDepth 100000 in
theorem e_Numbers_twinOfReckoning_100_34_166 {v11 : Int32} {x : Option Value × List mmC} (hk : (kO (fun r : Int32 => (some (.int r), mh sc rest to fl ma tr mk cn nu de ru la tb tf ph cs)) x) (Numbers_twinOfReckoning_166 ma nu v11)) : Ev mmPT tbX6_twinOfReckoning 166 [none, none, none, none, none, none, none, none, none, none, none, some (.int v11)] [] (mh sc rest to fl ma tr mk cn nu de ru la tb tf ph cs) x := by
  unfold Numbers_twinOfReckoning_166 at hk
  refine Ev.s (ins := .iload 11) (pc' := 168) rfl rfl ?_
  exact Ev.iret rfl rfl hk
set_option maxRecDepth 100000 in
theorem e_Numbers_twinOfReckoning_100_34_169 {v2 : Int32} {v3 : Int32} {v4 : Int32} {v5 : Int32} {v6 : Int32} {v7 : Int32} {v8 : Int32} {v9 : Int32} {v10 : Int32} {x : Option Value × List mmC} (b41 : v7 < 2147483647) (b109 : v10 < 2147483647) (hk : (kK (fun a : Int32 => mu a) (mu v10) (fun a : Int32 => Ev mmPT tbX6_twinOfReckoning 109 [some (.ref 100), some (.ref 34), some (.int v2), some (.int v3), some (.int v4), some (.int v5), some (.int v6), some (.int v7), some (.int v8), some (.int v9), some (.int a), none] [] (mh sc rest to fl ma tr mk cn nu de ru la tb tf ph cs) x) (kK (fun a : Int32 => mu a) (mu v7) (fun a : Int32 => Ev mmPT tbX6_twinOfReckoning 41 [some (.ref 100), some (.ref 34), some (.int v2), some (.int v3), some (.int v4), some (.int v5), some (.int v6), some (.int a), none, none, none, none] [] (mh sc rest to fl ma tr mk cn nu de ru la tb tf ph cs) x) (kO (fun r : Int32 => (some (.int r), mh sc rest to fl ma tr mk cn nu de ru la tb tf ph cs)) x))) (Numbers_twinOfReckoning_169 ma nu v2 v3 v4 v5 v6 v7 v8 v9 v10)) : Ev mmPT tbX6_twinOfReckoning 169 [some (.ref 100), some (.ref 34), some (.int v2), some (.int v3), some (.int v4), some (.int v5), some (.int v6), some (.int v7), some (.int v8), some (.int v9), some (.int v10), none] [] (mh sc rest to fl ma tr mk cn nu de ru la tb tf ph cs) x := by
  unfold Numbers_twinOfReckoning_169 at hk
  refine q_inc 1 [some (.ref 100), some (.ref 34), some (.int v2), some (.int v3), some (.int v4), some (.int v5), some (.int v6), some (.int v7), some (.int v8), some (.int v9), some (.int (v10 + 1)), none] rfl rfl rfl rfl ?_
  refine Ev.goto rfl ?_
  replace hk := kK_l hk
  exact hk (mu_lt b109)
set_option maxRecDepth 100000 in
theorem e_Numbers_twinOfReckoning_100_34_L109b {v2 : Int32} {v3 : Int32} {v4 : Int32} {v5 : Int32} {v6 : Int32} {v7 : Int32} {v8 : Int32} {v9 : Int32} {v10 : Int32} {x : Option Value × List mmC} (b41 : v7 < 2147483647) (hk : (kK (fun a : Int32 => mu a) (mu v10) (fun a : Int32 => Ev mmPT tbX6_twinOfReckoning 109 [some (.ref 100), some (.ref 34), some (.int v2), some (.int v3), some (.int v4), some (.int v5), some (.int v6), some (.int v7), some (.int v8), some (.int v9), some (.int a), none] [] (mh sc rest to fl ma tr mk cn nu de ru la tb tf ph cs) x) (kK (fun a : Int32 => mu a) (mu v7) (fun a : Int32 => Ev mmPT tbX6_twinOfReckoning 41 [some (.ref 100), some (.ref 34), some (.int v2), some (.int v3), some (.int v4), some (.int v5), some (.int v6), some (.int a), none, none, none, none] [] (mh sc rest to fl ma tr mk cn nu de ru la tb tf ph cs) x) (kO (fun r : Int32 => (some (.int r), mh sc rest to fl ma tr mk cn nu de ru la tb tf ph cs)) x))) (Numbers_twinOfReckoning_L109b ma nu v2 v3 v4 v5 v6 v7 v8 v9 v10)) : Ev mmPT tbX6_twinOfReckoning 109 [some (.ref 100), some (.ref 34), some (.int v2), some (.int v3), some (.int v4), some (.int v5), some (.int v6), some (.int v7), some (.int v8), some (.int v9), some (.int v10), none] [] (mh sc rest to fl ma tr mk cn nu de ru la tb tf ph cs) x := by
  unfold Numbers_twinOfReckoning_L109b at hk
  refine Ev.s (ins := .iload 10) (pc' := 111) rfl rfl ?_
  refine Ev.s (ins := .iload 9) (pc' := 113) rfl rfl ?_
  refine q_cge rfl hk (fun c1 hk => ?_) (fun c1 hk => ?_)
  · refine Ev.s (ins := .aload_n 1) (pc' := 117) rfl rfl ?_
    refine Ev.s (ins := .iload 8) (pc' := 119) rfl rfl ?_
    refine Ev.s (ins := .iload 10) (pc' := 121) rfl rfl ?_
    refine kc_X3_valueIn_0 rfl oi_34 rfl (Nat.le_of_ble_eq_true rfl) (e_Form_valueIn_34) ?_
    refine Ev.s (ins := .istore 11) (pc' := 126) (lv' := [some (.ref 100), some (.ref 34), some (.int v2), some (.int v3), some (.int v4), some (.int v5), some (.int v6), some (.int v7), some (.int v8), some (.int v9), some (.int v10), some (.int (Form_valueIn ma v8 v10))]) rfl rfl ?_
    refine Ev.s (ins := .aload_n 1) (pc' := 127) rfl rfl ?_
    refine Ev.s (ins := .iload 11) (pc' := 129) rfl rfl ?_
    refine Ev.s (ins := .iload 5) (pc' := 131) rfl rfl ?_
    refine Ev.s (ins := .iload 8) (pc' := 133) rfl rfl ?_
    refine kc_X6_isStill_2 rfl (Nat.le_of_ble_eq_true rfl) (e_Numbers_isStill_34) ?_
    refine q_beq rfl hk (fun c2 hk => ?_) (fun c2 hk => ?_)
    · refine Ev.s (ins := .aload_n 1) (pc' := 140) rfl rfl ?_
      refine Ev.s (ins := .iload 4) (pc' := 142) rfl rfl ?_
      refine Ev.s (ins := .iload 11) (pc' := 144) rfl rfl ?_
      refine kc_X3_hasSameArguments_0 rfl oi_34 rfl (Nat.le_of_ble_eq_true rfl) (e_Form_hasSameArguments_34) ?_
      refine q_bne rfl hk (fun c3 hk => ?_) (fun c3 hk => ?_)
      · replace hk := kK_r hk
        replace hk := kK_r hk
        refine Ev.weak [none, none, none, none, none, none, none, none, none, none, none, some (.int (Form_valueIn ma v8 v10))] ⟨rfl, rfl, rfl, rfl, rfl, rfl, rfl, rfl, rfl, rfl, rfl, rfl, trivial⟩ ?_
        exact e_Numbers_twinOfReckoning_100_34_166 hk
      · refine Ev.s (ins := .iload 6) (pc' := 152) rfl rfl ?_
        refine q_eq rfl hk (fun c4 hk => ?_) (fun c4 hk => ?_)
        · refine Ev.weak [some (.ref 100), some (.ref 34), some (.int v2), some (.int v3), some (.int v4), some (.int v5), some (.int v6), some (.int v7), some (.int v8), some (.int v9), some (.int v10), none] ⟨rfl, rfl, rfl, rfl, rfl, rfl, rfl, rfl, rfl, rfl, rfl, rfl, trivial⟩ ?_
          exact e_Numbers_twinOfReckoning_100_34_169 b41 (lt31 c1) hk
        · refine Ev.s (ins := .aload_n 1) (pc' := 156) rfl rfl ?_
          refine Ev.s (ins := .iload 4) (pc' := 158) rfl rfl ?_
          refine Ev.s (ins := .iload 11) (pc' := 160) rfl rfl ?_
          refine kc_X3_hasCrossedArguments_0 rfl oi_34 rfl (Nat.le_of_ble_eq_true rfl) (e_Form_hasCrossedArguments_34) ?_
          refine q_beq rfl hk (fun c5 hk => ?_) (fun c5 hk => ?_)
          · replace hk := kK_r hk
            replace hk := kK_r hk
            refine Ev.weak [none, none, none, none, none, none, none, none, none, none, none, some (.int (Form_valueIn ma v8 v10))] ⟨rfl, rfl, rfl, rfl, rfl, rfl, rfl, rfl, rfl, rfl, rfl, rfl, trivial⟩ ?_
            exact e_Numbers_twinOfReckoning_100_34_166 hk
          · refine Ev.weak [some (.ref 100), some (.ref 34), some (.int v2), some (.int v3), some (.int v4), some (.int v5), some (.int v6), some (.int v7), some (.int v8), some (.int v9), some (.int v10), none] ⟨rfl, rfl, rfl, rfl, rfl, rfl, rfl, rfl, rfl, rfl, rfl, rfl, trivial⟩ ?_
            exact e_Numbers_twinOfReckoning_100_34_169 b41 (lt31 c1) hk
    · refine Ev.weak [some (.ref 100), some (.ref 34), some (.int v2), some (.int v3), some (.int v4), some (.int v5), some (.int v6), some (.int v7), some (.int v8), some (.int v9), some (.int v10), none] ⟨rfl, rfl, rfl, rfl, rfl, rfl, rfl, rfl, rfl, rfl, rfl, rfl, trivial⟩ ?_
      exact e_Numbers_twinOfReckoning_100_34_169 b41 (lt31 c1) hk
  · replace hk := kK_r hk
    refine q_inc 1 [some (.ref 100), some (.ref 34), some (.int v2), some (.int v3), some (.int v4), some (.int v5), some (.int v6), some (.int (v7 + 1)), some (.int v8), some (.int v9), some (.int v10), none] rfl rfl rfl rfl ?_
    refine Ev.goto rfl ?_
    refine Ev.weak [some (.ref 100), some (.ref 34), some (.int v2), some (.int v3), some (.int v4), some (.int v5), some (.int v6), some (.int (v7 + 1)), none, none, none, none] ⟨rfl, rfl, rfl, rfl, rfl, rfl, rfl, rfl, rfl, rfl, rfl, rfl, trivial⟩ ?_
    replace hk := kK_l hk
    exact hk (mu_lt b41)
set_option maxRecDepth 100000 in
theorem e_Numbers_twinOfReckoning_100_34_L109 {v2 : Int32} {v3 : Int32} {v4 : Int32} {v5 : Int32} {v6 : Int32} {v7 : Int32} {v8 : Int32} {v9 : Int32} {v10 : Int32} {x : Option Value × List mmC} (b41 : v7 < 2147483647) (hk : (kK (fun a : Int32 => mu a) (mu v7) (fun a : Int32 => Ev mmPT tbX6_twinOfReckoning 41 [some (.ref 100), some (.ref 34), some (.int v2), some (.int v3), some (.int v4), some (.int v5), some (.int v6), some (.int a), none, none, none, none] [] (mh sc rest to fl ma tr mk cn nu de ru la tb tf ph cs) x) (kO (fun r : Int32 => (some (.int r), mh sc rest to fl ma tr mk cn nu de ru la tb tf ph cs)) x)) (Numbers_twinOfReckoning_L109 ma nu v2 v3 v4 v5 v6 v7 v8 v9 v10)) : Ev mmPT tbX6_twinOfReckoning 109 [some (.ref 100), some (.ref 34), some (.int v2), some (.int v3), some (.int v4), some (.int v5), some (.int v6), some (.int v7), some (.int v8), some (.int v9), some (.int v10), none] [] (mh sc rest to fl ma tr mk cn nu de ru la tb tf ph cs) x :=
  k_loop (B := (fun a : Int32 => Numbers_twinOfReckoning_L109b ma nu v2 v3 v4 v5 v6 v7 v8 v9 a)) (μ := fun a : Int32 => mu a) (E := fun a : Int32 => Ev mmPT tbX6_twinOfReckoning 109 [some (.ref 100), some (.ref 34), some (.int v2), some (.int v3), some (.int v4), some (.int v5), some (.int v6), some (.int v7), some (.int v8), some (.int v9), some (.int a), none] [] (mh sc rest to fl ma tr mk cn nu de ru la tb tf ph cs) x) (X := (kK (fun a : Int32 => mu a) (mu v7) (fun a : Int32 => Ev mmPT tbX6_twinOfReckoning 41 [some (.ref 100), some (.ref 34), some (.int v2), some (.int v3), some (.int v4), some (.int v5), some (.int v6), some (.int a), none, none, none, none] [] (mh sc rest to fl ma tr mk cn nu de ru la tb tf ph cs) x) (kO (fun r : Int32 => (some (.int r), mh sc rest to fl ma tr mk cn nu de ru la tb tf ph cs)) x))) (fun a hk => e_Numbers_twinOfReckoning_100_34_L109b b41 hk) v10 hk
set_option maxRecDepth 100000 in
theorem e_Numbers_twinOfReckoning_100_34_104 {v2 : Int32} {v3 : Int32} {v4 : Int32} {v5 : Int32} {v6 : Int32} {v7 : Int32} {v8 : Int32} {w0 : Int32} {x : Option Value × List mmC} (b41 : v7 < 2147483647) (hk : (kK (fun a : Int32 => mu a) (mu v7) (fun a : Int32 => Ev mmPT tbX6_twinOfReckoning 41 [some (.ref 100), some (.ref 34), some (.int v2), some (.int v3), some (.int v4), some (.int v5), some (.int v6), some (.int a), none, none, none, none] [] (mh sc rest to fl ma tr mk cn nu de ru la tb tf ph cs) x) (kO (fun r : Int32 => (some (.int r), mh sc rest to fl ma tr mk cn nu de ru la tb tf ph cs)) x)) (Numbers_twinOfReckoning_104 ma nu v2 v3 v4 v5 v6 v7 v8 w0)) : Ev mmPT tbX6_twinOfReckoning 104 [some (.ref 100), some (.ref 34), some (.int v2), some (.int v3), some (.int v4), some (.int v5), some (.int v6), some (.int v7), some (.int v8), none, none, none] [.int w0] (mh sc rest to fl ma tr mk cn nu de ru la tb tf ph cs) x := by
  unfold Numbers_twinOfReckoning_104 at hk
  refine Ev.s (ins := .istore 9) (pc' := 106) (lv' := [some (.ref 100), some (.ref 34), some (.int v2), some (.int v3), some (.int v4), some (.int v5), some (.int v6), some (.int v7), some (.int v8), some (.int w0), none, none]) rfl rfl ?_
  refine q_ic 0 rfl rfl ?_
  refine Ev.s (ins := .istore 10) (pc' := 109) (lv' := [some (.ref 100), some (.ref 34), some (.int v2), some (.int v3), some (.int v4), some (.int v5), some (.int v6), some (.int v7), some (.int v8), some (.int w0), some (.int 0), none]) rfl rfl ?_
  exact e_Numbers_twinOfReckoning_100_34_L109 b41 hk
set_option maxRecDepth 100000 in
theorem e_Numbers_twinOfReckoning_100_34_L41b {v2 : Int32} {v3 : Int32} {v4 : Int32} {v5 : Int32} {v6 : Int32} {v7 : Int32} {x : Option Value × List mmC} (hk : (kK (fun a : Int32 => mu a) (mu v7) (fun a : Int32 => Ev mmPT tbX6_twinOfReckoning 41 [some (.ref 100), some (.ref 34), some (.int v2), some (.int v3), some (.int v4), some (.int v5), some (.int v6), some (.int a), none, none, none, none] [] (mh sc rest to fl ma tr mk cn nu de ru la tb tf ph cs) x) (kO (fun r : Int32 => (some (.int r), mh sc rest to fl ma tr mk cn nu de ru la tb tf ph cs)) x)) (Numbers_twinOfReckoning_L41b ma nu v2 v3 v4 v5 v6 v7)) : Ev mmPT tbX6_twinOfReckoning 41 [some (.ref 100), some (.ref 34), some (.int v2), some (.int v3), some (.int v4), some (.int v5), some (.int v6), some (.int v7), none, none, none, none] [] (mh sc rest to fl ma tr mk cn nu de ru la tb tf ph cs) x := by
  unfold Numbers_twinOfReckoning_L41b at hk
  refine Ev.s (ins := .iload 7) (pc' := 43) rfl rfl ?_
  refine q_bi 10 rfl rfl ?_
  refine q_cge rfl hk (fun c1 hk => ?_) (fun c1 hk => ?_)
  · refine Ev.s (ins := .aload_n 0) (pc' := 49) rfl rfl ?_
    refine gf_100_0 rfl ?_
    refine gf_101_3 rfl ?_
    refine Ev.s (ins := .iload 7) (pc' := 57) rfl rfl ?_
    refine at_108 (oat nu 3 10 v7) rfl (Nat.le_of_ble_eq_true rfl) rfl ?_
    refine Ev.s (ins := .istore 8) (pc' := 62) (lv' := [some (.ref 100), some (.ref 34), some (.int v2), some (.int v3), some (.int v4), some (.int v5), some (.int v6), some (.int v7), some (.int (oat nu 3 10 v7)), none, none, none]) rfl rfl ?_
    refine Ev.s (ins := .aload_n 0) (pc' := 63) rfl rfl ?_
    refine gf_100_0 rfl ?_
    refine gf_101_2 rfl ?_
    refine Ev.s (ins := .iload_n 2) (pc' := 70) rfl rfl ?_
    refine at_106 (oat nu 2 10 v2) rfl (Nat.le_of_ble_eq_true rfl) rfl ?_
    refine Ev.s (ins := .iload 8) (pc' := 75) rfl rfl ?_
    refine kc_X11_has_3 rfl (Nat.le_of_ble_eq_true rfl) (e_Ph_has) ?_
    refine q_bne rfl hk (fun c2 hk => ?_) (fun c2 hk => ?_)
    · refine Ev.s (ins := .iload 8) (pc' := 87) rfl rfl ?_
      refine Ev.s (ins := .iload_n 2) (pc' := 88) rfl rfl ?_
      refine q_cne rfl hk (fun c3 hk => ?_) (fun c3 hk => ?_)
      · refine Ev.s (ins := .iload_n 3) (pc' := 92) rfl rfl ?_
        refine Ev.goto rfl ?_
        exact e_Numbers_twinOfReckoning_100_34_104 (lt31 c1) hk
      · refine Ev.s (ins := .aload_n 1) (pc' := 96) rfl rfl ?_
        refine gf_34_7 rfl ?_
        refine Ev.s (ins := .iload 8) (pc' := 101) rfl rfl ?_
        refine at_49 (oat ma 7 10 (oat nu 3 10 v7)) rfl (Nat.le_of_ble_eq_true rfl) rfl ?_
        exact e_Numbers_twinOfReckoning_100_34_104 (lt31 c1) hk
    · refine q_ic 0 rfl rfl ?_
      refine Ev.goto rfl ?_
      exact e_Numbers_twinOfReckoning_100_34_104 (lt31 c1) hk
  · replace hk := kK_r hk
    refine q_ic (-1) rfl rfl ?_
    exact Ev.iret rfl rfl hk
set_option maxRecDepth 100000 in
theorem e_Numbers_twinOfReckoning_100_34_L41 {v2 : Int32} {v3 : Int32} {v4 : Int32} {v5 : Int32} {v6 : Int32} {v7 : Int32} {x : Option Value × List mmC} (hk : (kO (fun r : Int32 => (some (.int r), mh sc rest to fl ma tr mk cn nu de ru la tb tf ph cs)) x) (Numbers_twinOfReckoning_L41 ma nu v2 v3 v4 v5 v6 v7)) : Ev mmPT tbX6_twinOfReckoning 41 [some (.ref 100), some (.ref 34), some (.int v2), some (.int v3), some (.int v4), some (.int v5), some (.int v6), some (.int v7), none, none, none, none] [] (mh sc rest to fl ma tr mk cn nu de ru la tb tf ph cs) x :=
  k_loop (B := (fun a : Int32 => Numbers_twinOfReckoning_L41b ma nu v2 v3 v4 v5 v6 a)) (μ := fun a : Int32 => mu a) (E := fun a : Int32 => Ev mmPT tbX6_twinOfReckoning 41 [some (.ref 100), some (.ref 34), some (.int v2), some (.int v3), some (.int v4), some (.int v5), some (.int v6), some (.int a), none, none, none, none] [] (mh sc rest to fl ma tr mk cn nu de ru la tb tf ph cs) x) (X := (kO (fun r : Int32 => (some (.int r), mh sc rest to fl ma tr mk cn nu de ru la tb tf ph cs)) x)) (fun a hk => e_Numbers_twinOfReckoning_100_34_L41b hk) v7 hk
set_option maxRecDepth 100000 in
theorem e_Numbers_twinOfReckoning_100_34_36 {v2 : Int32} {v3 : Int32} {v4 : Int32} {v5 : Int32} {w0 : Int32} {x : Option Value × List mmC} (hk : (kO (fun r : Int32 => (some (.int r), mh sc rest to fl ma tr mk cn nu de ru la tb tf ph cs)) x) (Numbers_twinOfReckoning_36 ma nu v2 v3 v4 v5 w0)) : Ev mmPT tbX6_twinOfReckoning 36 [some (.ref 100), some (.ref 34), some (.int v2), some (.int v3), some (.int v4), some (.int v5), none, none, none, none, none, none] [.int w0] (mh sc rest to fl ma tr mk cn nu de ru la tb tf ph cs) x := by
  unfold Numbers_twinOfReckoning_36 at hk
  refine Ev.s (ins := .istore 6) (pc' := 38) (lv' := [some (.ref 100), some (.ref 34), some (.int v2), some (.int v3), some (.int v4), some (.int v5), some (.int w0), none, none, none, none, none]) rfl rfl ?_
  refine q_ic 0 rfl rfl ?_
  refine Ev.s (ins := .istore 7) (pc' := 41) (lv' := [some (.ref 100), some (.ref 34), some (.int v2), some (.int v3), some (.int v4), some (.int v5), some (.int w0), some (.int 0), none, none, none, none]) rfl rfl ?_
  exact e_Numbers_twinOfReckoning_100_34_L41 hk
set_option maxRecDepth 100000 in
theorem e_Numbers_twinOfReckoning_100_34_31 {v2 : Int32} {v3 : Int32} {v4 : Int32} {v5 : Int32} {x : Option Value × List mmC} (hk : (kO (fun r : Int32 => (some (.int r), mh sc rest to fl ma tr mk cn nu de ru la tb tf ph cs)) x) (Numbers_twinOfReckoning_31 ma nu v2 v3 v4 v5)) : Ev mmPT tbX6_twinOfReckoning 31 [some (.ref 100), some (.ref 34), some (.int v2), some (.int v3), some (.int v4), some (.int v5), none, none, none, none, none, none] [] (mh sc rest to fl ma tr mk cn nu de ru la tb tf ph cs) x := by
  unfold Numbers_twinOfReckoning_31 at hk
  refine q_ic 1 rfl rfl ?_
  refine Ev.goto rfl ?_
  exact e_Numbers_twinOfReckoning_100_34_36 hk
set_option maxRecDepth 100000 in
theorem e_Numbers_twinOfReckoning_100_34_0 {v2 : Int32} {v3 : Int32} {x : Option Value × List mmC} (hk : (kO (fun r : Int32 => (some (.int r), mh sc rest to fl ma tr mk cn nu de ru la tb tf ph cs)) x) (Numbers_twinOfReckoning ma nu v2 v3)) : Ev mmPT tbX6_twinOfReckoning 0 [some (.ref 100), some (.ref 34), some (.int v2), some (.int v3), none, none, none, none, none, none, none, none] [] (mh sc rest to fl ma tr mk cn nu de ru la tb tf ph cs) x := by
  unfold Numbers_twinOfReckoning at hk
  refine Ev.s (ins := .aload_n 1) (pc' := 1) rfl rfl ?_
  refine Ev.s (ins := .iload_n 2) (pc' := 2) rfl rfl ?_
  refine Ev.s (ins := .iload_n 3) (pc' := 3) rfl rfl ?_
  refine kc_X3_valueIn_0 rfl oi_34 rfl (Nat.le_of_ble_eq_true rfl) (e_Form_valueIn_34) ?_
  refine Ev.s (ins := .istore 4) (pc' := 8) (lv' := [some (.ref 100), some (.ref 34), some (.int v2), some (.int v3), some (.int (Form_valueIn ma v2 v3)), none, none, none, none, none, none, none]) rfl rfl ?_
  refine Ev.s (ins := .aload_n 1) (pc' := 9) rfl rfl ?_
  refine gf_34_0 rfl ?_
  refine Ev.s (ins := .iload 4) (pc' := 14) rfl rfl ?_
  refine at_35 (oat ma 0 140 (Form_valueIn ma v2 v3)) rfl (Nat.le_of_ble_eq_true rfl) rfl ?_
  refine Ev.s (ins := .istore 5) (pc' := 19) (lv' := [some (.ref 100), some (.ref 34), some (.int v2), some (.int v3), some (.int (Form_valueIn ma v2 v3)), some (.int (oat ma 0 140 (Form_valueIn ma v2 v3))), none, none, none, none, none, none]) rfl rfl ?_
  refine Ev.s (ins := .iload 5) (pc' := 21) rfl rfl ?_
  refine q_ic 1 rfl rfl ?_
  refine q_ceq rfl hk (fun c1 hk => ?_) (fun c1 hk => ?_)
  · exact e_Numbers_twinOfReckoning_100_34_31 hk
  · refine Ev.s (ins := .iload 5) (pc' := 27) rfl rfl ?_
    refine q_ic 3 rfl rfl ?_
    refine q_cne rfl hk (fun c2 hk => ?_) (fun c2 hk => ?_)
    · exact e_Numbers_twinOfReckoning_100_34_31 hk
    · refine q_ic 0 rfl rfl ?_
      exact e_Numbers_twinOfReckoning_100_34_36 hk
set_option maxRecDepth 100000 in
theorem e_Numbers_twinOfReckoning_100_34 {v2 : Int32} {v3 : Int32} : Ev mmPT tbX6_twinOfReckoning 0 [some (.ref 100), some (.ref 34), some (.int v2), some (.int v3), none, none, none, none, none, none, none, none] [] (mh sc rest to fl ma tr mk cn nu de ru la tb tf ph cs) ((fun r : Int32 => (some (.int r), mh sc rest to fl ma tr mk cn nu de ru la tb tf ph cs)) (Numbers_twinOfReckoning ma nu v2 v3)) := e_Numbers_twinOfReckoning_100_34_0 (by exact rfl)
set_option maxRecDepth 100000 in
theorem e_Numbers_visit_100_34_142 {v2 : Int32} {v3 : Int32} {x : Option Value × List mmC} (b2 : v3 < 2147483647) (hk : (kK (fun a : Int32 × Ob => mu a.1) (mu v3) (fun a : Int32 × Ob => Ev mmPT tbX6_visit 2 [some (.ref 100), some (.ref 34), some (.int v2), some (.int a.1), none, none, none, none] [] (mh sc rest to fl a.2 tr mk cn nu de ru la tb tf ph cs) x) (kO (fun r : Ob => (none, mh sc rest to fl r tr mk cn nu de ru la tb tf ph cs)) x)) (Numbers_visit_142 ma nu v2 v3)) : Ev mmPT tbX6_visit 142 [some (.ref 100), some (.ref 34), some (.int v2), some (.int v3), none, none, none, none] [] (mh sc rest to fl ma tr mk cn nu de ru la tb tf ph cs) x := by
  unfold Numbers_visit_142 at hk
  refine q_inc 1 [some (.ref 100), some (.ref 34), some (.int v2), some (.int (v3 + 1)), none, none, none, none] rfl rfl rfl rfl ?_
  refine Ev.goto rfl ?_
  replace hk := kK_l hk
  exact hk (mu_lt b2)
set_option maxRecDepth 100000 in
theorem e_Numbers_visit_100_34_96 {v2 : Int32} {v3 : Int32} {v4 : Int32} {v6 : Int32} {v7 : Int32} {x : Option Value × List mmC} (b2 : v3 < 2147483647) (hk : (kK (fun a : Int32 × Ob => mu a.1) (mu v3) (fun a : Int32 × Ob => Ev mmPT tbX6_visit 2 [some (.ref 100), some (.ref 34), some (.int v2), some (.int a.1), none, none, none, none] [] (mh sc rest to fl a.2 tr mk cn nu de ru la tb tf ph cs) x) (kO (fun r : Ob => (none, mh sc rest to fl r tr mk cn nu de ru la tb tf ph cs)) x)) (Numbers_visit_96 ma nu v2 v3 v4 v6 v7)) : Ev mmPT tbX6_visit 96 [some (.ref 100), some (.ref 34), some (.int v2), some (.int v3), some (.int v4), none, some (.int v6), some (.int v7)] [] (mh sc rest to fl ma tr mk cn nu de ru la tb tf ph cs) x := by
  unfold Numbers_visit_96 at hk
  refine Ev.s (ins := .iload 6) (pc' := 98) rfl rfl ?_
  refine q_ic (-1) rfl rfl ?_
  refine q_ceq rfl hk (fun c1 hk => ?_) (fun c1 hk => ?_)
  · refine Ev.s (ins := .iload 7) (pc' := 129) rfl rfl ?_
    refine q_ic (-1) rfl rfl ?_
    refine q_ceq rfl hk (fun c2 hk => ?_) (fun c2 hk => ?_)
    · refine Ev.weak [some (.ref 100), some (.ref 34), some (.int v2), some (.int v3), none, none, none, none] ⟨rfl, rfl, rfl, rfl, rfl, rfl, rfl, rfl, trivial⟩ ?_
      exact e_Numbers_visit_100_34_142 b2 hk
    · refine Ev.s (ins := .aload_n 1) (pc' := 134) rfl rfl ?_
      refine Ev.s (ins := .iload 4) (pc' := 136) rfl rfl ?_
      refine Ev.s (ins := .iload 7) (pc' := 138) rfl rfl ?_
      refine q_ic 0 rfl rfl ?_
      refine kc_X3_replace_0 rfl oi_34 rfl (Nat.le_of_ble_eq_true rfl) (e_Form_replace_34) ?_
      refine Ev.weak [some (.ref 100), some (.ref 34), some (.int v2), some (.int v3), none, none, none, none] ⟨rfl, rfl, rfl, rfl, rfl, rfl, rfl, rfl, trivial⟩ ?_
      exact e_Numbers_visit_100_34_142 b2 hk
  · refine Ev.s (ins := .aload_n 1) (pc' := 103) rfl rfl ?_
    refine Ev.s (ins := .iload 4) (pc' := 105) rfl rfl ?_
    refine Ev.s (ins := .aload_n 1) (pc' := 106) rfl rfl ?_
    refine Ev.s (ins := .iload 4) (pc' := 108) rfl rfl ?_
    refine Ev.s (ins := .iload 6) (pc' := 110) rfl rfl ?_
    refine kc_X3_valueOf_0 rfl oi_34 rfl (Nat.le_of_ble_eq_true rfl) (e_Form_valueOf_34) ?_
    refine Ev.s (ins := .aload_n 1) (pc' := 114) rfl rfl ?_
    refine Ev.s (ins := .iload 4) (pc' := 116) rfl rfl ?_
    refine Ev.s (ins := .iload 6) (pc' := 118) rfl rfl ?_
    refine kc_X3_numberOf_0 rfl oi_34 rfl (Nat.le_of_ble_eq_true rfl) (e_Form_numberOf_34) ?_
    refine kc_X3_replace_0 rfl oi_34 rfl (Nat.le_of_ble_eq_true rfl) (e_Form_replace_34) ?_
    refine Ev.goto rfl ?_
    refine Ev.weak [some (.ref 100), some (.ref 34), some (.int v2), some (.int v3), none, none, none, none] ⟨rfl, rfl, rfl, rfl, rfl, rfl, rfl, rfl, trivial⟩ ?_
    exact e_Numbers_visit_100_34_142 b2 hk
set_option maxRecDepth 100000 in
theorem e_Numbers_visit_100_34_79 {v2 : Int32} {v3 : Int32} {v4 : Int32} {v5 : Int32} {v6 : Int32} {v7 : Int32} {x : Option Value × List mmC} (b2 : v3 < 2147483647) (hk : (kK (fun a : Int32 × Ob => mu a.1) (mu v3) (fun a : Int32 × Ob => Ev mmPT tbX6_visit 2 [some (.ref 100), some (.ref 34), some (.int v2), some (.int a.1), none, none, none, none] [] (mh sc rest to fl a.2 tr mk cn nu de ru la tb tf ph cs) x) (kO (fun r : Ob => (none, mh sc rest to fl r tr mk cn nu de ru la tb tf ph cs)) x)) (Numbers_visit_79 ma nu v2 v3 v4 v5 v6 v7)) : Ev mmPT tbX6_visit 79 [some (.ref 100), some (.ref 34), some (.int v2), some (.int v3), some (.int v4), some (.int v5), some (.int v6), some (.int v7)] [] (mh sc rest to fl ma tr mk cn nu de ru la tb tf ph cs) x := by
  unfold Numbers_visit_79 at hk
  refine Ev.s (ins := .iload 5) (pc' := 81) rfl rfl ?_
  refine kc_X11_isReckoning_3 rfl (Nat.le_of_ble_eq_true rfl) (e_Ph_isReckoning) ?_
  refine q_beq rfl hk (fun c1 hk => ?_) (fun c1 hk => ?_)
  · refine Ev.s (ins := .aload_n 0) (pc' := 88) rfl rfl ?_
    refine Ev.s (ins := .aload_n 1) (pc' := 89) rfl rfl ?_
    refine Ev.s (ins := .iload_n 2) (pc' := 90) rfl rfl ?_
    refine Ev.s (ins := .iload_n 3) (pc' := 91) rfl rfl ?_
    refine kc_X6_twinOfReckoning_0 rfl oi_100 rfl (Nat.le_of_ble_eq_true rfl) (e_Numbers_twinOfReckoning_100_34) ?_
    refine Ev.s (ins := .istore 7) (pc' := 96) (lv' := [some (.ref 100), some (.ref 34), some (.int v2), some (.int v3), some (.int v4), some (.int v5), some (.int v6), some (.int (Numbers_twinOfReckoning ma nu v2 v3))]) rfl rfl ?_
    refine Ev.weak [some (.ref 100), some (.ref 34), some (.int v2), some (.int v3), some (.int v4), none, some (.int v6), some (.int (Numbers_twinOfReckoning ma nu v2 v3))] ⟨rfl, rfl, rfl, rfl, rfl, rfl, rfl, rfl, trivial⟩ ?_
    exact e_Numbers_visit_100_34_96 b2 hk
  · refine Ev.weak [some (.ref 100), some (.ref 34), some (.int v2), some (.int v3), some (.int v4), none, some (.int v6), some (.int v7)] ⟨rfl, rfl, rfl, rfl, rfl, rfl, rfl, rfl, trivial⟩ ?_
    exact e_Numbers_visit_100_34_96 b2 hk
set_option maxRecDepth 100000 in
theorem e_Numbers_visit_100_34_50 {v2 : Int32} {v3 : Int32} {v4 : Int32} {v5 : Int32} {w0 : Int32} {x : Option Value × List mmC} (b2 : v3 < 2147483647) (hk : (kK (fun a : Int32 × Ob => mu a.1) (mu v3) (fun a : Int32 × Ob => Ev mmPT tbX6_visit 2 [some (.ref 100), some (.ref 34), some (.int v2), some (.int a.1), none, none, none, none] [] (mh sc rest to fl a.2 tr mk cn nu de ru la tb tf ph cs) x) (kO (fun r : Ob => (none, mh sc rest to fl r tr mk cn nu de ru la tb tf ph cs)) x)) (Numbers_visit_50 ma nu v2 v3 v4 v5 w0)) : Ev mmPT tbX6_visit 50 [some (.ref 100), some (.ref 34), some (.int v2), some (.int v3), some (.int v4), some (.int v5), none, none] [.int w0] (mh sc rest to fl ma tr mk cn nu de ru la tb tf ph cs) x := by
  unfold Numbers_visit_50 at hk
  refine Ev.s (ins := .istore 6) (pc' := 52) (lv' := [some (.ref 100), some (.ref 34), some (.int v2), some (.int v3), some (.int v4), some (.int v5), some (.int w0), none]) rfl rfl ?_
  refine q_ic (-1) rfl rfl ?_
  refine Ev.s (ins := .istore 7) (pc' := 55) (lv' := [some (.ref 100), some (.ref 34), some (.int v2), some (.int v3), some (.int v4), some (.int v5), some (.int w0), some (.int (-1))]) rfl rfl ?_
  refine Ev.s (ins := .iload 5) (pc' := 57) rfl rfl ?_
  refine q_bi 9 rfl rfl ?_
  refine q_cne rfl hk (fun c1 hk => ?_) (fun c1 hk => ?_)
  · refine Ev.s (ins := .iload 6) (pc' := 64) rfl rfl ?_
    refine q_ic (-1) rfl rfl ?_
    refine q_cne rfl hk (fun c2 hk => ?_) (fun c2 hk => ?_)
    · refine Ev.s (ins := .aload_n 1) (pc' := 69) rfl rfl ?_
      refine Ev.s (ins := .iload_n 2) (pc' := 70) rfl rfl ?_
      refine Ev.s (ins := .iload_n 3) (pc' := 71) rfl rfl ?_
      refine kc_X6_twinOfPhi_2 rfl (Nat.le_of_ble_eq_true rfl) (e_Numbers_twinOfPhi_34) ?_
      refine Ev.s (ins := .istore 7) (pc' := 76) (lv' := [some (.ref 100), some (.ref 34), some (.int v2), some (.int v3), some (.int v4), some (.int v5), some (.int w0), some (.int (Numbers_twinOfPhi ma v2 v3))]) rfl rfl ?_
      refine Ev.goto rfl ?_
      refine Ev.weak [some (.ref 100), some (.ref 34), some (.int v2), some (.int v3), some (.int v4), none, some (.int w0), some (.int (Numbers_twinOfPhi ma v2 v3))] ⟨rfl, rfl, rfl, rfl, rfl, rfl, rfl, rfl, trivial⟩ ?_
      exact e_Numbers_visit_100_34_96 b2 hk
    · exact e_Numbers_visit_100_34_79 b2 hk
  · exact e_Numbers_visit_100_34_79 b2 hk
set_option maxRecDepth 100000 in
theorem e_Numbers_visit_100_34_L2b {v2 : Int32} {v3 : Int32} {x : Option Value × List mmC} (hk : (kK (fun a : Int32 × Ob => mu a.1) (mu v3) (fun a : Int32 × Ob => Ev mmPT tbX6_visit 2 [some (.ref 100), some (.ref 34), some (.int v2), some (.int a.1), none, none, none, none] [] (mh sc rest to fl a.2 tr mk cn nu de ru la tb tf ph cs) x) (kO (fun r : Ob => (none, mh sc rest to fl r tr mk cn nu de ru la tb tf ph cs)) x)) (Numbers_visit_L2b ma nu v2 v3)) : Ev mmPT tbX6_visit 2 [some (.ref 100), some (.ref 34), some (.int v2), some (.int v3), none, none, none, none] [] (mh sc rest to fl ma tr mk cn nu de ru la tb tf ph cs) x := by
  unfold Numbers_visit_L2b at hk
  refine Ev.s (ins := .iload_n 3) (pc' := 3) rfl rfl ?_
  refine Ev.s (ins := .aload_n 1) (pc' := 4) rfl rfl ?_
  refine gf_34_7 rfl ?_
  refine Ev.s (ins := .iload_n 2) (pc' := 8) rfl rfl ?_
  refine at_49 (oat ma 7 10 v2) rfl (Nat.le_of_ble_eq_true rfl) rfl ?_
  refine q_cge rfl hk (fun c1 hk => ?_) (fun c1 hk => ?_)
  · refine Ev.s (ins := .aload_n 1) (pc' := 15) rfl rfl ?_
    refine Ev.s (ins := .iload_n 2) (pc' := 16) rfl rfl ?_
    refine Ev.s (ins := .iload_n 3) (pc' := 17) rfl rfl ?_
    refine kc_X3_valueIn_0 rfl oi_34 rfl (Nat.le_of_ble_eq_true rfl) (e_Form_valueIn_34) ?_
    refine Ev.s (ins := .istore 4) (pc' := 22) (lv' := [some (.ref 100), some (.ref 34), some (.int v2), some (.int v3), some (.int (Form_valueIn ma v2 v3)), none, none, none]) rfl rfl ?_
    refine Ev.s (ins := .aload_n 1) (pc' := 23) rfl rfl ?_
    refine gf_34_0 rfl ?_
    refine Ev.s (ins := .iload 4) (pc' := 28) rfl rfl ?_
    refine at_35 (oat ma 0 140 (Form_valueIn ma v2 v3)) rfl (Nat.le_of_ble_eq_true rfl) rfl ?_
    refine Ev.s (ins := .istore 5) (pc' := 33) (lv' := [some (.ref 100), some (.ref 34), some (.int v2), some (.int v3), some (.int (Form_valueIn ma v2 v3)), some (.int (oat ma 0 140 (Form_valueIn ma v2 v3))), none, none]) rfl rfl ?_
    refine Ev.s (ins := .iload 5) (pc' := 35) rfl rfl ?_
    refine q_bi 9 rfl rfl ?_
    refine q_cne rfl hk (fun c2 hk => ?_) (fun c2 hk => ?_)
    · refine Ev.s (ins := .aload_n 1) (pc' := 41) rfl rfl ?_
      refine Ev.s (ins := .iload 4) (pc' := 43) rfl rfl ?_
      refine kc_X3_soleArgument_0 rfl oi_34 rfl (Nat.le_of_ble_eq_true rfl) (e_Form_soleArgument_34) ?_
      refine Ev.goto rfl ?_
      exact e_Numbers_visit_100_34_50 (lt31 c1) hk
    · refine q_ic (-1) rfl rfl ?_
      exact e_Numbers_visit_100_34_50 (lt31 c1) hk
  · replace hk := kK_r hk
    exact Ev.vret rfl rfl hk
set_option maxRecDepth 100000 in
theorem e_Numbers_visit_100_34_L2 {v2 : Int32} {v3 : Int32} {x : Option Value × List mmC} (hk : (kO (fun r : Ob => (none, mh sc rest to fl r tr mk cn nu de ru la tb tf ph cs)) x) (Numbers_visit_L2 ma nu v2 v3)) : Ev mmPT tbX6_visit 2 [some (.ref 100), some (.ref 34), some (.int v2), some (.int v3), none, none, none, none] [] (mh sc rest to fl ma tr mk cn nu de ru la tb tf ph cs) x :=
  k_loop (B := (fun a : Int32 × Ob => Numbers_visit_L2b a.2 nu v2 a.1)) (μ := fun a : Int32 × Ob => mu a.1) (E := fun a : Int32 × Ob => Ev mmPT tbX6_visit 2 [some (.ref 100), some (.ref 34), some (.int v2), some (.int a.1), none, none, none, none] [] (mh sc rest to fl a.2 tr mk cn nu de ru la tb tf ph cs) x) (X := (kO (fun r : Ob => (none, mh sc rest to fl r tr mk cn nu de ru la tb tf ph cs)) x)) (fun a hk => e_Numbers_visit_100_34_L2b hk) (v3, ma) hk
set_option maxRecDepth 100000 in
theorem e_Numbers_visit_100_34_0 {v2 : Int32} {x : Option Value × List mmC} (hk : (kO (fun r : Ob => (none, mh sc rest to fl r tr mk cn nu de ru la tb tf ph cs)) x) (Numbers_visit ma nu v2)) : Ev mmPT tbX6_visit 0 [some (.ref 100), some (.ref 34), some (.int v2), none, none, none, none, none] [] (mh sc rest to fl ma tr mk cn nu de ru la tb tf ph cs) x := by
  unfold Numbers_visit at hk
  refine q_ic 0 rfl rfl ?_
  refine Ev.s (ins := .istore_n 3) (pc' := 2) (lv' := [some (.ref 100), some (.ref 34), some (.int v2), some (.int 0), none, none, none, none]) rfl rfl ?_
  exact e_Numbers_visit_100_34_L2 hk
set_option maxRecDepth 100000 in
theorem e_Numbers_visit_100_34 {v2 : Int32} : Ev mmPT tbX6_visit 0 [some (.ref 100), some (.ref 34), some (.int v2), none, none, none, none, none] [] (mh sc rest to fl ma tr mk cn nu de ru la tb tf ph cs) ((fun r : Ob => (none, mh sc rest to fl r tr mk cn nu de ru la tb tf ph cs)) (Numbers_visit ma nu v2)) := e_Numbers_visit_100_34_0 (by exact rfl)
set_option maxRecDepth 100000 in
theorem e_Numbers_goOver_100_34_43 {v2 : Int32} {x : Option Value × List mmC} (b14 : v2 < 2147483647) (hk : (kK (fun a : Int32 × Ob => mu a.1) (mu v2) (fun a : Int32 × Ob => Ev mmPT tbX6_goOver 14 [some (.ref 100), some (.ref 34), some (.int a.1), none] [] (mh sc rest to fl a.2 tr mk cn nu de ru la tb tf ph cs) x) (kO (fun r : Ob × Ob => (none, mh sc rest to fl r.1 tr mk cn r.2 de ru la tb tf ph cs)) x)) (Numbers_goOver_43 ma nu v2)) : Ev mmPT tbX6_goOver 43 [some (.ref 100), some (.ref 34), some (.int v2), none] [] (mh sc rest to fl ma tr mk cn nu de ru la tb tf ph cs) x := by
  unfold Numbers_goOver_43 at hk
  refine q_inc 1 [some (.ref 100), some (.ref 34), some (.int (v2 + 1)), none] rfl rfl rfl rfl ?_
  refine Ev.goto rfl ?_
  replace hk := kK_l hk
  exact hk (mu_lt b14)
set_option maxRecDepth 100000 in
theorem e_Numbers_goOver_100_34_L14b {v2 : Int32} {x : Option Value × List mmC} (hk : (kK (fun a : Int32 × Ob => mu a.1) (mu v2) (fun a : Int32 × Ob => Ev mmPT tbX6_goOver 14 [some (.ref 100), some (.ref 34), some (.int a.1), none] [] (mh sc rest to fl a.2 tr mk cn nu de ru la tb tf ph cs) x) (kO (fun r : Ob × Ob => (none, mh sc rest to fl r.1 tr mk cn r.2 de ru la tb tf ph cs)) x)) (Numbers_goOver_L14b ma nu v2)) : Ev mmPT tbX6_goOver 14 [some (.ref 100), some (.ref 34), some (.int v2), none] [] (mh sc rest to fl ma tr mk cn nu de ru la tb tf ph cs) x := by
  unfold Numbers_goOver_L14b at hk
  refine Ev.s (ins := .iload_n 2) (pc' := 15) rfl rfl ?_
  refine q_bi 10 rfl rfl ?_
  refine q_cge rfl hk (fun c1 hk => ?_) (fun c1 hk => ?_)
  · refine Ev.s (ins := .aload_n 0) (pc' := 21) rfl rfl ?_
    refine gf_100_0 rfl ?_
    refine gf_101_3 rfl ?_
    refine Ev.s (ins := .iload_n 2) (pc' := 28) rfl rfl ?_
    refine at_108 (oat nu 3 10 v2) rfl (Nat.le_of_ble_eq_true rfl) rfl ?_
    refine Ev.s (ins := .istore_n 3) (pc' := 32) (lv' := [some (.ref 100), some (.ref 34), some (.int v2), some (.int (oat nu 3 10 v2))]) rfl rfl ?_
    refine Ev.s (ins := .iload_n 3) (pc' := 33) rfl rfl ?_
    refine q_ic (-1) rfl rfl ?_
    refine q_ceq rfl hk (fun c2 hk => ?_) (fun c2 hk => ?_)
    · refine Ev.weak [some (.ref 100), some (.ref 34), some (.int v2), none] ⟨rfl, rfl, rfl, rfl, trivial⟩ ?_
      exact e_Numbers_goOver_100_34_43 (lt31 c1) hk
    · refine Ev.s (ins := .aload_n 0) (pc' := 38) rfl rfl ?_
      refine Ev.s (ins := .aload_n 1) (pc' := 39) rfl rfl ?_
      refine Ev.s (ins := .iload_n 3) (pc' := 40) rfl rfl ?_
      refine kc_X6_visit_0 rfl oi_100 rfl (Nat.le_of_ble_eq_true rfl) (e_Numbers_visit_100_34) ?_
      refine Ev.weak [some (.ref 100), some (.ref 34), some (.int v2), none] ⟨rfl, rfl, rfl, rfl, trivial⟩ ?_
      exact e_Numbers_goOver_100_34_43 (lt31 c1) hk
  · replace hk := kK_r hk
    exact Ev.vret rfl rfl hk
set_option maxRecDepth 100000 in
theorem e_Numbers_goOver_100_34_L14 {v2 : Int32} {x : Option Value × List mmC} (hk : (kO (fun r : Ob × Ob => (none, mh sc rest to fl r.1 tr mk cn r.2 de ru la tb tf ph cs)) x) (Numbers_goOver_L14 ma nu v2)) : Ev mmPT tbX6_goOver 14 [some (.ref 100), some (.ref 34), some (.int v2), none] [] (mh sc rest to fl ma tr mk cn nu de ru la tb tf ph cs) x :=
  k_loop (B := (fun a : Int32 × Ob => Numbers_goOver_L14b a.2 nu a.1)) (μ := fun a : Int32 × Ob => mu a.1) (E := fun a : Int32 × Ob => Ev mmPT tbX6_goOver 14 [some (.ref 100), some (.ref 34), some (.int a.1), none] [] (mh sc rest to fl a.2 tr mk cn nu de ru la tb tf ph cs) x) (X := (kO (fun r : Ob × Ob => (none, mh sc rest to fl r.1 tr mk cn r.2 de ru la tb tf ph cs)) x)) (fun a hk => e_Numbers_goOver_100_34_L14b hk) (v2, ma) hk
set_option maxRecDepth 100000 in
theorem e_Numbers_goOver_100_34_0 {x : Option Value × List mmC} (hk : (kO (fun r : Ob × Ob => (none, mh sc rest to fl r.1 tr mk cn r.2 de ru la tb tf ph cs)) x) (Numbers_goOver ma nu)) : Ev mmPT tbX6_goOver 0 [some (.ref 100), some (.ref 34), none, none] [] (mh sc rest to fl ma tr mk cn nu de ru la tb tf ph cs) x := by
  unfold Numbers_goOver at hk
  refine Ev.s (ins := .aload_n 0) (pc' := 1) rfl rfl ?_
  refine Ev.s (ins := .aload_n 1) (pc' := 2) rfl rfl ?_
  refine kc_X6_readEdges_0 rfl oi_100 rfl (Nat.le_of_ble_eq_true rfl) (e_Numbers_readEdges_100_34) ?_
  refine Ev.s (ins := .aload_n 0) (pc' := 6) rfl rfl ?_
  refine gf_100_0 rfl ?_
  refine kc_X2_reckon_0 rfl oi_101 rfl (Nat.le_of_ble_eq_true rfl) (e_Flow_reckon_101) ?_
  refine q_ic 0 rfl rfl ?_
  refine Ev.s (ins := .istore_n 2) (pc' := 14) (lv' := [some (.ref 100), some (.ref 34), some (.int 0), none]) rfl rfl ?_
  exact e_Numbers_goOver_100_34_L14 hk
set_option maxRecDepth 100000 in
theorem e_Numbers_goOver_100_34 : Ev mmPT tbX6_goOver 0 [some (.ref 100), some (.ref 34), none, none] [] (mh sc rest to fl ma tr mk cn nu de ru la tb tf ph cs) ((fun r : Ob × Ob => (none, mh sc rest to fl r.1 tr mk cn r.2 de ru la tb tf ph cs)) (Numbers_goOver ma nu)) := e_Numbers_goOver_100_34_0 (by exact rfl)
set_option maxRecDepth 100000 in
theorem e_Dead_isNeededBySelf_34_55 {x : Option Value × List mmC} (hk : (kO (fun r : Bool => (some (.int (b2i r)), mh sc rest to fl ma tr mk cn nu de ru la tb tf ph cs)) x) (Dead_isNeededBySelf_55 ma)) : Ev mmPT tbX1_isNeededBySelf 55 [none, none, none, none] [] (mh sc rest to fl ma tr mk cn nu de ru la tb tf ph cs) x := by
  unfold Dead_isNeededBySelf_55 at hk
  refine q_ic 1 rfl rfl ?_
  refine Ev.goto rfl ?_
  exact Ev.zret rfl rfl (Or.inr rfl) hk
set_option maxRecDepth 100000 in
theorem e_Dead_isNeededBySelf_34_38 {v2 : Int32} {w0 : Int32} {x : Option Value × List mmC} (hk : (kO (fun r : Bool => (some (.int (b2i r)), mh sc rest to fl ma tr mk cn nu de ru la tb tf ph cs)) x) (Dead_isNeededBySelf_38 ma v2 w0)) : Ev mmPT tbX1_isNeededBySelf 38 [none, none, some (.int v2), none] [.int w0] (mh sc rest to fl ma tr mk cn nu de ru la tb tf ph cs) x := by
  unfold Dead_isNeededBySelf_38 at hk
  refine Ev.s (ins := .istore_n 3) (pc' := 39) (lv' := [none, none, some (.int v2), some (.int w0)]) rfl rfl ?_
  refine Ev.s (ins := .iload_n 2) (pc' := 40) rfl rfl ?_
  refine q_bi 7 rfl rfl ?_
  refine q_ceq rfl hk (fun c1 hk => ?_) (fun c1 hk => ?_)
  · refine Ev.weak [none, none, none, none] ⟨rfl, rfl, rfl, rfl, trivial⟩ ?_
    exact e_Dead_isNeededBySelf_34_55 hk
  · refine Ev.s (ins := .iload_n 2) (pc' := 46) rfl rfl ?_
    refine q_bi 8 rfl rfl ?_
    refine q_ceq rfl hk (fun c2 hk => ?_) (fun c2 hk => ?_)
    · refine Ev.weak [none, none, none, none] ⟨rfl, rfl, rfl, rfl, trivial⟩ ?_
      exact e_Dead_isNeededBySelf_34_55 hk
    · refine Ev.s (ins := .iload_n 3) (pc' := 52) rfl rfl ?_
      refine q_eq rfl hk (fun c3 hk => ?_) (fun c3 hk => ?_)
      · refine q_ic 0 rfl rfl ?_
        exact Ev.zret rfl rfl (Or.inl rfl) hk
      · refine Ev.weak [none, none, none, none] ⟨rfl, rfl, rfl, rfl, trivial⟩ ?_
        exact e_Dead_isNeededBySelf_34_55 hk
set_option maxRecDepth 100000 in
theorem e_Dead_isNeededBySelf_34_33 {v2 : Int32} {x : Option Value × List mmC} (hk : (kO (fun r : Bool => (some (.int (b2i r)), mh sc rest to fl ma tr mk cn nu de ru la tb tf ph cs)) x) (Dead_isNeededBySelf_33 ma v2)) : Ev mmPT tbX1_isNeededBySelf 33 [none, none, some (.int v2), none] [] (mh sc rest to fl ma tr mk cn nu de ru la tb tf ph cs) x := by
  unfold Dead_isNeededBySelf_33 at hk
  refine q_ic 1 rfl rfl ?_
  refine Ev.goto rfl ?_
  exact e_Dead_isNeededBySelf_34_38 hk
set_option maxRecDepth 100000 in
theorem e_Dead_isNeededBySelf_34_37 {v2 : Int32} {x : Option Value × List mmC} (hk : (kO (fun r : Bool => (some (.int (b2i r)), mh sc rest to fl ma tr mk cn nu de ru la tb tf ph cs)) x) (Dead_isNeededBySelf_37 ma v2)) : Ev mmPT tbX1_isNeededBySelf 37 [none, none, some (.int v2), none] [] (mh sc rest to fl ma tr mk cn nu de ru la tb tf ph cs) x := by
  unfold Dead_isNeededBySelf_37 at hk
  refine q_ic 0 rfl rfl ?_
  exact e_Dead_isNeededBySelf_34_38 hk
set_option maxRecDepth 100000 in
theorem e_Dead_isNeededBySelf_34_0 {v1 : Int32} {x : Option Value × List mmC} (hk : (kO (fun r : Bool => (some (.int (b2i r)), mh sc rest to fl ma tr mk cn nu de ru la tb tf ph cs)) x) (Dead_isNeededBySelf ma v1)) : Ev mmPT tbX1_isNeededBySelf 0 [some (.ref 34), some (.int v1), none, none] [] (mh sc rest to fl ma tr mk cn nu de ru la tb tf ph cs) x := by
  unfold Dead_isNeededBySelf at hk
  refine Ev.s (ins := .aload_n 0) (pc' := 1) rfl rfl ?_
  refine gf_34_0 rfl ?_
  refine Ev.s (ins := .iload_n 1) (pc' := 5) rfl rfl ?_
  refine at_35 (oat ma 0 140 v1) rfl (Nat.le_of_ble_eq_true rfl) rfl ?_
  refine Ev.s (ins := .istore_n 2) (pc' := 9) (lv' := [some (.ref 34), some (.int v1), some (.int (oat ma 0 140 v1)), none]) rfl rfl ?_
  refine Ev.s (ins := .iload_n 2) (pc' := 10) rfl rfl ?_
  refine q_ic 4 rfl rfl ?_
  refine q_cne rfl hk (fun c1 hk => ?_) (fun c1 hk => ?_)
  · refine Ev.s (ins := .aload_n 0) (pc' := 15) rfl rfl ?_
    refine Ev.s (ins := .iload_n 1) (pc' := 16) rfl rfl ?_
    refine q_ic 1 rfl rfl ?_
    refine kc_X3_valueOf_0 rfl oi_34 rfl (Nat.le_of_ble_eq_true rfl) (e_Form_valueOf_34) ?_
    refine q_ic (-1) rfl rfl ?_
    refine q_cne rfl hk (fun c2 hk => ?_) (fun c2 hk => ?_)
    · refine Ev.s (ins := .aload_n 0) (pc' := 25) rfl rfl ?_
      refine Ev.s (ins := .iload_n 1) (pc' := 26) rfl rfl ?_
      refine q_ic 1 rfl rfl ?_
      refine kc_X3_numberOf_0 rfl oi_34 rfl (Nat.le_of_ble_eq_true rfl) (e_Form_numberOf_34) ?_
      refine q_ne rfl hk (fun c3 hk => ?_) (fun c3 hk => ?_)
      · refine Ev.weak [none, none, some (.int (oat ma 0 140 v1)), none] ⟨rfl, rfl, rfl, rfl, trivial⟩ ?_
        exact e_Dead_isNeededBySelf_34_33 hk
      · refine Ev.weak [none, none, some (.int (oat ma 0 140 v1)), none] ⟨rfl, rfl, rfl, rfl, trivial⟩ ?_
        exact e_Dead_isNeededBySelf_34_37 hk
    · refine Ev.weak [none, none, some (.int (oat ma 0 140 v1)), none] ⟨rfl, rfl, rfl, rfl, trivial⟩ ?_
      exact e_Dead_isNeededBySelf_34_33 hk
  · refine Ev.weak [none, none, some (.int (oat ma 0 140 v1)), none] ⟨rfl, rfl, rfl, rfl, trivial⟩ ?_
    exact e_Dead_isNeededBySelf_34_37 hk
set_option maxRecDepth 100000 in
theorem e_Dead_isNeededBySelf_34 {v1 : Int32} : Ev mmPT tbX1_isNeededBySelf 0 [some (.ref 34), some (.int v1), none, none] [] (mh sc rest to fl ma tr mk cn nu de ru la tb tf ph cs) ((fun r : Bool => (some (.int (b2i r)), mh sc rest to fl ma tr mk cn nu de ru la tb tf ph cs)) (Dead_isNeededBySelf ma v1)) := e_Dead_isNeededBySelf_34_0 (by exact rfl)
set_option maxRecDepth 100000 in
theorem e_Dead_needArguments_110_34_55 {v2 : Int32} {v3 : Int32} {x : Option Value × List mmC} (b2 : v3 < 2147483647) (hk : (kK (fun a : Int32 × Ob => mu a.1) (mu v3) (fun a : Int32 × Ob => Ev mmPT tbX1_needArguments 2 [some (.ref 110), some (.ref 34), some (.int v2), some (.int a.1), none] [] (mh sc rest to fl ma tr mk cn nu a.2 ru la tb tf ph cs) x) (kO (fun r : Ob => (none, mh sc rest to fl ma tr mk cn nu r ru la tb tf ph cs)) x)) (Dead_needArguments_55 ma de v2 v3)) : Ev mmPT tbX1_needArguments 55 [some (.ref 110), some (.ref 34), some (.int v2), some (.int v3), none] [] (mh sc rest to fl ma tr mk cn nu de ru la tb tf ph cs) x := by
  unfold Dead_needArguments_55 at hk
  refine q_inc 1 [some (.ref 110), some (.ref 34), some (.int v2), some (.int (v3 + 1)), none] rfl rfl rfl rfl ?_
  refine Ev.goto rfl ?_
  replace hk := kK_l hk
  exact hk (mu_lt b2)
set_option maxRecDepth 100000 in
theorem e_Dead_needArguments_110_34_L2b {v2 : Int32} {v3 : Int32} {x : Option Value × List mmC} (hk : (kK (fun a : Int32 × Ob => mu a.1) (mu v3) (fun a : Int32 × Ob => Ev mmPT tbX1_needArguments 2 [some (.ref 110), some (.ref 34), some (.int v2), some (.int a.1), none] [] (mh sc rest to fl ma tr mk cn nu a.2 ru la tb tf ph cs) x) (kO (fun r : Ob => (none, mh sc rest to fl ma tr mk cn nu r ru la tb tf ph cs)) x)) (Dead_needArguments_L2b ma de v2 v3)) : Ev mmPT tbX1_needArguments 2 [some (.ref 110), some (.ref 34), some (.int v2), some (.int v3), none] [] (mh sc rest to fl ma tr mk cn nu de ru la tb tf ph cs) x := by
  unfold Dead_needArguments_L2b at hk
  refine Ev.s (ins := .iload_n 3) (pc' := 3) rfl rfl ?_
  refine Ev.s (ins := .aload_n 1) (pc' := 4) rfl rfl ?_
  refine gf_34_3 rfl ?_
  refine Ev.s (ins := .iload_n 2) (pc' := 8) rfl rfl ?_
  refine at_41 (oat ma 3 150 v2) rfl (Nat.le_of_ble_eq_true rfl) rfl ?_
  refine q_cge rfl hk (fun c1 hk => ?_) (fun c1 hk => ?_)
  · refine Ev.s (ins := .aload_n 1) (pc' := 15) rfl rfl ?_
    refine Ev.s (ins := .iload_n 2) (pc' := 16) rfl rfl ?_
    refine Ev.s (ins := .iload_n 3) (pc' := 17) rfl rfl ?_
    refine kc_X3_valueOf_0 rfl oi_34 rfl (Nat.le_of_ble_eq_true rfl) (e_Form_valueOf_34) ?_
    refine Ev.s (ins := .istore 4) (pc' := 22) (lv' := [some (.ref 110), some (.ref 34), some (.int v2), some (.int v3), some (.int (Form_valueOf ma v2 v3))]) rfl rfl ?_
    refine Ev.s (ins := .iload 4) (pc' := 24) rfl rfl ?_
    refine q_ic (-1) rfl rfl ?_
    refine q_ceq rfl hk (fun c2 hk => ?_) (fun c2 hk => ?_)
    · refine Ev.weak [some (.ref 110), some (.ref 34), some (.int v2), some (.int v3), none] ⟨rfl, rfl, rfl, rfl, rfl, trivial⟩ ?_
      exact e_Dead_needArguments_110_34_55 (lt31 c1) hk
    · refine Ev.s (ins := .aload_n 0) (pc' := 29) rfl rfl ?_
      refine gf_110_0 rfl ?_
      refine Ev.s (ins := .iload 4) (pc' := 34) rfl rfl ?_
      refine at_111 (oat de 0 140 (Form_valueOf ma v2 v3)) rfl (Nat.le_of_ble_eq_true rfl) rfl ?_
      refine q_ne rfl hk (fun c3 hk => ?_) (fun c3 hk => ?_)
      · refine Ev.s (ins := .aload_n 0) (pc' := 41) rfl rfl ?_
        refine gf_110_0 rfl ?_
        refine Ev.s (ins := .iload 4) (pc' := 46) rfl rfl ?_
        refine q_ic 1 rfl rfl ?_
        refine pt_111 rfl (Nat.le_of_ble_eq_true rfl) ?_
        refine Ev.s (ins := .aload_n 0) (pc' := 51) rfl rfl ?_
        refine q_ic 1 rfl rfl ?_
        refine pf_110_1 true rfl ?_
        refine Ev.weak [some (.ref 110), some (.ref 34), some (.int v2), some (.int v3), none] ⟨rfl, rfl, rfl, rfl, rfl, trivial⟩ ?_
        exact e_Dead_needArguments_110_34_55 (lt31 c1) hk
      · refine Ev.weak [some (.ref 110), some (.ref 34), some (.int v2), some (.int v3), none] ⟨rfl, rfl, rfl, rfl, rfl, trivial⟩ ?_
        exact e_Dead_needArguments_110_34_55 (lt31 c1) hk
  · replace hk := kK_r hk
    exact Ev.vret rfl rfl hk
set_option maxRecDepth 100000 in
theorem e_Dead_needArguments_110_34_L2 {v2 : Int32} {v3 : Int32} {x : Option Value × List mmC} (hk : (kO (fun r : Ob => (none, mh sc rest to fl ma tr mk cn nu r ru la tb tf ph cs)) x) (Dead_needArguments_L2 ma de v2 v3)) : Ev mmPT tbX1_needArguments 2 [some (.ref 110), some (.ref 34), some (.int v2), some (.int v3), none] [] (mh sc rest to fl ma tr mk cn nu de ru la tb tf ph cs) x :=
  k_loop (B := (fun a : Int32 × Ob => Dead_needArguments_L2b ma a.2 v2 a.1)) (μ := fun a : Int32 × Ob => mu a.1) (E := fun a : Int32 × Ob => Ev mmPT tbX1_needArguments 2 [some (.ref 110), some (.ref 34), some (.int v2), some (.int a.1), none] [] (mh sc rest to fl ma tr mk cn nu a.2 ru la tb tf ph cs) x) (X := (kO (fun r : Ob => (none, mh sc rest to fl ma tr mk cn nu r ru la tb tf ph cs)) x)) (fun a hk => e_Dead_needArguments_110_34_L2b hk) (v3, de) hk
set_option maxRecDepth 100000 in
theorem e_Dead_needArguments_110_34_0 {v2 : Int32} {x : Option Value × List mmC} (hk : (kO (fun r : Ob => (none, mh sc rest to fl ma tr mk cn nu r ru la tb tf ph cs)) x) (Dead_needArguments ma de v2)) : Ev mmPT tbX1_needArguments 0 [some (.ref 110), some (.ref 34), some (.int v2), none, none] [] (mh sc rest to fl ma tr mk cn nu de ru la tb tf ph cs) x := by
  unfold Dead_needArguments at hk
  refine q_ic 0 rfl rfl ?_
  refine Ev.s (ins := .istore_n 3) (pc' := 2) (lv' := [some (.ref 110), some (.ref 34), some (.int v2), some (.int 0), none]) rfl rfl ?_
  exact e_Dead_needArguments_110_34_L2 hk
set_option maxRecDepth 100000 in
theorem e_Dead_needArguments_110_34 {v2 : Int32} : Ev mmPT tbX1_needArguments 0 [some (.ref 110), some (.ref 34), some (.int v2), none, none] [] (mh sc rest to fl ma tr mk cn nu de ru la tb tf ph cs) ((fun r : Ob => (none, mh sc rest to fl ma tr mk cn nu r ru la tb tf ph cs)) (Dead_needArguments ma de v2)) := e_Dead_needArguments_110_34_0 (by exact rfl)
set_option maxRecDepth 100000 in
theorem e_Dead_loseOthers_110_34_27 {v2 : Int32} {x : Option Value × List mmC} (b3 : v2 < 2147483647) (hk : (kK (fun a : Int32 × Ob => mu a.1) (mu v2) (fun a : Int32 × Ob => Ev mmPT tbX1_loseOthers 3 [some (.ref 110), some (.ref 34), some (.int a.1)] [] (mh sc rest to fl a.2 tr mk cn nu de ru la tb tf ph cs) x) (kO (fun r : Ob => (none, mh sc rest to fl r tr mk cn nu de ru la tb tf ph cs)) x)) (Dead_loseOthers_27 ma de v2)) : Ev mmPT tbX1_loseOthers 27 [some (.ref 110), some (.ref 34), some (.int v2)] [] (mh sc rest to fl ma tr mk cn nu de ru la tb tf ph cs) x := by
  unfold Dead_loseOthers_27 at hk
  refine q_inc 1 [some (.ref 110), some (.ref 34), some (.int (v2 + 1))] rfl rfl rfl rfl ?_
  refine Ev.goto rfl ?_
  replace hk := kK_l hk
  exact hk (mu_lt b3)
set_option maxRecDepth 100000 in
theorem e_Dead_loseOthers_110_34_L3b {v2 : Int32} {x : Option Value × List mmC} (hk : (kK (fun a : Int32 × Ob => mu a.1) (mu v2) (fun a : Int32 × Ob => Ev mmPT tbX1_loseOthers 3 [some (.ref 110), some (.ref 34), some (.int a.1)] [] (mh sc rest to fl a.2 tr mk cn nu de ru la tb tf ph cs) x) (kO (fun r : Ob => (none, mh sc rest to fl r tr mk cn nu de ru la tb tf ph cs)) x)) (Dead_loseOthers_L3b ma de v2)) : Ev mmPT tbX1_loseOthers 3 [some (.ref 110), some (.ref 34), some (.int v2)] [] (mh sc rest to fl ma tr mk cn nu de ru la tb tf ph cs) x := by
  unfold Dead_loseOthers_L3b at hk
  refine Ev.s (ins := .iload_n 2) (pc' := 4) rfl rfl ?_
  refine Ev.s (ins := .aload_n 1) (pc' := 5) rfl rfl ?_
  refine gf_34_15 (ma.2.1 2) rfl rfl ?_
  refine q_cge rfl hk (fun c1 hk => ?_) (fun c1 hk => ?_)
  · refine Ev.s (ins := .aload_n 0) (pc' := 12) rfl rfl ?_
    refine gf_110_0 rfl ?_
    refine Ev.s (ins := .iload_n 2) (pc' := 16) rfl rfl ?_
    refine at_111 (oat de 0 140 v2) rfl (Nat.le_of_ble_eq_true rfl) rfl ?_
    refine q_ne rfl hk (fun c2 hk => ?_) (fun c2 hk => ?_)
    · refine Ev.s (ins := .aload_n 1) (pc' := 23) rfl rfl ?_
      refine Ev.s (ins := .iload_n 2) (pc' := 24) rfl rfl ?_
      refine kc_X3_lose_0 rfl oi_34 rfl (Nat.le_of_ble_eq_true rfl) (e_Form_lose_34) ?_
      exact e_Dead_loseOthers_110_34_27 (lt31 c1) hk
    · exact e_Dead_loseOthers_110_34_27 (lt31 c1) hk
  · replace hk := kK_r hk
    exact Ev.vret rfl rfl hk
set_option maxRecDepth 100000 in
theorem e_Dead_loseOthers_110_34_L3 {v2 : Int32} {x : Option Value × List mmC} (hk : (kO (fun r : Ob => (none, mh sc rest to fl r tr mk cn nu de ru la tb tf ph cs)) x) (Dead_loseOthers_L3 ma de v2)) : Ev mmPT tbX1_loseOthers 3 [some (.ref 110), some (.ref 34), some (.int v2)] [] (mh sc rest to fl ma tr mk cn nu de ru la tb tf ph cs) x :=
  k_loop (B := (fun a : Int32 × Ob => Dead_loseOthers_L3b a.2 de a.1)) (μ := fun a : Int32 × Ob => mu a.1) (E := fun a : Int32 × Ob => Ev mmPT tbX1_loseOthers 3 [some (.ref 110), some (.ref 34), some (.int a.1)] [] (mh sc rest to fl a.2 tr mk cn nu de ru la tb tf ph cs) x) (X := (kO (fun r : Ob => (none, mh sc rest to fl r tr mk cn nu de ru la tb tf ph cs)) x)) (fun a hk => e_Dead_loseOthers_110_34_L3b hk) (v2, ma) hk
set_option maxRecDepth 100000 in
theorem e_Dead_loseOthers_110_34_0 {x : Option Value × List mmC} (hk : (kO (fun r : Ob => (none, mh sc rest to fl r tr mk cn nu de ru la tb tf ph cs)) x) (Dead_loseOthers ma de)) : Ev mmPT tbX1_loseOthers 0 [some (.ref 110), some (.ref 34), none] [] (mh sc rest to fl ma tr mk cn nu de ru la tb tf ph cs) x := by
  unfold Dead_loseOthers at hk
  refine q_bi 6 rfl rfl ?_
  refine Ev.s (ins := .istore_n 2) (pc' := 3) (lv' := [some (.ref 110), some (.ref 34), some (.int 6)]) rfl rfl ?_
  exact e_Dead_loseOthers_110_34_L3 hk
set_option maxRecDepth 100000 in
theorem e_Dead_loseOthers_110_34 : Ev mmPT tbX1_loseOthers 0 [some (.ref 110), some (.ref 34), none] [] (mh sc rest to fl ma tr mk cn nu de ru la tb tf ph cs) ((fun r : Ob => (none, mh sc rest to fl r tr mk cn nu de ru la tb tf ph cs)) (Dead_loseOthers ma de)) := e_Dead_loseOthers_110_34_0 (by exact rfl)
set_option maxRecDepth 100000 in
theorem e_Dead_goOver_110_34_48 {v2 : Int32} {x : Option Value × List mmC} (b11 : v2 < 2147483647) (hk : (kK (fun a : Int32 × Ob => mu a.1) (mu v2) (fun a : Int32 × Ob => Ev mmPT tbX1_goOver 11 [some (.ref 110), some (.ref 34), some (.int a.1), none] [] (mh sc rest to fl ma tr mk cn nu a.2 ru la tb tf ph cs) x) (kO (fun r : Ob × Ob => (none, mh sc rest to fl r.1 tr mk cn nu r.2 ru la tb tf ph cs)) x)) (Dead_goOver_48 ma de v2)) : Ev mmPT tbX1_goOver 48 [some (.ref 110), some (.ref 34), some (.int v2), none] [] (mh sc rest to fl ma tr mk cn nu de ru la tb tf ph cs) x := by
  unfold Dead_goOver_48 at hk
  refine q_inc 1 [some (.ref 110), some (.ref 34), some (.int (v2 + 1)), none] rfl rfl rfl rfl ?_
  refine Ev.goto rfl ?_
  replace hk := kK_l hk
  exact hk (mu_lt b11)
set_option maxRecDepth 100000 in
theorem e_Dead_goOver_110_34_147 {x : Option Value × List mmC} (hk : (kO (fun r : Ob × Ob => (none, mh sc rest to fl r.1 tr mk cn nu r.2 ru la tb tf ph cs)) x) (Dead_goOver_147 ma de)) : Ev mmPT tbX1_goOver 147 [some (.ref 110), some (.ref 34), none, none] [] (mh sc rest to fl ma tr mk cn nu de ru la tb tf ph cs) x := by
  unfold Dead_goOver_147 at hk
  refine Ev.s (ins := .aload_n 0) (pc' := 148) rfl rfl ?_
  refine Ev.s (ins := .aload_n 1) (pc' := 149) rfl rfl ?_
  refine kc_X1_loseOthers_0 rfl oi_110 rfl (Nat.le_of_ble_eq_true rfl) (e_Dead_loseOthers_110_34) ?_
  exact Ev.vret rfl rfl hk
set_option maxRecDepth 100000 in
theorem e_Dead_goOver_110_34_135 {v2 : Int32} {v3 : Int32} {x : Option Value × List mmC} (b87 : v2 < 2147483647) (b109 : v3 < 2147483647) (hk : (kK (fun a : Int32 × Ob => mu a.1) (mu v3) (fun a : Int32 × Ob => Ev mmPT tbX1_goOver 109 [some (.ref 110), some (.ref 34), some (.int v2), some (.int a.1)] [] (mh sc rest to fl ma tr mk cn nu a.2 ru la tb tf ph cs) x) (kK (fun a : Int32 × Ob => mu a.1) (mu v2) (fun a : Int32 × Ob => Ev mmPT tbX1_goOver 87 [some (.ref 110), some (.ref 34), some (.int a.1), none] [] (mh sc rest to fl ma tr mk cn nu a.2 ru la tb tf ph cs) x) (kO (fun r : Ob × Ob => (none, mh sc rest to fl r.1 tr mk cn nu r.2 ru la tb tf ph cs)) x))) (Dead_goOver_135 ma de v2 v3)) : Ev mmPT tbX1_goOver 135 [some (.ref 110), some (.ref 34), some (.int v2), some (.int v3)] [] (mh sc rest to fl ma tr mk cn nu de ru la tb tf ph cs) x := by
  unfold Dead_goOver_135 at hk
  refine q_inc 1 [some (.ref 110), some (.ref 34), some (.int v2), some (.int (v3 + 1))] rfl rfl rfl rfl ?_
  refine Ev.goto rfl ?_
  replace hk := kK_l hk
  exact hk (mu_lt b109)
set_option maxRecDepth 100000 in
theorem e_Dead_goOver_110_34_L109b {v2 : Int32} {v3 : Int32} {x : Option Value × List mmC} (b87 : v2 < 2147483647) (hk : (kK (fun a : Int32 × Ob => mu a.1) (mu v3) (fun a : Int32 × Ob => Ev mmPT tbX1_goOver 109 [some (.ref 110), some (.ref 34), some (.int v2), some (.int a.1)] [] (mh sc rest to fl ma tr mk cn nu a.2 ru la tb tf ph cs) x) (kK (fun a : Int32 × Ob => mu a.1) (mu v2) (fun a : Int32 × Ob => Ev mmPT tbX1_goOver 87 [some (.ref 110), some (.ref 34), some (.int a.1), none] [] (mh sc rest to fl ma tr mk cn nu a.2 ru la tb tf ph cs) x) (kO (fun r : Ob × Ob => (none, mh sc rest to fl r.1 tr mk cn nu r.2 ru la tb tf ph cs)) x))) (Dead_goOver_L109b ma de v2 v3)) : Ev mmPT tbX1_goOver 109 [some (.ref 110), some (.ref 34), some (.int v2), some (.int v3)] [] (mh sc rest to fl ma tr mk cn nu de ru la tb tf ph cs) x := by
  unfold Dead_goOver_L109b at hk
  refine Ev.s (ins := .iload_n 3) (pc' := 110) rfl rfl ?_
  refine Ev.s (ins := .aload_n 1) (pc' := 111) rfl rfl ?_
  refine gf_34_15 (ma.2.1 2) rfl rfl ?_
  refine q_cge rfl hk (fun c1 hk => ?_) (fun c1 hk => ?_)
  · refine Ev.s (ins := .aload_n 0) (pc' := 118) rfl rfl ?_
    refine gf_110_0 rfl ?_
    refine Ev.s (ins := .iload_n 3) (pc' := 122) rfl rfl ?_
    refine at_111 (oat de 0 140 v3) rfl (Nat.le_of_ble_eq_true rfl) rfl ?_
    refine q_ic 1 rfl rfl ?_
    refine q_cne rfl hk (fun c2 hk => ?_) (fun c2 hk => ?_)
    · refine Ev.s (ins := .aload_n 0) (pc' := 130) rfl rfl ?_
      refine Ev.s (ins := .aload_n 1) (pc' := 131) rfl rfl ?_
      refine Ev.s (ins := .iload_n 3) (pc' := 132) rfl rfl ?_
      refine kc_X1_needArguments_0 rfl oi_110 rfl (Nat.le_of_ble_eq_true rfl) (e_Dead_needArguments_110_34) ?_
      exact e_Dead_goOver_110_34_135 b87 (lt31 c1) hk
    · exact e_Dead_goOver_110_34_135 b87 (lt31 c1) hk
  · replace hk := kK_r hk
    refine q_inc 1 [some (.ref 110), some (.ref 34), some (.int (v2 + 1)), some (.int v3)] rfl rfl rfl rfl ?_
    refine Ev.goto rfl ?_
    refine Ev.weak [some (.ref 110), some (.ref 34), some (.int (v2 + 1)), none] ⟨rfl, rfl, rfl, rfl, trivial⟩ ?_
    replace hk := kK_l hk
    exact hk (mu_lt b87)
set_option maxRecDepth 100000 in
theorem e_Dead_goOver_110_34_L109 {v2 : Int32} {v3 : Int32} {x : Option Value × List mmC} (b87 : v2 < 2147483647) (hk : (kK (fun a : Int32 × Ob => mu a.1) (mu v2) (fun a : Int32 × Ob => Ev mmPT tbX1_goOver 87 [some (.ref 110), some (.ref 34), some (.int a.1), none] [] (mh sc rest to fl ma tr mk cn nu a.2 ru la tb tf ph cs) x) (kO (fun r : Ob × Ob => (none, mh sc rest to fl r.1 tr mk cn nu r.2 ru la tb tf ph cs)) x)) (Dead_goOver_L109 ma de v2 v3)) : Ev mmPT tbX1_goOver 109 [some (.ref 110), some (.ref 34), some (.int v2), some (.int v3)] [] (mh sc rest to fl ma tr mk cn nu de ru la tb tf ph cs) x :=
  k_loop (B := (fun a : Int32 × Ob => Dead_goOver_L109b ma a.2 v2 a.1)) (μ := fun a : Int32 × Ob => mu a.1) (E := fun a : Int32 × Ob => Ev mmPT tbX1_goOver 109 [some (.ref 110), some (.ref 34), some (.int v2), some (.int a.1)] [] (mh sc rest to fl ma tr mk cn nu a.2 ru la tb tf ph cs) x) (X := (kK (fun a : Int32 × Ob => mu a.1) (mu v2) (fun a : Int32 × Ob => Ev mmPT tbX1_goOver 87 [some (.ref 110), some (.ref 34), some (.int a.1), none] [] (mh sc rest to fl ma tr mk cn nu a.2 ru la tb tf ph cs) x) (kO (fun r : Ob × Ob => (none, mh sc rest to fl r.1 tr mk cn nu r.2 ru la tb tf ph cs)) x))) (fun a hk => e_Dead_goOver_110_34_L109b b87 hk) (v3, de) hk
set_option maxRecDepth 100000 in
theorem e_Dead_goOver_110_34_L87b {v2 : Int32} {x : Option Value × List mmC} (hk : (kK (fun a : Int32 × Ob => mu a.1) (mu v2) (fun a : Int32 × Ob => Ev mmPT tbX1_goOver 87 [some (.ref 110), some (.ref 34), some (.int a.1), none] [] (mh sc rest to fl ma tr mk cn nu a.2 ru la tb tf ph cs) x) (kO (fun r : Ob × Ob => (none, mh sc rest to fl r.1 tr mk cn nu r.2 ru la tb tf ph cs)) x)) (Dead_goOver_L87b ma de v2)) : Ev mmPT tbX1_goOver 87 [some (.ref 110), some (.ref 34), some (.int v2), none] [] (mh sc rest to fl ma tr mk cn nu de ru la tb tf ph cs) x := by
  unfold Dead_goOver_L87b at hk
  refine Ev.s (ins := .aload_n 0) (pc' := 88) rfl rfl ?_
  refine gf_110_1 (de.2.2 0) rfl rfl ?_
  refine q_beq rfl hk (fun c1 hk => ?_) (fun c1 hk => ?_)
  · refine Ev.s (ins := .iload_n 2) (pc' := 95) rfl rfl ?_
    refine q_si 140 rfl rfl ?_
    refine q_cgt rfl hk (fun c2 hk => ?_) (fun c2 hk => ?_)
    · replace hk := kK_r hk
      refine Ev.weak [some (.ref 110), some (.ref 34), none, none] ⟨rfl, rfl, rfl, rfl, trivial⟩ ?_
      exact e_Dead_goOver_110_34_147 hk
    · refine Ev.s (ins := .aload_n 0) (pc' := 102) rfl rfl ?_
      refine q_ic 0 rfl rfl ?_
      refine pf_110_1 false rfl ?_
      refine q_bi 6 rfl rfl ?_
      refine Ev.s (ins := .istore_n 3) (pc' := 109) (lv' := [some (.ref 110), some (.ref 34), some (.int v2), some (.int 6)]) rfl rfl ?_
      exact e_Dead_goOver_110_34_L109 (le31 (by decide) c2) hk
  · replace hk := kK_r hk
    refine Ev.weak [some (.ref 110), some (.ref 34), none, none] ⟨rfl, rfl, rfl, rfl, trivial⟩ ?_
    exact e_Dead_goOver_110_34_147 hk
set_option maxRecDepth 100000 in
theorem e_Dead_goOver_110_34_L87 {v2 : Int32} {x : Option Value × List mmC} (hk : (kO (fun r : Ob × Ob => (none, mh sc rest to fl r.1 tr mk cn nu r.2 ru la tb tf ph cs)) x) (Dead_goOver_L87 ma de v2)) : Ev mmPT tbX1_goOver 87 [some (.ref 110), some (.ref 34), some (.int v2), none] [] (mh sc rest to fl ma tr mk cn nu de ru la tb tf ph cs) x :=
  k_loop (B := (fun a : Int32 × Ob => Dead_goOver_L87b ma a.2 a.1)) (μ := fun a : Int32 × Ob => mu a.1) (E := fun a : Int32 × Ob => Ev mmPT tbX1_goOver 87 [some (.ref 110), some (.ref 34), some (.int a.1), none] [] (mh sc rest to fl ma tr mk cn nu a.2 ru la tb tf ph cs) x) (X := (kO (fun r : Ob × Ob => (none, mh sc rest to fl r.1 tr mk cn nu r.2 ru la tb tf ph cs)) x)) (fun a hk => e_Dead_goOver_110_34_L87b hk) (v2, de) hk
set_option maxRecDepth 100000 in
theorem e_Dead_goOver_110_34_L56b {v2 : Int32} {x : Option Value × List mmC} (hk : (kK (fun a : Int32 × Ob => mu a.1) (mu v2) (fun a : Int32 × Ob => Ev mmPT tbX1_goOver 56 [some (.ref 110), some (.ref 34), some (.int a.1), none] [] (mh sc rest to fl ma tr mk cn nu a.2 ru la tb tf ph cs) x) (kO (fun r : Ob × Ob => (none, mh sc rest to fl r.1 tr mk cn nu r.2 ru la tb tf ph cs)) x)) (Dead_goOver_L56b ma de v2)) : Ev mmPT tbX1_goOver 56 [some (.ref 110), some (.ref 34), some (.int v2), none] [] (mh sc rest to fl ma tr mk cn nu de ru la tb tf ph cs) x := by
  unfold Dead_goOver_L56b at hk
  refine Ev.s (ins := .iload_n 2) (pc' := 57) rfl rfl ?_
  refine Ev.s (ins := .aload_n 1) (pc' := 58) rfl rfl ?_
  refine gf_34_13 (ma.2.1 0) rfl rfl ?_
  refine q_cge rfl hk (fun c1 hk => ?_) (fun c1 hk => ?_)
  · refine Ev.s (ins := .aload_n 0) (pc' := 65) rfl rfl ?_
    refine Ev.s (ins := .aload_n 1) (pc' := 66) rfl rfl ?_
    refine q_si 140 rfl rfl ?_
    refine Ev.s (ins := .iload_n 2) (pc' := 70) rfl rfl ?_
    refine Ev.s (ins := .iadd) (pc' := 71) rfl rfl ?_
    refine kc_X1_needArguments_0 rfl oi_110 rfl (Nat.le_of_ble_eq_true rfl) (e_Dead_needArguments_110_34) ?_
    refine q_inc 1 [some (.ref 110), some (.ref 34), some (.int (v2 + 1)), none] rfl rfl rfl rfl ?_
    refine Ev.goto rfl ?_
    replace hk := kK_l hk
    exact hk (mu_lt (lt31 c1))
  · replace hk := kK_r hk
    refine Ev.s (ins := .aload_n 0) (pc' := 81) rfl rfl ?_
    refine q_ic 1 rfl rfl ?_
    refine pf_110_1 true rfl ?_
    refine q_ic 0 rfl rfl ?_
    refine Ev.s (ins := .istore_n 2) (pc' := 87) (lv' := [some (.ref 110), some (.ref 34), some (.int 0), none]) rfl rfl ?_
    exact e_Dead_goOver_110_34_L87 hk
set_option maxRecDepth 100000 in
theorem e_Dead_goOver_110_34_L56 {v2 : Int32} {x : Option Value × List mmC} (hk : (kO (fun r : Ob × Ob => (none, mh sc rest to fl r.1 tr mk cn nu r.2 ru la tb tf ph cs)) x) (Dead_goOver_L56 ma de v2)) : Ev mmPT tbX1_goOver 56 [some (.ref 110), some (.ref 34), some (.int v2), none] [] (mh sc rest to fl ma tr mk cn nu de ru la tb tf ph cs) x :=
  k_loop (B := (fun a : Int32 × Ob => Dead_goOver_L56b ma a.2 a.1)) (μ := fun a : Int32 × Ob => mu a.1) (E := fun a : Int32 × Ob => Ev mmPT tbX1_goOver 56 [some (.ref 110), some (.ref 34), some (.int a.1), none] [] (mh sc rest to fl ma tr mk cn nu a.2 ru la tb tf ph cs) x) (X := (kO (fun r : Ob × Ob => (none, mh sc rest to fl r.1 tr mk cn nu r.2 ru la tb tf ph cs)) x)) (fun a hk => e_Dead_goOver_110_34_L56b hk) (v2, de) hk
set_option maxRecDepth 100000 in
theorem e_Dead_goOver_110_34_L11b {v2 : Int32} {x : Option Value × List mmC} (hk : (kK (fun a : Int32 × Ob => mu a.1) (mu v2) (fun a : Int32 × Ob => Ev mmPT tbX1_goOver 11 [some (.ref 110), some (.ref 34), some (.int a.1), none] [] (mh sc rest to fl ma tr mk cn nu a.2 ru la tb tf ph cs) x) (kO (fun r : Ob × Ob => (none, mh sc rest to fl r.1 tr mk cn nu r.2 ru la tb tf ph cs)) x)) (Dead_goOver_L11b ma de v2)) : Ev mmPT tbX1_goOver 11 [some (.ref 110), some (.ref 34), some (.int v2), none] [] (mh sc rest to fl ma tr mk cn nu de ru la tb tf ph cs) x := by
  unfold Dead_goOver_L11b at hk
  refine Ev.s (ins := .iload_n 2) (pc' := 12) rfl rfl ?_
  refine Ev.s (ins := .aload_n 1) (pc' := 13) rfl rfl ?_
  refine gf_34_15 (ma.2.1 2) rfl rfl ?_
  refine q_cge rfl hk (fun c1 hk => ?_) (fun c1 hk => ?_)
  · refine Ev.s (ins := .aload_n 1) (pc' := 20) rfl rfl ?_
    refine gf_34_1 rfl ?_
    refine Ev.s (ins := .iload_n 2) (pc' := 24) rfl rfl ?_
    refine at_37 (oat ma 1 140 v2) rfl (Nat.le_of_ble_eq_true rfl) rfl ?_
    refine q_ic (-1) rfl rfl ?_
    refine q_ceq rfl hk (fun c2 hk => ?_) (fun c2 hk => ?_)
    · exact e_Dead_goOver_110_34_48 (lt31 c1) hk
    · refine Ev.s (ins := .aload_n 1) (pc' := 32) rfl rfl ?_
      refine Ev.s (ins := .iload_n 2) (pc' := 33) rfl rfl ?_
      refine kc_X1_isNeededBySelf_2 rfl (Nat.le_of_ble_eq_true rfl) (e_Dead_isNeededBySelf_34) ?_
      refine q_beq rfl hk (fun c3 hk => ?_) (fun c3 hk => ?_)
      · refine Ev.s (ins := .aload_n 0) (pc' := 40) rfl rfl ?_
        refine gf_110_0 rfl ?_
        refine Ev.s (ins := .iload_n 2) (pc' := 44) rfl rfl ?_
        refine q_ic 1 rfl rfl ?_
        refine pt_111 rfl (Nat.le_of_ble_eq_true rfl) ?_
        exact e_Dead_goOver_110_34_48 (lt31 c1) hk
      · exact e_Dead_goOver_110_34_48 (lt31 c1) hk
  · replace hk := kK_r hk
    refine q_ic 0 rfl rfl ?_
    refine Ev.s (ins := .istore_n 2) (pc' := 56) (lv' := [some (.ref 110), some (.ref 34), some (.int 0), none]) rfl rfl ?_
    exact e_Dead_goOver_110_34_L56 hk
set_option maxRecDepth 100000 in
theorem e_Dead_goOver_110_34_L11 {v2 : Int32} {x : Option Value × List mmC} (hk : (kO (fun r : Ob × Ob => (none, mh sc rest to fl r.1 tr mk cn nu r.2 ru la tb tf ph cs)) x) (Dead_goOver_L11 ma de v2)) : Ev mmPT tbX1_goOver 11 [some (.ref 110), some (.ref 34), some (.int v2), none] [] (mh sc rest to fl ma tr mk cn nu de ru la tb tf ph cs) x :=
  k_loop (B := (fun a : Int32 × Ob => Dead_goOver_L11b ma a.2 a.1)) (μ := fun a : Int32 × Ob => mu a.1) (E := fun a : Int32 × Ob => Ev mmPT tbX1_goOver 11 [some (.ref 110), some (.ref 34), some (.int a.1), none] [] (mh sc rest to fl ma tr mk cn nu a.2 ru la tb tf ph cs) x) (X := (kO (fun r : Ob × Ob => (none, mh sc rest to fl r.1 tr mk cn nu r.2 ru la tb tf ph cs)) x)) (fun a hk => e_Dead_goOver_110_34_L11b hk) (v2, de) hk
set_option maxRecDepth 100000 in
theorem e_Dead_goOver_110_34_0 {x : Option Value × List mmC} (hk : (kO (fun r : Ob × Ob => (none, mh sc rest to fl r.1 tr mk cn nu r.2 ru la tb tf ph cs)) x) (Dead_goOver ma de)) : Ev mmPT tbX1_goOver 0 [some (.ref 110), some (.ref 34), none, none] [] (mh sc rest to fl ma tr mk cn nu de ru la tb tf ph cs) x := by
  unfold Dead_goOver at hk
  refine Ev.s (ins := .aload_n 0) (pc' := 1) rfl rfl ?_
  refine gf_110_0 rfl ?_
  refine q_ic 0 rfl rfl ?_
  refine fl_111 rfl (Nat.le_of_ble_eq_true rfl) ?_
  refine q_bi 6 rfl rfl ?_
  refine Ev.s (ins := .istore_n 2) (pc' := 11) (lv' := [some (.ref 110), some (.ref 34), some (.int 6), none]) rfl rfl ?_
  exact e_Dead_goOver_110_34_L11 hk
set_option maxRecDepth 100000 in
theorem e_Dead_goOver_110_34 : Ev mmPT tbX1_goOver 0 [some (.ref 110), some (.ref 34), none, none] [] (mh sc rest to fl ma tr mk cn nu de ru la tb tf ph cs) ((fun r : Ob × Ob => (none, mh sc rest to fl r.1 tr mk cn nu r.2 ru la tb tf ph cs)) (Dead_goOver ma de)) := e_Dead_goOver_110_34_0 (by exact rfl)
end RF3
