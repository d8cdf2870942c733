/-! THE RUNS ARE THE FUNCTIONS, by program: 8 -/
section RF7
variable {sc : mmC} {rest : List mmC} {to fl ma tr mk cn nu de ru la tb tf ph : Ob} {cs : Int64}
set_option maxRecDepth 100000 in
theorem e_Dead_needArguments_110_61_55 {v2 : Int32} {v3 : Int32} {x : Option Value × List mmC} (b2 : v3 < 2147483647) (hk : (kK (fun a : Int32 × Ob => mu a.1) (mu v3) (fun a : Int32 × Ob => Ev mmPT tbX1_needArguments 2 [some (.ref 110), some (.ref 61), some (.int v2), some (.int a.1), none] [] (mh sc rest to fl ma tr mk cn nu a.2 ru la tb tf ph cs) x) (kO (fun r : Ob => (none, mh sc rest to fl ma tr mk cn nu r ru la tb tf ph cs)) x)) (Dead_needArguments_55 tr de v2 v3)) : Ev mmPT tbX1_needArguments 55 [some (.ref 110), some (.ref 61), some (.int v2), some (.int v3), none] [] (mh sc rest to fl ma tr mk cn nu de ru la tb tf ph cs) x := by
  unfold Dead_needArguments_55 at hk
  refine q_inc 1 [some (.ref 110), some (.ref 61), some (.int v2), some (.int (v3 + 1)), none] rfl rfl rfl rfl ?_
  refine Ev.goto rfl ?_
  replace hk := kK_l hk
  exact hk (mu_lt b2)
set_option maxRecDepth 100000 in
theorem e_Dead_needArguments_110_61_L2b {v2 : Int32} {v3 : Int32} {x : Option Value × List mmC} (hk : (kK (fun a : Int32 × Ob => mu a.1) (mu v3) (fun a : Int32 × Ob => Ev mmPT tbX1_needArguments 2 [some (.ref 110), some (.ref 61), some (.int v2), some (.int a.1), none] [] (mh sc rest to fl ma tr mk cn nu a.2 ru la tb tf ph cs) x) (kO (fun r : Ob => (none, mh sc rest to fl ma tr mk cn nu r ru la tb tf ph cs)) x)) (Dead_needArguments_L2b tr de v2 v3)) : Ev mmPT tbX1_needArguments 2 [some (.ref 110), some (.ref 61), some (.int v2), some (.int v3), none] [] (mh sc rest to fl ma tr mk cn nu de ru la tb tf ph cs) x := by
  unfold Dead_needArguments_L2b at hk
  refine Ev.s (ins := .iload_n 3) (pc' := 3) rfl rfl ?_
  refine Ev.s (ins := .aload_n 1) (pc' := 4) rfl rfl ?_
  refine gf_61_3 rfl ?_
  refine Ev.s (ins := .iload_n 2) (pc' := 8) rfl rfl ?_
  refine at_68 (oat tr 3 150 v2) rfl (Nat.le_of_ble_eq_true rfl) rfl ?_
  refine q_cge rfl hk (fun c1 hk => ?_) (fun c1 hk => ?_)
  · refine Ev.s (ins := .aload_n 1) (pc' := 15) rfl rfl ?_
    refine Ev.s (ins := .iload_n 2) (pc' := 16) rfl rfl ?_
    refine Ev.s (ins := .iload_n 3) (pc' := 17) rfl rfl ?_
    refine kc_X3_valueOf_0 rfl oi_61 rfl (Nat.le_of_ble_eq_true rfl) (e_Form_valueOf_61) ?_
    refine Ev.s (ins := .istore 4) (pc' := 22) (lv' := [some (.ref 110), some (.ref 61), some (.int v2), some (.int v3), some (.int (Form_valueOf tr v2 v3))]) rfl rfl ?_
    refine Ev.s (ins := .iload 4) (pc' := 24) rfl rfl ?_
    refine q_ic (-1) rfl rfl ?_
    refine q_ceq rfl hk (fun c2 hk => ?_) (fun c2 hk => ?_)
    · refine Ev.weak [some (.ref 110), some (.ref 61), some (.int v2), some (.int v3), none] ⟨rfl, rfl, rfl, rfl, rfl, trivial⟩ ?_
      exact e_Dead_needArguments_110_61_55 (lt31 c1) hk
    · refine Ev.s (ins := .aload_n 0) (pc' := 29) rfl rfl ?_
      refine gf_110_0 rfl ?_
      refine Ev.s (ins := .iload 4) (pc' := 34) rfl rfl ?_
      refine at_111 (oat de 0 140 (Form_valueOf tr v2 v3)) rfl (Nat.le_of_ble_eq_true rfl) rfl ?_
      refine q_ne rfl hk (fun c3 hk => ?_) (fun c3 hk => ?_)
      · refine Ev.s (ins := .aload_n 0) (pc' := 41) rfl rfl ?_
        refine gf_110_0 rfl ?_
        refine Ev.s (ins := .iload 4) (pc' := 46) rfl rfl ?_
        refine q_ic 1 rfl rfl ?_
        refine pt_111 rfl (Nat.le_of_ble_eq_true rfl) ?_
        refine Ev.s (ins := .aload_n 0) (pc' := 51) rfl rfl ?_
        refine q_ic 1 rfl rfl ?_
        refine pf_110_1 true rfl ?_
        refine Ev.weak [some (.ref 110), some (.ref 61), some (.int v2), some (.int v3), none] ⟨rfl, rfl, rfl, rfl, rfl, trivial⟩ ?_
        exact e_Dead_needArguments_110_61_55 (lt31 c1) hk
      · refine Ev.weak [some (.ref 110), some (.ref 61), some (.int v2), some (.int v3), none] ⟨rfl, rfl, rfl, rfl, rfl, trivial⟩ ?_
        exact e_Dead_needArguments_110_61_55 (lt31 c1) hk
  · replace hk := kK_r hk
    exact Ev.vret rfl rfl hk
set_option maxRecDepth 100000 in
theorem e_Dead_needArguments_110_61_L2 {v2 : Int32} {v3 : Int32} {x : Option Value × List mmC} (hk : (kO (fun r : Ob => (none, mh sc rest to fl ma tr mk cn nu r ru la tb tf ph cs)) x) (Dead_needArguments_L2 tr de v2 v3)) : Ev mmPT tbX1_needArguments 2 [some (.ref 110), some (.ref 61), some (.int v2), some (.int v3), none] [] (mh sc rest to fl ma tr mk cn nu de ru la tb tf ph cs) x :=
  k_loop (B := (fun a : Int32 × Ob => Dead_needArguments_L2b tr a.2 v2 a.1)) (μ := fun a : Int32 × Ob => mu a.1) (E := fun a : Int32 × Ob => Ev mmPT tbX1_needArguments 2 [some (.ref 110), some (.ref 61), some (.int v2), some (.int a.1), none] [] (mh sc rest to fl ma tr mk cn nu a.2 ru la tb tf ph cs) x) (X := (kO (fun r : Ob => (none, mh sc rest to fl ma tr mk cn nu r ru la tb tf ph cs)) x)) (fun a hk => e_Dead_needArguments_110_61_L2b hk) (v3, de) hk
set_option maxRecDepth 100000 in
theorem e_Dead_needArguments_110_61_0 {v2 : Int32} {x : Option Value × List mmC} (hk : (kO (fun r : Ob => (none, mh sc rest to fl ma tr mk cn nu r ru la tb tf ph cs)) x) (Dead_needArguments tr de v2)) : Ev mmPT tbX1_needArguments 0 [some (.ref 110), some (.ref 61), some (.int v2), none, none] [] (mh sc rest to fl ma tr mk cn nu de ru la tb tf ph cs) x := by
  unfold Dead_needArguments at hk
  refine q_ic 0 rfl rfl ?_
  refine Ev.s (ins := .istore_n 3) (pc' := 2) (lv' := [some (.ref 110), some (.ref 61), some (.int v2), some (.int 0), none]) rfl rfl ?_
  exact e_Dead_needArguments_110_61_L2 hk
set_option maxRecDepth 100000 in
theorem e_Dead_needArguments_110_61 {v2 : Int32} : Ev mmPT tbX1_needArguments 0 [some (.ref 110), some (.ref 61), some (.int v2), none, none] [] (mh sc rest to fl ma tr mk cn nu de ru la tb tf ph cs) ((fun r : Ob => (none, mh sc rest to fl ma tr mk cn nu r ru la tb tf ph cs)) (Dead_needArguments tr de v2)) := e_Dead_needArguments_110_61_0 (by exact rfl)
set_option maxRecDepth 100000 in
theorem e_Dead_loseOthers_110_61_27 {v2 : Int32} {x : Option Value × List mmC} (b3 : v2 < 2147483647) (hk : (kK (fun a : Int32 × Ob => mu a.1) (mu v2) (fun a : Int32 × Ob => Ev mmPT tbX1_loseOthers 3 [some (.ref 110), some (.ref 61), some (.int a.1)] [] (mh sc rest to fl ma a.2 mk cn nu de ru la tb tf ph cs) x) (kO (fun r : Ob => (none, mh sc rest to fl ma r mk cn nu de ru la tb tf ph cs)) x)) (Dead_loseOthers_27 tr de v2)) : Ev mmPT tbX1_loseOthers 27 [some (.ref 110), some (.ref 61), some (.int v2)] [] (mh sc rest to fl ma tr mk cn nu de ru la tb tf ph cs) x := by
  unfold Dead_loseOthers_27 at hk
  refine q_inc 1 [some (.ref 110), some (.ref 61), some (.int (v2 + 1))] rfl rfl rfl rfl ?_
  refine Ev.goto rfl ?_
  replace hk := kK_l hk
  exact hk (mu_lt b3)
set_option maxRecDepth 100000 in
theorem e_Dead_loseOthers_110_61_L3b {v2 : Int32} {x : Option Value × List mmC} (hk : (kK (fun a : Int32 × Ob => mu a.1) (mu v2) (fun a : Int32 × Ob => Ev mmPT tbX1_loseOthers 3 [some (.ref 110), some (.ref 61), some (.int a.1)] [] (mh sc rest to fl ma a.2 mk cn nu de ru la tb tf ph cs) x) (kO (fun r : Ob => (none, mh sc rest to fl ma r mk cn nu de ru la tb tf ph cs)) x)) (Dead_loseOthers_L3b tr de v2)) : Ev mmPT tbX1_loseOthers 3 [some (.ref 110), some (.ref 61), some (.int v2)] [] (mh sc rest to fl ma tr mk cn nu de ru la tb tf ph cs) x := by
  unfold Dead_loseOthers_L3b at hk
  refine Ev.s (ins := .iload_n 2) (pc' := 4) rfl rfl ?_
  refine Ev.s (ins := .aload_n 1) (pc' := 5) rfl rfl ?_
  refine gf_61_15 (tr.2.1 2) rfl rfl ?_
  refine q_cge rfl hk (fun c1 hk => ?_) (fun c1 hk => ?_)
  · refine Ev.s (ins := .aload_n 0) (pc' := 12) rfl rfl ?_
    refine gf_110_0 rfl ?_
    refine Ev.s (ins := .iload_n 2) (pc' := 16) rfl rfl ?_
    refine at_111 (oat de 0 140 v2) rfl (Nat.le_of_ble_eq_true rfl) rfl ?_
    refine q_ne rfl hk (fun c2 hk => ?_) (fun c2 hk => ?_)
    · refine Ev.s (ins := .aload_n 1) (pc' := 23) rfl rfl ?_
      refine Ev.s (ins := .iload_n 2) (pc' := 24) rfl rfl ?_
      refine kc_X3_lose_0 rfl oi_61 rfl (Nat.le_of_ble_eq_true rfl) (e_Form_lose_61) ?_
      exact e_Dead_loseOthers_110_61_27 (lt31 c1) hk
    · exact e_Dead_loseOthers_110_61_27 (lt31 c1) hk
  · replace hk := kK_r hk
    exact Ev.vret rfl rfl hk
set_option maxRecDepth 100000 in
theorem e_Dead_loseOthers_110_61_L3 {v2 : Int32} {x : Option Value × List mmC} (hk : (kO (fun r : Ob => (none, mh sc rest to fl ma r mk cn nu de ru la tb tf ph cs)) x) (Dead_loseOthers_L3 tr de v2)) : Ev mmPT tbX1_loseOthers 3 [some (.ref 110), some (.ref 61), some (.int v2)] [] (mh sc rest to fl ma tr mk cn nu de ru la tb tf ph cs) x :=
  k_loop (B := (fun a : Int32 × Ob => Dead_loseOthers_L3b a.2 de a.1)) (μ := fun a : Int32 × Ob => mu a.1) (E := fun a : Int32 × Ob => Ev mmPT tbX1_loseOthers 3 [some (.ref 110), some (.ref 61), some (.int a.1)] [] (mh sc rest to fl ma a.2 mk cn nu de ru la tb tf ph cs) x) (X := (kO (fun r : Ob => (none, mh sc rest to fl ma r mk cn nu de ru la tb tf ph cs)) x)) (fun a hk => e_Dead_loseOthers_110_61_L3b hk) (v2, tr) hk
set_option maxRecDepth 100000 in
theorem e_Dead_loseOthers_110_61_0 {x : Option Value × List mmC} (hk : (kO (fun r : Ob => (none, mh sc rest to fl ma r mk cn nu de ru la tb tf ph cs)) x) (Dead_loseOthers tr de)) : Ev mmPT tbX1_loseOthers 0 [some (.ref 110), some (.ref 61), none] [] (mh sc rest to fl ma tr mk cn nu de ru la tb tf ph cs) x := by
  unfold Dead_loseOthers at hk
  refine q_bi 6 rfl rfl ?_
  refine Ev.s (ins := .istore_n 2) (pc' := 3) (lv' := [some (.ref 110), some (.ref 61), some (.int 6)]) rfl rfl ?_
  exact e_Dead_loseOthers_110_61_L3 hk
set_option maxRecDepth 100000 in
theorem e_Dead_loseOthers_110_61 : Ev mmPT tbX1_loseOthers 0 [some (.ref 110), some (.ref 61), none] [] (mh sc rest to fl ma tr mk cn nu de ru la tb tf ph cs) ((fun r : Ob => (none, mh sc rest to fl ma r mk cn nu de ru la tb tf ph cs)) (Dead_loseOthers tr de)) := e_Dead_loseOthers_110_61_0 (by exact rfl)
set_option maxRecDepth 100000 in
theorem e_Dead_goOver_110_61_48 {v2 : Int32} {x : Option Value × List mmC} (b11 : v2 < 2147483647) (hk : (kK (fun a : Int32 × Ob => mu a.1) (mu v2) (fun a : Int32 × Ob => Ev mmPT tbX1_goOver 11 [some (.ref 110), some (.ref 61), some (.int a.1), none] [] (mh sc rest to fl ma tr mk cn nu a.2 ru la tb tf ph cs) x) (kO (fun r : Ob × Ob => (none, mh sc rest to fl ma r.1 mk cn nu r.2 ru la tb tf ph cs)) x)) (Dead_goOver_48 tr de v2)) : Ev mmPT tbX1_goOver 48 [some (.ref 110), some (.ref 61), some (.int v2), none] [] (mh sc rest to fl ma tr mk cn nu de ru la tb tf ph cs) x := by
  unfold Dead_goOver_48 at hk
  refine q_inc 1 [some (.ref 110), some (.ref 61), some (.int (v2 + 1)), none] rfl rfl rfl rfl ?_
  refine Ev.goto rfl ?_
  replace hk := kK_l hk
  exact hk (mu_lt b11)
set_option maxRecDepth 100000 in
theorem e_Dead_goOver_110_61_147 {x : Option Value × List mmC} (hk : (kO (fun r : Ob × Ob => (none, mh sc rest to fl ma r.1 mk cn nu r.2 ru la tb tf ph cs)) x) (Dead_goOver_147 tr de)) : Ev mmPT tbX1_goOver 147 [some (.ref 110), some (.ref 61), none, none] [] (mh sc rest to fl ma tr mk cn nu de ru la tb tf ph cs) x := by
  unfold Dead_goOver_147 at hk
  refine Ev.s (ins := .aload_n 0) (pc' := 148) rfl rfl ?_
  refine Ev.s (ins := .aload_n 1) (pc' := 149) rfl rfl ?_
  refine kc_X1_loseOthers_0 rfl oi_110 rfl (Nat.le_of_ble_eq_true rfl) (e_Dead_loseOthers_110_61) ?_
  exact Ev.vret rfl rfl hk
set_option maxRecDepth 100000 in
theorem e_Dead_goOver_110_61_135 {v2 : Int32} {v3 : Int32} {x : Option Value × List mmC} (b87 : v2 < 2147483647) (b109 : v3 < 2147483647) (hk : (kK (fun a : Int32 × Ob => mu a.1) (mu v3) (fun a : Int32 × Ob => Ev mmPT tbX1_goOver 109 [some (.ref 110), some (.ref 61), some (.int v2), some (.int a.1)] [] (mh sc rest to fl ma tr mk cn nu a.2 ru la tb tf ph cs) x) (kK (fun a : Int32 × Ob => mu a.1) (mu v2) (fun a : Int32 × Ob => Ev mmPT tbX1_goOver 87 [some (.ref 110), some (.ref 61), some (.int a.1), none] [] (mh sc rest to fl ma tr mk cn nu a.2 ru la tb tf ph cs) x) (kO (fun r : Ob × Ob => (none, mh sc rest to fl ma r.1 mk cn nu r.2 ru la tb tf ph cs)) x))) (Dead_goOver_135 tr de v2 v3)) : Ev mmPT tbX1_goOver 135 [some (.ref 110), some (.ref 61), some (.int v2), some (.int v3)] [] (mh sc rest to fl ma tr mk cn nu de ru la tb tf ph cs) x := by
  unfold Dead_goOver_135 at hk
  refine q_inc 1 [some (.ref 110), some (.ref 61), some (.int v2), some (.int (v3 + 1))] rfl rfl rfl rfl ?_
  refine Ev.goto rfl ?_
  replace hk := kK_l hk
  exact hk (mu_lt b109)
set_option maxRecDepth 100000 in
theorem e_Dead_goOver_110_61_L109b {v2 : Int32} {v3 : Int32} {x : Option Value × List mmC} (b87 : v2 < 2147483647) (hk : (kK (fun a : Int32 × Ob => mu a.1) (mu v3) (fun a : Int32 × Ob => Ev mmPT tbX1_goOver 109 [some (.ref 110), some (.ref 61), some (.int v2), some (.int a.1)] [] (mh sc rest to fl ma tr mk cn nu a.2 ru la tb tf ph cs) x) (kK (fun a : Int32 × Ob => mu a.1) (mu v2) (fun a : Int32 × Ob => Ev mmPT tbX1_goOver 87 [some (.ref 110), some (.ref 61), some (.int a.1), none] [] (mh sc rest to fl ma tr mk cn nu a.2 ru la tb tf ph cs) x) (kO (fun r : Ob × Ob => (none, mh sc rest to fl ma r.1 mk cn nu r.2 ru la tb tf ph cs)) x))) (Dead_goOver_L109b tr de v2 v3)) : Ev mmPT tbX1_goOver 109 [some (.ref 110), some (.ref 61), some (.int v2), some (.int v3)] [] (mh sc rest to fl ma tr mk cn nu de ru la tb tf ph cs) x := by
  unfold Dead_goOver_L109b at hk
  refine Ev.s (ins := .iload_n 3) (pc' := 110) rfl rfl ?_
  refine Ev.s (ins := .aload_n 1) (pc' := 111) rfl rfl ?_
  refine gf_61_15 (tr.2.1 2) rfl rfl ?_
  refine q_cge rfl hk (fun c1 hk => ?_) (fun c1 hk => ?_)
  · refine Ev.s (ins := .aload_n 0) (pc' := 118) rfl rfl ?_
    refine gf_110_0 rfl ?_
    refine Ev.s (ins := .iload_n 3) (pc' := 122) rfl rfl ?_
    refine at_111 (oat de 0 140 v3) rfl (Nat.le_of_ble_eq_true rfl) rfl ?_
    refine q_ic 1 rfl rfl ?_
    refine q_cne rfl hk (fun c2 hk => ?_) (fun c2 hk => ?_)
    · refine Ev.s (ins := .aload_n 0) (pc' := 130) rfl rfl ?_
      refine Ev.s (ins := .aload_n 1) (pc' := 131) rfl rfl ?_
      refine Ev.s (ins := .iload_n 3) (pc' := 132) rfl rfl ?_
      refine kc_X1_needArguments_0 rfl oi_110 rfl (Nat.le_of_ble_eq_true rfl) (e_Dead_needArguments_110_61) ?_
      exact e_Dead_goOver_110_61_135 b87 (lt31 c1) hk
    · exact e_Dead_goOver_110_61_135 b87 (lt31 c1) hk
  · replace hk := kK_r hk
    refine q_inc 1 [some (.ref 110), some (.ref 61), some (.int (v2 + 1)), some (.int v3)] rfl rfl rfl rfl ?_
    refine Ev.goto rfl ?_
    refine Ev.weak [some (.ref 110), some (.ref 61), some (.int (v2 + 1)), none] ⟨rfl, rfl, rfl, rfl, trivial⟩ ?_
    replace hk := kK_l hk
    exact hk (mu_lt b87)
set_option maxRecDepth 100000 in
theorem e_Dead_goOver_110_61_L109 {v2 : Int32} {v3 : Int32} {x : Option Value × List mmC} (b87 : v2 < 2147483647) (hk : (kK (fun a : Int32 × Ob => mu a.1) (mu v2) (fun a : Int32 × Ob => Ev mmPT tbX1_goOver 87 [some (.ref 110), some (.ref 61), some (.int a.1), none] [] (mh sc rest to fl ma tr mk cn nu a.2 ru la tb tf ph cs) x) (kO (fun r : Ob × Ob => (none, mh sc rest to fl ma r.1 mk cn nu r.2 ru la tb tf ph cs)) x)) (Dead_goOver_L109 tr de v2 v3)) : Ev mmPT tbX1_goOver 109 [some (.ref 110), some (.ref 61), some (.int v2), some (.int v3)] [] (mh sc rest to fl ma tr mk cn nu de ru la tb tf ph cs) x :=
  k_loop (B := (fun a : Int32 × Ob => Dead_goOver_L109b tr a.2 v2 a.1)) (μ := fun a : Int32 × Ob => mu a.1) (E := fun a : Int32 × Ob => Ev mmPT tbX1_goOver 109 [some (.ref 110), some (.ref 61), some (.int v2), some (.int a.1)] [] (mh sc rest to fl ma tr mk cn nu a.2 ru la tb tf ph cs) x) (X := (kK (fun a : Int32 × Ob => mu a.1) (mu v2) (fun a : Int32 × Ob => Ev mmPT tbX1_goOver 87 [some (.ref 110), some (.ref 61), some (.int a.1), none] [] (mh sc rest to fl ma tr mk cn nu a.2 ru la tb tf ph cs) x) (kO (fun r : Ob × Ob => (none, mh sc rest to fl ma r.1 mk cn nu r.2 ru la tb tf ph cs)) x))) (fun a hk => e_Dead_goOver_110_61_L109b b87 hk) (v3, de) hk
set_option maxRecDepth 100000 in
theorem e_Dead_goOver_110_61_L87b {v2 : Int32} {x : Option Value × List mmC} (hk : (kK (fun a : Int32 × Ob => mu a.1) (mu v2) (fun a : Int32 × Ob => Ev mmPT tbX1_goOver 87 [some (.ref 110), some (.ref 61), some (.int a.1), none] [] (mh sc rest to fl ma tr mk cn nu a.2 ru la tb tf ph cs) x) (kO (fun r : Ob × Ob => (none, mh sc rest to fl ma r.1 mk cn nu r.2 ru la tb tf ph cs)) x)) (Dead_goOver_L87b tr de v2)) : Ev mmPT tbX1_goOver 87 [some (.ref 110), some (.ref 61), some (.int v2), none] [] (mh sc rest to fl ma tr mk cn nu de ru la tb tf ph cs) x := by
  unfold Dead_goOver_L87b at hk
  refine Ev.s (ins := .aload_n 0) (pc' := 88) rfl rfl ?_
  refine gf_110_1 (de.2.2 0) rfl rfl ?_
  refine q_beq rfl hk (fun c1 hk => ?_) (fun c1 hk => ?_)
  · refine Ev.s (ins := .iload_n 2) (pc' := 95) rfl rfl ?_
    refine q_si 140 rfl rfl ?_
    refine q_cgt rfl hk (fun c2 hk => ?_) (fun c2 hk => ?_)
    · replace hk := kK_r hk
      refine Ev.weak [some (.ref 110), some (.ref 61), none, none] ⟨rfl, rfl, rfl, rfl, trivial⟩ ?_
      exact e_Dead_goOver_110_61_147 hk
    · refine Ev.s (ins := .aload_n 0) (pc' := 102) rfl rfl ?_
      refine q_ic 0 rfl rfl ?_
      refine pf_110_1 false rfl ?_
      refine q_bi 6 rfl rfl ?_
      refine Ev.s (ins := .istore_n 3) (pc' := 109) (lv' := [some (.ref 110), some (.ref 61), some (.int v2), some (.int 6)]) rfl rfl ?_
      exact e_Dead_goOver_110_61_L109 (le31 (by decide) c2) hk
  · replace hk := kK_r hk
    refine Ev.weak [some (.ref 110), some (.ref 61), none, none] ⟨rfl, rfl, rfl, rfl, trivial⟩ ?_
    exact e_Dead_goOver_110_61_147 hk
set_option maxRecDepth 100000 in
theorem e_Dead_goOver_110_61_L87 {v2 : Int32} {x : Option Value × List mmC} (hk : (kO (fun r : Ob × Ob => (none, mh sc rest to fl ma r.1 mk cn nu r.2 ru la tb tf ph cs)) x) (Dead_goOver_L87 tr de v2)) : Ev mmPT tbX1_goOver 87 [some (.ref 110), some (.ref 61), some (.int v2), none] [] (mh sc rest to fl ma tr mk cn nu de ru la tb tf ph cs) x :=
  k_loop (B := (fun a : Int32 × Ob => Dead_goOver_L87b tr a.2 a.1)) (μ := fun a : Int32 × Ob => mu a.1) (E := fun a : Int32 × Ob => Ev mmPT tbX1_goOver 87 [some (.ref 110), some (.ref 61), some (.int a.1), none] [] (mh sc rest to fl ma tr mk cn nu a.2 ru la tb tf ph cs) x) (X := (kO (fun r : Ob × Ob => (none, mh sc rest to fl ma r.1 mk cn nu r.2 ru la tb tf ph cs)) x)) (fun a hk => e_Dead_goOver_110_61_L87b hk) (v2, de) hk
set_option maxRecDepth 100000 in
theorem e_Dead_goOver_110_61_L56b {v2 : Int32} {x : Option Value × List mmC} (hk : (kK (fun a : Int32 × Ob => mu a.1) (mu v2) (fun a : Int32 × Ob => Ev mmPT tbX1_goOver 56 [some (.ref 110), some (.ref 61), some (.int a.1), none] [] (mh sc rest to fl ma tr mk cn nu a.2 ru la tb tf ph cs) x) (kO (fun r : Ob × Ob => (none, mh sc rest to fl ma r.1 mk cn nu r.2 ru la tb tf ph cs)) x)) (Dead_goOver_L56b tr de v2)) : Ev mmPT tbX1_goOver 56 [some (.ref 110), some (.ref 61), some (.int v2), none] [] (mh sc rest to fl ma tr mk cn nu de ru la tb tf ph cs) x := by
  unfold Dead_goOver_L56b at hk
  refine Ev.s (ins := .iload_n 2) (pc' := 57) rfl rfl ?_
  refine Ev.s (ins := .aload_n 1) (pc' := 58) rfl rfl ?_
  refine gf_61_13 (tr.2.1 0) rfl rfl ?_
  refine q_cge rfl hk (fun c1 hk => ?_) (fun c1 hk => ?_)
  · refine Ev.s (ins := .aload_n 0) (pc' := 65) rfl rfl ?_
    refine Ev.s (ins := .aload_n 1) (pc' := 66) rfl rfl ?_
    refine q_si 140 rfl rfl ?_
    refine Ev.s (ins := .iload_n 2) (pc' := 70) rfl rfl ?_
    refine Ev.s (ins := .iadd) (pc' := 71) rfl rfl ?_
    refine kc_X1_needArguments_0 rfl oi_110 rfl (Nat.le_of_ble_eq_true rfl) (e_Dead_needArguments_110_61) ?_
    refine q_inc 1 [some (.ref 110), some (.ref 61), some (.int (v2 + 1)), none] rfl rfl rfl rfl ?_
    refine Ev.goto rfl ?_
    replace hk := kK_l hk
    exact hk (mu_lt (lt31 c1))
  · replace hk := kK_r hk
    refine Ev.s (ins := .aload_n 0) (pc' := 81) rfl rfl ?_
    refine q_ic 1 rfl rfl ?_
    refine pf_110_1 true rfl ?_
    refine q_ic 0 rfl rfl ?_
    refine Ev.s (ins := .istore_n 2) (pc' := 87) (lv' := [some (.ref 110), some (.ref 61), some (.int 0), none]) rfl rfl ?_
    exact e_Dead_goOver_110_61_L87 hk
set_option maxRecDepth 100000 in
theorem e_Dead_goOver_110_61_L56 {v2 : Int32} {x : Option Value × List mmC} (hk : (kO (fun r : Ob × Ob => (none, mh sc rest to fl ma r.1 mk cn nu r.2 ru la tb tf ph cs)) x) (Dead_goOver_L56 tr de v2)) : Ev mmPT tbX1_goOver 56 [some (.ref 110), some (.ref 61), some (.int v2), none] [] (mh sc rest to fl ma tr mk cn nu de ru la tb tf ph cs) x :=
  k_loop (B := (fun a : Int32 × Ob => Dead_goOver_L56b tr a.2 a.1)) (μ := fun a : Int32 × Ob => mu a.1) (E := fun a : Int32 × Ob => Ev mmPT tbX1_goOver 56 [some (.ref 110), some (.ref 61), some (.int a.1), none] [] (mh sc rest to fl ma tr mk cn nu a.2 ru la tb tf ph cs) x) (X := (kO (fun r : Ob × Ob => (none, mh sc rest to fl ma r.1 mk cn nu r.2 ru la tb tf ph cs)) x)) (fun a hk => e_Dead_goOver_110_61_L56b hk) (v2, de) hk
set_option maxRecDepth 100000 in
theorem e_Dead_goOver_110_61_L11b {v2 : Int32} {x : Option Value × List mmC} (hk : (kK (fun a : Int32 × Ob => mu a.1) (mu v2) (fun a : Int32 × Ob => Ev mmPT tbX1_goOver 11 [some (.ref 110), some (.ref 61), some (.int a.1), none] [] (mh sc rest to fl ma tr mk cn nu a.2 ru la tb tf ph cs) x) (kO (fun r : Ob × Ob => (none, mh sc rest to fl ma r.1 mk cn nu r.2 ru la tb tf ph cs)) x)) (Dead_goOver_L11b tr de v2)) : Ev mmPT tbX1_goOver 11 [some (.ref 110), some (.ref 61), some (.int v2), none] [] (mh sc rest to fl ma tr mk cn nu de ru la tb tf ph cs) x := by
  unfold Dead_goOver_L11b at hk
  refine Ev.s (ins := .iload_n 2) (pc' := 12) rfl rfl ?_
  refine Ev.s (ins := .aload_n 1) (pc' := 13) rfl rfl ?_
  refine gf_61_15 (tr.2.1 2) rfl rfl ?_
  refine q_cge rfl hk (fun c1 hk => ?_) (fun c1 hk => ?_)
  · refine Ev.s (ins := .aload_n 1) (pc' := 20) rfl rfl ?_
    refine gf_61_1 rfl ?_
    refine Ev.s (ins := .iload_n 2) (pc' := 24) rfl rfl ?_
    refine at_64 (oat tr 1 140 v2) rfl (Nat.le_of_ble_eq_true rfl) rfl ?_
    refine q_ic (-1) rfl rfl ?_
    refine q_ceq rfl hk (fun c2 hk => ?_) (fun c2 hk => ?_)
    · exact e_Dead_goOver_110_61_48 (lt31 c1) hk
    · refine Ev.s (ins := .aload_n 1) (pc' := 32) rfl rfl ?_
      refine Ev.s (ins := .iload_n 2) (pc' := 33) rfl rfl ?_
      refine kc_X1_isNeededBySelf_2 rfl (Nat.le_of_ble_eq_true rfl) (e_Dead_isNeededBySelf_61) ?_
      refine q_beq rfl hk (fun c3 hk => ?_) (fun c3 hk => ?_)
      · refine Ev.s (ins := .aload_n 0) (pc' := 40) rfl rfl ?_
        refine gf_110_0 rfl ?_
        refine Ev.s (ins := .iload_n 2) (pc' := 44) rfl rfl ?_
        refine q_ic 1 rfl rfl ?_
        refine pt_111 rfl (Nat.le_of_ble_eq_true rfl) ?_
        exact e_Dead_goOver_110_61_48 (lt31 c1) hk
      · exact e_Dead_goOver_110_61_48 (lt31 c1) hk
  · replace hk := kK_r hk
    refine q_ic 0 rfl rfl ?_
    refine Ev.s (ins := .istore_n 2) (pc' := 56) (lv' := [some (.ref 110), some (.ref 61), some (.int 0), none]) rfl rfl ?_
    exact e_Dead_goOver_110_61_L56 hk
set_option maxRecDepth 100000 in
theorem e_Dead_goOver_110_61_L11 {v2 : Int32} {x : Option Value × List mmC} (hk : (kO (fun r : Ob × Ob => (none, mh sc rest to fl ma r.1 mk cn nu r.2 ru la tb tf ph cs)) x) (Dead_goOver_L11 tr de v2)) : Ev mmPT tbX1_goOver 11 [some (.ref 110), some (.ref 61), some (.int v2), none] [] (mh sc rest to fl ma tr mk cn nu de ru la tb tf ph cs) x :=
  k_loop (B := (fun a : Int32 × Ob => Dead_goOver_L11b tr a.2 a.1)) (μ := fun a : Int32 × Ob => mu a.1) (E := fun a : Int32 × Ob => Ev mmPT tbX1_goOver 11 [some (.ref 110), some (.ref 61), some (.int a.1), none] [] (mh sc rest to fl ma tr mk cn nu a.2 ru la tb tf ph cs) x) (X := (kO (fun r : Ob × Ob => (none, mh sc rest to fl ma r.1 mk cn nu r.2 ru la tb tf ph cs)) x)) (fun a hk => e_Dead_goOver_110_61_L11b hk) (v2, de) hk
set_option maxRecDepth 100000 in
theorem e_Dead_goOver_110_61_0 {x : Option Value × List mmC} (hk : (kO (fun r : Ob × Ob => (none, mh sc rest to fl ma r.1 mk cn nu r.2 ru la tb tf ph cs)) x) (Dead_goOver tr de)) : Ev mmPT tbX1_goOver 0 [some (.ref 110), some (.ref 61), none, none] [] (mh sc rest to fl ma tr mk cn nu de ru la tb tf ph cs) x := by
  unfold Dead_goOver at hk
  refine Ev.s (ins := .aload_n 0) (pc' := 1) rfl rfl ?_
  refine gf_110_0 rfl ?_
  refine q_ic 0 rfl rfl ?_
  refine fl_111 rfl (Nat.le_of_ble_eq_true rfl) ?_
  refine q_bi 6 rfl rfl ?_
  refine Ev.s (ins := .istore_n 2) (pc' := 11) (lv' := [some (.ref 110), some (.ref 61), some (.int 6), none]) rfl rfl ?_
  exact e_Dead_goOver_110_61_L11 hk
set_option maxRecDepth 100000 in
theorem e_Dead_goOver_110_61 : Ev mmPT tbX1_goOver 0 [some (.ref 110), some (.ref 61), none, none] [] (mh sc rest to fl ma tr mk cn nu de ru la tb tf ph cs) ((fun r : Ob × Ob => (none, mh sc rest to fl ma r.1 mk cn nu r.2 ru la tb tf ph cs)) (Dead_goOver tr de)) := e_Dead_goOver_110_61_0 (by exact rfl)
set_option maxRecDepth 100000 in
theorem e_Joiner_firstToJoin_61_63 {v1 : Int32} {x : Option Value × List mmC} (b2 : v1 < 2147483647) (hk : (kK (fun a : Int32 => mu a) (mu v1) (fun a : Int32 => Ev mmPT tbX4_firstToJoin 2 [some (.ref 61), some (.int a), none] [] (mh sc rest to fl ma tr mk cn nu de ru la tb tf ph cs) x) (kO (fun r : Int32 => (some (.int r), mh sc rest to fl ma tr mk cn nu de ru la tb tf ph cs)) x)) (Joiner_firstToJoin_63 tr v1)) : Ev mmPT tbX4_firstToJoin 63 [some (.ref 61), some (.int v1), none] [] (mh sc rest to fl ma tr mk cn nu de ru la tb tf ph cs) x := by
  unfold Joiner_firstToJoin_63 at hk
  refine q_inc 1 [some (.ref 61), some (.int (v1 + 1)), none] rfl rfl rfl rfl ?_
  refine Ev.goto rfl ?_
  replace hk := kK_l hk
  exact hk (mu_lt b2)
set_option maxRecDepth 100000 in
theorem e_Joiner_firstToJoin_61_L2b {v1 : Int32} {x : Option Value × List mmC} (hk : (kK (fun a : Int32 => mu a) (mu v1) (fun a : Int32 => Ev mmPT tbX4_firstToJoin 2 [some (.ref 61), some (.int a), none] [] (mh sc rest to fl ma tr mk cn nu de ru la tb tf ph cs) x) (kO (fun r : Int32 => (some (.int r), mh sc rest to fl ma tr mk cn nu de ru la tb tf ph cs)) x)) (Joiner_firstToJoin_L2b tr v1)) : Ev mmPT tbX4_firstToJoin 2 [some (.ref 61), some (.int v1), none] [] (mh sc rest to fl ma tr mk cn nu de ru la tb tf ph cs) x := by
  unfold Joiner_firstToJoin_L2b at hk
  refine Ev.s (ins := .iload_n 1) (pc' := 3) rfl rfl ?_
  refine Ev.s (ins := .aload_n 0) (pc' := 4) rfl rfl ?_
  refine gf_61_13 (tr.2.1 0) rfl rfl ?_
  refine q_cge rfl hk (fun c1 hk => ?_) (fun c1 hk => ?_)
  · refine Ev.s (ins := .aload_n 0) (pc' := 11) rfl rfl ?_
    refine gf_61_12 rfl ?_
    refine Ev.s (ins := .iload_n 1) (pc' := 15) rfl rfl ?_
    refine q_ic 2 rfl rfl ?_
    refine Ev.s (ins := .imul) (pc' := 17) rfl rfl ?_
    refine at_86 (oat tr 12 20 (v1 * 2)) rfl (Nat.le_of_ble_eq_true rfl) rfl ?_
    refine Ev.s (ins := .istore_n 2) (pc' := 21) (lv' := [some (.ref 61), some (.int v1), some (.int (oat tr 12 20 (v1 * 2)))]) rfl rfl ?_
    refine Ev.s (ins := .aload_n 0) (pc' := 22) rfl rfl ?_
    refine gf_61_14 (tr.2.1 1) rfl rfl ?_
    refine Ev.s (ins := .iload_n 1) (pc' := 26) rfl rfl ?_
    refine kc_X11_has_3 rfl (Nat.le_of_ble_eq_true rfl) (e_Ph_has) ?_
    refine q_beq rfl hk (fun c2 hk => ?_) (fun c2 hk => ?_)
    · refine Ev.s (ins := .aload_n 0) (pc' := 33) rfl rfl ?_
      refine gf_61_11 rfl ?_
      refine Ev.s (ins := .iload_n 1) (pc' := 37) rfl rfl ?_
      refine at_84 (oat tr 11 10 v1) rfl (Nat.le_of_ble_eq_true rfl) rfl ?_
      refine q_ic 1 rfl rfl ?_
      refine q_cne rfl hk (fun c3 hk => ?_) (fun c3 hk => ?_)
      · refine Ev.s (ins := .iload_n 2) (pc' := 45) rfl rfl ?_
        refine Ev.s (ins := .iload_n 1) (pc' := 46) rfl rfl ?_
        refine q_ceq rfl hk (fun c4 hk => ?_) (fun c4 hk => ?_)
        · refine Ev.weak [some (.ref 61), some (.int v1), none] ⟨rfl, rfl, rfl, trivial⟩ ?_
          exact e_Joiner_firstToJoin_61_63 (lt31 c1) hk
        · refine Ev.s (ins := .aload_n 0) (pc' := 50) rfl rfl ?_
          refine gf_61_9 rfl ?_
          refine Ev.s (ins := .iload_n 2) (pc' := 54) rfl rfl ?_
          refine at_80 (oat tr 9 10 (oat tr 12 20 (v1 * 2))) rfl (Nat.le_of_ble_eq_true rfl) rfl ?_
          refine q_ic 1 rfl rfl ?_
          refine q_cne rfl hk (fun c5 hk => ?_) (fun c5 hk => ?_)
          · replace hk := kK_r hk
            refine Ev.s (ins := .iload_n 1) (pc' := 62) rfl rfl ?_
            exact Ev.iret rfl rfl hk
          · refine Ev.weak [some (.ref 61), some (.int v1), none] ⟨rfl, rfl, rfl, trivial⟩ ?_
            exact e_Joiner_firstToJoin_61_63 (lt31 c1) hk
      · refine Ev.weak [some (.ref 61), some (.int v1), none] ⟨rfl, rfl, rfl, trivial⟩ ?_
        exact e_Joiner_firstToJoin_61_63 (lt31 c1) hk
    · refine Ev.weak [some (.ref 61), some (.int v1), none] ⟨rfl, rfl, rfl, trivial⟩ ?_
      exact e_Joiner_firstToJoin_61_63 (lt31 c1) hk
  · replace hk := kK_r hk
    refine q_ic (-1) rfl rfl ?_
    exact Ev.iret rfl rfl hk
set_option maxRecDepth 100000 in
theorem e_Joiner_firstToJoin_61_L2 {v1 : Int32} {x : Option Value × List mmC} (hk : (kO (fun r : Int32 => (some (.int r), mh sc rest to fl ma tr mk cn nu de ru la tb tf ph cs)) x) (Joiner_firstToJoin_L2 tr v1)) : Ev mmPT tbX4_firstToJoin 2 [some (.ref 61), some (.int v1), none] [] (mh sc rest to fl ma tr mk cn nu de ru la tb tf ph cs) x :=
  k_loop (B := (fun a : Int32 => Joiner_firstToJoin_L2b tr a)) (μ := fun a : Int32 => mu a) (E := fun a : Int32 => Ev mmPT tbX4_firstToJoin 2 [some (.ref 61), some (.int a), none] [] (mh sc rest to fl ma tr mk cn nu de ru la tb tf ph cs) x) (X := (kO (fun r : Int32 => (some (.int r), mh sc rest to fl ma tr mk cn nu de ru la tb tf ph cs)) x)) (fun a hk => e_Joiner_firstToJoin_61_L2b hk) v1 hk
set_option maxRecDepth 100000 in
theorem e_Joiner_firstToJoin_61_0 {x : Option Value × List mmC} (hk : (kO (fun r : Int32 => (some (.int r), mh sc rest to fl ma tr mk cn nu de ru la tb tf ph cs)) x) (Joiner_firstToJoin tr)) : Ev mmPT tbX4_firstToJoin 0 [some (.ref 61), none, none] [] (mh sc rest to fl ma tr mk cn nu de ru la tb tf ph cs) x := by
  unfold Joiner_firstToJoin at hk
  refine q_ic 0 rfl rfl ?_
  refine Ev.s (ins := .istore_n 1) (pc' := 2) (lv' := [some (.ref 61), some (.int 0), none]) rfl rfl ?_
  exact e_Joiner_firstToJoin_61_L2 hk
set_option maxRecDepth 100000 in
theorem e_Joiner_firstToJoin_61 : Ev mmPT tbX4_firstToJoin 0 [some (.ref 61), none, none] [] (mh sc rest to fl ma tr mk cn nu de ru la tb tf ph cs) ((fun r : Int32 => (some (.int r), mh sc rest to fl ma tr mk cn nu de ru la tb tf ph cs)) (Joiner_firstToJoin tr)) := e_Joiner_firstToJoin_61_0 (by exact rfl)
set_option maxRecDepth 100000 in
theorem e_Form_putInto_61_0 {v1 : Int32} {v2 : Int32} {x : Option Value × List mmC} (hk : (kO (fun r : Ob => (none, mh sc rest to fl ma r mk cn nu de ru la tb tf ph cs)) x) (Form_putInto tr v1 v2)) : Ev mmPT tbX3_putInto 0 [some (.ref 61), some (.int v1), some (.int v2), none] [] (mh sc rest to fl ma tr mk cn nu de ru la tb tf ph cs) x := by
  unfold Form_putInto at hk
  refine Ev.s (ins := .aload_n 0) (pc' := 1) rfl rfl ?_
  refine gf_61_7 rfl ?_
  refine Ev.s (ins := .iload_n 2) (pc' := 5) rfl rfl ?_
  refine at_76 (oat tr 7 10 v2) rfl (Nat.le_of_ble_eq_true rfl) rfl ?_
  refine Ev.s (ins := .istore_n 3) (pc' := 9) (lv' := [some (.ref 61), some (.int v1), some (.int v2), some (.int (oat tr 7 10 v2))]) rfl rfl ?_
  refine Ev.s (ins := .aload_n 0) (pc' := 10) rfl rfl ?_
  refine gf_61_1 rfl ?_
  refine Ev.s (ins := .iload_n 1) (pc' := 14) rfl rfl ?_
  refine Ev.s (ins := .iload_n 2) (pc' := 15) rfl rfl ?_
  refine pt_64 rfl (Nat.le_of_ble_eq_true rfl) ?_
  refine Ev.s (ins := .aload_n 0) (pc' := 19) rfl rfl ?_
  refine gf_61_8 rfl ?_
  refine Ev.s (ins := .iload_n 2) (pc' := 23) rfl rfl ?_
  refine q_si 140 rfl rfl ?_
  refine Ev.s (ins := .imul) (pc' := 27) rfl rfl ?_
  refine Ev.s (ins := .iload_n 3) (pc' := 28) rfl rfl ?_
  refine Ev.s (ins := .iadd) (pc' := 29) rfl rfl ?_
  refine Ev.s (ins := .iload_n 1) (pc' := 30) rfl rfl ?_
  refine pt_78 rfl (Nat.le_of_ble_eq_true rfl) ?_
  refine Ev.s (ins := .aload_n 0) (pc' := 34) rfl rfl ?_
  refine gf_61_7 rfl ?_
  refine Ev.s (ins := .iload_n 2) (pc' := 38) rfl rfl ?_
  refine Ev.s (ins := .iload_n 3) (pc' := 39) rfl rfl ?_
  refine q_ic 1 rfl rfl ?_
  refine Ev.s (ins := .iadd) (pc' := 41) rfl rfl ?_
  refine pt_76 rfl (Nat.le_of_ble_eq_true rfl) ?_
  exact Ev.vret rfl rfl hk
set_option maxRecDepth 100000 in
theorem e_Form_putInto_61 {v1 : Int32} {v2 : Int32} : Ev mmPT tbX3_putInto 0 [some (.ref 61), some (.int v1), some (.int v2), none] [] (mh sc rest to fl ma tr mk cn nu de ru la tb tf ph cs) ((fun r : Ob => (none, mh sc rest to fl ma r mk cn nu de ru la tb tf ph cs)) (Form_putInto tr v1 v2)) := e_Form_putInto_61_0 (by exact rfl)
set_option maxRecDepth 100000 in
theorem e_Joiner_moveValues_61_79 {v1 : Int32} {v2 : Int32} {v3 : Int32} {x : Option Value × List mmC} (b2 : v3 < 2147483647) (hk : (kK (fun a : Int32 × Ob => mu a.1) (mu v3) (fun a : Int32 × Ob => Ev mmPT tbX4_moveValues 2 [some (.ref 61), some (.int v1), some (.int v2), some (.int a.1), none] [] (mh sc rest to fl ma a.2 mk cn nu de ru la tb tf ph cs) x) (kO (fun r : Ob => (none, mh sc rest to fl ma r mk cn nu de ru la tb tf ph cs)) x)) (Joiner_moveValues_79 tr v1 v2 v3)) : Ev mmPT tbX4_moveValues 79 [some (.ref 61), some (.int v1), some (.int v2), some (.int v3), none] [] (mh sc rest to fl ma tr mk cn nu de ru la tb tf ph cs) x := by
  unfold Joiner_moveValues_79 at hk
  refine q_inc 1 [some (.ref 61), some (.int v1), some (.int v2), some (.int (v3 + 1)), none] rfl rfl rfl rfl ?_
  refine Ev.goto rfl ?_
  replace hk := kK_l hk
  exact hk (mu_lt b2)
set_option maxRecDepth 100000 in
theorem e_Joiner_moveValues_61_L2b {v1 : Int32} {v2 : Int32} {v3 : Int32} {x : Option Value × List mmC} (hk : (kK (fun a : Int32 × Ob => mu a.1) (mu v3) (fun a : Int32 × Ob => Ev mmPT tbX4_moveValues 2 [some (.ref 61), some (.int v1), some (.int v2), some (.int a.1), none] [] (mh sc rest to fl ma a.2 mk cn nu de ru la tb tf ph cs) x) (kO (fun r : Ob => (none, mh sc rest to fl ma r mk cn nu de ru la tb tf ph cs)) x)) (Joiner_moveValues_L2b tr v1 v2 v3)) : Ev mmPT tbX4_moveValues 2 [some (.ref 61), some (.int v1), some (.int v2), some (.int v3), none] [] (mh sc rest to fl ma tr mk cn nu de ru la tb tf ph cs) x := by
  unfold Joiner_moveValues_L2b at hk
  refine Ev.s (ins := .iload_n 3) (pc' := 3) rfl rfl ?_
  refine Ev.s (ins := .aload_n 0) (pc' := 4) rfl rfl ?_
  refine gf_61_7 rfl ?_
  refine Ev.s (ins := .iload_n 2) (pc' := 8) rfl rfl ?_
  refine at_76 (oat tr 7 10 v2) rfl (Nat.le_of_ble_eq_true rfl) rfl ?_
  refine q_cge rfl hk (fun c1 hk => ?_) (fun c1 hk => ?_)
  · refine Ev.s (ins := .aload_n 0) (pc' := 15) rfl rfl ?_
    refine Ev.s (ins := .iload_n 2) (pc' := 16) rfl rfl ?_
    refine Ev.s (ins := .iload_n 3) (pc' := 17) rfl rfl ?_
    refine kc_X3_valueIn_0 rfl oi_61 rfl (Nat.le_of_ble_eq_true rfl) (e_Form_valueIn_61) ?_
    refine Ev.s (ins := .istore 4) (pc' := 22) (lv' := [some (.ref 61), some (.int v1), some (.int v2), some (.int v3), some (.int (Form_valueIn tr v2 v3))]) rfl rfl ?_
    refine Ev.s (ins := .aload_n 0) (pc' := 23) rfl rfl ?_
    refine gf_61_0 rfl ?_
    refine Ev.s (ins := .iload 4) (pc' := 28) rfl rfl ?_
    refine at_62 (oat tr 0 140 (Form_valueIn tr v2 v3)) rfl (Nat.le_of_ble_eq_true rfl) rfl ?_
    refine q_bi 9 rfl rfl ?_
    refine q_cne rfl hk (fun c2 hk => ?_) (fun c2 hk => ?_)
    · refine Ev.s (ins := .aload_n 0) (pc' := 37) rfl rfl ?_
      refine Ev.s (ins := .iload 4) (pc' := 39) rfl rfl ?_
      refine Ev.s (ins := .aload_n 0) (pc' := 40) rfl rfl ?_
      refine Ev.s (ins := .iload 4) (pc' := 42) rfl rfl ?_
      refine q_ic 0 rfl rfl ?_
      refine kc_X3_valueOf_0 rfl oi_61 rfl (Nat.le_of_ble_eq_true rfl) (e_Form_valueOf_61) ?_
      refine Ev.s (ins := .aload_n 0) (pc' := 47) rfl rfl ?_
      refine Ev.s (ins := .iload 4) (pc' := 49) rfl rfl ?_
      refine q_ic 0 rfl rfl ?_
      refine kc_X3_numberOf_0 rfl oi_61 rfl (Nat.le_of_ble_eq_true rfl) (e_Form_numberOf_61) ?_
      refine kc_X3_replace_0 rfl oi_61 rfl (Nat.le_of_ble_eq_true rfl) (e_Form_replace_61) ?_
      refine Ev.goto rfl ?_
      refine Ev.weak [some (.ref 61), some (.int v1), some (.int v2), some (.int v3), none] ⟨rfl, rfl, rfl, rfl, rfl, trivial⟩ ?_
      exact e_Joiner_moveValues_61_79 (lt31 c1) hk
    · refine Ev.s (ins := .aload_n 0) (pc' := 60) rfl rfl ?_
      refine gf_61_1 rfl ?_
      refine Ev.s (ins := .iload 4) (pc' := 65) rfl rfl ?_
      refine at_64 (oat tr 1 140 (Form_valueIn tr v2 v3)) rfl (Nat.le_of_ble_eq_true rfl) rfl ?_
      refine Ev.s (ins := .iload_n 2) (pc' := 69) rfl rfl ?_
      refine q_cne rfl hk (fun c3 hk => ?_) (fun c3 hk => ?_)
      · refine Ev.s (ins := .aload_n 0) (pc' := 73) rfl rfl ?_
        refine Ev.s (ins := .iload 4) (pc' := 75) rfl rfl ?_
        refine Ev.s (ins := .iload_n 1) (pc' := 76) rfl rfl ?_
        refine kc_X3_putInto_0 rfl oi_61 rfl (Nat.le_of_ble_eq_true rfl) (e_Form_putInto_61) ?_
        refine Ev.weak [some (.ref 61), some (.int v1), some (.int v2), some (.int v3), none] ⟨rfl, rfl, rfl, rfl, rfl, trivial⟩ ?_
        exact e_Joiner_moveValues_61_79 (lt31 c1) hk
      · refine Ev.weak [some (.ref 61), some (.int v1), some (.int v2), some (.int v3), none] ⟨rfl, rfl, rfl, rfl, rfl, trivial⟩ ?_
        exact e_Joiner_moveValues_61_79 (lt31 c1) hk
  · replace hk := kK_r hk
    exact Ev.vret rfl rfl hk
set_option maxRecDepth 100000 in
theorem e_Joiner_moveValues_61_L2 {v1 : Int32} {v2 : Int32} {v3 : Int32} {x : Option Value × List mmC} (hk : (kO (fun r : Ob => (none, mh sc rest to fl ma r mk cn nu de ru la tb tf ph cs)) x) (Joiner_moveValues_L2 tr v1 v2 v3)) : Ev mmPT tbX4_moveValues 2 [some (.ref 61), some (.int v1), some (.int v2), some (.int v3), none] [] (mh sc rest to fl ma tr mk cn nu de ru la tb tf ph cs) x :=
  k_loop (B := (fun a : Int32 × Ob => Joiner_moveValues_L2b a.2 v1 v2 a.1)) (μ := fun a : Int32 × Ob => mu a.1) (E := fun a : Int32 × Ob => Ev mmPT tbX4_moveValues 2 [some (.ref 61), some (.int v1), some (.int v2), some (.int a.1), none] [] (mh sc rest to fl ma a.2 mk cn nu de ru la tb tf ph cs) x) (X := (kO (fun r : Ob => (none, mh sc rest to fl ma r mk cn nu de ru la tb tf ph cs)) x)) (fun a hk => e_Joiner_moveValues_61_L2b hk) (v3, tr) hk
set_option maxRecDepth 100000 in
theorem e_Joiner_moveValues_61_0 {v1 : Int32} {v2 : Int32} {x : Option Value × List mmC} (hk : (kO (fun r : Ob => (none, mh sc rest to fl ma r mk cn nu de ru la tb tf ph cs)) x) (Joiner_moveValues tr v1 v2)) : Ev mmPT tbX4_moveValues 0 [some (.ref 61), some (.int v1), some (.int v2), none, none] [] (mh sc rest to fl ma tr mk cn nu de ru la tb tf ph cs) x := by
  unfold Joiner_moveValues at hk
  refine q_ic 0 rfl rfl ?_
  refine Ev.s (ins := .istore_n 3) (pc' := 2) (lv' := [some (.ref 61), some (.int v1), some (.int v2), some (.int 0), none]) rfl rfl ?_
  exact e_Joiner_moveValues_61_L2 hk
set_option maxRecDepth 100000 in
theorem e_Joiner_moveValues_61 {v1 : Int32} {v2 : Int32} : Ev mmPT tbX4_moveValues 0 [some (.ref 61), some (.int v1), some (.int v2), none, none] [] (mh sc rest to fl ma tr mk cn nu de ru la tb tf ph cs) ((fun r : Ob => (none, mh sc rest to fl ma r mk cn nu de ru la tb tf ph cs)) (Joiner_moveValues tr v1 v2)) := e_Joiner_moveValues_61_0 (by exact rfl)
set_option maxRecDepth 100000 in
theorem e_Form_takeEnd_61_0 {v1 : Int32} {v2 : Int32} {x : Option Value × List mmC} (hk : (kO (fun r : Ob => (none, mh sc rest to fl ma r mk cn nu de ru la tb tf ph cs)) x) (Form_takeEnd tr v1 v2)) : Ev mmPT tbX3_takeEnd 0 [some (.ref 61), some (.int v1), some (.int v2)] [] (mh sc rest to fl ma tr mk cn nu de ru la tb tf ph cs) x := by
  unfold Form_takeEnd at hk
  refine Ev.s (ins := .aload_n 0) (pc' := 1) rfl rfl ?_
  refine gf_61_11 rfl ?_
  refine Ev.s (ins := .iload_n 1) (pc' := 5) rfl rfl ?_
  refine Ev.s (ins := .aload_n 0) (pc' := 6) rfl rfl ?_
  refine gf_61_11 rfl ?_
  refine Ev.s (ins := .iload_n 2) (pc' := 10) rfl rfl ?_
  refine at_84 (oat tr 11 10 v2) rfl (Nat.le_of_ble_eq_true rfl) rfl ?_
  refine pt_84 rfl (Nat.le_of_ble_eq_true rfl) ?_
  refine Ev.s (ins := .aload_n 0) (pc' := 17) rfl rfl ?_
  refine gf_61_4 rfl ?_
  refine q_si 140 rfl rfl ?_
  refine Ev.s (ins := .iload_n 1) (pc' := 24) rfl rfl ?_
  refine Ev.s (ins := .iadd) (pc' := 25) rfl rfl ?_
  refine Ev.s (ins := .aload_n 0) (pc' := 26) rfl rfl ?_
  refine gf_61_4 rfl ?_
  refine q_si 140 rfl rfl ?_
  refine Ev.s (ins := .iload_n 2) (pc' := 33) rfl rfl ?_
  refine Ev.s (ins := .iadd) (pc' := 34) rfl rfl ?_
  refine at_70 (oat tr 4 150 ((140 : Int32) + v2)) rfl (Nat.le_of_ble_eq_true rfl) rfl ?_
  refine pt_70 rfl (Nat.le_of_ble_eq_true rfl) ?_
  refine Ev.s (ins := .aload_n 0) (pc' := 41) rfl rfl ?_
  refine gf_61_3 rfl ?_
  refine q_si 140 rfl rfl ?_
  refine Ev.s (ins := .iload_n 1) (pc' := 48) rfl rfl ?_
  refine Ev.s (ins := .iadd) (pc' := 49) rfl rfl ?_
  refine Ev.s (ins := .aload_n 0) (pc' := 50) rfl rfl ?_
  refine gf_61_3 rfl ?_
  refine q_si 140 rfl rfl ?_
  refine Ev.s (ins := .iload_n 2) (pc' := 57) rfl rfl ?_
  refine Ev.s (ins := .iadd) (pc' := 58) rfl rfl ?_
  refine at_68 (oat tr 3 150 ((140 : Int32) + v2)) rfl (Nat.le_of_ble_eq_true rfl) rfl ?_
  refine pt_68 rfl (Nat.le_of_ble_eq_true rfl) ?_
  refine Ev.s (ins := .aload_n 0) (pc' := 65) rfl rfl ?_
  refine gf_61_3 rfl ?_
  refine q_si 140 rfl rfl ?_
  refine Ev.s (ins := .iload_n 2) (pc' := 72) rfl rfl ?_
  refine Ev.s (ins := .iadd) (pc' := 73) rfl rfl ?_
  refine q_ic 0 rfl rfl ?_
  refine pt_68 rfl (Nat.le_of_ble_eq_true rfl) ?_
  exact Ev.vret rfl rfl hk
set_option maxRecDepth 100000 in
theorem e_Form_takeEnd_61 {v1 : Int32} {v2 : Int32} : Ev mmPT tbX3_takeEnd 0 [some (.ref 61), some (.int v1), some (.int v2)] [] (mh sc rest to fl ma tr mk cn nu de ru la tb tf ph cs) ((fun r : Ob => (none, mh sc rest to fl ma r mk cn nu de ru la tb tf ph cs)) (Form_takeEnd tr v1 v2)) := e_Form_takeEnd_61_0 (by exact rfl)
set_option maxRecDepth 100000 in
theorem e_Joiner_moveEnd_61_L9b {v1 : Int32} {v2 : Int32} {v3 : Int32} {x : Option Value × List mmC} (hk : (kK (fun a : Int32 × Ob => mu a.1) (mu v3) (fun a : Int32 × Ob => Ev mmPT tbX4_moveEnd 9 [some (.ref 61), some (.int v1), some (.int v2), some (.int a.1)] [] (mh sc rest to fl ma a.2 mk cn nu de ru la tb tf ph cs) x) (kO (fun r : Ob => (none, mh sc rest to fl ma r mk cn nu de ru la tb tf ph cs)) x)) (Joiner_moveEnd_L9b tr v1 v2 v3)) : Ev mmPT tbX4_moveEnd 9 [some (.ref 61), some (.int v1), some (.int v2), some (.int v3)] [] (mh sc rest to fl ma tr mk cn nu de ru la tb tf ph cs) x := by
  unfold Joiner_moveEnd_L9b at hk
  refine Ev.s (ins := .iload_n 3) (pc' := 10) rfl rfl ?_
  refine q_ic 2 rfl rfl ?_
  refine q_cge rfl hk (fun c1 hk => ?_) (fun c1 hk => ?_)
  · refine Ev.s (ins := .aload_n 0) (pc' := 15) rfl rfl ?_
    refine Ev.s (ins := .iload_n 2) (pc' := 16) rfl rfl ?_
    refine q_ic 2 rfl rfl ?_
    refine Ev.s (ins := .imul) (pc' := 18) rfl rfl ?_
    refine Ev.s (ins := .iload_n 3) (pc' := 19) rfl rfl ?_
    refine Ev.s (ins := .iadd) (pc' := 20) rfl rfl ?_
    refine Ev.s (ins := .iload_n 1) (pc' := 21) rfl rfl ?_
    refine q_ic 2 rfl rfl ?_
    refine Ev.s (ins := .imul) (pc' := 23) rfl rfl ?_
    refine Ev.s (ins := .iload_n 3) (pc' := 24) rfl rfl ?_
    refine Ev.s (ins := .iadd) (pc' := 25) rfl rfl ?_
    refine kc_X3_changeWay_0 rfl oi_61 rfl (Nat.le_of_ble_eq_true rfl) (e_Form_changeWay_61) ?_
    refine q_inc 1 [some (.ref 61), some (.int v1), some (.int v2), some (.int (v3 + 1))] rfl rfl rfl rfl ?_
    refine Ev.goto rfl ?_
    replace hk := kK_l hk
    exact hk (mu_lt (lt31 c1))
  · replace hk := kK_r hk
    refine Ev.s (ins := .aload_n 0) (pc' := 35) rfl rfl ?_
    refine Ev.s (ins := .iload_n 1) (pc' := 36) rfl rfl ?_
    refine Ev.s (ins := .iload_n 2) (pc' := 37) rfl rfl ?_
    refine kc_X3_takeEnd_0 rfl oi_61 rfl (Nat.le_of_ble_eq_true rfl) (e_Form_takeEnd_61) ?_
    exact Ev.vret rfl rfl hk
set_option maxRecDepth 100000 in
theorem e_Joiner_moveEnd_61_L9 {v1 : Int32} {v2 : Int32} {v3 : Int32} {x : Option Value × List mmC} (hk : (kO (fun r : Ob => (none, mh sc rest to fl ma r mk cn nu de ru la tb tf ph cs)) x) (Joiner_moveEnd_L9 tr v1 v2 v3)) : Ev mmPT tbX4_moveEnd 9 [some (.ref 61), some (.int v1), some (.int v2), some (.int v3)] [] (mh sc rest to fl ma tr mk cn nu de ru la tb tf ph cs) x :=
  k_loop (B := (fun a : Int32 × Ob => Joiner_moveEnd_L9b a.2 v1 v2 a.1)) (μ := fun a : Int32 × Ob => mu a.1) (E := fun a : Int32 × Ob => Ev mmPT tbX4_moveEnd 9 [some (.ref 61), some (.int v1), some (.int v2), some (.int a.1)] [] (mh sc rest to fl ma a.2 mk cn nu de ru la tb tf ph cs) x) (X := (kO (fun r : Ob => (none, mh sc rest to fl ma r mk cn nu de ru la tb tf ph cs)) x)) (fun a hk => e_Joiner_moveEnd_61_L9b hk) (v3, tr) hk
set_option maxRecDepth 100000 in
theorem e_Joiner_moveEnd_61_0 {v1 : Int32} {v2 : Int32} {x : Option Value × List mmC} (hk : (kO (fun r : Ob => (none, mh sc rest to fl ma r mk cn nu de ru la tb tf ph cs)) x) (Joiner_moveEnd tr v1 v2)) : Ev mmPT tbX4_moveEnd 0 [some (.ref 61), some (.int v1), some (.int v2), none] [] (mh sc rest to fl ma tr mk cn nu de ru la tb tf ph cs) x := by
  unfold Joiner_moveEnd at hk
  refine Ev.s (ins := .aload_n 0) (pc' := 1) rfl rfl ?_
  refine Ev.s (ins := .iload_n 1) (pc' := 2) rfl rfl ?_
  refine q_ic 2 rfl rfl ?_
  refine Ev.s (ins := .imul) (pc' := 4) rfl rfl ?_
  refine kc_X3_dropEdge_0 rfl oi_61 rfl (Nat.le_of_ble_eq_true rfl) (e_Form_dropEdge_61) ?_
  refine q_ic 0 rfl rfl ?_
  refine Ev.s (ins := .istore_n 3) (pc' := 9) (lv' := [some (.ref 61), some (.int v1), some (.int v2), some (.int 0)]) rfl rfl ?_
  exact e_Joiner_moveEnd_61_L9 hk
set_option maxRecDepth 100000 in
theorem e_Joiner_moveEnd_61 {v1 : Int32} {v2 : Int32} : Ev mmPT tbX4_moveEnd 0 [some (.ref 61), some (.int v1), some (.int v2), none] [] (mh sc rest to fl ma tr mk cn nu de ru la tb tf ph cs) ((fun r : Ob => (none, mh sc rest to fl ma r mk cn nu de ru la tb tf ph cs)) (Joiner_moveEnd tr v1 v2)) := e_Joiner_moveEnd_61_0 (by exact rfl)
set_option maxRecDepth 100000 in
theorem e_Joiner_goOver_113_61_L2b {v2 : Int32} {x : Option Value × List mmC} (hk : (kK (fun a : Int32 × Ob => mu a.1) (mu v2) (fun a : Int32 × Ob => Ev mmPT tbX4_goOver 2 [none, some (.ref 61), some (.int a.1), none, none] [] (mh sc rest to fl ma a.2 mk cn nu de ru la tb tf ph cs) x) (kO (fun r : Ob => (none, mh sc rest to fl ma r mk cn nu de ru la tb tf ph cs)) x)) (Joiner_goOver_L2b tr v2)) : Ev mmPT tbX4_goOver 2 [none, some (.ref 61), some (.int v2), none, none] [] (mh sc rest to fl ma tr mk cn nu de ru la tb tf ph cs) x := by
  unfold Joiner_goOver_L2b at hk
  refine Ev.s (ins := .iload_n 2) (pc' := 3) rfl rfl ?_
  refine q_bi 10 rfl rfl ?_
  refine q_cge rfl hk (fun c1 hk => ?_) (fun c1 hk => ?_)
  · refine Ev.s (ins := .aload_n 1) (pc' := 9) rfl rfl ?_
    refine kc_X4_firstToJoin_2 rfl (Nat.le_of_ble_eq_true rfl) (e_Joiner_firstToJoin_61) ?_
    refine Ev.s (ins := .istore_n 3) (pc' := 13) (lv' := [none, some (.ref 61), some (.int v2), some (.int (Joiner_firstToJoin tr)), none]) rfl rfl ?_
    refine Ev.s (ins := .iload_n 3) (pc' := 14) rfl rfl ?_
    refine q_ic (-1) rfl rfl ?_
    refine q_cne rfl hk (fun c2 hk => ?_) (fun c2 hk => ?_)
    · replace hk := kK_r hk
      exact Ev.vret rfl rfl hk
    · refine Ev.s (ins := .aload_n 1) (pc' := 20) rfl rfl ?_
      refine gf_61_12 rfl ?_
      refine Ev.s (ins := .iload_n 3) (pc' := 24) rfl rfl ?_
      refine q_ic 2 rfl rfl ?_
      refine Ev.s (ins := .imul) (pc' := 26) rfl rfl ?_
      refine at_86 (oat tr 12 20 ((Joiner_firstToJoin tr) * 2)) rfl (Nat.le_of_ble_eq_true rfl) rfl ?_
      refine Ev.s (ins := .istore 4) (pc' := 31) (lv' := [none, some (.ref 61), some (.int v2), some (.int (Joiner_firstToJoin tr)), some (.int (oat tr 12 20 ((Joiner_firstToJoin tr) * 2)))]) rfl rfl ?_
      refine Ev.s (ins := .aload_n 1) (pc' := 32) rfl rfl ?_
      refine Ev.s (ins := .iload_n 3) (pc' := 33) rfl rfl ?_
      refine Ev.s (ins := .iload 4) (pc' := 35) rfl rfl ?_
      refine kc_X4_moveValues_2 rfl (Nat.le_of_ble_eq_true rfl) (e_Joiner_moveValues_61) ?_
      refine Ev.s (ins := .aload_n 1) (pc' := 39) rfl rfl ?_
      refine Ev.s (ins := .iload_n 3) (pc' := 40) rfl rfl ?_
      refine Ev.s (ins := .iload 4) (pc' := 42) rfl rfl ?_
      refine kc_X4_moveEnd_2 rfl (Nat.le_of_ble_eq_true rfl) (e_Joiner_moveEnd_61) ?_
      refine Ev.s (ins := .aload_n 1) (pc' := 46) rfl rfl ?_
      refine Ev.s (ins := .iload 4) (pc' := 48) rfl rfl ?_
      refine kc_X3_loseBlock_0 rfl oi_61 rfl (Nat.le_of_ble_eq_true rfl) (e_Form_loseBlock_61) ?_
      refine q_inc 1 [none, some (.ref 61), some (.int (v2 + 1)), some (.int (Joiner_firstToJoin tr)), some (.int (oat tr 12 20 ((Joiner_firstToJoin tr) * 2)))] rfl rfl rfl rfl ?_
      refine Ev.goto rfl ?_
      refine Ev.weak [none, some (.ref 61), some (.int (v2 + 1)), none, none] ⟨rfl, rfl, rfl, rfl, rfl, trivial⟩ ?_
      replace hk := kK_l hk
      exact hk (mu_lt (lt31 c1))
  · replace hk := kK_r hk
    exact Ev.vret rfl rfl hk
set_option maxRecDepth 100000 in
theorem e_Joiner_goOver_113_61_L2 {v2 : Int32} {x : Option Value × List mmC} (hk : (kO (fun r : Ob => (none, mh sc rest to fl ma r mk cn nu de ru la tb tf ph cs)) x) (Joiner_goOver_L2 tr v2)) : Ev mmPT tbX4_goOver 2 [none, some (.ref 61), some (.int v2), none, none] [] (mh sc rest to fl ma tr mk cn nu de ru la tb tf ph cs) x :=
  k_loop (B := (fun a : Int32 × Ob => Joiner_goOver_L2b a.2 a.1)) (μ := fun a : Int32 × Ob => mu a.1) (E := fun a : Int32 × Ob => Ev mmPT tbX4_goOver 2 [none, some (.ref 61), some (.int a.1), none, none] [] (mh sc rest to fl ma a.2 mk cn nu de ru la tb tf ph cs) x) (X := (kO (fun r : Ob => (none, mh sc rest to fl ma r mk cn nu de ru la tb tf ph cs)) x)) (fun a hk => e_Joiner_goOver_113_61_L2b hk) (v2, tr) hk
set_option maxRecDepth 100000 in
theorem e_Joiner_goOver_113_61_0 {x : Option Value × List mmC} (hk : (kO (fun r : Ob => (none, mh sc rest to fl ma r mk cn nu de ru la tb tf ph cs)) x) (Joiner_goOver tr)) : Ev mmPT tbX4_goOver 0 [some (.ref 113), some (.ref 61), none, none, none] [] (mh sc rest to fl ma tr mk cn nu de ru la tb tf ph cs) x := by
  unfold Joiner_goOver at hk
  refine q_ic 0 rfl rfl ?_
  refine Ev.s (ins := .istore_n 2) (pc' := 2) (lv' := [some (.ref 113), some (.ref 61), some (.int 0), none, none]) rfl rfl ?_
  refine Ev.weak [none, some (.ref 61), some (.int 0), none, none] ⟨rfl, rfl, rfl, rfl, rfl, trivial⟩ ?_
  exact e_Joiner_goOver_113_61_L2 hk
set_option maxRecDepth 100000 in
theorem e_Joiner_goOver_113_61 : Ev mmPT tbX4_goOver 0 [some (.ref 113), some (.ref 61), none, none, none] [] (mh sc rest to fl ma tr mk cn nu de ru la tb tf ph cs) ((fun r : Ob => (none, mh sc rest to fl ma r mk cn nu de ru la tb tf ph cs)) (Joiner_goOver tr)) := e_Joiner_goOver_113_61_0 (by exact rfl)
set_option maxRecDepth 100000 in
theorem e_Form_sweep_61_75 {v1 : Int32} {v2 : Int32} {v3 : Int32} {v4 : Int32} {x : Option Value × List mmC} (b2 : v1 < 2147483647) (b21 : v4 < 2147483647) (hk : (kK (fun a : Int32 × Int32 × Ob => mu a.2.1) (mu v4) (fun a : Int32 × Int32 × Ob => Ev mmPT tbX3_sweep 21 [some (.ref 61), some (.int v1), some (.int v2), some (.int a.1), some (.int a.2.1), none] [] (mh sc rest to fl ma a.2.2 mk cn nu de ru la tb tf ph cs) x) (kK (fun a : Int32 × Ob => mu a.1) (mu v1) (fun a : Int32 × Ob => Ev mmPT tbX3_sweep 2 [some (.ref 61), some (.int a.1), none, none, none, none] [] (mh sc rest to fl ma a.2 mk cn nu de ru la tb tf ph cs) x) (kO (fun r : Ob => (none, mh sc rest to fl ma r mk cn nu de ru la tb tf ph cs)) x))) (Form_sweep_75 tr v1 v2 v3 v4)) : Ev mmPT tbX3_sweep 75 [some (.ref 61), some (.int v1), some (.int v2), some (.int v3), some (.int v4), none] [] (mh sc rest to fl ma tr mk cn nu de ru la tb tf ph cs) x := by
  unfold Form_sweep_75 at hk
  refine q_inc 1 [some (.ref 61), some (.int v1), some (.int v2), some (.int v3), some (.int (v4 + 1)), none] rfl rfl rfl rfl ?_
  refine Ev.goto rfl ?_
  replace hk := kK_l hk
  exact hk (mu_lt b21)
set_option maxRecDepth 100000 in
theorem e_Form_sweep_61_L21b {v1 : Int32} {v2 : Int32} {v3 : Int32} {v4 : Int32} {x : Option Value × List mmC} (b2 : v1 < 2147483647) (hk : (kK (fun a : Int32 × Int32 × Ob => mu a.2.1) (mu v4) (fun a : Int32 × Int32 × Ob => Ev mmPT tbX3_sweep 21 [some (.ref 61), some (.int v1), some (.int v2), some (.int a.1), some (.int a.2.1), none] [] (mh sc rest to fl ma a.2.2 mk cn nu de ru la tb tf ph cs) x) (kK (fun a : Int32 × Ob => mu a.1) (mu v1) (fun a : Int32 × Ob => Ev mmPT tbX3_sweep 2 [some (.ref 61), some (.int a.1), none, none, none, none] [] (mh sc rest to fl ma a.2 mk cn nu de ru la tb tf ph cs) x) (kO (fun r : Ob => (none, mh sc rest to fl ma r mk cn nu de ru la tb tf ph cs)) x))) (Form_sweep_L21b tr v1 v2 v3 v4)) : Ev mmPT tbX3_sweep 21 [some (.ref 61), some (.int v1), some (.int v2), some (.int v3), some (.int v4), none] [] (mh sc rest to fl ma tr mk cn nu de ru la tb tf ph cs) x := by
  unfold Form_sweep_L21b at hk
  refine Ev.s (ins := .iload 4) (pc' := 23) rfl rfl ?_
  refine Ev.s (ins := .aload_n 0) (pc' := 24) rfl rfl ?_
  refine gf_61_7 rfl ?_
  refine Ev.s (ins := .iload_n 1) (pc' := 28) rfl rfl ?_
  refine at_76 (oat tr 7 10 v1) rfl (Nat.le_of_ble_eq_true rfl) rfl ?_
  refine q_cge rfl hk (fun c1 hk => ?_) (fun c1 hk => ?_)
  · refine Ev.s (ins := .aload_n 0) (pc' := 35) rfl rfl ?_
    refine gf_61_8 rfl ?_
    refine Ev.s (ins := .iload_n 2) (pc' := 39) rfl rfl ?_
    refine Ev.s (ins := .iload 4) (pc' := 41) rfl rfl ?_
    refine Ev.s (ins := .iadd) (pc' := 42) rfl rfl ?_
    refine at_78 (oat tr 8 1400 (v2 + v4)) rfl (Nat.le_of_ble_eq_true rfl) rfl ?_
    refine Ev.s (ins := .istore 5) (pc' := 47) (lv' := [some (.ref 61), some (.int v1), some (.int v2), some (.int v3), some (.int v4), some (.int (oat tr 8 1400 (v2 + v4)))]) rfl rfl ?_
    refine Ev.s (ins := .aload_n 0) (pc' := 48) rfl rfl ?_
    refine gf_61_1 rfl ?_
    refine Ev.s (ins := .iload 5) (pc' := 53) rfl rfl ?_
    refine at_64 (oat tr 1 140 (oat tr 8 1400 (v2 + v4))) rfl (Nat.le_of_ble_eq_true rfl) rfl ?_
    refine Ev.s (ins := .iload_n 1) (pc' := 57) rfl rfl ?_
    refine q_cne rfl hk (fun c2 hk => ?_) (fun c2 hk => ?_)
    · refine Ev.s (ins := .aload_n 0) (pc' := 61) rfl rfl ?_
      refine gf_61_8 rfl ?_
      refine Ev.s (ins := .iload_n 2) (pc' := 65) rfl rfl ?_
      refine Ev.s (ins := .iload_n 3) (pc' := 66) rfl rfl ?_
      refine Ev.s (ins := .iadd) (pc' := 67) rfl rfl ?_
      refine Ev.s (ins := .iload 5) (pc' := 69) rfl rfl ?_
      refine pt_78 rfl (Nat.le_of_ble_eq_true rfl) ?_
      refine q_inc 1 [some (.ref 61), some (.int v1), some (.int v2), some (.int (v3 + 1)), some (.int v4), some (.int (oat tr 8 1400 (v2 + v4)))] rfl rfl rfl rfl ?_
      refine Ev.weak [some (.ref 61), some (.int v1), some (.int v2), some (.int (v3 + 1)), some (.int v4), none] ⟨rfl, rfl, rfl, rfl, rfl, rfl, trivial⟩ ?_
      exact e_Form_sweep_61_75 b2 (lt31 c1) hk
    · refine Ev.weak [some (.ref 61), some (.int v1), some (.int v2), some (.int v3), some (.int v4), none] ⟨rfl, rfl, rfl, rfl, rfl, rfl, trivial⟩ ?_
      exact e_Form_sweep_61_75 b2 (lt31 c1) hk
  · replace hk := kK_r hk
    refine Ev.s (ins := .aload_n 0) (pc' := 82) rfl rfl ?_
    refine gf_61_7 rfl ?_
    refine Ev.s (ins := .iload_n 1) (pc' := 86) rfl rfl ?_
    refine Ev.s (ins := .iload_n 3) (pc' := 87) rfl rfl ?_
    refine pt_76 rfl (Nat.le_of_ble_eq_true rfl) ?_
    refine q_inc 1 [some (.ref 61), some (.int (v1 + 1)), some (.int v2), some (.int v3), some (.int v4), none] rfl rfl rfl rfl ?_
    refine Ev.goto rfl ?_
    refine Ev.weak [some (.ref 61), some (.int (v1 + 1)), none, none, none, none] ⟨rfl, rfl, rfl, rfl, rfl, rfl, trivial⟩ ?_
    replace hk := kK_l hk
    exact hk (mu_lt b2)
set_option maxRecDepth 100000 in
theorem e_Form_sweep_61_L21 {v1 : Int32} {v2 : Int32} {v3 : Int32} {v4 : Int32} {x : Option Value × List mmC} (b2 : v1 < 2147483647) (hk : (kK (fun a : Int32 × Ob => mu a.1) (mu v1) (fun a : Int32 × Ob => Ev mmPT tbX3_sweep 2 [some (.ref 61), some (.int a.1), none, none, none, none] [] (mh sc rest to fl ma a.2 mk cn nu de ru la tb tf ph cs) x) (kO (fun r : Ob => (none, mh sc rest to fl ma r mk cn nu de ru la tb tf ph cs)) x)) (Form_sweep_L21 tr v1 v2 v3 v4)) : Ev mmPT tbX3_sweep 21 [some (.ref 61), some (.int v1), some (.int v2), some (.int v3), some (.int v4), none] [] (mh sc rest to fl ma tr mk cn nu de ru la tb tf ph cs) x :=
  k_loop (B := (fun a : Int32 × Int32 × Ob => Form_sweep_L21b a.2.2 v1 v2 a.1 a.2.1)) (μ := fun a : Int32 × Int32 × Ob => mu a.2.1) (E := fun a : Int32 × Int32 × Ob => Ev mmPT tbX3_sweep 21 [some (.ref 61), some (.int v1), some (.int v2), some (.int a.1), some (.int a.2.1), none] [] (mh sc rest to fl ma a.2.2 mk cn nu de ru la tb tf ph cs) x) (X := (kK (fun a : Int32 × Ob => mu a.1) (mu v1) (fun a : Int32 × Ob => Ev mmPT tbX3_sweep 2 [some (.ref 61), some (.int a.1), none, none, none, none] [] (mh sc rest to fl ma a.2 mk cn nu de ru la tb tf ph cs) x) (kO (fun r : Ob => (none, mh sc rest to fl ma r mk cn nu de ru la tb tf ph cs)) x))) (fun a hk => e_Form_sweep_61_L21b b2 hk) (v3, v4, tr) hk
set_option maxRecDepth 100000 in
theorem e_Form_sweep_61_L2b {v1 : Int32} {x : Option Value × List mmC} (hk : (kK (fun a : Int32 × Ob => mu a.1) (mu v1) (fun a : Int32 × Ob => Ev mmPT tbX3_sweep 2 [some (.ref 61), some (.int a.1), none, none, none, none] [] (mh sc rest to fl ma a.2 mk cn nu de ru la tb tf ph cs) x) (kO (fun r : Ob => (none, mh sc rest to fl ma r mk cn nu de ru la tb tf ph cs)) x)) (Form_sweep_L2b tr v1)) : Ev mmPT tbX3_sweep 2 [some (.ref 61), some (.int v1), none, none, none, none] [] (mh sc rest to fl ma tr mk cn nu de ru la tb tf ph cs) x := by
  unfold Form_sweep_L2b at hk
  refine Ev.s (ins := .iload_n 1) (pc' := 3) rfl rfl ?_
  refine Ev.s (ins := .aload_n 0) (pc' := 4) rfl rfl ?_
  refine gf_61_13 (tr.2.1 0) rfl rfl ?_
  refine q_cge rfl hk (fun c1 hk => ?_) (fun c1 hk => ?_)
  · refine Ev.s (ins := .iload_n 1) (pc' := 11) rfl rfl ?_
    refine q_si 140 rfl rfl ?_
    refine Ev.s (ins := .imul) (pc' := 15) rfl rfl ?_
    refine Ev.s (ins := .istore_n 2) (pc' := 16) (lv' := [some (.ref 61), some (.int v1), some (.int (v1 * 140)), none, none, none]) rfl rfl ?_
    refine q_ic 0 rfl rfl ?_
    refine Ev.s (ins := .istore_n 3) (pc' := 18) (lv' := [some (.ref 61), some (.int v1), some (.int (v1 * 140)), some (.int 0), none, none]) rfl rfl ?_
    refine q_ic 0 rfl rfl ?_
    refine Ev.s (ins := .istore 4) (pc' := 21) (lv' := [some (.ref 61), some (.int v1), some (.int (v1 * 140)), some (.int 0), some (.int 0), none]) rfl rfl ?_
    exact e_Form_sweep_61_L21 (lt31 c1) hk
  · replace hk := kK_r hk
    exact Ev.vret rfl rfl hk
set_option maxRecDepth 100000 in
theorem e_Form_sweep_61_L2 {v1 : Int32} {x : Option Value × List mmC} (hk : (kO (fun r : Ob => (none, mh sc rest to fl ma r mk cn nu de ru la tb tf ph cs)) x) (Form_sweep_L2 tr v1)) : Ev mmPT tbX3_sweep 2 [some (.ref 61), some (.int v1), none, none, none, none] [] (mh sc rest to fl ma tr mk cn nu de ru la tb tf ph cs) x :=
  k_loop (B := (fun a : Int32 × Ob => Form_sweep_L2b a.2 a.1)) (μ := fun a : Int32 × Ob => mu a.1) (E := fun a : Int32 × Ob => Ev mmPT tbX3_sweep 2 [some (.ref 61), some (.int a.1), none, none, none, none] [] (mh sc rest to fl ma a.2 mk cn nu de ru la tb tf ph cs) x) (X := (kO (fun r : Ob => (none, mh sc rest to fl ma r mk cn nu de ru la tb tf ph cs)) x)) (fun a hk => e_Form_sweep_61_L2b hk) (v1, tr) hk
set_option maxRecDepth 100000 in
theorem e_Form_sweep_61_0 {x : Option Value × List mmC} (hk : (kO (fun r : Ob => (none, mh sc rest to fl ma r mk cn nu de ru la tb tf ph cs)) x) (Form_sweep tr)) : Ev mmPT tbX3_sweep 0 [some (.ref 61), none, none, none, none, none] [] (mh sc rest to fl ma tr mk cn nu de ru la tb tf ph cs) x := by
  unfold Form_sweep at hk
  refine q_ic 0 rfl rfl ?_
  refine Ev.s (ins := .istore_n 1) (pc' := 2) (lv' := [some (.ref 61), some (.int 0), none, none, none, none]) rfl rfl ?_
  exact e_Form_sweep_61_L2 hk
set_option maxRecDepth 100000 in
theorem e_Form_sweep_61 : Ev mmPT tbX3_sweep 0 [some (.ref 61), none, none, none, none, none] [] (mh sc rest to fl ma tr mk cn nu de ru la tb tf ph cs) ((fun r : Ob => (none, mh sc rest to fl ma r mk cn nu de ru la tb tf ph cs)) (Form_sweep tr)) := e_Form_sweep_61_0 (by exact rfl)
set_option maxRecDepth 100000 in
theorem e_Ph_passOver_61_86 {v3 : Int32} {x : Option Value × List mmC} (hk : (kO (fun r : Int32 × Ob × Ob × Ob × Ob => (some (.int r.1), mh sc rest to fl ma r.2.1 mk r.2.2.1 r.2.2.2.1 r.2.2.2.2 ru la tb tf ph cs)) x) (Ph_passOver_86 tr cn nu de v3)) : Ev mmPT tbX11_passOver 86 [none, some (.ref 61), none, some (.int v3)] [.ref 61, .ref 61] (mh sc rest to fl ma tr mk cn nu de ru la tb tf ph cs) x := by
  unfold Ph_passOver_86 at hk
  refine gf_61_17 (tr.2.1 4) rfl rfl ?_
  refine q_ic 1 rfl rfl ?_
  refine Ev.s (ins := .iadd) (pc' := 91) rfl rfl ?_
  refine pf_61_17 ((tr.2.1 4) + 1) rfl ?_
  refine Ev.s (ins := .aload_n 1) (pc' := 95) rfl rfl ?_
  refine gf_61_18 (tr.2.1 5) rfl rfl ?_
  refine Ev.s (ins := .iload_n 3) (pc' := 99) rfl rfl ?_
  refine Ev.s (ins := .isub) (pc' := 100) rfl rfl ?_
  exact Ev.iret rfl rfl hk
set_option maxRecDepth 100000 in
theorem e_Ph_passOver_61_80 {v3 : Int32} {x : Option Value × List mmC} (hk : (kO (fun r : Int32 × Ob × Ob × Ob × Ob => (some (.int r.1), mh sc rest to fl ma r.2.1 mk r.2.2.1 r.2.2.2.1 r.2.2.2.2 ru la tb tf ph cs)) x) (Ph_passOver_80 tr cn nu de v3)) : Ev mmPT tbX11_passOver 80 [none, some (.ref 61), none, some (.int v3)] [] (mh sc rest to fl ma tr mk cn nu de ru la tb tf ph cs) x := by
  unfold Ph_passOver_80 at hk
  refine Ev.s (ins := .aload_n 1) (pc' := 81) rfl rfl ?_
  refine kc_X3_sweep_0 rfl oi_61 rfl (Nat.le_of_ble_eq_true rfl) (e_Form_sweep_61) ?_
  refine Ev.s (ins := .aload_n 1) (pc' := 85) rfl rfl ?_
  refine Ev.s (ins := .dup) (pc' := 86) rfl rfl ?_
  exact e_Ph_passOver_61_86 hk
set_option maxRecDepth 100000 in
theorem e_Ph_passOver_61_44 {v3 : Int32} {x : Option Value × List mmC} (hk : (kO (fun r : Int32 × Ob × Ob × Ob × Ob => (some (.int r.1), mh sc rest to fl ma r.2.1 mk r.2.2.1 r.2.2.2.1 r.2.2.2.2 ru la tb tf ph cs)) x) (Ph_passOver_44 tr cn nu de v3)) : Ev mmPT tbX11_passOver 44 [none, some (.ref 61), none, some (.int v3)] [] (mh sc rest to fl ma tr mk cn nu de ru la tb tf ph cs) x := by
  unfold Ph_passOver_44 at hk
  refine Ev.goto rfl ?_
  exact e_Ph_passOver_61_80 hk
set_option maxRecDepth 100000 in
theorem e_Ph_passOver_61_55 {v3 : Int32} {x : Option Value × List mmC} (hk : (kO (fun r : Int32 × Ob × Ob × Ob × Ob => (some (.int r.1), mh sc rest to fl ma r.2.1 mk r.2.2.1 r.2.2.2.1 r.2.2.2.2 ru la tb tf ph cs)) x) (Ph_passOver_55 tr cn nu de v3)) : Ev mmPT tbX11_passOver 55 [none, some (.ref 61), none, some (.int v3)] [] (mh sc rest to fl ma tr mk cn nu de ru la tb tf ph cs) x := by
  unfold Ph_passOver_55 at hk
  refine Ev.goto rfl ?_
  exact e_Ph_passOver_61_80 hk
set_option maxRecDepth 100000 in
theorem e_Ph_passOver_61_66 {v3 : Int32} {x : Option Value × List mmC} (hk : (kO (fun r : Int32 × Ob × Ob × Ob × Ob => (some (.int r.1), mh sc rest to fl ma r.2.1 mk r.2.2.1 r.2.2.2.1 r.2.2.2.2 ru la tb tf ph cs)) x) (Ph_passOver_66 tr cn nu de v3)) : Ev mmPT tbX11_passOver 66 [none, some (.ref 61), none, some (.int v3)] [] (mh sc rest to fl ma tr mk cn nu de ru la tb tf ph cs) x := by
  unfold Ph_passOver_66 at hk
  refine Ev.goto rfl ?_
  exact e_Ph_passOver_61_80 hk
set_option maxRecDepth 100000 in
theorem e_Ph_passOver_61_0 {v2 : Int32} {x : Option Value × List mmC} (hk : (kO (fun r : Int32 × Ob × Ob × Ob × Ob => (some (.int r.1), mh sc rest to fl ma r.2.1 mk r.2.2.1 r.2.2.2.1 r.2.2.2.2 ru la tb tf ph cs)) x) (Ph_passOver tr cn nu de v2)) : Ev mmPT tbX11_passOver 0 [some (.ref 1), some (.ref 61), some (.int v2), none] [] (mh sc rest to fl ma tr mk cn nu de ru la tb tf ph cs) x := by
  unfold Ph_passOver at hk
  refine Ev.s (ins := .aload_n 1) (pc' := 1) rfl rfl ?_
  refine gf_61_18 (tr.2.1 5) rfl rfl ?_
  refine Ev.s (ins := .istore_n 3) (pc' := 5) (lv' := [some (.ref 1), some (.ref 61), some (.int v2), some (.int (tr.2.1 5))]) rfl rfl ?_
  refine Ev.s (ins := .iload_n 2) (pc' := 6) rfl rfl ?_
  refine q_if hk (fun c1 hk => ?_) (fun c1 hk => ?_)
  · refine Ev.sw (tg := 36) rfl rfl (by rw [c1]; rfl) ?_
    refine Ev.s (ins := .aload_n 0) (pc' := 37) rfl rfl ?_
    refine gf_1_4 rfl ?_
    refine Ev.s (ins := .aload_n 1) (pc' := 41) rfl rfl ?_
    refine kc_X0_goOver_0 rfl oi_95 rfl (Nat.le_of_ble_eq_true rfl) (e_Constants_goOver_95_61) ?_
    refine Ev.weak [none, some (.ref 61), none, some (.int (tr.2.1 5))] ⟨rfl, rfl, rfl, rfl, trivial⟩ ?_
    exact e_Ph_passOver_61_44 hk
  · skip
    refine q_if hk (fun c2 hk => ?_) (fun c2 hk => ?_)
    · refine Ev.sw (tg := 47) rfl rfl (by rw [c2]; rfl) ?_
      refine Ev.s (ins := .aload_n 0) (pc' := 48) rfl rfl ?_
      refine gf_1_5 rfl ?_
      refine Ev.s (ins := .aload_n 1) (pc' := 52) rfl rfl ?_
      refine kc_X6_goOver_0 rfl oi_100 rfl (Nat.le_of_ble_eq_true rfl) (e_Numbers_goOver_100_61) ?_
      refine Ev.weak [none, some (.ref 61), none, some (.int (tr.2.1 5))] ⟨rfl, rfl, rfl, rfl, trivial⟩ ?_
      exact e_Ph_passOver_61_55 hk
    · skip
      refine q_if hk (fun c3 hk => ?_) (fun c3 hk => ?_)
      · refine Ev.sw (tg := 58) rfl rfl (by rw [c3]; rfl) ?_
        refine Ev.s (ins := .aload_n 0) (pc' := 59) rfl rfl ?_
        refine gf_1_6 rfl ?_
        refine Ev.s (ins := .aload_n 1) (pc' := 63) rfl rfl ?_
        refine kc_X1_goOver_0 rfl oi_110 rfl (Nat.le_of_ble_eq_true rfl) (e_Dead_goOver_110_61) ?_
        refine Ev.weak [none, some (.ref 61), none, some (.int (tr.2.1 5))] ⟨rfl, rfl, rfl, rfl, trivial⟩ ?_
        exact e_Ph_passOver_61_66 hk
      · skip
        refine q_if hk (fun c4 hk => ?_) (fun c4 hk => ?_)
        · refine Ev.sw (tg := 69) rfl rfl (by rw [c4]; rfl) ?_
          refine Ev.s (ins := .aload_n 0) (pc' := 70) rfl rfl ?_
          refine gf_1_7 rfl ?_
          refine Ev.s (ins := .aload_n 1) (pc' := 74) rfl rfl ?_
          refine kc_X4_goOver_0 rfl oi_113 rfl (Nat.le_of_ble_eq_true rfl) (e_Joiner_goOver_113_61) ?_
          refine Ev.goto rfl ?_
          refine Ev.weak [none, some (.ref 61), none, some (.int (tr.2.1 5))] ⟨rfl, rfl, rfl, rfl, trivial⟩ ?_
          exact e_Ph_passOver_61_80 hk
        · skip
          refine Ev.sw (tg := 80) rfl rfl (swg (by decide) (by decide) (fun k h e => ?_)) ?_
          · have h9 : k < 4 := by omega
            match k, h9, e with
            | 0, _, e => exact absurd e c1
            | 1, _, e => exact absurd e c2
            | 2, _, e => exact absurd e c3
            | 3, _, e => exact absurd e c4
          · refine Ev.weak [none, some (.ref 61), none, some (.int (tr.2.1 5))] ⟨rfl, rfl, rfl, rfl, trivial⟩ ?_
            exact e_Ph_passOver_61_80 hk
set_option maxRecDepth 100000 in
theorem e_Ph_passOver_61 {v2 : Int32} : Ev mmPT tbX11_passOver 0 [some (.ref 1), some (.ref 61), some (.int v2), none] [] (mh sc rest to fl ma tr mk cn nu de ru la tb tf ph cs) ((fun r : Int32 × Ob × Ob × Ob × Ob => (some (.int r.1), mh sc rest to fl ma r.2.1 mk r.2.2.1 r.2.2.2.1 r.2.2.2.2 ru la tb tf ph cs)) (Ph_passOver tr cn nu de v2)) := e_Ph_passOver_61_0 (by exact rfl)
set_option maxRecDepth 100000 in
theorem e_Ph_wouldGo_0 {v1 : Int32} {x : Option Value × List mmC} (hk : (kP (fun r : Int32 × Ob × Ob × Ob × Ob => (some (.int r.1), mh sc rest to fl ma r.2.1 mk r.2.2.1 r.2.2.2.1 r.2.2.2.2 ru la tb tf ph cs)) x) (Ph_wouldGo ma tr cn nu de ph v1)) : Ev mmPT tbX11_wouldGo 0 [some (.ref 1), some (.int v1)] [] (mh sc rest to fl ma tr mk cn nu de ru la tb tf ph cs) x := by
  unfold Ph_wouldGo at hk
  refine Ev.s (ins := .iload_n 1) (pc' := 1) rfl rfl ?_
  refine kc_X11_isPass_2 rfl (Nat.le_of_ble_eq_true rfl) (e_Ph_isPass) ?_
  refine q_bne rfl hk (fun c1 hk => ?_) (fun c1 hk => ?_)
  · refine Ev.s (ins := .aload_n 0) (pc' := 18) rfl rfl ?_
    refine gf_1_12 (ph.2.2 0) rfl rfl ?_
    refine q_bne rfl hk (fun c2 hk => ?_) (fun c2 hk => ?_)
    · refine Ev.s (ins := .aload_n 0) (pc' := 35) rfl rfl ?_
      refine gf_1_2 rfl ?_
      refine Ev.s (ins := .aload_n 0) (pc' := 39) rfl rfl ?_
      refine gf_1_1 rfl ?_
      refine kc_X3_take_0 rfl oi_61 rfl (Nat.le_of_ble_eq_true rfl) (e_Form_take_61_34) ?_
      refine Ev.s (ins := .aload_n 0) (pc' := 46) rfl rfl ?_
      refine Ev.s (ins := .aload_n 0) (pc' := 47) rfl rfl ?_
      refine gf_1_2 rfl ?_
      refine Ev.s (ins := .iload_n 1) (pc' := 51) rfl rfl ?_
      refine kc_X11_passOver_0 rfl oi_1 rfl (Nat.le_of_ble_eq_true rfl) (e_Ph_passOver_61) ?_
      exact Ev.iret rfl rfl hk
    · exact False.elim hk
  · exact False.elim hk
set_option maxRecDepth 100000 in
theorem e_Ph_wouldGo {v1 : Int32} {r : Int32 × Ob × Ob × Ob × Ob} (hr : (Ph_wouldGo ma tr cn nu de ph v1) = some r) : Ev mmPT tbX11_wouldGo 0 [some (.ref 1), some (.int v1)] [] (mh sc rest to fl ma tr mk cn nu de ru la tb tf ph cs) ((fun r : Int32 × Ob × Ob × Ob × Ob => (some (.int r.1), mh sc rest to fl ma r.2.1 mk r.2.2.1 r.2.2.2.1 r.2.2.2.2 ru la tb tf ph cs)) r) := e_Ph_wouldGo_0 (by rw [hr]; exact rfl)
set_option maxRecDepth 100000 in
theorem e_Ph_passBehind_0 {v0 : Int32} {x : Option Value × List mmC} (hk : (kO (fun r : Int32 => (some (.int r), mh sc rest to fl ma tr mk cn nu de ru la tb tf ph cs)) x) (Ph_passBehind v0)) : Ev mmPT tbX11_passBehind 0 [some (.int v0)] [] (mh sc rest to fl ma tr mk cn nu de ru la tb tf ph cs) x := by
  unfold Ph_passBehind at hk
  refine q_ic 1 rfl rfl ?_
  refine Ev.s (ins := .iload_n 0) (pc' := 2) rfl rfl ?_
  refine q_ic 4 rfl rfl ?_
  refine q_rem rfl (by decide) ?_
  refine Ev.s (ins := .iadd) (pc' := 5) rfl rfl ?_
  exact Ev.iret rfl rfl hk
set_option maxRecDepth 100000 in
theorem e_Ph_passBehind {v0 : Int32} : Ev mmPT tbX11_passBehind 0 [some (.int v0)] [] (mh sc rest to fl ma tr mk cn nu de ru la tb tf ph cs) ((fun r : Int32 => (some (.int r), mh sc rest to fl ma tr mk cn nu de ru la tb tf ph cs)) (Ph_passBehind v0)) := e_Ph_passBehind_0 (by exact rfl)
set_option maxRecDepth 100000 in
theorem e_Tape_begin_k_131_0 {x : Option Value × List mmC} (hk : (kO (fun r : Ob => (none, mh sc rest to fl ma tr mk cn nu de ru la tb r ph cs)) x) (Tape_begin_k tf)) : Ev mmPT tbX9_begin 0 [some (.ref 131)] [] (mh sc rest to fl ma tr mk cn nu de ru la tb tf ph cs) x := by
  unfold Tape_begin_k at hk
  refine Ev.s (ins := .aload_n 0) (pc' := 1) rfl rfl ?_
  refine gf_131_1 rfl ?_
  refine q_ic 0 rfl rfl ?_
  refine fl_132 rfl (Nat.le_of_ble_eq_true rfl) ?_
  refine Ev.s (ins := .aload_n 0) (pc' := 9) rfl rfl ?_
  refine q_ic 1 rfl rfl ?_
  refine pf_131_2 true rfl ?_
  refine Ev.s (ins := .aload_n 0) (pc' := 14) rfl rfl ?_
  refine q_ic 0 rfl rfl ?_
  refine pf_131_3 0 rfl ?_
  refine Ev.s (ins := .aload_n 0) (pc' := 19) rfl rfl ?_
  refine q_ic 0 rfl rfl ?_
  refine pf_131_4 0 rfl ?_
  refine Ev.s (ins := .aload_n 0) (pc' := 24) rfl rfl ?_
  refine q_ic 0 rfl rfl ?_
  refine pf_131_5 0 rfl ?_
  refine Ev.s (ins := .aload_n 0) (pc' := 29) rfl rfl ?_
  refine q_ic 0 rfl rfl ?_
  refine pf_131_6 0 rfl ?_
  refine Ev.s (ins := .aload_n 0) (pc' := 34) rfl rfl ?_
  refine q_ic 0 rfl rfl ?_
  refine pf_131_7 0 rfl ?_
  exact Ev.vret rfl rfl hk
set_option maxRecDepth 100000 in
theorem e_Tape_begin_k_131 : Ev mmPT tbX9_begin 0 [some (.ref 131)] [] (mh sc rest to fl ma tr mk cn nu de ru la tb tf ph cs) ((fun r : Ob => (none, mh sc rest to fl ma tr mk cn nu de ru la tb r ph cs)) (Tape_begin_k tf)) := e_Tape_begin_k_131_0 (by exact rfl)
set_option maxRecDepth 100000 in
theorem e_Runner_reckon_114_61_0 {v2 : Int32} {v3 : Int32} {x : Option Value × List mmC} (hk : (kO (fun r : Int32 => (some (.int r), mh sc rest to fl ma tr mk cn nu de ru la tb tf ph cs)) x) (Runner_reckon tr ru v2 v3)) : Ev mmPT tbX8_reckon 0 [some (.ref 114), some (.ref 61), some (.int v2), some (.int v3), none] [] (mh sc rest to fl ma tr mk cn nu de ru la tb tf ph cs) x := by
  unfold Runner_reckon at hk
  refine Ev.s (ins := .aload_n 1) (pc' := 1) rfl rfl ?_
  refine Ev.s (ins := .iload_n 2) (pc' := 2) rfl rfl ?_
  refine Ev.s (ins := .iload_n 3) (pc' := 3) rfl rfl ?_
  refine kc_X3_valueOf_0 rfl oi_61 rfl (Nat.le_of_ble_eq_true rfl) (e_Form_valueOf_61) ?_
  refine Ev.s (ins := .istore 4) (pc' := 8) (lv' := [some (.ref 114), some (.ref 61), some (.int v2), some (.int v3), some (.int (Form_valueOf tr v2 v3))]) rfl rfl ?_
  refine Ev.s (ins := .iload 4) (pc' := 10) rfl rfl ?_
  refine q_ic (-1) rfl rfl ?_
  refine q_cne rfl hk (fun c1 hk => ?_) (fun c1 hk => ?_)
  · refine Ev.s (ins := .aload_n 1) (pc' := 15) rfl rfl ?_
    refine Ev.s (ins := .iload_n 2) (pc' := 16) rfl rfl ?_
    refine Ev.s (ins := .iload_n 3) (pc' := 17) rfl rfl ?_
    refine kc_X3_numberOf_0 rfl oi_61 rfl (Nat.le_of_ble_eq_true rfl) (e_Form_numberOf_61) ?_
    refine Ev.goto rfl ?_
    exact Ev.iret rfl rfl hk
  · refine Ev.s (ins := .aload_n 0) (pc' := 24) rfl rfl ?_
    refine gf_114_1 rfl ?_
    refine Ev.s (ins := .iload 4) (pc' := 29) rfl rfl ?_
    refine at_117 (oat ru 1 140 (Form_valueOf tr v2 v3)) rfl (Nat.le_of_ble_eq_true rfl) rfl ?_
    exact Ev.iret rfl rfl hk
set_option maxRecDepth 100000 in
theorem e_Runner_reckon_114_61 {v2 : Int32} {v3 : Int32} : Ev mmPT tbX8_reckon 0 [some (.ref 114), some (.ref 61), some (.int v2), some (.int v3), none] [] (mh sc rest to fl ma tr mk cn nu de ru la tb tf ph cs) ((fun r : Int32 => (some (.int r), mh sc rest to fl ma tr mk cn nu de ru la tb tf ph cs)) (Runner_reckon tr ru v2 v3)) := e_Runner_reckon_114_61_0 (by exact rfl)
set_option maxRecDepth 100000 in
theorem e_Runner_doPhis_114_61_56 {v2 : Int32} {v3 : Int32} {v4 : Int32} {x : Option Value × List mmC} (b3 : v4 < 2147483647) (hk : (kK (fun a : Int32 × Ob => mu a.1) (mu v4) (fun a : Int32 × Ob => Ev mmPT tbX8_doPhis 3 [some (.ref 114), some (.ref 61), some (.int v2), some (.int v3), some (.int a.1), none] [] (mh sc rest to fl ma tr mk cn nu de a.2 la tb tf ph cs) x) (kO (fun r : Ob => (none, mh sc rest to fl ma tr mk cn nu de r la tb tf ph cs)) x)) (Runner_doPhis_56 tr ru v2 v3 v4)) : Ev mmPT tbX8_doPhis 56 [some (.ref 114), some (.ref 61), some (.int v2), some (.int v3), some (.int v4), none] [] (mh sc rest to fl ma tr mk cn nu de ru la tb tf ph cs) x := by
  unfold Runner_doPhis_56 at hk
  refine q_inc 1 [some (.ref 114), some (.ref 61), some (.int v2), some (.int v3), some (.int (v4 + 1)), none] rfl rfl rfl rfl ?_
  refine Ev.goto rfl ?_
  replace hk := kK_l hk
  exact hk (mu_lt b3)
set_option maxRecDepth 100000 in
theorem e_Runner_doPhis_114_61_119 {v2 : Int32} {v4 : Int32} {x : Option Value × List mmC} (b65 : v4 < 2147483647) (hk : (kK (fun a : Int32 × Ob => mu a.1) (mu v4) (fun a : Int32 × Ob => Ev mmPT tbX8_doPhis 65 [some (.ref 114), some (.ref 61), some (.int v2), none, some (.int a.1), none] [] (mh sc rest to fl ma tr mk cn nu de a.2 la tb tf ph cs) x) (kO (fun r : Ob => (none, mh sc rest to fl ma tr mk cn nu de r la tb tf ph cs)) x)) (Runner_doPhis_119 tr ru v2 v4)) : Ev mmPT tbX8_doPhis 119 [some (.ref 114), some (.ref 61), some (.int v2), none, some (.int v4), none] [] (mh sc rest to fl ma tr mk cn nu de ru la tb tf ph cs) x := by
  unfold Runner_doPhis_119 at hk
  refine q_inc 1 [some (.ref 114), some (.ref 61), some (.int v2), none, some (.int (v4 + 1)), none] rfl rfl rfl rfl ?_
  refine Ev.goto rfl ?_
  replace hk := kK_l hk
  exact hk (mu_lt b65)
set_option maxRecDepth 100000 in
theorem e_Runner_doPhis_114_61_L65b {v2 : Int32} {v4 : Int32} {x : Option Value × List mmC} (hk : (kK (fun a : Int32 × Ob => mu a.1) (mu v4) (fun a : Int32 × Ob => Ev mmPT tbX8_doPhis 65 [some (.ref 114), some (.ref 61), some (.int v2), none, some (.int a.1), none] [] (mh sc rest to fl ma tr mk cn nu de a.2 la tb tf ph cs) x) (kO (fun r : Ob => (none, mh sc rest to fl ma tr mk cn nu de r la tb tf ph cs)) x)) (Runner_doPhis_L65b tr ru v2 v4)) : Ev mmPT tbX8_doPhis 65 [some (.ref 114), some (.ref 61), some (.int v2), none, some (.int v4), none] [] (mh sc rest to fl ma tr mk cn nu de ru la tb tf ph cs) x := by
  unfold Runner_doPhis_L65b at hk
  refine Ev.s (ins := .iload 4) (pc' := 67) rfl rfl ?_
  refine Ev.s (ins := .aload_n 1) (pc' := 68) rfl rfl ?_
  refine gf_61_7 rfl ?_
  refine Ev.s (ins := .iload_n 2) (pc' := 72) rfl rfl ?_
  refine at_76 (oat tr 7 10 v2) rfl (Nat.le_of_ble_eq_true rfl) rfl ?_
  refine q_cge rfl hk (fun c1 hk => ?_) (fun c1 hk => ?_)
  · refine Ev.s (ins := .aload_n 1) (pc' := 79) rfl rfl ?_
    refine Ev.s (ins := .iload_n 2) (pc' := 80) rfl rfl ?_
    refine Ev.s (ins := .iload 4) (pc' := 82) rfl rfl ?_
    refine kc_X3_valueIn_0 rfl oi_61 rfl (Nat.le_of_ble_eq_true rfl) (e_Form_valueIn_61) ?_
    refine Ev.s (ins := .istore 5) (pc' := 87) (lv' := [some (.ref 114), some (.ref 61), some (.int v2), none, some (.int v4), some (.int (Form_valueIn tr v2 v4))]) rfl rfl ?_
    refine Ev.s (ins := .aload_n 1) (pc' := 88) rfl rfl ?_
    refine gf_61_0 rfl ?_
    refine Ev.s (ins := .iload 5) (pc' := 93) rfl rfl ?_
    refine at_62 (oat tr 0 140 (Form_valueIn tr v2 v4)) rfl (Nat.le_of_ble_eq_true rfl) rfl ?_
    refine q_bi 9 rfl rfl ?_
    refine q_cne rfl hk (fun c2 hk => ?_) (fun c2 hk => ?_)
    · refine Ev.s (ins := .aload_n 0) (pc' := 102) rfl rfl ?_
      refine gf_114_1 rfl ?_
      refine Ev.s (ins := .iload 5) (pc' := 107) rfl rfl ?_
      refine Ev.s (ins := .aload_n 0) (pc' := 108) rfl rfl ?_
      refine gf_114_2 rfl ?_
      refine Ev.s (ins := .iload 5) (pc' := 113) rfl rfl ?_
      refine at_119 (oat ru 2 140 (Form_valueIn tr v2 v4)) rfl (Nat.le_of_ble_eq_true rfl) rfl ?_
      refine pt_117 rfl (Nat.le_of_ble_eq_true rfl) ?_
      refine Ev.weak [some (.ref 114), some (.ref 61), some (.int v2), none, some (.int v4), none] ⟨rfl, rfl, rfl, rfl, rfl, rfl, trivial⟩ ?_
      exact e_Runner_doPhis_114_61_119 (lt31 c1) hk
    · refine Ev.weak [some (.ref 114), some (.ref 61), some (.int v2), none, some (.int v4), none] ⟨rfl, rfl, rfl, rfl, rfl, rfl, trivial⟩ ?_
      exact e_Runner_doPhis_114_61_119 (lt31 c1) hk
  · replace hk := kK_r hk
    exact Ev.vret rfl rfl hk
set_option maxRecDepth 100000 in
theorem e_Runner_doPhis_114_61_L65 {v2 : Int32} {v4 : Int32} {x : Option Value × List mmC} (hk : (kO (fun r : Ob => (none, mh sc rest to fl ma tr mk cn nu de r la tb tf ph cs)) x) (Runner_doPhis_L65 tr ru v2 v4)) : Ev mmPT tbX8_doPhis 65 [some (.ref 114), some (.ref 61), some (.int v2), none, some (.int v4), none] [] (mh sc rest to fl ma tr mk cn nu de ru la tb tf ph cs) x :=
  k_loop (B := (fun a : Int32 × Ob => Runner_doPhis_L65b tr a.2 v2 a.1)) (μ := fun a : Int32 × Ob => mu a.1) (E := fun a : Int32 × Ob => Ev mmPT tbX8_doPhis 65 [some (.ref 114), some (.ref 61), some (.int v2), none, some (.int a.1), none] [] (mh sc rest to fl ma tr mk cn nu de a.2 la tb tf ph cs) x) (X := (kO (fun r : Ob => (none, mh sc rest to fl ma tr mk cn nu de r la tb tf ph cs)) x)) (fun a hk => e_Runner_doPhis_114_61_L65b hk) (v4, ru) hk
set_option maxRecDepth 100000 in
theorem e_Runner_doPhis_114_61_L3b {v2 : Int32} {v3 : Int32} {v4 : Int32} {x : Option Value × List mmC} (hk : (kK (fun a : Int32 × Ob => mu a.1) (mu v4) (fun a : Int32 × Ob => Ev mmPT tbX8_doPhis 3 [some (.ref 114), some (.ref 61), some (.int v2), some (.int v3), some (.int a.1), none] [] (mh sc rest to fl ma tr mk cn nu de a.2 la tb tf ph cs) x) (kO (fun r : Ob => (none, mh sc rest to fl ma tr mk cn nu de r la tb tf ph cs)) x)) (Runner_doPhis_L3b tr ru v2 v3 v4)) : Ev mmPT tbX8_doPhis 3 [some (.ref 114), some (.ref 61), some (.int v2), some (.int v3), some (.int v4), none] [] (mh sc rest to fl ma tr mk cn nu de ru la tb tf ph cs) x := by
  unfold Runner_doPhis_L3b at hk
  refine Ev.s (ins := .iload 4) (pc' := 5) rfl rfl ?_
  refine Ev.s (ins := .aload_n 1) (pc' := 6) rfl rfl ?_
  refine gf_61_7 rfl ?_
  refine Ev.s (ins := .iload_n 2) (pc' := 10) rfl rfl ?_
  refine at_76 (oat tr 7 10 v2) rfl (Nat.le_of_ble_eq_true rfl) rfl ?_
  refine q_cge rfl hk (fun c1 hk => ?_) (fun c1 hk => ?_)
  · refine Ev.s (ins := .aload_n 1) (pc' := 17) rfl rfl ?_
    refine Ev.s (ins := .iload_n 2) (pc' := 18) rfl rfl ?_
    refine Ev.s (ins := .iload 4) (pc' := 20) rfl rfl ?_
    refine kc_X3_valueIn_0 rfl oi_61 rfl (Nat.le_of_ble_eq_true rfl) (e_Form_valueIn_61) ?_
    refine Ev.s (ins := .istore 5) (pc' := 25) (lv' := [some (.ref 114), some (.ref 61), some (.int v2), some (.int v3), some (.int v4), some (.int (Form_valueIn tr v2 v4))]) rfl rfl ?_
    refine Ev.s (ins := .aload_n 1) (pc' := 26) rfl rfl ?_
    refine gf_61_0 rfl ?_
    refine Ev.s (ins := .iload 5) (pc' := 31) rfl rfl ?_
    refine at_62 (oat tr 0 140 (Form_valueIn tr v2 v4)) rfl (Nat.le_of_ble_eq_true rfl) rfl ?_
    refine q_bi 9 rfl rfl ?_
    refine q_cne rfl hk (fun c2 hk => ?_) (fun c2 hk => ?_)
    · refine Ev.s (ins := .aload_n 0) (pc' := 40) rfl rfl ?_
      refine gf_114_2 rfl ?_
      refine Ev.s (ins := .iload 5) (pc' := 45) rfl rfl ?_
      refine Ev.s (ins := .aload_n 0) (pc' := 46) rfl rfl ?_
      refine Ev.s (ins := .aload_n 1) (pc' := 47) rfl rfl ?_
      refine Ev.s (ins := .iload 5) (pc' := 49) rfl rfl ?_
      refine Ev.s (ins := .iload_n 3) (pc' := 50) rfl rfl ?_
      refine kc_X8_reckon_0 rfl oi_114 rfl (Nat.le_of_ble_eq_true rfl) (e_Runner_reckon_114_61) ?_
      refine pt_119 rfl (Nat.le_of_ble_eq_true rfl) ?_
      refine Ev.weak [some (.ref 114), some (.ref 61), some (.int v2), some (.int v3), some (.int v4), none] ⟨rfl, rfl, rfl, rfl, rfl, rfl, trivial⟩ ?_
      exact e_Runner_doPhis_114_61_56 (lt31 c1) hk
    · refine Ev.weak [some (.ref 114), some (.ref 61), some (.int v2), some (.int v3), some (.int v4), none] ⟨rfl, rfl, rfl, rfl, rfl, rfl, trivial⟩ ?_
      exact e_Runner_doPhis_114_61_56 (lt31 c1) hk
  · replace hk := kK_r hk
    refine q_ic 0 rfl rfl ?_
    refine Ev.s (ins := .istore 4) (pc' := 65) (lv' := [some (.ref 114), some (.ref 61), some (.int v2), some (.int v3), some (.int 0), none]) rfl rfl ?_
    refine Ev.weak [some (.ref 114), some (.ref 61), some (.int v2), none, some (.int 0), none] ⟨rfl, rfl, rfl, rfl, rfl, rfl, trivial⟩ ?_
    exact e_Runner_doPhis_114_61_L65 hk
set_option maxRecDepth 100000 in
theorem e_Runner_doPhis_114_61_L3 {v2 : Int32} {v3 : Int32} {v4 : Int32} {x : Option Value × List mmC} (hk : (kO (fun r : Ob => (none, mh sc rest to fl ma tr mk cn nu de r la tb tf ph cs)) x) (Runner_doPhis_L3 tr ru v2 v3 v4)) : Ev mmPT tbX8_doPhis 3 [some (.ref 114), some (.ref 61), some (.int v2), some (.int v3), some (.int v4), none] [] (mh sc rest to fl ma tr mk cn nu de ru la tb tf ph cs) x :=
  k_loop (B := (fun a : Int32 × Ob => Runner_doPhis_L3b tr a.2 v2 v3 a.1)) (μ := fun a : Int32 × Ob => mu a.1) (E := fun a : Int32 × Ob => Ev mmPT tbX8_doPhis 3 [some (.ref 114), some (.ref 61), some (.int v2), some (.int v3), some (.int a.1), none] [] (mh sc rest to fl ma tr mk cn nu de a.2 la tb tf ph cs) x) (X := (kO (fun r : Ob => (none, mh sc rest to fl ma tr mk cn nu de r la tb tf ph cs)) x)) (fun a hk => e_Runner_doPhis_114_61_L3b hk) (v4, ru) hk
set_option maxRecDepth 100000 in
theorem e_Runner_doPhis_114_61_0 {v2 : Int32} {v3 : Int32} {x : Option Value × List mmC} (hk : (kO (fun r : Ob => (none, mh sc rest to fl ma tr mk cn nu de r la tb tf ph cs)) x) (Runner_doPhis tr ru v2 v3)) : Ev mmPT tbX8_doPhis 0 [some (.ref 114), some (.ref 61), some (.int v2), some (.int v3), none, none] [] (mh sc rest to fl ma tr mk cn nu de ru la tb tf ph cs) x := by
  unfold Runner_doPhis at hk
  refine q_ic 0 rfl rfl ?_
  refine Ev.s (ins := .istore 4) (pc' := 3) (lv' := [some (.ref 114), some (.ref 61), some (.int v2), some (.int v3), some (.int 0), none]) rfl rfl ?_
  exact e_Runner_doPhis_114_61_L3 hk
set_option maxRecDepth 100000 in
theorem e_Runner_doPhis_114_61 {v2 : Int32} {v3 : Int32} : Ev mmPT tbX8_doPhis 0 [some (.ref 114), some (.ref 61), some (.int v2), some (.int v3), none, none] [] (mh sc rest to fl ma tr mk cn nu de ru la tb tf ph cs) ((fun r : Ob => (none, mh sc rest to fl ma tr mk cn nu de r la tb tf ph cs)) (Runner_doPhis tr ru v2 v3)) := e_Runner_doPhis_114_61_0 (by exact rfl)
set_option maxRecDepth 100000 in
theorem e_Tape_finish_k_131_0 {v1 : Int32} {x : Option Value × List mmC} (hk : (kO (fun r : Ob => (none, mh sc rest to fl ma tr mk cn nu de ru la tb r ph cs)) x) (Tape_finish_k tf v1)) : Ev mmPT tbX9_finish 0 [some (.ref 131), some (.int v1)] [] (mh sc rest to fl ma tr mk cn nu de ru la tb tf ph cs) x := by
  unfold Tape_finish_k at hk
  refine Ev.s (ins := .aload_n 0) (pc' := 1) rfl rfl ?_
  refine q_ic 0 rfl rfl ?_
  refine pf_131_2 false rfl ?_
  refine Ev.s (ins := .aload_n 0) (pc' := 6) rfl rfl ?_
  refine Ev.s (ins := .iload_n 1) (pc' := 7) rfl rfl ?_
  refine pf_131_3 v1 rfl ?_
  exact Ev.vret rfl rfl hk
set_option maxRecDepth 100000 in
theorem e_Tape_finish_k_131 {v1 : Int32} : Ev mmPT tbX9_finish 0 [some (.ref 131), some (.int v1)] [] (mh sc rest to fl ma tr mk cn nu de ru la tb tf ph cs) ((fun r : Ob => (none, mh sc rest to fl ma tr mk cn nu de ru la tb r ph cs)) (Tape_finish_k tf v1)) := e_Tape_finish_k_131_0 (by exact rfl)
set_option maxRecDepth 100000 in
theorem e_Tape_act_k_131_134 {v1 : Int32} {v2 : Int32} {v3 : Int32} {x : Option Value × List mmC} (hk : (kO (fun r : Int32 × Ob => (some (.int r.1), mh sc rest to fl ma tr mk cn nu de ru la tb r.2 ph cs)) x) (Tape_act_k_134 tf v1 v2 v3)) : Ev mmPT tbX9_act 134 [none, some (.int v1), some (.int v2), some (.int v3)] [] (mh sc rest to fl ma tr mk cn nu de ru la tb tf ph cs) x := by
  unfold Tape_act_k_134 at hk
  refine Ev.s (ins := .iload_n 1) (pc' := 135) rfl rfl ?_
  refine Ev.s (ins := .iload_n 2) (pc' := 136) rfl rfl ?_
  refine Ev.s (ins := .iload_n 3) (pc' := 137) rfl rfl ?_
  refine kc_X11_reckoned_3 rfl (Nat.le_of_ble_eq_true rfl) (e_Ph_reckoned) ?_
  exact Ev.iret rfl rfl hk
set_option maxRecDepth 100000 in
theorem e_Tape_act_k_131_0 {v1 : Int32} {v2 : Int32} {v3 : Int32} {x : Option Value × List mmC} (hk : (kO (fun r : Int32 × Ob => (some (.int r.1), mh sc rest to fl ma tr mk cn nu de ru la tb r.2 ph cs)) x) (Tape_act_k tf v1 v2 v3)) : Ev mmPT tbX9_act 0 [some (.ref 131), some (.int v1), some (.int v2), some (.int v3)] [] (mh sc rest to fl ma tr mk cn nu de ru la tb tf ph cs) x := by
  unfold Tape_act_k at hk
  refine Ev.s (ins := .aload_n 0) (pc' := 1) rfl rfl ?_
  refine Ev.s (ins := .dup) (pc' := 2) rfl rfl ?_
  refine gf_131_6 (tf.2.1 3) rfl rfl ?_
  refine Ev.s (ins := .iload_n 1) (pc' := 6) rfl rfl ?_
  refine kc_X11_costOf_3 rfl (Nat.le_of_ble_eq_true rfl) (e_Ph_costOf) ?_
  refine Ev.s (ins := .iadd) (pc' := 10) rfl rfl ?_
  refine pf_131_6 ((tf.2.1 3) + (Ph_costOf v1)) rfl ?_
  refine Ev.s (ins := .iload_n 1) (pc' := 14) rfl rfl ?_
  refine q_if hk (fun c1 hk => ?_) (fun c1 hk => ?_)
  · refine Ev.sw (tg := 64) rfl rfl (by rw [c1]; rfl) ?_
    refine Ev.s (ins := .iload_n 2) (pc' := 65) rfl rfl ?_
    exact Ev.iret rfl rfl hk
  · skip
    refine q_if hk (fun c2 hk => ?_) (fun c2 hk => ?_)
    · refine Ev.sw (tg := 66) rfl rfl (by rw [c2]; rfl) ?_
      refine Ev.s (ins := .aload_n 0) (pc' := 67) rfl rfl ?_
      refine gf_131_1 rfl ?_
      refine Ev.s (ins := .iload_n 2) (pc' := 71) rfl rfl ?_
      refine q_bi 8 rfl rfl ?_
      refine kc_J9_floorMod_7cf53_2 rfl (Nat.le_of_ble_eq_true rfl) (e_J_floorMod_8) ?_
      refine at_132 (oat tf 0 8 (J_floorMod_8 v2)) rfl (Nat.le_of_ble_eq_true rfl) rfl ?_
      exact Ev.iret rfl rfl hk
    · skip
      refine q_if hk (fun c3 hk => ?_) (fun c3 hk => ?_)
      · refine Ev.sw (tg := 80) rfl rfl (by rw [c3]; rfl) ?_
        refine Ev.s (ins := .aload_n 0) (pc' := 81) rfl rfl ?_
        refine gf_131_1 rfl ?_
        refine Ev.s (ins := .iload_n 2) (pc' := 85) rfl rfl ?_
        refine q_bi 8 rfl rfl ?_
        refine kc_J9_floorMod_7cf53_2 rfl (Nat.le_of_ble_eq_true rfl) (e_J_floorMod_8) ?_
        refine Ev.s (ins := .iload_n 3) (pc' := 91) rfl rfl ?_
        refine pt_132 rfl (Nat.le_of_ble_eq_true rfl) ?_
        refine q_ic 0 rfl rfl ?_
        exact Ev.iret rfl rfl hk
      · skip
        refine q_if hk (fun c4 hk => ?_) (fun c4 hk => ?_)
        · refine Ev.sw (tg := 96) rfl rfl (by rw [c4]; rfl) ?_
          refine Ev.s (ins := .aload_n 0) (pc' := 97) rfl rfl ?_
          refine gf_131_0 rfl ?_
          refine Ev.s (ins := .aload_n 0) (pc' := 101) rfl rfl ?_
          refine gf_131_5 (tf.2.1 2) rfl rfl ?_
          refine Ev.s (ins := .iload_n 2) (pc' := 105) rfl rfl ?_
          refine pt_134 rfl (Nat.le_of_ble_eq_true rfl) ?_
          refine Ev.s (ins := .aload_n 0) (pc' := 109) rfl rfl ?_
          refine Ev.s (ins := .dup) (pc' := 110) rfl rfl ?_
          refine gf_131_5 (tf.2.1 2) rfl rfl ?_
          refine q_ic 1 rfl rfl ?_
          refine Ev.s (ins := .iadd) (pc' := 115) rfl rfl ?_
          refine pf_131_5 ((tf.2.1 2) + 1) rfl ?_
          refine q_ic 0 rfl rfl ?_
          exact Ev.iret rfl rfl hk
        · skip
          refine Ev.sw (tg := 120) rfl rfl (swg (by decide) (by decide) (fun k h e => ?_)) ?_
          · have h9 : k < 9 := by omega
            match k, h9, e with
            | 0, _, e => exact absurd e c1
            | 1, _, e => rfl
            | 2, _, e => rfl
            | 3, _, e => rfl
            | 4, _, e => rfl
            | 5, _, e => rfl
            | 6, _, e => exact absurd e c2
            | 7, _, e => exact absurd e c3
            | 8, _, e => exact absurd e c4
          · refine Ev.s (ins := .iload_n 1) (pc' := 121) rfl rfl ?_
            refine q_ic 4 rfl rfl ?_
            refine q_cne rfl hk (fun c5 hk => ?_) (fun c5 hk => ?_)
            · refine Ev.s (ins := .iload_n 3) (pc' := 126) rfl rfl ?_
              refine q_ne rfl hk (fun c6 hk => ?_) (fun c6 hk => ?_)
              · refine Ev.s (ins := .aload_n 0) (pc' := 130) rfl rfl ?_
                refine q_ic 1 rfl rfl ?_
                refine kc_X9_finish_0 rfl oi_131 rfl (Nat.le_of_ble_eq_true rfl) (e_Tape_finish_k_131) ?_
                refine Ev.weak [none, some (.int v1), some (.int v2), some (.int v3)] ⟨rfl, rfl, rfl, rfl, trivial⟩ ?_
                exact e_Tape_act_k_131_134 hk
              · refine Ev.weak [none, some (.int v1), some (.int v2), some (.int v3)] ⟨rfl, rfl, rfl, rfl, trivial⟩ ?_
                exact e_Tape_act_k_131_134 hk
            · refine Ev.weak [none, some (.int v1), some (.int v2), some (.int v3)] ⟨rfl, rfl, rfl, rfl, trivial⟩ ?_
              exact e_Tape_act_k_131_134 hk
set_option maxRecDepth 100000 in
theorem e_Tape_act_k_131 {v1 : Int32} {v2 : Int32} {v3 : Int32} : Ev mmPT tbX9_act 0 [some (.ref 131), some (.int v1), some (.int v2), some (.int v3)] [] (mh sc rest to fl ma tr mk cn nu de ru la tb tf ph cs) ((fun r : Int32 × Ob => (some (.int r.1), mh sc rest to fl ma tr mk cn nu de ru la tb r.2 ph cs)) (Tape_act_k tf v1 v2 v3)) := e_Tape_act_k_131_0 (by exact rfl)
set_option maxRecDepth 100000 in
theorem e_Runner_doValues_k_114_61_131_81 {v2 : Int32} {v4 : Int32} {x : Option Value × List mmC} (b3 : v4 < 2147483647) (hk : (kK (fun a : Int32 × Ob × Ob => mu a.1) (mu v4) (fun a : Int32 × Ob × Ob => Ev mmPT tbX8_doValues 3 [some (.ref 114), some (.ref 61), some (.int v2), some (.ref 131), some (.int a.1), none, none] [] (mh sc rest to fl ma tr mk cn nu de a.2.1 la tb a.2.2 ph cs) x) (kO (fun r : Ob × Ob => (none, mh sc rest to fl ma tr mk cn nu de r.1 la tb r.2 ph cs)) x)) (Runner_doValues_k_81 tr ru tf v2 v4)) : Ev mmPT tbX8_doValues 81 [some (.ref 114), some (.ref 61), some (.int v2), some (.ref 131), some (.int v4), none, none] [] (mh sc rest to fl ma tr mk cn nu de ru la tb tf ph cs) x := by
  unfold Runner_doValues_k_81 at hk
  refine q_inc 1 [some (.ref 114), some (.ref 61), some (.int v2), some (.ref 131), some (.int (v4 + 1)), none, none] rfl rfl rfl rfl ?_
  refine Ev.goto rfl ?_
  replace hk := kK_l hk
  exact hk (mu_lt b3)
set_option maxRecDepth 100000 in
theorem e_Runner_doValues_k_114_61_131_78 {v2 : Int32} {v4 : Int32} {w0 : Int32} {w1 : Int32} {x : Option Value × List mmC} (b3 : v4 < 2147483647) (hk : (kK (fun a : Int32 × Ob × Ob => mu a.1) (mu v4) (fun a : Int32 × Ob × Ob => Ev mmPT tbX8_doValues 3 [some (.ref 114), some (.ref 61), some (.int v2), some (.ref 131), some (.int a.1), none, none] [] (mh sc rest to fl ma tr mk cn nu de a.2.1 la tb a.2.2 ph cs) x) (kO (fun r : Ob × Ob => (none, mh sc rest to fl ma tr mk cn nu de r.1 la tb r.2 ph cs)) x)) (Runner_doValues_k_78 tr ru tf v2 v4 w0 w1)) : Ev mmPT tbX8_doValues 78 [some (.ref 114), some (.ref 61), some (.int v2), some (.ref 131), some (.int v4), none, none] [.int w0, .int w1, .ref 117] (mh sc rest to fl ma tr mk cn nu de ru la tb tf ph cs) x := by
  unfold Runner_doValues_k_78 at hk
  refine pt_117 rfl (Nat.le_of_ble_eq_true rfl) ?_
  exact e_Runner_doValues_k_114_61_131_81 b3 hk
set_option maxRecDepth 100000 in
theorem e_Runner_doValues_k_114_61_131_L3b {v2 : Int32} {v4 : Int32} {x : Option Value × List mmC} (hk : (kK (fun a : Int32 × Ob × Ob => mu a.1) (mu v4) (fun a : Int32 × Ob × Ob => Ev mmPT tbX8_doValues 3 [some (.ref 114), some (.ref 61), some (.int v2), some (.ref 131), some (.int a.1), none, none] [] (mh sc rest to fl ma tr mk cn nu de a.2.1 la tb a.2.2 ph cs) x) (kO (fun r : Ob × Ob => (none, mh sc rest to fl ma tr mk cn nu de r.1 la tb r.2 ph cs)) x)) (Runner_doValues_k_L3b tr ru tf v2 v4)) : Ev mmPT tbX8_doValues 3 [some (.ref 114), some (.ref 61), some (.int v2), some (.ref 131), some (.int v4), none, none] [] (mh sc rest to fl ma tr mk cn nu de ru la tb tf ph cs) x := by
  unfold Runner_doValues_k_L3b at hk
  refine Ev.s (ins := .aload_n 3) (pc' := 4) rfl rfl ?_
  refine gf_131_2 (tf.2.2 0) rfl rfl ?_
  refine q_beq rfl hk (fun c1 hk => ?_) (fun c1 hk => ?_)
  · refine Ev.s (ins := .iload 4) (pc' := 12) rfl rfl ?_
    refine Ev.s (ins := .aload_n 1) (pc' := 13) rfl rfl ?_
    refine gf_61_7 rfl ?_
    refine Ev.s (ins := .iload_n 2) (pc' := 17) rfl rfl ?_
    refine at_76 (oat tr 7 10 v2) rfl (Nat.le_of_ble_eq_true rfl) rfl ?_
    refine q_cge rfl hk (fun c2 hk => ?_) (fun c2 hk => ?_)
    · refine Ev.s (ins := .aload_n 1) (pc' := 24) rfl rfl ?_
      refine Ev.s (ins := .iload_n 2) (pc' := 25) rfl rfl ?_
      refine Ev.s (ins := .iload 4) (pc' := 27) rfl rfl ?_
      refine kc_X3_valueIn_0 rfl oi_61 rfl (Nat.le_of_ble_eq_true rfl) (e_Form_valueIn_61) ?_
      refine Ev.s (ins := .istore 5) (pc' := 32) (lv' := [some (.ref 114), some (.ref 61), some (.int v2), some (.ref 131), some (.int v4), some (.int (Form_valueIn tr v2 v4)), none]) rfl rfl ?_
      refine Ev.s (ins := .aload_n 1) (pc' := 33) rfl rfl ?_
      refine gf_61_0 rfl ?_
      refine Ev.s (ins := .iload 5) (pc' := 38) rfl rfl ?_
      refine at_62 (oat tr 0 140 (Form_valueIn tr v2 v4)) rfl (Nat.le_of_ble_eq_true rfl) rfl ?_
      refine Ev.s (ins := .istore 6) (pc' := 43) (lv' := [some (.ref 114), some (.ref 61), some (.int v2), some (.ref 131), some (.int v4), some (.int (Form_valueIn tr v2 v4)), some (.int (oat tr 0 140 (Form_valueIn tr v2 v4)))]) rfl rfl ?_
      refine Ev.s (ins := .iload 6) (pc' := 45) rfl rfl ?_
      refine q_bi 9 rfl rfl ?_
      refine q_ceq rfl hk (fun c3 hk => ?_) (fun c3 hk => ?_)
      · refine Ev.weak [some (.ref 114), some (.ref 61), some (.int v2), some (.ref 131), some (.int v4), none, none] ⟨rfl, rfl, rfl, rfl, rfl, rfl, rfl, trivial⟩ ?_
        exact e_Runner_doValues_k_114_61_131_81 (lt31 c2) hk
      · refine Ev.s (ins := .aload_n 0) (pc' := 51) rfl rfl ?_
        refine gf_114_1 rfl ?_
        refine Ev.s (ins := .iload 5) (pc' := 56) rfl rfl ?_
        refine Ev.s (ins := .aload_n 3) (pc' := 57) rfl rfl ?_
        refine Ev.s (ins := .iload 6) (pc' := 59) rfl rfl ?_
        refine Ev.s (ins := .aload_n 0) (pc' := 60) rfl rfl ?_
        refine Ev.s (ins := .aload_n 1) (pc' := 61) rfl rfl ?_
        refine Ev.s (ins := .iload 5) (pc' := 63) rfl rfl ?_
        refine q_ic 0 rfl rfl ?_
        refine kc_X8_reckon_0 rfl oi_114 rfl (Nat.le_of_ble_eq_true rfl) (e_Runner_reckon_114_61) ?_
        refine Ev.s (ins := .aload_n 0) (pc' := 68) rfl rfl ?_
        refine Ev.s (ins := .aload_n 1) (pc' := 69) rfl rfl ?_
        refine Ev.s (ins := .iload 5) (pc' := 71) rfl rfl ?_
        refine q_ic 1 rfl rfl ?_
        refine kc_X8_reckon_0 rfl oi_114 rfl (Nat.le_of_ble_eq_true rfl) (e_Runner_reckon_114_61) ?_
        refine kc_X9_act_0 rfl oi_131 rfl (Nat.le_of_ble_eq_true rfl) (e_Tape_act_k_131) ?_
        refine Ev.weak [some (.ref 114), some (.ref 61), some (.int v2), some (.ref 131), some (.int v4), none, none] ⟨rfl, rfl, rfl, rfl, rfl, rfl, rfl, trivial⟩ ?_
        exact e_Runner_doValues_k_114_61_131_78 (lt31 c2) hk
    · replace hk := kK_r hk
      exact Ev.vret rfl rfl hk
  · replace hk := kK_r hk
    exact Ev.vret rfl rfl hk
set_option maxRecDepth 100000 in
theorem e_Runner_doValues_k_114_61_131_L3 {v2 : Int32} {v4 : Int32} {x : Option Value × List mmC} (hk : (kO (fun r : Ob × Ob => (none, mh sc rest to fl ma tr mk cn nu de r.1 la tb r.2 ph cs)) x) (Runner_doValues_k_L3 tr ru tf v2 v4)) : Ev mmPT tbX8_doValues 3 [some (.ref 114), some (.ref 61), some (.int v2), some (.ref 131), some (.int v4), none, none] [] (mh sc rest to fl ma tr mk cn nu de ru la tb tf ph cs) x :=
  k_loop (B := (fun a : Int32 × Ob × Ob => Runner_doValues_k_L3b tr a.2.1 a.2.2 v2 a.1)) (μ := fun a : Int32 × Ob × Ob => mu a.1) (E := fun a : Int32 × Ob × Ob => Ev mmPT tbX8_doValues 3 [some (.ref 114), some (.ref 61), some (.int v2), some (.ref 131), some (.int a.1), none, none] [] (mh sc rest to fl ma tr mk cn nu de a.2.1 la tb a.2.2 ph cs) x) (X := (kO (fun r : Ob × Ob => (none, mh sc rest to fl ma tr mk cn nu de r.1 la tb r.2 ph cs)) x)) (fun a hk => e_Runner_doValues_k_114_61_131_L3b hk) (v4, ru, tf) hk
set_option maxRecDepth 100000 in
theorem e_Runner_doValues_k_114_61_131_0 {v2 : Int32} {x : Option Value × List mmC} (hk : (kO (fun r : Ob × Ob => (none, mh sc rest to fl ma tr mk cn nu de r.1 la tb r.2 ph cs)) x) (Runner_doValues_k tr ru tf v2)) : Ev mmPT tbX8_doValues 0 [some (.ref 114), some (.ref 61), some (.int v2), some (.ref 131), none, none, none] [] (mh sc rest to fl ma tr mk cn nu de ru la tb tf ph cs) x := by
  unfold Runner_doValues_k at hk
  refine q_ic 0 rfl rfl ?_
  refine Ev.s (ins := .istore 4) (pc' := 3) (lv' := [some (.ref 114), some (.ref 61), some (.int v2), some (.ref 131), some (.int 0), none, none]) rfl rfl ?_
  exact e_Runner_doValues_k_114_61_131_L3 hk
set_option maxRecDepth 100000 in
theorem e_Runner_doValues_k_114_61_131 {v2 : Int32} : Ev mmPT tbX8_doValues 0 [some (.ref 114), some (.ref 61), some (.int v2), some (.ref 131), none, none, none] [] (mh sc rest to fl ma tr mk cn nu de ru la tb tf ph cs) ((fun r : Ob × Ob => (none, mh sc rest to fl ma tr mk cn nu de r.1 la tb r.2 ph cs)) (Runner_doValues_k tr ru tf v2)) := e_Runner_doValues_k_114_61_131_0 (by exact rfl)
set_option maxRecDepth 100000 in
theorem e_Tape_leaveBy_k_131_84 {x : Option Value × List mmC} (hk : (kO (fun r : Int32 × Ob => (some (.int r.1), mh sc rest to fl ma tr mk cn nu de ru la tb r.2 ph cs)) x) (Tape_leaveBy_k_84 tf)) : Ev mmPT tbX9_leaveBy 84 [none, none, none] [] (mh sc rest to fl ma tr mk cn nu de ru la tb tf ph cs) x := by
  unfold Tape_leaveBy_k_84 at hk
  refine q_ic 0 rfl rfl ?_
  exact Ev.iret rfl rfl hk
set_option maxRecDepth 100000 in
theorem e_Tape_leaveBy_k_131_67 {v1 : Int32} {v2 : Int32} {w0 : Int32} {w1 : Int32} {x : Option Value × List mmC} (hk : (kO (fun r : Int32 × Ob => (some (.int r.1), mh sc rest to fl ma tr mk cn nu de ru la tb r.2 ph cs)) x) (Tape_leaveBy_k_67 tf v1 v2 w0 w1)) : Ev mmPT tbX9_leaveBy 67 [none, some (.int v1), some (.int v2)] [.int w0, .int w1, .ref 131] (mh sc rest to fl ma tr mk cn nu de ru la tb tf ph cs) x := by
  unfold Tape_leaveBy_k_67 at hk
  refine Ev.s (ins := .iadd) (pc' := 68) rfl rfl ?_
  refine pf_131_6 (w1 + w0) rfl ?_
  refine Ev.s (ins := .iload_n 1) (pc' := 72) rfl rfl ?_
  refine q_ic 2 rfl rfl ?_
  refine q_cne rfl hk (fun c1 hk => ?_) (fun c1 hk => ?_)
  · refine Ev.s (ins := .iload_n 2) (pc' := 77) rfl rfl ?_
    refine q_gt rfl hk (fun c2 hk => ?_) (fun c2 hk => ?_)
    · refine Ev.weak [none, none, none] ⟨rfl, rfl, rfl, trivial⟩ ?_
      exact e_Tape_leaveBy_k_131_84 hk
    · refine q_ic 1 rfl rfl ?_
      refine Ev.goto rfl ?_
      exact Ev.iret rfl rfl hk
  · refine Ev.weak [none, none, none] ⟨rfl, rfl, rfl, trivial⟩ ?_
    exact e_Tape_leaveBy_k_131_84 hk
set_option maxRecDepth 100000 in
theorem e_Tape_leaveBy_k_131_0 {v1 : Int32} {v2 : Int32} {x : Option Value × List mmC} (hk : (kO (fun r : Int32 × Ob => (some (.int r.1), mh sc rest to fl ma tr mk cn nu de ru la tb r.2 ph cs)) x) (Tape_leaveBy_k tf v1 v2)) : Ev mmPT tbX9_leaveBy 0 [some (.ref 131), some (.int v1), some (.int v2)] [] (mh sc rest to fl ma tr mk cn nu de ru la tb tf ph cs) x := by
  unfold Tape_leaveBy_k at hk
  refine Ev.s (ins := .aload_n 0) (pc' := 1) rfl rfl ?_
  refine gf_131_2 (tf.2.2 0) rfl rfl ?_
  refine q_bne rfl hk (fun c1 hk => ?_) (fun c1 hk => ?_)
  · refine Ev.s (ins := .aload_n 0) (pc' := 10) rfl rfl ?_
    refine gf_131_7 (tf.2.1 4) rfl rfl ?_
    refine q_si 300 rfl rfl ?_
    refine q_clt rfl hk (fun c2 hk => ?_) (fun c2 hk => ?_)
    · refine Ev.s (ins := .aload_n 0) (pc' := 27) rfl rfl ?_
      refine Ev.s (ins := .dup) (pc' := 28) rfl rfl ?_
      refine gf_131_7 (tf.2.1 4) rfl rfl ?_
      refine q_ic 1 rfl rfl ?_
      refine Ev.s (ins := .iadd) (pc' := 33) rfl rfl ?_
      refine pf_131_7 ((tf.2.1 4) + 1) rfl ?_
      refine Ev.s (ins := .iload_n 1) (pc' := 37) rfl rfl ?_
      refine q_ne rfl hk (fun c3 hk => ?_) (fun c3 hk => ?_)
      · refine Ev.s (ins := .aload_n 0) (pc' := 41) rfl rfl ?_
        refine Ev.s (ins := .iload_n 2) (pc' := 42) rfl rfl ?_
        refine pf_131_4 v2 rfl ?_
        refine Ev.s (ins := .aload_n 0) (pc' := 46) rfl rfl ?_
        refine q_ic 0 rfl rfl ?_
        refine kc_X9_finish_0 rfl oi_131 rfl (Nat.le_of_ble_eq_true rfl) (e_Tape_finish_k_131) ?_
        refine q_ic 0 rfl rfl ?_
        exact Ev.iret rfl rfl hk
      · refine Ev.s (ins := .aload_n 0) (pc' := 53) rfl rfl ?_
        refine Ev.s (ins := .dup) (pc' := 54) rfl rfl ?_
        refine gf_131_6 (tf.2.1 3) rfl rfl ?_
        refine Ev.s (ins := .iload_n 1) (pc' := 58) rfl rfl ?_
        refine q_ic 2 rfl rfl ?_
        refine q_cne rfl hk (fun c4 hk => ?_) (fun c4 hk => ?_)
        · refine q_ic 2 rfl rfl ?_
          refine Ev.goto rfl ?_
          refine Ev.weak [none, some (.int v1), some (.int v2)] ⟨rfl, rfl, rfl, trivial⟩ ?_
          exact e_Tape_leaveBy_k_131_67 hk
        · refine q_ic 1 rfl rfl ?_
          refine Ev.weak [none, some (.int v1), some (.int v2)] ⟨rfl, rfl, rfl, trivial⟩ ?_
          exact e_Tape_leaveBy_k_131_67 hk
    · refine Ev.s (ins := .aload_n 0) (pc' := 20) rfl rfl ?_
      refine q_ic 2 rfl rfl ?_
      refine kc_X9_finish_0 rfl oi_131 rfl (Nat.le_of_ble_eq_true rfl) (e_Tape_finish_k_131) ?_
      refine q_ic 0 rfl rfl ?_
      exact Ev.iret rfl rfl hk
  · refine q_ic 0 rfl rfl ?_
    exact Ev.iret rfl rfl hk
set_option maxRecDepth 100000 in
theorem e_Tape_leaveBy_k_131 {v1 : Int32} {v2 : Int32} : Ev mmPT tbX9_leaveBy 0 [some (.ref 131), some (.int v1), some (.int v2)] [] (mh sc rest to fl ma tr mk cn nu de ru la tb tf ph cs) ((fun r : Int32 × Ob => (some (.int r.1), mh sc rest to fl ma tr mk cn nu de ru la tb r.2 ph cs)) (Tape_leaveBy_k tf v1 v2)) := e_Tape_leaveBy_k_131_0 (by exact rfl)
set_option maxRecDepth 100000 in
theorem e_Runner_walkForm_k_114_61_131_110 {v7 : Int32} {w0 : Int32} {w1 : Int32} {x : Option Value × List mmC} (b40 : v7 < 2147483647) (hk : (kK (fun a : Int32 × Int32 × Int32 × Ob × Ob => mu a.2.2.1) (mu v7) (fun a : Int32 × Int32 × Int32 × Ob × Ob => Ev mmPT tbX8_walkForm 40 [some (.ref 114), some (.ref 61), none, none, some (.ref 131), some (.int a.1), some (.int a.2.1), some (.int a.2.2.1)] [] (mh sc rest to fl ma tr mk cn nu de a.2.2.2.1 la tb a.2.2.2.2 ph cs) x) (kO (fun r : Ob × Ob => (none, mh sc rest to fl ma tr mk cn nu de r.1 la tb r.2 ph cs)) x)) (Runner_walkForm_k_110 tr ru tf v7 w0 w1)) : Ev mmPT tbX8_walkForm 110 [some (.ref 114), some (.ref 61), none, none, some (.ref 131), none, none, some (.int v7)] [.int w0, .int w1] (mh sc rest to fl ma tr mk cn nu de ru la tb tf ph cs) x := by
  unfold Runner_walkForm_k_110 at hk
  refine Ev.s (ins := .iadd) (pc' := 111) rfl rfl ?_
  refine Ev.s (ins := .istore 6) (pc' := 113) (lv' := [some (.ref 114), some (.ref 61), none, none, some (.ref 131), none, some (.int (w1 + w0)), some (.int v7)]) rfl rfl ?_
  refine Ev.s (ins := .aload_n 1) (pc' := 114) rfl rfl ?_
  refine gf_61_12 rfl ?_
  refine Ev.s (ins := .iload 6) (pc' := 119) rfl rfl ?_
  refine at_86 (oat tr 12 20 (w1 + w0)) rfl (Nat.le_of_ble_eq_true rfl) rfl ?_
  refine Ev.s (ins := .istore 5) (pc' := 124) (lv' := [some (.ref 114), some (.ref 61), none, none, some (.ref 131), some (.int (oat tr 12 20 (w1 + w0))), some (.int (w1 + w0)), some (.int v7)]) rfl rfl ?_
  refine q_inc 1 [some (.ref 114), some (.ref 61), none, none, some (.ref 131), some (.int (oat tr 12 20 (w1 + w0))), some (.int (w1 + w0)), some (.int (v7 + 1))] rfl rfl rfl rfl ?_
  refine Ev.goto rfl ?_
  replace hk := kK_l hk
  exact hk (mu_lt b40)
set_option maxRecDepth 100000 in
theorem e_Runner_walkForm_k_114_61_131_80 {v5 : Int32} {v7 : Int32} {x : Option Value × List mmC} (b40 : v7 < 2147483647) (hk : (kK (fun a : Int32 × Int32 × Int32 × Ob × Ob => mu a.2.2.1) (mu v7) (fun a : Int32 × Int32 × Int32 × Ob × Ob => Ev mmPT tbX8_walkForm 40 [some (.ref 114), some (.ref 61), none, none, some (.ref 131), some (.int a.1), some (.int a.2.1), some (.int a.2.2.1)] [] (mh sc rest to fl ma tr mk cn nu de a.2.2.2.1 la tb a.2.2.2.2 ph cs) x) (kO (fun r : Ob × Ob => (none, mh sc rest to fl ma tr mk cn nu de r.1 la tb r.2 ph cs)) x)) (Runner_walkForm_k_80 tr ru tf v5 v7)) : Ev mmPT tbX8_walkForm 80 [some (.ref 114), some (.ref 61), none, none, some (.ref 131), some (.int v5), none, some (.int v7)] [] (mh sc rest to fl ma tr mk cn nu de ru la tb tf ph cs) x := by
  unfold Runner_walkForm_k_80 at hk
  refine Ev.s (ins := .iload 5) (pc' := 82) rfl rfl ?_
  refine q_ic 2 rfl rfl ?_
  refine Ev.s (ins := .imul) (pc' := 84) rfl rfl ?_
  refine Ev.s (ins := .aload 4) (pc' := 86) rfl rfl ?_
  refine Ev.s (ins := .aload_n 1) (pc' := 87) rfl rfl ?_
  refine gf_61_11 rfl ?_
  refine Ev.s (ins := .iload 5) (pc' := 92) rfl rfl ?_
  refine at_84 (oat tr 11 10 v5) rfl (Nat.le_of_ble_eq_true rfl) rfl ?_
  refine Ev.s (ins := .aload_n 0) (pc' := 96) rfl rfl ?_
  refine Ev.s (ins := .aload_n 1) (pc' := 97) rfl rfl ?_
  refine q_si 140 rfl rfl ?_
  refine Ev.s (ins := .iload 5) (pc' := 102) rfl rfl ?_
  refine Ev.s (ins := .iadd) (pc' := 103) rfl rfl ?_
  refine q_ic 0 rfl rfl ?_
  refine kc_X8_reckon_0 rfl oi_114 rfl (Nat.le_of_ble_eq_true rfl) (e_Runner_reckon_114_61) ?_
  refine kc_X9_leaveBy_0 rfl oi_131 rfl (Nat.le_of_ble_eq_true rfl) (e_Tape_leaveBy_k_131) ?_
  refine Ev.weak [some (.ref 114), some (.ref 61), none, none, some (.ref 131), none, none, some (.int v7)] ⟨rfl, rfl, rfl, rfl, rfl, rfl, rfl, rfl, trivial⟩ ?_
  exact e_Runner_walkForm_k_114_61_131_110 b40 hk
set_option maxRecDepth 100000 in
theorem e_Runner_walkForm_k_114_61_131_L40b {v5 : Int32} {v6 : Int32} {v7 : Int32} {x : Option Value × List mmC} (hk : (kK (fun a : Int32 × Int32 × Int32 × Ob × Ob => mu a.2.2.1) (mu v7) (fun a : Int32 × Int32 × Int32 × Ob × Ob => Ev mmPT tbX8_walkForm 40 [some (.ref 114), some (.ref 61), none, none, some (.ref 131), some (.int a.1), some (.int a.2.1), some (.int a.2.2.1)] [] (mh sc rest to fl ma tr mk cn nu de a.2.2.2.1 la tb a.2.2.2.2 ph cs) x) (kO (fun r : Ob × Ob => (none, mh sc rest to fl ma tr mk cn nu de r.1 la tb r.2 ph cs)) x)) (Runner_walkForm_k_L40b tr ru tf v5 v6 v7)) : Ev mmPT tbX8_walkForm 40 [some (.ref 114), some (.ref 61), none, none, some (.ref 131), some (.int v5), some (.int v6), some (.int v7)] [] (mh sc rest to fl ma tr mk cn nu de ru la tb tf ph cs) x := by
  unfold Runner_walkForm_k_L40b at hk
  refine Ev.s (ins := .aload 4) (pc' := 42) rfl rfl ?_
  refine gf_131_2 (tf.2.2 0) rfl rfl ?_
  refine q_beq rfl hk (fun c1 hk => ?_) (fun c1 hk => ?_)
  · refine Ev.s (ins := .iload 7) (pc' := 50) rfl rfl ?_
    refine q_si 300 rfl rfl ?_
    refine q_cgt rfl hk (fun c2 hk => ?_) (fun c2 hk => ?_)
    · replace hk := kK_r hk
      exact Ev.vret rfl rfl hk
    · refine Ev.s (ins := .aload_n 0) (pc' := 57) rfl rfl ?_
      refine Ev.s (ins := .aload_n 1) (pc' := 58) rfl rfl ?_
      refine Ev.s (ins := .iload 5) (pc' := 60) rfl rfl ?_
      refine Ev.s (ins := .aload_n 1) (pc' := 61) rfl rfl ?_
      refine Ev.s (ins := .iload 5) (pc' := 63) rfl rfl ?_
      refine Ev.s (ins := .iload 6) (pc' := 65) rfl rfl ?_
      refine kc_X3_edgeOf_0 rfl oi_61 rfl (Nat.le_of_ble_eq_true rfl) (e_Form_edgeOf_61) ?_
      refine kc_X8_doPhis_0 rfl oi_114 rfl (Nat.le_of_ble_eq_true rfl) (e_Runner_doPhis_114_61) ?_
      refine Ev.s (ins := .aload_n 0) (pc' := 72) rfl rfl ?_
      refine Ev.s (ins := .aload_n 1) (pc' := 73) rfl rfl ?_
      refine Ev.s (ins := .iload 5) (pc' := 75) rfl rfl ?_
      refine Ev.s (ins := .aload 4) (pc' := 77) rfl rfl ?_
      refine kc_X8_doValues_0 rfl oi_114 rfl (Nat.le_of_ble_eq_true rfl) (e_Runner_doValues_k_114_61_131) ?_
      refine Ev.weak [some (.ref 114), some (.ref 61), none, none, some (.ref 131), some (.int v5), none, some (.int v7)] ⟨rfl, rfl, rfl, rfl, rfl, rfl, rfl, rfl, trivial⟩ ?_
      exact e_Runner_walkForm_k_114_61_131_80 (le31 (by decide) c2) hk
  · replace hk := kK_r hk
    exact Ev.vret rfl rfl hk
set_option maxRecDepth 100000 in
theorem e_Runner_walkForm_k_114_61_131_L40 {v5 : Int32} {v6 : Int32} {v7 : Int32} {x : Option Value × List mmC} (hk : (kO (fun r : Ob × Ob => (none, mh sc rest to fl ma tr mk cn nu de r.1 la tb r.2 ph cs)) x) (Runner_walkForm_k_L40 tr ru tf v5 v6 v7)) : Ev mmPT tbX8_walkForm 40 [some (.ref 114), some (.ref 61), none, none, some (.ref 131), some (.int v5), some (.int v6), some (.int v7)] [] (mh sc rest to fl ma tr mk cn nu de ru la tb tf ph cs) x :=
  k_loop (B := (fun a : Int32 × Int32 × Int32 × Ob × Ob => Runner_walkForm_k_L40b tr a.2.2.2.1 a.2.2.2.2 a.1 a.2.1 a.2.2.1)) (μ := fun a : Int32 × Int32 × Int32 × Ob × Ob => mu a.2.2.1) (E := fun a : Int32 × Int32 × Int32 × Ob × Ob => Ev mmPT tbX8_walkForm 40 [some (.ref 114), some (.ref 61), none, none, some (.ref 131), some (.int a.1), some (.int a.2.1), some (.int a.2.2.1)] [] (mh sc rest to fl ma tr mk cn nu de a.2.2.2.1 la tb a.2.2.2.2 ph cs) x) (X := (kO (fun r : Ob × Ob => (none, mh sc rest to fl ma tr mk cn nu de r.1 la tb r.2 ph cs)) x)) (fun a hk => e_Runner_walkForm_k_114_61_131_L40b hk) (v5, v6, v7, ru, tf) hk
set_option maxRecDepth 100000 in
theorem e_Runner_walkForm_k_114_61_131_0 {v2 : Int32} {v3 : Int32} {x : Option Value × List mmC} (hk : (kO (fun r : Ob × Ob => (none, mh sc rest to fl ma tr mk cn nu de r.1 la tb r.2 ph cs)) x) (Runner_walkForm_k tr ru tf v2 v3)) : Ev mmPT tbX8_walkForm 0 [some (.ref 114), some (.ref 61), some (.int v2), some (.int v3), some (.ref 131), none, none, none] [] (mh sc rest to fl ma tr mk cn nu de ru la tb tf ph cs) x := by
  unfold Runner_walkForm_k at hk
  refine Ev.s (ins := .aload 4) (pc' := 2) rfl rfl ?_
  refine kc_X9_begin_0 rfl oi_131 rfl (Nat.le_of_ble_eq_true rfl) (e_Tape_begin_k_131) ?_
  refine Ev.s (ins := .aload_n 0) (pc' := 6) rfl rfl ?_
  refine gf_114_1 rfl ?_
  refine q_ic 0 rfl rfl ?_
  refine fl_117 rfl (Nat.le_of_ble_eq_true rfl) ?_
  refine Ev.s (ins := .aload_n 0) (pc' := 14) rfl rfl ?_
  refine gf_114_1 rfl ?_
  refine q_ic 0 rfl rfl ?_
  refine Ev.s (ins := .iload_n 2) (pc' := 19) rfl rfl ?_
  refine pt_117 rfl (Nat.le_of_ble_eq_true rfl) ?_
  refine Ev.s (ins := .aload_n 0) (pc' := 23) rfl rfl ?_
  refine gf_114_1 rfl ?_
  refine q_ic 1 rfl rfl ?_
  refine Ev.s (ins := .iload_n 3) (pc' := 28) rfl rfl ?_
  refine pt_117 rfl (Nat.le_of_ble_eq_true rfl) ?_
  refine q_ic 0 rfl rfl ?_
  refine Ev.s (ins := .istore 5) (pc' := 34) (lv' := [some (.ref 114), some (.ref 61), some (.int v2), some (.int v3), some (.ref 131), some (.int 0), none, none]) rfl rfl ?_
  refine q_ic (-1) rfl rfl ?_
  refine Ev.s (ins := .istore 6) (pc' := 37) (lv' := [some (.ref 114), some (.ref 61), some (.int v2), some (.int v3), some (.ref 131), some (.int 0), some (.int (-1)), none]) rfl rfl ?_
  refine q_ic 0 rfl rfl ?_
  refine Ev.s (ins := .istore 7) (pc' := 40) (lv' := [some (.ref 114), some (.ref 61), some (.int v2), some (.int v3), some (.ref 131), some (.int 0), some (.int (-1)), some (.int 0)]) rfl rfl ?_
  refine Ev.weak [some (.ref 114), some (.ref 61), none, none, some (.ref 131), some (.int 0), some (.int (-1)), some (.int 0)] ⟨rfl, rfl, rfl, rfl, rfl, rfl, rfl, rfl, trivial⟩ ?_
  exact e_Runner_walkForm_k_114_61_131_L40 hk
set_option maxRecDepth 100000 in
theorem e_Runner_walkForm_k_114_61_131 {v2 : Int32} {v3 : Int32} : Ev mmPT tbX8_walkForm 0 [some (.ref 114), some (.ref 61), some (.int v2), some (.int v3), some (.ref 131), none, none, none] [] (mh sc rest to fl ma tr mk cn nu de ru la tb tf ph cs) ((fun r : Ob × Ob => (none, mh sc rest to fl ma tr mk cn nu de r.1 la tb r.2 ph cs)) (Runner_walkForm_k tr ru tf v2 v3)) := e_Runner_walkForm_k_114_61_131_0 (by exact rfl)
set_option maxRecDepth 100000 in
theorem e_Ph_wouldCost_9 {x : Option Value × List mmC} (hk : (kP (fun r : Int32 × Ob × Ob × Ob × Ob × Ob × Ob => (some (.int r.1), mh sc rest to fl ma r.2.1 mk r.2.2.1 r.2.2.2.1 r.2.2.2.2.1 r.2.2.2.2.2.1 la tb r.2.2.2.2.2.2 ph cs)) x) (Ph_wouldCost_9 ma tr cn nu de ru tf ph)) : Ev mmPT tbX11_wouldCost 9 [none, none, none, none, none] [] (mh sc rest to fl ma tr mk cn nu de ru la tb tf ph cs) x := by
  unfold Ph_wouldCost_9 at hk
  exact False.elim hk
set_option maxRecDepth 100000 in
theorem e_Ph_wouldCost_72 {v1 : Int32} {v2 : Int32} {v3 : Int32} {v4 : Int32} {w0 : Int32} {x : Option Value × List mmC} (b51 : v4 < 2147483647) (hk : (kK (fun a : Int32 × Ob × Ob × Ob × Ob => mu a.1) (mu v4) (fun a : Int32 × Ob × Ob × Ob × Ob => Ev mmPT tbX11_wouldCost 51 [some (.ref 1), some (.int v1), some (.int v2), some (.int v3), some (.int a.1)] [] (mh sc rest to fl ma a.2.1 mk a.2.2.1 a.2.2.2.1 a.2.2.2.2 ru la tb tf ph cs) x) (kP (fun r : Int32 × Ob × Ob × Ob × Ob × Ob × Ob => (some (.int r.1), mh sc rest to fl ma r.2.1 mk r.2.2.1 r.2.2.2.1 r.2.2.2.2.1 r.2.2.2.2.2.1 la tb r.2.2.2.2.2.2 ph cs)) x)) (Ph_wouldCost_72 ma tr cn nu de ru tf ph v1 v2 v3 v4 w0)) : Ev mmPT tbX11_wouldCost 72 [some (.ref 1), some (.int v1), some (.int v2), some (.int v3), some (.int v4)] [.int w0] (mh sc rest to fl ma tr mk cn nu de ru la tb tf ph cs) x := by
  unfold Ph_wouldCost_72 at hk
  refine Ev.s (ins := .pop) (pc' := 73) rfl rfl ?_
  refine q_inc 1 [some (.ref 1), some (.int v1), some (.int v2), some (.int v3), some (.int (v4 + 1))] rfl rfl rfl rfl ?_
  refine Ev.goto rfl ?_
  replace hk := kK_l hk
  exact hk (mu_lt b51)
set_option maxRecDepth 100000 in
theorem e_Ph_wouldCost_96 {x : Option Value × List mmC} (hk : (kP (fun r : Int32 × Ob × Ob × Ob × Ob × Ob × Ob => (some (.int r.1), mh sc rest to fl ma r.2.1 mk r.2.2.1 r.2.2.2.1 r.2.2.2.2.1 r.2.2.2.2.2.1 la tb r.2.2.2.2.2.2 ph cs)) x) (Ph_wouldCost_96 ma tr cn nu de ru tf ph)) : Ev mmPT tbX11_wouldCost 96 [some (.ref 1), none, none, none, none] [] (mh sc rest to fl ma tr mk cn nu de ru la tb tf ph cs) x := by
  unfold Ph_wouldCost_96 at hk
  refine Ev.s (ins := .aload_n 0) (pc' := 97) rfl rfl ?_
  refine gf_1_11 rfl ?_
  refine gf_131_6 (tf.2.1 3) rfl rfl ?_
  exact Ev.iret rfl rfl hk
set_option maxRecDepth 100000 in
theorem e_Ph_wouldCost_L51b {v1 : Int32} {v2 : Int32} {v3 : Int32} {v4 : Int32} {x : Option Value × List mmC} (hk : (kK (fun a : Int32 × Ob × Ob × Ob × Ob => mu a.1) (mu v4) (fun a : Int32 × Ob × Ob × Ob × Ob => Ev mmPT tbX11_wouldCost 51 [some (.ref 1), some (.int v1), some (.int v2), some (.int v3), some (.int a.1)] [] (mh sc rest to fl ma a.2.1 mk a.2.2.1 a.2.2.2.1 a.2.2.2.2 ru la tb tf ph cs) x) (kP (fun r : Int32 × Ob × Ob × Ob × Ob × Ob × Ob => (some (.int r.1), mh sc rest to fl ma r.2.1 mk r.2.2.1 r.2.2.2.1 r.2.2.2.2.1 r.2.2.2.2.2.1 la tb r.2.2.2.2.2.2 ph cs)) x)) (Ph_wouldCost_L51b ma tr cn nu de ru tf ph v1 v2 v3 v4)) : Ev mmPT tbX11_wouldCost 51 [some (.ref 1), some (.int v1), some (.int v2), some (.int v3), some (.int v4)] [] (mh sc rest to fl ma tr mk cn nu de ru la tb tf ph cs) x := by
  unfold Ph_wouldCost_L51b at hk
  refine Ev.s (ins := .iload 4) (pc' := 53) rfl rfl ?_
  refine Ev.s (ins := .iload_n 1) (pc' := 54) rfl rfl ?_
  refine q_ic 4 rfl rfl ?_
  refine Ev.s (ins := .imul) (pc' := 56) rfl rfl ?_
  refine q_cge rfl hk (fun c1 hk => ?_) (fun c1 hk => ?_)
  · refine Ev.s (ins := .aload_n 0) (pc' := 60) rfl rfl ?_
    refine Ev.s (ins := .aload_n 0) (pc' := 61) rfl rfl ?_
    refine gf_1_2 rfl ?_
    refine Ev.s (ins := .iload 4) (pc' := 66) rfl rfl ?_
    refine kc_X11_passBehind_2 rfl (Nat.le_of_ble_eq_true rfl) (e_Ph_passBehind) ?_
    refine kc_X11_passOver_0 rfl oi_1 rfl (Nat.le_of_ble_eq_true rfl) (e_Ph_passOver_61) ?_
    exact e_Ph_wouldCost_72 (lt31 c1) hk
  · replace hk := kK_r hk
    refine Ev.s (ins := .aload_n 0) (pc' := 80) rfl rfl ?_
    refine gf_1_8 rfl ?_
    refine Ev.s (ins := .aload_n 0) (pc' := 84) rfl rfl ?_
    refine gf_1_2 rfl ?_
    refine Ev.s (ins := .iload_n 2) (pc' := 88) rfl rfl ?_
    refine Ev.s (ins := .iload_n 3) (pc' := 89) rfl rfl ?_
    refine Ev.s (ins := .aload_n 0) (pc' := 90) rfl rfl ?_
    refine gf_1_11 rfl ?_
    refine kc_X8_walkForm_0 rfl oi_114 rfl (Nat.le_of_ble_eq_true rfl) (e_Runner_walkForm_k_114_61_131) ?_
    refine Ev.weak [some (.ref 1), none, none, none, none] ⟨rfl, rfl, rfl, rfl, rfl, trivial⟩ ?_
    exact e_Ph_wouldCost_96 hk
set_option maxRecDepth 100000 in
theorem e_Ph_wouldCost_L51 {v1 : Int32} {v2 : Int32} {v3 : Int32} {v4 : Int32} {x : Option Value × List mmC} (hk : (kP (fun r : Int32 × Ob × Ob × Ob × Ob × Ob × Ob => (some (.int r.1), mh sc rest to fl ma r.2.1 mk r.2.2.1 r.2.2.2.1 r.2.2.2.2.1 r.2.2.2.2.2.1 la tb r.2.2.2.2.2.2 ph cs)) x) (Ph_wouldCost_L51 ma tr cn nu de ru tf ph v1 v2 v3 v4)) : Ev mmPT tbX11_wouldCost 51 [some (.ref 1), some (.int v1), some (.int v2), some (.int v3), some (.int v4)] [] (mh sc rest to fl ma tr mk cn nu de ru la tb tf ph cs) x :=
  k_loop (B := (fun a : Int32 × Ob × Ob × Ob × Ob => Ph_wouldCost_L51b ma a.2.1 a.2.2.1 a.2.2.2.1 a.2.2.2.2 ru tf ph v1 v2 v3 a.1)) (μ := fun a : Int32 × Ob × Ob × Ob × Ob => mu a.1) (E := fun a : Int32 × Ob × Ob × Ob × Ob => Ev mmPT tbX11_wouldCost 51 [some (.ref 1), some (.int v1), some (.int v2), some (.int v3), some (.int a.1)] [] (mh sc rest to fl ma a.2.1 mk a.2.2.1 a.2.2.2.1 a.2.2.2.2 ru la tb tf ph cs) x) (X := (kP (fun r : Int32 × Ob × Ob × Ob × Ob × Ob × Ob => (some (.int r.1), mh sc rest to fl ma r.2.1 mk r.2.2.1 r.2.2.2.1 r.2.2.2.2.1 r.2.2.2.2.2.1 la tb r.2.2.2.2.2.2 ph cs)) x)) (fun a hk => e_Ph_wouldCost_L51b hk) (v4, tr, cn, nu, de) hk
set_option maxRecDepth 100000 in
theorem e_Ph_wouldCost_0 {v1 : Int32} {v2 : Int32} {v3 : Int32} {x : Option Value × List mmC} (hk : (kP (fun r : Int32 × Ob × Ob × Ob × Ob × Ob × Ob => (some (.int r.1), mh sc rest to fl ma r.2.1 mk r.2.2.1 r.2.2.2.1 r.2.2.2.2.1 r.2.2.2.2.2.1 la tb r.2.2.2.2.2.2 ph cs)) x) (Ph_wouldCost ma tr cn nu de ru tf ph v1 v2 v3)) : Ev mmPT tbX11_wouldCost 0 [some (.ref 1), some (.int v1), some (.int v2), some (.int v3), none] [] (mh sc rest to fl ma tr mk cn nu de ru la tb tf ph cs) x := by
  unfold Ph_wouldCost at hk
  refine Ev.s (ins := .iload_n 1) (pc' := 1) rfl rfl ?_
  refine q_lt rfl hk (fun c1 hk => ?_) (fun c1 hk => ?_)
  · refine Ev.weak [none, none, none, none, none] ⟨rfl, rfl, rfl, rfl, rfl, trivial⟩ ?_
    exact e_Ph_wouldCost_9 hk
  · refine Ev.s (ins := .iload_n 1) (pc' := 5) rfl rfl ?_
    refine q_ic 5 rfl rfl ?_
    refine q_cle rfl hk (fun c2 hk => ?_) (fun c2 hk => ?_)
    · refine Ev.weak [none, none, none, none, none] ⟨rfl, rfl, rfl, rfl, rfl, trivial⟩ ?_
      exact e_Ph_wouldCost_9 hk
    · refine Ev.s (ins := .aload_n 0) (pc' := 21) rfl rfl ?_
      refine gf_1_12 (ph.2.2 0) rfl rfl ?_
      refine q_bne rfl hk (fun c3 hk => ?_) (fun c3 hk => ?_)
      · refine Ev.s (ins := .aload_n 0) (pc' := 38) rfl rfl ?_
        refine gf_1_2 rfl ?_
        refine Ev.s (ins := .aload_n 0) (pc' := 42) rfl rfl ?_
        refine gf_1_1 rfl ?_
        refine kc_X3_take_0 rfl oi_61 rfl (Nat.le_of_ble_eq_true rfl) (e_Form_take_61_34) ?_
        refine q_ic 0 rfl rfl ?_
        refine Ev.s (ins := .istore 4) (pc' := 51) (lv' := [some (.ref 1), some (.int v1), some (.int v2), some (.int v3), some (.int 0)]) rfl rfl ?_
        exact e_Ph_wouldCost_L51 hk
      · exact False.elim hk
set_option maxRecDepth 100000 in
theorem e_Ph_wouldCost {v1 : Int32} {v2 : Int32} {v3 : Int32} {r : Int32 × Ob × Ob × Ob × Ob × Ob × Ob} (hr : (Ph_wouldCost ma tr cn nu de ru tf ph v1 v2 v3) = some r) : Ev mmPT tbX11_wouldCost 0 [some (.ref 1), some (.int v1), some (.int v2), some (.int v3), none] [] (mh sc rest to fl ma tr mk cn nu de ru la tb tf ph cs) ((fun r : Int32 × Ob × Ob × Ob × Ob × Ob × Ob => (some (.int r.1), mh sc rest to fl ma r.2.1 mk r.2.2.1 r.2.2.2.1 r.2.2.2.2.1 r.2.2.2.2.2.1 la tb r.2.2.2.2.2.2 ph cs)) r) := e_Ph_wouldCost_0 (by rw [hr]; exact rfl)
set_option maxRecDepth 100000 in
theorem e_Ph_untilStill_65 {v2 : Int32} {w0 : Int32} {x : Option Value × List mmC} (b32 : v2 < 2147483647) (hk : (kK (fun a : Int32 × Int32 × Ob × Ob × Ob × Ob => mu a.2.1) (mu v2) (fun a : Int32 × Int32 × Ob × Ob × Ob × Ob => Ev mmPT tbX11_untilStill 32 [some (.ref 1), some (.int a.1), some (.int a.2.1)] [] (mh sc rest to fl ma a.2.2.1 mk a.2.2.2.1 a.2.2.2.2.1 a.2.2.2.2.2 ru la tb tf ph cs) x) (kP (fun r : Int32 × Ob × Ob × Ob × Ob => (some (.int r.1), mh sc rest to fl ma r.2.1 mk r.2.2.1 r.2.2.2.1 r.2.2.2.2 ru la tb tf ph cs)) x)) (Ph_untilStill_65 ma tr cn nu de ph v2 w0)) : Ev mmPT tbX11_untilStill 65 [some (.ref 1), none, some (.int v2)] [.int w0] (mh sc rest to fl ma tr mk cn nu de ru la tb tf ph cs) x := by
  unfold Ph_untilStill_65 at hk
  refine Ev.s (ins := .istore_n 1) (pc' := 66) (lv' := [some (.ref 1), some (.int w0), some (.int v2)]) rfl rfl ?_
  refine q_inc 1 [some (.ref 1), some (.int w0), some (.int (v2 + 1))] rfl rfl rfl rfl ?_
  refine Ev.goto rfl ?_
  replace hk := kK_l hk
  exact hk (mu_lt b32)
set_option maxRecDepth 100000 in
theorem e_Ph_untilStill_55 {v1 : Int32} {v2 : Int32} {w0 : Int32} {x : Option Value × List mmC} (b32 : v2 < 2147483647) (hk : (kK (fun a : Int32 × Int32 × Ob × Ob × Ob × Ob => mu a.2.1) (mu v2) (fun a : Int32 × Int32 × Ob × Ob × Ob × Ob => Ev mmPT tbX11_untilStill 32 [some (.ref 1), some (.int a.1), some (.int a.2.1)] [] (mh sc rest to fl ma a.2.2.1 mk a.2.2.2.1 a.2.2.2.2.1 a.2.2.2.2.2 ru la tb tf ph cs) x) (kP (fun r : Int32 × Ob × Ob × Ob × Ob => (some (.int r.1), mh sc rest to fl ma r.2.1 mk r.2.2.1 r.2.2.2.1 r.2.2.2.2 ru la tb tf ph cs)) x)) (Ph_untilStill_55 ma tr cn nu de ph v1 v2 w0)) : Ev mmPT tbX11_untilStill 55 [some (.ref 1), some (.int v1), some (.int v2)] [.int w0] (mh sc rest to fl ma tr mk cn nu de ru la tb tf ph cs) x := by
  unfold Ph_untilStill_55 at hk
  refine q_ne rfl hk (fun c1 hk => ?_) (fun c1 hk => ?_)
  · refine Ev.s (ins := .iload_n 1) (pc' := 59) rfl rfl ?_
    refine q_ic 1 rfl rfl ?_
    refine Ev.s (ins := .iadd) (pc' := 61) rfl rfl ?_
    refine Ev.goto rfl ?_
    refine Ev.weak [some (.ref 1), none, some (.int v2)] ⟨rfl, rfl, rfl, trivial⟩ ?_
    exact e_Ph_untilStill_65 b32 hk
  · refine q_ic 0 rfl rfl ?_
    refine Ev.weak [some (.ref 1), none, some (.int v2)] ⟨rfl, rfl, rfl, trivial⟩ ?_
    exact e_Ph_untilStill_65 b32 hk
set_option maxRecDepth 100000 in
theorem e_Ph_untilStill_72 {v2 : Int32} {x : Option Value × List mmC} (hk : (kP (fun r : Int32 × Ob × Ob × Ob × Ob => (some (.int r.1), mh sc rest to fl ma r.2.1 mk r.2.2.1 r.2.2.2.1 r.2.2.2.2 ru la tb tf ph cs)) x) (Ph_untilStill_72 ma tr cn nu de ph v2)) : Ev mmPT tbX11_untilStill 72 [none, none, some (.int v2)] [] (mh sc rest to fl ma tr mk cn nu de ru la tb tf ph cs) x := by
  unfold Ph_untilStill_72 at hk
  refine Ev.s (ins := .iload_n 2) (pc' := 73) rfl rfl ?_
  exact Ev.iret rfl rfl hk
set_option maxRecDepth 100000 in
theorem e_Ph_untilStill_L32b {v1 : Int32} {v2 : Int32} {x : Option Value × List mmC} (hk : (kK (fun a : Int32 × Int32 × Ob × Ob × Ob × Ob => mu a.2.1) (mu v2) (fun a : Int32 × Int32 × Ob × Ob × Ob × Ob => Ev mmPT tbX11_untilStill 32 [some (.ref 1), some (.int a.1), some (.int a.2.1)] [] (mh sc rest to fl ma a.2.2.1 mk a.2.2.2.1 a.2.2.2.2.1 a.2.2.2.2.2 ru la tb tf ph cs) x) (kP (fun r : Int32 × Ob × Ob × Ob × Ob => (some (.int r.1), mh sc rest to fl ma r.2.1 mk r.2.2.1 r.2.2.2.1 r.2.2.2.2 ru la tb tf ph cs)) x)) (Ph_untilStill_L32b ma tr cn nu de ph v1 v2)) : Ev mmPT tbX11_untilStill 32 [some (.ref 1), some (.int v1), some (.int v2)] [] (mh sc rest to fl ma tr mk cn nu de ru la tb tf ph cs) x := by
  unfold Ph_untilStill_L32b at hk
  refine Ev.s (ins := .iload_n 2) (pc' := 33) rfl rfl ?_
  refine q_bi 40 rfl rfl ?_
  refine q_cge rfl hk (fun c1 hk => ?_) (fun c1 hk => ?_)
  · refine Ev.s (ins := .iload_n 1) (pc' := 39) rfl rfl ?_
    refine q_ic 4 rfl rfl ?_
    refine q_cge rfl hk (fun c2 hk => ?_) (fun c2 hk => ?_)
    · refine Ev.s (ins := .aload_n 0) (pc' := 44) rfl rfl ?_
      refine Ev.s (ins := .aload_n 0) (pc' := 45) rfl rfl ?_
      refine gf_1_2 rfl ?_
      refine Ev.s (ins := .iload_n 2) (pc' := 49) rfl rfl ?_
      refine kc_X11_passBehind_2 rfl (Nat.le_of_ble_eq_true rfl) (e_Ph_passBehind) ?_
      refine kc_X11_passOver_0 rfl oi_1 rfl (Nat.le_of_ble_eq_true rfl) (e_Ph_passOver_61) ?_
      exact e_Ph_untilStill_55 (lt31 c1) hk
    · replace hk := kK_r hk
      refine Ev.weak [none, none, some (.int v2)] ⟨rfl, rfl, rfl, trivial⟩ ?_
      exact e_Ph_untilStill_72 hk
  · replace hk := kK_r hk
    refine Ev.weak [none, none, some (.int v2)] ⟨rfl, rfl, rfl, trivial⟩ ?_
    exact e_Ph_untilStill_72 hk
set_option maxRecDepth 100000 in
theorem e_Ph_untilStill_L32 {v1 : Int32} {v2 : Int32} {x : Option Value × List mmC} (hk : (kP (fun r : Int32 × Ob × Ob × Ob × Ob => (some (.int r.1), mh sc rest to fl ma r.2.1 mk r.2.2.1 r.2.2.2.1 r.2.2.2.2 ru la tb tf ph cs)) x) (Ph_untilStill_L32 ma tr cn nu de ph v1 v2)) : Ev mmPT tbX11_untilStill 32 [some (.ref 1), some (.int v1), some (.int v2)] [] (mh sc rest to fl ma tr mk cn nu de ru la tb tf ph cs) x :=
  k_loop (B := (fun a : Int32 × Int32 × Ob × Ob × Ob × Ob => Ph_untilStill_L32b ma a.2.2.1 a.2.2.2.1 a.2.2.2.2.1 a.2.2.2.2.2 ph a.1 a.2.1)) (μ := fun a : Int32 × Int32 × Ob × Ob × Ob × Ob => mu a.2.1) (E := fun a : Int32 × Int32 × Ob × Ob × Ob × Ob => Ev mmPT tbX11_untilStill 32 [some (.ref 1), some (.int a.1), some (.int a.2.1)] [] (mh sc rest to fl ma a.2.2.1 mk a.2.2.2.1 a.2.2.2.2.1 a.2.2.2.2.2 ru la tb tf ph cs) x) (X := (kP (fun r : Int32 × Ob × Ob × Ob × Ob => (some (.int r.1), mh sc rest to fl ma r.2.1 mk r.2.2.1 r.2.2.2.1 r.2.2.2.2 ru la tb tf ph cs)) x)) (fun a hk => e_Ph_untilStill_L32b hk) (v1, v2, tr, cn, nu, de) hk
set_option maxRecDepth 100000 in
theorem e_Ph_untilStill_0 {x : Option Value × List mmC} (hk : (kP (fun r : Int32 × Ob × Ob × Ob × Ob => (some (.int r.1), mh sc rest to fl ma r.2.1 mk r.2.2.1 r.2.2.2.1 r.2.2.2.2 ru la tb tf ph cs)) x) (Ph_untilStill ma tr cn nu de ph)) : Ev mmPT tbX11_untilStill 0 [some (.ref 1), none, none] [] (mh sc rest to fl ma tr mk cn nu de ru la tb tf ph cs) x := by
  unfold Ph_untilStill at hk
  refine Ev.s (ins := .aload_n 0) (pc' := 1) rfl rfl ?_
  refine gf_1_12 (ph.2.2 0) rfl rfl ?_
  refine q_bne rfl hk (fun c1 hk => ?_) (fun c1 hk => ?_)
  · refine Ev.s (ins := .aload_n 0) (pc' := 18) rfl rfl ?_
    refine gf_1_2 rfl ?_
    refine Ev.s (ins := .aload_n 0) (pc' := 22) rfl rfl ?_
    refine gf_1_1 rfl ?_
    refine kc_X3_take_0 rfl oi_61 rfl (Nat.le_of_ble_eq_true rfl) (e_Form_take_61_34) ?_
    refine q_ic 0 rfl rfl ?_
    refine Ev.s (ins := .istore_n 1) (pc' := 30) (lv' := [some (.ref 1), some (.int 0), none]) rfl rfl ?_
    refine q_ic 0 rfl rfl ?_
    refine Ev.s (ins := .istore_n 2) (pc' := 32) (lv' := [some (.ref 1), some (.int 0), some (.int 0)]) rfl rfl ?_
    exact e_Ph_untilStill_L32 hk
  · exact False.elim hk
set_option maxRecDepth 100000 in
theorem e_Ph_untilStill {r : Int32 × Ob × Ob × Ob × Ob} (hr : (Ph_untilStill ma tr cn nu de ph) = some r) : Ev mmPT tbX11_untilStill 0 [some (.ref 1), none, none] [] (mh sc rest to fl ma tr mk cn nu de ru la tb tf ph cs) ((fun r : Int32 × Ob × Ob × Ob × Ob => (some (.int r.1), mh sc rest to fl ma r.2.1 mk r.2.2.1 r.2.2.2.1 r.2.2.2.2 ru la tb tf ph cs)) r) := e_Ph_untilStill_0 (by rw [hr]; exact rfl)
end RF7
