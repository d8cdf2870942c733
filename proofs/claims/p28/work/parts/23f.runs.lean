/-! THE RUNS ARE THE FUNCTIONS, by program: 6 -/
section RF5
variable {sc : mmC} {rest : List mmC} {to fl ma tr mk cn nu de ru la tb tf ph : Ob} {cs : Int64}
set_option maxRecDepth 100000 in
theorem e_Runner_doValues_114_34_121_81 {v2 : Int32} {v4 : Int32} {x : Option Value × List mmC} (b3 : v4 < 2147483647) (hk : (kK (fun a : Int32 × Ob × Ob => mu a.1) (mu v4) (fun a : Int32 × Ob × Ob => Ev mmPT tbX8_doValues 3 [some (.ref 114), some (.ref 34), some (.int v2), some (.ref 121), some (.int a.1), none, none] [] (mh sc rest to fl ma tr mk cn nu de a.2.1 a.2.2 tb tf ph cs) x) (kO (fun r : Ob × Ob => (none, mh sc rest to fl ma tr mk cn nu de r.1 r.2 tb tf ph cs)) x)) (Runner_doValues_81 ma ru la v2 v4)) : Ev mmPT tbX8_doValues 81 [some (.ref 114), some (.ref 34), some (.int v2), some (.ref 121), some (.int v4), none, none] [] (mh sc rest to fl ma tr mk cn nu de ru la tb tf ph cs) x := by
  unfold Runner_doValues_81 at hk
  refine q_inc 1 [some (.ref 114), some (.ref 34), some (.int v2), some (.ref 121), some (.int (v4 + 1)), none, none] rfl rfl rfl rfl ?_
  refine Ev.goto rfl ?_
  replace hk := kK_l hk
  exact hk (mu_lt b3)
set_option maxRecDepth 100000 in
theorem e_Runner_doValues_114_34_121_78 {v2 : Int32} {v4 : Int32} {w0 : Int32} {w1 : Int32} {x : Option Value × List mmC} (b3 : v4 < 2147483647) (hk : (kK (fun a : Int32 × Ob × Ob => mu a.1) (mu v4) (fun a : Int32 × Ob × Ob => Ev mmPT tbX8_doValues 3 [some (.ref 114), some (.ref 34), some (.int v2), some (.ref 121), some (.int a.1), none, none] [] (mh sc rest to fl ma tr mk cn nu de a.2.1 a.2.2 tb tf ph cs) x) (kO (fun r : Ob × Ob => (none, mh sc rest to fl ma tr mk cn nu de r.1 r.2 tb tf ph cs)) x)) (Runner_doValues_78 ma ru la v2 v4 w0 w1)) : Ev mmPT tbX8_doValues 78 [some (.ref 114), some (.ref 34), some (.int v2), some (.ref 121), some (.int v4), none, none] [.int w0, .int w1, .ref 117] (mh sc rest to fl ma tr mk cn nu de ru la tb tf ph cs) x := by
  unfold Runner_doValues_78 at hk
  refine pt_117 rfl (Nat.le_of_ble_eq_true rfl) ?_
  exact e_Runner_doValues_114_34_121_81 b3 hk
set_option maxRecDepth 100000 in
theorem e_Runner_doValues_114_34_121_L3b {v2 : Int32} {v4 : Int32} {x : Option Value × List mmC} (hk : (kK (fun a : Int32 × Ob × Ob => mu a.1) (mu v4) (fun a : Int32 × Ob × Ob => Ev mmPT tbX8_doValues 3 [some (.ref 114), some (.ref 34), some (.int v2), some (.ref 121), some (.int a.1), none, none] [] (mh sc rest to fl ma tr mk cn nu de a.2.1 a.2.2 tb tf ph cs) x) (kO (fun r : Ob × Ob => (none, mh sc rest to fl ma tr mk cn nu de r.1 r.2 tb tf ph cs)) x)) (Runner_doValues_L3b ma ru la v2 v4)) : Ev mmPT tbX8_doValues 3 [some (.ref 114), some (.ref 34), some (.int v2), some (.ref 121), some (.int v4), none, none] [] (mh sc rest to fl ma tr mk cn nu de ru la tb tf ph cs) x := by
  unfold Runner_doValues_L3b at hk
  refine Ev.s (ins := .aload_n 3) (pc' := 4) rfl rfl ?_
  refine gf_121_2 (la.2.2 0) rfl rfl ?_
  refine q_beq rfl hk (fun c1 hk => ?_) (fun c1 hk => ?_)
  · refine Ev.s (ins := .iload 4) (pc' := 12) rfl rfl ?_
    refine Ev.s (ins := .aload_n 1) (pc' := 13) rfl rfl ?_
    refine gf_34_7 rfl ?_
    refine Ev.s (ins := .iload_n 2) (pc' := 17) rfl rfl ?_
    refine at_49 (oat ma 7 10 v2) rfl (Nat.le_of_ble_eq_true rfl) rfl ?_
    refine q_cge rfl hk (fun c2 hk => ?_) (fun c2 hk => ?_)
    · refine Ev.s (ins := .aload_n 1) (pc' := 24) rfl rfl ?_
      refine Ev.s (ins := .iload_n 2) (pc' := 25) rfl rfl ?_
      refine Ev.s (ins := .iload 4) (pc' := 27) rfl rfl ?_
      refine kc_X3_valueIn_0 rfl oi_34 rfl (Nat.le_of_ble_eq_true rfl) (e_Form_valueIn_34) ?_
      refine Ev.s (ins := .istore 5) (pc' := 32) (lv' := [some (.ref 114), some (.ref 34), some (.int v2), some (.ref 121), some (.int v4), some (.int (Form_valueIn ma v2 v4)), none]) rfl rfl ?_
      refine Ev.s (ins := .aload_n 1) (pc' := 33) rfl rfl ?_
      refine gf_34_0 rfl ?_
      refine Ev.s (ins := .iload 5) (pc' := 38) rfl rfl ?_
      refine at_35 (oat ma 0 140 (Form_valueIn ma v2 v4)) rfl (Nat.le_of_ble_eq_true rfl) rfl ?_
      refine Ev.s (ins := .istore 6) (pc' := 43) (lv' := [some (.ref 114), some (.ref 34), some (.int v2), some (.ref 121), some (.int v4), some (.int (Form_valueIn ma v2 v4)), some (.int (oat ma 0 140 (Form_valueIn ma v2 v4)))]) rfl rfl ?_
      refine Ev.s (ins := .iload 6) (pc' := 45) rfl rfl ?_
      refine q_bi 9 rfl rfl ?_
      refine q_ceq rfl hk (fun c3 hk => ?_) (fun c3 hk => ?_)
      · refine Ev.weak [some (.ref 114), some (.ref 34), some (.int v2), some (.ref 121), some (.int v4), none, none] ⟨rfl, rfl, rfl, rfl, rfl, rfl, rfl, trivial⟩ ?_
        exact e_Runner_doValues_114_34_121_81 (lt31 c2) hk
      · refine Ev.s (ins := .aload_n 0) (pc' := 51) rfl rfl ?_
        refine gf_114_1 rfl ?_
        refine Ev.s (ins := .iload 5) (pc' := 56) rfl rfl ?_
        refine Ev.s (ins := .aload_n 3) (pc' := 57) rfl rfl ?_
        refine Ev.s (ins := .iload 6) (pc' := 59) rfl rfl ?_
        refine Ev.s (ins := .aload_n 0) (pc' := 60) rfl rfl ?_
        refine Ev.s (ins := .aload_n 1) (pc' := 61) rfl rfl ?_
        refine Ev.s (ins := .iload 5) (pc' := 63) rfl rfl ?_
        refine q_ic 0 rfl rfl ?_
        refine kc_X8_reckon_0 rfl oi_114 rfl (Nat.le_of_ble_eq_true rfl) (e_Runner_reckon_114_34) ?_
        refine Ev.s (ins := .aload_n 0) (pc' := 68) rfl rfl ?_
        refine Ev.s (ins := .aload_n 1) (pc' := 69) rfl rfl ?_
        refine Ev.s (ins := .iload 5) (pc' := 71) rfl rfl ?_
        refine q_ic 1 rfl rfl ?_
        refine kc_X8_reckon_0 rfl oi_114 rfl (Nat.le_of_ble_eq_true rfl) (e_Runner_reckon_114_34) ?_
        refine kc_X9_act_0 rfl oi_121 rfl (Nat.le_of_ble_eq_true rfl) (e_Tape_act_121) ?_
        refine Ev.weak [some (.ref 114), some (.ref 34), some (.int v2), some (.ref 121), some (.int v4), none, none] ⟨rfl, rfl, rfl, rfl, rfl, rfl, rfl, trivial⟩ ?_
        exact e_Runner_doValues_114_34_121_78 (lt31 c2) hk
    · replace hk := kK_r hk
      exact Ev.vret rfl rfl hk
  · replace hk := kK_r hk
    exact Ev.vret rfl rfl hk
set_option maxRecDepth 100000 in
theorem e_Runner_doValues_114_34_121_L3 {v2 : Int32} {v4 : Int32} {x : Option Value × List mmC} (hk : (kO (fun r : Ob × Ob => (none, mh sc rest to fl ma tr mk cn nu de r.1 r.2 tb tf ph cs)) x) (Runner_doValues_L3 ma ru la v2 v4)) : Ev mmPT tbX8_doValues 3 [some (.ref 114), some (.ref 34), some (.int v2), some (.ref 121), some (.int v4), none, none] [] (mh sc rest to fl ma tr mk cn nu de ru la tb tf ph cs) x :=
  k_loop (B := (fun a : Int32 × Ob × Ob => Runner_doValues_L3b ma a.2.1 a.2.2 v2 a.1)) (μ := fun a : Int32 × Ob × Ob => mu a.1) (E := fun a : Int32 × Ob × Ob => Ev mmPT tbX8_doValues 3 [some (.ref 114), some (.ref 34), some (.int v2), some (.ref 121), some (.int a.1), none, none] [] (mh sc rest to fl ma tr mk cn nu de a.2.1 a.2.2 tb tf ph cs) x) (X := (kO (fun r : Ob × Ob => (none, mh sc rest to fl ma tr mk cn nu de r.1 r.2 tb tf ph cs)) x)) (fun a hk => e_Runner_doValues_114_34_121_L3b hk) (v4, ru, la) hk
set_option maxRecDepth 100000 in
theorem e_Runner_doValues_114_34_121_0 {v2 : Int32} {x : Option Value × List mmC} (hk : (kO (fun r : Ob × Ob => (none, mh sc rest to fl ma tr mk cn nu de r.1 r.2 tb tf ph cs)) x) (Runner_doValues ma ru la v2)) : Ev mmPT tbX8_doValues 0 [some (.ref 114), some (.ref 34), some (.int v2), some (.ref 121), none, none, none] [] (mh sc rest to fl ma tr mk cn nu de ru la tb tf ph cs) x := by
  unfold Runner_doValues at hk
  refine q_ic 0 rfl rfl ?_
  refine Ev.s (ins := .istore 4) (pc' := 3) (lv' := [some (.ref 114), some (.ref 34), some (.int v2), some (.ref 121), some (.int 0), none, none]) rfl rfl ?_
  exact e_Runner_doValues_114_34_121_L3 hk
set_option maxRecDepth 100000 in
theorem e_Runner_doValues_114_34_121 {v2 : Int32} : Ev mmPT tbX8_doValues 0 [some (.ref 114), some (.ref 34), some (.int v2), some (.ref 121), none, none, none] [] (mh sc rest to fl ma tr mk cn nu de ru la tb tf ph cs) ((fun r : Ob × Ob => (none, mh sc rest to fl ma tr mk cn nu de r.1 r.2 tb tf ph cs)) (Runner_doValues ma ru la v2)) := e_Runner_doValues_114_34_121_0 (by exact rfl)
set_option maxRecDepth 100000 in
theorem e_Runner_walkForm_114_34_121_110 {v7 : Int32} {w0 : Int32} {w1 : Int32} {x : Option Value × List mmC} (b40 : v7 < 2147483647) (hk : (kK (fun a : Int32 × Int32 × Int32 × Ob × Ob => mu a.2.2.1) (mu v7) (fun a : Int32 × Int32 × Int32 × Ob × Ob => Ev mmPT tbX8_walkForm 40 [some (.ref 114), some (.ref 34), none, none, some (.ref 121), some (.int a.1), some (.int a.2.1), some (.int a.2.2.1)] [] (mh sc rest to fl ma tr mk cn nu de a.2.2.2.1 a.2.2.2.2 tb tf ph cs) x) (kO (fun r : Ob × Ob => (none, mh sc rest to fl ma tr mk cn nu de r.1 r.2 tb tf ph cs)) x)) (Runner_walkForm_110 ma ru la v7 w0 w1)) : Ev mmPT tbX8_walkForm 110 [some (.ref 114), some (.ref 34), none, none, some (.ref 121), none, none, some (.int v7)] [.int w0, .int w1] (mh sc rest to fl ma tr mk cn nu de ru la tb tf ph cs) x := by
  unfold Runner_walkForm_110 at hk
  refine Ev.s (ins := .iadd) (pc' := 111) rfl rfl ?_
  refine Ev.s (ins := .istore 6) (pc' := 113) (lv' := [some (.ref 114), some (.ref 34), none, none, some (.ref 121), none, some (.int (w1 + w0)), some (.int v7)]) rfl rfl ?_
  refine Ev.s (ins := .aload_n 1) (pc' := 114) rfl rfl ?_
  refine gf_34_12 rfl ?_
  refine Ev.s (ins := .iload 6) (pc' := 119) rfl rfl ?_
  refine at_59 (oat ma 12 20 (w1 + w0)) rfl (Nat.le_of_ble_eq_true rfl) rfl ?_
  refine Ev.s (ins := .istore 5) (pc' := 124) (lv' := [some (.ref 114), some (.ref 34), none, none, some (.ref 121), some (.int (oat ma 12 20 (w1 + w0))), some (.int (w1 + w0)), some (.int v7)]) rfl rfl ?_
  refine q_inc 1 [some (.ref 114), some (.ref 34), none, none, some (.ref 121), some (.int (oat ma 12 20 (w1 + w0))), some (.int (w1 + w0)), some (.int (v7 + 1))] rfl rfl rfl rfl ?_
  refine Ev.goto rfl ?_
  replace hk := kK_l hk
  exact hk (mu_lt b40)
set_option maxRecDepth 100000 in
theorem e_Runner_walkForm_114_34_121_80 {v5 : Int32} {v7 : Int32} {x : Option Value × List mmC} (b40 : v7 < 2147483647) (hk : (kK (fun a : Int32 × Int32 × Int32 × Ob × Ob => mu a.2.2.1) (mu v7) (fun a : Int32 × Int32 × Int32 × Ob × Ob => Ev mmPT tbX8_walkForm 40 [some (.ref 114), some (.ref 34), none, none, some (.ref 121), some (.int a.1), some (.int a.2.1), some (.int a.2.2.1)] [] (mh sc rest to fl ma tr mk cn nu de a.2.2.2.1 a.2.2.2.2 tb tf ph cs) x) (kO (fun r : Ob × Ob => (none, mh sc rest to fl ma tr mk cn nu de r.1 r.2 tb tf ph cs)) x)) (Runner_walkForm_80 ma ru la v5 v7)) : Ev mmPT tbX8_walkForm 80 [some (.ref 114), some (.ref 34), none, none, some (.ref 121), some (.int v5), none, some (.int v7)] [] (mh sc rest to fl ma tr mk cn nu de ru la tb tf ph cs) x := by
  unfold Runner_walkForm_80 at hk
  refine Ev.s (ins := .iload 5) (pc' := 82) rfl rfl ?_
  refine q_ic 2 rfl rfl ?_
  refine Ev.s (ins := .imul) (pc' := 84) rfl rfl ?_
  refine Ev.s (ins := .aload 4) (pc' := 86) rfl rfl ?_
  refine Ev.s (ins := .aload_n 1) (pc' := 87) rfl rfl ?_
  refine gf_34_11 rfl ?_
  refine Ev.s (ins := .iload 5) (pc' := 92) rfl rfl ?_
  refine at_57 (oat ma 11 10 v5) rfl (Nat.le_of_ble_eq_true rfl) rfl ?_
  refine Ev.s (ins := .aload_n 0) (pc' := 96) rfl rfl ?_
  refine Ev.s (ins := .aload_n 1) (pc' := 97) rfl rfl ?_
  refine q_si 140 rfl rfl ?_
  refine Ev.s (ins := .iload 5) (pc' := 102) rfl rfl ?_
  refine Ev.s (ins := .iadd) (pc' := 103) rfl rfl ?_
  refine q_ic 0 rfl rfl ?_
  refine kc_X8_reckon_0 rfl oi_114 rfl (Nat.le_of_ble_eq_true rfl) (e_Runner_reckon_114_34) ?_
  refine kc_X9_leaveBy_0 rfl oi_121 rfl (Nat.le_of_ble_eq_true rfl) (e_Tape_leaveBy_121) ?_
  refine Ev.weak [some (.ref 114), some (.ref 34), none, none, some (.ref 121), none, none, some (.int v7)] ⟨rfl, rfl, rfl, rfl, rfl, rfl, rfl, rfl, trivial⟩ ?_
  exact e_Runner_walkForm_114_34_121_110 b40 hk
set_option maxRecDepth 100000 in
theorem e_Runner_walkForm_114_34_121_L40b {v5 : Int32} {v6 : Int32} {v7 : Int32} {x : Option Value × List mmC} (hk : (kK (fun a : Int32 × Int32 × Int32 × Ob × Ob => mu a.2.2.1) (mu v7) (fun a : Int32 × Int32 × Int32 × Ob × Ob => Ev mmPT tbX8_walkForm 40 [some (.ref 114), some (.ref 34), none, none, some (.ref 121), some (.int a.1), some (.int a.2.1), some (.int a.2.2.1)] [] (mh sc rest to fl ma tr mk cn nu de a.2.2.2.1 a.2.2.2.2 tb tf ph cs) x) (kO (fun r : Ob × Ob => (none, mh sc rest to fl ma tr mk cn nu de r.1 r.2 tb tf ph cs)) x)) (Runner_walkForm_L40b ma ru la v5 v6 v7)) : Ev mmPT tbX8_walkForm 40 [some (.ref 114), some (.ref 34), none, none, some (.ref 121), some (.int v5), some (.int v6), some (.int v7)] [] (mh sc rest to fl ma tr mk cn nu de ru la tb tf ph cs) x := by
  unfold Runner_walkForm_L40b at hk
  refine Ev.s (ins := .aload 4) (pc' := 42) rfl rfl ?_
  refine gf_121_2 (la.2.2 0) rfl rfl ?_
  refine q_beq rfl hk (fun c1 hk => ?_) (fun c1 hk => ?_)
  · refine Ev.s (ins := .iload 7) (pc' := 50) rfl rfl ?_
    refine q_si 300 rfl rfl ?_
    refine q_cgt rfl hk (fun c2 hk => ?_) (fun c2 hk => ?_)
    · replace hk := kK_r hk
      exact Ev.vret rfl rfl hk
    · refine Ev.s (ins := .aload_n 0) (pc' := 57) rfl rfl ?_
      refine Ev.s (ins := .aload_n 1) (pc' := 58) rfl rfl ?_
      refine Ev.s (ins := .iload 5) (pc' := 60) rfl rfl ?_
      refine Ev.s (ins := .aload_n 1) (pc' := 61) rfl rfl ?_
      refine Ev.s (ins := .iload 5) (pc' := 63) rfl rfl ?_
      refine Ev.s (ins := .iload 6) (pc' := 65) rfl rfl ?_
      refine kc_X3_edgeOf_0 rfl oi_34 rfl (Nat.le_of_ble_eq_true rfl) (e_Form_edgeOf_34) ?_
      refine kc_X8_doPhis_0 rfl oi_114 rfl (Nat.le_of_ble_eq_true rfl) (e_Runner_doPhis_114_34) ?_
      refine Ev.s (ins := .aload_n 0) (pc' := 72) rfl rfl ?_
      refine Ev.s (ins := .aload_n 1) (pc' := 73) rfl rfl ?_
      refine Ev.s (ins := .iload 5) (pc' := 75) rfl rfl ?_
      refine Ev.s (ins := .aload 4) (pc' := 77) rfl rfl ?_
      refine kc_X8_doValues_0 rfl oi_114 rfl (Nat.le_of_ble_eq_true rfl) (e_Runner_doValues_114_34_121) ?_
      refine Ev.weak [some (.ref 114), some (.ref 34), none, none, some (.ref 121), some (.int v5), none, some (.int v7)] ⟨rfl, rfl, rfl, rfl, rfl, rfl, rfl, rfl, trivial⟩ ?_
      exact e_Runner_walkForm_114_34_121_80 (le31 (by decide) c2) hk
  · replace hk := kK_r hk
    exact Ev.vret rfl rfl hk
set_option maxRecDepth 100000 in
theorem e_Runner_walkForm_114_34_121_L40 {v5 : Int32} {v6 : Int32} {v7 : Int32} {x : Option Value × List mmC} (hk : (kO (fun r : Ob × Ob => (none, mh sc rest to fl ma tr mk cn nu de r.1 r.2 tb tf ph cs)) x) (Runner_walkForm_L40 ma ru la v5 v6 v7)) : Ev mmPT tbX8_walkForm 40 [some (.ref 114), some (.ref 34), none, none, some (.ref 121), some (.int v5), some (.int v6), some (.int v7)] [] (mh sc rest to fl ma tr mk cn nu de ru la tb tf ph cs) x :=
  k_loop (B := (fun a : Int32 × Int32 × Int32 × Ob × Ob => Runner_walkForm_L40b ma a.2.2.2.1 a.2.2.2.2 a.1 a.2.1 a.2.2.1)) (μ := fun a : Int32 × Int32 × Int32 × Ob × Ob => mu a.2.2.1) (E := fun a : Int32 × Int32 × Int32 × Ob × Ob => Ev mmPT tbX8_walkForm 40 [some (.ref 114), some (.ref 34), none, none, some (.ref 121), some (.int a.1), some (.int a.2.1), some (.int a.2.2.1)] [] (mh sc rest to fl ma tr mk cn nu de a.2.2.2.1 a.2.2.2.2 tb tf ph cs) x) (X := (kO (fun r : Ob × Ob => (none, mh sc rest to fl ma tr mk cn nu de r.1 r.2 tb tf ph cs)) x)) (fun a hk => e_Runner_walkForm_114_34_121_L40b hk) (v5, v6, v7, ru, la) hk
set_option maxRecDepth 100000 in
theorem e_Runner_walkForm_114_34_121_0 {v2 : Int32} {v3 : Int32} {x : Option Value × List mmC} (hk : (kO (fun r : Ob × Ob => (none, mh sc rest to fl ma tr mk cn nu de r.1 r.2 tb tf ph cs)) x) (Runner_walkForm ma ru la v2 v3)) : Ev mmPT tbX8_walkForm 0 [some (.ref 114), some (.ref 34), some (.int v2), some (.int v3), some (.ref 121), none, none, none] [] (mh sc rest to fl ma tr mk cn nu de ru la tb tf ph cs) x := by
  unfold Runner_walkForm at hk
  refine Ev.s (ins := .aload 4) (pc' := 2) rfl rfl ?_
  refine kc_X9_begin_0 rfl oi_121 rfl (Nat.le_of_ble_eq_true rfl) (e_Tape_begin_121) ?_
  refine Ev.s (ins := .aload_n 0) (pc' := 6) rfl rfl ?_
  refine gf_114_1 rfl ?_
  refine q_ic 0 rfl rfl ?_
  refine fl_117 rfl (Nat.le_of_ble_eq_true rfl) ?_
  refine Ev.s (ins := .aload_n 0) (pc' := 14) rfl rfl ?_
  refine gf_114_1 rfl ?_
  refine q_ic 0 rfl rfl ?_
  refine Ev.s (ins := .iload_n 2) (pc' := 19) rfl rfl ?_
  refine pt_117 rfl (Nat.le_of_ble_eq_true rfl) ?_
  refine Ev.s (ins := .aload_n 0) (pc' := 23) rfl rfl ?_
  refine gf_114_1 rfl ?_
  refine q_ic 1 rfl rfl ?_
  refine Ev.s (ins := .iload_n 3) (pc' := 28) rfl rfl ?_
  refine pt_117 rfl (Nat.le_of_ble_eq_true rfl) ?_
  refine q_ic 0 rfl rfl ?_
  refine Ev.s (ins := .istore 5) (pc' := 34) (lv' := [some (.ref 114), some (.ref 34), some (.int v2), some (.int v3), some (.ref 121), some (.int 0), none, none]) rfl rfl ?_
  refine q_ic (-1) rfl rfl ?_
  refine Ev.s (ins := .istore 6) (pc' := 37) (lv' := [some (.ref 114), some (.ref 34), some (.int v2), some (.int v3), some (.ref 121), some (.int 0), some (.int (-1)), none]) rfl rfl ?_
  refine q_ic 0 rfl rfl ?_
  refine Ev.s (ins := .istore 7) (pc' := 40) (lv' := [some (.ref 114), some (.ref 34), some (.int v2), some (.int v3), some (.ref 121), some (.int 0), some (.int (-1)), some (.int 0)]) rfl rfl ?_
  refine Ev.weak [some (.ref 114), some (.ref 34), none, none, some (.ref 121), some (.int 0), some (.int (-1)), some (.int 0)] ⟨rfl, rfl, rfl, rfl, rfl, rfl, rfl, rfl, trivial⟩ ?_
  exact e_Runner_walkForm_114_34_121_L40 hk
set_option maxRecDepth 100000 in
theorem e_Runner_walkForm_114_34_121 {v2 : Int32} {v3 : Int32} : Ev mmPT tbX8_walkForm 0 [some (.ref 114), some (.ref 34), some (.int v2), some (.int v3), some (.ref 121), none, none, none] [] (mh sc rest to fl ma tr mk cn nu de ru la tb tf ph cs) ((fun r : Ob × Ob => (none, mh sc rest to fl ma tr mk cn nu de r.1 r.2 tb tf ph cs)) (Runner_walkForm ma ru la v2 v3)) := e_Runner_walkForm_114_34_121_0 (by exact rfl)
set_option maxRecDepth 100000 in
theorem e_Ph_runForm_38 {x : Option Value × List mmC} (hk : (kP (fun r : Int32 × Ob × Ob × Ob × Int64 => (some (.int r.1), mh sc rest to fl ma tr mk cn nu de r.2.1 r.2.2.1 tb tf r.2.2.2.1 r.2.2.2.2)) x) (Ph_runForm_38 ma ru la ph cs)) : Ev mmPT tbX11_runForm 38 [some (.ref 1), none, none] [] (mh sc rest to fl ma tr mk cn nu de ru la tb tf ph cs) x := by
  unfold Ph_runForm_38 at hk
  refine Ev.s (ins := .aload_n 0) (pc' := 39) rfl rfl ?_
  refine gf_1_9 rfl ?_
  refine gf_121_3 (la.2.1 0) rfl rfl ?_
  exact Ev.iret rfl rfl hk
set_option maxRecDepth 100000 in
theorem e_Ph_runForm_34 {x : Option Value × List mmC} (hk : (kP (fun r : Int32 × Ob × Ob × Ob × Int64 => (some (.int r.1), mh sc rest to fl ma tr mk cn nu de r.2.1 r.2.2.1 tb tf r.2.2.2.1 r.2.2.2.2)) x) (Ph_runForm_34 ma ru la ph cs)) : Ev mmPT tbX11_runForm 34 [some (.ref 1), none, none] [] (mh sc rest to fl ma tr mk cn nu de ru la tb tf ph cs) x := by
  unfold Ph_runForm_34 at hk
  refine Ev.s (ins := .aload_n 0) (pc' := 35) rfl rfl ?_
  refine kc_X11_countRun_0 rfl oi_1 rfl (Nat.le_of_ble_eq_true rfl) (e_Ph_countRun) ?_
  exact e_Ph_runForm_38 hk
set_option maxRecDepth 100000 in
theorem e_Ph_runForm_0 {v1 : Int32} {v2 : Int32} {x : Option Value × List mmC} (hk : (kP (fun r : Int32 × Ob × Ob × Ob × Int64 => (some (.int r.1), mh sc rest to fl ma tr mk cn nu de r.2.1 r.2.2.1 tb tf r.2.2.2.1 r.2.2.2.2)) x) (Ph_runForm ma ru la ph cs v1 v2)) : Ev mmPT tbX11_runForm 0 [some (.ref 1), some (.int v1), some (.int v2)] [] (mh sc rest to fl ma tr mk cn nu de ru la tb tf ph cs) x := by
  unfold Ph_runForm at hk
  refine Ev.s (ins := .aload_n 0) (pc' := 1) rfl rfl ?_
  refine gf_1_12 (ph.2.2 0) rfl rfl ?_
  refine q_bne rfl hk (fun c1 hk => ?_) (fun c1 hk => ?_)
  · refine Ev.s (ins := .aload_n 0) (pc' := 18) rfl rfl ?_
    refine gf_1_8 rfl ?_
    refine Ev.s (ins := .aload_n 0) (pc' := 22) rfl rfl ?_
    refine gf_1_1 rfl ?_
    refine Ev.s (ins := .iload_n 1) (pc' := 26) rfl rfl ?_
    refine Ev.s (ins := .iload_n 2) (pc' := 27) rfl rfl ?_
    refine Ev.s (ins := .aload_n 0) (pc' := 28) rfl rfl ?_
    refine gf_1_9 rfl ?_
    refine kc_X8_walkForm_0 rfl oi_114 rfl (Nat.le_of_ble_eq_true rfl) (e_Runner_walkForm_114_34_121) ?_
    refine Ev.weak [some (.ref 1), none, none] ⟨rfl, rfl, rfl, trivial⟩ ?_
    exact e_Ph_runForm_34 hk
  · exact False.elim hk
set_option maxRecDepth 100000 in
theorem e_Ph_runForm {v1 : Int32} {v2 : Int32} {r : Int32 × Ob × Ob × Ob × Int64} (hr : (Ph_runForm ma ru la ph cs v1 v2) = some r) : Ev mmPT tbX11_runForm 0 [some (.ref 1), some (.int v1), some (.int v2)] [] (mh sc rest to fl ma tr mk cn nu de ru la tb tf ph cs) ((fun r : Int32 × Ob × Ob × Ob × Int64 => (some (.int r.1), mh sc rest to fl ma tr mk cn nu de r.2.1 r.2.2.1 tb tf r.2.2.2.1 r.2.2.2.2)) r) := e_Ph_runForm_0 (by rw [hr]; exact rfl)
set_option maxRecDepth 100000 in
theorem e_Ph_ofRun_0 {v1 : Int32} {x : Option Value × List mmC} (hk : (kP (fun r : Int32 => (some (.int r), mh sc rest to fl ma tr mk cn nu de ru la tb tf ph cs)) x) (Ph_ofRun la ph v1)) : Ev mmPT tbX11_ofRun 0 [some (.ref 1), some (.int v1)] [] (mh sc rest to fl ma tr mk cn nu de ru la tb tf ph cs) x := by
  unfold Ph_ofRun at hk
  refine Ev.s (ins := .iload_n 1) (pc' := 1) rfl rfl ?_
  refine q_if hk (fun c1 hk => ?_) (fun c1 hk => ?_)
  · refine Ev.sw (tg := 40) rfl rfl (by rw [c1]; rfl) ?_
    refine Ev.s (ins := .aload_n 0) (pc' := 41) rfl rfl ?_
    refine gf_1_9 rfl ?_
    refine gf_121_3 (la.2.1 0) rfl rfl ?_
    exact Ev.iret rfl rfl hk
  · skip
    refine q_if hk (fun c2 hk => ?_) (fun c2 hk => ?_)
    · refine Ev.sw (tg := 48) rfl rfl (by rw [c2]; rfl) ?_
      refine Ev.s (ins := .aload_n 0) (pc' := 49) rfl rfl ?_
      refine gf_1_9 rfl ?_
      refine gf_121_4 (la.2.1 1) rfl rfl ?_
      exact Ev.iret rfl rfl hk
    · skip
      refine q_if hk (fun c3 hk => ?_) (fun c3 hk => ?_)
      · refine Ev.sw (tg := 56) rfl rfl (by rw [c3]; rfl) ?_
        refine Ev.s (ins := .aload_n 0) (pc' := 57) rfl rfl ?_
        refine gf_1_9 rfl ?_
        refine gf_121_5 (la.2.1 2) rfl rfl ?_
        exact Ev.iret rfl rfl hk
      · skip
        refine q_if hk (fun c4 hk => ?_) (fun c4 hk => ?_)
        · refine Ev.sw (tg := 64) rfl rfl (by rw [c4]; rfl) ?_
          refine Ev.s (ins := .aload_n 0) (pc' := 65) rfl rfl ?_
          refine gf_1_9 rfl ?_
          refine gf_121_6 (la.2.1 3) rfl rfl ?_
          exact Ev.iret rfl rfl hk
        · skip
          refine q_if hk (fun c5 hk => ?_) (fun c5 hk => ?_)
          · refine Ev.sw (tg := 72) rfl rfl (by rw [c5]; rfl) ?_
            refine Ev.s (ins := .aload_n 0) (pc' := 73) rfl rfl ?_
            refine gf_1_9 rfl ?_
            refine gf_121_7 (la.2.1 4) rfl rfl ?_
            exact Ev.iret rfl rfl hk
          · skip
            refine q_if hk (fun c6 hk => ?_) (fun c6 hk => ?_)
            · refine Ev.sw (tg := 80) rfl rfl (by rw [c6]; rfl) ?_
              refine Ev.s (ins := .aload_n 0) (pc' := 81) rfl rfl ?_
              refine gf_1_13 (ph.2.1 0) rfl rfl ?_
              exact Ev.iret rfl rfl hk
            · skip
              refine Ev.sw (tg := 85) rfl rfl (swg (by decide) (by decide) (fun k h e => ?_)) ?_
              · have h9 : k < 6 := by omega
                match k, h9, e with
                | 0, _, e => exact absurd e c1
                | 1, _, e => exact absurd e c2
                | 2, _, e => exact absurd e c3
                | 3, _, e => exact absurd e c4
                | 4, _, e => exact absurd e c5
                | 5, _, e => exact absurd e c6
              · exact False.elim hk
set_option maxRecDepth 100000 in
theorem e_Ph_ofRun {v1 : Int32} {r : Int32} (hr : (Ph_ofRun la ph v1) = some r) : Ev mmPT tbX11_ofRun 0 [some (.ref 1), some (.int v1)] [] (mh sc rest to fl ma tr mk cn nu de ru la tb tf ph cs) ((fun r : Int32 => (some (.int r), mh sc rest to fl ma tr mk cn nu de ru la tb tf ph cs)) r) := e_Ph_ofRun_0 (by rw [hr]; exact rfl)
set_option maxRecDepth 100000 in
theorem e_Ph_printed_21 {x : Option Value × List mmC} (hk : (kP (fun r : Int32 => (some (.int r), mh sc rest to fl ma tr mk cn nu de ru la tb tf ph cs)) x) (Ph_printed_21 la)) : Ev mmPT tbX11_printed 21 [none, none] [] (mh sc rest to fl ma tr mk cn nu de ru la tb tf ph cs) x := by
  unfold Ph_printed_21 at hk
  exact False.elim hk
set_option maxRecDepth 100000 in
theorem e_Ph_printed_0 {v1 : Int32} {x : Option Value × List mmC} (hk : (kP (fun r : Int32 => (some (.int r), mh sc rest to fl ma tr mk cn nu de ru la tb tf ph cs)) x) (Ph_printed la v1)) : Ev mmPT tbX11_printed 0 [some (.ref 1), some (.int v1)] [] (mh sc rest to fl ma tr mk cn nu de ru la tb tf ph cs) x := by
  unfold Ph_printed at hk
  refine Ev.s (ins := .iload_n 1) (pc' := 1) rfl rfl ?_
  refine q_lt rfl hk (fun c1 hk => ?_) (fun c1 hk => ?_)
  · refine Ev.weak [none, none] ⟨rfl, rfl, trivial⟩ ?_
    exact e_Ph_printed_21 hk
  · refine Ev.s (ins := .iload_n 1) (pc' := 5) rfl rfl ?_
    refine Ev.s (ins := .aload_n 0) (pc' := 6) rfl rfl ?_
    refine gf_1_9 rfl ?_
    refine gf_121_5 (la.2.1 2) rfl rfl ?_
    refine q_cge rfl hk (fun c2 hk => ?_) (fun c2 hk => ?_)
    · refine Ev.s (ins := .iload_n 1) (pc' := 16) rfl rfl ?_
      refine q_bi 60 rfl rfl ?_
      refine q_clt rfl hk (fun c3 hk => ?_) (fun c3 hk => ?_)
      · refine Ev.s (ins := .aload_n 0) (pc' := 33) rfl rfl ?_
        refine gf_1_9 rfl ?_
        refine gf_121_0 rfl ?_
        refine Ev.s (ins := .iload_n 1) (pc' := 40) rfl rfl ?_
        refine at_124 (oat la 1 60 v1) rfl (Nat.le_of_ble_eq_true rfl) rfl ?_
        exact Ev.iret rfl rfl hk
      · refine Ev.weak [none, none] ⟨rfl, rfl, trivial⟩ ?_
        exact e_Ph_printed_21 hk
    · refine Ev.weak [none, none] ⟨rfl, rfl, trivial⟩ ?_
      exact e_Ph_printed_21 hk
set_option maxRecDepth 100000 in
theorem e_Ph_printed {v1 : Int32} {r : Int32} (hr : (Ph_printed la v1) = some r) : Ev mmPT tbX11_printed 0 [some (.ref 1), some (.int v1)] [] (mh sc rest to fl ma tr mk cn nu de ru la tb tf ph cs) ((fun r : Int32 => (some (.int r), mh sc rest to fl ma tr mk cn nu de ru la tb tf ph cs)) r) := e_Ph_printed_0 (by rw [hr]; exact rfl)
set_option maxRecDepth 100000 in
theorem e_Ph_cell_10 {x : Option Value × List mmC} (hk : (kP (fun r : Int32 => (some (.int r), mh sc rest to fl ma tr mk cn nu de ru la tb tf ph cs)) x) (Ph_cell_10 la)) : Ev mmPT tbX11_cell 10 [none, none] [] (mh sc rest to fl ma tr mk cn nu de ru la tb tf ph cs) x := by
  unfold Ph_cell_10 at hk
  exact False.elim hk
set_option maxRecDepth 100000 in
theorem e_Ph_cell_0 {v1 : Int32} {x : Option Value × List mmC} (hk : (kP (fun r : Int32 => (some (.int r), mh sc rest to fl ma tr mk cn nu de ru la tb tf ph cs)) x) (Ph_cell la v1)) : Ev mmPT tbX11_cell 0 [some (.ref 1), some (.int v1)] [] (mh sc rest to fl ma tr mk cn nu de ru la tb tf ph cs) x := by
  unfold Ph_cell at hk
  refine Ev.s (ins := .iload_n 1) (pc' := 1) rfl rfl ?_
  refine q_lt rfl hk (fun c1 hk => ?_) (fun c1 hk => ?_)
  · refine Ev.weak [none, none] ⟨rfl, rfl, trivial⟩ ?_
    exact e_Ph_cell_10 hk
  · refine Ev.s (ins := .iload_n 1) (pc' := 5) rfl rfl ?_
    refine q_bi 8 rfl rfl ?_
    refine q_clt rfl hk (fun c2 hk => ?_) (fun c2 hk => ?_)
    · refine Ev.s (ins := .aload_n 0) (pc' := 22) rfl rfl ?_
      refine gf_1_9 rfl ?_
      refine gf_121_1 rfl ?_
      refine Ev.s (ins := .iload_n 1) (pc' := 29) rfl rfl ?_
      refine at_122 (oat la 0 8 v1) rfl (Nat.le_of_ble_eq_true rfl) rfl ?_
      exact Ev.iret rfl rfl hk
    · refine Ev.weak [none, none] ⟨rfl, rfl, trivial⟩ ?_
      exact e_Ph_cell_10 hk
set_option maxRecDepth 100000 in
theorem e_Ph_cell {v1 : Int32} {r : Int32} (hr : (Ph_cell la v1) = some r) : Ev mmPT tbX11_cell 0 [some (.ref 1), some (.int v1)] [] (mh sc rest to fl ma tr mk cn nu de ru la tb tf ph cs) ((fun r : Int32 => (some (.int r), mh sc rest to fl ma tr mk cn nu de ru la tb tf ph cs)) r) := e_Ph_cell_0 (by rw [hr]; exact rfl)
set_option maxRecDepth 100000 in
theorem e_Told_allLines_2_L4b {v1 : Int32} {v2 : Int32} {x : Option Value × List mmC} (hk : (kK (fun a : Int32 × Int32 => mu a.2) (mu v2) (fun a : Int32 × Int32 => Ev mmPT tbX10_allLines 4 [some (.ref 2), some (.int a.1), some (.int a.2)] [] (mh sc rest to fl ma tr mk cn nu de ru la tb tf ph cs) x) (kO (fun r : Int32 => (some (.int r), mh sc rest to fl ma tr mk cn nu de ru la tb tf ph cs)) x)) (Told_allLines_L4b to v1 v2)) : Ev mmPT tbX10_allLines 4 [some (.ref 2), some (.int v1), some (.int v2)] [] (mh sc rest to fl ma tr mk cn nu de ru la tb tf ph cs) x := by
  unfold Told_allLines_L4b at hk
  refine Ev.s (ins := .iload_n 2) (pc' := 5) rfl rfl ?_
  refine Ev.s (ins := .aload_n 0) (pc' := 6) rfl rfl ?_
  refine gf_2_12 (to.2.1 0) rfl rfl ?_
  refine q_cge rfl hk (fun c1 hk => ?_) (fun c1 hk => ?_)
  · refine Ev.s (ins := .iload_n 1) (pc' := 13) rfl rfl ?_
    refine Ev.s (ins := .aload_n 0) (pc' := 14) rfl rfl ?_
    refine gf_2_0 rfl ?_
    refine Ev.s (ins := .iload_n 2) (pc' := 18) rfl rfl ?_
    refine at_3 (oat to 0 10 v2) rfl (Nat.le_of_ble_eq_true rfl) rfl ?_
    refine Ev.s (ins := .iadd) (pc' := 22) rfl rfl ?_
    refine Ev.s (ins := .istore_n 1) (pc' := 23) (lv' := [some (.ref 2), some (.int (v1 + (oat to 0 10 v2))), some (.int v2)]) rfl rfl ?_
    refine q_inc 1 [some (.ref 2), some (.int (v1 + (oat to 0 10 v2))), some (.int (v2 + 1))] rfl rfl rfl rfl ?_
    refine Ev.goto rfl ?_
    replace hk := kK_l hk
    exact hk (mu_lt (lt31 c1))
  · replace hk := kK_r hk
    refine Ev.s (ins := .iload_n 1) (pc' := 30) rfl rfl ?_
    exact Ev.iret rfl rfl hk
set_option maxRecDepth 100000 in
theorem e_Told_allLines_2_L4 {v1 : Int32} {v2 : Int32} {x : Option Value × List mmC} (hk : (kO (fun r : Int32 => (some (.int r), mh sc rest to fl ma tr mk cn nu de ru la tb tf ph cs)) x) (Told_allLines_L4 to v1 v2)) : Ev mmPT tbX10_allLines 4 [some (.ref 2), some (.int v1), some (.int v2)] [] (mh sc rest to fl ma tr mk cn nu de ru la tb tf ph cs) x :=
  k_loop (B := (fun a : Int32 × Int32 => Told_allLines_L4b to a.1 a.2)) (μ := fun a : Int32 × Int32 => mu a.2) (E := fun a : Int32 × Int32 => Ev mmPT tbX10_allLines 4 [some (.ref 2), some (.int a.1), some (.int a.2)] [] (mh sc rest to fl ma tr mk cn nu de ru la tb tf ph cs) x) (X := (kO (fun r : Int32 => (some (.int r), mh sc rest to fl ma tr mk cn nu de ru la tb tf ph cs)) x)) (fun a hk => e_Told_allLines_2_L4b hk) (v1, v2) hk
set_option maxRecDepth 100000 in
theorem e_Told_allLines_2_0 {x : Option Value × List mmC} (hk : (kO (fun r : Int32 => (some (.int r), mh sc rest to fl ma tr mk cn nu de ru la tb tf ph cs)) x) (Told_allLines to)) : Ev mmPT tbX10_allLines 0 [some (.ref 2), none, none] [] (mh sc rest to fl ma tr mk cn nu de ru la tb tf ph cs) x := by
  unfold Told_allLines at hk
  refine q_ic 0 rfl rfl ?_
  refine Ev.s (ins := .istore_n 1) (pc' := 2) (lv' := [some (.ref 2), some (.int 0), none]) rfl rfl ?_
  refine q_ic 0 rfl rfl ?_
  refine Ev.s (ins := .istore_n 2) (pc' := 4) (lv' := [some (.ref 2), some (.int 0), some (.int 0)]) rfl rfl ?_
  exact e_Told_allLines_2_L4 hk
set_option maxRecDepth 100000 in
theorem e_Told_allLines_2 : Ev mmPT tbX10_allLines 0 [some (.ref 2), none, none] [] (mh sc rest to fl ma tr mk cn nu de ru la tb tf ph cs) ((fun r : Int32 => (some (.int r), mh sc rest to fl ma tr mk cn nu de ru la tb tf ph cs)) (Told_allLines to)) := e_Told_allLines_2_0 (by exact rfl)
set_option maxRecDepth 100000 in
theorem e_Form_allIn_sizes_34_49_L4b {v2 : Int32} {v3 : Int32} {x : Option Value × List mmC} (hk : (kK (fun a : Int32 × Int32 => mu a.2) (mu v3) (fun a : Int32 × Int32 => Ev mmPT tbX3_allIn 4 [some (.ref 34), some (.ref 49), some (.int a.1), some (.int a.2)] [] (mh sc rest to fl ma tr mk cn nu de ru la tb tf ph cs) x) (kO (fun r : Int32 => (some (.int r), mh sc rest to fl ma tr mk cn nu de ru la tb tf ph cs)) x)) (Form_allIn_sizes_L4b ma v2 v3)) : Ev mmPT tbX3_allIn 4 [some (.ref 34), some (.ref 49), some (.int v2), some (.int v3)] [] (mh sc rest to fl ma tr mk cn nu de ru la tb tf ph cs) x := by
  unfold Form_allIn_sizes_L4b at hk
  refine Ev.s (ins := .iload_n 3) (pc' := 5) rfl rfl ?_
  refine Ev.s (ins := .aload_n 0) (pc' := 6) rfl rfl ?_
  refine gf_34_13 (ma.2.1 0) rfl rfl ?_
  refine q_cge rfl hk (fun c1 hk => ?_) (fun c1 hk => ?_)
  · refine Ev.s (ins := .iload_n 2) (pc' := 13) rfl rfl ?_
    refine Ev.s (ins := .aload_n 1) (pc' := 14) rfl rfl ?_
    refine Ev.s (ins := .iload_n 3) (pc' := 15) rfl rfl ?_
    refine at_49 (oat ma 7 10 v3) rfl (Nat.le_of_ble_eq_true rfl) rfl ?_
    refine Ev.s (ins := .iadd) (pc' := 19) rfl rfl ?_
    refine Ev.s (ins := .istore_n 2) (pc' := 20) (lv' := [some (.ref 34), some (.ref 49), some (.int (v2 + (oat ma 7 10 v3))), some (.int v3)]) rfl rfl ?_
    refine q_inc 1 [some (.ref 34), some (.ref 49), some (.int (v2 + (oat ma 7 10 v3))), some (.int (v3 + 1))] rfl rfl rfl rfl ?_
    refine Ev.goto rfl ?_
    replace hk := kK_l hk
    exact hk (mu_lt (lt31 c1))
  · replace hk := kK_r hk
    refine Ev.s (ins := .iload_n 2) (pc' := 27) rfl rfl ?_
    exact Ev.iret rfl rfl hk
set_option maxRecDepth 100000 in
theorem e_Form_allIn_sizes_34_49_L4 {v2 : Int32} {v3 : Int32} {x : Option Value × List mmC} (hk : (kO (fun r : Int32 => (some (.int r), mh sc rest to fl ma tr mk cn nu de ru la tb tf ph cs)) x) (Form_allIn_sizes_L4 ma v2 v3)) : Ev mmPT tbX3_allIn 4 [some (.ref 34), some (.ref 49), some (.int v2), some (.int v3)] [] (mh sc rest to fl ma tr mk cn nu de ru la tb tf ph cs) x :=
  k_loop (B := (fun a : Int32 × Int32 => Form_allIn_sizes_L4b ma a.1 a.2)) (μ := fun a : Int32 × Int32 => mu a.2) (E := fun a : Int32 × Int32 => Ev mmPT tbX3_allIn 4 [some (.ref 34), some (.ref 49), some (.int a.1), some (.int a.2)] [] (mh sc rest to fl ma tr mk cn nu de ru la tb tf ph cs) x) (X := (kO (fun r : Int32 => (some (.int r), mh sc rest to fl ma tr mk cn nu de ru la tb tf ph cs)) x)) (fun a hk => e_Form_allIn_sizes_34_49_L4b hk) (v2, v3) hk
set_option maxRecDepth 100000 in
theorem e_Form_allIn_sizes_34_49_0 {x : Option Value × List mmC} (hk : (kO (fun r : Int32 => (some (.int r), mh sc rest to fl ma tr mk cn nu de ru la tb tf ph cs)) x) (Form_allIn_sizes ma)) : Ev mmPT tbX3_allIn 0 [some (.ref 34), some (.ref 49), none, none] [] (mh sc rest to fl ma tr mk cn nu de ru la tb tf ph cs) x := by
  unfold Form_allIn_sizes at hk
  refine q_ic 0 rfl rfl ?_
  refine Ev.s (ins := .istore_n 2) (pc' := 2) (lv' := [some (.ref 34), some (.ref 49), some (.int 0), none]) rfl rfl ?_
  refine q_ic 0 rfl rfl ?_
  refine Ev.s (ins := .istore_n 3) (pc' := 4) (lv' := [some (.ref 34), some (.ref 49), some (.int 0), some (.int 0)]) rfl rfl ?_
  exact e_Form_allIn_sizes_34_49_L4 hk
set_option maxRecDepth 100000 in
theorem e_Form_allIn_sizes_34_49 : Ev mmPT tbX3_allIn 0 [some (.ref 34), some (.ref 49), none, none] [] (mh sc rest to fl ma tr mk cn nu de ru la tb tf ph cs) ((fun r : Int32 => (some (.int r), mh sc rest to fl ma tr mk cn nu de ru la tb tf ph cs)) (Form_allIn_sizes ma)) := e_Form_allIn_sizes_34_49_0 (by exact rfl)
set_option maxRecDepth 100000 in
theorem e_Form_allPhis_34_43 {v2 : Int32} {w0 : Int32} {w1 : Int32} {x : Option Value × List mmC} (b4 : v2 < 2147483647) (hk : (kK (fun a : Int32 × Int32 => mu a.2) (mu v2) (fun a : Int32 × Int32 => Ev mmPT tbX3_allPhis 4 [some (.ref 34), some (.int a.1), some (.int a.2)] [] (mh sc rest to fl ma tr mk cn nu de ru la tb tf ph cs) x) (kO (fun r : Int32 => (some (.int r), mh sc rest to fl ma tr mk cn nu de ru la tb tf ph cs)) x)) (Form_allPhis_43 ma v2 w0 w1)) : Ev mmPT tbX3_allPhis 43 [some (.ref 34), none, some (.int v2)] [.int w0, .int w1] (mh sc rest to fl ma tr mk cn nu de ru la tb tf ph cs) x := by
  unfold Form_allPhis_43 at hk
  refine Ev.s (ins := .iadd) (pc' := 44) rfl rfl ?_
  refine Ev.s (ins := .istore_n 1) (pc' := 45) (lv' := [some (.ref 34), some (.int (w1 + w0)), some (.int v2)]) rfl rfl ?_
  refine q_inc 1 [some (.ref 34), some (.int (w1 + w0)), some (.int (v2 + 1))] rfl rfl rfl rfl ?_
  refine Ev.goto rfl ?_
  replace hk := kK_l hk
  exact hk (mu_lt b4)
set_option maxRecDepth 100000 in
theorem e_Form_allPhis_34_42 {v2 : Int32} {w0 : Int32} {x : Option Value × List mmC} (b4 : v2 < 2147483647) (hk : (kK (fun a : Int32 × Int32 => mu a.2) (mu v2) (fun a : Int32 × Int32 => Ev mmPT tbX3_allPhis 4 [some (.ref 34), some (.int a.1), some (.int a.2)] [] (mh sc rest to fl ma tr mk cn nu de ru la tb tf ph cs) x) (kO (fun r : Int32 => (some (.int r), mh sc rest to fl ma tr mk cn nu de ru la tb tf ph cs)) x)) (Form_allPhis_42 ma v2 w0)) : Ev mmPT tbX3_allPhis 42 [some (.ref 34), none, some (.int v2)] [.int w0] (mh sc rest to fl ma tr mk cn nu de ru la tb tf ph cs) x := by
  unfold Form_allPhis_42 at hk
  refine q_ic 0 rfl rfl ?_
  exact e_Form_allPhis_34_43 b4 hk
set_option maxRecDepth 100000 in
theorem e_Form_allPhis_34_L4b {v1 : Int32} {v2 : Int32} {x : Option Value × List mmC} (hk : (kK (fun a : Int32 × Int32 => mu a.2) (mu v2) (fun a : Int32 × Int32 => Ev mmPT tbX3_allPhis 4 [some (.ref 34), some (.int a.1), some (.int a.2)] [] (mh sc rest to fl ma tr mk cn nu de ru la tb tf ph cs) x) (kO (fun r : Int32 => (some (.int r), mh sc rest to fl ma tr mk cn nu de ru la tb tf ph cs)) x)) (Form_allPhis_L4b ma v1 v2)) : Ev mmPT tbX3_allPhis 4 [some (.ref 34), some (.int v1), some (.int v2)] [] (mh sc rest to fl ma tr mk cn nu de ru la tb tf ph cs) x := by
  unfold Form_allPhis_L4b at hk
  refine Ev.s (ins := .iload_n 2) (pc' := 5) rfl rfl ?_
  refine Ev.s (ins := .aload_n 0) (pc' := 6) rfl rfl ?_
  refine gf_34_15 (ma.2.1 2) rfl rfl ?_
  refine q_cge rfl hk (fun c1 hk => ?_) (fun c1 hk => ?_)
  · refine Ev.s (ins := .iload_n 1) (pc' := 13) rfl rfl ?_
    refine Ev.s (ins := .aload_n 0) (pc' := 14) rfl rfl ?_
    refine gf_34_0 rfl ?_
    refine Ev.s (ins := .iload_n 2) (pc' := 18) rfl rfl ?_
    refine at_35 (oat ma 0 140 v2) rfl (Nat.le_of_ble_eq_true rfl) rfl ?_
    refine q_bi 9 rfl rfl ?_
    refine q_cne rfl hk (fun c2 hk => ?_) (fun c2 hk => ?_)
    · refine Ev.s (ins := .aload_n 0) (pc' := 27) rfl rfl ?_
      refine gf_34_1 rfl ?_
      refine Ev.s (ins := .iload_n 2) (pc' := 31) rfl rfl ?_
      refine at_37 (oat ma 1 140 v2) rfl (Nat.le_of_ble_eq_true rfl) rfl ?_
      refine q_ic (-1) rfl rfl ?_
      refine q_ceq rfl hk (fun c3 hk => ?_) (fun c3 hk => ?_)
      · refine Ev.weak [some (.ref 34), none, some (.int v2)] ⟨rfl, rfl, rfl, trivial⟩ ?_
        exact e_Form_allPhis_34_42 (lt31 c1) hk
      · refine q_ic 1 rfl rfl ?_
        refine Ev.goto rfl ?_
        refine Ev.weak [some (.ref 34), none, some (.int v2)] ⟨rfl, rfl, rfl, trivial⟩ ?_
        exact e_Form_allPhis_34_43 (lt31 c1) hk
    · refine Ev.weak [some (.ref 34), none, some (.int v2)] ⟨rfl, rfl, rfl, trivial⟩ ?_
      exact e_Form_allPhis_34_42 (lt31 c1) hk
  · replace hk := kK_r hk
    refine Ev.s (ins := .iload_n 1) (pc' := 52) rfl rfl ?_
    exact Ev.iret rfl rfl hk
set_option maxRecDepth 100000 in
theorem e_Form_allPhis_34_L4 {v1 : Int32} {v2 : Int32} {x : Option Value × List mmC} (hk : (kO (fun r : Int32 => (some (.int r), mh sc rest to fl ma tr mk cn nu de ru la tb tf ph cs)) x) (Form_allPhis_L4 ma v1 v2)) : Ev mmPT tbX3_allPhis 4 [some (.ref 34), some (.int v1), some (.int v2)] [] (mh sc rest to fl ma tr mk cn nu de ru la tb tf ph cs) x :=
  k_loop (B := (fun a : Int32 × Int32 => Form_allPhis_L4b ma a.1 a.2)) (μ := fun a : Int32 × Int32 => mu a.2) (E := fun a : Int32 × Int32 => Ev mmPT tbX3_allPhis 4 [some (.ref 34), some (.int a.1), some (.int a.2)] [] (mh sc rest to fl ma tr mk cn nu de ru la tb tf ph cs) x) (X := (kO (fun r : Int32 => (some (.int r), mh sc rest to fl ma tr mk cn nu de ru la tb tf ph cs)) x)) (fun a hk => e_Form_allPhis_34_L4b hk) (v1, v2) hk
set_option maxRecDepth 100000 in
theorem e_Form_allPhis_34_0 {x : Option Value × List mmC} (hk : (kO (fun r : Int32 => (some (.int r), mh sc rest to fl ma tr mk cn nu de ru la tb tf ph cs)) x) (Form_allPhis ma)) : Ev mmPT tbX3_allPhis 0 [some (.ref 34), none, none] [] (mh sc rest to fl ma tr mk cn nu de ru la tb tf ph cs) x := by
  unfold Form_allPhis at hk
  refine q_ic 0 rfl rfl ?_
  refine Ev.s (ins := .istore_n 1) (pc' := 2) (lv' := [some (.ref 34), some (.int 0), none]) rfl rfl ?_
  refine q_ic 0 rfl rfl ?_
  refine Ev.s (ins := .istore_n 2) (pc' := 4) (lv' := [some (.ref 34), some (.int 0), some (.int 0)]) rfl rfl ?_
  exact e_Form_allPhis_34_L4 hk
set_option maxRecDepth 100000 in
theorem e_Form_allPhis_34 : Ev mmPT tbX3_allPhis 0 [some (.ref 34), none, none] [] (mh sc rest to fl ma tr mk cn nu de ru la tb tf ph cs) ((fun r : Int32 => (some (.int r), mh sc rest to fl ma tr mk cn nu de ru la tb tf ph cs)) (Form_allPhis ma)) := e_Form_allPhis_34_0 (by exact rfl)
set_option maxRecDepth 100000 in
theorem e_Form_allIn_edges_34_53_L4b {v2 : Int32} {v3 : Int32} {x : Option Value × List mmC} (hk : (kK (fun a : Int32 × Int32 => mu a.2) (mu v3) (fun a : Int32 × Int32 => Ev mmPT tbX3_allIn 4 [some (.ref 34), some (.ref 53), some (.int a.1), some (.int a.2)] [] (mh sc rest to fl ma tr mk cn nu de ru la tb tf ph cs) x) (kO (fun r : Int32 => (some (.int r), mh sc rest to fl ma tr mk cn nu de ru la tb tf ph cs)) x)) (Form_allIn_edges_L4b ma v2 v3)) : Ev mmPT tbX3_allIn 4 [some (.ref 34), some (.ref 53), some (.int v2), some (.int v3)] [] (mh sc rest to fl ma tr mk cn nu de ru la tb tf ph cs) x := by
  unfold Form_allIn_edges_L4b at hk
  refine Ev.s (ins := .iload_n 3) (pc' := 5) rfl rfl ?_
  refine Ev.s (ins := .aload_n 0) (pc' := 6) rfl rfl ?_
  refine gf_34_13 (ma.2.1 0) rfl rfl ?_
  refine q_cge rfl hk (fun c1 hk => ?_) (fun c1 hk => ?_)
  · refine Ev.s (ins := .iload_n 2) (pc' := 13) rfl rfl ?_
    refine Ev.s (ins := .aload_n 1) (pc' := 14) rfl rfl ?_
    refine Ev.s (ins := .iload_n 3) (pc' := 15) rfl rfl ?_
    refine at_53 (oat ma 9 10 v3) rfl (Nat.le_of_ble_eq_true rfl) rfl ?_
    refine Ev.s (ins := .iadd) (pc' := 19) rfl rfl ?_
    refine Ev.s (ins := .istore_n 2) (pc' := 20) (lv' := [some (.ref 34), some (.ref 53), some (.int (v2 + (oat ma 9 10 v3))), some (.int v3)]) rfl rfl ?_
    refine q_inc 1 [some (.ref 34), some (.ref 53), some (.int (v2 + (oat ma 9 10 v3))), some (.int (v3 + 1))] rfl rfl rfl rfl ?_
    refine Ev.goto rfl ?_
    replace hk := kK_l hk
    exact hk (mu_lt (lt31 c1))
  · replace hk := kK_r hk
    refine Ev.s (ins := .iload_n 2) (pc' := 27) rfl rfl ?_
    exact Ev.iret rfl rfl hk
set_option maxRecDepth 100000 in
theorem e_Form_allIn_edges_34_53_L4 {v2 : Int32} {v3 : Int32} {x : Option Value × List mmC} (hk : (kO (fun r : Int32 => (some (.int r), mh sc rest to fl ma tr mk cn nu de ru la tb tf ph cs)) x) (Form_allIn_edges_L4 ma v2 v3)) : Ev mmPT tbX3_allIn 4 [some (.ref 34), some (.ref 53), some (.int v2), some (.int v3)] [] (mh sc rest to fl ma tr mk cn nu de ru la tb tf ph cs) x :=
  k_loop (B := (fun a : Int32 × Int32 => Form_allIn_edges_L4b ma a.1 a.2)) (μ := fun a : Int32 × Int32 => mu a.2) (E := fun a : Int32 × Int32 => Ev mmPT tbX3_allIn 4 [some (.ref 34), some (.ref 53), some (.int a.1), some (.int a.2)] [] (mh sc rest to fl ma tr mk cn nu de ru la tb tf ph cs) x) (X := (kO (fun r : Int32 => (some (.int r), mh sc rest to fl ma tr mk cn nu de ru la tb tf ph cs)) x)) (fun a hk => e_Form_allIn_edges_34_53_L4b hk) (v2, v3) hk
set_option maxRecDepth 100000 in
theorem e_Form_allIn_edges_34_53_0 {x : Option Value × List mmC} (hk : (kO (fun r : Int32 => (some (.int r), mh sc rest to fl ma tr mk cn nu de ru la tb tf ph cs)) x) (Form_allIn_edges ma)) : Ev mmPT tbX3_allIn 0 [some (.ref 34), some (.ref 53), none, none] [] (mh sc rest to fl ma tr mk cn nu de ru la tb tf ph cs) x := by
  unfold Form_allIn_edges at hk
  refine q_ic 0 rfl rfl ?_
  refine Ev.s (ins := .istore_n 2) (pc' := 2) (lv' := [some (.ref 34), some (.ref 53), some (.int 0), none]) rfl rfl ?_
  refine q_ic 0 rfl rfl ?_
  refine Ev.s (ins := .istore_n 3) (pc' := 4) (lv' := [some (.ref 34), some (.ref 53), some (.int 0), some (.int 0)]) rfl rfl ?_
  exact e_Form_allIn_edges_34_53_L4 hk
set_option maxRecDepth 100000 in
theorem e_Form_allIn_edges_34_53 : Ev mmPT tbX3_allIn 0 [some (.ref 34), some (.ref 53), none, none] [] (mh sc rest to fl ma tr mk cn nu de ru la tb tf ph cs) ((fun r : Int32 => (some (.int r), mh sc rest to fl ma tr mk cn nu de ru la tb tf ph cs)) (Form_allIn_edges ma)) := e_Form_allIn_edges_34_53_0 (by exact rfl)
set_option maxRecDepth 100000 in
theorem e_Ph_manyOfForm_0 {v1 : Int32} {x : Option Value × List mmC} (hk : (kO (fun r : Int32 => (some (.int r), mh sc rest to fl ma tr mk cn nu de ru la tb tf ph cs)) x) (Ph_manyOfForm ma v1)) : Ev mmPT tbX11_manyOfForm 0 [some (.ref 1), some (.int v1)] [] (mh sc rest to fl ma tr mk cn nu de ru la tb tf ph cs) x := by
  unfold Ph_manyOfForm at hk
  refine Ev.s (ins := .iload_n 1) (pc' := 1) rfl rfl ?_
  refine q_if hk (fun c1 hk => ?_) (fun c1 hk => ?_)
  · refine Ev.sw (tg := 40) rfl rfl (by rw [c1]; rfl) ?_
    refine Ev.s (ins := .aload_n 0) (pc' := 41) rfl rfl ?_
    refine gf_1_1 rfl ?_
    refine gf_34_15 (ma.2.1 2) rfl rfl ?_
    exact Ev.iret rfl rfl hk
  · skip
    refine q_if hk (fun c2 hk => ?_) (fun c2 hk => ?_)
    · refine Ev.sw (tg := 48) rfl rfl (by rw [c2]; rfl) ?_
      refine Ev.s (ins := .aload_n 0) (pc' := 49) rfl rfl ?_
      refine gf_1_1 rfl ?_
      refine Ev.s (ins := .aload_n 0) (pc' := 53) rfl rfl ?_
      refine gf_1_1 rfl ?_
      refine gf_34_7 rfl ?_
      refine kc_X3_allIn_0 rfl oi_34 rfl (Nat.le_of_ble_eq_true rfl) (e_Form_allIn_sizes_34_49) ?_
      exact Ev.iret rfl rfl hk
    · skip
      refine q_if hk (fun c3 hk => ?_) (fun c3 hk => ?_)
      · refine Ev.sw (tg := 63) rfl rfl (by rw [c3]; rfl) ?_
        refine Ev.s (ins := .aload_n 0) (pc' := 64) rfl rfl ?_
        refine gf_1_1 rfl ?_
        refine kc_X3_allPhis_0 rfl oi_34 rfl (Nat.le_of_ble_eq_true rfl) (e_Form_allPhis_34) ?_
        exact Ev.iret rfl rfl hk
      · skip
        refine q_if hk (fun c4 hk => ?_) (fun c4 hk => ?_)
        · refine Ev.sw (tg := 71) rfl rfl (by rw [c4]; rfl) ?_
          refine Ev.s (ins := .aload_n 0) (pc' := 72) rfl rfl ?_
          refine gf_1_1 rfl ?_
          refine gf_34_14 (ma.2.1 1) rfl rfl ?_
          refine kc_J6_bitCount_0f7a4_2 rfl (Nat.le_of_ble_eq_true rfl) (e_J_bitCount) ?_
          exact Ev.iret rfl rfl hk
        · skip
          refine q_if hk (fun c5 hk => ?_) (fun c5 hk => ?_)
          · refine Ev.sw (tg := 82) rfl rfl (by rw [c5]; rfl) ?_
            refine Ev.s (ins := .aload_n 0) (pc' := 83) rfl rfl ?_
            refine gf_1_1 rfl ?_
            refine Ev.s (ins := .aload_n 0) (pc' := 87) rfl rfl ?_
            refine gf_1_1 rfl ?_
            refine gf_34_9 rfl ?_
            refine kc_X3_allIn_0 rfl oi_34 rfl (Nat.le_of_ble_eq_true rfl) (e_Form_allIn_edges_34_53) ?_
            exact Ev.iret rfl rfl hk
          · skip
            refine q_if hk (fun c6 hk => ?_) (fun c6 hk => ?_)
            · refine Ev.sw (tg := 97) rfl rfl (by rw [c6]; rfl) ?_
              refine Ev.s (ins := .aload_n 0) (pc' := 98) rfl rfl ?_
              refine gf_1_1 rfl ?_
              refine gf_34_17 (ma.2.1 4) rfl rfl ?_
              exact Ev.iret rfl rfl hk
            · skip
              refine Ev.sw (tg := 105) rfl rfl (swg (by decide) (by decide) (fun k h e => ?_)) ?_
              · have h9 : k < 6 := by omega
                match k, h9, e with
                | 0, _, e => exact absurd e c1
                | 1, _, e => exact absurd e c2
                | 2, _, e => exact absurd e c3
                | 3, _, e => exact absurd e c4
                | 4, _, e => exact absurd e c5
                | 5, _, e => exact absurd e c6
              · refine Ev.s (ins := .aload_n 0) (pc' := 106) rfl rfl ?_
                refine gf_1_1 rfl ?_
                refine gf_34_18 (ma.2.1 5) rfl rfl ?_
                exact Ev.iret rfl rfl hk
set_option maxRecDepth 100000 in
theorem e_Ph_manyOfForm {v1 : Int32} : Ev mmPT tbX11_manyOfForm 0 [some (.ref 1), some (.int v1)] [] (mh sc rest to fl ma tr mk cn nu de ru la tb tf ph cs) ((fun r : Int32 => (some (.int r), mh sc rest to fl ma tr mk cn nu de ru la tb tf ph cs)) (Ph_manyOfForm ma v1)) := e_Ph_manyOfForm_0 (by exact rfl)
set_option maxRecDepth 100000 in
theorem e_Ph_many_10 {x : Option Value × List mmC} (hk : (kP (fun r : Int32 => (some (.int r), mh sc rest to fl ma tr mk cn nu de ru la tb tf ph cs)) x) (Ph_many_10 to fl ma ph)) : Ev mmPT tbX11_many 10 [none, none] [] (mh sc rest to fl ma tr mk cn nu de ru la tb tf ph cs) x := by
  unfold Ph_many_10 at hk
  exact False.elim hk
set_option maxRecDepth 100000 in
theorem e_Ph_many_0 {v1 : Int32} {x : Option Value × List mmC} (hk : (kP (fun r : Int32 => (some (.int r), mh sc rest to fl ma tr mk cn nu de ru la tb tf ph cs)) x) (Ph_many to fl ma ph v1)) : Ev mmPT tbX11_many 0 [some (.ref 1), some (.int v1)] [] (mh sc rest to fl ma tr mk cn nu de ru la tb tf ph cs) x := by
  unfold Ph_many at hk
  refine Ev.s (ins := .iload_n 1) (pc' := 1) rfl rfl ?_
  refine q_lt rfl hk (fun c1 hk => ?_) (fun c1 hk => ?_)
  · refine Ev.weak [none, none] ⟨rfl, rfl, trivial⟩ ?_
    exact e_Ph_many_10 hk
  · refine Ev.s (ins := .iload_n 1) (pc' := 5) rfl rfl ?_
    refine q_bi 10 rfl rfl ?_
    refine q_cle rfl hk (fun c2 hk => ?_) (fun c2 hk => ?_)
    · refine Ev.weak [none, none] ⟨rfl, rfl, trivial⟩ ?_
      exact e_Ph_many_10 hk
    · refine Ev.s (ins := .iload_n 1) (pc' := 22) rfl rfl ?_
      refine q_if hk (fun c3 hk => ?_) (fun c3 hk => ?_)
      · refine Ev.sw (tg := 52) rfl rfl (by rw [c3]; rfl) ?_
        refine Ev.s (ins := .aload_n 0) (pc' := 53) rfl rfl ?_
        refine gf_1_0 rfl ?_
        refine gf_2_12 (to.2.1 0) rfl rfl ?_
        exact Ev.iret rfl rfl hk
      · skip
        refine q_if hk (fun c4 hk => ?_) (fun c4 hk => ?_)
        · refine Ev.sw (tg := 60) rfl rfl (by rw [c4]; rfl) ?_
          refine Ev.s (ins := .aload_n 0) (pc' := 61) rfl rfl ?_
          refine gf_1_0 rfl ?_
          refine gf_2_11 rfl ?_
          refine gf_25_4 (fl.2.1 0) rfl rfl ?_
          refine kc_J6_bitCount_0f7a4_2 rfl (Nat.le_of_ble_eq_true rfl) (e_J_bitCount) ?_
          exact Ev.iret rfl rfl hk
        · skip
          refine q_if hk (fun c5 hk => ?_) (fun c5 hk => ?_)
          · refine Ev.sw (tg := 74) rfl rfl (by rw [c5]; rfl) ?_
            refine Ev.s (ins := .aload_n 0) (pc' := 75) rfl rfl ?_
            refine gf_1_0 rfl ?_
            refine kc_X10_allLines_0 rfl oi_2 rfl (Nat.le_of_ble_eq_true rfl) (e_Told_allLines_2) ?_
            exact Ev.iret rfl rfl hk
          · skip
            refine q_if hk (fun c6 hk => ?_) (fun c6 hk => ?_)
            · refine Ev.sw (tg := 82) rfl rfl (by rw [c6]; rfl) ?_
              refine Ev.s (ins := .aload_n 0) (pc' := 83) rfl rfl ?_
              refine gf_1_12 (ph.2.2 0) rfl rfl ?_
              refine q_beq rfl hk (fun c7 hk => ?_) (fun c7 hk => ?_)
              · refine q_ic 1 rfl rfl ?_
                refine Ev.goto rfl ?_
                exact Ev.iret rfl rfl hk
              · refine q_ic 0 rfl rfl ?_
                exact Ev.iret rfl rfl hk
            · skip
              refine Ev.sw (tg := 95) rfl rfl (swg (by decide) (by decide) (fun k h e => ?_)) ?_
              · have h9 : k < 4 := by omega
                match k, h9, e with
                | 0, _, e => exact absurd e c3
                | 1, _, e => exact absurd e c4
                | 2, _, e => exact absurd e c5
                | 3, _, e => exact absurd e c6
              · refine Ev.s (ins := .aload_n 0) (pc' := 96) rfl rfl ?_
                refine gf_1_12 (ph.2.2 0) rfl rfl ?_
                refine q_beq rfl hk (fun c7 hk => ?_) (fun c7 hk => ?_)
                · refine Ev.s (ins := .aload_n 0) (pc' := 103) rfl rfl ?_
                  refine Ev.s (ins := .iload_n 1) (pc' := 104) rfl rfl ?_
                  refine kc_X11_manyOfForm_0 rfl oi_1 rfl (Nat.le_of_ble_eq_true rfl) (e_Ph_manyOfForm) ?_
                  refine Ev.goto rfl ?_
                  exact Ev.iret rfl rfl hk
                · refine q_ic 0 rfl rfl ?_
                  exact Ev.iret rfl rfl hk
set_option maxRecDepth 100000 in
theorem e_Ph_many {v1 : Int32} {r : Int32} (hr : (Ph_many to fl ma ph v1) = some r) : Ev mmPT tbX11_many 0 [some (.ref 1), some (.int v1)] [] (mh sc rest to fl ma tr mk cn nu de ru la tb tf ph cs) ((fun r : Int32 => (some (.int r), mh sc rest to fl ma tr mk cn nu de ru la tb tf ph cs)) r) := e_Ph_many_0 (by rw [hr]; exact rfl)
set_option maxRecDepth 100000 in
theorem e_Form_take_61_34_0 {x : Option Value × List mmC} (hk : (kO (fun r : Ob => (none, mh sc rest to fl ma r mk cn nu de ru la tb tf ph cs)) x) (Form_take ma tr)) : Ev mmPT tbX3_take 0 [some (.ref 61), some (.ref 34)] [] (mh sc rest to fl ma tr mk cn nu de ru la tb tf ph cs) x := by
  unfold Form_take at hk
  refine Ev.s (ins := .aload_n 0) (pc' := 1) rfl rfl ?_
  refine gf_61_0 rfl ?_
  refine Ev.s (ins := .aload_n 1) (pc' := 5) rfl rfl ?_
  refine gf_34_0 rfl ?_
  refine tk_62_35 rfl (Nat.le_of_ble_eq_true rfl) ?_
  refine Ev.s (ins := .aload_n 0) (pc' := 12) rfl rfl ?_
  refine gf_61_1 rfl ?_
  refine Ev.s (ins := .aload_n 1) (pc' := 16) rfl rfl ?_
  refine gf_34_1 rfl ?_
  refine tk_64_37 rfl (Nat.le_of_ble_eq_true rfl) ?_
  refine Ev.s (ins := .aload_n 0) (pc' := 23) rfl rfl ?_
  refine gf_61_2 rfl ?_
  refine Ev.s (ins := .aload_n 1) (pc' := 27) rfl rfl ?_
  refine gf_34_2 rfl ?_
  refine tk_66_39 rfl (Nat.le_of_ble_eq_true rfl) ?_
  refine Ev.s (ins := .aload_n 0) (pc' := 34) rfl rfl ?_
  refine gf_61_3 rfl ?_
  refine Ev.s (ins := .aload_n 1) (pc' := 38) rfl rfl ?_
  refine gf_34_3 rfl ?_
  refine tk_68_41 rfl (Nat.le_of_ble_eq_true rfl) ?_
  refine Ev.s (ins := .aload_n 0) (pc' := 45) rfl rfl ?_
  refine gf_61_4 rfl ?_
  refine Ev.s (ins := .aload_n 1) (pc' := 49) rfl rfl ?_
  refine gf_34_4 rfl ?_
  refine tk_70_43 rfl (Nat.le_of_ble_eq_true rfl) ?_
  refine Ev.s (ins := .aload_n 0) (pc' := 56) rfl rfl ?_
  refine gf_61_5 rfl ?_
  refine Ev.s (ins := .aload_n 1) (pc' := 60) rfl rfl ?_
  refine gf_34_5 rfl ?_
  refine tk_72_45 rfl (Nat.le_of_ble_eq_true rfl) ?_
  refine Ev.s (ins := .aload_n 0) (pc' := 67) rfl rfl ?_
  refine gf_61_6 rfl ?_
  refine Ev.s (ins := .aload_n 1) (pc' := 71) rfl rfl ?_
  refine gf_34_6 rfl ?_
  refine tk_74_47 rfl (Nat.le_of_ble_eq_true rfl) ?_
  refine Ev.s (ins := .aload_n 0) (pc' := 78) rfl rfl ?_
  refine gf_61_7 rfl ?_
  refine Ev.s (ins := .aload_n 1) (pc' := 82) rfl rfl ?_
  refine gf_34_7 rfl ?_
  refine tk_76_49 rfl (Nat.le_of_ble_eq_true rfl) ?_
  refine Ev.s (ins := .aload_n 0) (pc' := 89) rfl rfl ?_
  refine gf_61_8 rfl ?_
  refine Ev.s (ins := .aload_n 1) (pc' := 93) rfl rfl ?_
  refine gf_34_8 rfl ?_
  refine tk_78_51 rfl (Nat.le_of_ble_eq_true rfl) ?_
  refine Ev.s (ins := .aload_n 0) (pc' := 100) rfl rfl ?_
  refine gf_61_9 rfl ?_
  refine Ev.s (ins := .aload_n 1) (pc' := 104) rfl rfl ?_
  refine gf_34_9 rfl ?_
  refine tk_80_53 rfl (Nat.le_of_ble_eq_true rfl) ?_
  refine Ev.s (ins := .aload_n 0) (pc' := 111) rfl rfl ?_
  refine gf_61_10 rfl ?_
  refine Ev.s (ins := .aload_n 1) (pc' := 115) rfl rfl ?_
  refine gf_34_10 rfl ?_
  refine tk_82_55 rfl (Nat.le_of_ble_eq_true rfl) ?_
  refine Ev.s (ins := .aload_n 0) (pc' := 122) rfl rfl ?_
  refine gf_61_11 rfl ?_
  refine Ev.s (ins := .aload_n 1) (pc' := 126) rfl rfl ?_
  refine gf_34_11 rfl ?_
  refine tk_84_57 rfl (Nat.le_of_ble_eq_true rfl) ?_
  refine Ev.s (ins := .aload_n 0) (pc' := 133) rfl rfl ?_
  refine gf_61_12 rfl ?_
  refine Ev.s (ins := .aload_n 1) (pc' := 137) rfl rfl ?_
  refine gf_34_12 rfl ?_
  refine tk_86_59 rfl (Nat.le_of_ble_eq_true rfl) ?_
  refine Ev.s (ins := .aload_n 0) (pc' := 144) rfl rfl ?_
  refine Ev.s (ins := .aload_n 1) (pc' := 145) rfl rfl ?_
  refine gf_34_13 (ma.2.1 0) rfl rfl ?_
  refine pf_61_13 (ma.2.1 0) rfl ?_
  refine Ev.s (ins := .aload_n 0) (pc' := 152) rfl rfl ?_
  refine Ev.s (ins := .aload_n 1) (pc' := 153) rfl rfl ?_
  refine gf_34_14 (ma.2.1 1) rfl rfl ?_
  refine pf_61_14 (ma.2.1 1) rfl ?_
  refine Ev.s (ins := .aload_n 0) (pc' := 160) rfl rfl ?_
  refine Ev.s (ins := .aload_n 1) (pc' := 161) rfl rfl ?_
  refine gf_34_15 (ma.2.1 2) rfl rfl ?_
  refine pf_61_15 (ma.2.1 2) rfl ?_
  refine Ev.s (ins := .aload_n 0) (pc' := 168) rfl rfl ?_
  refine Ev.s (ins := .aload_n 1) (pc' := 169) rfl rfl ?_
  refine gf_34_16 (ma.2.1 3) rfl rfl ?_
  refine pf_61_16 (ma.2.1 3) rfl ?_
  refine Ev.s (ins := .aload_n 0) (pc' := 176) rfl rfl ?_
  refine Ev.s (ins := .aload_n 1) (pc' := 177) rfl rfl ?_
  refine gf_34_17 (ma.2.1 4) rfl rfl ?_
  refine pf_61_17 (ma.2.1 4) rfl ?_
  refine Ev.s (ins := .aload_n 0) (pc' := 184) rfl rfl ?_
  refine Ev.s (ins := .aload_n 1) (pc' := 185) rfl rfl ?_
  refine gf_34_18 (ma.2.1 5) rfl rfl ?_
  refine pf_61_18 (ma.2.1 5) rfl ?_
  exact Ev.vret rfl rfl hk
set_option maxRecDepth 100000 in
theorem e_Form_take_61_34 : Ev mmPT tbX3_take 0 [some (.ref 61), some (.ref 34)] [] (mh sc rest to fl ma tr mk cn nu de ru la tb tf ph cs) ((fun r : Ob => (none, mh sc rest to fl ma r mk cn nu de ru la tb tf ph cs)) (Form_take ma tr)) := e_Form_take_61_34_0 (by exact rfl)
set_option maxRecDepth 100000 in
theorem e_Form_valueIn_61_0 {v1 : Int32} {v2 : Int32} {x : Option Value × List mmC} (hk : (kO (fun r : Int32 => (some (.int r), mh sc rest to fl ma tr mk cn nu de ru la tb tf ph cs)) x) (Form_valueIn tr v1 v2)) : Ev mmPT tbX3_valueIn 0 [some (.ref 61), some (.int v1), some (.int v2)] [] (mh sc rest to fl ma tr mk cn nu de ru la tb tf ph cs) x := by
  unfold Form_valueIn at hk
  refine Ev.s (ins := .aload_n 0) (pc' := 1) rfl rfl ?_
  refine gf_61_8 rfl ?_
  refine Ev.s (ins := .iload_n 1) (pc' := 5) rfl rfl ?_
  refine q_si 140 rfl rfl ?_
  refine Ev.s (ins := .imul) (pc' := 9) rfl rfl ?_
  refine Ev.s (ins := .iload_n 2) (pc' := 10) rfl rfl ?_
  refine Ev.s (ins := .iadd) (pc' := 11) rfl rfl ?_
  refine at_78 (oat tr 8 1400 ((v1 * 140) + v2)) rfl (Nat.le_of_ble_eq_true rfl) rfl ?_
  exact Ev.iret rfl rfl hk
set_option maxRecDepth 100000 in
theorem e_Form_valueIn_61 {v1 : Int32} {v2 : Int32} : Ev mmPT tbX3_valueIn 0 [some (.ref 61), some (.int v1), some (.int v2)] [] (mh sc rest to fl ma tr mk cn nu de ru la tb tf ph cs) ((fun r : Int32 => (some (.int r), mh sc rest to fl ma tr mk cn nu de ru la tb tf ph cs)) (Form_valueIn tr v1 v2)) := e_Form_valueIn_61_0 (by exact rfl)
set_option maxRecDepth 100000 in
theorem e_Form_wayTo_61_0 {v1 : Int32} {v2 : Int32} {x : Option Value × List mmC} (hk : (kO (fun r : Int32 => (some (.int r), mh sc rest to fl ma tr mk cn nu de ru la tb tf ph cs)) x) (Form_wayTo tr v1 v2)) : Ev mmPT tbX3_wayTo 0 [some (.ref 61), some (.int v1), some (.int v2)] [] (mh sc rest to fl ma tr mk cn nu de ru la tb tf ph cs) x := by
  unfold Form_wayTo at hk
  refine Ev.s (ins := .aload_n 0) (pc' := 1) rfl rfl ?_
  refine gf_61_10 rfl ?_
  refine Ev.s (ins := .iload_n 1) (pc' := 5) rfl rfl ?_
  refine q_bi 20 rfl rfl ?_
  refine Ev.s (ins := .imul) (pc' := 8) rfl rfl ?_
  refine Ev.s (ins := .iload_n 2) (pc' := 9) rfl rfl ?_
  refine Ev.s (ins := .iadd) (pc' := 10) rfl rfl ?_
  refine at_82 (oat tr 10 200 ((v1 * 20) + v2)) rfl (Nat.le_of_ble_eq_true rfl) rfl ?_
  exact Ev.iret rfl rfl hk
set_option maxRecDepth 100000 in
theorem e_Form_wayTo_61 {v1 : Int32} {v2 : Int32} : Ev mmPT tbX3_wayTo 0 [some (.ref 61), some (.int v1), some (.int v2)] [] (mh sc rest to fl ma tr mk cn nu de ru la tb tf ph cs) ((fun r : Int32 => (some (.int r), mh sc rest to fl ma tr mk cn nu de ru la tb tf ph cs)) (Form_wayTo tr v1 v2)) := e_Form_wayTo_61_0 (by exact rfl)
set_option maxRecDepth 100000 in
theorem e_Constants_knownAt_95_61_0 {v2 : Int32} {x : Option Value × List mmC} (hk : (kO (fun r : Int32 => (some (.int r), mh sc rest to fl ma tr mk cn nu de ru la tb tf ph cs)) x) (Constants_knownAt tr cn v2)) : Ev mmPT tbX0_knownAt 0 [some (.ref 95), some (.ref 61), some (.int v2), none] [] (mh sc rest to fl ma tr mk cn nu de ru la tb tf ph cs) x := by
  unfold Constants_knownAt at hk
  refine Ev.s (ins := .aload_n 1) (pc' := 1) rfl rfl ?_
  refine gf_61_5 rfl ?_
  refine Ev.s (ins := .iload_n 2) (pc' := 5) rfl rfl ?_
  refine at_72 (oat tr 5 290 v2) rfl (Nat.le_of_ble_eq_true rfl) rfl ?_
  refine Ev.s (ins := .istore_n 3) (pc' := 9) (lv' := [some (.ref 95), some (.ref 61), some (.int v2), some (.int (oat tr 5 290 v2))]) rfl rfl ?_
  refine Ev.s (ins := .iload_n 3) (pc' := 10) rfl rfl ?_
  refine q_ic (-1) rfl rfl ?_
  refine q_cne rfl hk (fun c1 hk => ?_) (fun c1 hk => ?_)
  · refine q_ic 1 rfl rfl ?_
    refine Ev.goto rfl ?_
    exact Ev.iret rfl rfl hk
  · refine Ev.s (ins := .aload_n 0) (pc' := 19) rfl rfl ?_
    refine gf_95_0 rfl ?_
    refine Ev.s (ins := .iload_n 3) (pc' := 23) rfl rfl ?_
    refine at_96 (oat cn 0 140 (oat tr 5 290 v2)) rfl (Nat.le_of_ble_eq_true rfl) rfl ?_
    exact Ev.iret rfl rfl hk
set_option maxRecDepth 100000 in
theorem e_Constants_knownAt_95_61 {v2 : Int32} : Ev mmPT tbX0_knownAt 0 [some (.ref 95), some (.ref 61), some (.int v2), none] [] (mh sc rest to fl ma tr mk cn nu de ru la tb tf ph cs) ((fun r : Int32 => (some (.int r), mh sc rest to fl ma tr mk cn nu de ru la tb tf ph cs)) (Constants_knownAt tr cn v2)) := e_Constants_knownAt_95_61_0 (by exact rfl)
set_option maxRecDepth 100000 in
theorem e_Constants_numberAt_95_61_0 {v2 : Int32} {x : Option Value × List mmC} (hk : (kO (fun r : Int32 => (some (.int r), mh sc rest to fl ma tr mk cn nu de ru la tb tf ph cs)) x) (Constants_numberAt tr cn v2)) : Ev mmPT tbX0_numberAt 0 [some (.ref 95), some (.ref 61), some (.int v2), none] [] (mh sc rest to fl ma tr mk cn nu de ru la tb tf ph cs) x := by
  unfold Constants_numberAt at hk
  refine Ev.s (ins := .aload_n 1) (pc' := 1) rfl rfl ?_
  refine gf_61_5 rfl ?_
  refine Ev.s (ins := .iload_n 2) (pc' := 5) rfl rfl ?_
  refine at_72 (oat tr 5 290 v2) rfl (Nat.le_of_ble_eq_true rfl) rfl ?_
  refine Ev.s (ins := .istore_n 3) (pc' := 9) (lv' := [some (.ref 95), some (.ref 61), some (.int v2), some (.int (oat tr 5 290 v2))]) rfl rfl ?_
  refine Ev.s (ins := .iload_n 3) (pc' := 10) rfl rfl ?_
  refine q_ic (-1) rfl rfl ?_
  refine q_cne rfl hk (fun c1 hk => ?_) (fun c1 hk => ?_)
  · refine Ev.s (ins := .aload_n 1) (pc' := 15) rfl rfl ?_
    refine gf_61_6 rfl ?_
    refine Ev.s (ins := .iload_n 2) (pc' := 19) rfl rfl ?_
    refine at_74 (oat tr 6 290 v2) rfl (Nat.le_of_ble_eq_true rfl) rfl ?_
    refine Ev.goto rfl ?_
    exact Ev.iret rfl rfl hk
  · refine Ev.s (ins := .aload_n 0) (pc' := 26) rfl rfl ?_
    refine gf_95_1 rfl ?_
    refine Ev.s (ins := .iload_n 3) (pc' := 30) rfl rfl ?_
    refine at_98 (oat cn 1 140 (oat tr 5 290 v2)) rfl (Nat.le_of_ble_eq_true rfl) rfl ?_
    exact Ev.iret rfl rfl hk
set_option maxRecDepth 100000 in
theorem e_Constants_numberAt_95_61 {v2 : Int32} : Ev mmPT tbX0_numberAt 0 [some (.ref 95), some (.ref 61), some (.int v2), none] [] (mh sc rest to fl ma tr mk cn nu de ru la tb tf ph cs) ((fun r : Int32 => (some (.int r), mh sc rest to fl ma tr mk cn nu de ru la tb tf ph cs)) (Constants_numberAt tr cn v2)) := e_Constants_numberAt_95_61_0 (by exact rfl)
set_option maxRecDepth 100000 in
theorem e_Constants_meet_95_61_136 {v2 : Int32} {v3 : Int32} {v4 : Int32} {v5 : Int32} {v6 : Int32} {x : Option Value × List mmC} (b9 : v6 < 2147483647) (hk : (kK (fun a : Int32 × Int32 × Int32 => mu a.2.2) (mu v6) (fun a : Int32 × Int32 × Int32 => Ev mmPT tbX0_meet 9 [some (.ref 95), some (.ref 61), some (.int v2), some (.int v3), some (.int a.1), some (.int a.2.1), some (.int a.2.2), none, none, none] [] (mh sc rest to fl ma tr mk cn nu de ru la tb tf ph cs) x) (kO (fun r : Ob => (none, mh sc rest to fl ma tr mk r nu de ru la tb tf ph cs)) x)) (Constants_meet_136 tr cn v2 v3 v4 v5 v6)) : Ev mmPT tbX0_meet 136 [some (.ref 95), some (.ref 61), some (.int v2), some (.int v3), some (.int v4), some (.int v5), some (.int v6), none, none, none] [] (mh sc rest to fl ma tr mk cn nu de ru la tb tf ph cs) x := by
  unfold Constants_meet_136 at hk
  refine q_inc 1 [some (.ref 95), some (.ref 61), some (.int v2), some (.int v3), some (.int v4), some (.int v5), some (.int (v6 + 1)), none, none, none] rfl rfl rfl rfl ?_
  refine Ev.goto rfl ?_
  replace hk := kK_l hk
  exact hk (mu_lt b9)
set_option maxRecDepth 100000 in
theorem e_Constants_meet_95_61_133 {v2 : Int32} {v3 : Int32} {v5 : Int32} {v6 : Int32} {x : Option Value × List mmC} (b9 : v6 < 2147483647) (hk : (kK (fun a : Int32 × Int32 × Int32 => mu a.2.2) (mu v6) (fun a : Int32 × Int32 × Int32 => Ev mmPT tbX0_meet 9 [some (.ref 95), some (.ref 61), some (.int v2), some (.int v3), some (.int a.1), some (.int a.2.1), some (.int a.2.2), none, none, none] [] (mh sc rest to fl ma tr mk cn nu de ru la tb tf ph cs) x) (kO (fun r : Ob => (none, mh sc rest to fl ma tr mk r nu de ru la tb tf ph cs)) x)) (Constants_meet_133 tr cn v2 v3 v5 v6)) : Ev mmPT tbX0_meet 133 [some (.ref 95), some (.ref 61), some (.int v2), some (.int v3), none, some (.int v5), some (.int v6), none, none, none] [] (mh sc rest to fl ma tr mk cn nu de ru la tb tf ph cs) x := by
  unfold Constants_meet_133 at hk
  refine q_ic 2 rfl rfl ?_
  refine Ev.s (ins := .istore 4) (pc' := 136) (lv' := [some (.ref 95), some (.ref 61), some (.int v2), some (.int v3), some (.int 2), some (.int v5), some (.int v6), none, none, none]) rfl rfl ?_
  exact e_Constants_meet_95_61_136 b9 hk
set_option maxRecDepth 100000 in
theorem e_Constants_meet_95_61_122 {v2 : Int32} {v3 : Int32} {v4 : Int32} {v5 : Int32} {v6 : Int32} {v8 : Int32} {v9 : Int32} {x : Option Value × List mmC} (b9 : v6 < 2147483647) (hk : (kK (fun a : Int32 × Int32 × Int32 => mu a.2.2) (mu v6) (fun a : Int32 × Int32 × Int32 => Ev mmPT tbX0_meet 9 [some (.ref 95), some (.ref 61), some (.int v2), some (.int v3), some (.int a.1), some (.int a.2.1), some (.int a.2.2), none, none, none] [] (mh sc rest to fl ma tr mk cn nu de ru la tb tf ph cs) x) (kO (fun r : Ob => (none, mh sc rest to fl ma tr mk r nu de ru la tb tf ph cs)) x)) (Constants_meet_122 tr cn v2 v3 v4 v5 v6 v8 v9)) : Ev mmPT tbX0_meet 122 [some (.ref 95), some (.ref 61), some (.int v2), some (.int v3), some (.int v4), some (.int v5), some (.int v6), none, some (.int v8), some (.int v9)] [] (mh sc rest to fl ma tr mk cn nu de ru la tb tf ph cs) x := by
  unfold Constants_meet_122 at hk
  refine Ev.s (ins := .iload 8) (pc' := 124) rfl rfl ?_
  refine q_ic 2 rfl rfl ?_
  refine q_ceq rfl hk (fun c1 hk => ?_) (fun c1 hk => ?_)
  · refine Ev.weak [some (.ref 95), some (.ref 61), some (.int v2), some (.int v3), none, some (.int v5), some (.int v6), none, none, none] ⟨rfl, rfl, rfl, rfl, rfl, rfl, rfl, rfl, rfl, rfl, trivial⟩ ?_
    exact e_Constants_meet_95_61_133 b9 hk
  · refine Ev.s (ins := .iload 9) (pc' := 130) rfl rfl ?_
    refine q_eq rfl hk (fun c2 hk => ?_) (fun c2 hk => ?_)
    · refine Ev.weak [some (.ref 95), some (.ref 61), some (.int v2), some (.int v3), some (.int v4), some (.int v5), some (.int v6), none, none, none] ⟨rfl, rfl, rfl, rfl, rfl, rfl, rfl, rfl, rfl, rfl, trivial⟩ ?_
      exact e_Constants_meet_95_61_136 b9 hk
    · refine Ev.weak [some (.ref 95), some (.ref 61), some (.int v2), some (.int v3), none, some (.int v5), some (.int v6), none, none, none] ⟨rfl, rfl, rfl, rfl, rfl, rfl, rfl, rfl, rfl, rfl, trivial⟩ ?_
      exact e_Constants_meet_95_61_133 b9 hk
set_option maxRecDepth 100000 in
theorem e_Constants_meet_95_61_94 {v2 : Int32} {v3 : Int32} {v4 : Int32} {v5 : Int32} {v6 : Int32} {v7 : Int32} {v8 : Int32} {w0 : Int32} {x : Option Value × List mmC} (b9 : v6 < 2147483647) (hk : (kK (fun a : Int32 × Int32 × Int32 => mu a.2.2) (mu v6) (fun a : Int32 × Int32 × Int32 => Ev mmPT tbX0_meet 9 [some (.ref 95), some (.ref 61), some (.int v2), some (.int v3), some (.int a.1), some (.int a.2.1), some (.int a.2.2), none, none, none] [] (mh sc rest to fl ma tr mk cn nu de ru la tb tf ph cs) x) (kO (fun r : Ob => (none, mh sc rest to fl ma tr mk r nu de ru la tb tf ph cs)) x)) (Constants_meet_94 tr cn v2 v3 v4 v5 v6 v7 v8 w0)) : Ev mmPT tbX0_meet 94 [some (.ref 95), some (.ref 61), some (.int v2), some (.int v3), some (.int v4), some (.int v5), some (.int v6), some (.int v7), some (.int v8), none] [.int w0] (mh sc rest to fl ma tr mk cn nu de ru la tb tf ph cs) x := by
  unfold Constants_meet_94 at hk
  refine Ev.s (ins := .istore 9) (pc' := 96) (lv' := [some (.ref 95), some (.ref 61), some (.int v2), some (.int v3), some (.int v4), some (.int v5), some (.int v6), some (.int v7), some (.int v8), some (.int w0)]) rfl rfl ?_
  refine Ev.s (ins := .iload 8) (pc' := 98) rfl rfl ?_
  refine q_ic 1 rfl rfl ?_
  refine q_cne rfl hk (fun c1 hk => ?_) (fun c1 hk => ?_)
  · refine Ev.s (ins := .iload 4) (pc' := 104) rfl rfl ?_
    refine q_ne rfl hk (fun c2 hk => ?_) (fun c2 hk => ?_)
    · refine q_ic 1 rfl rfl ?_
      refine Ev.s (ins := .istore 4) (pc' := 110) (lv' := [some (.ref 95), some (.ref 61), some (.int v2), some (.int v3), some (.int 1), some (.int v5), some (.int v6), some (.int v7), some (.int v8), some (.int w0)]) rfl rfl ?_
      refine Ev.s (ins := .aload_n 0) (pc' := 111) rfl rfl ?_
      refine Ev.s (ins := .aload_n 1) (pc' := 112) rfl rfl ?_
      refine Ev.s (ins := .iload 7) (pc' := 114) rfl rfl ?_
      refine kc_X0_numberAt_0 rfl oi_95 rfl (Nat.le_of_ble_eq_true rfl) (e_Constants_numberAt_95_61) ?_
      refine Ev.s (ins := .istore 5) (pc' := 119) (lv' := [some (.ref 95), some (.ref 61), some (.int v2), some (.int v3), some (.int 1), some (.int (Constants_numberAt tr cn v7)), some (.int v6), some (.int v7), some (.int v8), some (.int w0)]) rfl rfl ?_
      refine Ev.goto rfl ?_
      refine Ev.weak [some (.ref 95), some (.ref 61), some (.int v2), some (.int v3), some (.int 1), some (.int (Constants_numberAt tr cn v7)), some (.int v6), none, none, none] ⟨rfl, rfl, rfl, rfl, rfl, rfl, rfl, rfl, rfl, rfl, trivial⟩ ?_
      exact e_Constants_meet_95_61_136 b9 hk
    · refine Ev.weak [some (.ref 95), some (.ref 61), some (.int v2), some (.int v3), some (.int v4), some (.int v5), some (.int v6), none, some (.int v8), some (.int w0)] ⟨rfl, rfl, rfl, rfl, rfl, rfl, rfl, rfl, rfl, rfl, trivial⟩ ?_
      exact e_Constants_meet_95_61_122 b9 hk
  · refine Ev.weak [some (.ref 95), some (.ref 61), some (.int v2), some (.int v3), some (.int v4), some (.int v5), some (.int v6), none, some (.int v8), some (.int w0)] ⟨rfl, rfl, rfl, rfl, rfl, rfl, rfl, rfl, rfl, rfl, trivial⟩ ?_
    exact e_Constants_meet_95_61_122 b9 hk
set_option maxRecDepth 100000 in
theorem e_Constants_meet_95_61_93 {v2 : Int32} {v3 : Int32} {v4 : Int32} {v5 : Int32} {v6 : Int32} {v7 : Int32} {v8 : Int32} {x : Option Value × List mmC} (b9 : v6 < 2147483647) (hk : (kK (fun a : Int32 × Int32 × Int32 => mu a.2.2) (mu v6) (fun a : Int32 × Int32 × Int32 => Ev mmPT tbX0_meet 9 [some (.ref 95), some (.ref 61), some (.int v2), some (.int v3), some (.int a.1), some (.int a.2.1), some (.int a.2.2), none, none, none] [] (mh sc rest to fl ma tr mk cn nu de ru la tb tf ph cs) x) (kO (fun r : Ob => (none, mh sc rest to fl ma tr mk r nu de ru la tb tf ph cs)) x)) (Constants_meet_93 tr cn v2 v3 v4 v5 v6 v7 v8)) : Ev mmPT tbX0_meet 93 [some (.ref 95), some (.ref 61), some (.int v2), some (.int v3), some (.int v4), some (.int v5), some (.int v6), some (.int v7), some (.int v8), none] [] (mh sc rest to fl ma tr mk cn nu de ru la tb tf ph cs) x := by
  unfold Constants_meet_93 at hk
  refine q_ic 0 rfl rfl ?_
  exact e_Constants_meet_95_61_94 b9 hk
set_option maxRecDepth 100000 in
theorem e_Constants_meet_95_61_63 {v2 : Int32} {v3 : Int32} {v4 : Int32} {v5 : Int32} {v6 : Int32} {v7 : Int32} {w0 : Int32} {x : Option Value × List mmC} (b9 : v6 < 2147483647) (hk : (kK (fun a : Int32 × Int32 × Int32 => mu a.2.2) (mu v6) (fun a : Int32 × Int32 × Int32 => Ev mmPT tbX0_meet 9 [some (.ref 95), some (.ref 61), some (.int v2), some (.int v3), some (.int a.1), some (.int a.2.1), some (.int a.2.2), none, none, none] [] (mh sc rest to fl ma tr mk cn nu de ru la tb tf ph cs) x) (kO (fun r : Ob => (none, mh sc rest to fl ma tr mk r nu de ru la tb tf ph cs)) x)) (Constants_meet_63 tr cn v2 v3 v4 v5 v6 v7 w0)) : Ev mmPT tbX0_meet 63 [some (.ref 95), some (.ref 61), some (.int v2), some (.int v3), some (.int v4), some (.int v5), some (.int v6), some (.int v7), none, none] [.int w0] (mh sc rest to fl ma tr mk cn nu de ru la tb tf ph cs) x := by
  unfold Constants_meet_63 at hk
  refine Ev.s (ins := .istore 8) (pc' := 65) (lv' := [some (.ref 95), some (.ref 61), some (.int v2), some (.int v3), some (.int v4), some (.int v5), some (.int v6), some (.int v7), some (.int w0), none]) rfl rfl ?_
  refine Ev.s (ins := .iload 8) (pc' := 67) rfl rfl ?_
  refine q_ic 1 rfl rfl ?_
  refine q_cne rfl hk (fun c1 hk => ?_) (fun c1 hk => ?_)
  · refine Ev.s (ins := .iload 4) (pc' := 73) rfl rfl ?_
    refine q_ic 1 rfl rfl ?_
    refine q_cne rfl hk (fun c2 hk => ?_) (fun c2 hk => ?_)
    · refine Ev.s (ins := .aload_n 0) (pc' := 78) rfl rfl ?_
      refine Ev.s (ins := .aload_n 1) (pc' := 79) rfl rfl ?_
      refine Ev.s (ins := .iload 7) (pc' := 81) rfl rfl ?_
      refine kc_X0_numberAt_0 rfl oi_95 rfl (Nat.le_of_ble_eq_true rfl) (e_Constants_numberAt_95_61) ?_
      refine Ev.s (ins := .iload 5) (pc' := 86) rfl rfl ?_
      refine q_ceq rfl hk (fun c3 hk => ?_) (fun c3 hk => ?_)
      · exact e_Constants_meet_95_61_93 b9 hk
      · refine q_ic 1 rfl rfl ?_
        refine Ev.goto rfl ?_
        exact e_Constants_meet_95_61_94 b9 hk
    · exact e_Constants_meet_95_61_93 b9 hk
  · exact e_Constants_meet_95_61_93 b9 hk
set_option maxRecDepth 100000 in
theorem e_Constants_meet_95_61_L9b {v2 : Int32} {v3 : Int32} {v4 : Int32} {v5 : Int32} {v6 : Int32} {x : Option Value × List mmC} (hk : (kK (fun a : Int32 × Int32 × Int32 => mu a.2.2) (mu v6) (fun a : Int32 × Int32 × Int32 => Ev mmPT tbX0_meet 9 [some (.ref 95), some (.ref 61), some (.int v2), some (.int v3), some (.int a.1), some (.int a.2.1), some (.int a.2.2), none, none, none] [] (mh sc rest to fl ma tr mk cn nu de ru la tb tf ph cs) x) (kO (fun r : Ob => (none, mh sc rest to fl ma tr mk r nu de ru la tb tf ph cs)) x)) (Constants_meet_L9b tr cn v2 v3 v4 v5 v6)) : Ev mmPT tbX0_meet 9 [some (.ref 95), some (.ref 61), some (.int v2), some (.int v3), some (.int v4), some (.int v5), some (.int v6), none, none, none] [] (mh sc rest to fl ma tr mk cn nu de ru la tb tf ph cs) x := by
  unfold Constants_meet_L9b at hk
  refine Ev.s (ins := .iload 6) (pc' := 11) rfl rfl ?_
  refine Ev.s (ins := .aload_n 1) (pc' := 12) rfl rfl ?_
  refine gf_61_9 rfl ?_
  refine Ev.s (ins := .iload_n 2) (pc' := 16) rfl rfl ?_
  refine at_80 (oat tr 9 10 v2) rfl (Nat.le_of_ble_eq_true rfl) rfl ?_
  refine q_cge rfl hk (fun c1 hk => ?_) (fun c1 hk => ?_)
  · refine Ev.s (ins := .aload_n 1) (pc' := 23) rfl rfl ?_
    refine gf_61_4 rfl ?_
    refine Ev.s (ins := .iload_n 3) (pc' := 27) rfl rfl ?_
    refine at_70 (oat tr 4 150 v3) rfl (Nat.le_of_ble_eq_true rfl) rfl ?_
    refine Ev.s (ins := .iload 6) (pc' := 32) rfl rfl ?_
    refine Ev.s (ins := .iadd) (pc' := 33) rfl rfl ?_
    refine Ev.s (ins := .istore 7) (pc' := 35) (lv' := [some (.ref 95), some (.ref 61), some (.int v2), some (.int v3), some (.int v4), some (.int v5), some (.int v6), some (.int ((oat tr 4 150 v3) + v6)), none, none]) rfl rfl ?_
    refine Ev.s (ins := .aload_n 0) (pc' := 36) rfl rfl ?_
    refine gf_95_3 (cn.2.1 1) rfl rfl ?_
    refine Ev.s (ins := .aload_n 1) (pc' := 40) rfl rfl ?_
    refine Ev.s (ins := .iload_n 2) (pc' := 41) rfl rfl ?_
    refine Ev.s (ins := .iload 6) (pc' := 43) rfl rfl ?_
    refine kc_X3_wayTo_0 rfl oi_61 rfl (Nat.le_of_ble_eq_true rfl) (e_Form_wayTo_61) ?_
    refine kc_X11_has_3 rfl (Nat.le_of_ble_eq_true rfl) (e_Ph_has) ?_
    refine q_beq rfl hk (fun c2 hk => ?_) (fun c2 hk => ?_)
    · refine Ev.s (ins := .aload_n 0) (pc' := 53) rfl rfl ?_
      refine Ev.s (ins := .aload_n 1) (pc' := 54) rfl rfl ?_
      refine Ev.s (ins := .iload 7) (pc' := 56) rfl rfl ?_
      refine kc_X0_knownAt_0 rfl oi_95 rfl (Nat.le_of_ble_eq_true rfl) (e_Constants_knownAt_95_61) ?_
      refine Ev.goto rfl ?_
      exact e_Constants_meet_95_61_63 (lt31 c1) hk
    · refine q_ic 0 rfl rfl ?_
      exact e_Constants_meet_95_61_63 (lt31 c1) hk
  · replace hk := kK_r hk
    refine Ev.s (ins := .aload_n 0) (pc' := 143) rfl rfl ?_
    refine Ev.s (ins := .iload_n 3) (pc' := 144) rfl rfl ?_
    refine Ev.s (ins := .iload 4) (pc' := 146) rfl rfl ?_
    refine Ev.s (ins := .iload 5) (pc' := 148) rfl rfl ?_
    refine kc_X0_rise_0 rfl oi_95 rfl (Nat.le_of_ble_eq_true rfl) (e_Constants_rise_95) ?_
    exact Ev.vret rfl rfl hk
set_option maxRecDepth 100000 in
theorem e_Constants_meet_95_61_L9 {v2 : Int32} {v3 : Int32} {v4 : Int32} {v5 : Int32} {v6 : Int32} {x : Option Value × List mmC} (hk : (kO (fun r : Ob => (none, mh sc rest to fl ma tr mk r nu de ru la tb tf ph cs)) x) (Constants_meet_L9 tr cn v2 v3 v4 v5 v6)) : Ev mmPT tbX0_meet 9 [some (.ref 95), some (.ref 61), some (.int v2), some (.int v3), some (.int v4), some (.int v5), some (.int v6), none, none, none] [] (mh sc rest to fl ma tr mk cn nu de ru la tb tf ph cs) x :=
  k_loop (B := (fun a : Int32 × Int32 × Int32 => Constants_meet_L9b tr cn v2 v3 a.1 a.2.1 a.2.2)) (μ := fun a : Int32 × Int32 × Int32 => mu a.2.2) (E := fun a : Int32 × Int32 × Int32 => Ev mmPT tbX0_meet 9 [some (.ref 95), some (.ref 61), some (.int v2), some (.int v3), some (.int a.1), some (.int a.2.1), some (.int a.2.2), none, none, none] [] (mh sc rest to fl ma tr mk cn nu de ru la tb tf ph cs) x) (X := (kO (fun r : Ob => (none, mh sc rest to fl ma tr mk r nu de ru la tb tf ph cs)) x)) (fun a hk => e_Constants_meet_95_61_L9b hk) (v4, v5, v6) hk
set_option maxRecDepth 100000 in
theorem e_Constants_meet_95_61_0 {v2 : Int32} {v3 : Int32} {x : Option Value × List mmC} (hk : (kO (fun r : Ob => (none, mh sc rest to fl ma tr mk r nu de ru la tb tf ph cs)) x) (Constants_meet tr cn v2 v3)) : Ev mmPT tbX0_meet 0 [some (.ref 95), some (.ref 61), some (.int v2), some (.int v3), none, none, none, none, none, none] [] (mh sc rest to fl ma tr mk cn nu de ru la tb tf ph cs) x := by
  unfold Constants_meet at hk
  refine q_ic 0 rfl rfl ?_
  refine Ev.s (ins := .istore 4) (pc' := 3) (lv' := [some (.ref 95), some (.ref 61), some (.int v2), some (.int v3), some (.int 0), none, none, none, none, none]) rfl rfl ?_
  refine q_ic 0 rfl rfl ?_
  refine Ev.s (ins := .istore 5) (pc' := 6) (lv' := [some (.ref 95), some (.ref 61), some (.int v2), some (.int v3), some (.int 0), some (.int 0), none, none, none, none]) rfl rfl ?_
  refine q_ic 0 rfl rfl ?_
  refine Ev.s (ins := .istore 6) (pc' := 9) (lv' := [some (.ref 95), some (.ref 61), some (.int v2), some (.int v3), some (.int 0), some (.int 0), some (.int 0), none, none, none]) rfl rfl ?_
  exact e_Constants_meet_95_61_L9 hk
set_option maxRecDepth 100000 in
theorem e_Constants_meet_95_61 {v2 : Int32} {v3 : Int32} : Ev mmPT tbX0_meet 0 [some (.ref 95), some (.ref 61), some (.int v2), some (.int v3), none, none, none, none, none, none] [] (mh sc rest to fl ma tr mk cn nu de ru la tb tf ph cs) ((fun r : Ob => (none, mh sc rest to fl ma tr mk r nu de ru la tb tf ph cs)) (Constants_meet tr cn v2 v3)) := e_Constants_meet_95_61_0 (by exact rfl)
set_option maxRecDepth 100000 in
theorem e_Constants_reckon_95_61_74 {v2 : Int32} {x : Option Value × List mmC} (hk : (kO (fun r : Ob => (none, mh sc rest to fl ma tr mk r nu de ru la tb tf ph cs)) x) (Constants_reckon_74 tr cn v2)) : Ev mmPT tbX0_reckon 74 [some (.ref 95), none, some (.int v2), none, none, none, none, none] [] (mh sc rest to fl ma tr mk cn nu de ru la tb tf ph cs) x := by
  unfold Constants_reckon_74 at hk
  refine Ev.s (ins := .aload_n 0) (pc' := 75) rfl rfl ?_
  refine Ev.s (ins := .iload_n 2) (pc' := 76) rfl rfl ?_
  refine q_ic 2 rfl rfl ?_
  refine q_ic 0 rfl rfl ?_
  refine kc_X0_rise_0 rfl oi_95 rfl (Nat.le_of_ble_eq_true rfl) (e_Constants_rise_95) ?_
  refine Ev.goto rfl ?_
  exact Ev.vret rfl rfl hk
set_option maxRecDepth 100000 in
theorem e_Constants_reckon_95_61_84 {v2 : Int32} {v3 : Int32} {v4 : Int32} {v7 : Int32} {x : Option Value × List mmC} (hk : (kO (fun r : Ob => (none, mh sc rest to fl ma tr mk r nu de ru la tb tf ph cs)) x) (Constants_reckon_84 tr cn v2 v3 v4 v7)) : Ev mmPT tbX0_reckon 84 [some (.ref 95), some (.ref 61), some (.int v2), some (.int v3), some (.int v4), none, none, some (.int v7)] [] (mh sc rest to fl ma tr mk cn nu de ru la tb tf ph cs) x := by
  unfold Constants_reckon_84 at hk
  refine Ev.s (ins := .aload_n 0) (pc' := 85) rfl rfl ?_
  refine Ev.s (ins := .iload_n 2) (pc' := 86) rfl rfl ?_
  refine q_ic 1 rfl rfl ?_
  refine Ev.s (ins := .iload_n 3) (pc' := 88) rfl rfl ?_
  refine Ev.s (ins := .aload_n 0) (pc' := 89) rfl rfl ?_
  refine Ev.s (ins := .aload_n 1) (pc' := 90) rfl rfl ?_
  refine Ev.s (ins := .iload 4) (pc' := 92) rfl rfl ?_
  refine kc_X0_numberAt_0 rfl oi_95 rfl (Nat.le_of_ble_eq_true rfl) (e_Constants_numberAt_95_61) ?_
  refine Ev.s (ins := .iload 7) (pc' := 97) rfl rfl ?_
  refine kc_X11_reckoned_3 rfl (Nat.le_of_ble_eq_true rfl) (e_Ph_reckoned) ?_
  refine kc_X0_rise_0 rfl oi_95 rfl (Nat.le_of_ble_eq_true rfl) (e_Constants_rise_95) ?_
  exact Ev.vret rfl rfl hk
set_option maxRecDepth 100000 in
theorem e_Constants_reckon_95_61_0 {v2 : Int32} {v3 : Int32} {x : Option Value × List mmC} (hk : (kO (fun r : Ob => (none, mh sc rest to fl ma tr mk r nu de ru la tb tf ph cs)) x) (Constants_reckon tr cn v2 v3)) : Ev mmPT tbX0_reckon 0 [some (.ref 95), some (.ref 61), some (.int v2), some (.int v3), none, none, none, none] [] (mh sc rest to fl ma tr mk cn nu de ru la tb tf ph cs) x := by
  unfold Constants_reckon at hk
  refine Ev.s (ins := .aload_n 1) (pc' := 1) rfl rfl ?_
  refine gf_61_4 rfl ?_
  refine Ev.s (ins := .iload_n 2) (pc' := 5) rfl rfl ?_
  refine at_70 (oat tr 4 150 v2) rfl (Nat.le_of_ble_eq_true rfl) rfl ?_
  refine Ev.s (ins := .istore 4) (pc' := 10) (lv' := [some (.ref 95), some (.ref 61), some (.int v2), some (.int v3), some (.int (oat tr 4 150 v2)), none, none, none]) rfl rfl ?_
  refine Ev.s (ins := .aload_n 0) (pc' := 11) rfl rfl ?_
  refine Ev.s (ins := .aload_n 1) (pc' := 12) rfl rfl ?_
  refine Ev.s (ins := .iload 4) (pc' := 14) rfl rfl ?_
  refine kc_X0_knownAt_0 rfl oi_95 rfl (Nat.le_of_ble_eq_true rfl) (e_Constants_knownAt_95_61) ?_
  refine Ev.s (ins := .istore 5) (pc' := 19) (lv' := [some (.ref 95), some (.ref 61), some (.int v2), some (.int v3), some (.int (oat tr 4 150 v2)), some (.int (Constants_knownAt tr cn (oat tr 4 150 v2))), none, none]) rfl rfl ?_
  refine Ev.s (ins := .aload_n 0) (pc' := 20) rfl rfl ?_
  refine Ev.s (ins := .aload_n 1) (pc' := 21) rfl rfl ?_
  refine Ev.s (ins := .iload 4) (pc' := 23) rfl rfl ?_
  refine q_ic 1 rfl rfl ?_
  refine Ev.s (ins := .iadd) (pc' := 25) rfl rfl ?_
  refine kc_X0_knownAt_0 rfl oi_95 rfl (Nat.le_of_ble_eq_true rfl) (e_Constants_knownAt_95_61) ?_
  refine Ev.s (ins := .istore 6) (pc' := 30) (lv' := [some (.ref 95), some (.ref 61), some (.int v2), some (.int v3), some (.int (oat tr 4 150 v2)), some (.int (Constants_knownAt tr cn (oat tr 4 150 v2))), some (.int (Constants_knownAt tr cn ((oat tr 4 150 v2) + 1))), none]) rfl rfl ?_
  refine Ev.s (ins := .iload 5) (pc' := 32) rfl rfl ?_
  refine q_eq rfl hk (fun c1 hk => ?_) (fun c1 hk => ?_)
  · exact Ev.vret rfl rfl hk
  · refine Ev.s (ins := .iload 6) (pc' := 37) rfl rfl ?_
    refine q_ne rfl hk (fun c2 hk => ?_) (fun c2 hk => ?_)
    · exact Ev.vret rfl rfl hk
    · refine Ev.s (ins := .aload_n 0) (pc' := 42) rfl rfl ?_
      refine Ev.s (ins := .aload_n 1) (pc' := 43) rfl rfl ?_
      refine Ev.s (ins := .iload 4) (pc' := 45) rfl rfl ?_
      refine q_ic 1 rfl rfl ?_
      refine Ev.s (ins := .iadd) (pc' := 47) rfl rfl ?_
      refine kc_X0_numberAt_0 rfl oi_95 rfl (Nat.le_of_ble_eq_true rfl) (e_Constants_numberAt_95_61) ?_
      refine Ev.s (ins := .istore 7) (pc' := 52) (lv' := [some (.ref 95), some (.ref 61), some (.int v2), some (.int v3), some (.int (oat tr 4 150 v2)), some (.int (Constants_knownAt tr cn (oat tr 4 150 v2))), some (.int (Constants_knownAt tr cn ((oat tr 4 150 v2) + 1))), some (.int (Constants_numberAt tr cn ((oat tr 4 150 v2) + 1)))]) rfl rfl ?_
      refine Ev.s (ins := .iload 5) (pc' := 54) rfl rfl ?_
      refine q_ic 2 rfl rfl ?_
      refine q_ceq rfl hk (fun c3 hk => ?_) (fun c3 hk => ?_)
      · refine Ev.weak [some (.ref 95), none, some (.int v2), none, none, none, none, none] ⟨rfl, rfl, rfl, rfl, rfl, rfl, rfl, rfl, trivial⟩ ?_
        exact e_Constants_reckon_95_61_74 hk
      · refine Ev.s (ins := .iload 6) (pc' := 60) rfl rfl ?_
        refine q_ic 2 rfl rfl ?_
        refine q_ceq rfl hk (fun c4 hk => ?_) (fun c4 hk => ?_)
        · refine Ev.weak [some (.ref 95), none, some (.int v2), none, none, none, none, none] ⟨rfl, rfl, rfl, rfl, rfl, rfl, rfl, rfl, trivial⟩ ?_
          exact e_Constants_reckon_95_61_74 hk
        · refine Ev.s (ins := .iload_n 3) (pc' := 65) rfl rfl ?_
          refine q_ic 4 rfl rfl ?_
          refine q_cne rfl hk (fun c5 hk => ?_) (fun c5 hk => ?_)
          · refine Ev.s (ins := .iload 7) (pc' := 71) rfl rfl ?_
            refine q_ne rfl hk (fun c6 hk => ?_) (fun c6 hk => ?_)
            · refine Ev.weak [some (.ref 95), none, some (.int v2), none, none, none, none, none] ⟨rfl, rfl, rfl, rfl, rfl, rfl, rfl, rfl, trivial⟩ ?_
              exact e_Constants_reckon_95_61_74 hk
            · refine Ev.weak [some (.ref 95), some (.ref 61), some (.int v2), some (.int v3), some (.int (oat tr 4 150 v2)), none, none, some (.int (Constants_numberAt tr cn ((oat tr 4 150 v2) + 1)))] ⟨rfl, rfl, rfl, rfl, rfl, rfl, rfl, rfl, trivial⟩ ?_
              exact e_Constants_reckon_95_61_84 hk
          · refine Ev.weak [some (.ref 95), some (.ref 61), some (.int v2), some (.int v3), some (.int (oat tr 4 150 v2)), none, none, some (.int (Constants_numberAt tr cn ((oat tr 4 150 v2) + 1)))] ⟨rfl, rfl, rfl, rfl, rfl, rfl, rfl, rfl, trivial⟩ ?_
            exact e_Constants_reckon_95_61_84 hk
set_option maxRecDepth 100000 in
theorem e_Constants_reckon_95_61 {v2 : Int32} {v3 : Int32} : Ev mmPT tbX0_reckon 0 [some (.ref 95), some (.ref 61), some (.int v2), some (.int v3), none, none, none, none] [] (mh sc rest to fl ma tr mk cn nu de ru la tb tf ph cs) ((fun r : Ob => (none, mh sc rest to fl ma tr mk r nu de ru la tb tf ph cs)) (Constants_reckon tr cn v2 v3)) := e_Constants_reckon_95_61_0 (by exact rfl)
set_option maxRecDepth 100000 in
theorem e_Constants_visit_95_61_86 {v2 : Int32} {v3 : Int32} {x : Option Value × List mmC} (b2 : v3 < 2147483647) (hk : (kK (fun a : Int32 × Ob => mu a.1) (mu v3) (fun a : Int32 × Ob => Ev mmPT tbX0_visit 2 [some (.ref 95), some (.ref 61), some (.int v2), some (.int a.1), none, none] [] (mh sc rest to fl ma tr mk a.2 nu de ru la tb tf ph cs) x) (kO (fun r : Ob => (none, mh sc rest to fl ma tr mk r nu de ru la tb tf ph cs)) x)) (Constants_visit_86 tr cn v2 v3)) : Ev mmPT tbX0_visit 86 [some (.ref 95), some (.ref 61), some (.int v2), some (.int v3), none, none] [] (mh sc rest to fl ma tr mk cn nu de ru la tb tf ph cs) x := by
  unfold Constants_visit_86 at hk
  refine q_inc 1 [some (.ref 95), some (.ref 61), some (.int v2), some (.int (v3 + 1)), none, none] rfl rfl rfl rfl ?_
  refine Ev.goto rfl ?_
  replace hk := kK_l hk
  exact hk (mu_lt b2)
set_option maxRecDepth 100000 in
theorem e_Constants_visit_95_61_L2b {v2 : Int32} {v3 : Int32} {x : Option Value × List mmC} (hk : (kK (fun a : Int32 × Ob => mu a.1) (mu v3) (fun a : Int32 × Ob => Ev mmPT tbX0_visit 2 [some (.ref 95), some (.ref 61), some (.int v2), some (.int a.1), none, none] [] (mh sc rest to fl ma tr mk a.2 nu de ru la tb tf ph cs) x) (kO (fun r : Ob => (none, mh sc rest to fl ma tr mk r nu de ru la tb tf ph cs)) x)) (Constants_visit_L2b tr cn v2 v3)) : Ev mmPT tbX0_visit 2 [some (.ref 95), some (.ref 61), some (.int v2), some (.int v3), none, none] [] (mh sc rest to fl ma tr mk cn nu de ru la tb tf ph cs) x := by
  unfold Constants_visit_L2b at hk
  refine Ev.s (ins := .iload_n 3) (pc' := 3) rfl rfl ?_
  refine Ev.s (ins := .aload_n 1) (pc' := 4) rfl rfl ?_
  refine gf_61_7 rfl ?_
  refine Ev.s (ins := .iload_n 2) (pc' := 8) rfl rfl ?_
  refine at_76 (oat tr 7 10 v2) rfl (Nat.le_of_ble_eq_true rfl) rfl ?_
  refine q_cge rfl hk (fun c1 hk => ?_) (fun c1 hk => ?_)
  · refine Ev.s (ins := .aload_n 1) (pc' := 15) rfl rfl ?_
    refine Ev.s (ins := .iload_n 2) (pc' := 16) rfl rfl ?_
    refine Ev.s (ins := .iload_n 3) (pc' := 17) rfl rfl ?_
    refine kc_X3_valueIn_0 rfl oi_61 rfl (Nat.le_of_ble_eq_true rfl) (e_Form_valueIn_61) ?_
    refine Ev.s (ins := .istore 4) (pc' := 22) (lv' := [some (.ref 95), some (.ref 61), some (.int v2), some (.int v3), some (.int (Form_valueIn tr v2 v3)), none]) rfl rfl ?_
    refine Ev.s (ins := .aload_n 1) (pc' := 23) rfl rfl ?_
    refine gf_61_0 rfl ?_
    refine Ev.s (ins := .iload 4) (pc' := 28) rfl rfl ?_
    refine at_62 (oat tr 0 140 (Form_valueIn tr v2 v3)) rfl (Nat.le_of_ble_eq_true rfl) rfl ?_
    refine Ev.s (ins := .istore 5) (pc' := 33) (lv' := [some (.ref 95), some (.ref 61), some (.int v2), some (.int v3), some (.int (Form_valueIn tr v2 v3)), some (.int (oat tr 0 140 (Form_valueIn tr v2 v3)))]) rfl rfl ?_
    refine Ev.s (ins := .iload 5) (pc' := 35) rfl rfl ?_
    refine q_bi 9 rfl rfl ?_
    refine q_cne rfl hk (fun c2 hk => ?_) (fun c2 hk => ?_)
    · refine Ev.s (ins := .aload_n 0) (pc' := 41) rfl rfl ?_
      refine Ev.s (ins := .aload_n 1) (pc' := 42) rfl rfl ?_
      refine Ev.s (ins := .iload_n 2) (pc' := 43) rfl rfl ?_
      refine Ev.s (ins := .iload 4) (pc' := 45) rfl rfl ?_
      refine kc_X0_meet_0 rfl oi_95 rfl (Nat.le_of_ble_eq_true rfl) (e_Constants_meet_95_61) ?_
      refine Ev.goto rfl ?_
      refine Ev.weak [some (.ref 95), some (.ref 61), some (.int v2), some (.int v3), none, none] ⟨rfl, rfl, rfl, rfl, rfl, rfl, trivial⟩ ?_
      exact e_Constants_visit_95_61_86 (lt31 c1) hk
    · refine Ev.s (ins := .iload 5) (pc' := 53) rfl rfl ?_
      refine q_bi 6 rfl rfl ?_
      refine q_cne rfl hk (fun c3 hk => ?_) (fun c3 hk => ?_)
      · refine Ev.s (ins := .aload_n 0) (pc' := 59) rfl rfl ?_
        refine Ev.s (ins := .iload 4) (pc' := 61) rfl rfl ?_
        refine q_ic 2 rfl rfl ?_
        refine q_ic 0 rfl rfl ?_
        refine kc_X0_rise_0 rfl oi_95 rfl (Nat.le_of_ble_eq_true rfl) (e_Constants_rise_95) ?_
        refine Ev.goto rfl ?_
        refine Ev.weak [some (.ref 95), some (.ref 61), some (.int v2), some (.int v3), none, none] ⟨rfl, rfl, rfl, rfl, rfl, rfl, trivial⟩ ?_
        exact e_Constants_visit_95_61_86 (lt31 c1) hk
      · refine Ev.s (ins := .iload 5) (pc' := 71) rfl rfl ?_
        refine kc_X11_isReckoning_3 rfl (Nat.le_of_ble_eq_true rfl) (e_Ph_isReckoning) ?_
        refine q_beq rfl hk (fun c4 hk => ?_) (fun c4 hk => ?_)
        · refine Ev.s (ins := .aload_n 0) (pc' := 78) rfl rfl ?_
          refine Ev.s (ins := .aload_n 1) (pc' := 79) rfl rfl ?_
          refine Ev.s (ins := .iload 4) (pc' := 81) rfl rfl ?_
          refine Ev.s (ins := .iload 5) (pc' := 83) rfl rfl ?_
          refine kc_X0_reckon_0 rfl oi_95 rfl (Nat.le_of_ble_eq_true rfl) (e_Constants_reckon_95_61) ?_
          refine Ev.weak [some (.ref 95), some (.ref 61), some (.int v2), some (.int v3), none, none] ⟨rfl, rfl, rfl, rfl, rfl, rfl, trivial⟩ ?_
          exact e_Constants_visit_95_61_86 (lt31 c1) hk
        · refine Ev.weak [some (.ref 95), some (.ref 61), some (.int v2), some (.int v3), none, none] ⟨rfl, rfl, rfl, rfl, rfl, rfl, trivial⟩ ?_
          exact e_Constants_visit_95_61_86 (lt31 c1) hk
  · replace hk := kK_r hk
    exact Ev.vret rfl rfl hk
set_option maxRecDepth 100000 in
theorem e_Constants_visit_95_61_L2 {v2 : Int32} {v3 : Int32} {x : Option Value × List mmC} (hk : (kO (fun r : Ob => (none, mh sc rest to fl ma tr mk r nu de ru la tb tf ph cs)) x) (Constants_visit_L2 tr cn v2 v3)) : Ev mmPT tbX0_visit 2 [some (.ref 95), some (.ref 61), some (.int v2), some (.int v3), none, none] [] (mh sc rest to fl ma tr mk cn nu de ru la tb tf ph cs) x :=
  k_loop (B := (fun a : Int32 × Ob => Constants_visit_L2b tr a.2 v2 a.1)) (μ := fun a : Int32 × Ob => mu a.1) (E := fun a : Int32 × Ob => Ev mmPT tbX0_visit 2 [some (.ref 95), some (.ref 61), some (.int v2), some (.int a.1), none, none] [] (mh sc rest to fl ma tr mk a.2 nu de ru la tb tf ph cs) x) (X := (kO (fun r : Ob => (none, mh sc rest to fl ma tr mk r nu de ru la tb tf ph cs)) x)) (fun a hk => e_Constants_visit_95_61_L2b hk) (v3, cn) hk
set_option maxRecDepth 100000 in
theorem e_Constants_visit_95_61_0 {v2 : Int32} {x : Option Value × List mmC} (hk : (kO (fun r : Ob => (none, mh sc rest to fl ma tr mk r nu de ru la tb tf ph cs)) x) (Constants_visit tr cn v2)) : Ev mmPT tbX0_visit 0 [some (.ref 95), some (.ref 61), some (.int v2), none, none, none] [] (mh sc rest to fl ma tr mk cn nu de ru la tb tf ph cs) x := by
  unfold Constants_visit at hk
  refine q_ic 0 rfl rfl ?_
  refine Ev.s (ins := .istore_n 3) (pc' := 2) (lv' := [some (.ref 95), some (.ref 61), some (.int v2), some (.int 0), none, none]) rfl rfl ?_
  exact e_Constants_visit_95_61_L2 hk
set_option maxRecDepth 100000 in
theorem e_Constants_visit_95_61 {v2 : Int32} : Ev mmPT tbX0_visit 0 [some (.ref 95), some (.ref 61), some (.int v2), none, none, none] [] (mh sc rest to fl ma tr mk cn nu de ru la tb tf ph cs) ((fun r : Ob => (none, mh sc rest to fl ma tr mk r nu de ru la tb tf ph cs)) (Constants_visit tr cn v2)) := e_Constants_visit_95_61_0 (by exact rfl)
set_option maxRecDepth 100000 in
theorem e_Constants_goAlong_95_61_0 {v2 : Int32} {x : Option Value × List mmC} (hk : (kO (fun r : Ob => (none, mh sc rest to fl ma tr mk r nu de ru la tb tf ph cs)) x) (Constants_goAlong tr cn v2)) : Ev mmPT tbX0_goAlong 0 [some (.ref 95), some (.ref 61), some (.int v2), none] [] (mh sc rest to fl ma tr mk cn nu de ru la tb tf ph cs) x := by
  unfold Constants_goAlong at hk
  refine Ev.s (ins := .aload_n 1) (pc' := 1) rfl rfl ?_
  refine gf_61_12 rfl ?_
  refine Ev.s (ins := .iload_n 2) (pc' := 5) rfl rfl ?_
  refine at_86 (oat tr 12 20 v2) rfl (Nat.le_of_ble_eq_true rfl) rfl ?_
  refine Ev.s (ins := .istore_n 3) (pc' := 9) (lv' := [some (.ref 95), some (.ref 61), some (.int v2), some (.int (oat tr 12 20 v2))]) rfl rfl ?_
  refine Ev.s (ins := .aload_n 0) (pc' := 10) rfl rfl ?_
  refine gf_95_3 (cn.2.1 1) rfl rfl ?_
  refine Ev.s (ins := .iload_n 2) (pc' := 14) rfl rfl ?_
  refine kc_X11_has_3 rfl (Nat.le_of_ble_eq_true rfl) (e_Ph_has) ?_
  refine q_bne rfl hk (fun c1 hk => ?_) (fun c1 hk => ?_)
  · exact Ev.vret rfl rfl hk
  · refine Ev.s (ins := .iload_n 3) (pc' := 21) rfl rfl ?_
    refine q_ic (-1) rfl rfl ?_
    refine q_ceq rfl hk (fun c2 hk => ?_) (fun c2 hk => ?_)
    · exact Ev.vret rfl rfl hk
    · refine Ev.s (ins := .aload_n 0) (pc' := 26) rfl rfl ?_
      refine Ev.s (ins := .dup) (pc' := 27) rfl rfl ?_
      refine gf_95_3 (cn.2.1 1) rfl rfl ?_
      refine Ev.s (ins := .iload_n 2) (pc' := 31) rfl rfl ?_
      refine kc_X11_bit_3 rfl (Nat.le_of_ble_eq_true rfl) (e_Ph_bit) ?_
      refine Ev.s (ins := .ior) (pc' := 35) rfl rfl ?_
      refine pf_95_3 ((cn.2.1 1) ||| (Ph_bit v2)) rfl ?_
      refine Ev.s (ins := .aload_n 0) (pc' := 39) rfl rfl ?_
      refine Ev.s (ins := .dup) (pc' := 40) rfl rfl ?_
      refine gf_95_2 (cn.2.1 0) rfl rfl ?_
      refine Ev.s (ins := .iload_n 3) (pc' := 44) rfl rfl ?_
      refine kc_X11_bit_3 rfl (Nat.le_of_ble_eq_true rfl) (e_Ph_bit) ?_
      refine Ev.s (ins := .ior) (pc' := 48) rfl rfl ?_
      refine pf_95_2 ((cn.2.1 0) ||| (Ph_bit (oat tr 12 20 v2))) rfl ?_
      refine Ev.s (ins := .aload_n 0) (pc' := 52) rfl rfl ?_
      refine q_ic 1 rfl rfl ?_
      refine pf_95_4 true rfl ?_
      exact Ev.vret rfl rfl hk
set_option maxRecDepth 100000 in
theorem e_Constants_goAlong_95_61 {v2 : Int32} : Ev mmPT tbX0_goAlong 0 [some (.ref 95), some (.ref 61), some (.int v2), none] [] (mh sc rest to fl ma tr mk cn nu de ru la tb tf ph cs) ((fun r : Ob => (none, mh sc rest to fl ma tr mk r nu de ru la tb tf ph cs)) (Constants_goAlong tr cn v2)) := e_Constants_goAlong_95_61_0 (by exact rfl)
set_option maxRecDepth 100000 in
theorem e_Constants_goOn_95_61_113 {v3 : Int32} {x : Option Value × List mmC} (hk : (kO (fun r : Ob => (none, mh sc rest to fl ma tr mk r nu de ru la tb tf ph cs)) x) (Constants_goOn_113 tr cn v3)) : Ev mmPT tbX0_goOn 113 [some (.ref 95), some (.ref 61), none, some (.int v3), none, none, none, none] [] (mh sc rest to fl ma tr mk cn nu de ru la tb tf ph cs) x := by
  unfold Constants_goOn_113 at hk
  refine Ev.s (ins := .aload_n 0) (pc' := 114) rfl rfl ?_
  refine Ev.s (ins := .aload_n 1) (pc' := 115) rfl rfl ?_
  refine Ev.s (ins := .iload_n 3) (pc' := 116) rfl rfl ?_
  refine q_ic 1 rfl rfl ?_
  refine Ev.s (ins := .iadd) (pc' := 118) rfl rfl ?_
  refine kc_X0_goAlong_0 rfl oi_95 rfl (Nat.le_of_ble_eq_true rfl) (e_Constants_goAlong_95_61) ?_
  exact Ev.vret rfl rfl hk
set_option maxRecDepth 100000 in
theorem e_Constants_goOn_95_61_96 {v3 : Int32} {v6 : Int32} {v7 : Int32} {x : Option Value × List mmC} (hk : (kO (fun r : Ob => (none, mh sc rest to fl ma tr mk r nu de ru la tb tf ph cs)) x) (Constants_goOn_96 tr cn v3 v6 v7)) : Ev mmPT tbX0_goOn 96 [some (.ref 95), some (.ref 61), none, some (.int v3), none, none, some (.int v6), some (.int v7)] [] (mh sc rest to fl ma tr mk cn nu de ru la tb tf ph cs) x := by
  unfold Constants_goOn_96 at hk
  refine Ev.s (ins := .iload 6) (pc' := 98) rfl rfl ?_
  refine q_ic 2 rfl rfl ?_
  refine q_ceq rfl hk (fun c1 hk => ?_) (fun c1 hk => ?_)
  · refine Ev.weak [some (.ref 95), some (.ref 61), none, some (.int v3), none, none, none, none] ⟨rfl, rfl, rfl, rfl, rfl, rfl, rfl, rfl, trivial⟩ ?_
    exact e_Constants_goOn_95_61_113 hk
  · refine Ev.s (ins := .iload 6) (pc' := 104) rfl rfl ?_
    refine q_ic 1 rfl rfl ?_
    refine q_cne rfl hk (fun c2 hk => ?_) (fun c2 hk => ?_)
    · refine Ev.s (ins := .iload 7) (pc' := 110) rfl rfl ?_
      refine q_ne rfl hk (fun c3 hk => ?_) (fun c3 hk => ?_)
      · refine Ev.weak [some (.ref 95), some (.ref 61), none, some (.int v3), none, none, none, none] ⟨rfl, rfl, rfl, rfl, rfl, rfl, rfl, rfl, trivial⟩ ?_
        exact e_Constants_goOn_95_61_113 hk
      · exact Ev.vret rfl rfl hk
    · exact Ev.vret rfl rfl hk
set_option maxRecDepth 100000 in
theorem e_Constants_goOn_95_61_90 {v3 : Int32} {v6 : Int32} {v7 : Int32} {x : Option Value × List mmC} (hk : (kO (fun r : Ob => (none, mh sc rest to fl ma tr mk r nu de ru la tb tf ph cs)) x) (Constants_goOn_90 tr cn v3 v6 v7)) : Ev mmPT tbX0_goOn 90 [some (.ref 95), some (.ref 61), none, some (.int v3), none, none, some (.int v6), some (.int v7)] [] (mh sc rest to fl ma tr mk cn nu de ru la tb tf ph cs) x := by
  unfold Constants_goOn_90 at hk
  refine Ev.s (ins := .aload_n 0) (pc' := 91) rfl rfl ?_
  refine Ev.s (ins := .aload_n 1) (pc' := 92) rfl rfl ?_
  refine Ev.s (ins := .iload_n 3) (pc' := 93) rfl rfl ?_
  refine kc_X0_goAlong_0 rfl oi_95 rfl (Nat.le_of_ble_eq_true rfl) (e_Constants_goAlong_95_61) ?_
  exact e_Constants_goOn_95_61_96 hk
set_option maxRecDepth 100000 in
theorem e_Constants_goOn_95_61_77 {v3 : Int32} {v6 : Int32} {w0 : Int32} {x : Option Value × List mmC} (hk : (kO (fun r : Ob => (none, mh sc rest to fl ma tr mk r nu de ru la tb tf ph cs)) x) (Constants_goOn_77 tr cn v3 v6 w0)) : Ev mmPT tbX0_goOn 77 [some (.ref 95), some (.ref 61), none, some (.int v3), none, none, some (.int v6), none] [.int w0] (mh sc rest to fl ma tr mk cn nu de ru la tb tf ph cs) x := by
  unfold Constants_goOn_77 at hk
  refine Ev.s (ins := .istore 7) (pc' := 79) (lv' := [some (.ref 95), some (.ref 61), none, some (.int v3), none, none, some (.int v6), some (.int w0)]) rfl rfl ?_
  refine Ev.s (ins := .iload 6) (pc' := 81) rfl rfl ?_
  refine q_ic 2 rfl rfl ?_
  refine q_ceq rfl hk (fun c1 hk => ?_) (fun c1 hk => ?_)
  · exact e_Constants_goOn_95_61_90 hk
  · refine Ev.s (ins := .iload 7) (pc' := 87) rfl rfl ?_
    refine q_eq rfl hk (fun c2 hk => ?_) (fun c2 hk => ?_)
    · exact e_Constants_goOn_95_61_96 hk
    · exact e_Constants_goOn_95_61_90 hk
set_option maxRecDepth 100000 in
theorem e_Constants_goOn_95_61_76 {v3 : Int32} {v6 : Int32} {x : Option Value × List mmC} (hk : (kO (fun r : Ob => (none, mh sc rest to fl ma tr mk r nu de ru la tb tf ph cs)) x) (Constants_goOn_76 tr cn v3 v6)) : Ev mmPT tbX0_goOn 76 [some (.ref 95), some (.ref 61), none, some (.int v3), none, none, some (.int v6), none] [] (mh sc rest to fl ma tr mk cn nu de ru la tb tf ph cs) x := by
  unfold Constants_goOn_76 at hk
  refine q_ic 0 rfl rfl ?_
  exact e_Constants_goOn_95_61_77 hk
set_option maxRecDepth 100000 in
theorem e_Constants_goOn_95_61_26 {v2 : Int32} {v3 : Int32} {v4 : Int32} {x : Option Value × List mmC} (hk : (kO (fun r : Ob => (none, mh sc rest to fl ma tr mk r nu de ru la tb tf ph cs)) x) (Constants_goOn_26 tr cn v2 v3 v4)) : Ev mmPT tbX0_goOn 26 [some (.ref 95), some (.ref 61), some (.int v2), some (.int v3), some (.int v4), none, none, none] [] (mh sc rest to fl ma tr mk cn nu de ru la tb tf ph cs) x := by
  unfold Constants_goOn_26 at hk
  refine Ev.s (ins := .iload 4) (pc' := 28) rfl rfl ?_
  refine q_ic 2 rfl rfl ?_
  refine q_ceq rfl hk (fun c1 hk => ?_) (fun c1 hk => ?_)
  · refine Ev.s (ins := .aload_n 1) (pc' := 34) rfl rfl ?_
    refine gf_61_4 rfl ?_
    refine q_si 140 rfl rfl ?_
    refine Ev.s (ins := .iload_n 2) (pc' := 41) rfl rfl ?_
    refine Ev.s (ins := .iadd) (pc' := 42) rfl rfl ?_
    refine at_70 (oat tr 4 150 ((140 : Int32) + v2)) rfl (Nat.le_of_ble_eq_true rfl) rfl ?_
    refine Ev.s (ins := .istore 5) (pc' := 47) (lv' := [some (.ref 95), some (.ref 61), some (.int v2), some (.int v3), some (.int v4), some (.int (oat tr 4 150 ((140 : Int32) + v2))), none, none]) rfl rfl ?_
    refine Ev.s (ins := .aload_n 0) (pc' := 48) rfl rfl ?_
    refine Ev.s (ins := .aload_n 1) (pc' := 49) rfl rfl ?_
    refine Ev.s (ins := .iload 5) (pc' := 51) rfl rfl ?_
    refine kc_X0_knownAt_0 rfl oi_95 rfl (Nat.le_of_ble_eq_true rfl) (e_Constants_knownAt_95_61) ?_
    refine Ev.s (ins := .istore 6) (pc' := 56) (lv' := [some (.ref 95), some (.ref 61), some (.int v2), some (.int v3), some (.int v4), some (.int (oat tr 4 150 ((140 : Int32) + v2))), some (.int (Constants_knownAt tr cn (oat tr 4 150 ((140 : Int32) + v2)))), none]) rfl rfl ?_
    refine Ev.s (ins := .iload 6) (pc' := 58) rfl rfl ?_
    refine q_ic 1 rfl rfl ?_
    refine q_cne rfl hk (fun c2 hk => ?_) (fun c2 hk => ?_)
    · refine Ev.s (ins := .aload_n 0) (pc' := 63) rfl rfl ?_
      refine Ev.s (ins := .aload_n 1) (pc' := 64) rfl rfl ?_
      refine Ev.s (ins := .iload 5) (pc' := 66) rfl rfl ?_
      refine kc_X0_numberAt_0 rfl oi_95 rfl (Nat.le_of_ble_eq_true rfl) (e_Constants_numberAt_95_61) ?_
      refine q_le rfl hk (fun c3 hk => ?_) (fun c3 hk => ?_)
      · refine q_ic 1 rfl rfl ?_
        refine Ev.goto rfl ?_
        refine Ev.weak [some (.ref 95), some (.ref 61), none, some (.int v3), none, none, some (.int (Constants_knownAt tr cn (oat tr 4 150 ((140 : Int32) + v2)))), none] ⟨rfl, rfl, rfl, rfl, rfl, rfl, rfl, rfl, trivial⟩ ?_
        exact e_Constants_goOn_95_61_77 hk
      · refine Ev.weak [some (.ref 95), some (.ref 61), none, some (.int v3), none, none, some (.int (Constants_knownAt tr cn (oat tr 4 150 ((140 : Int32) + v2)))), none] ⟨rfl, rfl, rfl, rfl, rfl, rfl, rfl, rfl, trivial⟩ ?_
        exact e_Constants_goOn_95_61_76 hk
    · refine Ev.weak [some (.ref 95), some (.ref 61), none, some (.int v3), none, none, some (.int (Constants_knownAt tr cn (oat tr 4 150 ((140 : Int32) + v2)))), none] ⟨rfl, rfl, rfl, rfl, rfl, rfl, rfl, rfl, trivial⟩ ?_
      exact e_Constants_goOn_95_61_76 hk
  · exact Ev.vret rfl rfl hk
set_option maxRecDepth 100000 in
theorem e_Constants_goOn_95_61_0 {v2 : Int32} {x : Option Value × List mmC} (hk : (kO (fun r : Ob => (none, mh sc rest to fl ma tr mk r nu de ru la tb tf ph cs)) x) (Constants_goOn tr cn v2)) : Ev mmPT tbX0_goOn 0 [some (.ref 95), some (.ref 61), some (.int v2), none, none, none, none, none] [] (mh sc rest to fl ma tr mk cn nu de ru la tb tf ph cs) x := by
  unfold Constants_goOn at hk
  refine Ev.s (ins := .iload_n 2) (pc' := 1) rfl rfl ?_
  refine q_ic 2 rfl rfl ?_
  refine Ev.s (ins := .imul) (pc' := 3) rfl rfl ?_
  refine Ev.s (ins := .istore_n 3) (pc' := 4) (lv' := [some (.ref 95), some (.ref 61), some (.int v2), some (.int (v2 * 2)), none, none, none, none]) rfl rfl ?_
  refine Ev.s (ins := .aload_n 1) (pc' := 5) rfl rfl ?_
  refine gf_61_11 rfl ?_
  refine Ev.s (ins := .iload_n 2) (pc' := 9) rfl rfl ?_
  refine at_84 (oat tr 11 10 v2) rfl (Nat.le_of_ble_eq_true rfl) rfl ?_
  refine Ev.s (ins := .istore 4) (pc' := 14) (lv' := [some (.ref 95), some (.ref 61), some (.int v2), some (.int (v2 * 2)), some (.int (oat tr 11 10 v2)), none, none, none]) rfl rfl ?_
  refine Ev.s (ins := .iload 4) (pc' := 16) rfl rfl ?_
  refine q_ic 1 rfl rfl ?_
  refine q_cne rfl hk (fun c1 hk => ?_) (fun c1 hk => ?_)
  · refine Ev.s (ins := .aload_n 0) (pc' := 21) rfl rfl ?_
    refine Ev.s (ins := .aload_n 1) (pc' := 22) rfl rfl ?_
    refine Ev.s (ins := .iload_n 3) (pc' := 23) rfl rfl ?_
    refine kc_X0_goAlong_0 rfl oi_95 rfl (Nat.le_of_ble_eq_true rfl) (e_Constants_goAlong_95_61) ?_
    exact e_Constants_goOn_95_61_26 hk
  · exact e_Constants_goOn_95_61_26 hk
set_option maxRecDepth 100000 in
theorem e_Constants_goOn_95_61 {v2 : Int32} : Ev mmPT tbX0_goOn 0 [some (.ref 95), some (.ref 61), some (.int v2), none, none, none, none, none] [] (mh sc rest to fl ma tr mk cn nu de ru la tb tf ph cs) ((fun r : Ob => (none, mh sc rest to fl ma tr mk r nu de ru la tb tf ph cs)) (Constants_goOn tr cn v2)) := e_Constants_goOn_95_61_0 (by exact rfl)
set_option maxRecDepth 100000 in
theorem e_Form_edgeOf_61_L2b {v1 : Int32} {v2 : Int32} {v3 : Int32} {x : Option Value × List mmC} (hk : (kK (fun a : Int32 => mu a) (mu v3) (fun a : Int32 => Ev mmPT tbX3_edgeOf 2 [some (.ref 61), some (.int v1), some (.int v2), some (.int a)] [] (mh sc rest to fl ma tr mk cn nu de ru la tb tf ph cs) x) (kO (fun r : Int32 => (some (.int r), mh sc rest to fl ma tr mk cn nu de ru la tb tf ph cs)) x)) (Form_edgeOf_L2b tr v1 v2 v3)) : Ev mmPT tbX3_edgeOf 2 [some (.ref 61), some (.int v1), some (.int v2), some (.int v3)] [] (mh sc rest to fl ma tr mk cn nu de ru la tb tf ph cs) x := by
  unfold Form_edgeOf_L2b at hk
  refine Ev.s (ins := .iload_n 3) (pc' := 3) rfl rfl ?_
  refine Ev.s (ins := .aload_n 0) (pc' := 4) rfl rfl ?_
  refine gf_61_9 rfl ?_
  refine Ev.s (ins := .iload_n 1) (pc' := 8) rfl rfl ?_
  refine at_80 (oat tr 9 10 v1) rfl (Nat.le_of_ble_eq_true rfl) rfl ?_
  refine q_cge rfl hk (fun c1 hk => ?_) (fun c1 hk => ?_)
  · refine Ev.s (ins := .aload_n 0) (pc' := 15) rfl rfl ?_
    refine gf_61_10 rfl ?_
    refine Ev.s (ins := .iload_n 1) (pc' := 19) rfl rfl ?_
    refine q_bi 20 rfl rfl ?_
    refine Ev.s (ins := .imul) (pc' := 22) rfl rfl ?_
    refine Ev.s (ins := .iload_n 3) (pc' := 23) rfl rfl ?_
    refine Ev.s (ins := .iadd) (pc' := 24) rfl rfl ?_
    refine at_82 (oat tr 10 200 ((v1 * 20) + v3)) rfl (Nat.le_of_ble_eq_true rfl) rfl ?_
    refine Ev.s (ins := .iload_n 2) (pc' := 28) rfl rfl ?_
    refine q_cne rfl hk (fun c2 hk => ?_) (fun c2 hk => ?_)
    · replace hk := kK_r hk
      refine Ev.s (ins := .iload_n 3) (pc' := 32) rfl rfl ?_
      exact Ev.iret rfl rfl hk
    · refine q_inc 1 [some (.ref 61), some (.int v1), some (.int v2), some (.int (v3 + 1))] rfl rfl rfl rfl ?_
      refine Ev.goto rfl ?_
      replace hk := kK_l hk
      exact hk (mu_lt (lt31 c1))
  · replace hk := kK_r hk
    refine q_ic (-1) rfl rfl ?_
    exact Ev.iret rfl rfl hk
set_option maxRecDepth 100000 in
theorem e_Form_edgeOf_61_L2 {v1 : Int32} {v2 : Int32} {v3 : Int32} {x : Option Value × List mmC} (hk : (kO (fun r : Int32 => (some (.int r), mh sc rest to fl ma tr mk cn nu de ru la tb tf ph cs)) x) (Form_edgeOf_L2 tr v1 v2 v3)) : Ev mmPT tbX3_edgeOf 2 [some (.ref 61), some (.int v1), some (.int v2), some (.int v3)] [] (mh sc rest to fl ma tr mk cn nu de ru la tb tf ph cs) x :=
  k_loop (B := (fun a : Int32 => Form_edgeOf_L2b tr v1 v2 a)) (μ := fun a : Int32 => mu a) (E := fun a : Int32 => Ev mmPT tbX3_edgeOf 2 [some (.ref 61), some (.int v1), some (.int v2), some (.int a)] [] (mh sc rest to fl ma tr mk cn nu de ru la tb tf ph cs) x) (X := (kO (fun r : Int32 => (some (.int r), mh sc rest to fl ma tr mk cn nu de ru la tb tf ph cs)) x)) (fun a hk => e_Form_edgeOf_61_L2b hk) v3 hk
set_option maxRecDepth 100000 in
theorem e_Form_edgeOf_61_0 {v1 : Int32} {v2 : Int32} {x : Option Value × List mmC} (hk : (kO (fun r : Int32 => (some (.int r), mh sc rest to fl ma tr mk cn nu de ru la tb tf ph cs)) x) (Form_edgeOf tr v1 v2)) : Ev mmPT tbX3_edgeOf 0 [some (.ref 61), some (.int v1), some (.int v2), none] [] (mh sc rest to fl ma tr mk cn nu de ru la tb tf ph cs) x := by
  unfold Form_edgeOf at hk
  refine q_ic 0 rfl rfl ?_
  refine Ev.s (ins := .istore_n 3) (pc' := 2) (lv' := [some (.ref 61), some (.int v1), some (.int v2), some (.int 0)]) rfl rfl ?_
  exact e_Form_edgeOf_61_L2 hk
set_option maxRecDepth 100000 in
theorem e_Form_edgeOf_61 {v1 : Int32} {v2 : Int32} : Ev mmPT tbX3_edgeOf 0 [some (.ref 61), some (.int v1), some (.int v2), none] [] (mh sc rest to fl ma tr mk cn nu de ru la tb tf ph cs) ((fun r : Int32 => (some (.int r), mh sc rest to fl ma tr mk cn nu de ru la tb tf ph cs)) (Form_edgeOf tr v1 v2)) := e_Form_edgeOf_61_0 (by exact rfl)
set_option maxRecDepth 100000 in
theorem e_Form_dropArgument_61_L33b {v1 : Int32} {v3 : Int32} {v4 : Int32} {v5 : Int32} {x : Option Value × List mmC} (hk : (kK (fun a : Int32 × Ob => mu a.1) (mu v5) (fun a : Int32 × Ob => Ev mmPT tbX3_dropArgument 33 [some (.ref 61), some (.int v1), none, some (.int v3), some (.int v4), some (.int a.1)] [] (mh sc rest to fl ma a.2 mk cn nu de ru la tb tf ph cs) x) (kO (fun r : Ob => (none, mh sc rest to fl ma r mk cn nu de ru la tb tf ph cs)) x)) (Form_dropArgument_L33b tr v1 v3 v4 v5)) : Ev mmPT tbX3_dropArgument 33 [some (.ref 61), some (.int v1), none, some (.int v3), some (.int v4), some (.int v5)] [] (mh sc rest to fl ma tr mk cn nu de ru la tb tf ph cs) x := by
  unfold Form_dropArgument_L33b at hk
  refine Ev.s (ins := .iload 5) (pc' := 35) rfl rfl ?_
  refine Ev.s (ins := .iload_n 3) (pc' := 36) rfl rfl ?_
  refine Ev.s (ins := .iload 4) (pc' := 38) rfl rfl ?_
  refine Ev.s (ins := .iadd) (pc' := 39) rfl rfl ?_
  refine q_cge rfl hk (fun c1 hk => ?_) (fun c1 hk => ?_)
  · refine Ev.s (ins := .aload_n 0) (pc' := 43) rfl rfl ?_
    refine gf_61_5 rfl ?_
    refine Ev.s (ins := .iload 5) (pc' := 48) rfl rfl ?_
    refine Ev.s (ins := .aload_n 0) (pc' := 49) rfl rfl ?_
    refine gf_61_5 rfl ?_
    refine Ev.s (ins := .iload 5) (pc' := 54) rfl rfl ?_
    refine q_ic 1 rfl rfl ?_
    refine Ev.s (ins := .iadd) (pc' := 56) rfl rfl ?_
    refine at_72 (oat tr 5 290 (v5 + 1)) rfl (Nat.le_of_ble_eq_true rfl) rfl ?_
    refine pt_72 rfl (Nat.le_of_ble_eq_true rfl) ?_
    refine Ev.s (ins := .aload_n 0) (pc' := 63) rfl rfl ?_
    refine gf_61_6 rfl ?_
    refine Ev.s (ins := .iload 5) (pc' := 68) rfl rfl ?_
    refine Ev.s (ins := .aload_n 0) (pc' := 69) rfl rfl ?_
    refine gf_61_6 rfl ?_
    refine Ev.s (ins := .iload 5) (pc' := 74) rfl rfl ?_
    refine q_ic 1 rfl rfl ?_
    refine Ev.s (ins := .iadd) (pc' := 76) rfl rfl ?_
    refine at_74 (oat tr 6 290 (v5 + 1)) rfl (Nat.le_of_ble_eq_true rfl) rfl ?_
    refine pt_74 rfl (Nat.le_of_ble_eq_true rfl) ?_
    refine q_inc 1 [some (.ref 61), some (.int v1), none, some (.int v3), some (.int v4), some (.int (v5 + 1))] rfl rfl rfl rfl ?_
    refine Ev.goto rfl ?_
    replace hk := kK_l hk
    exact hk (mu_lt (lt31 c1))
  · replace hk := kK_r hk
    refine Ev.s (ins := .aload_n 0) (pc' := 89) rfl rfl ?_
    refine gf_61_3 rfl ?_
    refine Ev.s (ins := .iload_n 1) (pc' := 93) rfl rfl ?_
    refine Ev.s (ins := .iload 4) (pc' := 95) rfl rfl ?_
    refine pt_68 rfl (Nat.le_of_ble_eq_true rfl) ?_
    exact Ev.vret rfl rfl hk
set_option maxRecDepth 100000 in
theorem e_Form_dropArgument_61_L33 {v1 : Int32} {v3 : Int32} {v4 : Int32} {v5 : Int32} {x : Option Value × List mmC} (hk : (kO (fun r : Ob => (none, mh sc rest to fl ma r mk cn nu de ru la tb tf ph cs)) x) (Form_dropArgument_L33 tr v1 v3 v4 v5)) : Ev mmPT tbX3_dropArgument 33 [some (.ref 61), some (.int v1), none, some (.int v3), some (.int v4), some (.int v5)] [] (mh sc rest to fl ma tr mk cn nu de ru la tb tf ph cs) x :=
  k_loop (B := (fun a : Int32 × Ob => Form_dropArgument_L33b a.2 v1 v3 v4 a.1)) (μ := fun a : Int32 × Ob => mu a.1) (E := fun a : Int32 × Ob => Ev mmPT tbX3_dropArgument 33 [some (.ref 61), some (.int v1), none, some (.int v3), some (.int v4), some (.int a.1)] [] (mh sc rest to fl ma a.2 mk cn nu de ru la tb tf ph cs) x) (X := (kO (fun r : Ob => (none, mh sc rest to fl ma r mk cn nu de ru la tb tf ph cs)) x)) (fun a hk => e_Form_dropArgument_61_L33b hk) (v5, tr) hk
set_option maxRecDepth 100000 in
theorem e_Form_dropArgument_61_0 {v1 : Int32} {v2 : Int32} {x : Option Value × List mmC} (hk : (kO (fun r : Ob => (none, mh sc rest to fl ma r mk cn nu de ru la tb tf ph cs)) x) (Form_dropArgument tr v1 v2)) : Ev mmPT tbX3_dropArgument 0 [some (.ref 61), some (.int v1), some (.int v2), none, none, none] [] (mh sc rest to fl ma tr mk cn nu de ru la tb tf ph cs) x := by
  unfold Form_dropArgument at hk
  refine Ev.s (ins := .aload_n 0) (pc' := 1) rfl rfl ?_
  refine gf_61_4 rfl ?_
  refine Ev.s (ins := .iload_n 1) (pc' := 5) rfl rfl ?_
  refine at_70 (oat tr 4 150 v1) rfl (Nat.le_of_ble_eq_true rfl) rfl ?_
  refine Ev.s (ins := .istore_n 3) (pc' := 9) (lv' := [some (.ref 61), some (.int v1), some (.int v2), some (.int (oat tr 4 150 v1)), none, none]) rfl rfl ?_
  refine Ev.s (ins := .aload_n 0) (pc' := 10) rfl rfl ?_
  refine gf_61_3 rfl ?_
  refine Ev.s (ins := .iload_n 1) (pc' := 14) rfl rfl ?_
  refine at_68 (oat tr 3 150 v1) rfl (Nat.le_of_ble_eq_true rfl) rfl ?_
  refine q_ic 1 rfl rfl ?_
  refine Ev.s (ins := .isub) (pc' := 19) rfl rfl ?_
  refine Ev.s (ins := .istore 4) (pc' := 21) (lv' := [some (.ref 61), some (.int v1), some (.int v2), some (.int (oat tr 4 150 v1)), some (.int ((oat tr 3 150 v1) - 1)), none]) rfl rfl ?_
  refine Ev.s (ins := .iload_n 2) (pc' := 22) rfl rfl ?_
  refine Ev.s (ins := .iload 4) (pc' := 24) rfl rfl ?_
  refine q_cle rfl hk (fun c1 hk => ?_) (fun c1 hk => ?_)
  · exact Ev.vret rfl rfl hk
  · refine Ev.s (ins := .iload_n 3) (pc' := 29) rfl rfl ?_
    refine Ev.s (ins := .iload_n 2) (pc' := 30) rfl rfl ?_
    refine Ev.s (ins := .iadd) (pc' := 31) rfl rfl ?_
    refine Ev.s (ins := .istore 5) (pc' := 33) (lv' := [some (.ref 61), some (.int v1), some (.int v2), some (.int (oat tr 4 150 v1)), some (.int ((oat tr 3 150 v1) - 1)), some (.int ((oat tr 4 150 v1) + v2))]) rfl rfl ?_
    refine Ev.weak [some (.ref 61), some (.int v1), none, some (.int (oat tr 4 150 v1)), some (.int ((oat tr 3 150 v1) - 1)), some (.int ((oat tr 4 150 v1) + v2))] ⟨rfl, rfl, rfl, rfl, rfl, rfl, trivial⟩ ?_
    exact e_Form_dropArgument_61_L33 hk
set_option maxRecDepth 100000 in
theorem e_Form_dropArgument_61 {v1 : Int32} {v2 : Int32} : Ev mmPT tbX3_dropArgument 0 [some (.ref 61), some (.int v1), some (.int v2), none, none, none] [] (mh sc rest to fl ma tr mk cn nu de ru la tb tf ph cs) ((fun r : Ob => (none, mh sc rest to fl ma r mk cn nu de ru la tb tf ph cs)) (Form_dropArgument tr v1 v2)) := e_Form_dropArgument_61_0 (by exact rfl)
set_option maxRecDepth 100000 in
theorem e_Form_dropEdge_61_77 {v1 : Int32} {v2 : Int32} {v3 : Int32} {v4 : Int32} {x : Option Value × List mmC} (b34 : v4 < 2147483647) (hk : (kK (fun a : Int32 × Ob => mu a.1) (mu v4) (fun a : Int32 × Ob => Ev mmPT tbX3_dropEdge 34 [some (.ref 61), some (.int v1), some (.int v2), some (.int v3), some (.int a.1), none, none] [] (mh sc rest to fl ma a.2 mk cn nu de ru la tb tf ph cs) x) (kO (fun r : Ob => (none, mh sc rest to fl ma r mk cn nu de ru la tb tf ph cs)) x)) (Form_dropEdge_77 tr v1 v2 v3 v4)) : Ev mmPT tbX3_dropEdge 77 [some (.ref 61), some (.int v1), some (.int v2), some (.int v3), some (.int v4), none, none] [] (mh sc rest to fl ma tr mk cn nu de ru la tb tf ph cs) x := by
  unfold Form_dropEdge_77 at hk
  refine q_inc 1 [some (.ref 61), some (.int v1), some (.int v2), some (.int v3), some (.int (v4 + 1)), none, none] rfl rfl rfl rfl ?_
  refine Ev.goto rfl ?_
  replace hk := kK_l hk
  exact hk (mu_lt b34)
set_option maxRecDepth 100000 in
theorem e_Form_dropEdge_61_L104b {v1 : Int32} {v2 : Int32} {v4 : Int32} {v5 : Int32} {v6 : Int32} {x : Option Value × List mmC} (hk : (kK (fun a : Int32 × Ob => mu a.1) (mu v6) (fun a : Int32 × Ob => Ev mmPT tbX3_dropEdge 104 [some (.ref 61), some (.int v1), some (.int v2), none, some (.int v4), some (.int v5), some (.int a.1)] [] (mh sc rest to fl ma a.2 mk cn nu de ru la tb tf ph cs) x) (kO (fun r : Ob => (none, mh sc rest to fl ma r mk cn nu de ru la tb tf ph cs)) x)) (Form_dropEdge_L104b tr v1 v2 v4 v5 v6)) : Ev mmPT tbX3_dropEdge 104 [some (.ref 61), some (.int v1), some (.int v2), none, some (.int v4), some (.int v5), some (.int v6)] [] (mh sc rest to fl ma tr mk cn nu de ru la tb tf ph cs) x := by
  unfold Form_dropEdge_L104b at hk
  refine Ev.s (ins := .iload 6) (pc' := 106) rfl rfl ?_
  refine Ev.s (ins := .iload 5) (pc' := 108) rfl rfl ?_
  refine q_cge rfl hk (fun c1 hk => ?_) (fun c1 hk => ?_)
  · refine Ev.s (ins := .aload_n 0) (pc' := 112) rfl rfl ?_
    refine gf_61_10 rfl ?_
    refine Ev.s (ins := .iload 4) (pc' := 117) rfl rfl ?_
    refine Ev.s (ins := .iload 6) (pc' := 119) rfl rfl ?_
    refine Ev.s (ins := .iadd) (pc' := 120) rfl rfl ?_
    refine Ev.s (ins := .aload_n 0) (pc' := 121) rfl rfl ?_
    refine gf_61_10 rfl ?_
    refine Ev.s (ins := .iload 4) (pc' := 126) rfl rfl ?_
    refine Ev.s (ins := .iload 6) (pc' := 128) rfl rfl ?_
    refine Ev.s (ins := .iadd) (pc' := 129) rfl rfl ?_
    refine q_ic 1 rfl rfl ?_
    refine Ev.s (ins := .iadd) (pc' := 131) rfl rfl ?_
    refine at_82 (oat tr 10 200 ((v4 + v6) + 1)) rfl (Nat.le_of_ble_eq_true rfl) rfl ?_
    refine pt_82 rfl (Nat.le_of_ble_eq_true rfl) ?_
    refine q_inc 1 [some (.ref 61), some (.int v1), some (.int v2), none, some (.int v4), some (.int v5), some (.int (v6 + 1))] rfl rfl rfl rfl ?_
    refine Ev.goto rfl ?_
    replace hk := kK_l hk
    exact hk (mu_lt (lt31 c1))
  · replace hk := kK_r hk
    refine Ev.s (ins := .aload_n 0) (pc' := 144) rfl rfl ?_
    refine gf_61_9 rfl ?_
    refine Ev.s (ins := .iload_n 2) (pc' := 148) rfl rfl ?_
    refine Ev.s (ins := .iload 5) (pc' := 150) rfl rfl ?_
    refine pt_80 rfl (Nat.le_of_ble_eq_true rfl) ?_
    refine Ev.s (ins := .aload_n 0) (pc' := 154) rfl rfl ?_
    refine gf_61_12 rfl ?_
    refine Ev.s (ins := .iload_n 1) (pc' := 158) rfl rfl ?_
    refine q_ic (-1) rfl rfl ?_
    refine pt_86 rfl (Nat.le_of_ble_eq_true rfl) ?_
    exact Ev.vret rfl rfl hk
set_option maxRecDepth 100000 in
theorem e_Form_dropEdge_61_L104 {v1 : Int32} {v2 : Int32} {v4 : Int32} {v5 : Int32} {v6 : Int32} {x : Option Value × List mmC} (hk : (kO (fun r : Ob => (none, mh sc rest to fl ma r mk cn nu de ru la tb tf ph cs)) x) (Form_dropEdge_L104 tr v1 v2 v4 v5 v6)) : Ev mmPT tbX3_dropEdge 104 [some (.ref 61), some (.int v1), some (.int v2), none, some (.int v4), some (.int v5), some (.int v6)] [] (mh sc rest to fl ma tr mk cn nu de ru la tb tf ph cs) x :=
  k_loop (B := (fun a : Int32 × Ob => Form_dropEdge_L104b a.2 v1 v2 v4 v5 a.1)) (μ := fun a : Int32 × Ob => mu a.1) (E := fun a : Int32 × Ob => Ev mmPT tbX3_dropEdge 104 [some (.ref 61), some (.int v1), some (.int v2), none, some (.int v4), some (.int v5), some (.int a.1)] [] (mh sc rest to fl ma a.2 mk cn nu de ru la tb tf ph cs) x) (X := (kO (fun r : Ob => (none, mh sc rest to fl ma r mk cn nu de ru la tb tf ph cs)) x)) (fun a hk => e_Form_dropEdge_61_L104b hk) (v6, tr) hk
set_option maxRecDepth 100000 in
theorem e_Form_dropEdge_61_L34b {v1 : Int32} {v2 : Int32} {v3 : Int32} {v4 : Int32} {x : Option Value × List mmC} (hk : (kK (fun a : Int32 × Ob => mu a.1) (mu v4) (fun a : Int32 × Ob => Ev mmPT tbX3_dropEdge 34 [some (.ref 61), some (.int v1), some (.int v2), some (.int v3), some (.int a.1), none, none] [] (mh sc rest to fl ma a.2 mk cn nu de ru la tb tf ph cs) x) (kO (fun r : Ob => (none, mh sc rest to fl ma r mk cn nu de ru la tb tf ph cs)) x)) (Form_dropEdge_L34b tr v1 v2 v3 v4)) : Ev mmPT tbX3_dropEdge 34 [some (.ref 61), some (.int v1), some (.int v2), some (.int v3), some (.int v4), none, none] [] (mh sc rest to fl ma tr mk cn nu de ru la tb tf ph cs) x := by
  unfold Form_dropEdge_L34b at hk
  refine Ev.s (ins := .iload 4) (pc' := 36) rfl rfl ?_
  refine Ev.s (ins := .aload_n 0) (pc' := 37) rfl rfl ?_
  refine gf_61_7 rfl ?_
  refine Ev.s (ins := .iload_n 2) (pc' := 41) rfl rfl ?_
  refine at_76 (oat tr 7 10 v2) rfl (Nat.le_of_ble_eq_true rfl) rfl ?_
  refine q_cge rfl hk (fun c1 hk => ?_) (fun c1 hk => ?_)
  · refine Ev.s (ins := .aload_n 0) (pc' := 48) rfl rfl ?_
    refine Ev.s (ins := .iload_n 2) (pc' := 49) rfl rfl ?_
    refine Ev.s (ins := .iload 4) (pc' := 51) rfl rfl ?_
    refine kc_X3_valueIn_0 rfl oi_61 rfl (Nat.le_of_ble_eq_true rfl) (e_Form_valueIn_61) ?_
    refine Ev.s (ins := .istore 5) (pc' := 56) (lv' := [some (.ref 61), some (.int v1), some (.int v2), some (.int v3), some (.int v4), some (.int (Form_valueIn tr v2 v4)), none]) rfl rfl ?_
    refine Ev.s (ins := .aload_n 0) (pc' := 57) rfl rfl ?_
    refine gf_61_0 rfl ?_
    refine Ev.s (ins := .iload 5) (pc' := 62) rfl rfl ?_
    refine at_62 (oat tr 0 140 (Form_valueIn tr v2 v4)) rfl (Nat.le_of_ble_eq_true rfl) rfl ?_
    refine q_bi 9 rfl rfl ?_
    refine q_cne rfl hk (fun c2 hk => ?_) (fun c2 hk => ?_)
    · refine Ev.s (ins := .aload_n 0) (pc' := 71) rfl rfl ?_
      refine Ev.s (ins := .iload 5) (pc' := 73) rfl rfl ?_
      refine Ev.s (ins := .iload_n 3) (pc' := 74) rfl rfl ?_
      refine kc_X3_dropArgument_0 rfl oi_61 rfl (Nat.le_of_ble_eq_true rfl) (e_Form_dropArgument_61) ?_
      refine Ev.weak [some (.ref 61), some (.int v1), some (.int v2), some (.int v3), some (.int v4), none, none] ⟨rfl, rfl, rfl, rfl, rfl, rfl, rfl, trivial⟩ ?_
      exact e_Form_dropEdge_61_77 (lt31 c1) hk
    · refine Ev.weak [some (.ref 61), some (.int v1), some (.int v2), some (.int v3), some (.int v4), none, none] ⟨rfl, rfl, rfl, rfl, rfl, rfl, rfl, trivial⟩ ?_
      exact e_Form_dropEdge_61_77 (lt31 c1) hk
  · replace hk := kK_r hk
    refine Ev.s (ins := .iload_n 2) (pc' := 84) rfl rfl ?_
    refine q_bi 20 rfl rfl ?_
    refine Ev.s (ins := .imul) (pc' := 87) rfl rfl ?_
    refine Ev.s (ins := .istore 4) (pc' := 89) (lv' := [some (.ref 61), some (.int v1), some (.int v2), some (.int v3), some (.int (v2 * 20)), none, none]) rfl rfl ?_
    refine Ev.s (ins := .aload_n 0) (pc' := 90) rfl rfl ?_
    refine gf_61_9 rfl ?_
    refine Ev.s (ins := .iload_n 2) (pc' := 94) rfl rfl ?_
    refine at_80 (oat tr 9 10 v2) rfl (Nat.le_of_ble_eq_true rfl) rfl ?_
    refine q_ic 1 rfl rfl ?_
    refine Ev.s (ins := .isub) (pc' := 99) rfl rfl ?_
    refine Ev.s (ins := .istore 5) (pc' := 101) (lv' := [some (.ref 61), some (.int v1), some (.int v2), some (.int v3), some (.int (v2 * 20)), some (.int ((oat tr 9 10 v2) - 1)), none]) rfl rfl ?_
    refine Ev.s (ins := .iload_n 3) (pc' := 102) rfl rfl ?_
    refine Ev.s (ins := .istore 6) (pc' := 104) (lv' := [some (.ref 61), some (.int v1), some (.int v2), some (.int v3), some (.int (v2 * 20)), some (.int ((oat tr 9 10 v2) - 1)), some (.int v3)]) rfl rfl ?_
    refine Ev.weak [some (.ref 61), some (.int v1), some (.int v2), none, some (.int (v2 * 20)), some (.int ((oat tr 9 10 v2) - 1)), some (.int v3)] ⟨rfl, rfl, rfl, rfl, rfl, rfl, rfl, trivial⟩ ?_
    exact e_Form_dropEdge_61_L104 hk
set_option maxRecDepth 100000 in
theorem e_Form_dropEdge_61_L34 {v1 : Int32} {v2 : Int32} {v3 : Int32} {v4 : Int32} {x : Option Value × List mmC} (hk : (kO (fun r : Ob => (none, mh sc rest to fl ma r mk cn nu de ru la tb tf ph cs)) x) (Form_dropEdge_L34 tr v1 v2 v3 v4)) : Ev mmPT tbX3_dropEdge 34 [some (.ref 61), some (.int v1), some (.int v2), some (.int v3), some (.int v4), none, none] [] (mh sc rest to fl ma tr mk cn nu de ru la tb tf ph cs) x :=
  k_loop (B := (fun a : Int32 × Ob => Form_dropEdge_L34b a.2 v1 v2 v3 a.1)) (μ := fun a : Int32 × Ob => mu a.1) (E := fun a : Int32 × Ob => Ev mmPT tbX3_dropEdge 34 [some (.ref 61), some (.int v1), some (.int v2), some (.int v3), some (.int a.1), none, none] [] (mh sc rest to fl ma a.2 mk cn nu de ru la tb tf ph cs) x) (X := (kO (fun r : Ob => (none, mh sc rest to fl ma r mk cn nu de ru la tb tf ph cs)) x)) (fun a hk => e_Form_dropEdge_61_L34b hk) (v4, tr) hk
set_option maxRecDepth 100000 in
theorem e_Form_dropEdge_61_24 {v1 : Int32} {v2 : Int32} {w0 : Int32} {x : Option Value × List mmC} (hk : (kO (fun r : Ob => (none, mh sc rest to fl ma r mk cn nu de ru la tb tf ph cs)) x) (Form_dropEdge_24 tr v1 v2 w0)) : Ev mmPT tbX3_dropEdge 24 [some (.ref 61), some (.int v1), some (.int v2), none, none, none, none] [.int w0] (mh sc rest to fl ma tr mk cn nu de ru la tb tf ph cs) x := by
  unfold Form_dropEdge_24 at hk
  refine Ev.s (ins := .istore_n 3) (pc' := 25) (lv' := [some (.ref 61), some (.int v1), some (.int v2), some (.int w0), none, none, none]) rfl rfl ?_
  refine Ev.s (ins := .iload_n 3) (pc' := 26) rfl rfl ?_
  refine q_ic (-1) rfl rfl ?_
  refine q_cne rfl hk (fun c1 hk => ?_) (fun c1 hk => ?_)
  · exact Ev.vret rfl rfl hk
  · refine q_ic 0 rfl rfl ?_
    refine Ev.s (ins := .istore 4) (pc' := 34) (lv' := [some (.ref 61), some (.int v1), some (.int v2), some (.int w0), some (.int 0), none, none]) rfl rfl ?_
    exact e_Form_dropEdge_61_L34 hk
set_option maxRecDepth 100000 in
theorem e_Form_dropEdge_61_0 {v1 : Int32} {x : Option Value × List mmC} (hk : (kO (fun r : Ob => (none, mh sc rest to fl ma r mk cn nu de ru la tb tf ph cs)) x) (Form_dropEdge tr v1)) : Ev mmPT tbX3_dropEdge 0 [some (.ref 61), some (.int v1), none, none, none, none, none] [] (mh sc rest to fl ma tr mk cn nu de ru la tb tf ph cs) x := by
  unfold Form_dropEdge at hk
  refine Ev.s (ins := .aload_n 0) (pc' := 1) rfl rfl ?_
  refine gf_61_12 rfl ?_
  refine Ev.s (ins := .iload_n 1) (pc' := 5) rfl rfl ?_
  refine at_86 (oat tr 12 20 v1) rfl (Nat.le_of_ble_eq_true rfl) rfl ?_
  refine Ev.s (ins := .istore_n 2) (pc' := 9) (lv' := [some (.ref 61), some (.int v1), some (.int (oat tr 12 20 v1)), none, none, none, none]) rfl rfl ?_
  refine Ev.s (ins := .iload_n 2) (pc' := 10) rfl rfl ?_
  refine q_ic (-1) rfl rfl ?_
  refine q_cne rfl hk (fun c1 hk => ?_) (fun c1 hk => ?_)
  · refine q_ic (-1) rfl rfl ?_
    refine Ev.goto rfl ?_
    exact e_Form_dropEdge_61_24 hk
  · refine Ev.s (ins := .aload_n 0) (pc' := 19) rfl rfl ?_
    refine Ev.s (ins := .iload_n 2) (pc' := 20) rfl rfl ?_
    refine Ev.s (ins := .iload_n 1) (pc' := 21) rfl rfl ?_
    refine kc_X3_edgeOf_0 rfl oi_61 rfl (Nat.le_of_ble_eq_true rfl) (e_Form_edgeOf_61) ?_
    exact e_Form_dropEdge_61_24 hk
set_option maxRecDepth 100000 in
theorem e_Form_dropEdge_61 {v1 : Int32} : Ev mmPT tbX3_dropEdge 0 [some (.ref 61), some (.int v1), none, none, none, none, none] [] (mh sc rest to fl ma tr mk cn nu de ru la tb tf ph cs) ((fun r : Ob => (none, mh sc rest to fl ma r mk cn nu de ru la tb tf ph cs)) (Form_dropEdge tr v1)) := e_Form_dropEdge_61_0 (by exact rfl)
set_option maxRecDepth 100000 in
theorem e_Form_changeWay_61_24 {v1 : Int32} {v2 : Int32} {v3 : Int32} {w0 : Int32} {x : Option Value × List mmC} (hk : (kO (fun r : Ob => (none, mh sc rest to fl ma r mk cn nu de ru la tb tf ph cs)) x) (Form_changeWay_24 tr v1 v2 v3 w0)) : Ev mmPT tbX3_changeWay 24 [some (.ref 61), some (.int v1), some (.int v2), some (.int v3), none] [.int w0] (mh sc rest to fl ma tr mk cn nu de ru la tb tf ph cs) x := by
  unfold Form_changeWay_24 at hk
  refine Ev.s (ins := .istore 4) (pc' := 26) (lv' := [some (.ref 61), some (.int v1), some (.int v2), some (.int v3), some (.int w0)]) rfl rfl ?_
  refine Ev.s (ins := .iload 4) (pc' := 28) rfl rfl ?_
  refine q_ic (-1) rfl rfl ?_
  refine q_ceq rfl hk (fun c1 hk => ?_) (fun c1 hk => ?_)
  · exact Ev.vret rfl rfl hk
  · refine Ev.s (ins := .iload_n 1) (pc' := 33) rfl rfl ?_
    refine Ev.s (ins := .iload_n 2) (pc' := 34) rfl rfl ?_
    refine q_cne rfl hk (fun c2 hk => ?_) (fun c2 hk => ?_)
    · exact Ev.vret rfl rfl hk
    · refine Ev.s (ins := .aload_n 0) (pc' := 39) rfl rfl ?_
      refine gf_61_10 rfl ?_
      refine Ev.s (ins := .iload_n 3) (pc' := 43) rfl rfl ?_
      refine q_bi 20 rfl rfl ?_
      refine Ev.s (ins := .imul) (pc' := 46) rfl rfl ?_
      refine Ev.s (ins := .iload 4) (pc' := 48) rfl rfl ?_
      refine Ev.s (ins := .iadd) (pc' := 49) rfl rfl ?_
      refine Ev.s (ins := .iload_n 2) (pc' := 50) rfl rfl ?_
      refine pt_82 rfl (Nat.le_of_ble_eq_true rfl) ?_
      refine Ev.s (ins := .aload_n 0) (pc' := 54) rfl rfl ?_
      refine gf_61_12 rfl ?_
      refine Ev.s (ins := .iload_n 2) (pc' := 58) rfl rfl ?_
      refine Ev.s (ins := .iload_n 3) (pc' := 59) rfl rfl ?_
      refine pt_86 rfl (Nat.le_of_ble_eq_true rfl) ?_
      refine Ev.s (ins := .aload_n 0) (pc' := 63) rfl rfl ?_
      refine gf_61_12 rfl ?_
      refine Ev.s (ins := .iload_n 1) (pc' := 67) rfl rfl ?_
      refine q_ic (-1) rfl rfl ?_
      refine pt_86 rfl (Nat.le_of_ble_eq_true rfl) ?_
      exact Ev.vret rfl rfl hk
set_option maxRecDepth 100000 in
theorem e_Form_changeWay_61_0 {v1 : Int32} {v2 : Int32} {x : Option Value × List mmC} (hk : (kO (fun r : Ob => (none, mh sc rest to fl ma r mk cn nu de ru la tb tf ph cs)) x) (Form_changeWay tr v1 v2)) : Ev mmPT tbX3_changeWay 0 [some (.ref 61), some (.int v1), some (.int v2), none, none] [] (mh sc rest to fl ma tr mk cn nu de ru la tb tf ph cs) x := by
  unfold Form_changeWay at hk
  refine Ev.s (ins := .aload_n 0) (pc' := 1) rfl rfl ?_
  refine gf_61_12 rfl ?_
  refine Ev.s (ins := .iload_n 1) (pc' := 5) rfl rfl ?_
  refine at_86 (oat tr 12 20 v1) rfl (Nat.le_of_ble_eq_true rfl) rfl ?_
  refine Ev.s (ins := .istore_n 3) (pc' := 9) (lv' := [some (.ref 61), some (.int v1), some (.int v2), some (.int (oat tr 12 20 v1)), none]) rfl rfl ?_
  refine Ev.s (ins := .iload_n 3) (pc' := 10) rfl rfl ?_
  refine q_ic (-1) rfl rfl ?_
  refine q_cne rfl hk (fun c1 hk => ?_) (fun c1 hk => ?_)
  · refine q_ic (-1) rfl rfl ?_
    refine Ev.goto rfl ?_
    exact e_Form_changeWay_61_24 hk
  · refine Ev.s (ins := .aload_n 0) (pc' := 19) rfl rfl ?_
    refine Ev.s (ins := .iload_n 3) (pc' := 20) rfl rfl ?_
    refine Ev.s (ins := .iload_n 1) (pc' := 21) rfl rfl ?_
    refine kc_X3_edgeOf_0 rfl oi_61 rfl (Nat.le_of_ble_eq_true rfl) (e_Form_edgeOf_61) ?_
    exact e_Form_changeWay_61_24 hk
set_option maxRecDepth 100000 in
theorem e_Form_changeWay_61 {v1 : Int32} {v2 : Int32} : Ev mmPT tbX3_changeWay 0 [some (.ref 61), some (.int v1), some (.int v2), none, none] [] (mh sc rest to fl ma tr mk cn nu de ru la tb tf ph cs) ((fun r : Ob => (none, mh sc rest to fl ma r mk cn nu de ru la tb tf ph cs)) (Form_changeWay tr v1 v2)) := e_Form_changeWay_61_0 (by exact rfl)
end RF5
