/-! THE RUNS ARE THE FUNCTIONS, by program: 9 -/
section RF8
variable {sc : mmC} {rest : List mmC} {to fl ma tr mk cn nu de ru la tb tf ph : Ob} {cs : Int64}
set_option maxRecDepth 100000 in
theorem e_Tape_begin_k_126_0 {x : Option Value × List mmC} (hk : (kO (fun r : Ob => (none, mh sc rest to fl ma tr mk cn nu de ru la r tf ph cs)) x) (Tape_begin_k tb)) : Ev mmPT tbX9_begin 0 [some (.ref 126)] [] (mh sc rest to fl ma tr mk cn nu de ru la tb tf ph cs) x := by
  unfold Tape_begin_k at hk
  refine Ev.s (ins := .aload_n 0) (pc' := 1) rfl rfl ?_
  refine gf_126_1 rfl ?_
  refine q_ic 0 rfl rfl ?_
  refine fl_127 rfl (Nat.le_of_ble_eq_true rfl) ?_
  refine Ev.s (ins := .aload_n 0) (pc' := 9) rfl rfl ?_
  refine q_ic 1 rfl rfl ?_
  refine pf_126_2 true rfl ?_
  refine Ev.s (ins := .aload_n 0) (pc' := 14) rfl rfl ?_
  refine q_ic 0 rfl rfl ?_
  refine pf_126_3 0 rfl ?_
  refine Ev.s (ins := .aload_n 0) (pc' := 19) rfl rfl ?_
  refine q_ic 0 rfl rfl ?_
  refine pf_126_4 0 rfl ?_
  refine Ev.s (ins := .aload_n 0) (pc' := 24) rfl rfl ?_
  refine q_ic 0 rfl rfl ?_
  refine pf_126_5 0 rfl ?_
  refine Ev.s (ins := .aload_n 0) (pc' := 29) rfl rfl ?_
  refine q_ic 0 rfl rfl ?_
  refine pf_126_6 0 rfl ?_
  refine Ev.s (ins := .aload_n 0) (pc' := 34) rfl rfl ?_
  refine q_ic 0 rfl rfl ?_
  refine pf_126_7 0 rfl ?_
  exact Ev.vret rfl rfl hk
set_option maxRecDepth 100000 in
theorem e_Tape_begin_k_126 : Ev mmPT tbX9_begin 0 [some (.ref 126)] [] (mh sc rest to fl ma tr mk cn nu de ru la tb tf ph cs) ((fun r : Ob => (none, mh sc rest to fl ma tr mk cn nu de ru la r tf ph cs)) (Tape_begin_k tb)) := e_Tape_begin_k_126_0 (by exact rfl)
set_option maxRecDepth 100000 in
theorem e_Tape_finish_k_126_0 {v1 : Int32} {x : Option Value × List mmC} (hk : (kO (fun r : Ob => (none, mh sc rest to fl ma tr mk cn nu de ru la r tf ph cs)) x) (Tape_finish_k tb v1)) : Ev mmPT tbX9_finish 0 [some (.ref 126), some (.int v1)] [] (mh sc rest to fl ma tr mk cn nu de ru la tb tf ph cs) x := by
  unfold Tape_finish_k at hk
  refine Ev.s (ins := .aload_n 0) (pc' := 1) rfl rfl ?_
  refine q_ic 0 rfl rfl ?_
  refine pf_126_2 false rfl ?_
  refine Ev.s (ins := .aload_n 0) (pc' := 6) rfl rfl ?_
  refine Ev.s (ins := .iload_n 1) (pc' := 7) rfl rfl ?_
  refine pf_126_3 v1 rfl ?_
  exact Ev.vret rfl rfl hk
set_option maxRecDepth 100000 in
theorem e_Tape_finish_k_126 {v1 : Int32} : Ev mmPT tbX9_finish 0 [some (.ref 126), some (.int v1)] [] (mh sc rest to fl ma tr mk cn nu de ru la tb tf ph cs) ((fun r : Ob => (none, mh sc rest to fl ma tr mk cn nu de ru la r tf ph cs)) (Tape_finish_k tb v1)) := e_Tape_finish_k_126_0 (by exact rfl)
set_option maxRecDepth 100000 in
theorem e_Tape_act_k_126_134 {v1 : Int32} {v2 : Int32} {v3 : Int32} {x : Option Value × List mmC} (hk : (kO (fun r : Int32 × Ob => (some (.int r.1), mh sc rest to fl ma tr mk cn nu de ru la r.2 tf ph cs)) x) (Tape_act_k_134 tb v1 v2 v3)) : Ev mmPT tbX9_act 134 [none, some (.int v1), some (.int v2), some (.int v3)] [] (mh sc rest to fl ma tr mk cn nu de ru la tb tf ph cs) x := by
  unfold Tape_act_k_134 at hk
  refine Ev.s (ins := .iload_n 1) (pc' := 135) rfl rfl ?_
  refine Ev.s (ins := .iload_n 2) (pc' := 136) rfl rfl ?_
  refine Ev.s (ins := .iload_n 3) (pc' := 137) rfl rfl ?_
  refine kc_X11_reckoned_3 rfl (Nat.le_of_ble_eq_true rfl) (e_Ph_reckoned) ?_
  exact Ev.iret rfl rfl hk
set_option maxRecDepth 100000 in
theorem e_Tape_act_k_126_0 {v1 : Int32} {v2 : Int32} {v3 : Int32} {x : Option Value × List mmC} (hk : (kO (fun r : Int32 × Ob => (some (.int r.1), mh sc rest to fl ma tr mk cn nu de ru la r.2 tf ph cs)) x) (Tape_act_k tb v1 v2 v3)) : Ev mmPT tbX9_act 0 [some (.ref 126), some (.int v1), some (.int v2), some (.int v3)] [] (mh sc rest to fl ma tr mk cn nu de ru la tb tf ph cs) x := by
  unfold Tape_act_k at hk
  refine Ev.s (ins := .aload_n 0) (pc' := 1) rfl rfl ?_
  refine Ev.s (ins := .dup) (pc' := 2) rfl rfl ?_
  refine gf_126_6 (tb.2.1 3) rfl rfl ?_
  refine Ev.s (ins := .iload_n 1) (pc' := 6) rfl rfl ?_
  refine kc_X11_costOf_3 rfl (Nat.le_of_ble_eq_true rfl) (e_Ph_costOf) ?_
  refine Ev.s (ins := .iadd) (pc' := 10) rfl rfl ?_
  refine pf_126_6 ((tb.2.1 3) + (Ph_costOf v1)) rfl ?_
  refine Ev.s (ins := .iload_n 1) (pc' := 14) rfl rfl ?_
  refine q_if hk (fun c1 hk => ?_) (fun c1 hk => ?_)
  · refine Ev.sw (tg := 64) rfl rfl (by rw [c1]; rfl) ?_
    refine Ev.s (ins := .iload_n 2) (pc' := 65) rfl rfl ?_
    exact Ev.iret rfl rfl hk
  · skip
    refine q_if hk (fun c2 hk => ?_) (fun c2 hk => ?_)
    · refine Ev.sw (tg := 66) rfl rfl (by rw [c2]; rfl) ?_
      refine Ev.s (ins := .aload_n 0) (pc' := 67) rfl rfl ?_
      refine gf_126_1 rfl ?_
      refine Ev.s (ins := .iload_n 2) (pc' := 71) rfl rfl ?_
      refine q_bi 8 rfl rfl ?_
      refine kc_J9_floorMod_7cf53_2 rfl (Nat.le_of_ble_eq_true rfl) (e_J_floorMod_8) ?_
      refine at_127 (oat tb 0 8 (J_floorMod_8 v2)) rfl (Nat.le_of_ble_eq_true rfl) rfl ?_
      exact Ev.iret rfl rfl hk
    · skip
      refine q_if hk (fun c3 hk => ?_) (fun c3 hk => ?_)
      · refine Ev.sw (tg := 80) rfl rfl (by rw [c3]; rfl) ?_
        refine Ev.s (ins := .aload_n 0) (pc' := 81) rfl rfl ?_
        refine gf_126_1 rfl ?_
        refine Ev.s (ins := .iload_n 2) (pc' := 85) rfl rfl ?_
        refine q_bi 8 rfl rfl ?_
        refine kc_J9_floorMod_7cf53_2 rfl (Nat.le_of_ble_eq_true rfl) (e_J_floorMod_8) ?_
        refine Ev.s (ins := .iload_n 3) (pc' := 91) rfl rfl ?_
        refine pt_127 rfl (Nat.le_of_ble_eq_true rfl) ?_
        refine q_ic 0 rfl rfl ?_
        exact Ev.iret rfl rfl hk
      · skip
        refine q_if hk (fun c4 hk => ?_) (fun c4 hk => ?_)
        · refine Ev.sw (tg := 96) rfl rfl (by rw [c4]; rfl) ?_
          refine Ev.s (ins := .aload_n 0) (pc' := 97) rfl rfl ?_
          refine gf_126_0 rfl ?_
          refine Ev.s (ins := .aload_n 0) (pc' := 101) rfl rfl ?_
          refine gf_126_5 (tb.2.1 2) rfl rfl ?_
          refine Ev.s (ins := .iload_n 2) (pc' := 105) rfl rfl ?_
          refine pt_129 rfl (Nat.le_of_ble_eq_true rfl) ?_
          refine Ev.s (ins := .aload_n 0) (pc' := 109) rfl rfl ?_
          refine Ev.s (ins := .dup) (pc' := 110) rfl rfl ?_
          refine gf_126_5 (tb.2.1 2) rfl rfl ?_
          refine q_ic 1 rfl rfl ?_
          refine Ev.s (ins := .iadd) (pc' := 115) rfl rfl ?_
          refine pf_126_5 ((tb.2.1 2) + 1) rfl ?_
          refine q_ic 0 rfl rfl ?_
          exact Ev.iret rfl rfl hk
        · skip
          refine Ev.sw (tg := 120) rfl rfl (swg (by decide) (by decide) (fun k h e => ?_)) ?_
          · have h9 : k < 9 := by omega
            match k, h9, e with
            | 0, _, e => exact absurd e c1
            | 1, _, e => rfl
            | 2, _, e => rfl
            | 3, _, e => rfl
            | 4, _, e => rfl
            | 5, _, e => rfl
            | 6, _, e => exact absurd e c2
            | 7, _, e => exact absurd e c3
            | 8, _, e => exact absurd e c4
          · refine Ev.s (ins := .iload_n 1) (pc' := 121) rfl rfl ?_
            refine q_ic 4 rfl rfl ?_
            refine q_cne rfl hk (fun c5 hk => ?_) (fun c5 hk => ?_)
            · refine Ev.s (ins := .iload_n 3) (pc' := 126) rfl rfl ?_
              refine q_ne rfl hk (fun c6 hk => ?_) (fun c6 hk => ?_)
              · refine Ev.s (ins := .aload_n 0) (pc' := 130) rfl rfl ?_
                refine q_ic 1 rfl rfl ?_
                refine kc_X9_finish_0 rfl oi_126 rfl (Nat.le_of_ble_eq_true rfl) (e_Tape_finish_k_126) ?_
                refine Ev.weak [none, some (.int v1), some (.int v2), some (.int v3)] ⟨rfl, rfl, rfl, rfl, trivial⟩ ?_
                exact e_Tape_act_k_126_134 hk
              · refine Ev.weak [none, some (.int v1), some (.int v2), some (.int v3)] ⟨rfl, rfl, rfl, rfl, trivial⟩ ?_
                exact e_Tape_act_k_126_134 hk
            · refine Ev.weak [none, some (.int v1), some (.int v2), some (.int v3)] ⟨rfl, rfl, rfl, rfl, trivial⟩ ?_
              exact e_Tape_act_k_126_134 hk
set_option maxRecDepth 100000 in
theorem e_Tape_act_k_126 {v1 : Int32} {v2 : Int32} {v3 : Int32} : Ev mmPT tbX9_act 0 [some (.ref 126), some (.int v1), some (.int v2), some (.int v3)] [] (mh sc rest to fl ma tr mk cn nu de ru la tb tf ph cs) ((fun r : Int32 × Ob => (some (.int r.1), mh sc rest to fl ma tr mk cn nu de ru la r.2 tf ph cs)) (Tape_act_k tb v1 v2 v3)) := e_Tape_act_k_126_0 (by exact rfl)
set_option maxRecDepth 100000 in
theorem e_Runner_doLines_k_114_2_126_103 {v2 : Int32} {v4 : Int32} {x : Option Value × List mmC} (b3 : v4 < 2147483647) (hk : (kK (fun a : Int32 × Ob × Ob => mu a.1) (mu v4) (fun a : Int32 × Ob × Ob => Ev mmPT tbX8_doLines 3 [some (.ref 114), some (.ref 2), some (.int v2), some (.ref 126), some (.int a.1), none, none, none] [] (mh sc rest to fl ma tr mk cn nu de a.2.1 la a.2.2 tf ph cs) x) (kO (fun r : Ob × Ob => (none, mh sc rest to fl ma tr mk cn nu de r.1 la r.2 tf ph cs)) x)) (Runner_doLines_k_103 to ru tb v2 v4)) : Ev mmPT tbX8_doLines 103 [some (.ref 114), some (.ref 2), some (.int v2), some (.ref 126), some (.int v4), none, none, none] [] (mh sc rest to fl ma tr mk cn nu de ru la tb tf ph cs) x := by
  unfold Runner_doLines_k_103 at hk
  refine q_inc 1 [some (.ref 114), some (.ref 2), some (.int v2), some (.ref 126), some (.int (v4 + 1)), none, none, none] rfl rfl rfl rfl ?_
  refine Ev.goto rfl ?_
  replace hk := kK_l hk
  exact hk (mu_lt b3)
set_option maxRecDepth 100000 in
theorem e_Runner_doLines_k_114_2_126_75 {v2 : Int32} {v4 : Int32} {v5 : Int32} {v6 : Int32} {w0 : Int32} {x : Option Value × List mmC} (b3 : v4 < 2147483647) (hk : (kK (fun a : Int32 × Ob × Ob => mu a.1) (mu v4) (fun a : Int32 × Ob × Ob => Ev mmPT tbX8_doLines 3 [some (.ref 114), some (.ref 2), some (.int v2), some (.ref 126), some (.int a.1), none, none, none] [] (mh sc rest to fl ma tr mk cn nu de a.2.1 la a.2.2 tf ph cs) x) (kO (fun r : Ob × Ob => (none, mh sc rest to fl ma tr mk cn nu de r.1 la r.2 tf ph cs)) x)) (Runner_doLines_k_75 to ru tb v2 v4 v5 v6 w0)) : Ev mmPT tbX8_doLines 75 [some (.ref 114), some (.ref 2), some (.int v2), some (.ref 126), some (.int v4), some (.int v5), some (.int v6), none] [.int w0] (mh sc rest to fl ma tr mk cn nu de ru la tb tf ph cs) x := by
  unfold Runner_doLines_k_75 at hk
  refine Ev.s (ins := .istore 7) (pc' := 77) (lv' := [some (.ref 114), some (.ref 2), some (.int v2), some (.ref 126), some (.int v4), some (.int v5), some (.int v6), some (.int w0)]) rfl rfl ?_
  refine Ev.s (ins := .iload 6) (pc' := 79) rfl rfl ?_
  refine kc_X11_sets_3 rfl (Nat.le_of_ble_eq_true rfl) (e_Ph_sets) ?_
  refine q_beq rfl hk (fun c1 hk => ?_) (fun c1 hk => ?_)
  · refine Ev.s (ins := .aload_n 0) (pc' := 86) rfl rfl ?_
    refine gf_114_0 rfl ?_
    refine Ev.s (ins := .aload_n 1) (pc' := 90) rfl rfl ?_
    refine gf_2_2 rfl ?_
    refine Ev.s (ins := .iload 5) (pc' := 95) rfl rfl ?_
    refine at_7 (oat to 2 80 v5) rfl (Nat.le_of_ble_eq_true rfl) rfl ?_
    refine Ev.s (ins := .iload 7) (pc' := 100) rfl rfl ?_
    refine pt_115 rfl (Nat.le_of_ble_eq_true rfl) ?_
    refine Ev.weak [some (.ref 114), some (.ref 2), some (.int v2), some (.ref 126), some (.int v4), none, none, none] ⟨rfl, rfl, rfl, rfl, rfl, rfl, rfl, rfl, trivial⟩ ?_
    exact e_Runner_doLines_k_114_2_126_103 b3 hk
  · refine Ev.weak [some (.ref 114), some (.ref 2), some (.int v2), some (.ref 126), some (.int v4), none, none, none] ⟨rfl, rfl, rfl, rfl, rfl, rfl, rfl, rfl, trivial⟩ ?_
    exact e_Runner_doLines_k_114_2_126_103 b3 hk
set_option maxRecDepth 100000 in
theorem e_Runner_doLines_k_114_2_126_L3b {v2 : Int32} {v4 : Int32} {x : Option Value × List mmC} (hk : (kK (fun a : Int32 × Ob × Ob => mu a.1) (mu v4) (fun a : Int32 × Ob × Ob => Ev mmPT tbX8_doLines 3 [some (.ref 114), some (.ref 2), some (.int v2), some (.ref 126), some (.int a.1), none, none, none] [] (mh sc rest to fl ma tr mk cn nu de a.2.1 la a.2.2 tf ph cs) x) (kO (fun r : Ob × Ob => (none, mh sc rest to fl ma tr mk cn nu de r.1 la r.2 tf ph cs)) x)) (Runner_doLines_k_L3b to ru tb v2 v4)) : Ev mmPT tbX8_doLines 3 [some (.ref 114), some (.ref 2), some (.int v2), some (.ref 126), some (.int v4), none, none, none] [] (mh sc rest to fl ma tr mk cn nu de ru la tb tf ph cs) x := by
  unfold Runner_doLines_k_L3b at hk
  refine Ev.s (ins := .aload_n 3) (pc' := 4) rfl rfl ?_
  refine gf_126_2 (tb.2.2 0) rfl rfl ?_
  refine q_beq rfl hk (fun c1 hk => ?_) (fun c1 hk => ?_)
  · refine Ev.s (ins := .iload 4) (pc' := 12) rfl rfl ?_
    refine Ev.s (ins := .aload_n 1) (pc' := 13) rfl rfl ?_
    refine gf_2_0 rfl ?_
    refine Ev.s (ins := .iload_n 2) (pc' := 17) rfl rfl ?_
    refine at_3 (oat to 0 10 v2) rfl (Nat.le_of_ble_eq_true rfl) rfl ?_
    refine q_cge rfl hk (fun c2 hk => ?_) (fun c2 hk => ?_)
    · refine Ev.s (ins := .iload_n 2) (pc' := 24) rfl rfl ?_
      refine q_bi 8 rfl rfl ?_
      refine Ev.s (ins := .imul) (pc' := 27) rfl rfl ?_
      refine Ev.s (ins := .iload 4) (pc' := 29) rfl rfl ?_
      refine Ev.s (ins := .iadd) (pc' := 30) rfl rfl ?_
      refine Ev.s (ins := .istore 5) (pc' := 32) (lv' := [some (.ref 114), some (.ref 2), some (.int v2), some (.ref 126), some (.int v4), some (.int ((v2 * 8) + v4)), none, none]) rfl rfl ?_
      refine Ev.s (ins := .aload_n 1) (pc' := 33) rfl rfl ?_
      refine gf_2_1 rfl ?_
      refine Ev.s (ins := .iload 5) (pc' := 38) rfl rfl ?_
      refine at_5 (oat to 1 80 ((v2 * 8) + v4)) rfl (Nat.le_of_ble_eq_true rfl) rfl ?_
      refine Ev.s (ins := .istore 6) (pc' := 43) (lv' := [some (.ref 114), some (.ref 2), some (.int v2), some (.ref 126), some (.int v4), some (.int ((v2 * 8) + v4)), some (.int (oat to 1 80 ((v2 * 8) + v4))), none]) rfl rfl ?_
      refine Ev.s (ins := .aload_n 3) (pc' := 44) rfl rfl ?_
      refine Ev.s (ins := .iload 6) (pc' := 46) rfl rfl ?_
      refine Ev.s (ins := .aload_n 0) (pc' := 47) rfl rfl ?_
      refine Ev.s (ins := .aload_n 1) (pc' := 48) rfl rfl ?_
      refine gf_2_3 rfl ?_
      refine Ev.s (ins := .iload 5) (pc' := 53) rfl rfl ?_
      refine at_9 (oat to 3 80 ((v2 * 8) + v4)) rfl (Nat.le_of_ble_eq_true rfl) rfl ?_
      refine kc_X8_read_0 rfl oi_114 rfl (Nat.le_of_ble_eq_true rfl) (e_Runner_read_114) ?_
      refine Ev.s (ins := .aload_n 0) (pc' := 60) rfl rfl ?_
      refine Ev.s (ins := .aload_n 1) (pc' := 61) rfl rfl ?_
      refine gf_2_4 rfl ?_
      refine Ev.s (ins := .iload 5) (pc' := 66) rfl rfl ?_
      refine at_11 (oat to 4 80 ((v2 * 8) + v4)) rfl (Nat.le_of_ble_eq_true rfl) rfl ?_
      refine kc_X8_read_0 rfl oi_114 rfl (Nat.le_of_ble_eq_true rfl) (e_Runner_read_114) ?_
      refine kc_X9_act_0 rfl oi_126 rfl (Nat.le_of_ble_eq_true rfl) (e_Tape_act_k_126) ?_
      exact e_Runner_doLines_k_114_2_126_75 (lt31 c2) hk
    · replace hk := kK_r hk
      exact Ev.vret rfl rfl hk
  · replace hk := kK_r hk
    exact Ev.vret rfl rfl hk
set_option maxRecDepth 100000 in
theorem e_Runner_doLines_k_114_2_126_L3 {v2 : Int32} {v4 : Int32} {x : Option Value × List mmC} (hk : (kO (fun r : Ob × Ob => (none, mh sc rest to fl ma tr mk cn nu de r.1 la r.2 tf ph cs)) x) (Runner_doLines_k_L3 to ru tb v2 v4)) : Ev mmPT tbX8_doLines 3 [some (.ref 114), some (.ref 2), some (.int v2), some (.ref 126), some (.int v4), none, none, none] [] (mh sc rest to fl ma tr mk cn nu de ru la tb tf ph cs) x :=
  k_loop (B := (fun a : Int32 × Ob × Ob => Runner_doLines_k_L3b to a.2.1 a.2.2 v2 a.1)) (μ := fun a : Int32 × Ob × Ob => mu a.1) (E := fun a : Int32 × Ob × Ob => Ev mmPT tbX8_doLines 3 [some (.ref 114), some (.ref 2), some (.int v2), some (.ref 126), some (.int a.1), none, none, none] [] (mh sc rest to fl ma tr mk cn nu de a.2.1 la a.2.2 tf ph cs) x) (X := (kO (fun r : Ob × Ob => (none, mh sc rest to fl ma tr mk cn nu de r.1 la r.2 tf ph cs)) x)) (fun a hk => e_Runner_doLines_k_114_2_126_L3b hk) (v4, ru, tb) hk
set_option maxRecDepth 100000 in
theorem e_Runner_doLines_k_114_2_126_0 {v2 : Int32} {x : Option Value × List mmC} (hk : (kO (fun r : Ob × Ob => (none, mh sc rest to fl ma tr mk cn nu de r.1 la r.2 tf ph cs)) x) (Runner_doLines_k to ru tb v2)) : Ev mmPT tbX8_doLines 0 [some (.ref 114), some (.ref 2), some (.int v2), some (.ref 126), none, none, none, none] [] (mh sc rest to fl ma tr mk cn nu de ru la tb tf ph cs) x := by
  unfold Runner_doLines_k at hk
  refine q_ic 0 rfl rfl ?_
  refine Ev.s (ins := .istore 4) (pc' := 3) (lv' := [some (.ref 114), some (.ref 2), some (.int v2), some (.ref 126), some (.int 0), none, none, none]) rfl rfl ?_
  exact e_Runner_doLines_k_114_2_126_L3 hk
set_option maxRecDepth 100000 in
theorem e_Runner_doLines_k_114_2_126 {v2 : Int32} : Ev mmPT tbX8_doLines 0 [some (.ref 114), some (.ref 2), some (.int v2), some (.ref 126), none, none, none, none] [] (mh sc rest to fl ma tr mk cn nu de ru la tb tf ph cs) ((fun r : Ob × Ob => (none, mh sc rest to fl ma tr mk cn nu de r.1 la r.2 tf ph cs)) (Runner_doLines_k to ru tb v2)) := e_Runner_doLines_k_114_2_126_0 (by exact rfl)
set_option maxRecDepth 100000 in
theorem e_Tape_leaveBy_k_126_84 {x : Option Value × List mmC} (hk : (kO (fun r : Int32 × Ob => (some (.int r.1), mh sc rest to fl ma tr mk cn nu de ru la r.2 tf ph cs)) x) (Tape_leaveBy_k_84 tb)) : Ev mmPT tbX9_leaveBy 84 [none, none, none] [] (mh sc rest to fl ma tr mk cn nu de ru la tb tf ph cs) x := by
  unfold Tape_leaveBy_k_84 at hk
  refine q_ic 0 rfl rfl ?_
  exact Ev.iret rfl rfl hk
set_option maxRecDepth 100000 in
theorem e_Tape_leaveBy_k_126_67 {v1 : Int32} {v2 : Int32} {w0 : Int32} {w1 : Int32} {x : Option Value × List mmC} (hk : (kO (fun r : Int32 × Ob => (some (.int r.1), mh sc rest to fl ma tr mk cn nu de ru la r.2 tf ph cs)) x) (Tape_leaveBy_k_67 tb v1 v2 w0 w1)) : Ev mmPT tbX9_leaveBy 67 [none, some (.int v1), some (.int v2)] [.int w0, .int w1, .ref 126] (mh sc rest to fl ma tr mk cn nu de ru la tb tf ph cs) x := by
  unfold Tape_leaveBy_k_67 at hk
  refine Ev.s (ins := .iadd) (pc' := 68) rfl rfl ?_
  refine pf_126_6 (w1 + w0) rfl ?_
  refine Ev.s (ins := .iload_n 1) (pc' := 72) rfl rfl ?_
  refine q_ic 2 rfl rfl ?_
  refine q_cne rfl hk (fun c1 hk => ?_) (fun c1 hk => ?_)
  · refine Ev.s (ins := .iload_n 2) (pc' := 77) rfl rfl ?_
    refine q_gt rfl hk (fun c2 hk => ?_) (fun c2 hk => ?_)
    · refine Ev.weak [none, none, none] ⟨rfl, rfl, rfl, trivial⟩ ?_
      exact e_Tape_leaveBy_k_126_84 hk
    · refine q_ic 1 rfl rfl ?_
      refine Ev.goto rfl ?_
      exact Ev.iret rfl rfl hk
  · refine Ev.weak [none, none, none] ⟨rfl, rfl, rfl, trivial⟩ ?_
    exact e_Tape_leaveBy_k_126_84 hk
set_option maxRecDepth 100000 in
theorem e_Tape_leaveBy_k_126_0 {v1 : Int32} {v2 : Int32} {x : Option Value × List mmC} (hk : (kO (fun r : Int32 × Ob => (some (.int r.1), mh sc rest to fl ma tr mk cn nu de ru la r.2 tf ph cs)) x) (Tape_leaveBy_k tb v1 v2)) : Ev mmPT tbX9_leaveBy 0 [some (.ref 126), some (.int v1), some (.int v2)] [] (mh sc rest to fl ma tr mk cn nu de ru la tb tf ph cs) x := by
  unfold Tape_leaveBy_k at hk
  refine Ev.s (ins := .aload_n 0) (pc' := 1) rfl rfl ?_
  refine gf_126_2 (tb.2.2 0) rfl rfl ?_
  refine q_bne rfl hk (fun c1 hk => ?_) (fun c1 hk => ?_)
  · refine Ev.s (ins := .aload_n 0) (pc' := 10) rfl rfl ?_
    refine gf_126_7 (tb.2.1 4) rfl rfl ?_
    refine q_si 300 rfl rfl ?_
    refine q_clt rfl hk (fun c2 hk => ?_) (fun c2 hk => ?_)
    · refine Ev.s (ins := .aload_n 0) (pc' := 27) rfl rfl ?_
      refine Ev.s (ins := .dup) (pc' := 28) rfl rfl ?_
      refine gf_126_7 (tb.2.1 4) rfl rfl ?_
      refine q_ic 1 rfl rfl ?_
      refine Ev.s (ins := .iadd) (pc' := 33) rfl rfl ?_
      refine pf_126_7 ((tb.2.1 4) + 1) rfl ?_
      refine Ev.s (ins := .iload_n 1) (pc' := 37) rfl rfl ?_
      refine q_ne rfl hk (fun c3 hk => ?_) (fun c3 hk => ?_)
      · refine Ev.s (ins := .aload_n 0) (pc' := 41) rfl rfl ?_
        refine Ev.s (ins := .iload_n 2) (pc' := 42) rfl rfl ?_
        refine pf_126_4 v2 rfl ?_
        refine Ev.s (ins := .aload_n 0) (pc' := 46) rfl rfl ?_
        refine q_ic 0 rfl rfl ?_
        refine kc_X9_finish_0 rfl oi_126 rfl (Nat.le_of_ble_eq_true rfl) (e_Tape_finish_k_126) ?_
        refine q_ic 0 rfl rfl ?_
        exact Ev.iret rfl rfl hk
      · refine Ev.s (ins := .aload_n 0) (pc' := 53) rfl rfl ?_
        refine Ev.s (ins := .dup) (pc' := 54) rfl rfl ?_
        refine gf_126_6 (tb.2.1 3) rfl rfl ?_
        refine Ev.s (ins := .iload_n 1) (pc' := 58) rfl rfl ?_
        refine q_ic 2 rfl rfl ?_
        refine q_cne rfl hk (fun c4 hk => ?_) (fun c4 hk => ?_)
        · refine q_ic 2 rfl rfl ?_
          refine Ev.goto rfl ?_
          refine Ev.weak [none, some (.int v1), some (.int v2)] ⟨rfl, rfl, rfl, trivial⟩ ?_
          exact e_Tape_leaveBy_k_126_67 hk
        · refine q_ic 1 rfl rfl ?_
          refine Ev.weak [none, some (.int v1), some (.int v2)] ⟨rfl, rfl, rfl, trivial⟩ ?_
          exact e_Tape_leaveBy_k_126_67 hk
    · refine Ev.s (ins := .aload_n 0) (pc' := 20) rfl rfl ?_
      refine q_ic 2 rfl rfl ?_
      refine kc_X9_finish_0 rfl oi_126 rfl (Nat.le_of_ble_eq_true rfl) (e_Tape_finish_k_126) ?_
      refine q_ic 0 rfl rfl ?_
      exact Ev.iret rfl rfl hk
  · refine q_ic 0 rfl rfl ?_
    exact Ev.iret rfl rfl hk
set_option maxRecDepth 100000 in
theorem e_Tape_leaveBy_k_126 {v1 : Int32} {v2 : Int32} : Ev mmPT tbX9_leaveBy 0 [some (.ref 126), some (.int v1), some (.int v2)] [] (mh sc rest to fl ma tr mk cn nu de ru la tb tf ph cs) ((fun r : Int32 × Ob => (some (.int r.1), mh sc rest to fl ma tr mk cn nu de ru la r.2 tf ph cs)) (Tape_leaveBy_k tb v1 v2)) := e_Tape_leaveBy_k_126_0 (by exact rfl)
set_option maxRecDepth 100000 in
theorem e_Runner_walkBlocks_k_114_2_126_93 {v6 : Int32} {w0 : Int32} {w1 : Int32} {x : Option Value × List mmC} (b37 : v6 < 2147483647) (hk : (kK (fun a : Int32 × Int32 × Ob × Ob => mu a.2.1) (mu v6) (fun a : Int32 × Int32 × Ob × Ob => Ev mmPT tbX8_walkBlocks 37 [some (.ref 114), some (.ref 2), none, none, some (.ref 126), some (.int a.1), some (.int a.2.1), none] [] (mh sc rest to fl ma tr mk cn nu de a.2.2.1 la a.2.2.2 tf ph cs) x) (kO (fun r : Ob × Ob => (none, mh sc rest to fl ma tr mk cn nu de r.1 la r.2 tf ph cs)) x)) (Runner_walkBlocks_k_93 to ru tb v6 w0 w1)) : Ev mmPT tbX8_walkBlocks 93 [some (.ref 114), some (.ref 2), none, none, some (.ref 126), none, some (.int v6), none] [.int w0, .int w1] (mh sc rest to fl ma tr mk cn nu de ru la tb tf ph cs) x := by
  unfold Runner_walkBlocks_k_93 at hk
  refine Ev.s (ins := .iadd) (pc' := 94) rfl rfl ?_
  refine Ev.s (ins := .istore 7) (pc' := 96) (lv' := [some (.ref 114), some (.ref 2), none, none, some (.ref 126), none, some (.int v6), some (.int (w1 + w0))]) rfl rfl ?_
  refine Ev.s (ins := .aload_n 1) (pc' := 97) rfl rfl ?_
  refine gf_2_7 rfl ?_
  refine Ev.s (ins := .iload 7) (pc' := 102) rfl rfl ?_
  refine at_17 (oat to 7 20 (w1 + w0)) rfl (Nat.le_of_ble_eq_true rfl) rfl ?_
  refine Ev.s (ins := .istore 5) (pc' := 107) (lv' := [some (.ref 114), some (.ref 2), none, none, some (.ref 126), some (.int (oat to 7 20 (w1 + w0))), some (.int v6), some (.int (w1 + w0))]) rfl rfl ?_
  refine q_inc 1 [some (.ref 114), some (.ref 2), none, none, some (.ref 126), some (.int (oat to 7 20 (w1 + w0))), some (.int (v6 + 1)), some (.int (w1 + w0))] rfl rfl rfl rfl ?_
  refine Ev.goto rfl ?_
  refine Ev.weak [some (.ref 114), some (.ref 2), none, none, some (.ref 126), some (.int (oat to 7 20 (w1 + w0))), some (.int (v6 + 1)), none] ⟨rfl, rfl, rfl, rfl, rfl, rfl, rfl, rfl, trivial⟩ ?_
  replace hk := kK_l hk
  exact hk (mu_lt b37)
set_option maxRecDepth 100000 in
theorem e_Runner_walkBlocks_k_114_2_126_62 {v5 : Int32} {v6 : Int32} {x : Option Value × List mmC} (b37 : v6 < 2147483647) (hk : (kK (fun a : Int32 × Int32 × Ob × Ob => mu a.2.1) (mu v6) (fun a : Int32 × Int32 × Ob × Ob => Ev mmPT tbX8_walkBlocks 37 [some (.ref 114), some (.ref 2), none, none, some (.ref 126), some (.int a.1), some (.int a.2.1), none] [] (mh sc rest to fl ma tr mk cn nu de a.2.2.1 la a.2.2.2 tf ph cs) x) (kO (fun r : Ob × Ob => (none, mh sc rest to fl ma tr mk cn nu de r.1 la r.2 tf ph cs)) x)) (Runner_walkBlocks_k_62 to ru tb v5 v6)) : Ev mmPT tbX8_walkBlocks 62 [some (.ref 114), some (.ref 2), none, none, some (.ref 126), some (.int v5), some (.int v6), none] [] (mh sc rest to fl ma tr mk cn nu de ru la tb tf ph cs) x := by
  unfold Runner_walkBlocks_k_62 at hk
  refine Ev.s (ins := .iload 5) (pc' := 64) rfl rfl ?_
  refine q_ic 2 rfl rfl ?_
  refine Ev.s (ins := .imul) (pc' := 66) rfl rfl ?_
  refine Ev.s (ins := .aload 4) (pc' := 68) rfl rfl ?_
  refine Ev.s (ins := .aload_n 1) (pc' := 69) rfl rfl ?_
  refine gf_2_5 rfl ?_
  refine Ev.s (ins := .iload 5) (pc' := 74) rfl rfl ?_
  refine at_13 (oat to 5 10 v5) rfl (Nat.le_of_ble_eq_true rfl) rfl ?_
  refine Ev.s (ins := .aload_n 0) (pc' := 78) rfl rfl ?_
  refine Ev.s (ins := .aload_n 1) (pc' := 79) rfl rfl ?_
  refine gf_2_6 rfl ?_
  refine Ev.s (ins := .iload 5) (pc' := 84) rfl rfl ?_
  refine at_15 (oat to 6 10 v5) rfl (Nat.le_of_ble_eq_true rfl) rfl ?_
  refine kc_X8_read_0 rfl oi_114 rfl (Nat.le_of_ble_eq_true rfl) (e_Runner_read_114) ?_
  refine kc_X9_leaveBy_0 rfl oi_126 rfl (Nat.le_of_ble_eq_true rfl) (e_Tape_leaveBy_k_126) ?_
  refine Ev.weak [some (.ref 114), some (.ref 2), none, none, some (.ref 126), none, some (.int v6), none] ⟨rfl, rfl, rfl, rfl, rfl, rfl, rfl, rfl, trivial⟩ ?_
  exact e_Runner_walkBlocks_k_114_2_126_93 b37 hk
set_option maxRecDepth 100000 in
theorem e_Runner_walkBlocks_k_114_2_126_L37b {v5 : Int32} {v6 : Int32} {x : Option Value × List mmC} (hk : (kK (fun a : Int32 × Int32 × Ob × Ob => mu a.2.1) (mu v6) (fun a : Int32 × Int32 × Ob × Ob => Ev mmPT tbX8_walkBlocks 37 [some (.ref 114), some (.ref 2), none, none, some (.ref 126), some (.int a.1), some (.int a.2.1), none] [] (mh sc rest to fl ma tr mk cn nu de a.2.2.1 la a.2.2.2 tf ph cs) x) (kO (fun r : Ob × Ob => (none, mh sc rest to fl ma tr mk cn nu de r.1 la r.2 tf ph cs)) x)) (Runner_walkBlocks_k_L37b to ru tb v5 v6)) : Ev mmPT tbX8_walkBlocks 37 [some (.ref 114), some (.ref 2), none, none, some (.ref 126), some (.int v5), some (.int v6), none] [] (mh sc rest to fl ma tr mk cn nu de ru la tb tf ph cs) x := by
  unfold Runner_walkBlocks_k_L37b at hk
  refine Ev.s (ins := .aload 4) (pc' := 39) rfl rfl ?_
  refine gf_126_2 (tb.2.2 0) rfl rfl ?_
  refine q_beq rfl hk (fun c1 hk => ?_) (fun c1 hk => ?_)
  · refine Ev.s (ins := .iload 6) (pc' := 47) rfl rfl ?_
    refine q_si 300 rfl rfl ?_
    refine q_cgt rfl hk (fun c2 hk => ?_) (fun c2 hk => ?_)
    · replace hk := kK_r hk
      exact Ev.vret rfl rfl hk
    · refine Ev.s (ins := .aload_n 0) (pc' := 54) rfl rfl ?_
      refine Ev.s (ins := .aload_n 1) (pc' := 55) rfl rfl ?_
      refine Ev.s (ins := .iload 5) (pc' := 57) rfl rfl ?_
      refine Ev.s (ins := .aload 4) (pc' := 59) rfl rfl ?_
      refine kc_X8_doLines_0 rfl oi_114 rfl (Nat.le_of_ble_eq_true rfl) (e_Runner_doLines_k_114_2_126) ?_
      exact e_Runner_walkBlocks_k_114_2_126_62 (le31 (by decide) c2) hk
  · replace hk := kK_r hk
    exact Ev.vret rfl rfl hk
set_option maxRecDepth 100000 in
theorem e_Runner_walkBlocks_k_114_2_126_L37 {v5 : Int32} {v6 : Int32} {x : Option Value × List mmC} (hk : (kO (fun r : Ob × Ob => (none, mh sc rest to fl ma tr mk cn nu de r.1 la r.2 tf ph cs)) x) (Runner_walkBlocks_k_L37 to ru tb v5 v6)) : Ev mmPT tbX8_walkBlocks 37 [some (.ref 114), some (.ref 2), none, none, some (.ref 126), some (.int v5), some (.int v6), none] [] (mh sc rest to fl ma tr mk cn nu de ru la tb tf ph cs) x :=
  k_loop (B := (fun a : Int32 × Int32 × Ob × Ob => Runner_walkBlocks_k_L37b to a.2.2.1 a.2.2.2 a.1 a.2.1)) (μ := fun a : Int32 × Int32 × Ob × Ob => mu a.2.1) (E := fun a : Int32 × Int32 × Ob × Ob => Ev mmPT tbX8_walkBlocks 37 [some (.ref 114), some (.ref 2), none, none, some (.ref 126), some (.int a.1), some (.int a.2.1), none] [] (mh sc rest to fl ma tr mk cn nu de a.2.2.1 la a.2.2.2 tf ph cs) x) (X := (kO (fun r : Ob × Ob => (none, mh sc rest to fl ma tr mk cn nu de r.1 la r.2 tf ph cs)) x)) (fun a hk => e_Runner_walkBlocks_k_114_2_126_L37b hk) (v5, v6, ru, tb) hk
set_option maxRecDepth 100000 in
theorem e_Runner_walkBlocks_k_114_2_126_0 {v2 : Int32} {v3 : Int32} {x : Option Value × List mmC} (hk : (kO (fun r : Ob × Ob => (none, mh sc rest to fl ma tr mk cn nu de r.1 la r.2 tf ph cs)) x) (Runner_walkBlocks_k to ru tb v2 v3)) : Ev mmPT tbX8_walkBlocks 0 [some (.ref 114), some (.ref 2), some (.int v2), some (.int v3), some (.ref 126), none, none, none] [] (mh sc rest to fl ma tr mk cn nu de ru la tb tf ph cs) x := by
  unfold Runner_walkBlocks_k at hk
  refine Ev.s (ins := .aload 4) (pc' := 2) rfl rfl ?_
  refine kc_X9_begin_0 rfl oi_126 rfl (Nat.le_of_ble_eq_true rfl) (e_Tape_begin_k_126) ?_
  refine Ev.s (ins := .aload_n 0) (pc' := 6) rfl rfl ?_
  refine gf_114_0 rfl ?_
  refine q_ic 0 rfl rfl ?_
  refine fl_115 rfl (Nat.le_of_ble_eq_true rfl) ?_
  refine Ev.s (ins := .aload_n 0) (pc' := 14) rfl rfl ?_
  refine gf_114_0 rfl ?_
  refine q_ic 0 rfl rfl ?_
  refine Ev.s (ins := .iload_n 2) (pc' := 19) rfl rfl ?_
  refine pt_115 rfl (Nat.le_of_ble_eq_true rfl) ?_
  refine Ev.s (ins := .aload_n 0) (pc' := 23) rfl rfl ?_
  refine gf_114_0 rfl ?_
  refine q_ic 1 rfl rfl ?_
  refine Ev.s (ins := .iload_n 3) (pc' := 28) rfl rfl ?_
  refine pt_115 rfl (Nat.le_of_ble_eq_true rfl) ?_
  refine q_ic 0 rfl rfl ?_
  refine Ev.s (ins := .istore 5) (pc' := 34) (lv' := [some (.ref 114), some (.ref 2), some (.int v2), some (.int v3), some (.ref 126), some (.int 0), none, none]) rfl rfl ?_
  refine q_ic 0 rfl rfl ?_
  refine Ev.s (ins := .istore 6) (pc' := 37) (lv' := [some (.ref 114), some (.ref 2), some (.int v2), some (.int v3), some (.ref 126), some (.int 0), some (.int 0), none]) rfl rfl ?_
  refine Ev.weak [some (.ref 114), some (.ref 2), none, none, some (.ref 126), some (.int 0), some (.int 0), none] ⟨rfl, rfl, rfl, rfl, rfl, rfl, rfl, rfl, trivial⟩ ?_
  exact e_Runner_walkBlocks_k_114_2_126_L37 hk
set_option maxRecDepth 100000 in
theorem e_Runner_walkBlocks_k_114_2_126 {v2 : Int32} {v3 : Int32} : Ev mmPT tbX8_walkBlocks 0 [some (.ref 114), some (.ref 2), some (.int v2), some (.int v3), some (.ref 126), none, none, none] [] (mh sc rest to fl ma tr mk cn nu de ru la tb tf ph cs) ((fun r : Ob × Ob => (none, mh sc rest to fl ma tr mk cn nu de r.1 la r.2 tf ph cs)) (Runner_walkBlocks_k to ru tb v2 v3)) := e_Runner_walkBlocks_k_114_2_126_0 (by exact rfl)
set_option maxRecDepth 100000 in
theorem e_Runner_doValues_k_114_34_131_81 {v2 : Int32} {v4 : Int32} {x : Option Value × List mmC} (b3 : v4 < 2147483647) (hk : (kK (fun a : Int32 × Ob × Ob => mu a.1) (mu v4) (fun a : Int32 × Ob × Ob => Ev mmPT tbX8_doValues 3 [some (.ref 114), some (.ref 34), some (.int v2), some (.ref 131), some (.int a.1), none, none] [] (mh sc rest to fl ma tr mk cn nu de a.2.1 la tb a.2.2 ph cs) x) (kO (fun r : Ob × Ob => (none, mh sc rest to fl ma tr mk cn nu de r.1 la tb r.2 ph cs)) x)) (Runner_doValues_k_81 ma ru tf v2 v4)) : Ev mmPT tbX8_doValues 81 [some (.ref 114), some (.ref 34), some (.int v2), some (.ref 131), some (.int v4), none, none] [] (mh sc rest to fl ma tr mk cn nu de ru la tb tf ph cs) x := by
  unfold Runner_doValues_k_81 at hk
  refine q_inc 1 [some (.ref 114), some (.ref 34), some (.int v2), some (.ref 131), some (.int (v4 + 1)), none, none] rfl rfl rfl rfl ?_
  refine Ev.goto rfl ?_
  replace hk := kK_l hk
  exact hk (mu_lt b3)
set_option maxRecDepth 100000 in
theorem e_Runner_doValues_k_114_34_131_78 {v2 : Int32} {v4 : Int32} {w0 : Int32} {w1 : Int32} {x : Option Value × List mmC} (b3 : v4 < 2147483647) (hk : (kK (fun a : Int32 × Ob × Ob => mu a.1) (mu v4) (fun a : Int32 × Ob × Ob => Ev mmPT tbX8_doValues 3 [some (.ref 114), some (.ref 34), some (.int v2), some (.ref 131), some (.int a.1), none, none] [] (mh sc rest to fl ma tr mk cn nu de a.2.1 la tb a.2.2 ph cs) x) (kO (fun r : Ob × Ob => (none, mh sc rest to fl ma tr mk cn nu de r.1 la tb r.2 ph cs)) x)) (Runner_doValues_k_78 ma ru tf v2 v4 w0 w1)) : Ev mmPT tbX8_doValues 78 [some (.ref 114), some (.ref 34), some (.int v2), some (.ref 131), some (.int v4), none, none] [.int w0, .int w1, .ref 117] (mh sc rest to fl ma tr mk cn nu de ru la tb tf ph cs) x := by
  unfold Runner_doValues_k_78 at hk
  refine pt_117 rfl (Nat.le_of_ble_eq_true rfl) ?_
  exact e_Runner_doValues_k_114_34_131_81 b3 hk
set_option maxRecDepth 100000 in
theorem e_Runner_doValues_k_114_34_131_L3b {v2 : Int32} {v4 : Int32} {x : Option Value × List mmC} (hk : (kK (fun a : Int32 × Ob × Ob => mu a.1) (mu v4) (fun a : Int32 × Ob × Ob => Ev mmPT tbX8_doValues 3 [some (.ref 114), some (.ref 34), some (.int v2), some (.ref 131), some (.int a.1), none, none] [] (mh sc rest to fl ma tr mk cn nu de a.2.1 la tb a.2.2 ph cs) x) (kO (fun r : Ob × Ob => (none, mh sc rest to fl ma tr mk cn nu de r.1 la tb r.2 ph cs)) x)) (Runner_doValues_k_L3b ma ru tf v2 v4)) : Ev mmPT tbX8_doValues 3 [some (.ref 114), some (.ref 34), some (.int v2), some (.ref 131), some (.int v4), none, none] [] (mh sc rest to fl ma tr mk cn nu de ru la tb tf ph cs) x := by
  unfold Runner_doValues_k_L3b at hk
  refine Ev.s (ins := .aload_n 3) (pc' := 4) rfl rfl ?_
  refine gf_131_2 (tf.2.2 0) rfl rfl ?_
  refine q_beq rfl hk (fun c1 hk => ?_) (fun c1 hk => ?_)
  · refine Ev.s (ins := .iload 4) (pc' := 12) rfl rfl ?_
    refine Ev.s (ins := .aload_n 1) (pc' := 13) rfl rfl ?_
    refine gf_34_7 rfl ?_
    refine Ev.s (ins := .iload_n 2) (pc' := 17) rfl rfl ?_
    refine at_49 (oat ma 7 10 v2) rfl (Nat.le_of_ble_eq_true rfl) rfl ?_
    refine q_cge rfl hk (fun c2 hk => ?_) (fun c2 hk => ?_)
    · refine Ev.s (ins := .aload_n 1) (pc' := 24) rfl rfl ?_
      refine Ev.s (ins := .iload_n 2) (pc' := 25) rfl rfl ?_
      refine Ev.s (ins := .iload 4) (pc' := 27) rfl rfl ?_
      refine kc_X3_valueIn_0 rfl oi_34 rfl (Nat.le_of_ble_eq_true rfl) (e_Form_valueIn_34) ?_
      refine Ev.s (ins := .istore 5) (pc' := 32) (lv' := [some (.ref 114), some (.ref 34), some (.int v2), some (.ref 131), some (.int v4), some (.int (Form_valueIn ma v2 v4)), none]) rfl rfl ?_
      refine Ev.s (ins := .aload_n 1) (pc' := 33) rfl rfl ?_
      refine gf_34_0 rfl ?_
      refine Ev.s (ins := .iload 5) (pc' := 38) rfl rfl ?_
      refine at_35 (oat ma 0 140 (Form_valueIn ma v2 v4)) rfl (Nat.le_of_ble_eq_true rfl) rfl ?_
      refine Ev.s (ins := .istore 6) (pc' := 43) (lv' := [some (.ref 114), some (.ref 34), some (.int v2), some (.ref 131), some (.int v4), some (.int (Form_valueIn ma v2 v4)), some (.int (oat ma 0 140 (Form_valueIn ma v2 v4)))]) rfl rfl ?_
      refine Ev.s (ins := .iload 6) (pc' := 45) rfl rfl ?_
      refine q_bi 9 rfl rfl ?_
      refine q_ceq rfl hk (fun c3 hk => ?_) (fun c3 hk => ?_)
      · refine Ev.weak [some (.ref 114), some (.ref 34), some (.int v2), some (.ref 131), some (.int v4), none, none] ⟨rfl, rfl, rfl, rfl, rfl, rfl, rfl, trivial⟩ ?_
        exact e_Runner_doValues_k_114_34_131_81 (lt31 c2) hk
      · refine Ev.s (ins := .aload_n 0) (pc' := 51) rfl rfl ?_
        refine gf_114_1 rfl ?_
        refine Ev.s (ins := .iload 5) (pc' := 56) rfl rfl ?_
        refine Ev.s (ins := .aload_n 3) (pc' := 57) rfl rfl ?_
        refine Ev.s (ins := .iload 6) (pc' := 59) rfl rfl ?_
        refine Ev.s (ins := .aload_n 0) (pc' := 60) rfl rfl ?_
        refine Ev.s (ins := .aload_n 1) (pc' := 61) rfl rfl ?_
        refine Ev.s (ins := .iload 5) (pc' := 63) rfl rfl ?_
        refine q_ic 0 rfl rfl ?_
        refine kc_X8_reckon_0 rfl oi_114 rfl (Nat.le_of_ble_eq_true rfl) (e_Runner_reckon_114_34) ?_
        refine Ev.s (ins := .aload_n 0) (pc' := 68) rfl rfl ?_
        refine Ev.s (ins := .aload_n 1) (pc' := 69) rfl rfl ?_
        refine Ev.s (ins := .iload 5) (pc' := 71) rfl rfl ?_
        refine q_ic 1 rfl rfl ?_
        refine kc_X8_reckon_0 rfl oi_114 rfl (Nat.le_of_ble_eq_true rfl) (e_Runner_reckon_114_34) ?_
        refine kc_X9_act_0 rfl oi_131 rfl (Nat.le_of_ble_eq_true rfl) (e_Tape_act_k_131) ?_
        refine Ev.weak [some (.ref 114), some (.ref 34), some (.int v2), some (.ref 131), some (.int v4), none, none] ⟨rfl, rfl, rfl, rfl, rfl, rfl, rfl, trivial⟩ ?_
        exact e_Runner_doValues_k_114_34_131_78 (lt31 c2) hk
    · replace hk := kK_r hk
      exact Ev.vret rfl rfl hk
  · replace hk := kK_r hk
    exact Ev.vret rfl rfl hk
set_option maxRecDepth 100000 in
theorem e_Runner_doValues_k_114_34_131_L3 {v2 : Int32} {v4 : Int32} {x : Option Value × List mmC} (hk : (kO (fun r : Ob × Ob => (none, mh sc rest to fl ma tr mk cn nu de r.1 la tb r.2 ph cs)) x) (Runner_doValues_k_L3 ma ru tf v2 v4)) : Ev mmPT tbX8_doValues 3 [some (.ref 114), some (.ref 34), some (.int v2), some (.ref 131), some (.int v4), none, none] [] (mh sc rest to fl ma tr mk cn nu de ru la tb tf ph cs) x :=
  k_loop (B := (fun a : Int32 × Ob × Ob => Runner_doValues_k_L3b ma a.2.1 a.2.2 v2 a.1)) (μ := fun a : Int32 × Ob × Ob => mu a.1) (E := fun a : Int32 × Ob × Ob => Ev mmPT tbX8_doValues 3 [some (.ref 114), some (.ref 34), some (.int v2), some (.ref 131), some (.int a.1), none, none] [] (mh sc rest to fl ma tr mk cn nu de a.2.1 la tb a.2.2 ph cs) x) (X := (kO (fun r : Ob × Ob => (none, mh sc rest to fl ma tr mk cn nu de r.1 la tb r.2 ph cs)) x)) (fun a hk => e_Runner_doValues_k_114_34_131_L3b hk) (v4, ru, tf) hk
set_option maxRecDepth 100000 in
theorem e_Runner_doValues_k_114_34_131_0 {v2 : Int32} {x : Option Value × List mmC} (hk : (kO (fun r : Ob × Ob => (none, mh sc rest to fl ma tr mk cn nu de r.1 la tb r.2 ph cs)) x) (Runner_doValues_k ma ru tf v2)) : Ev mmPT tbX8_doValues 0 [some (.ref 114), some (.ref 34), some (.int v2), some (.ref 131), none, none, none] [] (mh sc rest to fl ma tr mk cn nu de ru la tb tf ph cs) x := by
  unfold Runner_doValues_k at hk
  refine q_ic 0 rfl rfl ?_
  refine Ev.s (ins := .istore 4) (pc' := 3) (lv' := [some (.ref 114), some (.ref 34), some (.int v2), some (.ref 131), some (.int 0), none, none]) rfl rfl ?_
  exact e_Runner_doValues_k_114_34_131_L3 hk
set_option maxRecDepth 100000 in
theorem e_Runner_doValues_k_114_34_131 {v2 : Int32} : Ev mmPT tbX8_doValues 0 [some (.ref 114), some (.ref 34), some (.int v2), some (.ref 131), none, none, none] [] (mh sc rest to fl ma tr mk cn nu de ru la tb tf ph cs) ((fun r : Ob × Ob => (none, mh sc rest to fl ma tr mk cn nu de r.1 la tb r.2 ph cs)) (Runner_doValues_k ma ru tf v2)) := e_Runner_doValues_k_114_34_131_0 (by exact rfl)
set_option maxRecDepth 100000 in
theorem e_Runner_walkForm_k_114_34_131_110 {v7 : Int32} {w0 : Int32} {w1 : Int32} {x : Option Value × List mmC} (b40 : v7 < 2147483647) (hk : (kK (fun a : Int32 × Int32 × Int32 × Ob × Ob => mu a.2.2.1) (mu v7) (fun a : Int32 × Int32 × Int32 × Ob × Ob => Ev mmPT tbX8_walkForm 40 [some (.ref 114), some (.ref 34), none, none, some (.ref 131), some (.int a.1), some (.int a.2.1), some (.int a.2.2.1)] [] (mh sc rest to fl ma tr mk cn nu de a.2.2.2.1 la tb a.2.2.2.2 ph cs) x) (kO (fun r : Ob × Ob => (none, mh sc rest to fl ma tr mk cn nu de r.1 la tb r.2 ph cs)) x)) (Runner_walkForm_k_110 ma ru tf v7 w0 w1)) : Ev mmPT tbX8_walkForm 110 [some (.ref 114), some (.ref 34), none, none, some (.ref 131), none, none, some (.int v7)] [.int w0, .int w1] (mh sc rest to fl ma tr mk cn nu de ru la tb tf ph cs) x := by
  unfold Runner_walkForm_k_110 at hk
  refine Ev.s (ins := .iadd) (pc' := 111) rfl rfl ?_
  refine Ev.s (ins := .istore 6) (pc' := 113) (lv' := [some (.ref 114), some (.ref 34), none, none, some (.ref 131), none, some (.int (w1 + w0)), some (.int v7)]) rfl rfl ?_
  refine Ev.s (ins := .aload_n 1) (pc' := 114) rfl rfl ?_
  refine gf_34_12 rfl ?_
  refine Ev.s (ins := .iload 6) (pc' := 119) rfl rfl ?_
  refine at_59 (oat ma 12 20 (w1 + w0)) rfl (Nat.le_of_ble_eq_true rfl) rfl ?_
  refine Ev.s (ins := .istore 5) (pc' := 124) (lv' := [some (.ref 114), some (.ref 34), none, none, some (.ref 131), some (.int (oat ma 12 20 (w1 + w0))), some (.int (w1 + w0)), some (.int v7)]) rfl rfl ?_
  refine q_inc 1 [some (.ref 114), some (.ref 34), none, none, some (.ref 131), some (.int (oat ma 12 20 (w1 + w0))), some (.int (w1 + w0)), some (.int (v7 + 1))] rfl rfl rfl rfl ?_
  refine Ev.goto rfl ?_
  replace hk := kK_l hk
  exact hk (mu_lt b40)
set_option maxRecDepth 100000 in
theorem e_Runner_walkForm_k_114_34_131_80 {v5 : Int32} {v7 : Int32} {x : Option Value × List mmC} (b40 : v7 < 2147483647) (hk : (kK (fun a : Int32 × Int32 × Int32 × Ob × Ob => mu a.2.2.1) (mu v7) (fun a : Int32 × Int32 × Int32 × Ob × Ob => Ev mmPT tbX8_walkForm 40 [some (.ref 114), some (.ref 34), none, none, some (.ref 131), some (.int a.1), some (.int a.2.1), some (.int a.2.2.1)] [] (mh sc rest to fl ma tr mk cn nu de a.2.2.2.1 la tb a.2.2.2.2 ph cs) x) (kO (fun r : Ob × Ob => (none, mh sc rest to fl ma tr mk cn nu de r.1 la tb r.2 ph cs)) x)) (Runner_walkForm_k_80 ma ru tf v5 v7)) : Ev mmPT tbX8_walkForm 80 [some (.ref 114), some (.ref 34), none, none, some (.ref 131), some (.int v5), none, some (.int v7)] [] (mh sc rest to fl ma tr mk cn nu de ru la tb tf ph cs) x := by
  unfold Runner_walkForm_k_80 at hk
  refine Ev.s (ins := .iload 5) (pc' := 82) rfl rfl ?_
  refine q_ic 2 rfl rfl ?_
  refine Ev.s (ins := .imul) (pc' := 84) rfl rfl ?_
  refine Ev.s (ins := .aload 4) (pc' := 86) rfl rfl ?_
  refine Ev.s (ins := .aload_n 1) (pc' := 87) rfl rfl ?_
  refine gf_34_11 rfl ?_
  refine Ev.s (ins := .iload 5) (pc' := 92) rfl rfl ?_
  refine at_57 (oat ma 11 10 v5) rfl (Nat.le_of_ble_eq_true rfl) rfl ?_
  refine Ev.s (ins := .aload_n 0) (pc' := 96) rfl rfl ?_
  refine Ev.s (ins := .aload_n 1) (pc' := 97) rfl rfl ?_
  refine q_si 140 rfl rfl ?_
  refine Ev.s (ins := .iload 5) (pc' := 102) rfl rfl ?_
  refine Ev.s (ins := .iadd) (pc' := 103) rfl rfl ?_
  refine q_ic 0 rfl rfl ?_
  refine kc_X8_reckon_0 rfl oi_114 rfl (Nat.le_of_ble_eq_true rfl) (e_Runner_reckon_114_34) ?_
  refine kc_X9_leaveBy_0 rfl oi_131 rfl (Nat.le_of_ble_eq_true rfl) (e_Tape_leaveBy_k_131) ?_
  refine Ev.weak [some (.ref 114), some (.ref 34), none, none, some (.ref 131), none, none, some (.int v7)] ⟨rfl, rfl, rfl, rfl, rfl, rfl, rfl, rfl, trivial⟩ ?_
  exact e_Runner_walkForm_k_114_34_131_110 b40 hk
set_option maxRecDepth 100000 in
theorem e_Runner_walkForm_k_114_34_131_L40b {v5 : Int32} {v6 : Int32} {v7 : Int32} {x : Option Value × List mmC} (hk : (kK (fun a : Int32 × Int32 × Int32 × Ob × Ob => mu a.2.2.1) (mu v7) (fun a : Int32 × Int32 × Int32 × Ob × Ob => Ev mmPT tbX8_walkForm 40 [some (.ref 114), some (.ref 34), none, none, some (.ref 131), some (.int a.1), some (.int a.2.1), some (.int a.2.2.1)] [] (mh sc rest to fl ma tr mk cn nu de a.2.2.2.1 la tb a.2.2.2.2 ph cs) x) (kO (fun r : Ob × Ob => (none, mh sc rest to fl ma tr mk cn nu de r.1 la tb r.2 ph cs)) x)) (Runner_walkForm_k_L40b ma ru tf v5 v6 v7)) : Ev mmPT tbX8_walkForm 40 [some (.ref 114), some (.ref 34), none, none, some (.ref 131), some (.int v5), some (.int v6), some (.int v7)] [] (mh sc rest to fl ma tr mk cn nu de ru la tb tf ph cs) x := by
  unfold Runner_walkForm_k_L40b at hk
  refine Ev.s (ins := .aload 4) (pc' := 42) rfl rfl ?_
  refine gf_131_2 (tf.2.2 0) rfl rfl ?_
  refine q_beq rfl hk (fun c1 hk => ?_) (fun c1 hk => ?_)
  · refine Ev.s (ins := .iload 7) (pc' := 50) rfl rfl ?_
    refine q_si 300 rfl rfl ?_
    refine q_cgt rfl hk (fun c2 hk => ?_) (fun c2 hk => ?_)
    · replace hk := kK_r hk
      exact Ev.vret rfl rfl hk
    · refine Ev.s (ins := .aload_n 0) (pc' := 57) rfl rfl ?_
      refine Ev.s (ins := .aload_n 1) (pc' := 58) rfl rfl ?_
      refine Ev.s (ins := .iload 5) (pc' := 60) rfl rfl ?_
      refine Ev.s (ins := .aload_n 1) (pc' := 61) rfl rfl ?_
      refine Ev.s (ins := .iload 5) (pc' := 63) rfl rfl ?_
      refine Ev.s (ins := .iload 6) (pc' := 65) rfl rfl ?_
      refine kc_X3_edgeOf_0 rfl oi_34 rfl (Nat.le_of_ble_eq_true rfl) (e_Form_edgeOf_34) ?_
      refine kc_X8_doPhis_0 rfl oi_114 rfl (Nat.le_of_ble_eq_true rfl) (e_Runner_doPhis_114_34) ?_
      refine Ev.s (ins := .aload_n 0) (pc' := 72) rfl rfl ?_
      refine Ev.s (ins := .aload_n 1) (pc' := 73) rfl rfl ?_
      refine Ev.s (ins := .iload 5) (pc' := 75) rfl rfl ?_
      refine Ev.s (ins := .aload 4) (pc' := 77) rfl rfl ?_
      refine kc_X8_doValues_0 rfl oi_114 rfl (Nat.le_of_ble_eq_true rfl) (e_Runner_doValues_k_114_34_131) ?_
      refine Ev.weak [some (.ref 114), some (.ref 34), none, none, some (.ref 131), some (.int v5), none, some (.int v7)] ⟨rfl, rfl, rfl, rfl, rfl, rfl, rfl, rfl, trivial⟩ ?_
      exact e_Runner_walkForm_k_114_34_131_80 (le31 (by decide) c2) hk
  · replace hk := kK_r hk
    exact Ev.vret rfl rfl hk
set_option maxRecDepth 100000 in
theorem e_Runner_walkForm_k_114_34_131_L40 {v5 : Int32} {v6 : Int32} {v7 : Int32} {x : Option Value × List mmC} (hk : (kO (fun r : Ob × Ob => (none, mh sc rest to fl ma tr mk cn nu de r.1 la tb r.2 ph cs)) x) (Runner_walkForm_k_L40 ma ru tf v5 v6 v7)) : Ev mmPT tbX8_walkForm 40 [some (.ref 114), some (.ref 34), none, none, some (.ref 131), some (.int v5), some (.int v6), some (.int v7)] [] (mh sc rest to fl ma tr mk cn nu de ru la tb tf ph cs) x :=
  k_loop (B := (fun a : Int32 × Int32 × Int32 × Ob × Ob => Runner_walkForm_k_L40b ma a.2.2.2.1 a.2.2.2.2 a.1 a.2.1 a.2.2.1)) (μ := fun a : Int32 × Int32 × Int32 × Ob × Ob => mu a.2.2.1) (E := fun a : Int32 × Int32 × Int32 × Ob × Ob => Ev mmPT tbX8_walkForm 40 [some (.ref 114), some (.ref 34), none, none, some (.ref 131), some (.int a.1), some (.int a.2.1), some (.int a.2.2.1)] [] (mh sc rest to fl ma tr mk cn nu de a.2.2.2.1 la tb a.2.2.2.2 ph cs) x) (X := (kO (fun r : Ob × Ob => (none, mh sc rest to fl ma tr mk cn nu de r.1 la tb r.2 ph cs)) x)) (fun a hk => e_Runner_walkForm_k_114_34_131_L40b hk) (v5, v6, v7, ru, tf) hk
set_option maxRecDepth 100000 in
theorem e_Runner_walkForm_k_114_34_131_0 {v2 : Int32} {v3 : Int32} {x : Option Value × List mmC} (hk : (kO (fun r : Ob × Ob => (none, mh sc rest to fl ma tr mk cn nu de r.1 la tb r.2 ph cs)) x) (Runner_walkForm_k ma ru tf v2 v3)) : Ev mmPT tbX8_walkForm 0 [some (.ref 114), some (.ref 34), some (.int v2), some (.int v3), some (.ref 131), none, none, none] [] (mh sc rest to fl ma tr mk cn nu de ru la tb tf ph cs) x := by
  unfold Runner_walkForm_k at hk
  refine Ev.s (ins := .aload 4) (pc' := 2) rfl rfl ?_
  refine kc_X9_begin_0 rfl oi_131 rfl (Nat.le_of_ble_eq_true rfl) (e_Tape_begin_k_131) ?_
  refine Ev.s (ins := .aload_n 0) (pc' := 6) rfl rfl ?_
  refine gf_114_1 rfl ?_
  refine q_ic 0 rfl rfl ?_
  refine fl_117 rfl (Nat.le_of_ble_eq_true rfl) ?_
  refine Ev.s (ins := .aload_n 0) (pc' := 14) rfl rfl ?_
  refine gf_114_1 rfl ?_
  refine q_ic 0 rfl rfl ?_
  refine Ev.s (ins := .iload_n 2) (pc' := 19) rfl rfl ?_
  refine pt_117 rfl (Nat.le_of_ble_eq_true rfl) ?_
  refine Ev.s (ins := .aload_n 0) (pc' := 23) rfl rfl ?_
  refine gf_114_1 rfl ?_
  refine q_ic 1 rfl rfl ?_
  refine Ev.s (ins := .iload_n 3) (pc' := 28) rfl rfl ?_
  refine pt_117 rfl (Nat.le_of_ble_eq_true rfl) ?_
  refine q_ic 0 rfl rfl ?_
  refine Ev.s (ins := .istore 5) (pc' := 34) (lv' := [some (.ref 114), some (.ref 34), some (.int v2), some (.int v3), some (.ref 131), some (.int 0), none, none]) rfl rfl ?_
  refine q_ic (-1) rfl rfl ?_
  refine Ev.s (ins := .istore 6) (pc' := 37) (lv' := [some (.ref 114), some (.ref 34), some (.int v2), some (.int v3), some (.ref 131), some (.int 0), some (.int (-1)), none]) rfl rfl ?_
  refine q_ic 0 rfl rfl ?_
  refine Ev.s (ins := .istore 7) (pc' := 40) (lv' := [some (.ref 114), some (.ref 34), some (.int v2), some (.int v3), some (.ref 131), some (.int 0), some (.int (-1)), some (.int 0)]) rfl rfl ?_
  refine Ev.weak [some (.ref 114), some (.ref 34), none, none, some (.ref 131), some (.int 0), some (.int (-1)), some (.int 0)] ⟨rfl, rfl, rfl, rfl, rfl, rfl, rfl, rfl, trivial⟩ ?_
  exact e_Runner_walkForm_k_114_34_131_L40 hk
set_option maxRecDepth 100000 in
theorem e_Runner_walkForm_k_114_34_131 {v2 : Int32} {v3 : Int32} : Ev mmPT tbX8_walkForm 0 [some (.ref 114), some (.ref 34), some (.int v2), some (.int v3), some (.ref 131), none, none, none] [] (mh sc rest to fl ma tr mk cn nu de ru la tb tf ph cs) ((fun r : Ob × Ob => (none, mh sc rest to fl ma tr mk cn nu de r.1 la tb r.2 ph cs)) (Runner_walkForm_k ma ru tf v2 v3)) := e_Runner_walkForm_k_114_34_131_0 (by exact rfl)
set_option maxRecDepth 100000 in
theorem e_Tape_isLike_k_126_131_75 {v3 : Int32} {w0 : Bool} {x : Option Value × List mmC} (b41 : v3 < 2147483647) (hk : (kK (fun a : Bool × Int32 => mu a.2) (mu v3) (fun a : Bool × Int32 => Ev mmPT tbX9_isLike 41 [some (.ref 126), some (.ref 131), some (.int (b2i a.1)), some (.int a.2)] [] (mh sc rest to fl ma tr mk cn nu de ru la tb tf ph cs) x) (kO (fun r : Bool => (some (.int (b2i r)), mh sc rest to fl ma tr mk cn nu de ru la tb tf ph cs)) x)) (Tape_isLike_k_75 tb tf v3 w0)) : Ev mmPT tbX9_isLike 75 [some (.ref 126), some (.ref 131), none, some (.int v3)] [.int (b2i w0)] (mh sc rest to fl ma tr mk cn nu de ru la tb tf ph cs) x := by
  unfold Tape_isLike_k_75 at hk
  refine Ev.s (ins := .istore_n 2) (pc' := 76) (lv' := [some (.ref 126), some (.ref 131), some (.int (b2i w0)), some (.int v3)]) rfl rfl ?_
  refine q_inc 1 [some (.ref 126), some (.ref 131), some (.int (b2i w0)), some (.int (v3 + 1))] rfl rfl rfl rfl ?_
  refine Ev.goto rfl ?_
  replace hk := kK_l hk
  exact hk (mu_lt b41)
set_option maxRecDepth 100000 in
theorem e_Tape_isLike_k_126_131_74 {v3 : Int32} {x : Option Value × List mmC} (b41 : v3 < 2147483647) (hk : (kK (fun a : Bool × Int32 => mu a.2) (mu v3) (fun a : Bool × Int32 => Ev mmPT tbX9_isLike 41 [some (.ref 126), some (.ref 131), some (.int (b2i a.1)), some (.int a.2)] [] (mh sc rest to fl ma tr mk cn nu de ru la tb tf ph cs) x) (kO (fun r : Bool => (some (.int (b2i r)), mh sc rest to fl ma tr mk cn nu de ru la tb tf ph cs)) x)) (Tape_isLike_k_74 tb tf v3)) : Ev mmPT tbX9_isLike 74 [some (.ref 126), some (.ref 131), none, some (.int v3)] [] (mh sc rest to fl ma tr mk cn nu de ru la tb tf ph cs) x := by
  unfold Tape_isLike_k_74 at hk
  refine q_ic 0 rfl rfl ?_
  exact e_Tape_isLike_k_126_131_75 b41 hk
set_option maxRecDepth 100000 in
theorem e_Tape_isLike_k_126_131_120 {v3 : Int32} {w0 : Bool} {x : Option Value × List mmC} (b84 : v3 < 2147483647) (hk : (kK (fun a : Bool × Int32 => mu a.2) (mu v3) (fun a : Bool × Int32 => Ev mmPT tbX9_isLike 84 [some (.ref 126), some (.ref 131), some (.int (b2i a.1)), some (.int a.2)] [] (mh sc rest to fl ma tr mk cn nu de ru la tb tf ph cs) x) (kO (fun r : Bool => (some (.int (b2i r)), mh sc rest to fl ma tr mk cn nu de ru la tb tf ph cs)) x)) (Tape_isLike_k_120 tb tf v3 w0)) : Ev mmPT tbX9_isLike 120 [some (.ref 126), some (.ref 131), none, some (.int v3)] [.int (b2i w0)] (mh sc rest to fl ma tr mk cn nu de ru la tb tf ph cs) x := by
  unfold Tape_isLike_k_120 at hk
  refine Ev.s (ins := .istore_n 2) (pc' := 121) (lv' := [some (.ref 126), some (.ref 131), some (.int (b2i w0)), some (.int v3)]) rfl rfl ?_
  refine q_inc 1 [some (.ref 126), some (.ref 131), some (.int (b2i w0)), some (.int (v3 + 1))] rfl rfl rfl rfl ?_
  refine Ev.goto rfl ?_
  replace hk := kK_l hk
  exact hk (mu_lt b84)
set_option maxRecDepth 100000 in
theorem e_Tape_isLike_k_126_131_127 {v2 : Bool} {x : Option Value × List mmC} (hk : (kO (fun r : Bool => (some (.int (b2i r)), mh sc rest to fl ma tr mk cn nu de ru la tb tf ph cs)) x) (Tape_isLike_k_127 tb tf v2)) : Ev mmPT tbX9_isLike 127 [none, none, some (.int (b2i v2)), none] [] (mh sc rest to fl ma tr mk cn nu de ru la tb tf ph cs) x := by
  unfold Tape_isLike_k_127 at hk
  refine Ev.s (ins := .iload_n 2) (pc' := 128) rfl rfl ?_
  exact Ev.zret rfl rfl (b2i_01 _) hk
set_option maxRecDepth 100000 in
theorem e_Tape_isLike_k_126_131_L84b {v2 : Bool} {v3 : Int32} {x : Option Value × List mmC} (hk : (kK (fun a : Bool × Int32 => mu a.2) (mu v3) (fun a : Bool × Int32 => Ev mmPT tbX9_isLike 84 [some (.ref 126), some (.ref 131), some (.int (b2i a.1)), some (.int a.2)] [] (mh sc rest to fl ma tr mk cn nu de ru la tb tf ph cs) x) (kO (fun r : Bool => (some (.int (b2i r)), mh sc rest to fl ma tr mk cn nu de ru la tb tf ph cs)) x)) (Tape_isLike_k_L84b tb tf v2 v3)) : Ev mmPT tbX9_isLike 84 [some (.ref 126), some (.ref 131), some (.int (b2i v2)), some (.int v3)] [] (mh sc rest to fl ma tr mk cn nu de ru la tb tf ph cs) x := by
  unfold Tape_isLike_k_L84b at hk
  refine Ev.s (ins := .iload_n 2) (pc' := 85) rfl rfl ?_
  refine q_beq rfl hk (fun c1 hk => ?_) (fun c1 hk => ?_)
  · refine Ev.s (ins := .iload_n 3) (pc' := 89) rfl rfl ?_
    refine Ev.s (ins := .aload_n 0) (pc' := 90) rfl rfl ?_
    refine gf_126_5 (tb.2.1 2) rfl rfl ?_
    refine q_cge rfl hk (fun c2 hk => ?_) (fun c2 hk => ?_)
    · refine Ev.s (ins := .aload_n 0) (pc' := 97) rfl rfl ?_
      refine gf_126_0 rfl ?_
      refine Ev.s (ins := .iload_n 3) (pc' := 101) rfl rfl ?_
      refine at_129 (oat tb 1 2408 v3) rfl (Nat.le_of_ble_eq_true rfl) rfl ?_
      refine Ev.s (ins := .aload_n 1) (pc' := 105) rfl rfl ?_
      refine gf_131_0 rfl ?_
      refine Ev.s (ins := .iload_n 3) (pc' := 109) rfl rfl ?_
      refine at_134 (oat tf 1 2408 v3) rfl (Nat.le_of_ble_eq_true rfl) rfl ?_
      refine q_cne rfl hk (fun c3 hk => ?_) (fun c3 hk => ?_)
      · refine q_ic 1 rfl rfl ?_
        refine Ev.goto rfl ?_
        refine Ev.weak [some (.ref 126), some (.ref 131), none, some (.int v3)] ⟨rfl, rfl, rfl, rfl, trivial⟩ ?_
        exact e_Tape_isLike_k_126_131_120 (lt31 c2) hk
      · refine q_ic 0 rfl rfl ?_
        refine Ev.weak [some (.ref 126), some (.ref 131), none, some (.int v3)] ⟨rfl, rfl, rfl, rfl, trivial⟩ ?_
        exact e_Tape_isLike_k_126_131_120 (lt31 c2) hk
    · replace hk := kK_r hk
      refine Ev.weak [none, none, some (.int (b2i v2)), none] ⟨rfl, rfl, rfl, rfl, trivial⟩ ?_
      exact e_Tape_isLike_k_126_131_127 hk
  · replace hk := kK_r hk
    refine Ev.weak [none, none, some (.int (b2i v2)), none] ⟨rfl, rfl, rfl, rfl, trivial⟩ ?_
    exact e_Tape_isLike_k_126_131_127 hk
set_option maxRecDepth 100000 in
theorem e_Tape_isLike_k_126_131_L84 {v2 : Bool} {v3 : Int32} {x : Option Value × List mmC} (hk : (kO (fun r : Bool => (some (.int (b2i r)), mh sc rest to fl ma tr mk cn nu de ru la tb tf ph cs)) x) (Tape_isLike_k_L84 tb tf v2 v3)) : Ev mmPT tbX9_isLike 84 [some (.ref 126), some (.ref 131), some (.int (b2i v2)), some (.int v3)] [] (mh sc rest to fl ma tr mk cn nu de ru la tb tf ph cs) x :=
  k_loop (B := (fun a : Bool × Int32 => Tape_isLike_k_L84b tb tf a.1 a.2)) (μ := fun a : Bool × Int32 => mu a.2) (E := fun a : Bool × Int32 => Ev mmPT tbX9_isLike 84 [some (.ref 126), some (.ref 131), some (.int (b2i a.1)), some (.int a.2)] [] (mh sc rest to fl ma tr mk cn nu de ru la tb tf ph cs) x) (X := (kO (fun r : Bool => (some (.int (b2i r)), mh sc rest to fl ma tr mk cn nu de ru la tb tf ph cs)) x)) (fun a hk => e_Tape_isLike_k_126_131_L84b hk) (v2, v3) hk
set_option maxRecDepth 100000 in
theorem e_Tape_isLike_k_126_131_L41b {v2 : Bool} {v3 : Int32} {x : Option Value × List mmC} (hk : (kK (fun a : Bool × Int32 => mu a.2) (mu v3) (fun a : Bool × Int32 => Ev mmPT tbX9_isLike 41 [some (.ref 126), some (.ref 131), some (.int (b2i a.1)), some (.int a.2)] [] (mh sc rest to fl ma tr mk cn nu de ru la tb tf ph cs) x) (kO (fun r : Bool => (some (.int (b2i r)), mh sc rest to fl ma tr mk cn nu de ru la tb tf ph cs)) x)) (Tape_isLike_k_L41b tb tf v2 v3)) : Ev mmPT tbX9_isLike 41 [some (.ref 126), some (.ref 131), some (.int (b2i v2)), some (.int v3)] [] (mh sc rest to fl ma tr mk cn nu de ru la tb tf ph cs) x := by
  unfold Tape_isLike_k_L41b at hk
  refine Ev.s (ins := .iload_n 3) (pc' := 42) rfl rfl ?_
  refine q_bi 8 rfl rfl ?_
  refine q_cge rfl hk (fun c1 hk => ?_) (fun c1 hk => ?_)
  · refine Ev.s (ins := .iload_n 2) (pc' := 48) rfl rfl ?_
    refine q_beq rfl hk (fun c2 hk => ?_) (fun c2 hk => ?_)
    · refine Ev.s (ins := .aload_n 0) (pc' := 52) rfl rfl ?_
      refine gf_126_1 rfl ?_
      refine Ev.s (ins := .iload_n 3) (pc' := 56) rfl rfl ?_
      refine at_127 (oat tb 0 8 v3) rfl (Nat.le_of_ble_eq_true rfl) rfl ?_
      refine Ev.s (ins := .aload_n 1) (pc' := 60) rfl rfl ?_
      refine gf_131_1 rfl ?_
      refine Ev.s (ins := .iload_n 3) (pc' := 64) rfl rfl ?_
      refine at_132 (oat tf 0 8 v3) rfl (Nat.le_of_ble_eq_true rfl) rfl ?_
      refine q_cne rfl hk (fun c3 hk => ?_) (fun c3 hk => ?_)
      · refine q_ic 1 rfl rfl ?_
        refine Ev.goto rfl ?_
        refine Ev.weak [some (.ref 126), some (.ref 131), none, some (.int v3)] ⟨rfl, rfl, rfl, rfl, trivial⟩ ?_
        exact e_Tape_isLike_k_126_131_75 (lt31 c1) hk
      · refine Ev.weak [some (.ref 126), some (.ref 131), none, some (.int v3)] ⟨rfl, rfl, rfl, rfl, trivial⟩ ?_
        exact e_Tape_isLike_k_126_131_74 (lt31 c1) hk
    · refine Ev.weak [some (.ref 126), some (.ref 131), none, some (.int v3)] ⟨rfl, rfl, rfl, rfl, trivial⟩ ?_
      exact e_Tape_isLike_k_126_131_74 (lt31 c1) hk
  · replace hk := kK_r hk
    refine q_ic 0 rfl rfl ?_
    refine Ev.s (ins := .istore_n 3) (pc' := 84) (lv' := [some (.ref 126), some (.ref 131), some (.int (b2i v2)), some (.int 0)]) rfl rfl ?_
    exact e_Tape_isLike_k_126_131_L84 hk
set_option maxRecDepth 100000 in
theorem e_Tape_isLike_k_126_131_L41 {v2 : Bool} {v3 : Int32} {x : Option Value × List mmC} (hk : (kO (fun r : Bool => (some (.int (b2i r)), mh sc rest to fl ma tr mk cn nu de ru la tb tf ph cs)) x) (Tape_isLike_k_L41 tb tf v2 v3)) : Ev mmPT tbX9_isLike 41 [some (.ref 126), some (.ref 131), some (.int (b2i v2)), some (.int v3)] [] (mh sc rest to fl ma tr mk cn nu de ru la tb tf ph cs) x :=
  k_loop (B := (fun a : Bool × Int32 => Tape_isLike_k_L41b tb tf a.1 a.2)) (μ := fun a : Bool × Int32 => mu a.2) (E := fun a : Bool × Int32 => Ev mmPT tbX9_isLike 41 [some (.ref 126), some (.ref 131), some (.int (b2i a.1)), some (.int a.2)] [] (mh sc rest to fl ma tr mk cn nu de ru la tb tf ph cs) x) (X := (kO (fun r : Bool => (some (.int (b2i r)), mh sc rest to fl ma tr mk cn nu de ru la tb tf ph cs)) x)) (fun a hk => e_Tape_isLike_k_126_131_L41b hk) (v2, v3) hk
set_option maxRecDepth 100000 in
theorem e_Tape_isLike_k_126_131_38 {w0 : Bool} {x : Option Value × List mmC} (hk : (kO (fun r : Bool => (some (.int (b2i r)), mh sc rest to fl ma tr mk cn nu de ru la tb tf ph cs)) x) (Tape_isLike_k_38 tb tf w0)) : Ev mmPT tbX9_isLike 38 [some (.ref 126), some (.ref 131), none, none] [.int (b2i w0)] (mh sc rest to fl ma tr mk cn nu de ru la tb tf ph cs) x := by
  unfold Tape_isLike_k_38 at hk
  refine Ev.s (ins := .istore_n 2) (pc' := 39) (lv' := [some (.ref 126), some (.ref 131), some (.int (b2i w0)), none]) rfl rfl ?_
  refine q_ic 0 rfl rfl ?_
  refine Ev.s (ins := .istore_n 3) (pc' := 41) (lv' := [some (.ref 126), some (.ref 131), some (.int (b2i w0)), some (.int 0)]) rfl rfl ?_
  exact e_Tape_isLike_k_126_131_L41 hk
set_option maxRecDepth 100000 in
theorem e_Tape_isLike_k_126_131_37 {x : Option Value × List mmC} (hk : (kO (fun r : Bool => (some (.int (b2i r)), mh sc rest to fl ma tr mk cn nu de ru la tb tf ph cs)) x) (Tape_isLike_k_37 tb tf)) : Ev mmPT tbX9_isLike 37 [some (.ref 126), some (.ref 131), none, none] [] (mh sc rest to fl ma tr mk cn nu de ru la tb tf ph cs) x := by
  unfold Tape_isLike_k_37 at hk
  refine q_ic 0 rfl rfl ?_
  exact e_Tape_isLike_k_126_131_38 hk
set_option maxRecDepth 100000 in
theorem e_Tape_isLike_k_126_131_0 {x : Option Value × List mmC} (hk : (kO (fun r : Bool => (some (.int (b2i r)), mh sc rest to fl ma tr mk cn nu de ru la tb tf ph cs)) x) (Tape_isLike_k tb tf)) : Ev mmPT tbX9_isLike 0 [some (.ref 126), some (.ref 131), none, none] [] (mh sc rest to fl ma tr mk cn nu de ru la tb tf ph cs) x := by
  unfold Tape_isLike_k at hk
  refine Ev.s (ins := .aload_n 0) (pc' := 1) rfl rfl ?_
  refine gf_126_3 (tb.2.1 0) rfl rfl ?_
  refine Ev.s (ins := .aload_n 1) (pc' := 5) rfl rfl ?_
  refine gf_131_3 (tf.2.1 0) rfl rfl ?_
  refine q_cne rfl hk (fun c1 hk => ?_) (fun c1 hk => ?_)
  · refine Ev.s (ins := .aload_n 0) (pc' := 12) rfl rfl ?_
    refine gf_126_4 (tb.2.1 1) rfl rfl ?_
    refine Ev.s (ins := .aload_n 1) (pc' := 16) rfl rfl ?_
    refine gf_131_4 (tf.2.1 1) rfl rfl ?_
    refine q_cne rfl hk (fun c2 hk => ?_) (fun c2 hk => ?_)
    · refine Ev.s (ins := .aload_n 0) (pc' := 23) rfl rfl ?_
      refine gf_126_5 (tb.2.1 2) rfl rfl ?_
      refine Ev.s (ins := .aload_n 1) (pc' := 27) rfl rfl ?_
      refine gf_131_5 (tf.2.1 2) rfl rfl ?_
      refine q_cne rfl hk (fun c3 hk => ?_) (fun c3 hk => ?_)
      · refine q_ic 1 rfl rfl ?_
        refine Ev.goto rfl ?_
        exact e_Tape_isLike_k_126_131_38 hk
      · exact e_Tape_isLike_k_126_131_37 hk
    · exact e_Tape_isLike_k_126_131_37 hk
  · exact e_Tape_isLike_k_126_131_37 hk
set_option maxRecDepth 100000 in
theorem e_Tape_isLike_k_126_131 : Ev mmPT tbX9_isLike 0 [some (.ref 126), some (.ref 131), none, none] [] (mh sc rest to fl ma tr mk cn nu de ru la tb tf ph cs) ((fun r : Bool => (some (.int (b2i r)), mh sc rest to fl ma tr mk cn nu de ru la tb tf ph cs)) (Tape_isLike_k tb tf)) := e_Tape_isLike_k_126_131_0 (by exact rfl)
set_option maxRecDepth 100000 in
theorem e_Ph_isAlike_51 {x : Option Value × List mmC} (hk : (kP (fun r : Bool × Ob × Ob × Ob => (some (.int (b2i r.1)), mh sc rest to fl ma tr mk cn nu de r.2.1 la r.2.2.1 r.2.2.2 ph cs)) x) (Ph_isAlike_51 to ma ru tb tf ph)) : Ev mmPT tbX11_isAlike 51 [some (.ref 1), none, none] [] (mh sc rest to fl ma tr mk cn nu de ru la tb tf ph cs) x := by
  unfold Ph_isAlike_51 at hk
  refine Ev.s (ins := .aload_n 0) (pc' := 52) rfl rfl ?_
  refine gf_1_10 rfl ?_
  refine Ev.s (ins := .aload_n 0) (pc' := 56) rfl rfl ?_
  refine gf_1_11 rfl ?_
  refine kc_X9_isLike_0 rfl oi_126 rfl (Nat.le_of_ble_eq_true rfl) (e_Tape_isLike_k_126_131) ?_
  exact Ev.zret rfl rfl (b2i_01 _) hk
set_option maxRecDepth 100000 in
theorem e_Ph_isAlike_34 {v1 : Int32} {v2 : Int32} {x : Option Value × List mmC} (hk : (kP (fun r : Bool × Ob × Ob × Ob => (some (.int (b2i r.1)), mh sc rest to fl ma tr mk cn nu de r.2.1 la r.2.2.1 r.2.2.2 ph cs)) x) (Ph_isAlike_34 to ma ru tb tf ph v1 v2)) : Ev mmPT tbX11_isAlike 34 [some (.ref 1), some (.int v1), some (.int v2)] [] (mh sc rest to fl ma tr mk cn nu de ru la tb tf ph cs) x := by
  unfold Ph_isAlike_34 at hk
  refine Ev.s (ins := .aload_n 0) (pc' := 35) rfl rfl ?_
  refine gf_1_8 rfl ?_
  refine Ev.s (ins := .aload_n 0) (pc' := 39) rfl rfl ?_
  refine gf_1_1 rfl ?_
  refine Ev.s (ins := .iload_n 1) (pc' := 43) rfl rfl ?_
  refine Ev.s (ins := .iload_n 2) (pc' := 44) rfl rfl ?_
  refine Ev.s (ins := .aload_n 0) (pc' := 45) rfl rfl ?_
  refine gf_1_11 rfl ?_
  refine kc_X8_walkForm_0 rfl oi_114 rfl (Nat.le_of_ble_eq_true rfl) (e_Runner_walkForm_k_114_34_131) ?_
  refine Ev.weak [some (.ref 1), none, none] ⟨rfl, rfl, rfl, trivial⟩ ?_
  exact e_Ph_isAlike_51 hk
set_option maxRecDepth 100000 in
theorem e_Ph_isAlike_0 {v1 : Int32} {v2 : Int32} {x : Option Value × List mmC} (hk : (kP (fun r : Bool × Ob × Ob × Ob => (some (.int (b2i r.1)), mh sc rest to fl ma tr mk cn nu de r.2.1 la r.2.2.1 r.2.2.2 ph cs)) x) (Ph_isAlike to ma ru tb tf ph v1 v2)) : Ev mmPT tbX11_isAlike 0 [some (.ref 1), some (.int v1), some (.int v2)] [] (mh sc rest to fl ma tr mk cn nu de ru la tb tf ph cs) x := by
  unfold Ph_isAlike at hk
  refine Ev.s (ins := .aload_n 0) (pc' := 1) rfl rfl ?_
  refine gf_1_12 (ph.2.2 0) rfl rfl ?_
  refine q_bne rfl hk (fun c1 hk => ?_) (fun c1 hk => ?_)
  · refine Ev.s (ins := .aload_n 0) (pc' := 18) rfl rfl ?_
    refine gf_1_8 rfl ?_
    refine Ev.s (ins := .aload_n 0) (pc' := 22) rfl rfl ?_
    refine gf_1_0 rfl ?_
    refine Ev.s (ins := .iload_n 1) (pc' := 26) rfl rfl ?_
    refine Ev.s (ins := .iload_n 2) (pc' := 27) rfl rfl ?_
    refine Ev.s (ins := .aload_n 0) (pc' := 28) rfl rfl ?_
    refine gf_1_10 rfl ?_
    refine kc_X8_walkBlocks_0 rfl oi_114 rfl (Nat.le_of_ble_eq_true rfl) (e_Runner_walkBlocks_k_114_2_126) ?_
    exact e_Ph_isAlike_34 hk
  · exact False.elim hk
set_option maxRecDepth 100000 in
theorem e_Ph_isAlike {v1 : Int32} {v2 : Int32} {r : Bool × Ob × Ob × Ob} (hr : (Ph_isAlike to ma ru tb tf ph v1 v2) = some r) : Ev mmPT tbX11_isAlike 0 [some (.ref 1), some (.int v1), some (.int v2)] [] (mh sc rest to fl ma tr mk cn nu de ru la tb tf ph cs) ((fun r : Bool × Ob × Ob × Ob => (some (.int (b2i r.1)), mh sc rest to fl ma tr mk cn nu de r.2.1 la r.2.2.1 r.2.2.2 ph cs)) r) := e_Ph_isAlike_0 (by rw [hr]; exact rfl)
set_option maxRecDepth 100000 in
theorem e_Ph_mixed_0 {v0 : Int64} {v2 : Int64} {x : Option Value × List mmC} (hk : (kO (fun r : Int64 => (some (.long r), mh sc rest to fl ma tr mk cn nu de ru la tb tf ph cs)) x) (Ph_mixed v0 v2)) : Ev mmPT tbX11_mixed 0 [some (.long v0), none, some (.long v2), none] [] (mh sc rest to fl ma tr mk cn nu de ru la tb tf ph cs) x := by
  unfold Ph_mixed at hk
  refine Ev.s (ins := .lload_n 0) (pc' := 1) rfl rfl ?_
  refine q_l2 (31 : Int64) rfl rfl ?_
  refine Ev.s (ins := .lmul) (pc' := 5) rfl rfl ?_
  refine Ev.s (ins := .lload_n 2) (pc' := 6) rfl rfl ?_
  refine Ev.s (ins := .ladd) (pc' := 7) rfl rfl ?_
  exact Ev.lret rfl rfl hk
set_option maxRecDepth 100000 in
theorem e_Ph_mixed {v0 : Int64} {v2 : Int64} : Ev mmPT tbX11_mixed 0 [some (.long v0), none, some (.long v2), none] [] (mh sc rest to fl ma tr mk cn nu de ru la tb tf ph cs) ((fun r : Int64 => (some (.long r), mh sc rest to fl ma tr mk cn nu de ru la tb tf ph cs)) (Ph_mixed v0 v2)) := e_Ph_mixed_0 (by exact rfl)
set_option maxRecDepth 100000 in
theorem e_Ph_mixedWithBlocks_L20b {v1 : Int64} {v3 : Int64} {v5 : Int32} {v6 : Int32} {x : Option Value × List mmC} (b5 : v5 < 2147483647) (hk : (kK (fun a : Int64 × Int32 => mu a.2) (mu v6) (fun a : Int64 × Int32 => Ev mmPT tbX11_mixedWithBlocks 20 [some (.ref 1), some (.long v1), none, some (.long a.1), none, some (.int v5), some (.int a.2)] [] (mh sc rest to fl ma tr mk cn nu de ru la tb tf ph cs) x) (kK (fun a : Int64 × Int32 => mu a.2) (mu v5) (fun a : Int64 × Int32 => Ev mmPT tbX11_mixedWithBlocks 5 [some (.ref 1), some (.long v1), none, some (.long a.1), none, some (.int a.2), none] [] (mh sc rest to fl ma tr mk cn nu de ru la tb tf ph cs) x) (kP (fun r : Int64 => (some (.long r), mh sc rest to fl ma tr mk cn nu de ru la tb tf ph cs)) x))) (Ph_mixedWithBlocks_L20b to fl v1 v3 v5 v6)) : Ev mmPT tbX11_mixedWithBlocks 20 [some (.ref 1), some (.long v1), none, some (.long v3), none, some (.int v5), some (.int v6)] [] (mh sc rest to fl ma tr mk cn nu de ru la tb tf ph cs) x := by
  unfold Ph_mixedWithBlocks_L20b at hk
  refine Ev.s (ins := .iload 6) (pc' := 22) rfl rfl ?_
  refine q_ic 5 rfl rfl ?_
  refine q_cgt rfl hk (fun c1 hk => ?_) (fun c1 hk => ?_)
  · replace hk := kK_r hk
    refine q_inc 1 [some (.ref 1), some (.long v1), none, some (.long v3), none, some (.int (v5 + 1)), some (.int v6)] rfl rfl rfl rfl ?_
    refine Ev.goto rfl ?_
    refine Ev.weak [some (.ref 1), some (.long v1), none, some (.long v3), none, some (.int (v5 + 1)), none] ⟨rfl, rfl, rfl, rfl, rfl, rfl, rfl, trivial⟩ ?_
    replace hk := kK_l hk
    exact hk (mu_lt b5)
  · refine Ev.s (ins := .lload_n 3) (pc' := 27) rfl rfl ?_
    refine Ev.s (ins := .aload_n 0) (pc' := 28) rfl rfl ?_
    refine Ev.s (ins := .iload 5) (pc' := 30) rfl rfl ?_
    refine Ev.s (ins := .iload 6) (pc' := 32) rfl rfl ?_
    refine q_ob hk (fun hb => hb) (fun r32 hr32 hk => ?_)
    refine kc_X11_ofBlock_0 rfl oi_1 rfl (Nat.le_of_ble_eq_true rfl) (e_Ph_ofBlock hr32) ?_
    refine Ev.s (ins := .i2l) (pc' := 36) rfl rfl ?_
    refine kc_X11_mixed_2 rfl (Nat.le_of_ble_eq_true rfl) (e_Ph_mixed) ?_
    refine Ev.s (ins := .lstore_n 3) (pc' := 40) (lv' := [some (.ref 1), some (.long v1), none, some (.long (Ph_mixed v3 r32.toInt64)), none, some (.int v5), some (.int v6)]) rfl rfl ?_
    refine q_inc 1 [some (.ref 1), some (.long v1), none, some (.long (Ph_mixed v3 r32.toInt64)), none, some (.int v5), some (.int (v6 + 1))] rfl rfl rfl rfl ?_
    refine Ev.goto rfl ?_
    replace hk := kK_l hk
    exact hk (mu_lt (le31 (by decide) c1))
set_option maxRecDepth 100000 in
theorem e_Ph_mixedWithBlocks_L20 {v1 : Int64} {v3 : Int64} {v5 : Int32} {v6 : Int32} {x : Option Value × List mmC} (b5 : v5 < 2147483647) (hk : (kK (fun a : Int64 × Int32 => mu a.2) (mu v5) (fun a : Int64 × Int32 => Ev mmPT tbX11_mixedWithBlocks 5 [some (.ref 1), some (.long v1), none, some (.long a.1), none, some (.int a.2), none] [] (mh sc rest to fl ma tr mk cn nu de ru la tb tf ph cs) x) (kP (fun r : Int64 => (some (.long r), mh sc rest to fl ma tr mk cn nu de ru la tb tf ph cs)) x)) (Ph_mixedWithBlocks_L20 to fl v1 v3 v5 v6)) : Ev mmPT tbX11_mixedWithBlocks 20 [some (.ref 1), some (.long v1), none, some (.long v3), none, some (.int v5), some (.int v6)] [] (mh sc rest to fl ma tr mk cn nu de ru la tb tf ph cs) x :=
  k_loop (B := (fun a : Int64 × Int32 => Ph_mixedWithBlocks_L20b to fl v1 a.1 v5 a.2)) (μ := fun a : Int64 × Int32 => mu a.2) (E := fun a : Int64 × Int32 => Ev mmPT tbX11_mixedWithBlocks 20 [some (.ref 1), some (.long v1), none, some (.long a.1), none, some (.int v5), some (.int a.2)] [] (mh sc rest to fl ma tr mk cn nu de ru la tb tf ph cs) x) (X := (kK (fun a : Int64 × Int32 => mu a.2) (mu v5) (fun a : Int64 × Int32 => Ev mmPT tbX11_mixedWithBlocks 5 [some (.ref 1), some (.long v1), none, some (.long a.1), none, some (.int a.2), none] [] (mh sc rest to fl ma tr mk cn nu de ru la tb tf ph cs) x) (kP (fun r : Int64 => (some (.long r), mh sc rest to fl ma tr mk cn nu de ru la tb tf ph cs)) x))) (fun a hk => e_Ph_mixedWithBlocks_L20b b5 hk) (v3, v6) hk
set_option maxRecDepth 100000 in
theorem e_Ph_mixedWithBlocks_L5b {v1 : Int64} {v3 : Int64} {v5 : Int32} {x : Option Value × List mmC} (hk : (kK (fun a : Int64 × Int32 => mu a.2) (mu v5) (fun a : Int64 × Int32 => Ev mmPT tbX11_mixedWithBlocks 5 [some (.ref 1), some (.long v1), none, some (.long a.1), none, some (.int a.2), none] [] (mh sc rest to fl ma tr mk cn nu de ru la tb tf ph cs) x) (kP (fun r : Int64 => (some (.long r), mh sc rest to fl ma tr mk cn nu de ru la tb tf ph cs)) x)) (Ph_mixedWithBlocks_L5b to fl v1 v3 v5)) : Ev mmPT tbX11_mixedWithBlocks 5 [some (.ref 1), some (.long v1), none, some (.long v3), none, some (.int v5), none] [] (mh sc rest to fl ma tr mk cn nu de ru la tb tf ph cs) x := by
  unfold Ph_mixedWithBlocks_L5b at hk
  refine Ev.s (ins := .iload 5) (pc' := 7) rfl rfl ?_
  refine Ev.s (ins := .aload_n 0) (pc' := 8) rfl rfl ?_
  refine gf_1_0 rfl ?_
  refine gf_2_12 (to.2.1 0) rfl rfl ?_
  refine q_cge rfl hk (fun c1 hk => ?_) (fun c1 hk => ?_)
  · refine q_ic 0 rfl rfl ?_
    refine Ev.s (ins := .istore 6) (pc' := 20) (lv' := [some (.ref 1), some (.long v1), none, some (.long v3), none, some (.int v5), some (.int 0)]) rfl rfl ?_
    exact e_Ph_mixedWithBlocks_L20 (lt31 c1) hk
  · replace hk := kK_r hk
    refine Ev.s (ins := .lload_n 3) (pc' := 53) rfl rfl ?_
    exact Ev.lret rfl rfl hk
set_option maxRecDepth 100000 in
theorem e_Ph_mixedWithBlocks_L5 {v1 : Int64} {v3 : Int64} {v5 : Int32} {x : Option Value × List mmC} (hk : (kP (fun r : Int64 => (some (.long r), mh sc rest to fl ma tr mk cn nu de ru la tb tf ph cs)) x) (Ph_mixedWithBlocks_L5 to fl v1 v3 v5)) : Ev mmPT tbX11_mixedWithBlocks 5 [some (.ref 1), some (.long v1), none, some (.long v3), none, some (.int v5), none] [] (mh sc rest to fl ma tr mk cn nu de ru la tb tf ph cs) x :=
  k_loop (B := (fun a : Int64 × Int32 => Ph_mixedWithBlocks_L5b to fl v1 a.1 a.2)) (μ := fun a : Int64 × Int32 => mu a.2) (E := fun a : Int64 × Int32 => Ev mmPT tbX11_mixedWithBlocks 5 [some (.ref 1), some (.long v1), none, some (.long a.1), none, some (.int a.2), none] [] (mh sc rest to fl ma tr mk cn nu de ru la tb tf ph cs) x) (X := (kP (fun r : Int64 => (some (.long r), mh sc rest to fl ma tr mk cn nu de ru la tb tf ph cs)) x)) (fun a hk => e_Ph_mixedWithBlocks_L5b hk) (v3, v5) hk
set_option maxRecDepth 100000 in
theorem e_Ph_mixedWithBlocks_0 {v1 : Int64} {x : Option Value × List mmC} (hk : (kP (fun r : Int64 => (some (.long r), mh sc rest to fl ma tr mk cn nu de ru la tb tf ph cs)) x) (Ph_mixedWithBlocks to fl v1)) : Ev mmPT tbX11_mixedWithBlocks 0 [some (.ref 1), some (.long v1), none, none, none, none, none] [] (mh sc rest to fl ma tr mk cn nu de ru la tb tf ph cs) x := by
  unfold Ph_mixedWithBlocks at hk
  refine Ev.s (ins := .lload_n 1) (pc' := 1) rfl rfl ?_
  refine Ev.s (ins := .lstore_n 3) (pc' := 2) (lv' := [some (.ref 1), some (.long v1), none, some (.long v1), none, none, none]) rfl rfl ?_
  refine q_ic 0 rfl rfl ?_
  refine Ev.s (ins := .istore 5) (pc' := 5) (lv' := [some (.ref 1), some (.long v1), none, some (.long v1), none, some (.int 0), none]) rfl rfl ?_
  exact e_Ph_mixedWithBlocks_L5 hk
set_option maxRecDepth 100000 in
theorem e_Ph_mixedWithBlocks {v1 : Int64} {r : Int64} (hr : (Ph_mixedWithBlocks to fl v1) = some r) : Ev mmPT tbX11_mixedWithBlocks 0 [some (.ref 1), some (.long v1), none, none, none, none, none] [] (mh sc rest to fl ma tr mk cn nu de ru la tb tf ph cs) ((fun r : Int64 => (some (.long r), mh sc rest to fl ma tr mk cn nu de ru la tb tf ph cs)) r) := e_Ph_mixedWithBlocks_0 (by rw [hr]; exact rfl)
set_option maxRecDepth 100000 in
theorem e_Ph_mixedWithRun_L72b {v1 : Int64} {v3 : Int64} {v5 : Int32} {x : Option Value × List mmC} (hk : (kK (fun a : Int64 × Int32 => mu a.2) (mu v5) (fun a : Int64 × Int32 => Ev mmPT tbX11_mixedWithRun 72 [some (.ref 1), some (.long v1), none, some (.long a.1), none, some (.int a.2)] [] (mh sc rest to fl ma tr mk cn nu de ru la tb tf ph cs) x) (kP (fun r : Int64 => (some (.long r), mh sc rest to fl ma tr mk cn nu de ru la tb tf ph cs)) x)) (Ph_mixedWithRun_L72b la ph v1 v3 v5)) : Ev mmPT tbX11_mixedWithRun 72 [some (.ref 1), some (.long v1), none, some (.long v3), none, some (.int v5)] [] (mh sc rest to fl ma tr mk cn nu de ru la tb tf ph cs) x := by
  unfold Ph_mixedWithRun_L72b at hk
  refine Ev.s (ins := .iload 5) (pc' := 74) rfl rfl ?_
  refine q_bi 8 rfl rfl ?_
  refine q_cge rfl hk (fun c1 hk => ?_) (fun c1 hk => ?_)
  · refine Ev.s (ins := .lload_n 3) (pc' := 80) rfl rfl ?_
    refine Ev.s (ins := .aload_n 0) (pc' := 81) rfl rfl ?_
    refine Ev.s (ins := .iload 5) (pc' := 83) rfl rfl ?_
    refine q_ob hk (fun hb => hb) (fun r83 hr83 hk => ?_)
    refine kc_X11_cell_0 rfl oi_1 rfl (Nat.le_of_ble_eq_true rfl) (e_Ph_cell hr83) ?_
    refine Ev.s (ins := .i2l) (pc' := 87) rfl rfl ?_
    refine kc_X11_mixed_2 rfl (Nat.le_of_ble_eq_true rfl) (e_Ph_mixed) ?_
    refine Ev.s (ins := .lstore_n 3) (pc' := 91) (lv' := [some (.ref 1), some (.long v1), none, some (.long (Ph_mixed v3 r83.toInt64)), none, some (.int v5)]) rfl rfl ?_
    refine q_inc 1 [some (.ref 1), some (.long v1), none, some (.long (Ph_mixed v3 r83.toInt64)), none, some (.int (v5 + 1))] rfl rfl rfl rfl ?_
    refine Ev.goto rfl ?_
    replace hk := kK_l hk
    exact hk (mu_lt (lt31 c1))
  · replace hk := kK_r hk
    refine Ev.s (ins := .lload_n 3) (pc' := 98) rfl rfl ?_
    exact Ev.lret rfl rfl hk
set_option maxRecDepth 100000 in
theorem e_Ph_mixedWithRun_L72 {v1 : Int64} {v3 : Int64} {v5 : Int32} {x : Option Value × List mmC} (hk : (kP (fun r : Int64 => (some (.long r), mh sc rest to fl ma tr mk cn nu de ru la tb tf ph cs)) x) (Ph_mixedWithRun_L72 la ph v1 v3 v5)) : Ev mmPT tbX11_mixedWithRun 72 [some (.ref 1), some (.long v1), none, some (.long v3), none, some (.int v5)] [] (mh sc rest to fl ma tr mk cn nu de ru la tb tf ph cs) x :=
  k_loop (B := (fun a : Int64 × Int32 => Ph_mixedWithRun_L72b la ph v1 a.1 a.2)) (μ := fun a : Int64 × Int32 => mu a.2) (E := fun a : Int64 × Int32 => Ev mmPT tbX11_mixedWithRun 72 [some (.ref 1), some (.long v1), none, some (.long a.1), none, some (.int a.2)] [] (mh sc rest to fl ma tr mk cn nu de ru la tb tf ph cs) x) (X := (kP (fun r : Int64 => (some (.long r), mh sc rest to fl ma tr mk cn nu de ru la tb tf ph cs)) x)) (fun a hk => e_Ph_mixedWithRun_L72b hk) (v3, v5) hk
set_option maxRecDepth 100000 in
theorem e_Ph_mixedWithRun_69 {v1 : Int64} {v3 : Int64} {x : Option Value × List mmC} (hk : (kP (fun r : Int64 => (some (.long r), mh sc rest to fl ma tr mk cn nu de ru la tb tf ph cs)) x) (Ph_mixedWithRun_69 la ph v1 v3)) : Ev mmPT tbX11_mixedWithRun 69 [some (.ref 1), some (.long v1), none, some (.long v3), none, none] [] (mh sc rest to fl ma tr mk cn nu de ru la tb tf ph cs) x := by
  unfold Ph_mixedWithRun_69 at hk
  refine q_ic 0 rfl rfl ?_
  refine Ev.s (ins := .istore 5) (pc' := 72) (lv' := [some (.ref 1), some (.long v1), none, some (.long v3), none, some (.int 0)]) rfl rfl ?_
  exact e_Ph_mixedWithRun_L72 hk
set_option maxRecDepth 100000 in
theorem e_Ph_mixedWithRun_L32b {v1 : Int64} {v3 : Int64} {v5 : Int32} {x : Option Value × List mmC} (hk : (kK (fun a : Int64 × Int32 => mu a.2) (mu v5) (fun a : Int64 × Int32 => Ev mmPT tbX11_mixedWithRun 32 [some (.ref 1), some (.long v1), none, some (.long a.1), none, some (.int a.2)] [] (mh sc rest to fl ma tr mk cn nu de ru la tb tf ph cs) x) (kP (fun r : Int64 => (some (.long r), mh sc rest to fl ma tr mk cn nu de ru la tb tf ph cs)) x)) (Ph_mixedWithRun_L32b la ph v1 v3 v5)) : Ev mmPT tbX11_mixedWithRun 32 [some (.ref 1), some (.long v1), none, some (.long v3), none, some (.int v5)] [] (mh sc rest to fl ma tr mk cn nu de ru la tb tf ph cs) x := by
  unfold Ph_mixedWithRun_L32b at hk
  refine Ev.s (ins := .iload 5) (pc' := 34) rfl rfl ?_
  refine q_bi 60 rfl rfl ?_
  refine q_cge rfl hk (fun c1 hk => ?_) (fun c1 hk => ?_)
  · refine Ev.s (ins := .iload 5) (pc' := 41) rfl rfl ?_
    refine Ev.s (ins := .aload_n 0) (pc' := 42) rfl rfl ?_
    refine gf_1_9 rfl ?_
    refine gf_121_5 (la.2.1 2) rfl rfl ?_
    refine q_cge rfl hk (fun c2 hk => ?_) (fun c2 hk => ?_)
    · refine Ev.s (ins := .lload_n 3) (pc' := 52) rfl rfl ?_
      refine Ev.s (ins := .aload_n 0) (pc' := 53) rfl rfl ?_
      refine Ev.s (ins := .iload 5) (pc' := 55) rfl rfl ?_
      refine q_ob hk (fun hb => hb) (fun r55 hr55 hk => ?_)
      refine kc_X11_printed_0 rfl oi_1 rfl (Nat.le_of_ble_eq_true rfl) (e_Ph_printed hr55) ?_
      refine Ev.s (ins := .i2l) (pc' := 59) rfl rfl ?_
      refine kc_X11_mixed_2 rfl (Nat.le_of_ble_eq_true rfl) (e_Ph_mixed) ?_
      refine Ev.s (ins := .lstore_n 3) (pc' := 63) (lv' := [some (.ref 1), some (.long v1), none, some (.long (Ph_mixed v3 r55.toInt64)), none, some (.int v5)]) rfl rfl ?_
      refine q_inc 1 [some (.ref 1), some (.long v1), none, some (.long (Ph_mixed v3 r55.toInt64)), none, some (.int (v5 + 1))] rfl rfl rfl rfl ?_
      refine Ev.goto rfl ?_
      replace hk := kK_l hk
      exact hk (mu_lt (lt31 c1))
    · replace hk := kK_r hk
      refine Ev.weak [some (.ref 1), some (.long v1), none, some (.long v3), none, none] ⟨rfl, rfl, rfl, rfl, rfl, rfl, trivial⟩ ?_
      exact e_Ph_mixedWithRun_69 hk
  · replace hk := kK_r hk
    refine Ev.weak [some (.ref 1), some (.long v1), none, some (.long v3), none, none] ⟨rfl, rfl, rfl, rfl, rfl, rfl, trivial⟩ ?_
    exact e_Ph_mixedWithRun_69 hk
set_option maxRecDepth 100000 in
theorem e_Ph_mixedWithRun_L32 {v1 : Int64} {v3 : Int64} {v5 : Int32} {x : Option Value × List mmC} (hk : (kP (fun r : Int64 => (some (.long r), mh sc rest to fl ma tr mk cn nu de ru la tb tf ph cs)) x) (Ph_mixedWithRun_L32 la ph v1 v3 v5)) : Ev mmPT tbX11_mixedWithRun 32 [some (.ref 1), some (.long v1), none, some (.long v3), none, some (.int v5)] [] (mh sc rest to fl ma tr mk cn nu de ru la tb tf ph cs) x :=
  k_loop (B := (fun a : Int64 × Int32 => Ph_mixedWithRun_L32b la ph v1 a.1 a.2)) (μ := fun a : Int64 × Int32 => mu a.2) (E := fun a : Int64 × Int32 => Ev mmPT tbX11_mixedWithRun 32 [some (.ref 1), some (.long v1), none, some (.long a.1), none, some (.int a.2)] [] (mh sc rest to fl ma tr mk cn nu de ru la tb tf ph cs) x) (X := (kP (fun r : Int64 => (some (.long r), mh sc rest to fl ma tr mk cn nu de ru la tb tf ph cs)) x)) (fun a hk => e_Ph_mixedWithRun_L32b hk) (v3, v5) hk
set_option maxRecDepth 100000 in
theorem e_Ph_mixedWithRun_L5b {v1 : Int64} {v3 : Int64} {v5 : Int32} {x : Option Value × List mmC} (hk : (kK (fun a : Int64 × Int32 => mu a.2) (mu v5) (fun a : Int64 × Int32 => Ev mmPT tbX11_mixedWithRun 5 [some (.ref 1), some (.long v1), none, some (.long a.1), none, some (.int a.2)] [] (mh sc rest to fl ma tr mk cn nu de ru la tb tf ph cs) x) (kP (fun r : Int64 => (some (.long r), mh sc rest to fl ma tr mk cn nu de ru la tb tf ph cs)) x)) (Ph_mixedWithRun_L5b la ph v1 v3 v5)) : Ev mmPT tbX11_mixedWithRun 5 [some (.ref 1), some (.long v1), none, some (.long v3), none, some (.int v5)] [] (mh sc rest to fl ma tr mk cn nu de ru la tb tf ph cs) x := by
  unfold Ph_mixedWithRun_L5b at hk
  refine Ev.s (ins := .iload 5) (pc' := 7) rfl rfl ?_
  refine q_ic 5 rfl rfl ?_
  refine q_cgt rfl hk (fun c1 hk => ?_) (fun c1 hk => ?_)
  · replace hk := kK_r hk
    refine q_ic 0 rfl rfl ?_
    refine Ev.s (ins := .istore 5) (pc' := 32) (lv' := [some (.ref 1), some (.long v1), none, some (.long v3), none, some (.int 0)]) rfl rfl ?_
    exact e_Ph_mixedWithRun_L32 hk
  · refine Ev.s (ins := .lload_n 3) (pc' := 12) rfl rfl ?_
    refine Ev.s (ins := .aload_n 0) (pc' := 13) rfl rfl ?_
    refine Ev.s (ins := .iload 5) (pc' := 15) rfl rfl ?_
    refine q_ob hk (fun hb => hb) (fun r15 hr15 hk => ?_)
    refine kc_X11_ofRun_0 rfl oi_1 rfl (Nat.le_of_ble_eq_true rfl) (e_Ph_ofRun hr15) ?_
    refine Ev.s (ins := .i2l) (pc' := 19) rfl rfl ?_
    refine kc_X11_mixed_2 rfl (Nat.le_of_ble_eq_true rfl) (e_Ph_mixed) ?_
    refine Ev.s (ins := .lstore_n 3) (pc' := 23) (lv' := [some (.ref 1), some (.long v1), none, some (.long (Ph_mixed v3 r15.toInt64)), none, some (.int v5)]) rfl rfl ?_
    refine q_inc 1 [some (.ref 1), some (.long v1), none, some (.long (Ph_mixed v3 r15.toInt64)), none, some (.int (v5 + 1))] rfl rfl rfl rfl ?_
    refine Ev.goto rfl ?_
    replace hk := kK_l hk
    exact hk (mu_lt (le31 (by decide) c1))
set_option maxRecDepth 100000 in
theorem e_Ph_mixedWithRun_L5 {v1 : Int64} {v3 : Int64} {v5 : Int32} {x : Option Value × List mmC} (hk : (kP (fun r : Int64 => (some (.long r), mh sc rest to fl ma tr mk cn nu de ru la tb tf ph cs)) x) (Ph_mixedWithRun_L5 la ph v1 v3 v5)) : Ev mmPT tbX11_mixedWithRun 5 [some (.ref 1), some (.long v1), none, some (.long v3), none, some (.int v5)] [] (mh sc rest to fl ma tr mk cn nu de ru la tb tf ph cs) x :=
  k_loop (B := (fun a : Int64 × Int32 => Ph_mixedWithRun_L5b la ph v1 a.1 a.2)) (μ := fun a : Int64 × Int32 => mu a.2) (E := fun a : Int64 × Int32 => Ev mmPT tbX11_mixedWithRun 5 [some (.ref 1), some (.long v1), none, some (.long a.1), none, some (.int a.2)] [] (mh sc rest to fl ma tr mk cn nu de ru la tb tf ph cs) x) (X := (kP (fun r : Int64 => (some (.long r), mh sc rest to fl ma tr mk cn nu de ru la tb tf ph cs)) x)) (fun a hk => e_Ph_mixedWithRun_L5b hk) (v3, v5) hk
set_option maxRecDepth 100000 in
theorem e_Ph_mixedWithRun_0 {v1 : Int64} {x : Option Value × List mmC} (hk : (kP (fun r : Int64 => (some (.long r), mh sc rest to fl ma tr mk cn nu de ru la tb tf ph cs)) x) (Ph_mixedWithRun la ph v1)) : Ev mmPT tbX11_mixedWithRun 0 [some (.ref 1), some (.long v1), none, none, none, none] [] (mh sc rest to fl ma tr mk cn nu de ru la tb tf ph cs) x := by
  unfold Ph_mixedWithRun at hk
  refine Ev.s (ins := .lload_n 1) (pc' := 1) rfl rfl ?_
  refine Ev.s (ins := .lstore_n 3) (pc' := 2) (lv' := [some (.ref 1), some (.long v1), none, some (.long v1), none, none]) rfl rfl ?_
  refine q_ic 0 rfl rfl ?_
  refine Ev.s (ins := .istore 5) (pc' := 5) (lv' := [some (.ref 1), some (.long v1), none, some (.long v1), none, some (.int 0)]) rfl rfl ?_
  exact e_Ph_mixedWithRun_L5 hk
set_option maxRecDepth 100000 in
theorem e_Ph_mixedWithRun {v1 : Int64} {r : Int64} (hr : (Ph_mixedWithRun la ph v1) = some r) : Ev mmPT tbX11_mixedWithRun 0 [some (.ref 1), some (.long v1), none, none, none, none] [] (mh sc rest to fl ma tr mk cn nu de ru la tb tf ph cs) ((fun r : Int64 => (some (.long r), mh sc rest to fl ma tr mk cn nu de ru la tb tf ph cs)) r) := e_Ph_mixedWithRun_0 (by rw [hr]; exact rfl)
set_option maxRecDepth 100000 in
theorem e_Ph_edge_40 {x : Option Value × List mmC} (hk : (kP (fun r : Int32 => (some (.int r), mh sc rest to fl ma tr mk cn nu de ru la tb tf ph cs)) x) (Ph_edge_40 ma ph)) : Ev mmPT tbX11_edge 40 [none, none, none] [] (mh sc rest to fl ma tr mk cn nu de ru la tb tf ph cs) x := by
  unfold Ph_edge_40 at hk
  exact False.elim hk
set_option maxRecDepth 100000 in
theorem e_Ph_edge_0 {v1 : Int32} {v2 : Int32} {x : Option Value × List mmC} (hk : (kP (fun r : Int32 => (some (.int r), mh sc rest to fl ma tr mk cn nu de ru la tb tf ph cs)) x) (Ph_edge ma ph v1 v2)) : Ev mmPT tbX11_edge 0 [some (.ref 1), some (.int v1), some (.int v2)] [] (mh sc rest to fl ma tr mk cn nu de ru la tb tf ph cs) x := by
  unfold Ph_edge at hk
  refine Ev.s (ins := .aload_n 0) (pc' := 1) rfl rfl ?_
  refine gf_1_12 (ph.2.2 0) rfl rfl ?_
  refine q_beq rfl hk (fun c1 hk => ?_) (fun c1 hk => ?_)
  · refine Ev.s (ins := .aload_n 0) (pc' := 8) rfl rfl ?_
    refine gf_1_1 rfl ?_
    refine gf_34_14 (ma.2.1 1) rfl rfl ?_
    refine Ev.s (ins := .iload_n 1) (pc' := 15) rfl rfl ?_
    refine kc_X11_has_2 rfl (Nat.le_of_ble_eq_true rfl) (e_Ph_has) ?_
    refine q_beq rfl hk (fun c2 hk => ?_) (fun c2 hk => ?_)
    · refine Ev.s (ins := .iload_n 2) (pc' := 22) rfl rfl ?_
      refine q_lt rfl hk (fun c3 hk => ?_) (fun c3 hk => ?_)
      · refine Ev.weak [none, none, none] ⟨rfl, rfl, rfl, trivial⟩ ?_
        exact e_Ph_edge_40 hk
      · refine Ev.s (ins := .iload_n 2) (pc' := 26) rfl rfl ?_
        refine Ev.s (ins := .aload_n 0) (pc' := 27) rfl rfl ?_
        refine gf_1_1 rfl ?_
        refine gf_34_9 rfl ?_
        refine Ev.s (ins := .iload_n 1) (pc' := 34) rfl rfl ?_
        refine at_53 (oat ma 9 10 v1) rfl (Nat.le_of_ble_eq_true rfl) rfl ?_
        refine q_clt rfl hk (fun c4 hk => ?_) (fun c4 hk => ?_)
        · refine Ev.s (ins := .aload_n 0) (pc' := 51) rfl rfl ?_
          refine gf_1_1 rfl ?_
          refine Ev.s (ins := .iload_n 1) (pc' := 55) rfl rfl ?_
          refine Ev.s (ins := .iload_n 2) (pc' := 56) rfl rfl ?_
          refine kc_X3_wayTo_0 rfl oi_34 rfl (Nat.le_of_ble_eq_true rfl) (e_Form_wayTo_34) ?_
          refine kc_X11_fromOf_2 rfl (Nat.le_of_ble_eq_true rfl) (e_Ph_fromOf) ?_
          exact Ev.iret rfl rfl hk
        · refine Ev.weak [none, none, none] ⟨rfl, rfl, rfl, trivial⟩ ?_
          exact e_Ph_edge_40 hk
    · refine Ev.weak [none, none, none] ⟨rfl, rfl, rfl, trivial⟩ ?_
      exact e_Ph_edge_40 hk
  · refine Ev.weak [none, none, none] ⟨rfl, rfl, rfl, trivial⟩ ?_
    exact e_Ph_edge_40 hk
set_option maxRecDepth 100000 in
theorem e_Ph_edge {v1 : Int32} {v2 : Int32} {r : Int32} (hr : (Ph_edge ma ph v1 v2) = some r) : Ev mmPT tbX11_edge 0 [some (.ref 1), some (.int v1), some (.int v2)] [] (mh sc rest to fl ma tr mk cn nu de ru la tb tf ph cs) ((fun r : Int32 => (some (.int r), mh sc rest to fl ma tr mk cn nu de ru la tb tf ph cs)) r) := e_Ph_edge_0 (by rw [hr]; exact rfl)
set_option maxRecDepth 100000 in
theorem e_Ph_mixedWithPlace_L94b {v1 : Int64} {v3 : Int32} {v4 : Int64} {v6 : Int32} {x : Option Value × List mmC} (hk : (kK (fun a : Int64 × Int32 => mu a.2) (mu v6) (fun a : Int64 × Int32 => Ev mmPT tbX11_mixedWithPlace 94 [some (.ref 1), some (.long v1), none, some (.int v3), some (.long a.1), none, some (.int a.2)] [] (mh sc rest to fl ma tr mk cn nu de ru la tb tf ph cs) x) (kP (fun r : Int64 => (some (.long r), mh sc rest to fl ma tr mk cn nu de ru la tb tf ph cs)) x)) (Ph_mixedWithPlace_L94b ma ph v1 v3 v4 v6)) : Ev mmPT tbX11_mixedWithPlace 94 [some (.ref 1), some (.long v1), none, some (.int v3), some (.long v4), none, some (.int v6)] [] (mh sc rest to fl ma tr mk cn nu de ru la tb tf ph cs) x := by
  unfold Ph_mixedWithPlace_L94b at hk
  refine Ev.s (ins := .iload 6) (pc' := 96) rfl rfl ?_
  refine Ev.s (ins := .aload_n 0) (pc' := 97) rfl rfl ?_
  refine gf_1_1 rfl ?_
  refine gf_34_7 rfl ?_
  refine Ev.s (ins := .iload_n 3) (pc' := 104) rfl rfl ?_
  refine at_49 (oat ma 7 10 v3) rfl (Nat.le_of_ble_eq_true rfl) rfl ?_
  refine q_cge rfl hk (fun c1 hk => ?_) (fun c1 hk => ?_)
  · refine Ev.s (ins := .lload 4) (pc' := 112) rfl rfl ?_
    refine Ev.s (ins := .aload_n 0) (pc' := 113) rfl rfl ?_
    refine Ev.s (ins := .iload_n 3) (pc' := 114) rfl rfl ?_
    refine Ev.s (ins := .iload 6) (pc' := 116) rfl rfl ?_
    refine q_ob hk (fun hb => hb) (fun r116 hr116 hk => ?_)
    refine kc_X11_valueAt_0 rfl oi_1 rfl (Nat.le_of_ble_eq_true rfl) (e_Ph_valueAt hr116) ?_
    refine Ev.s (ins := .i2l) (pc' := 120) rfl rfl ?_
    refine kc_X11_mixed_2 rfl (Nat.le_of_ble_eq_true rfl) (e_Ph_mixed) ?_
    refine Ev.s (ins := .lstore 4) (pc' := 125) (lv' := [some (.ref 1), some (.long v1), none, some (.int v3), some (.long (Ph_mixed v4 r116.toInt64)), none, some (.int v6)]) rfl rfl ?_
    refine q_inc 1 [some (.ref 1), some (.long v1), none, some (.int v3), some (.long (Ph_mixed v4 r116.toInt64)), none, some (.int (v6 + 1))] rfl rfl rfl rfl ?_
    refine Ev.goto rfl ?_
    replace hk := kK_l hk
    exact hk (mu_lt (lt31 c1))
  · replace hk := kK_r hk
    refine Ev.s (ins := .lload 4) (pc' := 133) rfl rfl ?_
    exact Ev.lret rfl rfl hk
set_option maxRecDepth 100000 in
theorem e_Ph_mixedWithPlace_L94 {v1 : Int64} {v3 : Int32} {v4 : Int64} {v6 : Int32} {x : Option Value × List mmC} (hk : (kP (fun r : Int64 => (some (.long r), mh sc rest to fl ma tr mk cn nu de ru la tb tf ph cs)) x) (Ph_mixedWithPlace_L94 ma ph v1 v3 v4 v6)) : Ev mmPT tbX11_mixedWithPlace 94 [some (.ref 1), some (.long v1), none, some (.int v3), some (.long v4), none, some (.int v6)] [] (mh sc rest to fl ma tr mk cn nu de ru la tb tf ph cs) x :=
  k_loop (B := (fun a : Int64 × Int32 => Ph_mixedWithPlace_L94b ma ph v1 v3 a.1 a.2)) (μ := fun a : Int64 × Int32 => mu a.2) (E := fun a : Int64 × Int32 => Ev mmPT tbX11_mixedWithPlace 94 [some (.ref 1), some (.long v1), none, some (.int v3), some (.long a.1), none, some (.int a.2)] [] (mh sc rest to fl ma tr mk cn nu de ru la tb tf ph cs) x) (X := (kP (fun r : Int64 => (some (.long r), mh sc rest to fl ma tr mk cn nu de ru la tb tf ph cs)) x)) (fun a hk => e_Ph_mixedWithPlace_L94b hk) (v4, v6) hk
set_option maxRecDepth 100000 in
theorem e_Ph_mixedWithPlace_L54b {v1 : Int64} {v3 : Int32} {v4 : Int64} {v6 : Int32} {x : Option Value × List mmC} (hk : (kK (fun a : Int64 × Int32 => mu a.2) (mu v6) (fun a : Int64 × Int32 => Ev mmPT tbX11_mixedWithPlace 54 [some (.ref 1), some (.long v1), none, some (.int v3), some (.long a.1), none, some (.int a.2)] [] (mh sc rest to fl ma tr mk cn nu de ru la tb tf ph cs) x) (kP (fun r : Int64 => (some (.long r), mh sc rest to fl ma tr mk cn nu de ru la tb tf ph cs)) x)) (Ph_mixedWithPlace_L54b ma ph v1 v3 v4 v6)) : Ev mmPT tbX11_mixedWithPlace 54 [some (.ref 1), some (.long v1), none, some (.int v3), some (.long v4), none, some (.int v6)] [] (mh sc rest to fl ma tr mk cn nu de ru la tb tf ph cs) x := by
  unfold Ph_mixedWithPlace_L54b at hk
  refine Ev.s (ins := .iload 6) (pc' := 56) rfl rfl ?_
  refine Ev.s (ins := .aload_n 0) (pc' := 57) rfl rfl ?_
  refine gf_1_1 rfl ?_
  refine gf_34_9 rfl ?_
  refine Ev.s (ins := .iload_n 3) (pc' := 64) rfl rfl ?_
  refine at_53 (oat ma 9 10 v3) rfl (Nat.le_of_ble_eq_true rfl) rfl ?_
  refine q_cge rfl hk (fun c1 hk => ?_) (fun c1 hk => ?_)
  · refine Ev.s (ins := .lload 4) (pc' := 72) rfl rfl ?_
    refine Ev.s (ins := .aload_n 0) (pc' := 73) rfl rfl ?_
    refine Ev.s (ins := .iload_n 3) (pc' := 74) rfl rfl ?_
    refine Ev.s (ins := .iload 6) (pc' := 76) rfl rfl ?_
    refine q_ob hk (fun hb => hb) (fun r76 hr76 hk => ?_)
    refine kc_X11_edge_0 rfl oi_1 rfl (Nat.le_of_ble_eq_true rfl) (e_Ph_edge hr76) ?_
    refine Ev.s (ins := .i2l) (pc' := 80) rfl rfl ?_
    refine kc_X11_mixed_2 rfl (Nat.le_of_ble_eq_true rfl) (e_Ph_mixed) ?_
    refine Ev.s (ins := .lstore 4) (pc' := 85) (lv' := [some (.ref 1), some (.long v1), none, some (.int v3), some (.long (Ph_mixed v4 r76.toInt64)), none, some (.int v6)]) rfl rfl ?_
    refine q_inc 1 [some (.ref 1), some (.long v1), none, some (.int v3), some (.long (Ph_mixed v4 r76.toInt64)), none, some (.int (v6 + 1))] rfl rfl rfl rfl ?_
    refine Ev.goto rfl ?_
    replace hk := kK_l hk
    exact hk (mu_lt (lt31 c1))
  · replace hk := kK_r hk
    refine q_ic 0 rfl rfl ?_
    refine Ev.s (ins := .istore 6) (pc' := 94) (lv' := [some (.ref 1), some (.long v1), none, some (.int v3), some (.long v4), none, some (.int 0)]) rfl rfl ?_
    exact e_Ph_mixedWithPlace_L94 hk
set_option maxRecDepth 100000 in
theorem e_Ph_mixedWithPlace_L54 {v1 : Int64} {v3 : Int32} {v4 : Int64} {v6 : Int32} {x : Option Value × List mmC} (hk : (kP (fun r : Int64 => (some (.long r), mh sc rest to fl ma tr mk cn nu de ru la tb tf ph cs)) x) (Ph_mixedWithPlace_L54 ma ph v1 v3 v4 v6)) : Ev mmPT tbX11_mixedWithPlace 54 [some (.ref 1), some (.long v1), none, some (.int v3), some (.long v4), none, some (.int v6)] [] (mh sc rest to fl ma tr mk cn nu de ru la tb tf ph cs) x :=
  k_loop (B := (fun a : Int64 × Int32 => Ph_mixedWithPlace_L54b ma ph v1 v3 a.1 a.2)) (μ := fun a : Int64 × Int32 => mu a.2) (E := fun a : Int64 × Int32 => Ev mmPT tbX11_mixedWithPlace 54 [some (.ref 1), some (.long v1), none, some (.int v3), some (.long a.1), none, some (.int a.2)] [] (mh sc rest to fl ma tr mk cn nu de ru la tb tf ph cs) x) (X := (kP (fun r : Int64 => (some (.long r), mh sc rest to fl ma tr mk cn nu de ru la tb tf ph cs)) x)) (fun a hk => e_Ph_mixedWithPlace_L54b hk) (v4, v6) hk
set_option maxRecDepth 100000 in
theorem e_Ph_mixedWithPlace_L6b {v1 : Int64} {v3 : Int32} {v4 : Int64} {v6 : Int32} {x : Option Value × List mmC} (hk : (kK (fun a : Int64 × Int32 => mu a.2) (mu v6) (fun a : Int64 × Int32 => Ev mmPT tbX11_mixedWithPlace 6 [some (.ref 1), some (.long v1), none, some (.int v3), some (.long a.1), none, some (.int a.2)] [] (mh sc rest to fl ma tr mk cn nu de ru la tb tf ph cs) x) (kP (fun r : Int64 => (some (.long r), mh sc rest to fl ma tr mk cn nu de ru la tb tf ph cs)) x)) (Ph_mixedWithPlace_L6b ma ph v1 v3 v4 v6)) : Ev mmPT tbX11_mixedWithPlace 6 [some (.ref 1), some (.long v1), none, some (.int v3), some (.long v4), none, some (.int v6)] [] (mh sc rest to fl ma tr mk cn nu de ru la tb tf ph cs) x := by
  unfold Ph_mixedWithPlace_L6b at hk
  refine Ev.s (ins := .iload 6) (pc' := 8) rfl rfl ?_
  refine q_bi 7 rfl rfl ?_
  refine q_cgt rfl hk (fun c1 hk => ?_) (fun c1 hk => ?_)
  · replace hk := kK_r hk
    refine Ev.s (ins := .aload_n 0) (pc' := 35) rfl rfl ?_
    refine gf_1_1 rfl ?_
    refine gf_34_14 (ma.2.1 1) rfl rfl ?_
    refine Ev.s (ins := .iload_n 3) (pc' := 42) rfl rfl ?_
    refine kc_X11_has_2 rfl (Nat.le_of_ble_eq_true rfl) (e_Ph_has) ?_
    refine q_bne rfl hk (fun c2 hk => ?_) (fun c2 hk => ?_)
    · refine q_ic 0 rfl rfl ?_
      refine Ev.s (ins := .istore 6) (pc' := 54) (lv' := [some (.ref 1), some (.long v1), none, some (.int v3), some (.long v4), none, some (.int 0)]) rfl rfl ?_
      exact e_Ph_mixedWithPlace_L54 hk
    · refine Ev.s (ins := .lload 4) (pc' := 50) rfl rfl ?_
      exact Ev.lret rfl rfl hk
  · refine Ev.s (ins := .lload 4) (pc' := 15) rfl rfl ?_
    refine Ev.s (ins := .aload_n 0) (pc' := 16) rfl rfl ?_
    refine Ev.s (ins := .iload_n 3) (pc' := 17) rfl rfl ?_
    refine Ev.s (ins := .iload 6) (pc' := 19) rfl rfl ?_
    refine q_ob hk (fun hb => hb) (fun r19 hr19 hk => ?_)
    refine kc_X11_ofPlace_0 rfl oi_1 rfl (Nat.le_of_ble_eq_true rfl) (e_Ph_ofPlace hr19) ?_
    refine Ev.s (ins := .i2l) (pc' := 23) rfl rfl ?_
    refine kc_X11_mixed_2 rfl (Nat.le_of_ble_eq_true rfl) (e_Ph_mixed) ?_
    refine Ev.s (ins := .lstore 4) (pc' := 28) (lv' := [some (.ref 1), some (.long v1), none, some (.int v3), some (.long (Ph_mixed v4 r19.toInt64)), none, some (.int v6)]) rfl rfl ?_
    refine q_inc 1 [some (.ref 1), some (.long v1), none, some (.int v3), some (.long (Ph_mixed v4 r19.toInt64)), none, some (.int (v6 + 1))] rfl rfl rfl rfl ?_
    refine Ev.goto rfl ?_
    replace hk := kK_l hk
    exact hk (mu_lt (le31 (by decide) c1))
set_option maxRecDepth 100000 in
theorem e_Ph_mixedWithPlace_L6 {v1 : Int64} {v3 : Int32} {v4 : Int64} {v6 : Int32} {x : Option Value × List mmC} (hk : (kP (fun r : Int64 => (some (.long r), mh sc rest to fl ma tr mk cn nu de ru la tb tf ph cs)) x) (Ph_mixedWithPlace_L6 ma ph v1 v3 v4 v6)) : Ev mmPT tbX11_mixedWithPlace 6 [some (.ref 1), some (.long v1), none, some (.int v3), some (.long v4), none, some (.int v6)] [] (mh sc rest to fl ma tr mk cn nu de ru la tb tf ph cs) x :=
  k_loop (B := (fun a : Int64 × Int32 => Ph_mixedWithPlace_L6b ma ph v1 v3 a.1 a.2)) (μ := fun a : Int64 × Int32 => mu a.2) (E := fun a : Int64 × Int32 => Ev mmPT tbX11_mixedWithPlace 6 [some (.ref 1), some (.long v1), none, some (.int v3), some (.long a.1), none, some (.int a.2)] [] (mh sc rest to fl ma tr mk cn nu de ru la tb tf ph cs) x) (X := (kP (fun r : Int64 => (some (.long r), mh sc rest to fl ma tr mk cn nu de ru la tb tf ph cs)) x)) (fun a hk => e_Ph_mixedWithPlace_L6b hk) (v4, v6) hk
set_option maxRecDepth 100000 in
theorem e_Ph_mixedWithPlace_0 {v1 : Int64} {v3 : Int32} {x : Option Value × List mmC} (hk : (kP (fun r : Int64 => (some (.long r), mh sc rest to fl ma tr mk cn nu de ru la tb tf ph cs)) x) (Ph_mixedWithPlace ma ph v1 v3)) : Ev mmPT tbX11_mixedWithPlace 0 [some (.ref 1), some (.long v1), none, some (.int v3), none, none, none] [] (mh sc rest to fl ma tr mk cn nu de ru la tb tf ph cs) x := by
  unfold Ph_mixedWithPlace at hk
  refine Ev.s (ins := .lload_n 1) (pc' := 1) rfl rfl ?_
  refine Ev.s (ins := .lstore 4) (pc' := 3) (lv' := [some (.ref 1), some (.long v1), none, some (.int v3), some (.long v1), none, none]) rfl rfl ?_
  refine q_ic 0 rfl rfl ?_
  refine Ev.s (ins := .istore 6) (pc' := 6) (lv' := [some (.ref 1), some (.long v1), none, some (.int v3), some (.long v1), none, some (.int 0)]) rfl rfl ?_
  exact e_Ph_mixedWithPlace_L6 hk
set_option maxRecDepth 100000 in
theorem e_Ph_mixedWithPlace {v1 : Int64} {v3 : Int32} {r : Int64} (hr : (Ph_mixedWithPlace ma ph v1 v3) = some r) : Ev mmPT tbX11_mixedWithPlace 0 [some (.ref 1), some (.long v1), none, some (.int v3), none, none, none] [] (mh sc rest to fl ma tr mk cn nu de ru la tb tf ph cs) ((fun r : Int64 => (some (.long r), mh sc rest to fl ma tr mk cn nu de ru la tb tf ph cs)) r) := e_Ph_mixedWithPlace_0 (by rw [hr]; exact rfl)
set_option maxRecDepth 100000 in
theorem e_Ph_number_0 {v1 : Int32} {v2 : Int32} {x : Option Value × List mmC} (hk : (kP (fun r : Int32 => (some (.int r), mh sc rest to fl ma tr mk cn nu de ru la tb tf ph cs)) x) (Ph_number ma ph v1 v2)) : Ev mmPT tbX11_number 0 [some (.ref 1), some (.int v1), some (.int v2)] [] (mh sc rest to fl ma tr mk cn nu de ru la tb tf ph cs) x := by
  unfold Ph_number at hk
  refine Ev.s (ins := .aload_n 0) (pc' := 1) rfl rfl ?_
  refine Ev.s (ins := .iload_n 1) (pc' := 2) rfl rfl ?_
  refine Ev.s (ins := .iload_n 2) (pc' := 3) rfl rfl ?_
  refine kc_X11_isArgument_0 rfl oi_1 rfl (Nat.le_of_ble_eq_true rfl) (e_Ph_isArgument) ?_
  refine q_bne rfl hk (fun c1 hk => ?_) (fun c1 hk => ?_)
  · refine Ev.s (ins := .aload_n 0) (pc' := 21) rfl rfl ?_
    refine gf_1_1 rfl ?_
    refine Ev.s (ins := .iload_n 1) (pc' := 25) rfl rfl ?_
    refine Ev.s (ins := .iload_n 2) (pc' := 26) rfl rfl ?_
    refine kc_X3_numberOf_0 rfl oi_34 rfl (Nat.le_of_ble_eq_true rfl) (e_Form_numberOf_34) ?_
    exact Ev.iret rfl rfl hk
  · exact False.elim hk
set_option maxRecDepth 100000 in
theorem e_Ph_number {v1 : Int32} {v2 : Int32} {r : Int32} (hr : (Ph_number ma ph v1 v2) = some r) : Ev mmPT tbX11_number 0 [some (.ref 1), some (.int v1), some (.int v2)] [] (mh sc rest to fl ma tr mk cn nu de ru la tb tf ph cs) ((fun r : Int32 => (some (.int r), mh sc rest to fl ma tr mk cn nu de ru la tb tf ph cs)) r) := e_Ph_number_0 (by rw [hr]; exact rfl)
set_option maxRecDepth 100000 in
theorem e_Ph_mixedWithValue_L36b {v1 : Int64} {v3 : Int32} {v4 : Int64} {v6 : Int32} {x : Option Value × List mmC} (hk : (kK (fun a : Int64 × Int32 => mu a.2) (mu v6) (fun a : Int64 × Int32 => Ev mmPT tbX11_mixedWithValue 36 [some (.ref 1), some (.long v1), none, some (.int v3), some (.long a.1), none, some (.int a.2)] [] (mh sc rest to fl ma tr mk cn nu de ru la tb tf ph cs) x) (kP (fun r : Int64 => (some (.long r), mh sc rest to fl ma tr mk cn nu de ru la tb tf ph cs)) x)) (Ph_mixedWithValue_L36b ma ph v1 v3 v4 v6)) : Ev mmPT tbX11_mixedWithValue 36 [some (.ref 1), some (.long v1), none, some (.int v3), some (.long v4), none, some (.int v6)] [] (mh sc rest to fl ma tr mk cn nu de ru la tb tf ph cs) x := by
  unfold Ph_mixedWithValue_L36b at hk
  refine Ev.s (ins := .iload 6) (pc' := 38) rfl rfl ?_
  refine Ev.s (ins := .aload_n 0) (pc' := 39) rfl rfl ?_
  refine gf_1_1 rfl ?_
  refine gf_34_3 rfl ?_
  refine Ev.s (ins := .iload_n 3) (pc' := 46) rfl rfl ?_
  refine at_41 (oat ma 3 150 v3) rfl (Nat.le_of_ble_eq_true rfl) rfl ?_
  refine q_cge rfl hk (fun c1 hk => ?_) (fun c1 hk => ?_)
  · refine Ev.s (ins := .lload 4) (pc' := 54) rfl rfl ?_
    refine Ev.s (ins := .aload_n 0) (pc' := 55) rfl rfl ?_
    refine Ev.s (ins := .iload_n 3) (pc' := 56) rfl rfl ?_
    refine Ev.s (ins := .iload 6) (pc' := 58) rfl rfl ?_
    refine q_ob hk (fun hb => hb) (fun r58 hr58 hk => ?_)
    refine kc_X11_argument_0 rfl oi_1 rfl (Nat.le_of_ble_eq_true rfl) (e_Ph_argument hr58) ?_
    refine Ev.s (ins := .i2l) (pc' := 62) rfl rfl ?_
    refine kc_X11_mixed_2 rfl (Nat.le_of_ble_eq_true rfl) (e_Ph_mixed) ?_
    refine Ev.s (ins := .lstore 4) (pc' := 67) (lv' := [some (.ref 1), some (.long v1), none, some (.int v3), some (.long (Ph_mixed v4 r58.toInt64)), none, some (.int v6)]) rfl rfl ?_
    refine Ev.s (ins := .lload 4) (pc' := 69) rfl rfl ?_
    refine Ev.s (ins := .aload_n 0) (pc' := 70) rfl rfl ?_
    refine Ev.s (ins := .iload_n 3) (pc' := 71) rfl rfl ?_
    refine Ev.s (ins := .iload 6) (pc' := 73) rfl rfl ?_
    refine q_ob hk (fun hb => hb) (fun r73 hr73 hk => ?_)
    refine kc_X11_number_0 rfl oi_1 rfl (Nat.le_of_ble_eq_true rfl) (e_Ph_number hr73) ?_
    refine Ev.s (ins := .i2l) (pc' := 77) rfl rfl ?_
    refine kc_X11_mixed_2 rfl (Nat.le_of_ble_eq_true rfl) (e_Ph_mixed) ?_
    refine Ev.s (ins := .lstore 4) (pc' := 82) (lv' := [some (.ref 1), some (.long v1), none, some (.int v3), some (.long (Ph_mixed (Ph_mixed v4 r58.toInt64) r73.toInt64)), none, some (.int v6)]) rfl rfl ?_
    refine q_inc 1 [some (.ref 1), some (.long v1), none, some (.int v3), some (.long (Ph_mixed (Ph_mixed v4 r58.toInt64) r73.toInt64)), none, some (.int (v6 + 1))] rfl rfl rfl rfl ?_
    refine Ev.goto rfl ?_
    replace hk := kK_l hk
    exact hk (mu_lt (lt31 c1))
  · replace hk := kK_r hk
    refine Ev.s (ins := .lload 4) (pc' := 90) rfl rfl ?_
    exact Ev.lret rfl rfl hk
set_option maxRecDepth 100000 in
theorem e_Ph_mixedWithValue_L36 {v1 : Int64} {v3 : Int32} {v4 : Int64} {v6 : Int32} {x : Option Value × List mmC} (hk : (kP (fun r : Int64 => (some (.long r), mh sc rest to fl ma tr mk cn nu de ru la tb tf ph cs)) x) (Ph_mixedWithValue_L36 ma ph v1 v3 v4 v6)) : Ev mmPT tbX11_mixedWithValue 36 [some (.ref 1), some (.long v1), none, some (.int v3), some (.long v4), none, some (.int v6)] [] (mh sc rest to fl ma tr mk cn nu de ru la tb tf ph cs) x :=
  k_loop (B := (fun a : Int64 × Int32 => Ph_mixedWithValue_L36b ma ph v1 v3 a.1 a.2)) (μ := fun a : Int64 × Int32 => mu a.2) (E := fun a : Int64 × Int32 => Ev mmPT tbX11_mixedWithValue 36 [some (.ref 1), some (.long v1), none, some (.int v3), some (.long a.1), none, some (.int a.2)] [] (mh sc rest to fl ma tr mk cn nu de ru la tb tf ph cs) x) (X := (kP (fun r : Int64 => (some (.long r), mh sc rest to fl ma tr mk cn nu de ru la tb tf ph cs)) x)) (fun a hk => e_Ph_mixedWithValue_L36b hk) (v4, v6) hk
set_option maxRecDepth 100000 in
theorem e_Ph_mixedWithValue_L6b {v1 : Int64} {v3 : Int32} {v4 : Int64} {v6 : Int32} {x : Option Value × List mmC} (hk : (kK (fun a : Int64 × Int32 => mu a.2) (mu v6) (fun a : Int64 × Int32 => Ev mmPT tbX11_mixedWithValue 6 [some (.ref 1), some (.long v1), none, some (.int v3), some (.long a.1), none, some (.int a.2)] [] (mh sc rest to fl ma tr mk cn nu de ru la tb tf ph cs) x) (kP (fun r : Int64 => (some (.long r), mh sc rest to fl ma tr mk cn nu de ru la tb tf ph cs)) x)) (Ph_mixedWithValue_L6b ma ph v1 v3 v4 v6)) : Ev mmPT tbX11_mixedWithValue 6 [some (.ref 1), some (.long v1), none, some (.int v3), some (.long v4), none, some (.int v6)] [] (mh sc rest to fl ma tr mk cn nu de ru la tb tf ph cs) x := by
  unfold Ph_mixedWithValue_L6b at hk
  refine Ev.s (ins := .iload 6) (pc' := 8) rfl rfl ?_
  refine q_ic 4 rfl rfl ?_
  refine q_cgt rfl hk (fun c1 hk => ?_) (fun c1 hk => ?_)
  · replace hk := kK_r hk
    refine q_ic 0 rfl rfl ?_
    refine Ev.s (ins := .istore 6) (pc' := 36) (lv' := [some (.ref 1), some (.long v1), none, some (.int v3), some (.long v4), none, some (.int 0)]) rfl rfl ?_
    exact e_Ph_mixedWithValue_L36 hk
  · refine Ev.s (ins := .lload 4) (pc' := 14) rfl rfl ?_
    refine Ev.s (ins := .aload_n 0) (pc' := 15) rfl rfl ?_
    refine Ev.s (ins := .iload_n 3) (pc' := 16) rfl rfl ?_
    refine Ev.s (ins := .iload 6) (pc' := 18) rfl rfl ?_
    refine q_ob hk (fun hb => hb) (fun r18 hr18 hk => ?_)
    refine kc_X11_ofValue_0 rfl oi_1 rfl (Nat.le_of_ble_eq_true rfl) (e_Ph_ofValue hr18) ?_
    refine Ev.s (ins := .i2l) (pc' := 22) rfl rfl ?_
    refine kc_X11_mixed_2 rfl (Nat.le_of_ble_eq_true rfl) (e_Ph_mixed) ?_
    refine Ev.s (ins := .lstore 4) (pc' := 27) (lv' := [some (.ref 1), some (.long v1), none, some (.int v3), some (.long (Ph_mixed v4 r18.toInt64)), none, some (.int v6)]) rfl rfl ?_
    refine q_inc 1 [some (.ref 1), some (.long v1), none, some (.int v3), some (.long (Ph_mixed v4 r18.toInt64)), none, some (.int (v6 + 1))] rfl rfl rfl rfl ?_
    refine Ev.goto rfl ?_
    replace hk := kK_l hk
    exact hk (mu_lt (le31 (by decide) c1))
set_option maxRecDepth 100000 in
theorem e_Ph_mixedWithValue_L6 {v1 : Int64} {v3 : Int32} {v4 : Int64} {v6 : Int32} {x : Option Value × List mmC} (hk : (kP (fun r : Int64 => (some (.long r), mh sc rest to fl ma tr mk cn nu de ru la tb tf ph cs)) x) (Ph_mixedWithValue_L6 ma ph v1 v3 v4 v6)) : Ev mmPT tbX11_mixedWithValue 6 [some (.ref 1), some (.long v1), none, some (.int v3), some (.long v4), none, some (.int v6)] [] (mh sc rest to fl ma tr mk cn nu de ru la tb tf ph cs) x :=
  k_loop (B := (fun a : Int64 × Int32 => Ph_mixedWithValue_L6b ma ph v1 v3 a.1 a.2)) (μ := fun a : Int64 × Int32 => mu a.2) (E := fun a : Int64 × Int32 => Ev mmPT tbX11_mixedWithValue 6 [some (.ref 1), some (.long v1), none, some (.int v3), some (.long a.1), none, some (.int a.2)] [] (mh sc rest to fl ma tr mk cn nu de ru la tb tf ph cs) x) (X := (kP (fun r : Int64 => (some (.long r), mh sc rest to fl ma tr mk cn nu de ru la tb tf ph cs)) x)) (fun a hk => e_Ph_mixedWithValue_L6b hk) (v4, v6) hk
set_option maxRecDepth 100000 in
theorem e_Ph_mixedWithValue_0 {v1 : Int64} {v3 : Int32} {x : Option Value × List mmC} (hk : (kP (fun r : Int64 => (some (.long r), mh sc rest to fl ma tr mk cn nu de ru la tb tf ph cs)) x) (Ph_mixedWithValue ma ph v1 v3)) : Ev mmPT tbX11_mixedWithValue 0 [some (.ref 1), some (.long v1), none, some (.int v3), none, none, none] [] (mh sc rest to fl ma tr mk cn nu de ru la tb tf ph cs) x := by
  unfold Ph_mixedWithValue at hk
  refine Ev.s (ins := .lload_n 1) (pc' := 1) rfl rfl ?_
  refine Ev.s (ins := .lstore 4) (pc' := 3) (lv' := [some (.ref 1), some (.long v1), none, some (.int v3), some (.long v1), none, none]) rfl rfl ?_
  refine q_ic 0 rfl rfl ?_
  refine Ev.s (ins := .istore 6) (pc' := 6) (lv' := [some (.ref 1), some (.long v1), none, some (.int v3), some (.long v1), none, some (.int 0)]) rfl rfl ?_
  exact e_Ph_mixedWithValue_L6 hk
set_option maxRecDepth 100000 in
theorem e_Ph_mixedWithValue {v1 : Int64} {v3 : Int32} {r : Int64} (hr : (Ph_mixedWithValue ma ph v1 v3) = some r) : Ev mmPT tbX11_mixedWithValue 0 [some (.ref 1), some (.long v1), none, some (.int v3), none, none, none] [] (mh sc rest to fl ma tr mk cn nu de ru la tb tf ph cs) ((fun r : Int64 => (some (.long r), mh sc rest to fl ma tr mk cn nu de ru la tb tf ph cs)) r) := e_Ph_mixedWithValue_0 (by rw [hr]; exact rfl)
set_option maxRecDepth 100000 in
theorem e_Ph_digest_149 {v1 : Int64} {w0 : Int32} {w1 : Int64} {x : Option Value × List mmC} (hk : (kP (fun r : Int64 × Ob × Ob × Ob × Ob × Ob × Ob => (some (.long r.1), mh sc rest to fl ma r.2.1 mk r.2.2.1 r.2.2.2.1 r.2.2.2.2.1 r.2.2.2.2.2.1 la tb r.2.2.2.2.2.2 ph cs)) x) (Ph_digest_149 to fl ma tr cn nu de ru la tf ph v1 w0 w1)) : Ev mmPT tbX11_digest 149 [none, some (.long v1), none, none] [.int w0, .long w1] (mh sc rest to fl ma tr mk cn nu de ru la tb tf ph cs) x := by
  unfold Ph_digest_149 at hk
  refine Ev.s (ins := .i2l) (pc' := 150) rfl rfl ?_
  refine kc_X11_mixed_2 rfl (Nat.le_of_ble_eq_true rfl) (e_Ph_mixed) ?_
  exact Ev.lret rfl rfl hk
set_option maxRecDepth 100000 in
theorem e_Ph_digest_135 {v1 : Int64} {w0 : Int32} {w1 : Int64} {x : Option Value × List mmC} (hk : (kP (fun r : Int64 × Ob × Ob × Ob × Ob × Ob × Ob => (some (.long r.1), mh sc rest to fl ma r.2.1 mk r.2.2.1 r.2.2.2.1 r.2.2.2.2.1 r.2.2.2.2.2.1 la tb r.2.2.2.2.2.2 ph cs)) x) (Ph_digest_135 to fl ma tr cn nu de ru la tf ph v1 w0 w1)) : Ev mmPT tbX11_digest 135 [some (.ref 1), some (.long v1), none, none] [.int w0, .long w1] (mh sc rest to fl ma tr mk cn nu de ru la tb tf ph cs) x := by
  unfold Ph_digest_135 at hk
  refine Ev.s (ins := .i2l) (pc' := 136) rfl rfl ?_
  refine kc_X11_mixed_2 rfl (Nat.le_of_ble_eq_true rfl) (e_Ph_mixed) ?_
  refine Ev.s (ins := .lstore_n 1) (pc' := 140) (lv' := [some (.ref 1), some (.long (Ph_mixed w1 w0.toInt64)), none, none]) rfl rfl ?_
  refine Ev.s (ins := .lload_n 1) (pc' := 141) rfl rfl ?_
  refine Ev.s (ins := .aload_n 0) (pc' := 142) rfl rfl ?_
  refine q_ic 2 rfl rfl ?_
  refine q_ic 3 rfl rfl ?_
  refine q_bi (-2) rfl rfl ?_
  refine q_ob hk (fun hb => hb) (fun r146 hr146 hk => ?_)
  refine kc_X11_wouldCost_0 rfl oi_1 rfl (Nat.le_of_ble_eq_true rfl) (e_Ph_wouldCost hr146) ?_
  refine Ev.weak [none, some (.long (Ph_mixed w1 w0.toInt64)), none, none] ⟨rfl, rfl, rfl, rfl, trivial⟩ ?_
  exact e_Ph_digest_149 hk
set_option maxRecDepth 100000 in
theorem e_Ph_digest_115 {v1 : Int64} {v3 : Int32} {w0 : Int32} {w1 : Int64} {x : Option Value × List mmC} (b104 : v3 < 2147483647) (hk : (kK (fun a : Int64 × Int32 × Ob × Ob × Ob × Ob => mu a.2.1) (mu v3) (fun a : Int64 × Int32 × Ob × Ob × Ob × Ob => Ev mmPT tbX11_digest 104 [some (.ref 1), some (.long a.1), none, some (.int a.2.1)] [] (mh sc rest to fl ma a.2.2.1 mk a.2.2.2.1 a.2.2.2.2.1 a.2.2.2.2.2 ru la tb tf ph cs) x) (kP (fun r : Int64 × Ob × Ob × Ob × Ob × Ob × Ob => (some (.long r.1), mh sc rest to fl ma r.2.1 mk r.2.2.1 r.2.2.2.1 r.2.2.2.2.1 r.2.2.2.2.2.1 la tb r.2.2.2.2.2.2 ph cs)) x)) (Ph_digest_115 to fl ma tr cn nu de ru la tf ph v1 v3 w0 w1)) : Ev mmPT tbX11_digest 115 [some (.ref 1), some (.long v1), none, some (.int v3)] [.int w0, .long w1] (mh sc rest to fl ma tr mk cn nu de ru la tb tf ph cs) x := by
  unfold Ph_digest_115 at hk
  refine Ev.s (ins := .i2l) (pc' := 116) rfl rfl ?_
  refine kc_X11_mixed_2 rfl (Nat.le_of_ble_eq_true rfl) (e_Ph_mixed) ?_
  refine Ev.s (ins := .lstore_n 1) (pc' := 120) (lv' := [some (.ref 1), some (.long (Ph_mixed w1 w0.toInt64)), none, some (.int v3)]) rfl rfl ?_
  refine q_inc 1 [some (.ref 1), some (.long (Ph_mixed w1 w0.toInt64)), none, some (.int (v3 + 1))] rfl rfl rfl rfl ?_
  refine Ev.goto rfl ?_
  replace hk := kK_l hk
  exact hk (mu_lt b104)
set_option maxRecDepth 100000 in
theorem e_Ph_digest_L104b {v1 : Int64} {v3 : Int32} {x : Option Value × List mmC} (hk : (kK (fun a : Int64 × Int32 × Ob × Ob × Ob × Ob => mu a.2.1) (mu v3) (fun a : Int64 × Int32 × Ob × Ob × Ob × Ob => Ev mmPT tbX11_digest 104 [some (.ref 1), some (.long a.1), none, some (.int a.2.1)] [] (mh sc rest to fl ma a.2.2.1 mk a.2.2.2.1 a.2.2.2.2.1 a.2.2.2.2.2 ru la tb tf ph cs) x) (kP (fun r : Int64 × Ob × Ob × Ob × Ob × Ob × Ob => (some (.long r.1), mh sc rest to fl ma r.2.1 mk r.2.2.1 r.2.2.2.1 r.2.2.2.2.1 r.2.2.2.2.2.1 la tb r.2.2.2.2.2.2 ph cs)) x)) (Ph_digest_L104b to fl ma tr cn nu de ru la tf ph v1 v3)) : Ev mmPT tbX11_digest 104 [some (.ref 1), some (.long v1), none, some (.int v3)] [] (mh sc rest to fl ma tr mk cn nu de ru la tb tf ph cs) x := by
  unfold Ph_digest_L104b at hk
  refine Ev.s (ins := .iload_n 3) (pc' := 105) rfl rfl ?_
  refine q_ic 4 rfl rfl ?_
  refine q_cgt rfl hk (fun c1 hk => ?_) (fun c1 hk => ?_)
  · replace hk := kK_r hk
    refine Ev.s (ins := .lload_n 1) (pc' := 127) rfl rfl ?_
    refine Ev.s (ins := .aload_n 0) (pc' := 128) rfl rfl ?_
    refine q_ic 0 rfl rfl ?_
    refine q_ic 3 rfl rfl ?_
    refine q_bi (-2) rfl rfl ?_
    refine q_ob hk (fun hb => hb) (fun r132 hr132 hk => ?_)
    refine kc_X11_wouldCost_0 rfl oi_1 rfl (Nat.le_of_ble_eq_true rfl) (e_Ph_wouldCost hr132) ?_
    refine Ev.weak [some (.ref 1), some (.long v1), none, none] ⟨rfl, rfl, rfl, rfl, trivial⟩ ?_
    exact e_Ph_digest_135 hk
  · refine Ev.s (ins := .lload_n 1) (pc' := 110) rfl rfl ?_
    refine Ev.s (ins := .aload_n 0) (pc' := 111) rfl rfl ?_
    refine Ev.s (ins := .iload_n 3) (pc' := 112) rfl rfl ?_
    refine q_ob hk (fun hb => hb) (fun r112 hr112 hk => ?_)
    refine kc_X11_wouldGo_0 rfl oi_1 rfl (Nat.le_of_ble_eq_true rfl) (e_Ph_wouldGo hr112) ?_
    exact e_Ph_digest_115 (le31 (by decide) c1) hk
set_option maxRecDepth 100000 in
theorem e_Ph_digest_L104 {v1 : Int64} {v3 : Int32} {x : Option Value × List mmC} (hk : (kP (fun r : Int64 × Ob × Ob × Ob × Ob × Ob × Ob => (some (.long r.1), mh sc rest to fl ma r.2.1 mk r.2.2.1 r.2.2.2.1 r.2.2.2.2.1 r.2.2.2.2.2.1 la tb r.2.2.2.2.2.2 ph cs)) x) (Ph_digest_L104 to fl ma tr cn nu de ru la tf ph v1 v3)) : Ev mmPT tbX11_digest 104 [some (.ref 1), some (.long v1), none, some (.int v3)] [] (mh sc rest to fl ma tr mk cn nu de ru la tb tf ph cs) x :=
  k_loop (B := (fun a : Int64 × Int32 × Ob × Ob × Ob × Ob => Ph_digest_L104b to fl ma a.2.2.1 a.2.2.2.1 a.2.2.2.2.1 a.2.2.2.2.2 ru la tf ph a.1 a.2.1)) (μ := fun a : Int64 × Int32 × Ob × Ob × Ob × Ob => mu a.2.1) (E := fun a : Int64 × Int32 × Ob × Ob × Ob × Ob => Ev mmPT tbX11_digest 104 [some (.ref 1), some (.long a.1), none, some (.int a.2.1)] [] (mh sc rest to fl ma a.2.2.1 mk a.2.2.2.1 a.2.2.2.2.1 a.2.2.2.2.2 ru la tb tf ph cs) x) (X := (kP (fun r : Int64 × Ob × Ob × Ob × Ob × Ob × Ob => (some (.long r.1), mh sc rest to fl ma r.2.1 mk r.2.2.1 r.2.2.2.1 r.2.2.2.2.1 r.2.2.2.2.2.1 la tb r.2.2.2.2.2.2 ph cs)) x)) (fun a hk => e_Ph_digest_L104b hk) (v1, v3, tr, cn, nu, de) hk
set_option maxRecDepth 100000 in
theorem e_Ph_digest_L78b {v1 : Int64} {v3 : Int32} {x : Option Value × List mmC} (hk : (kK (fun a : Int64 × Int32 => mu a.2) (mu v3) (fun a : Int64 × Int32 => Ev mmPT tbX11_digest 78 [some (.ref 1), some (.long a.1), none, some (.int a.2)] [] (mh sc rest to fl ma tr mk cn nu de ru la tb tf ph cs) x) (kP (fun r : Int64 × Ob × Ob × Ob × Ob × Ob × Ob => (some (.long r.1), mh sc rest to fl ma r.2.1 mk r.2.2.1 r.2.2.2.1 r.2.2.2.2.1 r.2.2.2.2.2.1 la tb r.2.2.2.2.2.2 ph cs)) x)) (Ph_digest_L78b to fl ma tr cn nu de ru la tf ph v1 v3)) : Ev mmPT tbX11_digest 78 [some (.ref 1), some (.long v1), none, some (.int v3)] [] (mh sc rest to fl ma tr mk cn nu de ru la tb tf ph cs) x := by
  unfold Ph_digest_L78b at hk
  refine Ev.s (ins := .iload_n 3) (pc' := 79) rfl rfl ?_
  refine Ev.s (ins := .aload_n 0) (pc' := 80) rfl rfl ?_
  refine gf_1_1 rfl ?_
  refine gf_34_15 (ma.2.1 2) rfl rfl ?_
  refine q_cge rfl hk (fun c1 hk => ?_) (fun c1 hk => ?_)
  · refine Ev.s (ins := .aload_n 0) (pc' := 90) rfl rfl ?_
    refine Ev.s (ins := .lload_n 1) (pc' := 91) rfl rfl ?_
    refine Ev.s (ins := .iload_n 3) (pc' := 92) rfl rfl ?_
    refine q_ob hk (fun hb => hb) (fun r92 hr92 hk => ?_)
    refine kc_X11_mixedWithValue_0 rfl oi_1 rfl (Nat.le_of_ble_eq_true rfl) (e_Ph_mixedWithValue hr92) ?_
    refine Ev.s (ins := .lstore_n 1) (pc' := 96) (lv' := [some (.ref 1), some (.long r92), none, some (.int v3)]) rfl rfl ?_
    refine q_inc 1 [some (.ref 1), some (.long r92), none, some (.int (v3 + 1))] rfl rfl rfl rfl ?_
    refine Ev.goto rfl ?_
    replace hk := kK_l hk
    exact hk (mu_lt (lt31 c1))
  · replace hk := kK_r hk
    refine q_ic 1 rfl rfl ?_
    refine Ev.s (ins := .istore_n 3) (pc' := 104) (lv' := [some (.ref 1), some (.long v1), none, some (.int 1)]) rfl rfl ?_
    exact e_Ph_digest_L104 hk
set_option maxRecDepth 100000 in
theorem e_Ph_digest_L78 {v1 : Int64} {v3 : Int32} {x : Option Value × List mmC} (hk : (kP (fun r : Int64 × Ob × Ob × Ob × Ob × Ob × Ob => (some (.long r.1), mh sc rest to fl ma r.2.1 mk r.2.2.1 r.2.2.2.1 r.2.2.2.2.1 r.2.2.2.2.2.1 la tb r.2.2.2.2.2.2 ph cs)) x) (Ph_digest_L78 to fl ma tr cn nu de ru la tf ph v1 v3)) : Ev mmPT tbX11_digest 78 [some (.ref 1), some (.long v1), none, some (.int v3)] [] (mh sc rest to fl ma tr mk cn nu de ru la tb tf ph cs) x :=
  k_loop (B := (fun a : Int64 × Int32 => Ph_digest_L78b to fl ma tr cn nu de ru la tf ph a.1 a.2)) (μ := fun a : Int64 × Int32 => mu a.2) (E := fun a : Int64 × Int32 => Ev mmPT tbX11_digest 78 [some (.ref 1), some (.long a.1), none, some (.int a.2)] [] (mh sc rest to fl ma tr mk cn nu de ru la tb tf ph cs) x) (X := (kP (fun r : Int64 × Ob × Ob × Ob × Ob × Ob × Ob => (some (.long r.1), mh sc rest to fl ma r.2.1 mk r.2.2.1 r.2.2.2.1 r.2.2.2.2.1 r.2.2.2.2.2.1 la tb r.2.2.2.2.2.2 ph cs)) x)) (fun a hk => e_Ph_digest_L78b hk) (v1, v3) hk
set_option maxRecDepth 100000 in
theorem e_Ph_digest_L52b {v1 : Int64} {v3 : Int32} {x : Option Value × List mmC} (hk : (kK (fun a : Int64 × Int32 => mu a.2) (mu v3) (fun a : Int64 × Int32 => Ev mmPT tbX11_digest 52 [some (.ref 1), some (.long a.1), none, some (.int a.2)] [] (mh sc rest to fl ma tr mk cn nu de ru la tb tf ph cs) x) (kP (fun r : Int64 × Ob × Ob × Ob × Ob × Ob × Ob => (some (.long r.1), mh sc rest to fl ma r.2.1 mk r.2.2.1 r.2.2.2.1 r.2.2.2.2.1 r.2.2.2.2.2.1 la tb r.2.2.2.2.2.2 ph cs)) x)) (Ph_digest_L52b to fl ma tr cn nu de ru la tf ph v1 v3)) : Ev mmPT tbX11_digest 52 [some (.ref 1), some (.long v1), none, some (.int v3)] [] (mh sc rest to fl ma tr mk cn nu de ru la tb tf ph cs) x := by
  unfold Ph_digest_L52b at hk
  refine Ev.s (ins := .iload_n 3) (pc' := 53) rfl rfl ?_
  refine Ev.s (ins := .aload_n 0) (pc' := 54) rfl rfl ?_
  refine gf_1_1 rfl ?_
  refine gf_34_13 (ma.2.1 0) rfl rfl ?_
  refine q_cge rfl hk (fun c1 hk => ?_) (fun c1 hk => ?_)
  · refine Ev.s (ins := .aload_n 0) (pc' := 64) rfl rfl ?_
    refine Ev.s (ins := .lload_n 1) (pc' := 65) rfl rfl ?_
    refine Ev.s (ins := .iload_n 3) (pc' := 66) rfl rfl ?_
    refine q_ob hk (fun hb => hb) (fun r66 hr66 hk => ?_)
    refine kc_X11_mixedWithPlace_0 rfl oi_1 rfl (Nat.le_of_ble_eq_true rfl) (e_Ph_mixedWithPlace hr66) ?_
    refine Ev.s (ins := .lstore_n 1) (pc' := 70) (lv' := [some (.ref 1), some (.long r66), none, some (.int v3)]) rfl rfl ?_
    refine q_inc 1 [some (.ref 1), some (.long r66), none, some (.int (v3 + 1))] rfl rfl rfl rfl ?_
    refine Ev.goto rfl ?_
    replace hk := kK_l hk
    exact hk (mu_lt (lt31 c1))
  · replace hk := kK_r hk
    refine q_ic 0 rfl rfl ?_
    refine Ev.s (ins := .istore_n 3) (pc' := 78) (lv' := [some (.ref 1), some (.long v1), none, some (.int 0)]) rfl rfl ?_
    exact e_Ph_digest_L78 hk
set_option maxRecDepth 100000 in
theorem e_Ph_digest_L52 {v1 : Int64} {v3 : Int32} {x : Option Value × List mmC} (hk : (kP (fun r : Int64 × Ob × Ob × Ob × Ob × Ob × Ob => (some (.long r.1), mh sc rest to fl ma r.2.1 mk r.2.2.1 r.2.2.2.1 r.2.2.2.2.1 r.2.2.2.2.2.1 la tb r.2.2.2.2.2.2 ph cs)) x) (Ph_digest_L52 to fl ma tr cn nu de ru la tf ph v1 v3)) : Ev mmPT tbX11_digest 52 [some (.ref 1), some (.long v1), none, some (.int v3)] [] (mh sc rest to fl ma tr mk cn nu de ru la tb tf ph cs) x :=
  k_loop (B := (fun a : Int64 × Int32 => Ph_digest_L52b to fl ma tr cn nu de ru la tf ph a.1 a.2)) (μ := fun a : Int64 × Int32 => mu a.2) (E := fun a : Int64 × Int32 => Ev mmPT tbX11_digest 52 [some (.ref 1), some (.long a.1), none, some (.int a.2)] [] (mh sc rest to fl ma tr mk cn nu de ru la tb tf ph cs) x) (X := (kP (fun r : Int64 × Ob × Ob × Ob × Ob × Ob × Ob => (some (.long r.1), mh sc rest to fl ma r.2.1 mk r.2.2.1 r.2.2.2.1 r.2.2.2.2.1 r.2.2.2.2.2.1 la tb r.2.2.2.2.2.2 ph cs)) x)) (fun a hk => e_Ph_digest_L52b hk) (v1, v3) hk
set_option maxRecDepth 100000 in
theorem e_Ph_digest_L6b {v1 : Int64} {v3 : Int32} {x : Option Value × List mmC} (hk : (kK (fun a : Int64 × Int32 => mu a.2) (mu v3) (fun a : Int64 × Int32 => Ev mmPT tbX11_digest 6 [some (.ref 1), some (.long a.1), none, some (.int a.2)] [] (mh sc rest to fl ma tr mk cn nu de ru la tb tf ph cs) x) (kP (fun r : Int64 × Ob × Ob × Ob × Ob × Ob × Ob => (some (.long r.1), mh sc rest to fl ma r.2.1 mk r.2.2.1 r.2.2.2.1 r.2.2.2.2.1 r.2.2.2.2.2.1 la tb r.2.2.2.2.2.2 ph cs)) x)) (Ph_digest_L6b to fl ma tr cn nu de ru la tf ph v1 v3)) : Ev mmPT tbX11_digest 6 [some (.ref 1), some (.long v1), none, some (.int v3)] [] (mh sc rest to fl ma tr mk cn nu de ru la tb tf ph cs) x := by
  unfold Ph_digest_L6b at hk
  refine Ev.s (ins := .iload_n 3) (pc' := 7) rfl rfl ?_
  refine q_bi 10 rfl rfl ?_
  refine q_cgt rfl hk (fun c1 hk => ?_) (fun c1 hk => ?_)
  · replace hk := kK_r hk
    refine Ev.s (ins := .aload_n 0) (pc' := 30) rfl rfl ?_
    refine Ev.s (ins := .lload_n 1) (pc' := 31) rfl rfl ?_
    refine q_ob hk (fun hb => hb) (fun r31 hr31 hk => ?_)
    refine kc_X11_mixedWithBlocks_0 rfl oi_1 rfl (Nat.le_of_ble_eq_true rfl) (e_Ph_mixedWithBlocks hr31) ?_
    refine Ev.s (ins := .lstore_n 1) (pc' := 35) (lv' := [some (.ref 1), some (.long r31), none, some (.int v3)]) rfl rfl ?_
    refine Ev.s (ins := .aload_n 0) (pc' := 36) rfl rfl ?_
    refine Ev.s (ins := .lload_n 1) (pc' := 37) rfl rfl ?_
    refine q_ob hk (fun hb => hb) (fun r37 hr37 hk => ?_)
    refine kc_X11_mixedWithRun_0 rfl oi_1 rfl (Nat.le_of_ble_eq_true rfl) (e_Ph_mixedWithRun hr37) ?_
    refine Ev.s (ins := .lstore_n 1) (pc' := 41) (lv' := [some (.ref 1), some (.long r37), none, some (.int v3)]) rfl rfl ?_
    refine Ev.s (ins := .aload_n 0) (pc' := 42) rfl rfl ?_
    refine gf_1_12 (ph.2.2 0) rfl rfl ?_
    refine q_bne rfl hk (fun c2 hk => ?_) (fun c2 hk => ?_)
    · refine q_ic 0 rfl rfl ?_
      refine Ev.s (ins := .istore_n 3) (pc' := 52) (lv' := [some (.ref 1), some (.long r37), none, some (.int 0)]) rfl rfl ?_
      exact e_Ph_digest_L52 hk
    · refine Ev.s (ins := .lload_n 1) (pc' := 49) rfl rfl ?_
      exact Ev.lret rfl rfl hk
  · refine Ev.s (ins := .lload_n 1) (pc' := 13) rfl rfl ?_
    refine Ev.s (ins := .aload_n 0) (pc' := 14) rfl rfl ?_
    refine Ev.s (ins := .iload_n 3) (pc' := 15) rfl rfl ?_
    refine q_ob hk (fun hb => hb) (fun r15 hr15 hk => ?_)
    refine kc_X11_many_0 rfl oi_1 rfl (Nat.le_of_ble_eq_true rfl) (e_Ph_many hr15) ?_
    refine Ev.s (ins := .i2l) (pc' := 19) rfl rfl ?_
    refine kc_X11_mixed_2 rfl (Nat.le_of_ble_eq_true rfl) (e_Ph_mixed) ?_
    refine Ev.s (ins := .lstore_n 1) (pc' := 23) (lv' := [some (.ref 1), some (.long (Ph_mixed v1 r15.toInt64)), none, some (.int v3)]) rfl rfl ?_
    refine q_inc 1 [some (.ref 1), some (.long (Ph_mixed v1 r15.toInt64)), none, some (.int (v3 + 1))] rfl rfl rfl rfl ?_
    refine Ev.goto rfl ?_
    replace hk := kK_l hk
    exact hk (mu_lt (le31 (by decide) c1))
set_option maxRecDepth 100000 in
theorem e_Ph_digest_L6 {v1 : Int64} {v3 : Int32} {x : Option Value × List mmC} (hk : (kP (fun r : Int64 × Ob × Ob × Ob × Ob × Ob × Ob => (some (.long r.1), mh sc rest to fl ma r.2.1 mk r.2.2.1 r.2.2.2.1 r.2.2.2.2.1 r.2.2.2.2.2.1 la tb r.2.2.2.2.2.2 ph cs)) x) (Ph_digest_L6 to fl ma tr cn nu de ru la tf ph v1 v3)) : Ev mmPT tbX11_digest 6 [some (.ref 1), some (.long v1), none, some (.int v3)] [] (mh sc rest to fl ma tr mk cn nu de ru la tb tf ph cs) x :=
  k_loop (B := (fun a : Int64 × Int32 => Ph_digest_L6b to fl ma tr cn nu de ru la tf ph a.1 a.2)) (μ := fun a : Int64 × Int32 => mu a.2) (E := fun a : Int64 × Int32 => Ev mmPT tbX11_digest 6 [some (.ref 1), some (.long a.1), none, some (.int a.2)] [] (mh sc rest to fl ma tr mk cn nu de ru la tb tf ph cs) x) (X := (kP (fun r : Int64 × Ob × Ob × Ob × Ob × Ob × Ob => (some (.long r.1), mh sc rest to fl ma r.2.1 mk r.2.2.1 r.2.2.2.1 r.2.2.2.2.1 r.2.2.2.2.2.1 la tb r.2.2.2.2.2.2 ph cs)) x)) (fun a hk => e_Ph_digest_L6b hk) (v1, v3) hk
set_option maxRecDepth 100000 in
theorem e_Ph_digest_0 {x : Option Value × List mmC} (hk : (kP (fun r : Int64 × Ob × Ob × Ob × Ob × Ob × Ob => (some (.long r.1), mh sc rest to fl ma r.2.1 mk r.2.2.1 r.2.2.2.1 r.2.2.2.2.1 r.2.2.2.2.2.1 la tb r.2.2.2.2.2.2 ph cs)) x) (Ph_digest to fl ma tr cn nu de ru la tf ph)) : Ev mmPT tbX11_digest 0 [some (.ref 1), none, none, none] [] (mh sc rest to fl ma tr mk cn nu de ru la tb tf ph cs) x := by
  unfold Ph_digest at hk
  refine q_l2 (7605 : Int64) rfl rfl ?_
  refine Ev.s (ins := .lstore_n 1) (pc' := 4) (lv' := [some (.ref 1), some (.long (7605 : Int64)), none, none]) rfl rfl ?_
  refine q_ic 0 rfl rfl ?_
  refine Ev.s (ins := .istore_n 3) (pc' := 6) (lv' := [some (.ref 1), some (.long (7605 : Int64)), none, some (.int 0)]) rfl rfl ?_
  exact e_Ph_digest_L6 hk
set_option maxRecDepth 100000 in
theorem e_Ph_digest {r : Int64 × Ob × Ob × Ob × Ob × Ob × Ob} (hr : (Ph_digest to fl ma tr cn nu de ru la tf ph) = some r) : Ev mmPT tbX11_digest 0 [some (.ref 1), none, none, none] [] (mh sc rest to fl ma tr mk cn nu de ru la tb tf ph cs) ((fun r : Int64 × Ob × Ob × Ob × Ob × Ob × Ob => (some (.long r.1), mh sc rest to fl ma r.2.1 mk r.2.2.1 r.2.2.2.1 r.2.2.2.2.1 r.2.2.2.2.2.1 la tb r.2.2.2.2.2.2 ph cs)) r) := e_Ph_digest_0 (by rw [hr]; exact rfl)
set_option maxRecDepth 100000 in
theorem e_Law_below_20_0 {v0 : Int32} {x : Option Value × List mmC} (hk : (kO (fun r : Int32 => (some (.int r), mh sc rest to fl ma tr mk cn nu de ru la tb tf ph cs)) x) (Law_below_20 v0)) : Ev mmPT tbL_below 0 [some (.int v0), some (.int 20)] [] (mh sc rest to fl ma tr mk cn nu de ru la tb tf ph cs) x := by
  unfold Law_below_20 at hk
  refine Ev.s (ins := .iload_n 0) (pc' := 1) rfl rfl ?_
  refine q_ld 2147483647 rfl rfl ?_
  refine Ev.s (ins := .iand) (pc' := 4) rfl rfl ?_
  refine Ev.s (ins := .iload_n 1) (pc' := 5) rfl rfl ?_
  refine q_rem rfl (by decide) ?_
  exact Ev.iret rfl rfl hk
set_option maxRecDepth 100000 in
theorem e_Law_below_20 {v0 : Int32} : Ev mmPT tbL_below 0 [some (.int v0), some (.int 20)] [] (mh sc rest to fl ma tr mk cn nu de ru la tb tf ph cs) ((fun r : Int32 => (some (.int r), mh sc rest to fl ma tr mk cn nu de ru la tb tf ph cs)) (Law_below_20 v0)) := e_Law_below_20_0 (by exact rfl)
set_option maxRecDepth 100000 in
theorem e_Law_below_9_0 {v0 : Int32} {x : Option Value × List mmC} (hk : (kO (fun r : Int32 => (some (.int r), mh sc rest to fl ma tr mk cn nu de ru la tb tf ph cs)) x) (Law_below_9 v0)) : Ev mmPT tbL_below 0 [some (.int v0), some (.int 9)] [] (mh sc rest to fl ma tr mk cn nu de ru la tb tf ph cs) x := by
  unfold Law_below_9 at hk
  refine Ev.s (ins := .iload_n 0) (pc' := 1) rfl rfl ?_
  refine q_ld 2147483647 rfl rfl ?_
  refine Ev.s (ins := .iand) (pc' := 4) rfl rfl ?_
  refine Ev.s (ins := .iload_n 1) (pc' := 5) rfl rfl ?_
  refine q_rem rfl (by decide) ?_
  exact Ev.iret rfl rfl hk
set_option maxRecDepth 100000 in
theorem e_Law_below_9 {v0 : Int32} : Ev mmPT tbL_below 0 [some (.int v0), some (.int 9)] [] (mh sc rest to fl ma tr mk cn nu de ru la tb tf ph cs) ((fun r : Int32 => (some (.int r), mh sc rest to fl ma tr mk cn nu de ru la tb tf ph cs)) (Law_below_9 v0)) := e_Law_below_9_0 (by exact rfl)
set_option maxRecDepth 100000 in
theorem e_Law_isCut_23 {w0 : Int32} {x : Option Value × List mmC} (hk : (kO (fun r : Bool × Ob × Ob × Ob × Int64 => (some (.int (b2i r.1)), mh sc rest to fl ma tr mk cn nu de r.2.1 r.2.2.1 tb tf r.2.2.2.1 r.2.2.2.2)) x) (Law_isCut_23 to ru la ph cs w0)) : Ev mmPT tbL_isCut 23 [none, none] [.int w0] (mh sc rest to fl ma tr mk cn nu de ru la tb tf ph cs) x := by
  unfold Law_isCut_23 at hk
  refine q_ic 2 rfl rfl ?_
  refine q_cne rfl hk (fun c1 hk => ?_) (fun c1 hk => ?_)
  · refine q_ic 1 rfl rfl ?_
    refine Ev.goto rfl ?_
    exact Ev.zret rfl rfl (Or.inr rfl) hk
  · refine q_ic 0 rfl rfl ?_
    exact Ev.zret rfl rfl (Or.inl rfl) hk
set_option maxRecDepth 100000 in
theorem e_Law_isCut_0 {v1 : Int32} {x : Option Value × List mmC} (hk : (kO (fun r : Bool × Ob × Ob × Ob × Int64 => (some (.int (b2i r.1)), mh sc rest to fl ma tr mk cn nu de r.2.1 r.2.2.1 tb tf r.2.2.2.1 r.2.2.2.2)) x) (Law_isCut to ru la ph cs v1)) : Ev mmPT tbL_isCut 0 [some (.ref 1), some (.int v1)] [] (mh sc rest to fl ma tr mk cn nu de ru la tb tf ph cs) x := by
  unfold Law_isCut at hk
  refine Ev.s (ins := .aload_n 0) (pc' := 1) rfl rfl ?_
  refine Ev.s (ins := .iload_n 1) (pc' := 2) rfl rfl ?_
  refine q_ic 3 rfl rfl ?_
  refine Ev.s (ins := .ishr) (pc' := 4) rfl rfl ?_
  refine q_bi 20 rfl rfl ?_
  refine kc_L_below_2 rfl (Nat.le_of_ble_eq_true rfl) (e_Law_below_20) ?_
  refine q_ic 5 rfl rfl ?_
  refine Ev.s (ins := .isub) (pc' := 11) rfl rfl ?_
  refine Ev.s (ins := .iload_n 1) (pc' := 12) rfl rfl ?_
  refine q_bi 6 rfl rfl ?_
  refine Ev.s (ins := .ishr) (pc' := 15) rfl rfl ?_
  refine q_bi 9 rfl rfl ?_
  refine kc_L_below_2 rfl (Nat.le_of_ble_eq_true rfl) (e_Law_below_9) ?_
  refine kc_X11_run_0 rfl oi_1 rfl (Nat.le_of_ble_eq_true rfl) (e_Ph_run) ?_
  refine Ev.weak [none, none] ⟨rfl, rfl, trivial⟩ ?_
  exact e_Law_isCut_23 hk
set_option maxRecDepth 100000 in
theorem e_Law_isCut {v1 : Int32} : Ev mmPT tbL_isCut 0 [some (.ref 1), some (.int v1)] [] (mh sc rest to fl ma tr mk cn nu de ru la tb tf ph cs) ((fun r : Bool × Ob × Ob × Ob × Int64 => (some (.int (b2i r.1)), mh sc rest to fl ma tr mk cn nu de r.2.1 r.2.2.1 tb tf r.2.2.2.1 r.2.2.2.2)) (Law_isCut to ru la ph cs v1)) := e_Law_isCut_0 (by exact rfl)
set_option maxRecDepth 100000 in
theorem e_J_min_0 {v0 : Int32} {v1 : Int32} {x : Option Value × List mmC} (hk : (kO (fun r : Int32 => (some (.int r), mh sc rest to fl ma tr mk cn nu de ru la tb tf ph cs)) x) (J_min v0 v1)) : Ev mmPT tbJ9_min_7cf53 0 [some (.int v0), some (.int v1)] [] (mh sc rest to fl ma tr mk cn nu de ru la tb tf ph cs) x := by
  unfold J_min at hk
  refine Ev.s (ins := .iload_n 0) (pc' := 1) rfl rfl ?_
  refine Ev.s (ins := .iload_n 1) (pc' := 2) rfl rfl ?_
  refine q_cgt rfl hk (fun c1 hk => ?_) (fun c1 hk => ?_)
  · refine Ev.s (ins := .iload_n 1) (pc' := 10) rfl rfl ?_
    exact Ev.iret rfl rfl hk
  · refine Ev.s (ins := .iload_n 0) (pc' := 6) rfl rfl ?_
    refine Ev.goto rfl ?_
    exact Ev.iret rfl rfl hk
set_option maxRecDepth 100000 in
theorem e_J_min {v0 : Int32} {v1 : Int32} : Ev mmPT tbJ9_min_7cf53 0 [some (.int v0), some (.int v1)] [] (mh sc rest to fl ma tr mk cn nu de ru la tb tf ph cs) ((fun r : Int32 => (some (.int r), mh sc rest to fl ma tr mk cn nu de ru la tb tf ph cs)) (J_min v0 v1)) := e_J_min_0 (by exact rfl)
end RF8
