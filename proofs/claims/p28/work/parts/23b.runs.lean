/-! THE RUNS ARE THE FUNCTIONS, by program: 2 -/
section RF1
variable {sc : mmC} {rest : List mmC} {to fl ma tr mk cn nu de ru la tb tf ph : Ob} {cs : Int64}
set_option maxRecDepth 100000 in
theorem e_Ph_ofBlock_0 {v1 : Int32} {v2 : Int32} {x : Option Value × List mmC} (hk : (kP (fun r : Int32 => (some (.int r), mh sc rest to fl ma tr mk cn nu de ru la tb tf ph cs)) x) (Ph_ofBlock to fl v1 v2)) : Ev mmPT tbX11_ofBlock 0 [some (.ref 1), some (.int v1), some (.int v2), none] [] (mh sc rest to fl ma tr mk cn nu de ru la tb tf ph cs) x := by
  unfold Ph_ofBlock at hk
  refine Ev.s (ins := .aload_n 0) (pc' := 1) rfl rfl ?_
  refine Ev.s (ins := .iload_n 1) (pc' := 2) rfl rfl ?_
  refine kc_X11_isTold_0 rfl oi_1 rfl (Nat.le_of_ble_eq_true rfl) (e_Ph_isTold) ?_
  refine q_bne rfl hk (fun c1 hk => ?_) (fun c1 hk => ?_)
  · refine Ev.s (ins := .aload_n 0) (pc' := 19) rfl rfl ?_
    refine gf_1_0 rfl ?_
    refine gf_2_11 rfl ?_
    refine gf_25_4 (fl.2.1 0) rfl rfl ?_
    refine Ev.s (ins := .iload_n 1) (pc' := 29) rfl rfl ?_
    refine kc_X11_has_2 rfl (Nat.le_of_ble_eq_true rfl) (e_Ph_has) ?_
    refine Ev.s (ins := .istore_n 3) (pc' := 33) (lv' := [some (.ref 1), some (.int v1), some (.int v2), some (.int (b2i (Ph_has (fl.2.1 0) v1)))]) rfl rfl ?_
    refine Ev.s (ins := .iload_n 2) (pc' := 34) rfl rfl ?_
    refine q_if hk (fun c2 hk => ?_) (fun c2 hk => ?_)
    · refine Ev.sw (tg := 72) rfl rfl (by rw [c2]; rfl) ?_
      refine Ev.s (ins := .aload_n 0) (pc' := 73) rfl rfl ?_
      refine gf_1_0 rfl ?_
      refine gf_2_0 rfl ?_
      refine Ev.s (ins := .iload_n 1) (pc' := 80) rfl rfl ?_
      refine at_3 (oat to 0 10 v1) rfl (Nat.le_of_ble_eq_true rfl) rfl ?_
      exact Ev.iret rfl rfl hk
    · skip
      refine q_if hk (fun c3 hk => ?_) (fun c3 hk => ?_)
      · refine Ev.sw (tg := 84) rfl rfl (by rw [c3]; rfl) ?_
        refine Ev.s (ins := .aload_n 0) (pc' := 85) rfl rfl ?_
        refine gf_1_0 rfl ?_
        refine gf_2_5 rfl ?_
        refine Ev.s (ins := .iload_n 1) (pc' := 92) rfl rfl ?_
        refine at_13 (oat to 5 10 v1) rfl (Nat.le_of_ble_eq_true rfl) rfl ?_
        exact Ev.iret rfl rfl hk
      · skip
        refine q_if hk (fun c4 hk => ?_) (fun c4 hk => ?_)
        · refine Ev.sw (tg := 96) rfl rfl (by rw [c4]; rfl) ?_
          refine Ev.s (ins := .iload_n 3) (pc' := 97) rfl rfl ?_
          refine q_beq rfl hk (fun c5 hk => ?_) (fun c5 hk => ?_)
          · refine q_ic 1 rfl rfl ?_
            refine Ev.goto rfl ?_
            exact Ev.iret rfl rfl hk
          · refine q_ic 0 rfl rfl ?_
            exact Ev.iret rfl rfl hk
        · skip
          refine q_if hk (fun c5 hk => ?_) (fun c5 hk => ?_)
          · refine Ev.sw (tg := 106) rfl rfl (by rw [c5]; rfl) ?_
            refine Ev.s (ins := .iload_n 3) (pc' := 107) rfl rfl ?_
            refine q_beq rfl hk (fun c6 hk => ?_) (fun c6 hk => ?_)
            · refine Ev.s (ins := .aload_n 0) (pc' := 111) rfl rfl ?_
              refine gf_1_0 rfl ?_
              refine gf_2_11 rfl ?_
              refine gf_25_1 rfl ?_
              refine Ev.s (ins := .iload_n 1) (pc' := 121) rfl rfl ?_
              refine at_28 (oat fl 1 10 v1) rfl (Nat.le_of_ble_eq_true rfl) rfl ?_
              refine Ev.goto rfl ?_
              exact Ev.iret rfl rfl hk
            · refine q_ic 0 rfl rfl ?_
              exact Ev.iret rfl rfl hk
          · skip
            refine q_if hk (fun c6 hk => ?_) (fun c6 hk => ?_)
            · refine Ev.sw (tg := 129) rfl rfl (by rw [c6]; rfl) ?_
              refine Ev.s (ins := .iload_n 3) (pc' := 130) rfl rfl ?_
              refine q_beq rfl hk (fun c7 hk => ?_) (fun c7 hk => ?_)
              · refine Ev.s (ins := .aload_n 0) (pc' := 134) rfl rfl ?_
                refine gf_1_0 rfl ?_
                refine gf_2_11 rfl ?_
                refine Ev.s (ins := .iload_n 1) (pc' := 141) rfl rfl ?_
                refine kc_X2_frontier_0 rfl oi_25 rfl (Nat.le_of_ble_eq_true rfl) (e_Flow_frontier_25) ?_
                refine Ev.goto rfl ?_
                exact Ev.iret rfl rfl hk
              · refine q_ic 0 rfl rfl ?_
                exact Ev.iret rfl rfl hk
            · skip
              refine q_if hk (fun c7 hk => ?_) (fun c7 hk => ?_)
              · refine Ev.sw (tg := 149) rfl rfl (by rw [c7]; rfl) ?_
                refine Ev.s (ins := .iload_n 3) (pc' := 150) rfl rfl ?_
                refine q_beq rfl hk (fun c8 hk => ?_) (fun c8 hk => ?_)
                · refine Ev.s (ins := .aload_n 0) (pc' := 154) rfl rfl ?_
                  refine gf_1_0 rfl ?_
                  refine gf_2_10 rfl ?_
                  refine Ev.s (ins := .iload_n 1) (pc' := 161) rfl rfl ?_
                  refine at_23 (oat to 10 10 v1) rfl (Nat.le_of_ble_eq_true rfl) rfl ?_
                  refine Ev.goto rfl ?_
                  exact Ev.iret rfl rfl hk
                · refine q_ic 0 rfl rfl ?_
                  exact Ev.iret rfl rfl hk
              · skip
                refine Ev.sw (tg := 169) rfl rfl (swg (by decide) (by decide) (fun k h e => ?_)) ?_
                · have h9 : k < 6 := by omega
                  match k, h9, e with
                  | 0, _, e => exact absurd e c2
                  | 1, _, e => exact absurd e c3
                  | 2, _, e => exact absurd e c4
                  | 3, _, e => exact absurd e c5
                  | 4, _, e => exact absurd e c6
                  | 5, _, e => exact absurd e c7
                · exact False.elim hk
  · exact False.elim hk
set_option maxRecDepth 100000 in
theorem e_Ph_ofBlock {v1 : Int32} {v2 : Int32} {r : Int32} (hr : (Ph_ofBlock to fl v1 v2) = some r) : Ev mmPT tbX11_ofBlock 0 [some (.ref 1), some (.int v1), some (.int v2), none] [] (mh sc rest to fl ma tr mk cn nu de ru la tb tf ph cs) ((fun r : Int32 => (some (.int r), mh sc rest to fl ma tr mk cn nu de ru la tb tf ph cs)) r) := e_Ph_ofBlock_0 (by rw [hr]; exact rfl)
set_option maxRecDepth 100000 in
theorem e_Form_putInto_34_0 {v1 : Int32} {v2 : Int32} {x : Option Value × List mmC} (hk : (kO (fun r : Ob => (none, mh sc rest to fl r tr mk cn nu de ru la tb tf ph cs)) x) (Form_putInto ma v1 v2)) : Ev mmPT tbX3_putInto 0 [some (.ref 34), some (.int v1), some (.int v2), none] [] (mh sc rest to fl ma tr mk cn nu de ru la tb tf ph cs) x := by
  unfold Form_putInto at hk
  refine Ev.s (ins := .aload_n 0) (pc' := 1) rfl rfl ?_
  refine gf_34_7 rfl ?_
  refine Ev.s (ins := .iload_n 2) (pc' := 5) rfl rfl ?_
  refine at_49 (oat ma 7 10 v2) rfl (Nat.le_of_ble_eq_true rfl) rfl ?_
  refine Ev.s (ins := .istore_n 3) (pc' := 9) (lv' := [some (.ref 34), some (.int v1), some (.int v2), some (.int (oat ma 7 10 v2))]) rfl rfl ?_
  refine Ev.s (ins := .aload_n 0) (pc' := 10) rfl rfl ?_
  refine gf_34_1 rfl ?_
  refine Ev.s (ins := .iload_n 1) (pc' := 14) rfl rfl ?_
  refine Ev.s (ins := .iload_n 2) (pc' := 15) rfl rfl ?_
  refine pt_37 rfl (Nat.le_of_ble_eq_true rfl) ?_
  refine Ev.s (ins := .aload_n 0) (pc' := 19) rfl rfl ?_
  refine gf_34_8 rfl ?_
  refine Ev.s (ins := .iload_n 2) (pc' := 23) rfl rfl ?_
  refine q_si 140 rfl rfl ?_
  refine Ev.s (ins := .imul) (pc' := 27) rfl rfl ?_
  refine Ev.s (ins := .iload_n 3) (pc' := 28) rfl rfl ?_
  refine Ev.s (ins := .iadd) (pc' := 29) rfl rfl ?_
  refine Ev.s (ins := .iload_n 1) (pc' := 30) rfl rfl ?_
  refine pt_51 rfl (Nat.le_of_ble_eq_true rfl) ?_
  refine Ev.s (ins := .aload_n 0) (pc' := 34) rfl rfl ?_
  refine gf_34_7 rfl ?_
  refine Ev.s (ins := .iload_n 2) (pc' := 38) rfl rfl ?_
  refine Ev.s (ins := .iload_n 3) (pc' := 39) rfl rfl ?_
  refine q_ic 1 rfl rfl ?_
  refine Ev.s (ins := .iadd) (pc' := 41) rfl rfl ?_
  refine pt_49 rfl (Nat.le_of_ble_eq_true rfl) ?_
  exact Ev.vret rfl rfl hk
set_option maxRecDepth 100000 in
theorem e_Form_putInto_34 {v1 : Int32} {v2 : Int32} : Ev mmPT tbX3_putInto 0 [some (.ref 34), some (.int v1), some (.int v2), none] [] (mh sc rest to fl ma tr mk cn nu de ru la tb tf ph cs) ((fun r : Ob => (none, mh sc rest to fl r tr mk cn nu de ru la tb tf ph cs)) (Form_putInto ma v1 v2)) := e_Form_putInto_34_0 (by exact rfl)
set_option maxRecDepth 100000 in
theorem e_Form_addValue_34_50 {x : Option Value × List mmC} (hk : (kO (fun r : Ob => (none, mh sc rest to fl r tr mk cn nu de ru la tb tf ph cs)) x) (Form_addValue_50 ma)) : Ev mmPT tbX3_addValue 50 [some (.ref 34), none, none, none] [] (mh sc rest to fl ma tr mk cn nu de ru la tb tf ph cs) x := by
  unfold Form_addValue_50 at hk
  refine Ev.s (ins := .aload_n 0) (pc' := 51) rfl rfl ?_
  refine Ev.s (ins := .dup) (pc' := 52) rfl rfl ?_
  refine gf_34_15 (ma.2.1 2) rfl rfl ?_
  refine q_ic 1 rfl rfl ?_
  refine Ev.s (ins := .iadd) (pc' := 57) rfl rfl ?_
  refine pf_34_15 ((ma.2.1 2) + 1) rfl ?_
  exact Ev.vret rfl rfl hk
set_option maxRecDepth 100000 in
theorem e_Form_addValue_34_0 {v1 : Int32} {v2 : Int32} {v3 : Int32} {x : Option Value × List mmC} (hk : (kO (fun r : Ob => (none, mh sc rest to fl r tr mk cn nu de ru la tb tf ph cs)) x) (Form_addValue ma v1 v2 v3)) : Ev mmPT tbX3_addValue 0 [some (.ref 34), some (.int v1), some (.int v2), some (.int v3)] [] (mh sc rest to fl ma tr mk cn nu de ru la tb tf ph cs) x := by
  unfold Form_addValue at hk
  refine Ev.s (ins := .aload_n 0) (pc' := 1) rfl rfl ?_
  refine gf_34_0 rfl ?_
  refine Ev.s (ins := .aload_n 0) (pc' := 5) rfl rfl ?_
  refine gf_34_15 (ma.2.1 2) rfl rfl ?_
  refine Ev.s (ins := .iload_n 2) (pc' := 9) rfl rfl ?_
  refine pt_35 rfl (Nat.le_of_ble_eq_true rfl) ?_
  refine Ev.s (ins := .aload_n 0) (pc' := 13) rfl rfl ?_
  refine gf_34_2 rfl ?_
  refine Ev.s (ins := .aload_n 0) (pc' := 17) rfl rfl ?_
  refine gf_34_15 (ma.2.1 2) rfl rfl ?_
  refine Ev.s (ins := .iload_n 3) (pc' := 21) rfl rfl ?_
  refine pt_39 rfl (Nat.le_of_ble_eq_true rfl) ?_
  refine Ev.s (ins := .aload_n 0) (pc' := 25) rfl rfl ?_
  refine gf_34_1 rfl ?_
  refine Ev.s (ins := .aload_n 0) (pc' := 29) rfl rfl ?_
  refine gf_34_15 (ma.2.1 2) rfl rfl ?_
  refine q_ic (-1) rfl rfl ?_
  refine pt_37 rfl (Nat.le_of_ble_eq_true rfl) ?_
  refine Ev.s (ins := .iload_n 1) (pc' := 37) rfl rfl ?_
  refine q_ic (-1) rfl rfl ?_
  refine q_ceq rfl hk (fun c1 hk => ?_) (fun c1 hk => ?_)
  · refine Ev.weak [some (.ref 34), none, none, none] ⟨rfl, rfl, rfl, rfl, trivial⟩ ?_
    exact e_Form_addValue_34_50 hk
  · refine Ev.s (ins := .aload_n 0) (pc' := 42) rfl rfl ?_
    refine Ev.s (ins := .aload_n 0) (pc' := 43) rfl rfl ?_
    refine gf_34_15 (ma.2.1 2) rfl rfl ?_
    refine Ev.s (ins := .iload_n 1) (pc' := 47) rfl rfl ?_
    refine kc_X3_putInto_0 rfl oi_34 rfl (Nat.le_of_ble_eq_true rfl) (e_Form_putInto_34) ?_
    refine Ev.weak [some (.ref 34), none, none, none] ⟨rfl, rfl, rfl, rfl, trivial⟩ ?_
    exact e_Form_addValue_34_50 hk
set_option maxRecDepth 100000 in
theorem e_Form_addValue_34 {v1 : Int32} {v2 : Int32} {v3 : Int32} : Ev mmPT tbX3_addValue 0 [some (.ref 34), some (.int v1), some (.int v2), some (.int v3)] [] (mh sc rest to fl ma tr mk cn nu de ru la tb tf ph cs) ((fun r : Ob => (none, mh sc rest to fl r tr mk cn nu de ru la tb tf ph cs)) (Form_addValue ma v1 v2 v3)) := e_Form_addValue_34_0 (by exact rfl)
set_option maxRecDepth 100000 in
theorem e_Form_begin_34_L72b {v3 : Int32} {x : Option Value × List mmC} (hk : (kK (fun a : Int32 × Ob => mu a.1) (mu v3) (fun a : Int32 × Ob => Ev mmPT tbX3_begin 72 [some (.ref 34), none, none, some (.int a.1)] [] (mh sc rest to fl a.2 tr mk cn nu de ru la tb tf ph cs) x) (kO (fun r : Ob => (none, mh sc rest to fl r tr mk cn nu de ru la tb tf ph cs)) x)) (Form_begin_L72b ma v3)) : Ev mmPT tbX3_begin 72 [some (.ref 34), none, none, some (.int v3)] [] (mh sc rest to fl ma tr mk cn nu de ru la tb tf ph cs) x := by
  unfold Form_begin_L72b at hk
  refine Ev.s (ins := .iload_n 3) (pc' := 73) rfl rfl ?_
  refine q_bi 6 rfl rfl ?_
  refine q_cge rfl hk (fun c1 hk => ?_) (fun c1 hk => ?_)
  · refine Ev.s (ins := .aload_n 0) (pc' := 79) rfl rfl ?_
    refine q_ic (-1) rfl rfl ?_
    refine q_bi 10 rfl rfl ?_
    refine q_ic (-1) rfl rfl ?_
    refine kc_X3_addValue_0 rfl oi_34 rfl (Nat.le_of_ble_eq_true rfl) (e_Form_addValue_34) ?_
    refine q_inc 1 [some (.ref 34), none, none, some (.int (v3 + 1))] rfl rfl rfl rfl ?_
    refine Ev.goto rfl ?_
    replace hk := kK_l hk
    exact hk (mu_lt (lt31 c1))
  · replace hk := kK_r hk
    exact Ev.vret rfl rfl hk
set_option maxRecDepth 100000 in
theorem e_Form_begin_34_L72 {v3 : Int32} {x : Option Value × List mmC} (hk : (kO (fun r : Ob => (none, mh sc rest to fl r tr mk cn nu de ru la tb tf ph cs)) x) (Form_begin_L72 ma v3)) : Ev mmPT tbX3_begin 72 [some (.ref 34), none, none, some (.int v3)] [] (mh sc rest to fl ma tr mk cn nu de ru la tb tf ph cs) x :=
  k_loop (B := (fun a : Int32 × Ob => Form_begin_L72b a.2 a.1)) (μ := fun a : Int32 × Ob => mu a.1) (E := fun a : Int32 × Ob => Ev mmPT tbX3_begin 72 [some (.ref 34), none, none, some (.int a.1)] [] (mh sc rest to fl a.2 tr mk cn nu de ru la tb tf ph cs) x) (X := (kO (fun r : Ob => (none, mh sc rest to fl r tr mk cn nu de ru la tb tf ph cs)) x)) (fun a hk => e_Form_begin_34_L72b hk) (v3, ma) hk
set_option maxRecDepth 100000 in
theorem e_Form_begin_34_0 {v1 : Int32} {v2 : Int32} {x : Option Value × List mmC} (hk : (kO (fun r : Ob => (none, mh sc rest to fl r tr mk cn nu de ru la tb tf ph cs)) x) (Form_begin ma v1 v2)) : Ev mmPT tbX3_begin 0 [some (.ref 34), some (.int v1), some (.int v2), none] [] (mh sc rest to fl ma tr mk cn nu de ru la tb tf ph cs) x := by
  unfold Form_begin at hk
  refine Ev.s (ins := .aload_n 0) (pc' := 1) rfl rfl ?_
  refine Ev.s (ins := .iload_n 1) (pc' := 2) rfl rfl ?_
  refine pf_34_13 v1 rfl ?_
  refine Ev.s (ins := .aload_n 0) (pc' := 6) rfl rfl ?_
  refine Ev.s (ins := .iload_n 2) (pc' := 7) rfl rfl ?_
  refine pf_34_14 v2 rfl ?_
  refine Ev.s (ins := .aload_n 0) (pc' := 11) rfl rfl ?_
  refine q_ic 0 rfl rfl ?_
  refine pf_34_15 0 rfl ?_
  refine Ev.s (ins := .aload_n 0) (pc' := 16) rfl rfl ?_
  refine q_ic 0 rfl rfl ?_
  refine pf_34_16 0 rfl ?_
  refine Ev.s (ins := .aload_n 0) (pc' := 21) rfl rfl ?_
  refine q_ic 0 rfl rfl ?_
  refine pf_34_17 0 rfl ?_
  refine Ev.s (ins := .aload_n 0) (pc' := 26) rfl rfl ?_
  refine q_ic 0 rfl rfl ?_
  refine pf_34_18 0 rfl ?_
  refine Ev.s (ins := .aload_n 0) (pc' := 31) rfl rfl ?_
  refine gf_34_3 rfl ?_
  refine q_ic 0 rfl rfl ?_
  refine fl_41 rfl (Nat.le_of_ble_eq_true rfl) ?_
  refine Ev.s (ins := .aload_n 0) (pc' := 39) rfl rfl ?_
  refine gf_34_7 rfl ?_
  refine q_ic 0 rfl rfl ?_
  refine fl_49 rfl (Nat.le_of_ble_eq_true rfl) ?_
  refine Ev.s (ins := .aload_n 0) (pc' := 47) rfl rfl ?_
  refine gf_34_9 rfl ?_
  refine q_ic 0 rfl rfl ?_
  refine fl_53 rfl (Nat.le_of_ble_eq_true rfl) ?_
  refine Ev.s (ins := .aload_n 0) (pc' := 55) rfl rfl ?_
  refine gf_34_11 rfl ?_
  refine q_ic 0 rfl rfl ?_
  refine fl_57 rfl (Nat.le_of_ble_eq_true rfl) ?_
  refine Ev.s (ins := .aload_n 0) (pc' := 63) rfl rfl ?_
  refine gf_34_12 rfl ?_
  refine q_ic (-1) rfl rfl ?_
  refine fl_59 rfl (Nat.le_of_ble_eq_true rfl) ?_
  refine q_ic 0 rfl rfl ?_
  refine Ev.s (ins := .istore_n 3) (pc' := 72) (lv' := [some (.ref 34), some (.int v1), some (.int v2), some (.int 0)]) rfl rfl ?_
  refine Ev.weak [some (.ref 34), none, none, some (.int 0)] ⟨rfl, rfl, rfl, rfl, trivial⟩ ?_
  exact e_Form_begin_34_L72 hk
set_option maxRecDepth 100000 in
theorem e_Form_begin_34 {v1 : Int32} {v2 : Int32} : Ev mmPT tbX3_begin 0 [some (.ref 34), some (.int v1), some (.int v2), none] [] (mh sc rest to fl ma tr mk cn nu de ru la tb tf ph cs) ((fun r : Ob => (none, mh sc rest to fl r tr mk cn nu de ru la tb tf ph cs)) (Form_begin ma v1 v2)) := e_Form_begin_34_0 (by exact rfl)
set_option maxRecDepth 100000 in
theorem e_Maker_whereJoined_88_2_41 {v2 : Int32} {v3 : Int32} {v4 : Int32} {x : Option Value × List mmC} (b8 : v4 < 2147483647) (hk : (kK (fun a : Int32 × Int32 => mu a.2) (mu v4) (fun a : Int32 × Int32 => Ev mmPT tbX5_whereJoined 8 [none, some (.ref 2), some (.int v2), some (.int a.1), some (.int a.2), none, none] [] (mh sc rest to fl ma tr mk cn nu de ru la tb tf ph cs) x) (kO (fun r : Int32 => (some (.int r), mh sc rest to fl ma tr mk cn nu de ru la tb tf ph cs)) x)) (Maker_whereJoined_41 to fl v2 v3 v4)) : Ev mmPT tbX5_whereJoined 41 [none, some (.ref 2), some (.int v2), some (.int v3), some (.int v4), none, none] [] (mh sc rest to fl ma tr mk cn nu de ru la tb tf ph cs) x := by
  unfold Maker_whereJoined_41 at hk
  refine q_inc 1 [none, some (.ref 2), some (.int v2), some (.int v3), some (.int (v4 + 1)), none, none] rfl rfl rfl rfl ?_
  refine Ev.goto rfl ?_
  replace hk := kK_l hk
  exact hk (mu_lt b8)
set_option maxRecDepth 100000 in
theorem e_Maker_whereJoined_88_2_98 {v3 : Int32} {v4 : Int32} {v5 : Int32} {v6 : Int32} {x : Option Value × List mmC} (b53 : v5 < 2147483647) (b63 : v6 < 2147483647) (hk : (kK (fun a : Int32 × Int32 => mu a.2) (mu v6) (fun a : Int32 × Int32 => Ev mmPT tbX5_whereJoined 63 [none, some (.ref 2), none, some (.int v3), some (.int a.1), some (.int v5), some (.int a.2)] [] (mh sc rest to fl ma tr mk cn nu de ru la tb tf ph cs) x) (kK (fun a : Int32 × Int32 => mu a.2) (mu v5) (fun a : Int32 × Int32 => Ev mmPT tbX5_whereJoined 53 [none, some (.ref 2), none, some (.int v3), some (.int a.1), some (.int a.2), none] [] (mh sc rest to fl ma tr mk cn nu de ru la tb tf ph cs) x) (kO (fun r : Int32 => (some (.int r), mh sc rest to fl ma tr mk cn nu de ru la tb tf ph cs)) x))) (Maker_whereJoined_98 to fl v3 v4 v5 v6)) : Ev mmPT tbX5_whereJoined 98 [none, some (.ref 2), none, some (.int v3), some (.int v4), some (.int v5), some (.int v6)] [] (mh sc rest to fl ma tr mk cn nu de ru la tb tf ph cs) x := by
  unfold Maker_whereJoined_98 at hk
  refine q_inc 1 [none, some (.ref 2), none, some (.int v3), some (.int v4), some (.int v5), some (.int (v6 + 1))] rfl rfl rfl rfl ?_
  refine Ev.goto rfl ?_
  replace hk := kK_l hk
  exact hk (mu_lt b63)
set_option maxRecDepth 100000 in
theorem e_Maker_whereJoined_88_2_L63b {v3 : Int32} {v4 : Int32} {v5 : Int32} {v6 : Int32} {x : Option Value × List mmC} (b53 : v5 < 2147483647) (hk : (kK (fun a : Int32 × Int32 => mu a.2) (mu v6) (fun a : Int32 × Int32 => Ev mmPT tbX5_whereJoined 63 [none, some (.ref 2), none, some (.int v3), some (.int a.1), some (.int v5), some (.int a.2)] [] (mh sc rest to fl ma tr mk cn nu de ru la tb tf ph cs) x) (kK (fun a : Int32 × Int32 => mu a.2) (mu v5) (fun a : Int32 × Int32 => Ev mmPT tbX5_whereJoined 53 [none, some (.ref 2), none, some (.int v3), some (.int a.1), some (.int a.2), none] [] (mh sc rest to fl ma tr mk cn nu de ru la tb tf ph cs) x) (kO (fun r : Int32 => (some (.int r), mh sc rest to fl ma tr mk cn nu de ru la tb tf ph cs)) x))) (Maker_whereJoined_L63b to fl v3 v4 v5 v6)) : Ev mmPT tbX5_whereJoined 63 [none, some (.ref 2), none, some (.int v3), some (.int v4), some (.int v5), some (.int v6)] [] (mh sc rest to fl ma tr mk cn nu de ru la tb tf ph cs) x := by
  unfold Maker_whereJoined_L63b at hk
  refine Ev.s (ins := .iload 6) (pc' := 65) rfl rfl ?_
  refine Ev.s (ins := .aload_n 1) (pc' := 66) rfl rfl ?_
  refine gf_2_12 (to.2.1 0) rfl rfl ?_
  refine q_cge rfl hk (fun c1 hk => ?_) (fun c1 hk => ?_)
  · refine Ev.s (ins := .iload_n 3) (pc' := 73) rfl rfl ?_
    refine Ev.s (ins := .iload 4) (pc' := 75) rfl rfl ?_
    refine Ev.s (ins := .ior) (pc' := 76) rfl rfl ?_
    refine Ev.s (ins := .iload 6) (pc' := 78) rfl rfl ?_
    refine kc_X11_has_3 rfl (Nat.le_of_ble_eq_true rfl) (e_Ph_has) ?_
    refine q_beq rfl hk (fun c2 hk => ?_) (fun c2 hk => ?_)
    · refine Ev.s (ins := .iload 4) (pc' := 86) rfl rfl ?_
      refine Ev.s (ins := .aload_n 1) (pc' := 87) rfl rfl ?_
      refine gf_2_11 rfl ?_
      refine Ev.s (ins := .iload 6) (pc' := 92) rfl rfl ?_
      refine kc_X2_frontier_0 rfl oi_25 rfl (Nat.le_of_ble_eq_true rfl) (e_Flow_frontier_25) ?_
      refine Ev.s (ins := .ior) (pc' := 96) rfl rfl ?_
      refine Ev.s (ins := .istore 4) (pc' := 98) (lv' := [none, some (.ref 2), none, some (.int v3), some (.int (v4 ||| (Flow_frontier fl v6))), some (.int v5), some (.int v6)]) rfl rfl ?_
      exact e_Maker_whereJoined_88_2_98 b53 (lt31 c1) hk
    · exact e_Maker_whereJoined_88_2_98 b53 (lt31 c1) hk
  · replace hk := kK_r hk
    refine q_inc 1 [none, some (.ref 2), none, some (.int v3), some (.int v4), some (.int (v5 + 1)), some (.int v6)] rfl rfl rfl rfl ?_
    refine Ev.goto rfl ?_
    refine Ev.weak [none, some (.ref 2), none, some (.int v3), some (.int v4), some (.int (v5 + 1)), none] ⟨rfl, rfl, rfl, rfl, rfl, rfl, rfl, trivial⟩ ?_
    replace hk := kK_l hk
    exact hk (mu_lt b53)
set_option maxRecDepth 100000 in
theorem e_Maker_whereJoined_88_2_L63 {v3 : Int32} {v4 : Int32} {v5 : Int32} {v6 : Int32} {x : Option Value × List mmC} (b53 : v5 < 2147483647) (hk : (kK (fun a : Int32 × Int32 => mu a.2) (mu v5) (fun a : Int32 × Int32 => Ev mmPT tbX5_whereJoined 53 [none, some (.ref 2), none, some (.int v3), some (.int a.1), some (.int a.2), none] [] (mh sc rest to fl ma tr mk cn nu de ru la tb tf ph cs) x) (kO (fun r : Int32 => (some (.int r), mh sc rest to fl ma tr mk cn nu de ru la tb tf ph cs)) x)) (Maker_whereJoined_L63 to fl v3 v4 v5 v6)) : Ev mmPT tbX5_whereJoined 63 [none, some (.ref 2), none, some (.int v3), some (.int v4), some (.int v5), some (.int v6)] [] (mh sc rest to fl ma tr mk cn nu de ru la tb tf ph cs) x :=
  k_loop (B := (fun a : Int32 × Int32 => Maker_whereJoined_L63b to fl v3 a.1 v5 a.2)) (μ := fun a : Int32 × Int32 => mu a.2) (E := fun a : Int32 × Int32 => Ev mmPT tbX5_whereJoined 63 [none, some (.ref 2), none, some (.int v3), some (.int a.1), some (.int v5), some (.int a.2)] [] (mh sc rest to fl ma tr mk cn nu de ru la tb tf ph cs) x) (X := (kK (fun a : Int32 × Int32 => mu a.2) (mu v5) (fun a : Int32 × Int32 => Ev mmPT tbX5_whereJoined 53 [none, some (.ref 2), none, some (.int v3), some (.int a.1), some (.int a.2), none] [] (mh sc rest to fl ma tr mk cn nu de ru la tb tf ph cs) x) (kO (fun r : Int32 => (some (.int r), mh sc rest to fl ma tr mk cn nu de ru la tb tf ph cs)) x))) (fun a hk => e_Maker_whereJoined_88_2_L63b b53 hk) (v4, v6) hk
set_option maxRecDepth 100000 in
theorem e_Maker_whereJoined_88_2_L53b {v3 : Int32} {v4 : Int32} {v5 : Int32} {x : Option Value × List mmC} (hk : (kK (fun a : Int32 × Int32 => mu a.2) (mu v5) (fun a : Int32 × Int32 => Ev mmPT tbX5_whereJoined 53 [none, some (.ref 2), none, some (.int v3), some (.int a.1), some (.int a.2), none] [] (mh sc rest to fl ma tr mk cn nu de ru la tb tf ph cs) x) (kO (fun r : Int32 => (some (.int r), mh sc rest to fl ma tr mk cn nu de ru la tb tf ph cs)) x)) (Maker_whereJoined_L53b to fl v3 v4 v5)) : Ev mmPT tbX5_whereJoined 53 [none, some (.ref 2), none, some (.int v3), some (.int v4), some (.int v5), none] [] (mh sc rest to fl ma tr mk cn nu de ru la tb tf ph cs) x := by
  unfold Maker_whereJoined_L53b at hk
  refine Ev.s (ins := .iload 5) (pc' := 55) rfl rfl ?_
  refine q_bi 10 rfl rfl ?_
  refine q_cge rfl hk (fun c1 hk => ?_) (fun c1 hk => ?_)
  · refine q_ic 0 rfl rfl ?_
    refine Ev.s (ins := .istore 6) (pc' := 63) (lv' := [none, some (.ref 2), none, some (.int v3), some (.int v4), some (.int v5), some (.int 0)]) rfl rfl ?_
    exact e_Maker_whereJoined_88_2_L63 (lt31 c1) hk
  · replace hk := kK_r hk
    refine Ev.s (ins := .iload 4) (pc' := 112) rfl rfl ?_
    exact Ev.iret rfl rfl hk
set_option maxRecDepth 100000 in
theorem e_Maker_whereJoined_88_2_L53 {v3 : Int32} {v4 : Int32} {v5 : Int32} {x : Option Value × List mmC} (hk : (kO (fun r : Int32 => (some (.int r), mh sc rest to fl ma tr mk cn nu de ru la tb tf ph cs)) x) (Maker_whereJoined_L53 to fl v3 v4 v5)) : Ev mmPT tbX5_whereJoined 53 [none, some (.ref 2), none, some (.int v3), some (.int v4), some (.int v5), none] [] (mh sc rest to fl ma tr mk cn nu de ru la tb tf ph cs) x :=
  k_loop (B := (fun a : Int32 × Int32 => Maker_whereJoined_L53b to fl v3 a.1 a.2)) (μ := fun a : Int32 × Int32 => mu a.2) (E := fun a : Int32 × Int32 => Ev mmPT tbX5_whereJoined 53 [none, some (.ref 2), none, some (.int v3), some (.int a.1), some (.int a.2), none] [] (mh sc rest to fl ma tr mk cn nu de ru la tb tf ph cs) x) (X := (kO (fun r : Int32 => (some (.int r), mh sc rest to fl ma tr mk cn nu de ru la tb tf ph cs)) x)) (fun a hk => e_Maker_whereJoined_88_2_L53b hk) (v4, v5) hk
set_option maxRecDepth 100000 in
theorem e_Maker_whereJoined_88_2_L8b {v2 : Int32} {v3 : Int32} {v4 : Int32} {x : Option Value × List mmC} (hk : (kK (fun a : Int32 × Int32 => mu a.2) (mu v4) (fun a : Int32 × Int32 => Ev mmPT tbX5_whereJoined 8 [none, some (.ref 2), some (.int v2), some (.int a.1), some (.int a.2), none, none] [] (mh sc rest to fl ma tr mk cn nu de ru la tb tf ph cs) x) (kO (fun r : Int32 => (some (.int r), mh sc rest to fl ma tr mk cn nu de ru la tb tf ph cs)) x)) (Maker_whereJoined_L8b to fl v2 v3 v4)) : Ev mmPT tbX5_whereJoined 8 [none, some (.ref 2), some (.int v2), some (.int v3), some (.int v4), none, none] [] (mh sc rest to fl ma tr mk cn nu de ru la tb tf ph cs) x := by
  unfold Maker_whereJoined_L8b at hk
  refine Ev.s (ins := .iload 4) (pc' := 10) rfl rfl ?_
  refine Ev.s (ins := .aload_n 1) (pc' := 11) rfl rfl ?_
  refine gf_2_12 (to.2.1 0) rfl rfl ?_
  refine q_cge rfl hk (fun c1 hk => ?_) (fun c1 hk => ?_)
  · refine Ev.s (ins := .aload_n 1) (pc' := 18) rfl rfl ?_
    refine gf_2_9 rfl ?_
    refine Ev.s (ins := .iload 4) (pc' := 23) rfl rfl ?_
    refine at_21 (oat to 9 10 v4) rfl (Nat.le_of_ble_eq_true rfl) rfl ?_
    refine Ev.s (ins := .iload_n 2) (pc' := 27) rfl rfl ?_
    refine kc_X11_has_3 rfl (Nat.le_of_ble_eq_true rfl) (e_Ph_has) ?_
    refine q_beq rfl hk (fun c2 hk => ?_) (fun c2 hk => ?_)
    · refine Ev.s (ins := .iload_n 3) (pc' := 34) rfl rfl ?_
      refine Ev.s (ins := .iload 4) (pc' := 36) rfl rfl ?_
      refine kc_X11_bit_3 rfl (Nat.le_of_ble_eq_true rfl) (e_Ph_bit) ?_
      refine Ev.s (ins := .ior) (pc' := 40) rfl rfl ?_
      refine Ev.s (ins := .istore_n 3) (pc' := 41) (lv' := [none, some (.ref 2), some (.int v2), some (.int (v3 ||| (Ph_bit v4))), some (.int v4), none, none]) rfl rfl ?_
      exact e_Maker_whereJoined_88_2_41 (lt31 c1) hk
    · exact e_Maker_whereJoined_88_2_41 (lt31 c1) hk
  · replace hk := kK_r hk
    refine q_ic 0 rfl rfl ?_
    refine Ev.s (ins := .istore 4) (pc' := 50) (lv' := [none, some (.ref 2), some (.int v2), some (.int v3), some (.int 0), none, none]) rfl rfl ?_
    refine q_ic 0 rfl rfl ?_
    refine Ev.s (ins := .istore 5) (pc' := 53) (lv' := [none, some (.ref 2), some (.int v2), some (.int v3), some (.int 0), some (.int 0), none]) rfl rfl ?_
    refine Ev.weak [none, some (.ref 2), none, some (.int v3), some (.int 0), some (.int 0), none] ⟨rfl, rfl, rfl, rfl, rfl, rfl, rfl, trivial⟩ ?_
    exact e_Maker_whereJoined_88_2_L53 hk
set_option maxRecDepth 100000 in
theorem e_Maker_whereJoined_88_2_L8 {v2 : Int32} {v3 : Int32} {v4 : Int32} {x : Option Value × List mmC} (hk : (kO (fun r : Int32 => (some (.int r), mh sc rest to fl ma tr mk cn nu de ru la tb tf ph cs)) x) (Maker_whereJoined_L8 to fl v2 v3 v4)) : Ev mmPT tbX5_whereJoined 8 [none, some (.ref 2), some (.int v2), some (.int v3), some (.int v4), none, none] [] (mh sc rest to fl ma tr mk cn nu de ru la tb tf ph cs) x :=
  k_loop (B := (fun a : Int32 × Int32 => Maker_whereJoined_L8b to fl v2 a.1 a.2)) (μ := fun a : Int32 × Int32 => mu a.2) (E := fun a : Int32 × Int32 => Ev mmPT tbX5_whereJoined 8 [none, some (.ref 2), some (.int v2), some (.int a.1), some (.int a.2), none, none] [] (mh sc rest to fl ma tr mk cn nu de ru la tb tf ph cs) x) (X := (kO (fun r : Int32 => (some (.int r), mh sc rest to fl ma tr mk cn nu de ru la tb tf ph cs)) x)) (fun a hk => e_Maker_whereJoined_88_2_L8b hk) (v3, v4) hk
set_option maxRecDepth 100000 in
theorem e_Maker_whereJoined_88_2_0 {v2 : Int32} {x : Option Value × List mmC} (hk : (kO (fun r : Int32 => (some (.int r), mh sc rest to fl ma tr mk cn nu de ru la tb tf ph cs)) x) (Maker_whereJoined to fl v2)) : Ev mmPT tbX5_whereJoined 0 [some (.ref 88), some (.ref 2), some (.int v2), none, none, none, none] [] (mh sc rest to fl ma tr mk cn nu de ru la tb tf ph cs) x := by
  unfold Maker_whereJoined at hk
  refine q_ic 0 rfl rfl ?_
  refine kc_X11_bit_3 rfl (Nat.le_of_ble_eq_true rfl) (e_Ph_bit) ?_
  refine Ev.s (ins := .istore_n 3) (pc' := 5) (lv' := [some (.ref 88), some (.ref 2), some (.int v2), some (.int (Ph_bit 0)), none, none, none]) rfl rfl ?_
  refine q_ic 0 rfl rfl ?_
  refine Ev.s (ins := .istore 4) (pc' := 8) (lv' := [some (.ref 88), some (.ref 2), some (.int v2), some (.int (Ph_bit 0)), some (.int 0), none, none]) rfl rfl ?_
  refine Ev.weak [none, some (.ref 2), some (.int v2), some (.int (Ph_bit 0)), some (.int 0), none, none] ⟨rfl, rfl, rfl, rfl, rfl, rfl, rfl, trivial⟩ ?_
  exact e_Maker_whereJoined_88_2_L8 hk
set_option maxRecDepth 100000 in
theorem e_Maker_whereJoined_88_2 {v2 : Int32} : Ev mmPT tbX5_whereJoined 0 [some (.ref 88), some (.ref 2), some (.int v2), none, none, none, none] [] (mh sc rest to fl ma tr mk cn nu de ru la tb tf ph cs) ((fun r : Int32 => (some (.int r), mh sc rest to fl ma tr mk cn nu de ru la tb tf ph cs)) (Maker_whereJoined to fl v2)) := e_Maker_whereJoined_88_2_0 (by exact rfl)
set_option maxRecDepth 100000 in
theorem e_Maker_placePhis_88_2_83 {v2 : Int32} {v3 : Int32} {v4 : Int32} {x : Option Value × List mmC} (b10 : v2 < 2147483647) (b26 : v4 < 2147483647) (hk : (kK (fun a : Int32 × Ob => mu a.1) (mu v4) (fun a : Int32 × Ob => Ev mmPT tbX5_placePhis 26 [some (.ref 88), some (.ref 2), some (.int v2), some (.int v3), some (.int a.1)] [] (mh sc rest to fl ma tr a.2 cn nu de ru la tb tf ph cs) x) (kK (fun a : Int32 × Ob => mu a.1) (mu v2) (fun a : Int32 × Ob => Ev mmPT tbX5_placePhis 10 [some (.ref 88), some (.ref 2), some (.int a.1), none, none] [] (mh sc rest to fl ma tr a.2 cn nu de ru la tb tf ph cs) x) (kO (fun r : Ob => (none, mh sc rest to fl ma tr r cn nu de ru la tb tf ph cs)) x))) (Maker_placePhis_83 to fl mk v2 v3 v4)) : Ev mmPT tbX5_placePhis 83 [some (.ref 88), some (.ref 2), some (.int v2), some (.int v3), some (.int v4)] [] (mh sc rest to fl ma tr mk cn nu de ru la tb tf ph cs) x := by
  unfold Maker_placePhis_83 at hk
  refine q_inc 1 [some (.ref 88), some (.ref 2), some (.int v2), some (.int v3), some (.int (v4 + 1))] rfl rfl rfl rfl ?_
  refine Ev.goto rfl ?_
  replace hk := kK_l hk
  exact hk (mu_lt b26)
set_option maxRecDepth 100000 in
theorem e_Maker_placePhis_88_2_L26b {v2 : Int32} {v3 : Int32} {v4 : Int32} {x : Option Value × List mmC} (b10 : v2 < 2147483647) (hk : (kK (fun a : Int32 × Ob => mu a.1) (mu v4) (fun a : Int32 × Ob => Ev mmPT tbX5_placePhis 26 [some (.ref 88), some (.ref 2), some (.int v2), some (.int v3), some (.int a.1)] [] (mh sc rest to fl ma tr a.2 cn nu de ru la tb tf ph cs) x) (kK (fun a : Int32 × Ob => mu a.1) (mu v2) (fun a : Int32 × Ob => Ev mmPT tbX5_placePhis 10 [some (.ref 88), some (.ref 2), some (.int a.1), none, none] [] (mh sc rest to fl ma tr a.2 cn nu de ru la tb tf ph cs) x) (kO (fun r : Ob => (none, mh sc rest to fl ma tr r cn nu de ru la tb tf ph cs)) x))) (Maker_placePhis_L26b to fl mk v2 v3 v4)) : Ev mmPT tbX5_placePhis 26 [some (.ref 88), some (.ref 2), some (.int v2), some (.int v3), some (.int v4)] [] (mh sc rest to fl ma tr mk cn nu de ru la tb tf ph cs) x := by
  unfold Maker_placePhis_L26b at hk
  refine Ev.s (ins := .iload 4) (pc' := 28) rfl rfl ?_
  refine Ev.s (ins := .aload_n 1) (pc' := 29) rfl rfl ?_
  refine gf_2_12 (to.2.1 0) rfl rfl ?_
  refine q_cge rfl hk (fun c1 hk => ?_) (fun c1 hk => ?_)
  · refine Ev.s (ins := .iload_n 3) (pc' := 36) rfl rfl ?_
    refine Ev.s (ins := .iload 4) (pc' := 38) rfl rfl ?_
    refine kc_X11_has_3 rfl (Nat.le_of_ble_eq_true rfl) (e_Ph_has) ?_
    refine q_beq rfl hk (fun c2 hk => ?_) (fun c2 hk => ?_)
    · refine Ev.s (ins := .aload_n 1) (pc' := 45) rfl rfl ?_
      refine gf_2_10 rfl ?_
      refine Ev.s (ins := .iload 4) (pc' := 50) rfl rfl ?_
      refine at_23 (oat to 10 10 v4) rfl (Nat.le_of_ble_eq_true rfl) rfl ?_
      refine Ev.s (ins := .iload_n 2) (pc' := 54) rfl rfl ?_
      refine kc_X11_has_3 rfl (Nat.le_of_ble_eq_true rfl) (e_Ph_has) ?_
      refine q_beq rfl hk (fun c3 hk => ?_) (fun c3 hk => ?_)
      · refine Ev.s (ins := .aload_n 0) (pc' := 61) rfl rfl ?_
        refine gf_88_2 rfl ?_
        refine Ev.s (ins := .iload 4) (pc' := 66) rfl rfl ?_
        refine Ev.s (ins := .aload_n 0) (pc' := 67) rfl rfl ?_
        refine gf_88_2 rfl ?_
        refine Ev.s (ins := .iload 4) (pc' := 72) rfl rfl ?_
        refine at_93 (oat mk 2 10 v4) rfl (Nat.le_of_ble_eq_true rfl) rfl ?_
        refine Ev.s (ins := .iload_n 2) (pc' := 76) rfl rfl ?_
        refine kc_X11_bit_3 rfl (Nat.le_of_ble_eq_true rfl) (e_Ph_bit) ?_
        refine Ev.s (ins := .ior) (pc' := 80) rfl rfl ?_
        refine pt_93 rfl (Nat.le_of_ble_eq_true rfl) ?_
        exact e_Maker_placePhis_88_2_83 b10 (lt31 c1) hk
      · exact e_Maker_placePhis_88_2_83 b10 (lt31 c1) hk
    · exact e_Maker_placePhis_88_2_83 b10 (lt31 c1) hk
  · replace hk := kK_r hk
    refine q_inc 1 [some (.ref 88), some (.ref 2), some (.int (v2 + 1)), some (.int v3), some (.int v4)] rfl rfl rfl rfl ?_
    refine Ev.goto rfl ?_
    refine Ev.weak [some (.ref 88), some (.ref 2), some (.int (v2 + 1)), none, none] ⟨rfl, rfl, rfl, rfl, rfl, trivial⟩ ?_
    replace hk := kK_l hk
    exact hk (mu_lt b10)
set_option maxRecDepth 100000 in
theorem e_Maker_placePhis_88_2_L26 {v2 : Int32} {v3 : Int32} {v4 : Int32} {x : Option Value × List mmC} (b10 : v2 < 2147483647) (hk : (kK (fun a : Int32 × Ob => mu a.1) (mu v2) (fun a : Int32 × Ob => Ev mmPT tbX5_placePhis 10 [some (.ref 88), some (.ref 2), some (.int a.1), none, none] [] (mh sc rest to fl ma tr a.2 cn nu de ru la tb tf ph cs) x) (kO (fun r : Ob => (none, mh sc rest to fl ma tr r cn nu de ru la tb tf ph cs)) x)) (Maker_placePhis_L26 to fl mk v2 v3 v4)) : Ev mmPT tbX5_placePhis 26 [some (.ref 88), some (.ref 2), some (.int v2), some (.int v3), some (.int v4)] [] (mh sc rest to fl ma tr mk cn nu de ru la tb tf ph cs) x :=
  k_loop (B := (fun a : Int32 × Ob => Maker_placePhis_L26b to fl a.2 v2 v3 a.1)) (μ := fun a : Int32 × Ob => mu a.1) (E := fun a : Int32 × Ob => Ev mmPT tbX5_placePhis 26 [some (.ref 88), some (.ref 2), some (.int v2), some (.int v3), some (.int a.1)] [] (mh sc rest to fl ma tr a.2 cn nu de ru la tb tf ph cs) x) (X := (kK (fun a : Int32 × Ob => mu a.1) (mu v2) (fun a : Int32 × Ob => Ev mmPT tbX5_placePhis 10 [some (.ref 88), some (.ref 2), some (.int a.1), none, none] [] (mh sc rest to fl ma tr a.2 cn nu de ru la tb tf ph cs) x) (kO (fun r : Ob => (none, mh sc rest to fl ma tr r cn nu de ru la tb tf ph cs)) x))) (fun a hk => e_Maker_placePhis_88_2_L26b b10 hk) (v4, mk) hk
set_option maxRecDepth 100000 in
theorem e_Maker_placePhis_88_2_L10b {v2 : Int32} {x : Option Value × List mmC} (hk : (kK (fun a : Int32 × Ob => mu a.1) (mu v2) (fun a : Int32 × Ob => Ev mmPT tbX5_placePhis 10 [some (.ref 88), some (.ref 2), some (.int a.1), none, none] [] (mh sc rest to fl ma tr a.2 cn nu de ru la tb tf ph cs) x) (kO (fun r : Ob => (none, mh sc rest to fl ma tr r cn nu de ru la tb tf ph cs)) x)) (Maker_placePhis_L10b to fl mk v2)) : Ev mmPT tbX5_placePhis 10 [some (.ref 88), some (.ref 2), some (.int v2), none, none] [] (mh sc rest to fl ma tr mk cn nu de ru la tb tf ph cs) x := by
  unfold Maker_placePhis_L10b at hk
  refine Ev.s (ins := .iload_n 2) (pc' := 11) rfl rfl ?_
  refine q_bi 6 rfl rfl ?_
  refine q_cge rfl hk (fun c1 hk => ?_) (fun c1 hk => ?_)
  · refine Ev.s (ins := .aload_n 0) (pc' := 17) rfl rfl ?_
    refine Ev.s (ins := .aload_n 1) (pc' := 18) rfl rfl ?_
    refine Ev.s (ins := .iload_n 2) (pc' := 19) rfl rfl ?_
    refine kc_X5_whereJoined_0 rfl oi_88 rfl (Nat.le_of_ble_eq_true rfl) (e_Maker_whereJoined_88_2) ?_
    refine Ev.s (ins := .istore_n 3) (pc' := 23) (lv' := [some (.ref 88), some (.ref 2), some (.int v2), some (.int (Maker_whereJoined to fl v2)), none]) rfl rfl ?_
    refine q_ic 0 rfl rfl ?_
    refine Ev.s (ins := .istore 4) (pc' := 26) (lv' := [some (.ref 88), some (.ref 2), some (.int v2), some (.int (Maker_whereJoined to fl v2)), some (.int 0)]) rfl rfl ?_
    exact e_Maker_placePhis_88_2_L26 (lt31 c1) hk
  · replace hk := kK_r hk
    exact Ev.vret rfl rfl hk
set_option maxRecDepth 100000 in
theorem e_Maker_placePhis_88_2_L10 {v2 : Int32} {x : Option Value × List mmC} (hk : (kO (fun r : Ob => (none, mh sc rest to fl ma tr r cn nu de ru la tb tf ph cs)) x) (Maker_placePhis_L10 to fl mk v2)) : Ev mmPT tbX5_placePhis 10 [some (.ref 88), some (.ref 2), some (.int v2), none, none] [] (mh sc rest to fl ma tr mk cn nu de ru la tb tf ph cs) x :=
  k_loop (B := (fun a : Int32 × Ob => Maker_placePhis_L10b to fl a.2 a.1)) (μ := fun a : Int32 × Ob => mu a.1) (E := fun a : Int32 × Ob => Ev mmPT tbX5_placePhis 10 [some (.ref 88), some (.ref 2), some (.int a.1), none, none] [] (mh sc rest to fl ma tr a.2 cn nu de ru la tb tf ph cs) x) (X := (kO (fun r : Ob => (none, mh sc rest to fl ma tr r cn nu de ru la tb tf ph cs)) x)) (fun a hk => e_Maker_placePhis_88_2_L10b hk) (v2, mk) hk
set_option maxRecDepth 100000 in
theorem e_Maker_placePhis_88_2_0 {x : Option Value × List mmC} (hk : (kO (fun r : Ob => (none, mh sc rest to fl ma tr r cn nu de ru la tb tf ph cs)) x) (Maker_placePhis to fl mk)) : Ev mmPT tbX5_placePhis 0 [some (.ref 88), some (.ref 2), none, none, none] [] (mh sc rest to fl ma tr mk cn nu de ru la tb tf ph cs) x := by
  unfold Maker_placePhis at hk
  refine Ev.s (ins := .aload_n 0) (pc' := 1) rfl rfl ?_
  refine gf_88_2 rfl ?_
  refine q_ic 0 rfl rfl ?_
  refine fl_93 rfl (Nat.le_of_ble_eq_true rfl) ?_
  refine q_ic 0 rfl rfl ?_
  refine Ev.s (ins := .istore_n 2) (pc' := 10) (lv' := [some (.ref 88), some (.ref 2), some (.int 0), none, none]) rfl rfl ?_
  exact e_Maker_placePhis_88_2_L10 hk
set_option maxRecDepth 100000 in
theorem e_Maker_placePhis_88_2 : Ev mmPT tbX5_placePhis 0 [some (.ref 88), some (.ref 2), none, none, none] [] (mh sc rest to fl ma tr mk cn nu de ru la tb tf ph cs) ((fun r : Ob => (none, mh sc rest to fl ma tr r cn nu de ru la tb tf ph cs)) (Maker_placePhis to fl mk)) := e_Maker_placePhis_88_2_0 (by exact rfl)
set_option maxRecDepth 100000 in
theorem e_Maker_addValues_88_2_34_35 {v3 : Int32} {v4 : Int32} {x : Option Value × List mmC} (b3 : v4 < 2147483647) (hk : (kK (fun a : Int32 × Ob => mu a.1) (mu v4) (fun a : Int32 × Ob => Ev mmPT tbX5_addValues 3 [some (.ref 88), some (.ref 2), some (.ref 34), some (.int v3), some (.int a.1), none] [] (mh sc rest to fl a.2 tr mk cn nu de ru la tb tf ph cs) x) (kO (fun r : Ob => (none, mh sc rest to fl r tr mk cn nu de ru la tb tf ph cs)) x)) (Maker_addValues_35 to ma mk v3 v4)) : Ev mmPT tbX5_addValues 35 [some (.ref 88), some (.ref 2), some (.ref 34), some (.int v3), some (.int v4), none] [] (mh sc rest to fl ma tr mk cn nu de ru la tb tf ph cs) x := by
  unfold Maker_addValues_35 at hk
  refine q_inc 1 [some (.ref 88), some (.ref 2), some (.ref 34), some (.int v3), some (.int (v4 + 1)), none] rfl rfl rfl rfl ?_
  refine Ev.goto rfl ?_
  replace hk := kK_l hk
  exact hk (mu_lt b3)
set_option maxRecDepth 100000 in
theorem e_Maker_addValues_88_2_34_86 {v3 : Int32} {v4 : Int32} {x : Option Value × List mmC} (b44 : v4 < 2147483647) (hk : (kK (fun a : Int32 × Ob => mu a.1) (mu v4) (fun a : Int32 × Ob => Ev mmPT tbX5_addValues 44 [none, some (.ref 2), some (.ref 34), some (.int v3), some (.int a.1), none] [] (mh sc rest to fl a.2 tr mk cn nu de ru la tb tf ph cs) x) (kO (fun r : Ob => (none, mh sc rest to fl r tr mk cn nu de ru la tb tf ph cs)) x)) (Maker_addValues_86 to ma mk v3 v4)) : Ev mmPT tbX5_addValues 86 [none, some (.ref 2), some (.ref 34), some (.int v3), some (.int v4), none] [] (mh sc rest to fl ma tr mk cn nu de ru la tb tf ph cs) x := by
  unfold Maker_addValues_86 at hk
  refine q_inc 1 [none, some (.ref 2), some (.ref 34), some (.int v3), some (.int (v4 + 1)), none] rfl rfl rfl rfl ?_
  refine Ev.goto rfl ?_
  replace hk := kK_l hk
  exact hk (mu_lt b44)
set_option maxRecDepth 100000 in
theorem e_Maker_addValues_88_2_34_L44b {v3 : Int32} {v4 : Int32} {x : Option Value × List mmC} (hk : (kK (fun a : Int32 × Ob => mu a.1) (mu v4) (fun a : Int32 × Ob => Ev mmPT tbX5_addValues 44 [none, some (.ref 2), some (.ref 34), some (.int v3), some (.int a.1), none] [] (mh sc rest to fl a.2 tr mk cn nu de ru la tb tf ph cs) x) (kO (fun r : Ob => (none, mh sc rest to fl r tr mk cn nu de ru la tb tf ph cs)) x)) (Maker_addValues_L44b to ma mk v3 v4)) : Ev mmPT tbX5_addValues 44 [none, some (.ref 2), some (.ref 34), some (.int v3), some (.int v4), none] [] (mh sc rest to fl ma tr mk cn nu de ru la tb tf ph cs) x := by
  unfold Maker_addValues_L44b at hk
  refine Ev.s (ins := .iload 4) (pc' := 46) rfl rfl ?_
  refine Ev.s (ins := .aload_n 1) (pc' := 47) rfl rfl ?_
  refine gf_2_0 rfl ?_
  refine Ev.s (ins := .iload_n 3) (pc' := 51) rfl rfl ?_
  refine at_3 (oat to 0 10 v3) rfl (Nat.le_of_ble_eq_true rfl) rfl ?_
  refine q_cge rfl hk (fun c1 hk => ?_) (fun c1 hk => ?_)
  · refine Ev.s (ins := .aload_n 1) (pc' := 58) rfl rfl ?_
    refine gf_2_1 rfl ?_
    refine Ev.s (ins := .iload_n 3) (pc' := 62) rfl rfl ?_
    refine q_bi 8 rfl rfl ?_
    refine Ev.s (ins := .imul) (pc' := 65) rfl rfl ?_
    refine Ev.s (ins := .iload 4) (pc' := 67) rfl rfl ?_
    refine Ev.s (ins := .iadd) (pc' := 68) rfl rfl ?_
    refine at_5 (oat to 1 80 ((v3 * 8) + v4)) rfl (Nat.le_of_ble_eq_true rfl) rfl ?_
    refine Ev.s (ins := .istore 5) (pc' := 73) (lv' := [none, some (.ref 2), some (.ref 34), some (.int v3), some (.int v4), some (.int (oat to 1 80 ((v3 * 8) + v4)))]) rfl rfl ?_
    refine Ev.s (ins := .iload 5) (pc' := 75) rfl rfl ?_
    refine q_eq rfl hk (fun c2 hk => ?_) (fun c2 hk => ?_)
    · refine Ev.weak [none, some (.ref 2), some (.ref 34), some (.int v3), some (.int v4), none] ⟨rfl, rfl, rfl, rfl, rfl, rfl, trivial⟩ ?_
      exact e_Maker_addValues_88_2_34_86 (lt31 c1) hk
    · refine Ev.s (ins := .aload_n 2) (pc' := 79) rfl rfl ?_
      refine Ev.s (ins := .iload_n 3) (pc' := 80) rfl rfl ?_
      refine Ev.s (ins := .iload 5) (pc' := 82) rfl rfl ?_
      refine q_ic (-1) rfl rfl ?_
      refine kc_X3_addValue_0 rfl oi_34 rfl (Nat.le_of_ble_eq_true rfl) (e_Form_addValue_34) ?_
      refine Ev.weak [none, some (.ref 2), some (.ref 34), some (.int v3), some (.int v4), none] ⟨rfl, rfl, rfl, rfl, rfl, rfl, trivial⟩ ?_
      exact e_Maker_addValues_88_2_34_86 (lt31 c1) hk
  · replace hk := kK_r hk
    exact Ev.vret rfl rfl hk
set_option maxRecDepth 100000 in
theorem e_Maker_addValues_88_2_34_L44 {v3 : Int32} {v4 : Int32} {x : Option Value × List mmC} (hk : (kO (fun r : Ob => (none, mh sc rest to fl r tr mk cn nu de ru la tb tf ph cs)) x) (Maker_addValues_L44 to ma mk v3 v4)) : Ev mmPT tbX5_addValues 44 [none, some (.ref 2), some (.ref 34), some (.int v3), some (.int v4), none] [] (mh sc rest to fl ma tr mk cn nu de ru la tb tf ph cs) x :=
  k_loop (B := (fun a : Int32 × Ob => Maker_addValues_L44b to a.2 mk v3 a.1)) (μ := fun a : Int32 × Ob => mu a.1) (E := fun a : Int32 × Ob => Ev mmPT tbX5_addValues 44 [none, some (.ref 2), some (.ref 34), some (.int v3), some (.int a.1), none] [] (mh sc rest to fl a.2 tr mk cn nu de ru la tb tf ph cs) x) (X := (kO (fun r : Ob => (none, mh sc rest to fl r tr mk cn nu de ru la tb tf ph cs)) x)) (fun a hk => e_Maker_addValues_88_2_34_L44b hk) (v4, ma) hk
set_option maxRecDepth 100000 in
theorem e_Maker_addValues_88_2_34_L3b {v3 : Int32} {v4 : Int32} {x : Option Value × List mmC} (hk : (kK (fun a : Int32 × Ob => mu a.1) (mu v4) (fun a : Int32 × Ob => Ev mmPT tbX5_addValues 3 [some (.ref 88), some (.ref 2), some (.ref 34), some (.int v3), some (.int a.1), none] [] (mh sc rest to fl a.2 tr mk cn nu de ru la tb tf ph cs) x) (kO (fun r : Ob => (none, mh sc rest to fl r tr mk cn nu de ru la tb tf ph cs)) x)) (Maker_addValues_L3b to ma mk v3 v4)) : Ev mmPT tbX5_addValues 3 [some (.ref 88), some (.ref 2), some (.ref 34), some (.int v3), some (.int v4), none] [] (mh sc rest to fl ma tr mk cn nu de ru la tb tf ph cs) x := by
  unfold Maker_addValues_L3b at hk
  refine Ev.s (ins := .iload 4) (pc' := 5) rfl rfl ?_
  refine q_bi 6 rfl rfl ?_
  refine q_cge rfl hk (fun c1 hk => ?_) (fun c1 hk => ?_)
  · refine Ev.s (ins := .aload_n 0) (pc' := 11) rfl rfl ?_
    refine gf_88_2 rfl ?_
    refine Ev.s (ins := .iload_n 3) (pc' := 15) rfl rfl ?_
    refine at_93 (oat mk 2 10 v3) rfl (Nat.le_of_ble_eq_true rfl) rfl ?_
    refine Ev.s (ins := .iload 4) (pc' := 20) rfl rfl ?_
    refine kc_X11_has_3 rfl (Nat.le_of_ble_eq_true rfl) (e_Ph_has) ?_
    refine q_beq rfl hk (fun c2 hk => ?_) (fun c2 hk => ?_)
    · refine Ev.s (ins := .aload_n 2) (pc' := 27) rfl rfl ?_
      refine Ev.s (ins := .iload_n 3) (pc' := 28) rfl rfl ?_
      refine q_bi 9 rfl rfl ?_
      refine Ev.s (ins := .iload 4) (pc' := 32) rfl rfl ?_
      refine kc_X3_addValue_0 rfl oi_34 rfl (Nat.le_of_ble_eq_true rfl) (e_Form_addValue_34) ?_
      exact e_Maker_addValues_88_2_34_35 (lt31 c1) hk
    · exact e_Maker_addValues_88_2_34_35 (lt31 c1) hk
  · replace hk := kK_r hk
    refine q_ic 0 rfl rfl ?_
    refine Ev.s (ins := .istore 4) (pc' := 44) (lv' := [some (.ref 88), some (.ref 2), some (.ref 34), some (.int v3), some (.int 0), none]) rfl rfl ?_
    refine Ev.weak [none, some (.ref 2), some (.ref 34), some (.int v3), some (.int 0), none] ⟨rfl, rfl, rfl, rfl, rfl, rfl, trivial⟩ ?_
    exact e_Maker_addValues_88_2_34_L44 hk
set_option maxRecDepth 100000 in
theorem e_Maker_addValues_88_2_34_L3 {v3 : Int32} {v4 : Int32} {x : Option Value × List mmC} (hk : (kO (fun r : Ob => (none, mh sc rest to fl r tr mk cn nu de ru la tb tf ph cs)) x) (Maker_addValues_L3 to ma mk v3 v4)) : Ev mmPT tbX5_addValues 3 [some (.ref 88), some (.ref 2), some (.ref 34), some (.int v3), some (.int v4), none] [] (mh sc rest to fl ma tr mk cn nu de ru la tb tf ph cs) x :=
  k_loop (B := (fun a : Int32 × Ob => Maker_addValues_L3b to a.2 mk v3 a.1)) (μ := fun a : Int32 × Ob => mu a.1) (E := fun a : Int32 × Ob => Ev mmPT tbX5_addValues 3 [some (.ref 88), some (.ref 2), some (.ref 34), some (.int v3), some (.int a.1), none] [] (mh sc rest to fl a.2 tr mk cn nu de ru la tb tf ph cs) x) (X := (kO (fun r : Ob => (none, mh sc rest to fl r tr mk cn nu de ru la tb tf ph cs)) x)) (fun a hk => e_Maker_addValues_88_2_34_L3b hk) (v4, ma) hk
set_option maxRecDepth 100000 in
theorem e_Maker_addValues_88_2_34_0 {v3 : Int32} {x : Option Value × List mmC} (hk : (kO (fun r : Ob => (none, mh sc rest to fl r tr mk cn nu de ru la tb tf ph cs)) x) (Maker_addValues to ma mk v3)) : Ev mmPT tbX5_addValues 0 [some (.ref 88), some (.ref 2), some (.ref 34), some (.int v3), none, none] [] (mh sc rest to fl ma tr mk cn nu de ru la tb tf ph cs) x := by
  unfold Maker_addValues at hk
  refine q_ic 0 rfl rfl ?_
  refine Ev.s (ins := .istore 4) (pc' := 3) (lv' := [some (.ref 88), some (.ref 2), some (.ref 34), some (.int v3), some (.int 0), none]) rfl rfl ?_
  exact e_Maker_addValues_88_2_34_L3 hk
set_option maxRecDepth 100000 in
theorem e_Maker_addValues_88_2_34 {v3 : Int32} : Ev mmPT tbX5_addValues 0 [some (.ref 88), some (.ref 2), some (.ref 34), some (.int v3), none, none] [] (mh sc rest to fl ma tr mk cn nu de ru la tb tf ph cs) ((fun r : Ob => (none, mh sc rest to fl r tr mk cn nu de ru la tb tf ph cs)) (Maker_addValues to ma mk v3)) := e_Maker_addValues_88_2_34_0 (by exact rfl)
set_option maxRecDepth 100000 in
theorem e_Form_addEdge_34_0 {v1 : Int32} {v2 : Int32} {x : Option Value × List mmC} (hk : (kO (fun r : Ob => (none, mh sc rest to fl r tr mk cn nu de ru la tb tf ph cs)) x) (Form_addEdge ma v1 v2)) : Ev mmPT tbX3_addEdge 0 [some (.ref 34), some (.int v1), some (.int v2), none] [] (mh sc rest to fl ma tr mk cn nu de ru la tb tf ph cs) x := by
  unfold Form_addEdge at hk
  refine Ev.s (ins := .aload_n 0) (pc' := 1) rfl rfl ?_
  refine gf_34_9 rfl ?_
  refine Ev.s (ins := .iload_n 2) (pc' := 5) rfl rfl ?_
  refine at_53 (oat ma 9 10 v2) rfl (Nat.le_of_ble_eq_true rfl) rfl ?_
  refine Ev.s (ins := .istore_n 3) (pc' := 9) (lv' := [some (.ref 34), some (.int v1), some (.int v2), some (.int (oat ma 9 10 v2))]) rfl rfl ?_
  refine Ev.s (ins := .aload_n 0) (pc' := 10) rfl rfl ?_
  refine gf_34_12 rfl ?_
  refine Ev.s (ins := .iload_n 1) (pc' := 14) rfl rfl ?_
  refine Ev.s (ins := .iload_n 2) (pc' := 15) rfl rfl ?_
  refine pt_59 rfl (Nat.le_of_ble_eq_true rfl) ?_
  refine Ev.s (ins := .aload_n 0) (pc' := 19) rfl rfl ?_
  refine gf_34_10 rfl ?_
  refine Ev.s (ins := .iload_n 2) (pc' := 23) rfl rfl ?_
  refine q_bi 20 rfl rfl ?_
  refine Ev.s (ins := .imul) (pc' := 26) rfl rfl ?_
  refine Ev.s (ins := .iload_n 3) (pc' := 27) rfl rfl ?_
  refine Ev.s (ins := .iadd) (pc' := 28) rfl rfl ?_
  refine Ev.s (ins := .iload_n 1) (pc' := 29) rfl rfl ?_
  refine pt_55 rfl (Nat.le_of_ble_eq_true rfl) ?_
  refine Ev.s (ins := .aload_n 0) (pc' := 33) rfl rfl ?_
  refine gf_34_9 rfl ?_
  refine Ev.s (ins := .iload_n 2) (pc' := 37) rfl rfl ?_
  refine Ev.s (ins := .iload_n 3) (pc' := 38) rfl rfl ?_
  refine q_ic 1 rfl rfl ?_
  refine Ev.s (ins := .iadd) (pc' := 40) rfl rfl ?_
  refine pt_53 rfl (Nat.le_of_ble_eq_true rfl) ?_
  exact Ev.vret rfl rfl hk
set_option maxRecDepth 100000 in
theorem e_Form_addEdge_34 {v1 : Int32} {v2 : Int32} : Ev mmPT tbX3_addEdge 0 [some (.ref 34), some (.int v1), some (.int v2), none] [] (mh sc rest to fl ma tr mk cn nu de ru la tb tf ph cs) ((fun r : Ob => (none, mh sc rest to fl r tr mk cn nu de ru la tb tf ph cs)) (Form_addEdge ma v1 v2)) := e_Form_addEdge_34_0 (by exact rfl)
set_option maxRecDepth 100000 in
theorem e_Maker_addEdges_88_2_34_L23b {v3 : Int32} {v4 : Int32} {v5 : Int32} {x : Option Value × List mmC} (hk : (kK (fun a : Int32 × Ob => mu a.1) (mu v5) (fun a : Int32 × Ob => Ev mmPT tbX5_addEdges 23 [none, some (.ref 2), some (.ref 34), some (.int v3), some (.int v4), some (.int a.1), none] [] (mh sc rest to fl a.2 tr mk cn nu de ru la tb tf ph cs) x) (kO (fun r : Ob => (none, mh sc rest to fl r tr mk cn nu de ru la tb tf ph cs)) x)) (Maker_addEdges_L23b to ma v3 v4 v5)) : Ev mmPT tbX5_addEdges 23 [none, some (.ref 2), some (.ref 34), some (.int v3), some (.int v4), some (.int v5), none] [] (mh sc rest to fl ma tr mk cn nu de ru la tb tf ph cs) x := by
  unfold Maker_addEdges_L23b at hk
  refine Ev.s (ins := .iload 5) (pc' := 25) rfl rfl ?_
  refine Ev.s (ins := .iload 4) (pc' := 27) rfl rfl ?_
  refine q_cge rfl hk (fun c1 hk => ?_) (fun c1 hk => ?_)
  · refine Ev.s (ins := .iload_n 3) (pc' := 31) rfl rfl ?_
    refine q_ic 2 rfl rfl ?_
    refine Ev.s (ins := .imul) (pc' := 33) rfl rfl ?_
    refine Ev.s (ins := .iload 5) (pc' := 35) rfl rfl ?_
    refine Ev.s (ins := .iadd) (pc' := 36) rfl rfl ?_
    refine Ev.s (ins := .istore 6) (pc' := 38) (lv' := [none, some (.ref 2), some (.ref 34), some (.int v3), some (.int v4), some (.int v5), some (.int ((v3 * 2) + v5))]) rfl rfl ?_
    refine Ev.s (ins := .aload_n 2) (pc' := 39) rfl rfl ?_
    refine Ev.s (ins := .iload 6) (pc' := 41) rfl rfl ?_
    refine Ev.s (ins := .aload_n 1) (pc' := 42) rfl rfl ?_
    refine gf_2_7 rfl ?_
    refine Ev.s (ins := .iload 6) (pc' := 47) rfl rfl ?_
    refine at_17 (oat to 7 20 ((v3 * 2) + v5)) rfl (Nat.le_of_ble_eq_true rfl) rfl ?_
    refine kc_X3_addEdge_0 rfl oi_34 rfl (Nat.le_of_ble_eq_true rfl) (e_Form_addEdge_34) ?_
    refine q_inc 1 [none, some (.ref 2), some (.ref 34), some (.int v3), some (.int v4), some (.int (v5 + 1)), some (.int ((v3 * 2) + v5))] rfl rfl rfl rfl ?_
    refine Ev.goto rfl ?_
    refine Ev.weak [none, some (.ref 2), some (.ref 34), some (.int v3), some (.int v4), some (.int (v5 + 1)), none] ⟨rfl, rfl, rfl, rfl, rfl, rfl, rfl, trivial⟩ ?_
    replace hk := kK_l hk
    exact hk (mu_lt (lt31 c1))
  · replace hk := kK_r hk
    exact Ev.vret rfl rfl hk
set_option maxRecDepth 100000 in
theorem e_Maker_addEdges_88_2_34_L23 {v3 : Int32} {v4 : Int32} {v5 : Int32} {x : Option Value × List mmC} (hk : (kO (fun r : Ob => (none, mh sc rest to fl r tr mk cn nu de ru la tb tf ph cs)) x) (Maker_addEdges_L23 to ma v3 v4 v5)) : Ev mmPT tbX5_addEdges 23 [none, some (.ref 2), some (.ref 34), some (.int v3), some (.int v4), some (.int v5), none] [] (mh sc rest to fl ma tr mk cn nu de ru la tb tf ph cs) x :=
  k_loop (B := (fun a : Int32 × Ob => Maker_addEdges_L23b to a.2 v3 v4 a.1)) (μ := fun a : Int32 × Ob => mu a.1) (E := fun a : Int32 × Ob => Ev mmPT tbX5_addEdges 23 [none, some (.ref 2), some (.ref 34), some (.int v3), some (.int v4), some (.int a.1), none] [] (mh sc rest to fl a.2 tr mk cn nu de ru la tb tf ph cs) x) (X := (kO (fun r : Ob => (none, mh sc rest to fl r tr mk cn nu de ru la tb tf ph cs)) x)) (fun a hk => e_Maker_addEdges_88_2_34_L23b hk) (v5, ma) hk
set_option maxRecDepth 100000 in
theorem e_Maker_addEdges_88_2_34_0 {v3 : Int32} {x : Option Value × List mmC} (hk : (kO (fun r : Ob => (none, mh sc rest to fl r tr mk cn nu de ru la tb tf ph cs)) x) (Maker_addEdges to ma v3)) : Ev mmPT tbX5_addEdges 0 [some (.ref 88), some (.ref 2), some (.ref 34), some (.int v3), none, none, none] [] (mh sc rest to fl ma tr mk cn nu de ru la tb tf ph cs) x := by
  unfold Maker_addEdges at hk
  refine Ev.s (ins := .aload_n 1) (pc' := 1) rfl rfl ?_
  refine gf_2_5 rfl ?_
  refine Ev.s (ins := .iload_n 3) (pc' := 5) rfl rfl ?_
  refine at_13 (oat to 5 10 v3) rfl (Nat.le_of_ble_eq_true rfl) rfl ?_
  refine Ev.s (ins := .istore 4) (pc' := 10) (lv' := [some (.ref 88), some (.ref 2), some (.ref 34), some (.int v3), some (.int (oat to 5 10 v3)), none, none]) rfl rfl ?_
  refine Ev.s (ins := .aload_n 2) (pc' := 11) rfl rfl ?_
  refine gf_34_11 rfl ?_
  refine Ev.s (ins := .iload_n 3) (pc' := 15) rfl rfl ?_
  refine Ev.s (ins := .iload 4) (pc' := 17) rfl rfl ?_
  refine pt_57 rfl (Nat.le_of_ble_eq_true rfl) ?_
  refine q_ic 0 rfl rfl ?_
  refine Ev.s (ins := .istore 5) (pc' := 23) (lv' := [some (.ref 88), some (.ref 2), some (.ref 34), some (.int v3), some (.int (oat to 5 10 v3)), some (.int 0), none]) rfl rfl ?_
  refine Ev.weak [none, some (.ref 2), some (.ref 34), some (.int v3), some (.int (oat to 5 10 v3)), some (.int 0), none] ⟨rfl, rfl, rfl, rfl, rfl, rfl, rfl, trivial⟩ ?_
  exact e_Maker_addEdges_88_2_34_L23 hk
set_option maxRecDepth 100000 in
theorem e_Maker_addEdges_88_2_34 {v3 : Int32} : Ev mmPT tbX5_addEdges 0 [some (.ref 88), some (.ref 2), some (.ref 34), some (.int v3), none, none, none] [] (mh sc rest to fl ma tr mk cn nu de ru la tb tf ph cs) ((fun r : Ob => (none, mh sc rest to fl r tr mk cn nu de ru la tb tf ph cs)) (Maker_addEdges to ma v3)) := e_Maker_addEdges_88_2_34_0 (by exact rfl)
set_option maxRecDepth 100000 in
theorem e_Flow_nearestDominator_25_45 {v1 : Int32} {v2 : Int32} {v3 : Int32} {x : Option Value × List mmC} (b4 : v3 < 2147483647) (hk : (kK (fun a : Int32 × Int32 => mu a.2) (mu v3) (fun a : Int32 × Int32 => Ev mmPT tbX2_nearestDominator 4 [some (.ref 25), some (.int v1), some (.int a.1), some (.int a.2), none] [] (mh sc rest to fl ma tr mk cn nu de ru la tb tf ph cs) x) (kO (fun r : Int32 => (some (.int r), mh sc rest to fl ma tr mk cn nu de ru la tb tf ph cs)) x)) (Flow_nearestDominator_45 fl v1 v2 v3)) : Ev mmPT tbX2_nearestDominator 45 [some (.ref 25), some (.int v1), some (.int v2), some (.int v3), none] [] (mh sc rest to fl ma tr mk cn nu de ru la tb tf ph cs) x := by
  unfold Flow_nearestDominator_45 at hk
  refine q_inc 1 [some (.ref 25), some (.int v1), some (.int v2), some (.int (v3 + 1)), none] rfl rfl rfl rfl ?_
  refine Ev.goto rfl ?_
  replace hk := kK_l hk
  exact hk (mu_lt b4)
set_option maxRecDepth 100000 in
theorem e_Flow_nearestDominator_25_L4b {v1 : Int32} {v2 : Int32} {v3 : Int32} {x : Option Value × List mmC} (hk : (kK (fun a : Int32 × Int32 => mu a.2) (mu v3) (fun a : Int32 × Int32 => Ev mmPT tbX2_nearestDominator 4 [some (.ref 25), some (.int v1), some (.int a.1), some (.int a.2), none] [] (mh sc rest to fl ma tr mk cn nu de ru la tb tf ph cs) x) (kO (fun r : Int32 => (some (.int r), mh sc rest to fl ma tr mk cn nu de ru la tb tf ph cs)) x)) (Flow_nearestDominator_L4b fl v1 v2 v3)) : Ev mmPT tbX2_nearestDominator 4 [some (.ref 25), some (.int v1), some (.int v2), some (.int v3), none] [] (mh sc rest to fl ma tr mk cn nu de ru la tb tf ph cs) x := by
  unfold Flow_nearestDominator_L4b at hk
  refine Ev.s (ins := .iload_n 3) (pc' := 5) rfl rfl ?_
  refine q_bi 10 rfl rfl ?_
  refine q_cge rfl hk (fun c1 hk => ?_) (fun c1 hk => ?_)
  · refine Ev.s (ins := .aload_n 0) (pc' := 11) rfl rfl ?_
    refine gf_25_3 rfl ?_
    refine Ev.s (ins := .iload_n 3) (pc' := 15) rfl rfl ?_
    refine at_32 (oat fl 3 10 v3) rfl (Nat.le_of_ble_eq_true rfl) rfl ?_
    refine Ev.s (ins := .istore 4) (pc' := 20) (lv' := [some (.ref 25), some (.int v1), some (.int v2), some (.int v3), some (.int (oat fl 3 10 v3))]) rfl rfl ?_
    refine Ev.s (ins := .iload 4) (pc' := 22) rfl rfl ?_
    refine Ev.s (ins := .iload_n 1) (pc' := 23) rfl rfl ?_
    refine q_ceq rfl hk (fun c2 hk => ?_) (fun c2 hk => ?_)
    · refine Ev.weak [some (.ref 25), some (.int v1), some (.int v2), some (.int v3), none] ⟨rfl, rfl, rfl, rfl, rfl, trivial⟩ ?_
      exact e_Flow_nearestDominator_25_45 (lt31 c1) hk
    · refine Ev.s (ins := .aload_n 0) (pc' := 27) rfl rfl ?_
      refine gf_25_2 rfl ?_
      refine Ev.s (ins := .iload_n 1) (pc' := 31) rfl rfl ?_
      refine at_30 (oat fl 2 10 v1) rfl (Nat.le_of_ble_eq_true rfl) rfl ?_
      refine Ev.s (ins := .iload 4) (pc' := 36) rfl rfl ?_
      refine kc_X11_has_3 rfl (Nat.le_of_ble_eq_true rfl) (e_Ph_has) ?_
      refine q_beq rfl hk (fun c3 hk => ?_) (fun c3 hk => ?_)
      · refine Ev.s (ins := .iload 4) (pc' := 44) rfl rfl ?_
        refine Ev.s (ins := .istore_n 2) (pc' := 45) (lv' := [some (.ref 25), some (.int v1), some (.int (oat fl 3 10 v3)), some (.int v3), some (.int (oat fl 3 10 v3))]) rfl rfl ?_
        refine Ev.weak [some (.ref 25), some (.int v1), some (.int (oat fl 3 10 v3)), some (.int v3), none] ⟨rfl, rfl, rfl, rfl, rfl, trivial⟩ ?_
        exact e_Flow_nearestDominator_25_45 (lt31 c1) hk
      · refine Ev.weak [some (.ref 25), some (.int v1), some (.int v2), some (.int v3), none] ⟨rfl, rfl, rfl, rfl, rfl, trivial⟩ ?_
        exact e_Flow_nearestDominator_25_45 (lt31 c1) hk
  · replace hk := kK_r hk
    refine Ev.s (ins := .iload_n 2) (pc' := 52) rfl rfl ?_
    exact Ev.iret rfl rfl hk
set_option maxRecDepth 100000 in
theorem e_Flow_nearestDominator_25_L4 {v1 : Int32} {v2 : Int32} {v3 : Int32} {x : Option Value × List mmC} (hk : (kO (fun r : Int32 => (some (.int r), mh sc rest to fl ma tr mk cn nu de ru la tb tf ph cs)) x) (Flow_nearestDominator_L4 fl v1 v2 v3)) : Ev mmPT tbX2_nearestDominator 4 [some (.ref 25), some (.int v1), some (.int v2), some (.int v3), none] [] (mh sc rest to fl ma tr mk cn nu de ru la tb tf ph cs) x :=
  k_loop (B := (fun a : Int32 × Int32 => Flow_nearestDominator_L4b fl v1 a.1 a.2)) (μ := fun a : Int32 × Int32 => mu a.2) (E := fun a : Int32 × Int32 => Ev mmPT tbX2_nearestDominator 4 [some (.ref 25), some (.int v1), some (.int a.1), some (.int a.2), none] [] (mh sc rest to fl ma tr mk cn nu de ru la tb tf ph cs) x) (X := (kO (fun r : Int32 => (some (.int r), mh sc rest to fl ma tr mk cn nu de ru la tb tf ph cs)) x)) (fun a hk => e_Flow_nearestDominator_25_L4b hk) (v2, v3) hk
set_option maxRecDepth 100000 in
theorem e_Flow_nearestDominator_25_0 {v1 : Int32} {x : Option Value × List mmC} (hk : (kO (fun r : Int32 => (some (.int r), mh sc rest to fl ma tr mk cn nu de ru la tb tf ph cs)) x) (Flow_nearestDominator fl v1)) : Ev mmPT tbX2_nearestDominator 0 [some (.ref 25), some (.int v1), none, none, none] [] (mh sc rest to fl ma tr mk cn nu de ru la tb tf ph cs) x := by
  unfold Flow_nearestDominator at hk
  refine q_ic (-1) rfl rfl ?_
  refine Ev.s (ins := .istore_n 2) (pc' := 2) (lv' := [some (.ref 25), some (.int v1), some (.int (-1)), none, none]) rfl rfl ?_
  refine q_ic 0 rfl rfl ?_
  refine Ev.s (ins := .istore_n 3) (pc' := 4) (lv' := [some (.ref 25), some (.int v1), some (.int (-1)), some (.int 0), none]) rfl rfl ?_
  exact e_Flow_nearestDominator_25_L4 hk
set_option maxRecDepth 100000 in
theorem e_Flow_nearestDominator_25 {v1 : Int32} : Ev mmPT tbX2_nearestDominator 0 [some (.ref 25), some (.int v1), none, none, none] [] (mh sc rest to fl ma tr mk cn nu de ru la tb tf ph cs) ((fun r : Int32 => (some (.int r), mh sc rest to fl ma tr mk cn nu de ru la tb tf ph cs)) (Flow_nearestDominator fl v1)) := e_Flow_nearestDominator_25_0 (by exact rfl)
set_option maxRecDepth 100000 in
theorem e_Form_valueIn_34_0 {v1 : Int32} {v2 : Int32} {x : Option Value × List mmC} (hk : (kO (fun r : Int32 => (some (.int r), mh sc rest to fl ma tr mk cn nu de ru la tb tf ph cs)) x) (Form_valueIn ma v1 v2)) : Ev mmPT tbX3_valueIn 0 [some (.ref 34), some (.int v1), some (.int v2)] [] (mh sc rest to fl ma tr mk cn nu de ru la tb tf ph cs) x := by
  unfold Form_valueIn at hk
  refine Ev.s (ins := .aload_n 0) (pc' := 1) rfl rfl ?_
  refine gf_34_8 rfl ?_
  refine Ev.s (ins := .iload_n 1) (pc' := 5) rfl rfl ?_
  refine q_si 140 rfl rfl ?_
  refine Ev.s (ins := .imul) (pc' := 9) rfl rfl ?_
  refine Ev.s (ins := .iload_n 2) (pc' := 10) rfl rfl ?_
  refine Ev.s (ins := .iadd) (pc' := 11) rfl rfl ?_
  refine at_51 (oat ma 8 1400 ((v1 * 140) + v2)) rfl (Nat.le_of_ble_eq_true rfl) rfl ?_
  exact Ev.iret rfl rfl hk
set_option maxRecDepth 100000 in
theorem e_Form_valueIn_34 {v1 : Int32} {v2 : Int32} : Ev mmPT tbX3_valueIn 0 [some (.ref 34), some (.int v1), some (.int v2)] [] (mh sc rest to fl ma tr mk cn nu de ru la tb tf ph cs) ((fun r : Int32 => (some (.int r), mh sc rest to fl ma tr mk cn nu de ru la tb tf ph cs)) (Form_valueIn ma v1 v2)) := e_Form_valueIn_34_0 (by exact rfl)
set_option maxRecDepth 100000 in
theorem e_Maker_hold_88_0 {v1 : Int32} {v2 : Int32} {v3 : Int32} {v4 : Int32} {x : Option Value × List mmC} (hk : (kO (fun r : Ob => (none, mh sc rest to fl ma tr r cn nu de ru la tb tf ph cs)) x) (Maker_hold mk v1 v2 v3 v4)) : Ev mmPT tbX5_hold 0 [some (.ref 88), some (.int v1), some (.int v2), some (.int v3), some (.int v4)] [] (mh sc rest to fl ma tr mk cn nu de ru la tb tf ph cs) x := by
  unfold Maker_hold at hk
  refine Ev.s (ins := .aload_n 0) (pc' := 1) rfl rfl ?_
  refine gf_88_0 rfl ?_
  refine Ev.s (ins := .iload_n 1) (pc' := 5) rfl rfl ?_
  refine q_bi 6 rfl rfl ?_
  refine Ev.s (ins := .imul) (pc' := 8) rfl rfl ?_
  refine Ev.s (ins := .iload_n 2) (pc' := 9) rfl rfl ?_
  refine Ev.s (ins := .iadd) (pc' := 10) rfl rfl ?_
  refine Ev.s (ins := .iload_n 3) (pc' := 11) rfl rfl ?_
  refine pt_89 rfl (Nat.le_of_ble_eq_true rfl) ?_
  refine Ev.s (ins := .aload_n 0) (pc' := 15) rfl rfl ?_
  refine gf_88_1 rfl ?_
  refine Ev.s (ins := .iload_n 1) (pc' := 19) rfl rfl ?_
  refine q_bi 6 rfl rfl ?_
  refine Ev.s (ins := .imul) (pc' := 22) rfl rfl ?_
  refine Ev.s (ins := .iload_n 2) (pc' := 23) rfl rfl ?_
  refine Ev.s (ins := .iadd) (pc' := 24) rfl rfl ?_
  refine Ev.s (ins := .iload 4) (pc' := 26) rfl rfl ?_
  refine pt_91 rfl (Nat.le_of_ble_eq_true rfl) ?_
  exact Ev.vret rfl rfl hk
set_option maxRecDepth 100000 in
theorem e_Maker_hold_88 {v1 : Int32} {v2 : Int32} {v3 : Int32} {v4 : Int32} : Ev mmPT tbX5_hold 0 [some (.ref 88), some (.int v1), some (.int v2), some (.int v3), some (.int v4)] [] (mh sc rest to fl ma tr mk cn nu de ru la tb tf ph cs) ((fun r : Ob => (none, mh sc rest to fl ma tr r cn nu de ru la tb tf ph cs)) (Maker_hold mk v1 v2 v3 v4)) := e_Maker_hold_88_0 (by exact rfl)
set_option maxRecDepth 100000 in
theorem e_Maker_holdAtBeginning_88_2_34_73 {v3 : Int32} {v4 : Int32} {v5 : Int32} {w0 : Int32} {w1 : Int32} {w2 : Int32} {w3 : Int32} {x : Option Value × List mmC} (b13 : v5 < 2147483647) (hk : (kK (fun a : Int32 × Ob => mu a.1) (mu v5) (fun a : Int32 × Ob => Ev mmPT tbX5_holdAtBeginning 13 [some (.ref 88), none, some (.ref 34), some (.int v3), some (.int v4), some (.int a.1), none] [] (mh sc rest to fl ma tr a.2 cn nu de ru la tb tf ph cs) x) (kO (fun r : Ob => (none, mh sc rest to fl ma tr r cn nu de ru la tb tf ph cs)) x)) (Maker_holdAtBeginning_73 fl ma mk v3 v4 v5 w0 w1 w2 w3)) : Ev mmPT tbX5_holdAtBeginning 73 [some (.ref 88), none, some (.ref 34), some (.int v3), some (.int v4), some (.int v5), none] [.int w0, .int w1, .int w2, .int w3, .ref 88] (mh sc rest to fl ma tr mk cn nu de ru la tb tf ph cs) x := by
  unfold Maker_holdAtBeginning_73 at hk
  refine kc_X5_hold_0 rfl oi_88 rfl (Nat.le_of_ble_eq_true rfl) (e_Maker_hold_88) ?_
  refine q_inc 1 [some (.ref 88), none, some (.ref 34), some (.int v3), some (.int v4), some (.int (v5 + 1)), none] rfl rfl rfl rfl ?_
  refine Ev.goto rfl ?_
  replace hk := kK_l hk
  exact hk (mu_lt b13)
set_option maxRecDepth 100000 in
theorem e_Maker_holdAtBeginning_88_2_34_54 {v3 : Int32} {v4 : Int32} {v5 : Int32} {v6 : Int32} {w0 : Int32} {w1 : Int32} {w2 : Int32} {x : Option Value × List mmC} (b13 : v5 < 2147483647) (hk : (kK (fun a : Int32 × Ob => mu a.1) (mu v5) (fun a : Int32 × Ob => Ev mmPT tbX5_holdAtBeginning 13 [some (.ref 88), none, some (.ref 34), some (.int v3), some (.int v4), some (.int a.1), none] [] (mh sc rest to fl ma tr a.2 cn nu de ru la tb tf ph cs) x) (kO (fun r : Ob => (none, mh sc rest to fl ma tr r cn nu de ru la tb tf ph cs)) x)) (Maker_holdAtBeginning_54 fl ma mk v3 v4 v5 v6 w0 w1 w2)) : Ev mmPT tbX5_holdAtBeginning 54 [some (.ref 88), none, some (.ref 34), some (.int v3), some (.int v4), some (.int v5), some (.int v6)] [.int w0, .int w1, .int w2, .ref 88] (mh sc rest to fl ma tr mk cn nu de ru la tb tf ph cs) x := by
  unfold Maker_holdAtBeginning_54 at hk
  refine Ev.s (ins := .iload 4) (pc' := 56) rfl rfl ?_
  refine q_ic (-1) rfl rfl ?_
  refine q_cne rfl hk (fun c1 hk => ?_) (fun c1 hk => ?_)
  · refine q_ic 0 rfl rfl ?_
    refine Ev.goto rfl ?_
    refine Ev.weak [some (.ref 88), none, some (.ref 34), some (.int v3), some (.int v4), some (.int v5), none] ⟨rfl, rfl, rfl, rfl, rfl, rfl, rfl, trivial⟩ ?_
    exact e_Maker_holdAtBeginning_88_2_34_73 b13 hk
  · refine Ev.s (ins := .aload_n 0) (pc' := 65) rfl rfl ?_
    refine gf_88_1 rfl ?_
    refine Ev.s (ins := .iload 6) (pc' := 70) rfl rfl ?_
    refine at_91 (oat mk 1 60 v6) rfl (Nat.le_of_ble_eq_true rfl) rfl ?_
    refine Ev.weak [some (.ref 88), none, some (.ref 34), some (.int v3), some (.int v4), some (.int v5), none] ⟨rfl, rfl, rfl, rfl, rfl, rfl, rfl, trivial⟩ ?_
    exact e_Maker_holdAtBeginning_88_2_34_73 b13 hk
set_option maxRecDepth 100000 in
theorem e_Maker_holdAtBeginning_88_2_34_138 {v3 : Int32} {v5 : Int32} {x : Option Value × List mmC} (b85 : v5 < 2147483647) (hk : (kK (fun a : Int32 × Ob => mu a.1) (mu v5) (fun a : Int32 × Ob => Ev mmPT tbX5_holdAtBeginning 85 [some (.ref 88), none, some (.ref 34), some (.int v3), none, some (.int a.1), none] [] (mh sc rest to fl ma tr a.2 cn nu de ru la tb tf ph cs) x) (kO (fun r : Ob => (none, mh sc rest to fl ma tr r cn nu de ru la tb tf ph cs)) x)) (Maker_holdAtBeginning_138 fl ma mk v3 v5)) : Ev mmPT tbX5_holdAtBeginning 138 [some (.ref 88), none, some (.ref 34), some (.int v3), none, some (.int v5), none] [] (mh sc rest to fl ma tr mk cn nu de ru la tb tf ph cs) x := by
  unfold Maker_holdAtBeginning_138 at hk
  refine q_inc 1 [some (.ref 88), none, some (.ref 34), some (.int v3), none, some (.int (v5 + 1)), none] rfl rfl rfl rfl ?_
  refine Ev.goto rfl ?_
  replace hk := kK_l hk
  exact hk (mu_lt b85)
set_option maxRecDepth 100000 in
theorem e_Maker_holdAtBeginning_88_2_34_L85b {v3 : Int32} {v5 : Int32} {x : Option Value × List mmC} (hk : (kK (fun a : Int32 × Ob => mu a.1) (mu v5) (fun a : Int32 × Ob => Ev mmPT tbX5_holdAtBeginning 85 [some (.ref 88), none, some (.ref 34), some (.int v3), none, some (.int a.1), none] [] (mh sc rest to fl ma tr a.2 cn nu de ru la tb tf ph cs) x) (kO (fun r : Ob => (none, mh sc rest to fl ma tr r cn nu de ru la tb tf ph cs)) x)) (Maker_holdAtBeginning_L85b fl ma mk v3 v5)) : Ev mmPT tbX5_holdAtBeginning 85 [some (.ref 88), none, some (.ref 34), some (.int v3), none, some (.int v5), none] [] (mh sc rest to fl ma tr mk cn nu de ru la tb tf ph cs) x := by
  unfold Maker_holdAtBeginning_L85b at hk
  refine Ev.s (ins := .iload 5) (pc' := 87) rfl rfl ?_
  refine Ev.s (ins := .aload_n 2) (pc' := 88) rfl rfl ?_
  refine gf_34_7 rfl ?_
  refine Ev.s (ins := .iload_n 3) (pc' := 92) rfl rfl ?_
  refine at_49 (oat ma 7 10 v3) rfl (Nat.le_of_ble_eq_true rfl) rfl ?_
  refine q_cge rfl hk (fun c1 hk => ?_) (fun c1 hk => ?_)
  · refine Ev.s (ins := .aload_n 2) (pc' := 99) rfl rfl ?_
    refine Ev.s (ins := .iload_n 3) (pc' := 100) rfl rfl ?_
    refine Ev.s (ins := .iload 5) (pc' := 102) rfl rfl ?_
    refine kc_X3_valueIn_0 rfl oi_34 rfl (Nat.le_of_ble_eq_true rfl) (e_Form_valueIn_34) ?_
    refine Ev.s (ins := .istore 6) (pc' := 107) (lv' := [some (.ref 88), none, some (.ref 34), some (.int v3), none, some (.int v5), some (.int (Form_valueIn ma v3 v5))]) rfl rfl ?_
    refine Ev.s (ins := .aload_n 2) (pc' := 108) rfl rfl ?_
    refine gf_34_0 rfl ?_
    refine Ev.s (ins := .iload 6) (pc' := 113) rfl rfl ?_
    refine at_35 (oat ma 0 140 (Form_valueIn ma v3 v5)) rfl (Nat.le_of_ble_eq_true rfl) rfl ?_
    refine q_bi 9 rfl rfl ?_
    refine q_cne rfl hk (fun c2 hk => ?_) (fun c2 hk => ?_)
    · refine Ev.s (ins := .aload_n 0) (pc' := 122) rfl rfl ?_
      refine Ev.s (ins := .iload_n 3) (pc' := 123) rfl rfl ?_
      refine Ev.s (ins := .aload_n 2) (pc' := 124) rfl rfl ?_
      refine gf_34_2 rfl ?_
      refine Ev.s (ins := .iload 6) (pc' := 129) rfl rfl ?_
      refine at_39 (oat ma 2 140 (Form_valueIn ma v3 v5)) rfl (Nat.le_of_ble_eq_true rfl) rfl ?_
      refine Ev.s (ins := .iload 6) (pc' := 134) rfl rfl ?_
      refine q_ic 0 rfl rfl ?_
      refine kc_X5_hold_0 rfl oi_88 rfl (Nat.le_of_ble_eq_true rfl) (e_Maker_hold_88) ?_
      refine Ev.weak [some (.ref 88), none, some (.ref 34), some (.int v3), none, some (.int v5), none] ⟨rfl, rfl, rfl, rfl, rfl, rfl, rfl, trivial⟩ ?_
      exact e_Maker_holdAtBeginning_88_2_34_138 (lt31 c1) hk
    · refine Ev.weak [some (.ref 88), none, some (.ref 34), some (.int v3), none, some (.int v5), none] ⟨rfl, rfl, rfl, rfl, rfl, rfl, rfl, trivial⟩ ?_
      exact e_Maker_holdAtBeginning_88_2_34_138 (lt31 c1) hk
  · replace hk := kK_r hk
    exact Ev.vret rfl rfl hk
set_option maxRecDepth 100000 in
theorem e_Maker_holdAtBeginning_88_2_34_L85 {v3 : Int32} {v5 : Int32} {x : Option Value × List mmC} (hk : (kO (fun r : Ob => (none, mh sc rest to fl ma tr r cn nu de ru la tb tf ph cs)) x) (Maker_holdAtBeginning_L85 fl ma mk v3 v5)) : Ev mmPT tbX5_holdAtBeginning 85 [some (.ref 88), none, some (.ref 34), some (.int v3), none, some (.int v5), none] [] (mh sc rest to fl ma tr mk cn nu de ru la tb tf ph cs) x :=
  k_loop (B := (fun a : Int32 × Ob => Maker_holdAtBeginning_L85b fl ma a.2 v3 a.1)) (μ := fun a : Int32 × Ob => mu a.1) (E := fun a : Int32 × Ob => Ev mmPT tbX5_holdAtBeginning 85 [some (.ref 88), none, some (.ref 34), some (.int v3), none, some (.int a.1), none] [] (mh sc rest to fl ma tr a.2 cn nu de ru la tb tf ph cs) x) (X := (kO (fun r : Ob => (none, mh sc rest to fl ma tr r cn nu de ru la tb tf ph cs)) x)) (fun a hk => e_Maker_holdAtBeginning_88_2_34_L85b hk) (v5, mk) hk
set_option maxRecDepth 100000 in
theorem e_Maker_holdAtBeginning_88_2_34_L13b {v3 : Int32} {v4 : Int32} {v5 : Int32} {x : Option Value × List mmC} (hk : (kK (fun a : Int32 × Ob => mu a.1) (mu v5) (fun a : Int32 × Ob => Ev mmPT tbX5_holdAtBeginning 13 [some (.ref 88), none, some (.ref 34), some (.int v3), some (.int v4), some (.int a.1), none] [] (mh sc rest to fl ma tr a.2 cn nu de ru la tb tf ph cs) x) (kO (fun r : Ob => (none, mh sc rest to fl ma tr r cn nu de ru la tb tf ph cs)) x)) (Maker_holdAtBeginning_L13b fl ma mk v3 v4 v5)) : Ev mmPT tbX5_holdAtBeginning 13 [some (.ref 88), none, some (.ref 34), some (.int v3), some (.int v4), some (.int v5), none] [] (mh sc rest to fl ma tr mk cn nu de ru la tb tf ph cs) x := by
  unfold Maker_holdAtBeginning_L13b at hk
  refine Ev.s (ins := .iload 5) (pc' := 15) rfl rfl ?_
  refine q_bi 6 rfl rfl ?_
  refine q_cge rfl hk (fun c1 hk => ?_) (fun c1 hk => ?_)
  · refine Ev.s (ins := .iload 4) (pc' := 22) rfl rfl ?_
    refine q_bi 6 rfl rfl ?_
    refine Ev.s (ins := .imul) (pc' := 25) rfl rfl ?_
    refine Ev.s (ins := .iload 5) (pc' := 27) rfl rfl ?_
    refine Ev.s (ins := .iadd) (pc' := 28) rfl rfl ?_
    refine Ev.s (ins := .istore 6) (pc' := 30) (lv' := [some (.ref 88), none, some (.ref 34), some (.int v3), some (.int v4), some (.int v5), some (.int ((v4 * 6) + v5))]) rfl rfl ?_
    refine Ev.s (ins := .aload_n 0) (pc' := 31) rfl rfl ?_
    refine Ev.s (ins := .iload_n 3) (pc' := 32) rfl rfl ?_
    refine Ev.s (ins := .iload 5) (pc' := 34) rfl rfl ?_
    refine Ev.s (ins := .iload 4) (pc' := 36) rfl rfl ?_
    refine q_ic (-1) rfl rfl ?_
    refine q_cne rfl hk (fun c2 hk => ?_) (fun c2 hk => ?_)
    · refine Ev.s (ins := .iload 5) (pc' := 42) rfl rfl ?_
      refine Ev.goto rfl ?_
      exact e_Maker_holdAtBeginning_88_2_34_54 (lt31 c1) hk
    · refine Ev.s (ins := .aload_n 0) (pc' := 46) rfl rfl ?_
      refine gf_88_0 rfl ?_
      refine Ev.s (ins := .iload 6) (pc' := 51) rfl rfl ?_
      refine at_89 (oat mk 0 60 ((v4 * 6) + v5)) rfl (Nat.le_of_ble_eq_true rfl) rfl ?_
      exact e_Maker_holdAtBeginning_88_2_34_54 (lt31 c1) hk
  · replace hk := kK_r hk
    refine q_ic 0 rfl rfl ?_
    refine Ev.s (ins := .istore 5) (pc' := 85) (lv' := [some (.ref 88), none, some (.ref 34), some (.int v3), some (.int v4), some (.int 0), none]) rfl rfl ?_
    refine Ev.weak [some (.ref 88), none, some (.ref 34), some (.int v3), none, some (.int 0), none] ⟨rfl, rfl, rfl, rfl, rfl, rfl, rfl, trivial⟩ ?_
    exact e_Maker_holdAtBeginning_88_2_34_L85 hk
set_option maxRecDepth 100000 in
theorem e_Maker_holdAtBeginning_88_2_34_L13 {v3 : Int32} {v4 : Int32} {v5 : Int32} {x : Option Value × List mmC} (hk : (kO (fun r : Ob => (none, mh sc rest to fl ma tr r cn nu de ru la tb tf ph cs)) x) (Maker_holdAtBeginning_L13 fl ma mk v3 v4 v5)) : Ev mmPT tbX5_holdAtBeginning 13 [some (.ref 88), none, some (.ref 34), some (.int v3), some (.int v4), some (.int v5), none] [] (mh sc rest to fl ma tr mk cn nu de ru la tb tf ph cs) x :=
  k_loop (B := (fun a : Int32 × Ob => Maker_holdAtBeginning_L13b fl ma a.2 v3 v4 a.1)) (μ := fun a : Int32 × Ob => mu a.1) (E := fun a : Int32 × Ob => Ev mmPT tbX5_holdAtBeginning 13 [some (.ref 88), none, some (.ref 34), some (.int v3), some (.int v4), some (.int a.1), none] [] (mh sc rest to fl ma tr a.2 cn nu de ru la tb tf ph cs) x) (X := (kO (fun r : Ob => (none, mh sc rest to fl ma tr r cn nu de ru la tb tf ph cs)) x)) (fun a hk => e_Maker_holdAtBeginning_88_2_34_L13b hk) (v5, mk) hk
set_option maxRecDepth 100000 in
theorem e_Maker_holdAtBeginning_88_2_34_0 {v3 : Int32} {x : Option Value × List mmC} (hk : (kO (fun r : Ob => (none, mh sc rest to fl ma tr r cn nu de ru la tb tf ph cs)) x) (Maker_holdAtBeginning fl ma mk v3)) : Ev mmPT tbX5_holdAtBeginning 0 [some (.ref 88), some (.ref 2), some (.ref 34), some (.int v3), none, none, none] [] (mh sc rest to fl ma tr mk cn nu de ru la tb tf ph cs) x := by
  unfold Maker_holdAtBeginning at hk
  refine Ev.s (ins := .aload_n 1) (pc' := 1) rfl rfl ?_
  refine gf_2_11 rfl ?_
  refine Ev.s (ins := .iload_n 3) (pc' := 5) rfl rfl ?_
  refine kc_X2_nearestDominator_0 rfl oi_25 rfl (Nat.le_of_ble_eq_true rfl) (e_Flow_nearestDominator_25) ?_
  refine Ev.s (ins := .istore 4) (pc' := 10) (lv' := [some (.ref 88), some (.ref 2), some (.ref 34), some (.int v3), some (.int (Flow_nearestDominator fl v3)), none, none]) rfl rfl ?_
  refine q_ic 0 rfl rfl ?_
  refine Ev.s (ins := .istore 5) (pc' := 13) (lv' := [some (.ref 88), some (.ref 2), some (.ref 34), some (.int v3), some (.int (Flow_nearestDominator fl v3)), some (.int 0), none]) rfl rfl ?_
  refine Ev.weak [some (.ref 88), none, some (.ref 34), some (.int v3), some (.int (Flow_nearestDominator fl v3)), some (.int 0), none] ⟨rfl, rfl, rfl, rfl, rfl, rfl, rfl, trivial⟩ ?_
  exact e_Maker_holdAtBeginning_88_2_34_L13 hk
set_option maxRecDepth 100000 in
theorem e_Maker_holdAtBeginning_88_2_34 {v3 : Int32} : Ev mmPT tbX5_holdAtBeginning 0 [some (.ref 88), some (.ref 2), some (.ref 34), some (.int v3), none, none, none] [] (mh sc rest to fl ma tr mk cn nu de ru la tb tf ph cs) ((fun r : Ob => (none, mh sc rest to fl ma tr r cn nu de ru la tb tf ph cs)) (Maker_holdAtBeginning fl ma mk v3)) := e_Maker_holdAtBeginning_88_2_34_0 (by exact rfl)
set_option maxRecDepth 100000 in
theorem e_J_bitCount_0 {v0 : Int32} {x : Option Value × List mmC} (hk : (kO (fun r : Int32 => (some (.int r), mh sc rest to fl ma tr mk cn nu de ru la tb tf ph cs)) x) (J_bitCount v0)) : Ev mmPT tbJ6_bitCount_0f7a4 0 [some (.int v0)] [] (mh sc rest to fl ma tr mk cn nu de ru la tb tf ph cs) x := by
  unfold J_bitCount at hk
  refine Ev.s (ins := .iload_n 0) (pc' := 1) rfl rfl ?_
  refine Ev.s (ins := .iload_n 0) (pc' := 2) rfl rfl ?_
  refine q_ic 1 rfl rfl ?_
  refine Ev.s (ins := .iushr) (pc' := 4) rfl rfl ?_
  refine q_lw 1431655765 rfl rfl ?_
  refine Ev.s (ins := .iand) (pc' := 8) rfl rfl ?_
  refine Ev.s (ins := .isub) (pc' := 9) rfl rfl ?_
  refine Ev.s (ins := .istore_n 0) (pc' := 10) (lv' := [some (.int (v0 - (((v0).toUInt32 >>> (((1 : Int32)).toUInt32 &&& Int32.toUInt32 31)).toInt32 &&& 1431655765)))]) rfl rfl ?_
  refine Ev.s (ins := .iload_n 0) (pc' := 11) rfl rfl ?_
  refine q_lw 858993459 rfl rfl ?_
  refine Ev.s (ins := .iand) (pc' := 15) rfl rfl ?_
  refine Ev.s (ins := .iload_n 0) (pc' := 16) rfl rfl ?_
  refine q_ic 2 rfl rfl ?_
  refine Ev.s (ins := .iushr) (pc' := 18) rfl rfl ?_
  refine q_lw 858993459 rfl rfl ?_
  refine Ev.s (ins := .iand) (pc' := 22) rfl rfl ?_
  refine Ev.s (ins := .iadd) (pc' := 23) rfl rfl ?_
  refine Ev.s (ins := .istore_n 0) (pc' := 24) (lv' := [some (.int (((v0 - (((v0).toUInt32 >>> (((1 : Int32)).toUInt32 &&& Int32.toUInt32 31)).toInt32 &&& 1431655765)) &&& 858993459) + ((((v0 - (((v0).toUInt32 >>> (((1 : Int32)).toUInt32 &&& Int32.toUInt32 31)).toInt32 &&& 1431655765))).toUInt32 >>> (((2 : Int32)).toUInt32 &&& Int32.toUInt32 31)).toInt32 &&& 858993459)))]) rfl rfl ?_
  refine Ev.s (ins := .iload_n 0) (pc' := 25) rfl rfl ?_
  refine Ev.s (ins := .iload_n 0) (pc' := 26) rfl rfl ?_
  refine q_ic 4 rfl rfl ?_
  refine Ev.s (ins := .iushr) (pc' := 28) rfl rfl ?_
  refine Ev.s (ins := .iadd) (pc' := 29) rfl rfl ?_
  refine q_lw 252645135 rfl rfl ?_
  refine Ev.s (ins := .iand) (pc' := 33) rfl rfl ?_
  refine Ev.s (ins := .istore_n 0) (pc' := 34) (lv' := [some (.int (((((v0 - (((v0).toUInt32 >>> (((1 : Int32)).toUInt32 &&& Int32.toUInt32 31)).toInt32 &&& 1431655765)) &&& 858993459) + ((((v0 - (((v0).toUInt32 >>> (((1 : Int32)).toUInt32 &&& Int32.toUInt32 31)).toInt32 &&& 1431655765))).toUInt32 >>> (((2 : Int32)).toUInt32 &&& Int32.toUInt32 31)).toInt32 &&& 858993459)) + (((((v0 - (((v0).toUInt32 >>> (((1 : Int32)).toUInt32 &&& Int32.toUInt32 31)).toInt32 &&& 1431655765)) &&& 858993459) + ((((v0 - (((v0).toUInt32 >>> (((1 : Int32)).toUInt32 &&& Int32.toUInt32 31)).toInt32 &&& 1431655765))).toUInt32 >>> (((2 : Int32)).toUInt32 &&& Int32.toUInt32 31)).toInt32 &&& 858993459))).toUInt32 >>> (((4 : Int32)).toUInt32 &&& Int32.toUInt32 31)).toInt32) &&& 252645135))]) rfl rfl ?_
  refine Ev.s (ins := .iload_n 0) (pc' := 35) rfl rfl ?_
  refine Ev.s (ins := .iload_n 0) (pc' := 36) rfl rfl ?_
  refine q_bi 8 rfl rfl ?_
  refine Ev.s (ins := .iushr) (pc' := 39) rfl rfl ?_
  refine Ev.s (ins := .iadd) (pc' := 40) rfl rfl ?_
  refine Ev.s (ins := .istore_n 0) (pc' := 41) (lv' := [some (.int ((((((v0 - (((v0).toUInt32 >>> (((1 : Int32)).toUInt32 &&& Int32.toUInt32 31)).toInt32 &&& 1431655765)) &&& 858993459) + ((((v0 - (((v0).toUInt32 >>> (((1 : Int32)).toUInt32 &&& Int32.toUInt32 31)).toInt32 &&& 1431655765))).toUInt32 >>> (((2 : Int32)).toUInt32 &&& Int32.toUInt32 31)).toInt32 &&& 858993459)) + (((((v0 - (((v0).toUInt32 >>> (((1 : Int32)).toUInt32 &&& Int32.toUInt32 31)).toInt32 &&& 1431655765)) &&& 858993459) + ((((v0 - (((v0).toUInt32 >>> (((1 : Int32)).toUInt32 &&& Int32.toUInt32 31)).toInt32 &&& 1431655765))).toUInt32 >>> (((2 : Int32)).toUInt32 &&& Int32.toUInt32 31)).toInt32 &&& 858993459))).toUInt32 >>> (((4 : Int32)).toUInt32 &&& Int32.toUInt32 31)).toInt32) &&& 252645135) + (((((((v0 - (((v0).toUInt32 >>> (((1 : Int32)).toUInt32 &&& Int32.toUInt32 31)).toInt32 &&& 1431655765)) &&& 858993459) + ((((v0 - (((v0).toUInt32 >>> (((1 : Int32)).toUInt32 &&& Int32.toUInt32 31)).toInt32 &&& 1431655765))).toUInt32 >>> (((2 : Int32)).toUInt32 &&& Int32.toUInt32 31)).toInt32 &&& 858993459)) + (((((v0 - (((v0).toUInt32 >>> (((1 : Int32)).toUInt32 &&& Int32.toUInt32 31)).toInt32 &&& 1431655765)) &&& 858993459) + ((((v0 - (((v0).toUInt32 >>> (((1 : Int32)).toUInt32 &&& Int32.toUInt32 31)).toInt32 &&& 1431655765))).toUInt32 >>> (((2 : Int32)).toUInt32 &&& Int32.toUInt32 31)).toInt32 &&& 858993459))).toUInt32 >>> (((4 : Int32)).toUInt32 &&& Int32.toUInt32 31)).toInt32) &&& 252645135)).toUInt32 >>> (((8 : Int32)).toUInt32 &&& Int32.toUInt32 31)).toInt32))]) rfl rfl ?_
  refine Ev.s (ins := .iload_n 0) (pc' := 42) rfl rfl ?_
  refine Ev.s (ins := .iload_n 0) (pc' := 43) rfl rfl ?_
  refine q_bi 16 rfl rfl ?_
  refine Ev.s (ins := .iushr) (pc' := 46) rfl rfl ?_
  refine Ev.s (ins := .iadd) (pc' := 47) rfl rfl ?_
  refine Ev.s (ins := .istore_n 0) (pc' := 48) (lv' := [some (.int (((((((v0 - (((v0).toUInt32 >>> (((1 : Int32)).toUInt32 &&& Int32.toUInt32 31)).toInt32 &&& 1431655765)) &&& 858993459) + ((((v0 - (((v0).toUInt32 >>> (((1 : Int32)).toUInt32 &&& Int32.toUInt32 31)).toInt32 &&& 1431655765))).toUInt32 >>> (((2 : Int32)).toUInt32 &&& Int32.toUInt32 31)).toInt32 &&& 858993459)) + (((((v0 - (((v0).toUInt32 >>> (((1 : Int32)).toUInt32 &&& Int32.toUInt32 31)).toInt32 &&& 1431655765)) &&& 858993459) + ((((v0 - (((v0).toUInt32 >>> (((1 : Int32)).toUInt32 &&& Int32.toUInt32 31)).toInt32 &&& 1431655765))).toUInt32 >>> (((2 : Int32)).toUInt32 &&& Int32.toUInt32 31)).toInt32 &&& 858993459))).toUInt32 >>> (((4 : Int32)).toUInt32 &&& Int32.toUInt32 31)).toInt32) &&& 252645135) + (((((((v0 - (((v0).toUInt32 >>> (((1 : Int32)).toUInt32 &&& Int32.toUInt32 31)).toInt32 &&& 1431655765)) &&& 858993459) + ((((v0 - (((v0).toUInt32 >>> (((1 : Int32)).toUInt32 &&& Int32.toUInt32 31)).toInt32 &&& 1431655765))).toUInt32 >>> (((2 : Int32)).toUInt32 &&& Int32.toUInt32 31)).toInt32 &&& 858993459)) + (((((v0 - (((v0).toUInt32 >>> (((1 : Int32)).toUInt32 &&& Int32.toUInt32 31)).toInt32 &&& 1431655765)) &&& 858993459) + ((((v0 - (((v0).toUInt32 >>> (((1 : Int32)).toUInt32 &&& Int32.toUInt32 31)).toInt32 &&& 1431655765))).toUInt32 >>> (((2 : Int32)).toUInt32 &&& Int32.toUInt32 31)).toInt32 &&& 858993459))).toUInt32 >>> (((4 : Int32)).toUInt32 &&& Int32.toUInt32 31)).toInt32) &&& 252645135)).toUInt32 >>> (((8 : Int32)).toUInt32 &&& Int32.toUInt32 31)).toInt32) + ((((((((v0 - (((v0).toUInt32 >>> (((1 : Int32)).toUInt32 &&& Int32.toUInt32 31)).toInt32 &&& 1431655765)) &&& 858993459) + ((((v0 - (((v0).toUInt32 >>> (((1 : Int32)).toUInt32 &&& Int32.toUInt32 31)).toInt32 &&& 1431655765))).toUInt32 >>> (((2 : Int32)).toUInt32 &&& Int32.toUInt32 31)).toInt32 &&& 858993459)) + (((((v0 - (((v0).toUInt32 >>> (((1 : Int32)).toUInt32 &&& Int32.toUInt32 31)).toInt32 &&& 1431655765)) &&& 858993459) + ((((v0 - (((v0).toUInt32 >>> (((1 : Int32)).toUInt32 &&& Int32.toUInt32 31)).toInt32 &&& 1431655765))).toUInt32 >>> (((2 : Int32)).toUInt32 &&& Int32.toUInt32 31)).toInt32 &&& 858993459))).toUInt32 >>> (((4 : Int32)).toUInt32 &&& Int32.toUInt32 31)).toInt32) &&& 252645135) + (((((((v0 - (((v0).toUInt32 >>> (((1 : Int32)).toUInt32 &&& Int32.toUInt32 31)).toInt32 &&& 1431655765)) &&& 858993459) + ((((v0 - (((v0).toUInt32 >>> (((1 : Int32)).toUInt32 &&& Int32.toUInt32 31)).toInt32 &&& 1431655765))).toUInt32 >>> (((2 : Int32)).toUInt32 &&& Int32.toUInt32 31)).toInt32 &&& 858993459)) + (((((v0 - (((v0).toUInt32 >>> (((1 : Int32)).toUInt32 &&& Int32.toUInt32 31)).toInt32 &&& 1431655765)) &&& 858993459) + ((((v0 - (((v0).toUInt32 >>> (((1 : Int32)).toUInt32 &&& Int32.toUInt32 31)).toInt32 &&& 1431655765))).toUInt32 >>> (((2 : Int32)).toUInt32 &&& Int32.toUInt32 31)).toInt32 &&& 858993459))).toUInt32 >>> (((4 : Int32)).toUInt32 &&& Int32.toUInt32 31)).toInt32) &&& 252645135)).toUInt32 >>> (((8 : Int32)).toUInt32 &&& Int32.toUInt32 31)).toInt32)).toUInt32 >>> (((16 : Int32)).toUInt32 &&& Int32.toUInt32 31)).toInt32))]) rfl rfl ?_
  refine Ev.s (ins := .iload_n 0) (pc' := 49) rfl rfl ?_
  refine q_bi 63 rfl rfl ?_
  refine Ev.s (ins := .iand) (pc' := 52) rfl rfl ?_
  exact Ev.iret rfl rfl hk
set_option maxRecDepth 100000 in
theorem e_J_bitCount {v0 : Int32} : Ev mmPT tbJ6_bitCount_0f7a4 0 [some (.int v0)] [] (mh sc rest to fl ma tr mk cn nu de ru la tb tf ph cs) ((fun r : Int32 => (some (.int r), mh sc rest to fl ma tr mk cn nu de ru la tb tf ph cs)) (J_bitCount v0)) := e_J_bitCount_0 (by exact rfl)
set_option maxRecDepth 100000 in
theorem e_Maker_valueFor_88_0 {v1 : Int32} {v2 : Int32} {x : Option Value × List mmC} (hk : (kO (fun r : Int32 => (some (.int r), mh sc rest to fl ma tr mk cn nu de ru la tb tf ph cs)) x) (Maker_valueFor mk v1 v2)) : Ev mmPT tbX5_valueFor 0 [some (.ref 88), some (.int v1), some (.int v2), none] [] (mh sc rest to fl ma tr mk cn nu de ru la tb tf ph cs) x := by
  unfold Maker_valueFor at hk
  refine Ev.s (ins := .iload_n 2) (pc' := 1) rfl rfl ?_
  refine kc_X11_variableOf_3 rfl (Nat.le_of_ble_eq_true rfl) (e_Ph_variableOf) ?_
  refine Ev.s (ins := .istore_n 3) (pc' := 5) (lv' := [some (.ref 88), some (.int v1), some (.int v2), some (.int (Ph_variableOf v2))]) rfl rfl ?_
  refine Ev.s (ins := .iload_n 3) (pc' := 6) rfl rfl ?_
  refine q_ic (-1) rfl rfl ?_
  refine q_cne rfl hk (fun c1 hk => ?_) (fun c1 hk => ?_)
  · refine q_ic (-1) rfl rfl ?_
    refine Ev.goto rfl ?_
    exact Ev.iret rfl rfl hk
  · refine Ev.s (ins := .aload_n 0) (pc' := 15) rfl rfl ?_
    refine gf_88_0 rfl ?_
    refine Ev.s (ins := .iload_n 1) (pc' := 19) rfl rfl ?_
    refine q_bi 6 rfl rfl ?_
    refine Ev.s (ins := .imul) (pc' := 22) rfl rfl ?_
    refine Ev.s (ins := .iload_n 3) (pc' := 23) rfl rfl ?_
    refine Ev.s (ins := .iadd) (pc' := 24) rfl rfl ?_
    refine at_89 (oat mk 0 60 ((v1 * 6) + (Ph_variableOf v2))) rfl (Nat.le_of_ble_eq_true rfl) rfl ?_
    exact Ev.iret rfl rfl hk
set_option maxRecDepth 100000 in
theorem e_Maker_valueFor_88 {v1 : Int32} {v2 : Int32} : Ev mmPT tbX5_valueFor 0 [some (.ref 88), some (.int v1), some (.int v2), none] [] (mh sc rest to fl ma tr mk cn nu de ru la tb tf ph cs) ((fun r : Int32 => (some (.int r), mh sc rest to fl ma tr mk cn nu de ru la tb tf ph cs)) (Maker_valueFor mk v1 v2)) := e_Maker_valueFor_88_0 (by exact rfl)
set_option maxRecDepth 100000 in
theorem e_Maker_numberFor_88_0 {v1 : Int32} {v2 : Int32} {x : Option Value × List mmC} (hk : (kO (fun r : Int32 => (some (.int r), mh sc rest to fl ma tr mk cn nu de ru la tb tf ph cs)) x) (Maker_numberFor mk v1 v2)) : Ev mmPT tbX5_numberFor 0 [some (.ref 88), some (.int v1), some (.int v2), none] [] (mh sc rest to fl ma tr mk cn nu de ru la tb tf ph cs) x := by
  unfold Maker_numberFor at hk
  refine Ev.s (ins := .iload_n 2) (pc' := 1) rfl rfl ?_
  refine kc_X11_variableOf_3 rfl (Nat.le_of_ble_eq_true rfl) (e_Ph_variableOf) ?_
  refine Ev.s (ins := .istore_n 3) (pc' := 5) (lv' := [some (.ref 88), some (.int v1), some (.int v2), some (.int (Ph_variableOf v2))]) rfl rfl ?_
  refine Ev.s (ins := .iload_n 3) (pc' := 6) rfl rfl ?_
  refine q_ic (-1) rfl rfl ?_
  refine q_cne rfl hk (fun c1 hk => ?_) (fun c1 hk => ?_)
  · refine Ev.s (ins := .iload_n 2) (pc' := 11) rfl rfl ?_
    refine Ev.goto rfl ?_
    exact Ev.iret rfl rfl hk
  · refine Ev.s (ins := .aload_n 0) (pc' := 15) rfl rfl ?_
    refine gf_88_1 rfl ?_
    refine Ev.s (ins := .iload_n 1) (pc' := 19) rfl rfl ?_
    refine q_bi 6 rfl rfl ?_
    refine Ev.s (ins := .imul) (pc' := 22) rfl rfl ?_
    refine Ev.s (ins := .iload_n 3) (pc' := 23) rfl rfl ?_
    refine Ev.s (ins := .iadd) (pc' := 24) rfl rfl ?_
    refine at_91 (oat mk 1 60 ((v1 * 6) + (Ph_variableOf v2))) rfl (Nat.le_of_ble_eq_true rfl) rfl ?_
    exact Ev.iret rfl rfl hk
set_option maxRecDepth 100000 in
theorem e_Maker_numberFor_88 {v1 : Int32} {v2 : Int32} : Ev mmPT tbX5_numberFor 0 [some (.ref 88), some (.int v1), some (.int v2), none] [] (mh sc rest to fl ma tr mk cn nu de ru la tb tf ph cs) ((fun r : Int32 => (some (.int r), mh sc rest to fl ma tr mk cn nu de ru la tb tf ph cs)) (Maker_numberFor mk v1 v2)) := e_Maker_numberFor_88_0 (by exact rfl)
set_option maxRecDepth 100000 in
theorem e_Form_addArgument_34_27 {v1 : Int32} {v2 : Int32} {v3 : Int32} {v4 : Int32} {x : Option Value × List mmC} (hk : (kO (fun r : Ob => (none, mh sc rest to fl r tr mk cn nu de ru la tb tf ph cs)) x) (Form_addArgument_27 ma v1 v2 v3 v4)) : Ev mmPT tbX3_addArgument 27 [some (.ref 34), some (.int v1), some (.int v2), some (.int v3), some (.int v4)] [] (mh sc rest to fl ma tr mk cn nu de ru la tb tf ph cs) x := by
  unfold Form_addArgument_27 at hk
  refine Ev.s (ins := .aload_n 0) (pc' := 28) rfl rfl ?_
  refine gf_34_5 rfl ?_
  refine Ev.s (ins := .aload_n 0) (pc' := 32) rfl rfl ?_
  refine gf_34_16 (ma.2.1 3) rfl rfl ?_
  refine Ev.s (ins := .iload_n 2) (pc' := 36) rfl rfl ?_
  refine pt_45 rfl (Nat.le_of_ble_eq_true rfl) ?_
  refine Ev.s (ins := .aload_n 0) (pc' := 40) rfl rfl ?_
  refine gf_34_6 rfl ?_
  refine Ev.s (ins := .aload_n 0) (pc' := 44) rfl rfl ?_
  refine gf_34_16 (ma.2.1 3) rfl rfl ?_
  refine Ev.s (ins := .iload_n 3) (pc' := 48) rfl rfl ?_
  refine pt_47 rfl (Nat.le_of_ble_eq_true rfl) ?_
  refine Ev.s (ins := .aload_n 0) (pc' := 52) rfl rfl ?_
  refine gf_34_3 rfl ?_
  refine Ev.s (ins := .iload_n 1) (pc' := 56) rfl rfl ?_
  refine Ev.s (ins := .iload 4) (pc' := 58) rfl rfl ?_
  refine q_ic 1 rfl rfl ?_
  refine Ev.s (ins := .iadd) (pc' := 60) rfl rfl ?_
  refine pt_41 rfl (Nat.le_of_ble_eq_true rfl) ?_
  refine Ev.s (ins := .aload_n 0) (pc' := 64) rfl rfl ?_
  refine Ev.s (ins := .dup) (pc' := 65) rfl rfl ?_
  refine gf_34_16 (ma.2.1 3) rfl rfl ?_
  refine q_ic 1 rfl rfl ?_
  refine Ev.s (ins := .iadd) (pc' := 70) rfl rfl ?_
  refine pf_34_16 ((ma.2.1 3) + 1) rfl ?_
  exact Ev.vret rfl rfl hk
set_option maxRecDepth 100000 in
theorem e_Form_addArgument_34_0 {v1 : Int32} {v2 : Int32} {v3 : Int32} {x : Option Value × List mmC} (hk : (kO (fun r : Ob => (none, mh sc rest to fl r tr mk cn nu de ru la tb tf ph cs)) x) (Form_addArgument ma v1 v2 v3)) : Ev mmPT tbX3_addArgument 0 [some (.ref 34), some (.int v1), some (.int v2), some (.int v3), none] [] (mh sc rest to fl ma tr mk cn nu de ru la tb tf ph cs) x := by
  unfold Form_addArgument at hk
  refine Ev.s (ins := .aload_n 0) (pc' := 1) rfl rfl ?_
  refine gf_34_3 rfl ?_
  refine Ev.s (ins := .iload_n 1) (pc' := 5) rfl rfl ?_
  refine at_41 (oat ma 3 150 v1) rfl (Nat.le_of_ble_eq_true rfl) rfl ?_
  refine Ev.s (ins := .istore 4) (pc' := 10) (lv' := [some (.ref 34), some (.int v1), some (.int v2), some (.int v3), some (.int (oat ma 3 150 v1))]) rfl rfl ?_
  refine Ev.s (ins := .iload 4) (pc' := 12) rfl rfl ?_
  refine q_ne rfl hk (fun c1 hk => ?_) (fun c1 hk => ?_)
  · refine Ev.s (ins := .aload_n 0) (pc' := 16) rfl rfl ?_
    refine gf_34_4 rfl ?_
    refine Ev.s (ins := .iload_n 1) (pc' := 20) rfl rfl ?_
    refine Ev.s (ins := .aload_n 0) (pc' := 21) rfl rfl ?_
    refine gf_34_16 (ma.2.1 3) rfl rfl ?_
    refine pt_43 rfl (Nat.le_of_ble_eq_true rfl) ?_
    exact e_Form_addArgument_34_27 hk
  · exact e_Form_addArgument_34_27 hk
set_option maxRecDepth 100000 in
theorem e_Form_addArgument_34 {v1 : Int32} {v2 : Int32} {v3 : Int32} : Ev mmPT tbX3_addArgument 0 [some (.ref 34), some (.int v1), some (.int v2), some (.int v3), none] [] (mh sc rest to fl ma tr mk cn nu de ru la tb tf ph cs) ((fun r : Ob => (none, mh sc rest to fl r tr mk cn nu de ru la tb tf ph cs)) (Form_addArgument ma v1 v2 v3)) := e_Form_addArgument_34_0 (by exact rfl)
set_option maxRecDepth 100000 in
theorem e_Maker_give_88_34_0 {v2 : Int32} {v3 : Int32} {v4 : Int32} {x : Option Value × List mmC} (hk : (kO (fun r : Ob => (none, mh sc rest to fl r tr mk cn nu de ru la tb tf ph cs)) x) (Maker_give ma mk v2 v3 v4)) : Ev mmPT tbX5_give 0 [some (.ref 88), some (.ref 34), some (.int v2), some (.int v3), some (.int v4)] [] (mh sc rest to fl ma tr mk cn nu de ru la tb tf ph cs) x := by
  unfold Maker_give at hk
  refine Ev.s (ins := .aload_n 1) (pc' := 1) rfl rfl ?_
  refine Ev.s (ins := .iload_n 2) (pc' := 2) rfl rfl ?_
  refine Ev.s (ins := .aload_n 0) (pc' := 3) rfl rfl ?_
  refine Ev.s (ins := .iload_n 3) (pc' := 4) rfl rfl ?_
  refine Ev.s (ins := .iload 4) (pc' := 6) rfl rfl ?_
  refine kc_X5_valueFor_0 rfl oi_88 rfl (Nat.le_of_ble_eq_true rfl) (e_Maker_valueFor_88) ?_
  refine Ev.s (ins := .aload_n 0) (pc' := 10) rfl rfl ?_
  refine Ev.s (ins := .iload_n 3) (pc' := 11) rfl rfl ?_
  refine Ev.s (ins := .iload 4) (pc' := 13) rfl rfl ?_
  refine kc_X5_numberFor_0 rfl oi_88 rfl (Nat.le_of_ble_eq_true rfl) (e_Maker_numberFor_88) ?_
  refine kc_X3_addArgument_0 rfl oi_34 rfl (Nat.le_of_ble_eq_true rfl) (e_Form_addArgument_34) ?_
  exact Ev.vret rfl rfl hk
set_option maxRecDepth 100000 in
theorem e_Maker_give_88_34 {v2 : Int32} {v3 : Int32} {v4 : Int32} : Ev mmPT tbX5_give 0 [some (.ref 88), some (.ref 34), some (.int v2), some (.int v3), some (.int v4)] [] (mh sc rest to fl ma tr mk cn nu de ru la tb tf ph cs) ((fun r : Ob => (none, mh sc rest to fl r tr mk cn nu de ru la tb tf ph cs)) (Maker_give ma mk v2 v3 v4)) := e_Maker_give_88_34_0 (by exact rfl)
set_option maxRecDepth 100000 in
theorem e_Maker_followLines_88_2_34_183 {v3 : Int32} {v4 : Int32} {v5 : Int32} {x : Option Value × List mmC} (b16 : v5 < 2147483647) (hk : (kK (fun a : Int32 × Int32 × Ob × Ob => mu a.2.1) (mu v5) (fun a : Int32 × Int32 × Ob × Ob => Ev mmPT tbX5_followLines 16 [some (.ref 88), some (.ref 2), some (.ref 34), some (.int v3), some (.int a.1), some (.int a.2.1), none, none, none, none] [] (mh sc rest to fl a.2.2.1 tr a.2.2.2 cn nu de ru la tb tf ph cs) x) (kO (fun r : Ob × Ob => (none, mh sc rest to fl r.1 tr r.2 cn nu de ru la tb tf ph cs)) x)) (Maker_followLines_183 to ma mk v3 v4 v5)) : Ev mmPT tbX5_followLines 183 [some (.ref 88), some (.ref 2), some (.ref 34), some (.int v3), some (.int v4), some (.int v5), none, none, none, none] [] (mh sc rest to fl ma tr mk cn nu de ru la tb tf ph cs) x := by
  unfold Maker_followLines_183 at hk
  refine q_inc 1 [some (.ref 88), some (.ref 2), some (.ref 34), some (.int v3), some (.int v4), some (.int (v5 + 1)), none, none, none, none] rfl rfl rfl rfl ?_
  refine Ev.goto rfl ?_
  replace hk := kK_l hk
  exact hk (mu_lt b16)
set_option maxRecDepth 100000 in
theorem e_Maker_followLines_88_2_34_122 {v3 : Int32} {v4 : Int32} {v5 : Int32} {v6 : Int32} {v7 : Int32} {v8 : Int32} {v9 : Int32} {x : Option Value × List mmC} (b16 : v5 < 2147483647) (hk : (kK (fun a : Int32 × Int32 × Ob × Ob => mu a.2.1) (mu v5) (fun a : Int32 × Int32 × Ob × Ob => Ev mmPT tbX5_followLines 16 [some (.ref 88), some (.ref 2), some (.ref 34), some (.int v3), some (.int a.1), some (.int a.2.1), none, none, none, none] [] (mh sc rest to fl a.2.2.1 tr a.2.2.2 cn nu de ru la tb tf ph cs) x) (kO (fun r : Ob × Ob => (none, mh sc rest to fl r.1 tr r.2 cn nu de ru la tb tf ph cs)) x)) (Maker_followLines_122 to ma mk v3 v4 v5 v6 v7 v8 v9)) : Ev mmPT tbX5_followLines 122 [some (.ref 88), some (.ref 2), some (.ref 34), some (.int v3), some (.int v4), some (.int v5), some (.int v6), some (.int v7), some (.int v8), some (.int v9)] [] (mh sc rest to fl ma tr mk cn nu de ru la tb tf ph cs) x := by
  unfold Maker_followLines_122 at hk
  refine Ev.s (ins := .iload 7) (pc' := 124) rfl rfl ?_
  refine q_ne rfl hk (fun c1 hk => ?_) (fun c1 hk => ?_)
  · refine Ev.s (ins := .aload_n 0) (pc' := 128) rfl rfl ?_
    refine Ev.s (ins := .iload_n 3) (pc' := 129) rfl rfl ?_
    refine Ev.s (ins := .aload_n 1) (pc' := 130) rfl rfl ?_
    refine gf_2_2 rfl ?_
    refine Ev.s (ins := .iload 6) (pc' := 135) rfl rfl ?_
    refine at_7 (oat to 2 80 v6) rfl (Nat.le_of_ble_eq_true rfl) rfl ?_
    refine Ev.s (ins := .aload_n 0) (pc' := 139) rfl rfl ?_
    refine Ev.s (ins := .iload_n 3) (pc' := 140) rfl rfl ?_
    refine Ev.s (ins := .iload 8) (pc' := 142) rfl rfl ?_
    refine kc_X5_valueFor_0 rfl oi_88 rfl (Nat.le_of_ble_eq_true rfl) (e_Maker_valueFor_88) ?_
    refine Ev.s (ins := .aload_n 0) (pc' := 146) rfl rfl ?_
    refine Ev.s (ins := .iload_n 3) (pc' := 147) rfl rfl ?_
    refine Ev.s (ins := .iload 8) (pc' := 149) rfl rfl ?_
    refine kc_X5_numberFor_0 rfl oi_88 rfl (Nat.le_of_ble_eq_true rfl) (e_Maker_numberFor_88) ?_
    refine kc_X5_hold_0 rfl oi_88 rfl (Nat.le_of_ble_eq_true rfl) (e_Maker_hold_88) ?_
    refine Ev.goto rfl ?_
    refine Ev.weak [some (.ref 88), some (.ref 2), some (.ref 34), some (.int v3), some (.int v4), some (.int v5), none, none, none, none] ⟨rfl, rfl, rfl, rfl, rfl, rfl, rfl, rfl, rfl, rfl, trivial⟩ ?_
    exact e_Maker_followLines_88_2_34_183 b16 hk
  · refine Ev.s (ins := .iload 7) (pc' := 160) rfl rfl ?_
    refine kc_X11_sets_3 rfl (Nat.le_of_ble_eq_true rfl) (e_Ph_sets) ?_
    refine q_beq rfl hk (fun c2 hk => ?_) (fun c2 hk => ?_)
    · refine Ev.s (ins := .aload_n 0) (pc' := 167) rfl rfl ?_
      refine Ev.s (ins := .iload_n 3) (pc' := 168) rfl rfl ?_
      refine Ev.s (ins := .aload_n 1) (pc' := 169) rfl rfl ?_
      refine gf_2_2 rfl ?_
      refine Ev.s (ins := .iload 6) (pc' := 174) rfl rfl ?_
      refine at_7 (oat to 2 80 v6) rfl (Nat.le_of_ble_eq_true rfl) rfl ?_
      refine Ev.s (ins := .iload 9) (pc' := 179) rfl rfl ?_
      refine q_ic 0 rfl rfl ?_
      refine kc_X5_hold_0 rfl oi_88 rfl (Nat.le_of_ble_eq_true rfl) (e_Maker_hold_88) ?_
      refine Ev.weak [some (.ref 88), some (.ref 2), some (.ref 34), some (.int v3), some (.int v4), some (.int v5), none, none, none, none] ⟨rfl, rfl, rfl, rfl, rfl, rfl, rfl, rfl, rfl, rfl, trivial⟩ ?_
      exact e_Maker_followLines_88_2_34_183 b16 hk
    · refine Ev.weak [some (.ref 88), some (.ref 2), some (.ref 34), some (.int v3), some (.int v4), some (.int v5), none, none, none, none] ⟨rfl, rfl, rfl, rfl, rfl, rfl, rfl, rfl, rfl, rfl, trivial⟩ ?_
      exact e_Maker_followLines_88_2_34_183 b16 hk
set_option maxRecDepth 100000 in
theorem e_Maker_followLines_88_2_34_105 {v3 : Int32} {v4 : Int32} {v5 : Int32} {v6 : Int32} {v7 : Int32} {v8 : Int32} {v9 : Int32} {x : Option Value × List mmC} (b16 : v5 < 2147483647) (hk : (kK (fun a : Int32 × Int32 × Ob × Ob => mu a.2.1) (mu v5) (fun a : Int32 × Int32 × Ob × Ob => Ev mmPT tbX5_followLines 16 [some (.ref 88), some (.ref 2), some (.ref 34), some (.int v3), some (.int a.1), some (.int a.2.1), none, none, none, none] [] (mh sc rest to fl a.2.2.1 tr a.2.2.2 cn nu de ru la tb tf ph cs) x) (kO (fun r : Ob × Ob => (none, mh sc rest to fl r.1 tr r.2 cn nu de ru la tb tf ph cs)) x)) (Maker_followLines_105 to ma mk v3 v4 v5 v6 v7 v8 v9)) : Ev mmPT tbX5_followLines 105 [some (.ref 88), some (.ref 2), some (.ref 34), some (.int v3), some (.int v4), some (.int v5), some (.int v6), some (.int v7), some (.int v8), some (.int v9)] [] (mh sc rest to fl ma tr mk cn nu de ru la tb tf ph cs) x := by
  unfold Maker_followLines_105 at hk
  refine Ev.s (ins := .aload_n 0) (pc' := 106) rfl rfl ?_
  refine Ev.s (ins := .aload_n 2) (pc' := 107) rfl rfl ?_
  refine Ev.s (ins := .iload 9) (pc' := 109) rfl rfl ?_
  refine Ev.s (ins := .iload_n 3) (pc' := 110) rfl rfl ?_
  refine Ev.s (ins := .aload_n 1) (pc' := 111) rfl rfl ?_
  refine gf_2_4 rfl ?_
  refine Ev.s (ins := .iload 6) (pc' := 116) rfl rfl ?_
  refine at_11 (oat to 4 80 v6) rfl (Nat.le_of_ble_eq_true rfl) rfl ?_
  refine kc_X5_give_0 rfl oi_88 rfl (Nat.le_of_ble_eq_true rfl) (e_Maker_give_88_34) ?_
  exact e_Maker_followLines_88_2_34_122 b16 hk
set_option maxRecDepth 100000 in
theorem e_Maker_followLines_88_2_34_L16b {v3 : Int32} {v4 : Int32} {v5 : Int32} {x : Option Value × List mmC} (hk : (kK (fun a : Int32 × Int32 × Ob × Ob => mu a.2.1) (mu v5) (fun a : Int32 × Int32 × Ob × Ob => Ev mmPT tbX5_followLines 16 [some (.ref 88), some (.ref 2), some (.ref 34), some (.int v3), some (.int a.1), some (.int a.2.1), none, none, none, none] [] (mh sc rest to fl a.2.2.1 tr a.2.2.2 cn nu de ru la tb tf ph cs) x) (kO (fun r : Ob × Ob => (none, mh sc rest to fl r.1 tr r.2 cn nu de ru la tb tf ph cs)) x)) (Maker_followLines_L16b to ma mk v3 v4 v5)) : Ev mmPT tbX5_followLines 16 [some (.ref 88), some (.ref 2), some (.ref 34), some (.int v3), some (.int v4), some (.int v5), none, none, none, none] [] (mh sc rest to fl ma tr mk cn nu de ru la tb tf ph cs) x := by
  unfold Maker_followLines_L16b at hk
  refine Ev.s (ins := .iload 5) (pc' := 18) rfl rfl ?_
  refine Ev.s (ins := .aload_n 1) (pc' := 19) rfl rfl ?_
  refine gf_2_0 rfl ?_
  refine Ev.s (ins := .iload_n 3) (pc' := 23) rfl rfl ?_
  refine at_3 (oat to 0 10 v3) rfl (Nat.le_of_ble_eq_true rfl) rfl ?_
  refine q_cge rfl hk (fun c1 hk => ?_) (fun c1 hk => ?_)
  · refine Ev.s (ins := .iload_n 3) (pc' := 30) rfl rfl ?_
    refine q_bi 8 rfl rfl ?_
    refine Ev.s (ins := .imul) (pc' := 33) rfl rfl ?_
    refine Ev.s (ins := .iload 5) (pc' := 35) rfl rfl ?_
    refine Ev.s (ins := .iadd) (pc' := 36) rfl rfl ?_
    refine Ev.s (ins := .istore 6) (pc' := 38) (lv' := [some (.ref 88), some (.ref 2), some (.ref 34), some (.int v3), some (.int v4), some (.int v5), some (.int ((v3 * 8) + v5)), none, none, none]) rfl rfl ?_
    refine Ev.s (ins := .aload_n 1) (pc' := 39) rfl rfl ?_
    refine gf_2_1 rfl ?_
    refine Ev.s (ins := .iload 6) (pc' := 44) rfl rfl ?_
    refine at_5 (oat to 1 80 ((v3 * 8) + v5)) rfl (Nat.le_of_ble_eq_true rfl) rfl ?_
    refine Ev.s (ins := .istore 7) (pc' := 49) (lv' := [some (.ref 88), some (.ref 2), some (.ref 34), some (.int v3), some (.int v4), some (.int v5), some (.int ((v3 * 8) + v5)), some (.int (oat to 1 80 ((v3 * 8) + v5))), none, none]) rfl rfl ?_
    refine Ev.s (ins := .aload_n 1) (pc' := 50) rfl rfl ?_
    refine gf_2_3 rfl ?_
    refine Ev.s (ins := .iload 6) (pc' := 55) rfl rfl ?_
    refine at_9 (oat to 3 80 ((v3 * 8) + v5)) rfl (Nat.le_of_ble_eq_true rfl) rfl ?_
    refine Ev.s (ins := .istore 8) (pc' := 60) (lv' := [some (.ref 88), some (.ref 2), some (.ref 34), some (.int v3), some (.int v4), some (.int v5), some (.int ((v3 * 8) + v5)), some (.int (oat to 1 80 ((v3 * 8) + v5))), some (.int (oat to 3 80 ((v3 * 8) + v5))), none]) rfl rfl ?_
    refine q_ic (-1) rfl rfl ?_
    refine Ev.s (ins := .istore 9) (pc' := 63) (lv' := [some (.ref 88), some (.ref 2), some (.ref 34), some (.int v3), some (.int v4), some (.int v5), some (.int ((v3 * 8) + v5)), some (.int (oat to 1 80 ((v3 * 8) + v5))), some (.int (oat to 3 80 ((v3 * 8) + v5))), some (.int (-1))]) rfl rfl ?_
    refine Ev.s (ins := .iload 7) (pc' := 65) rfl rfl ?_
    refine q_eq rfl hk (fun c2 hk => ?_) (fun c2 hk => ?_)
    · exact e_Maker_followLines_88_2_34_122 (lt31 c1) hk
    · refine Ev.s (ins := .aload_n 2) (pc' := 69) rfl rfl ?_
      refine Ev.s (ins := .iload_n 3) (pc' := 70) rfl rfl ?_
      refine Ev.s (ins := .iload 4) (pc' := 72) rfl rfl ?_
      refine kc_X3_valueIn_0 rfl oi_34 rfl (Nat.le_of_ble_eq_true rfl) (e_Form_valueIn_34) ?_
      refine Ev.s (ins := .istore 9) (pc' := 77) (lv' := [some (.ref 88), some (.ref 2), some (.ref 34), some (.int v3), some (.int v4), some (.int v5), some (.int ((v3 * 8) + v5)), some (.int (oat to 1 80 ((v3 * 8) + v5))), some (.int (oat to 3 80 ((v3 * 8) + v5))), some (.int (Form_valueIn ma v3 v4))]) rfl rfl ?_
      refine q_inc 1 [some (.ref 88), some (.ref 2), some (.ref 34), some (.int v3), some (.int (v4 + 1)), some (.int v5), some (.int ((v3 * 8) + v5)), some (.int (oat to 1 80 ((v3 * 8) + v5))), some (.int (oat to 3 80 ((v3 * 8) + v5))), some (.int (Form_valueIn ma v3 v4))] rfl rfl rfl rfl ?_
      refine Ev.s (ins := .aload_n 0) (pc' := 81) rfl rfl ?_
      refine Ev.s (ins := .aload_n 2) (pc' := 82) rfl rfl ?_
      refine Ev.s (ins := .iload 9) (pc' := 84) rfl rfl ?_
      refine Ev.s (ins := .iload_n 3) (pc' := 85) rfl rfl ?_
      refine Ev.s (ins := .iload 8) (pc' := 87) rfl rfl ?_
      refine kc_X5_give_0 rfl oi_88 rfl (Nat.le_of_ble_eq_true rfl) (e_Maker_give_88_34) ?_
      refine Ev.s (ins := .iload 7) (pc' := 92) rfl rfl ?_
      refine kc_X11_isReckoning_3 rfl (Nat.le_of_ble_eq_true rfl) (e_Ph_isReckoning) ?_
      refine q_bne rfl hk (fun c3 hk => ?_) (fun c3 hk => ?_)
      · exact e_Maker_followLines_88_2_34_105 (lt31 c1) hk
      · refine Ev.s (ins := .iload 7) (pc' := 100) rfl rfl ?_
        refine q_bi 7 rfl rfl ?_
        refine q_cne rfl hk (fun c4 hk => ?_) (fun c4 hk => ?_)
        · exact e_Maker_followLines_88_2_34_105 (lt31 c1) hk
        · exact e_Maker_followLines_88_2_34_122 (lt31 c1) hk
  · replace hk := kK_r hk
    refine Ev.s (ins := .aload_n 1) (pc' := 190) rfl rfl ?_
    refine gf_2_5 rfl ?_
    refine Ev.s (ins := .iload_n 3) (pc' := 194) rfl rfl ?_
    refine at_13 (oat to 5 10 v3) rfl (Nat.le_of_ble_eq_true rfl) rfl ?_
    refine q_ic 1 rfl rfl ?_
    refine q_ceq rfl hk (fun c2 hk => ?_) (fun c2 hk => ?_)
    · exact Ev.vret rfl rfl hk
    · refine Ev.s (ins := .aload_n 0) (pc' := 202) rfl rfl ?_
      refine Ev.s (ins := .aload_n 2) (pc' := 203) rfl rfl ?_
      refine q_si 140 rfl rfl ?_
      refine Ev.s (ins := .iload_n 3) (pc' := 207) rfl rfl ?_
      refine Ev.s (ins := .iadd) (pc' := 208) rfl rfl ?_
      refine Ev.s (ins := .iload_n 3) (pc' := 209) rfl rfl ?_
      refine Ev.s (ins := .aload_n 1) (pc' := 210) rfl rfl ?_
      refine gf_2_6 rfl ?_
      refine Ev.s (ins := .iload_n 3) (pc' := 214) rfl rfl ?_
      refine at_15 (oat to 6 10 v3) rfl (Nat.le_of_ble_eq_true rfl) rfl ?_
      refine kc_X5_give_0 rfl oi_88 rfl (Nat.le_of_ble_eq_true rfl) (e_Maker_give_88_34) ?_
      exact Ev.vret rfl rfl hk
set_option maxRecDepth 100000 in
theorem e_Maker_followLines_88_2_34_L16 {v3 : Int32} {v4 : Int32} {v5 : Int32} {x : Option Value × List mmC} (hk : (kO (fun r : Ob × Ob => (none, mh sc rest to fl r.1 tr r.2 cn nu de ru la tb tf ph cs)) x) (Maker_followLines_L16 to ma mk v3 v4 v5)) : Ev mmPT tbX5_followLines 16 [some (.ref 88), some (.ref 2), some (.ref 34), some (.int v3), some (.int v4), some (.int v5), none, none, none, none] [] (mh sc rest to fl ma tr mk cn nu de ru la tb tf ph cs) x :=
  k_loop (B := (fun a : Int32 × Int32 × Ob × Ob => Maker_followLines_L16b to a.2.2.1 a.2.2.2 v3 a.1 a.2.1)) (μ := fun a : Int32 × Int32 × Ob × Ob => mu a.2.1) (E := fun a : Int32 × Int32 × Ob × Ob => Ev mmPT tbX5_followLines 16 [some (.ref 88), some (.ref 2), some (.ref 34), some (.int v3), some (.int a.1), some (.int a.2.1), none, none, none, none] [] (mh sc rest to fl a.2.2.1 tr a.2.2.2 cn nu de ru la tb tf ph cs) x) (X := (kO (fun r : Ob × Ob => (none, mh sc rest to fl r.1 tr r.2 cn nu de ru la tb tf ph cs)) x)) (fun a hk => e_Maker_followLines_88_2_34_L16b hk) (v4, v5, ma, mk) hk
set_option maxRecDepth 100000 in
theorem e_Maker_followLines_88_2_34_0 {v3 : Int32} {x : Option Value × List mmC} (hk : (kO (fun r : Ob × Ob => (none, mh sc rest to fl r.1 tr r.2 cn nu de ru la tb tf ph cs)) x) (Maker_followLines to ma mk v3)) : Ev mmPT tbX5_followLines 0 [some (.ref 88), some (.ref 2), some (.ref 34), some (.int v3), none, none, none, none, none, none] [] (mh sc rest to fl ma tr mk cn nu de ru la tb tf ph cs) x := by
  unfold Maker_followLines at hk
  refine Ev.s (ins := .aload_n 0) (pc' := 1) rfl rfl ?_
  refine gf_88_2 rfl ?_
  refine Ev.s (ins := .iload_n 3) (pc' := 5) rfl rfl ?_
  refine at_93 (oat mk 2 10 v3) rfl (Nat.le_of_ble_eq_true rfl) rfl ?_
  refine kc_J6_bitCount_0f7a4_2 rfl (Nat.le_of_ble_eq_true rfl) (e_J_bitCount) ?_
  refine Ev.s (ins := .istore 4) (pc' := 13) (lv' := [some (.ref 88), some (.ref 2), some (.ref 34), some (.int v3), some (.int (J_bitCount (oat mk 2 10 v3))), none, none, none, none, none]) rfl rfl ?_
  refine q_ic 0 rfl rfl ?_
  refine Ev.s (ins := .istore 5) (pc' := 16) (lv' := [some (.ref 88), some (.ref 2), some (.ref 34), some (.int v3), some (.int (J_bitCount (oat mk 2 10 v3))), some (.int 0), none, none, none, none]) rfl rfl ?_
  exact e_Maker_followLines_88_2_34_L16 hk
set_option maxRecDepth 100000 in
theorem e_Maker_followLines_88_2_34 {v3 : Int32} : Ev mmPT tbX5_followLines 0 [some (.ref 88), some (.ref 2), some (.ref 34), some (.int v3), none, none, none, none, none, none] [] (mh sc rest to fl ma tr mk cn nu de ru la tb tf ph cs) ((fun r : Ob × Ob => (none, mh sc rest to fl r.1 tr r.2 cn nu de ru la tb tf ph cs)) (Maker_followLines to ma mk v3)) := e_Maker_followLines_88_2_34_0 (by exact rfl)
set_option maxRecDepth 100000 in
theorem e_Form_wayTo_34_0 {v1 : Int32} {v2 : Int32} {x : Option Value × List mmC} (hk : (kO (fun r : Int32 => (some (.int r), mh sc rest to fl ma tr mk cn nu de ru la tb tf ph cs)) x) (Form_wayTo ma v1 v2)) : Ev mmPT tbX3_wayTo 0 [some (.ref 34), some (.int v1), some (.int v2)] [] (mh sc rest to fl ma tr mk cn nu de ru la tb tf ph cs) x := by
  unfold Form_wayTo at hk
  refine Ev.s (ins := .aload_n 0) (pc' := 1) rfl rfl ?_
  refine gf_34_10 rfl ?_
  refine Ev.s (ins := .iload_n 1) (pc' := 5) rfl rfl ?_
  refine q_bi 20 rfl rfl ?_
  refine Ev.s (ins := .imul) (pc' := 8) rfl rfl ?_
  refine Ev.s (ins := .iload_n 2) (pc' := 9) rfl rfl ?_
  refine Ev.s (ins := .iadd) (pc' := 10) rfl rfl ?_
  refine at_55 (oat ma 10 200 ((v1 * 20) + v2)) rfl (Nat.le_of_ble_eq_true rfl) rfl ?_
  exact Ev.iret rfl rfl hk
set_option maxRecDepth 100000 in
theorem e_Form_wayTo_34 {v1 : Int32} {v2 : Int32} : Ev mmPT tbX3_wayTo 0 [some (.ref 34), some (.int v1), some (.int v2)] [] (mh sc rest to fl ma tr mk cn nu de ru la tb tf ph cs) ((fun r : Int32 => (some (.int r), mh sc rest to fl ma tr mk cn nu de ru la tb tf ph cs)) (Form_wayTo ma v1 v2)) := e_Form_wayTo_34_0 (by exact rfl)
set_option maxRecDepth 100000 in
theorem e_Ph_fromOf_0 {v0 : Int32} {x : Option Value × List mmC} (hk : (kO (fun r : Int32 => (some (.int r), mh sc rest to fl ma tr mk cn nu de ru la tb tf ph cs)) x) (Ph_fromOf v0)) : Ev mmPT tbX11_fromOf 0 [some (.int v0)] [] (mh sc rest to fl ma tr mk cn nu de ru la tb tf ph cs) x := by
  unfold Ph_fromOf at hk
  refine Ev.s (ins := .iload_n 0) (pc' := 1) rfl rfl ?_
  refine q_ge rfl hk (fun c1 hk => ?_) (fun c1 hk => ?_)
  · refine q_ic (-1) rfl rfl ?_
    refine Ev.goto rfl ?_
    exact Ev.iret rfl rfl hk
  · refine Ev.s (ins := .iload_n 0) (pc' := 9) rfl rfl ?_
    refine q_ic 2 rfl rfl ?_
    refine q_div rfl (by decide) ?_
    exact Ev.iret rfl rfl hk
set_option maxRecDepth 100000 in
theorem e_Ph_fromOf {v0 : Int32} : Ev mmPT tbX11_fromOf 0 [some (.int v0)] [] (mh sc rest to fl ma tr mk cn nu de ru la tb tf ph cs) ((fun r : Int32 => (some (.int r), mh sc rest to fl ma tr mk cn nu de ru la tb tf ph cs)) (Ph_fromOf v0)) := e_Ph_fromOf_0 (by exact rfl)
set_option maxRecDepth 100000 in
theorem e_Maker_givePhi_88_34_L12b {v2 : Int32} {v3 : Int32} {v4 : Int32} {x : Option Value × List mmC} (hk : (kK (fun a : Int32 × Ob => mu a.1) (mu v4) (fun a : Int32 × Ob => Ev mmPT tbX5_givePhi 12 [some (.ref 88), some (.ref 34), some (.int v2), some (.int v3), some (.int a.1), none] [] (mh sc rest to fl a.2 tr mk cn nu de ru la tb tf ph cs) x) (kO (fun r : Ob => (none, mh sc rest to fl r tr mk cn nu de ru la tb tf ph cs)) x)) (Maker_givePhi_L12b ma mk v2 v3 v4)) : Ev mmPT tbX5_givePhi 12 [some (.ref 88), some (.ref 34), some (.int v2), some (.int v3), some (.int v4), none] [] (mh sc rest to fl ma tr mk cn nu de ru la tb tf ph cs) x := by
  unfold Maker_givePhi_L12b at hk
  refine Ev.s (ins := .iload 4) (pc' := 14) rfl rfl ?_
  refine Ev.s (ins := .aload_n 1) (pc' := 15) rfl rfl ?_
  refine gf_34_9 rfl ?_
  refine Ev.s (ins := .iload_n 3) (pc' := 19) rfl rfl ?_
  refine at_53 (oat ma 9 10 v3) rfl (Nat.le_of_ble_eq_true rfl) rfl ?_
  refine q_cge rfl hk (fun c1 hk => ?_) (fun c1 hk => ?_)
  · refine Ev.s (ins := .aload_n 1) (pc' := 26) rfl rfl ?_
    refine Ev.s (ins := .iload_n 3) (pc' := 27) rfl rfl ?_
    refine Ev.s (ins := .iload 4) (pc' := 29) rfl rfl ?_
    refine kc_X3_wayTo_0 rfl oi_34 rfl (Nat.le_of_ble_eq_true rfl) (e_Form_wayTo_34) ?_
    refine kc_X11_fromOf_3 rfl (Nat.le_of_ble_eq_true rfl) (e_Ph_fromOf) ?_
    refine q_bi 6 rfl rfl ?_
    refine Ev.s (ins := .imul) (pc' := 38) rfl rfl ?_
    refine Ev.s (ins := .aload_n 1) (pc' := 39) rfl rfl ?_
    refine gf_34_2 rfl ?_
    refine Ev.s (ins := .iload_n 2) (pc' := 43) rfl rfl ?_
    refine at_39 (oat ma 2 140 v2) rfl (Nat.le_of_ble_eq_true rfl) rfl ?_
    refine Ev.s (ins := .iadd) (pc' := 47) rfl rfl ?_
    refine Ev.s (ins := .istore 5) (pc' := 49) (lv' := [some (.ref 88), some (.ref 34), some (.int v2), some (.int v3), some (.int v4), some (.int (((Ph_fromOf (Form_wayTo ma v3 v4)) * 6) + (oat ma 2 140 v2)))]) rfl rfl ?_
    refine Ev.s (ins := .aload_n 1) (pc' := 50) rfl rfl ?_
    refine Ev.s (ins := .iload_n 2) (pc' := 51) rfl rfl ?_
    refine Ev.s (ins := .aload_n 0) (pc' := 52) rfl rfl ?_
    refine gf_88_0 rfl ?_
    refine Ev.s (ins := .iload 5) (pc' := 57) rfl rfl ?_
    refine at_89 (oat mk 0 60 (((Ph_fromOf (Form_wayTo ma v3 v4)) * 6) + (oat ma 2 140 v2))) rfl (Nat.le_of_ble_eq_true rfl) rfl ?_
    refine Ev.s (ins := .aload_n 0) (pc' := 61) rfl rfl ?_
    refine gf_88_1 rfl ?_
    refine Ev.s (ins := .iload 5) (pc' := 66) rfl rfl ?_
    refine at_91 (oat mk 1 60 (((Ph_fromOf (Form_wayTo ma v3 v4)) * 6) + (oat ma 2 140 v2))) rfl (Nat.le_of_ble_eq_true rfl) rfl ?_
    refine kc_X3_addArgument_0 rfl oi_34 rfl (Nat.le_of_ble_eq_true rfl) (e_Form_addArgument_34) ?_
    refine q_inc 1 [some (.ref 88), some (.ref 34), some (.int v2), some (.int v3), some (.int (v4 + 1)), some (.int (((Ph_fromOf (Form_wayTo ma v3 v4)) * 6) + (oat ma 2 140 v2)))] rfl rfl rfl rfl ?_
    refine Ev.goto rfl ?_
    refine Ev.weak [some (.ref 88), some (.ref 34), some (.int v2), some (.int v3), some (.int (v4 + 1)), none] ⟨rfl, rfl, rfl, rfl, rfl, rfl, trivial⟩ ?_
    replace hk := kK_l hk
    exact hk (mu_lt (lt31 c1))
  · replace hk := kK_r hk
    exact Ev.vret rfl rfl hk
set_option maxRecDepth 100000 in
theorem e_Maker_givePhi_88_34_L12 {v2 : Int32} {v3 : Int32} {v4 : Int32} {x : Option Value × List mmC} (hk : (kO (fun r : Ob => (none, mh sc rest to fl r tr mk cn nu de ru la tb tf ph cs)) x) (Maker_givePhi_L12 ma mk v2 v3 v4)) : Ev mmPT tbX5_givePhi 12 [some (.ref 88), some (.ref 34), some (.int v2), some (.int v3), some (.int v4), none] [] (mh sc rest to fl ma tr mk cn nu de ru la tb tf ph cs) x :=
  k_loop (B := (fun a : Int32 × Ob => Maker_givePhi_L12b a.2 mk v2 v3 a.1)) (μ := fun a : Int32 × Ob => mu a.1) (E := fun a : Int32 × Ob => Ev mmPT tbX5_givePhi 12 [some (.ref 88), some (.ref 34), some (.int v2), some (.int v3), some (.int a.1), none] [] (mh sc rest to fl a.2 tr mk cn nu de ru la tb tf ph cs) x) (X := (kO (fun r : Ob => (none, mh sc rest to fl r tr mk cn nu de ru la tb tf ph cs)) x)) (fun a hk => e_Maker_givePhi_88_34_L12b hk) (v4, ma) hk
set_option maxRecDepth 100000 in
theorem e_Maker_givePhi_88_34_0 {v2 : Int32} {x : Option Value × List mmC} (hk : (kO (fun r : Ob => (none, mh sc rest to fl r tr mk cn nu de ru la tb tf ph cs)) x) (Maker_givePhi ma mk v2)) : Ev mmPT tbX5_givePhi 0 [some (.ref 88), some (.ref 34), some (.int v2), none, none, none] [] (mh sc rest to fl ma tr mk cn nu de ru la tb tf ph cs) x := by
  unfold Maker_givePhi at hk
  refine Ev.s (ins := .aload_n 1) (pc' := 1) rfl rfl ?_
  refine gf_34_1 rfl ?_
  refine Ev.s (ins := .iload_n 2) (pc' := 5) rfl rfl ?_
  refine at_37 (oat ma 1 140 v2) rfl (Nat.le_of_ble_eq_true rfl) rfl ?_
  refine Ev.s (ins := .istore_n 3) (pc' := 9) (lv' := [some (.ref 88), some (.ref 34), some (.int v2), some (.int (oat ma 1 140 v2)), none, none]) rfl rfl ?_
  refine q_ic 0 rfl rfl ?_
  refine Ev.s (ins := .istore 4) (pc' := 12) (lv' := [some (.ref 88), some (.ref 34), some (.int v2), some (.int (oat ma 1 140 v2)), some (.int 0), none]) rfl rfl ?_
  exact e_Maker_givePhi_88_34_L12 hk
set_option maxRecDepth 100000 in
theorem e_Maker_givePhi_88_34 {v2 : Int32} : Ev mmPT tbX5_givePhi 0 [some (.ref 88), some (.ref 34), some (.int v2), none, none, none] [] (mh sc rest to fl ma tr mk cn nu de ru la tb tf ph cs) ((fun r : Ob => (none, mh sc rest to fl r tr mk cn nu de ru la tb tf ph cs)) (Maker_givePhi ma mk v2)) := e_Maker_givePhi_88_34_0 (by exact rfl)
set_option maxRecDepth 100000 in
theorem e_Maker_givePhisTheirs_88_34_29 {v2 : Int32} {x : Option Value × List mmC} (b2 : v2 < 2147483647) (hk : (kK (fun a : Int32 × Ob => mu a.1) (mu v2) (fun a : Int32 × Ob => Ev mmPT tbX5_givePhisTheirs 2 [some (.ref 88), some (.ref 34), some (.int a.1)] [] (mh sc rest to fl a.2 tr mk cn nu de ru la tb tf ph cs) x) (kO (fun r : Ob => (none, mh sc rest to fl r tr mk cn nu de ru la tb tf ph cs)) x)) (Maker_givePhisTheirs_29 ma mk v2)) : Ev mmPT tbX5_givePhisTheirs 29 [some (.ref 88), some (.ref 34), some (.int v2)] [] (mh sc rest to fl ma tr mk cn nu de ru la tb tf ph cs) x := by
  unfold Maker_givePhisTheirs_29 at hk
  refine q_inc 1 [some (.ref 88), some (.ref 34), some (.int (v2 + 1))] rfl rfl rfl rfl ?_
  refine Ev.goto rfl ?_
  replace hk := kK_l hk
  exact hk (mu_lt b2)
set_option maxRecDepth 100000 in
theorem e_Maker_givePhisTheirs_88_34_L2b {v2 : Int32} {x : Option Value × List mmC} (hk : (kK (fun a : Int32 × Ob => mu a.1) (mu v2) (fun a : Int32 × Ob => Ev mmPT tbX5_givePhisTheirs 2 [some (.ref 88), some (.ref 34), some (.int a.1)] [] (mh sc rest to fl a.2 tr mk cn nu de ru la tb tf ph cs) x) (kO (fun r : Ob => (none, mh sc rest to fl r tr mk cn nu de ru la tb tf ph cs)) x)) (Maker_givePhisTheirs_L2b ma mk v2)) : Ev mmPT tbX5_givePhisTheirs 2 [some (.ref 88), some (.ref 34), some (.int v2)] [] (mh sc rest to fl ma tr mk cn nu de ru la tb tf ph cs) x := by
  unfold Maker_givePhisTheirs_L2b at hk
  refine Ev.s (ins := .iload_n 2) (pc' := 3) rfl rfl ?_
  refine Ev.s (ins := .aload_n 1) (pc' := 4) rfl rfl ?_
  refine gf_34_15 (ma.2.1 2) rfl rfl ?_
  refine q_cge rfl hk (fun c1 hk => ?_) (fun c1 hk => ?_)
  · refine Ev.s (ins := .aload_n 1) (pc' := 11) rfl rfl ?_
    refine gf_34_0 rfl ?_
    refine Ev.s (ins := .iload_n 2) (pc' := 15) rfl rfl ?_
    refine at_35 (oat ma 0 140 v2) rfl (Nat.le_of_ble_eq_true rfl) rfl ?_
    refine q_bi 9 rfl rfl ?_
    refine q_cne rfl hk (fun c2 hk => ?_) (fun c2 hk => ?_)
    · refine Ev.s (ins := .aload_n 0) (pc' := 24) rfl rfl ?_
      refine Ev.s (ins := .aload_n 1) (pc' := 25) rfl rfl ?_
      refine Ev.s (ins := .iload_n 2) (pc' := 26) rfl rfl ?_
      refine kc_X5_givePhi_0 rfl oi_88 rfl (Nat.le_of_ble_eq_true rfl) (e_Maker_givePhi_88_34) ?_
      exact e_Maker_givePhisTheirs_88_34_29 (lt31 c1) hk
    · exact e_Maker_givePhisTheirs_88_34_29 (lt31 c1) hk
  · replace hk := kK_r hk
    exact Ev.vret rfl rfl hk
set_option maxRecDepth 100000 in
theorem e_Maker_givePhisTheirs_88_34_L2 {v2 : Int32} {x : Option Value × List mmC} (hk : (kO (fun r : Ob => (none, mh sc rest to fl r tr mk cn nu de ru la tb tf ph cs)) x) (Maker_givePhisTheirs_L2 ma mk v2)) : Ev mmPT tbX5_givePhisTheirs 2 [some (.ref 88), some (.ref 34), some (.int v2)] [] (mh sc rest to fl ma tr mk cn nu de ru la tb tf ph cs) x :=
  k_loop (B := (fun a : Int32 × Ob => Maker_givePhisTheirs_L2b a.2 mk a.1)) (μ := fun a : Int32 × Ob => mu a.1) (E := fun a : Int32 × Ob => Ev mmPT tbX5_givePhisTheirs 2 [some (.ref 88), some (.ref 34), some (.int a.1)] [] (mh sc rest to fl a.2 tr mk cn nu de ru la tb tf ph cs) x) (X := (kO (fun r : Ob => (none, mh sc rest to fl r tr mk cn nu de ru la tb tf ph cs)) x)) (fun a hk => e_Maker_givePhisTheirs_88_34_L2b hk) (v2, ma) hk
set_option maxRecDepth 100000 in
theorem e_Maker_givePhisTheirs_88_34_0 {x : Option Value × List mmC} (hk : (kO (fun r : Ob => (none, mh sc rest to fl r tr mk cn nu de ru la tb tf ph cs)) x) (Maker_givePhisTheirs ma mk)) : Ev mmPT tbX5_givePhisTheirs 0 [some (.ref 88), some (.ref 34), none] [] (mh sc rest to fl ma tr mk cn nu de ru la tb tf ph cs) x := by
  unfold Maker_givePhisTheirs at hk
  refine q_ic 0 rfl rfl ?_
  refine Ev.s (ins := .istore_n 2) (pc' := 2) (lv' := [some (.ref 88), some (.ref 34), some (.int 0)]) rfl rfl ?_
  exact e_Maker_givePhisTheirs_88_34_L2 hk
set_option maxRecDepth 100000 in
theorem e_Maker_givePhisTheirs_88_34 : Ev mmPT tbX5_givePhisTheirs 0 [some (.ref 88), some (.ref 34), none] [] (mh sc rest to fl ma tr mk cn nu de ru la tb tf ph cs) ((fun r : Ob => (none, mh sc rest to fl r tr mk cn nu de ru la tb tf ph cs)) (Maker_givePhisTheirs ma mk)) := e_Maker_givePhisTheirs_88_34_0 (by exact rfl)
set_option maxRecDepth 100000 in
theorem e_Maker_make_88_2_34_55 {v3 : Int32} {x : Option Value × List mmC} (b22 : v3 < 2147483647) (hk : (kK (fun a : Int32 × Ob => mu a.1) (mu v3) (fun a : Int32 × Ob => Ev mmPT tbX5_make 22 [some (.ref 88), some (.ref 2), some (.ref 34), some (.int a.1), none] [] (mh sc rest to fl a.2 tr mk cn nu de ru la tb tf ph cs) x) (kO (fun r : Ob × Ob => (none, mh sc rest to fl r.1 tr r.2 cn nu de ru la tb tf ph cs)) x)) (Maker_make_55 to fl ma mk v3)) : Ev mmPT tbX5_make 55 [some (.ref 88), some (.ref 2), some (.ref 34), some (.int v3), none] [] (mh sc rest to fl ma tr mk cn nu de ru la tb tf ph cs) x := by
  unfold Maker_make_55 at hk
  refine q_inc 1 [some (.ref 88), some (.ref 2), some (.ref 34), some (.int (v3 + 1)), none] rfl rfl rfl rfl ?_
  refine Ev.goto rfl ?_
  replace hk := kK_l hk
  exact hk (mu_lt b22)
set_option maxRecDepth 100000 in
theorem e_Maker_make_88_2_34_104 {v3 : Int32} {x : Option Value × List mmC} (b63 : v3 < 2147483647) (hk : (kK (fun a : Int32 × Ob × Ob => mu a.1) (mu v3) (fun a : Int32 × Ob × Ob => Ev mmPT tbX5_make 63 [some (.ref 88), some (.ref 2), some (.ref 34), some (.int a.1), none] [] (mh sc rest to fl a.2.1 tr a.2.2 cn nu de ru la tb tf ph cs) x) (kO (fun r : Ob × Ob => (none, mh sc rest to fl r.1 tr r.2 cn nu de ru la tb tf ph cs)) x)) (Maker_make_104 to fl ma mk v3)) : Ev mmPT tbX5_make 104 [some (.ref 88), some (.ref 2), some (.ref 34), some (.int v3), none] [] (mh sc rest to fl ma tr mk cn nu de ru la tb tf ph cs) x := by
  unfold Maker_make_104 at hk
  refine q_inc 1 [some (.ref 88), some (.ref 2), some (.ref 34), some (.int (v3 + 1)), none] rfl rfl rfl rfl ?_
  refine Ev.goto rfl ?_
  replace hk := kK_l hk
  exact hk (mu_lt b63)
set_option maxRecDepth 100000 in
theorem e_Maker_make_88_2_34_L63b {v3 : Int32} {x : Option Value × List mmC} (hk : (kK (fun a : Int32 × Ob × Ob => mu a.1) (mu v3) (fun a : Int32 × Ob × Ob => Ev mmPT tbX5_make 63 [some (.ref 88), some (.ref 2), some (.ref 34), some (.int a.1), none] [] (mh sc rest to fl a.2.1 tr a.2.2 cn nu de ru la tb tf ph cs) x) (kO (fun r : Ob × Ob => (none, mh sc rest to fl r.1 tr r.2 cn nu de ru la tb tf ph cs)) x)) (Maker_make_L63b to fl ma mk v3)) : Ev mmPT tbX5_make 63 [some (.ref 88), some (.ref 2), some (.ref 34), some (.int v3), none] [] (mh sc rest to fl ma tr mk cn nu de ru la tb tf ph cs) x := by
  unfold Maker_make_L63b at hk
  refine Ev.s (ins := .iload_n 3) (pc' := 64) rfl rfl ?_
  refine q_bi 10 rfl rfl ?_
  refine q_cge rfl hk (fun c1 hk => ?_) (fun c1 hk => ?_)
  · refine Ev.s (ins := .aload_n 1) (pc' := 70) rfl rfl ?_
    refine gf_2_11 rfl ?_
    refine gf_25_3 rfl ?_
    refine Ev.s (ins := .iload_n 3) (pc' := 77) rfl rfl ?_
    refine at_32 (oat fl 3 10 v3) rfl (Nat.le_of_ble_eq_true rfl) rfl ?_
    refine Ev.s (ins := .istore 4) (pc' := 82) (lv' := [some (.ref 88), some (.ref 2), some (.ref 34), some (.int v3), some (.int (oat fl 3 10 v3))]) rfl rfl ?_
    refine Ev.s (ins := .iload 4) (pc' := 84) rfl rfl ?_
    refine q_ic (-1) rfl rfl ?_
    refine q_ceq rfl hk (fun c2 hk => ?_) (fun c2 hk => ?_)
    · refine Ev.weak [some (.ref 88), some (.ref 2), some (.ref 34), some (.int v3), none] ⟨rfl, rfl, rfl, rfl, rfl, trivial⟩ ?_
      exact e_Maker_make_88_2_34_104 (lt31 c1) hk
    · refine Ev.s (ins := .aload_n 0) (pc' := 89) rfl rfl ?_
      refine Ev.s (ins := .aload_n 1) (pc' := 90) rfl rfl ?_
      refine Ev.s (ins := .aload_n 2) (pc' := 91) rfl rfl ?_
      refine Ev.s (ins := .iload 4) (pc' := 93) rfl rfl ?_
      refine kc_X5_holdAtBeginning_0 rfl oi_88 rfl (Nat.le_of_ble_eq_true rfl) (e_Maker_holdAtBeginning_88_2_34) ?_
      refine Ev.s (ins := .aload_n 0) (pc' := 97) rfl rfl ?_
      refine Ev.s (ins := .aload_n 1) (pc' := 98) rfl rfl ?_
      refine Ev.s (ins := .aload_n 2) (pc' := 99) rfl rfl ?_
      refine Ev.s (ins := .iload 4) (pc' := 101) rfl rfl ?_
      refine kc_X5_followLines_0 rfl oi_88 rfl (Nat.le_of_ble_eq_true rfl) (e_Maker_followLines_88_2_34) ?_
      refine Ev.weak [some (.ref 88), some (.ref 2), some (.ref 34), some (.int v3), none] ⟨rfl, rfl, rfl, rfl, rfl, trivial⟩ ?_
      exact e_Maker_make_88_2_34_104 (lt31 c1) hk
  · replace hk := kK_r hk
    refine Ev.s (ins := .aload_n 0) (pc' := 111) rfl rfl ?_
    refine Ev.s (ins := .aload_n 2) (pc' := 112) rfl rfl ?_
    refine kc_X5_givePhisTheirs_0 rfl oi_88 rfl (Nat.le_of_ble_eq_true rfl) (e_Maker_givePhisTheirs_88_34) ?_
    exact Ev.vret rfl rfl hk
set_option maxRecDepth 100000 in
theorem e_Maker_make_88_2_34_L63 {v3 : Int32} {x : Option Value × List mmC} (hk : (kO (fun r : Ob × Ob => (none, mh sc rest to fl r.1 tr r.2 cn nu de ru la tb tf ph cs)) x) (Maker_make_L63 to fl ma mk v3)) : Ev mmPT tbX5_make 63 [some (.ref 88), some (.ref 2), some (.ref 34), some (.int v3), none] [] (mh sc rest to fl ma tr mk cn nu de ru la tb tf ph cs) x :=
  k_loop (B := (fun a : Int32 × Ob × Ob => Maker_make_L63b to fl a.2.1 a.2.2 a.1)) (μ := fun a : Int32 × Ob × Ob => mu a.1) (E := fun a : Int32 × Ob × Ob => Ev mmPT tbX5_make 63 [some (.ref 88), some (.ref 2), some (.ref 34), some (.int a.1), none] [] (mh sc rest to fl a.2.1 tr a.2.2 cn nu de ru la tb tf ph cs) x) (X := (kO (fun r : Ob × Ob => (none, mh sc rest to fl r.1 tr r.2 cn nu de ru la tb tf ph cs)) x)) (fun a hk => e_Maker_make_88_2_34_L63b hk) (v3, ma, mk) hk
set_option maxRecDepth 100000 in
theorem e_Maker_make_88_2_34_L22b {v3 : Int32} {x : Option Value × List mmC} (hk : (kK (fun a : Int32 × Ob => mu a.1) (mu v3) (fun a : Int32 × Ob => Ev mmPT tbX5_make 22 [some (.ref 88), some (.ref 2), some (.ref 34), some (.int a.1), none] [] (mh sc rest to fl a.2 tr mk cn nu de ru la tb tf ph cs) x) (kO (fun r : Ob × Ob => (none, mh sc rest to fl r.1 tr r.2 cn nu de ru la tb tf ph cs)) x)) (Maker_make_L22b to fl ma mk v3)) : Ev mmPT tbX5_make 22 [some (.ref 88), some (.ref 2), some (.ref 34), some (.int v3), none] [] (mh sc rest to fl ma tr mk cn nu de ru la tb tf ph cs) x := by
  unfold Maker_make_L22b at hk
  refine Ev.s (ins := .iload_n 3) (pc' := 23) rfl rfl ?_
  refine Ev.s (ins := .aload_n 1) (pc' := 24) rfl rfl ?_
  refine gf_2_12 (to.2.1 0) rfl rfl ?_
  refine q_cge rfl hk (fun c1 hk => ?_) (fun c1 hk => ?_)
  · refine Ev.s (ins := .aload_n 2) (pc' := 31) rfl rfl ?_
    refine gf_34_14 (ma.2.1 1) rfl rfl ?_
    refine Ev.s (ins := .iload_n 3) (pc' := 35) rfl rfl ?_
    refine kc_X11_has_3 rfl (Nat.le_of_ble_eq_true rfl) (e_Ph_has) ?_
    refine q_beq rfl hk (fun c2 hk => ?_) (fun c2 hk => ?_)
    · refine Ev.s (ins := .aload_n 0) (pc' := 42) rfl rfl ?_
      refine Ev.s (ins := .aload_n 1) (pc' := 43) rfl rfl ?_
      refine Ev.s (ins := .aload_n 2) (pc' := 44) rfl rfl ?_
      refine Ev.s (ins := .iload_n 3) (pc' := 45) rfl rfl ?_
      refine kc_X5_addValues_0 rfl oi_88 rfl (Nat.le_of_ble_eq_true rfl) (e_Maker_addValues_88_2_34) ?_
      refine Ev.s (ins := .aload_n 0) (pc' := 49) rfl rfl ?_
      refine Ev.s (ins := .aload_n 1) (pc' := 50) rfl rfl ?_
      refine Ev.s (ins := .aload_n 2) (pc' := 51) rfl rfl ?_
      refine Ev.s (ins := .iload_n 3) (pc' := 52) rfl rfl ?_
      refine kc_X5_addEdges_0 rfl oi_88 rfl (Nat.le_of_ble_eq_true rfl) (e_Maker_addEdges_88_2_34) ?_
      exact e_Maker_make_88_2_34_55 (lt31 c1) hk
    · exact e_Maker_make_88_2_34_55 (lt31 c1) hk
  · replace hk := kK_r hk
    refine q_ic 0 rfl rfl ?_
    refine Ev.s (ins := .istore_n 3) (pc' := 63) (lv' := [some (.ref 88), some (.ref 2), some (.ref 34), some (.int 0), none]) rfl rfl ?_
    exact e_Maker_make_88_2_34_L63 hk
set_option maxRecDepth 100000 in
theorem e_Maker_make_88_2_34_L22 {v3 : Int32} {x : Option Value × List mmC} (hk : (kO (fun r : Ob × Ob => (none, mh sc rest to fl r.1 tr r.2 cn nu de ru la tb tf ph cs)) x) (Maker_make_L22 to fl ma mk v3)) : Ev mmPT tbX5_make 22 [some (.ref 88), some (.ref 2), some (.ref 34), some (.int v3), none] [] (mh sc rest to fl ma tr mk cn nu de ru la tb tf ph cs) x :=
  k_loop (B := (fun a : Int32 × Ob => Maker_make_L22b to fl a.2 mk a.1)) (μ := fun a : Int32 × Ob => mu a.1) (E := fun a : Int32 × Ob => Ev mmPT tbX5_make 22 [some (.ref 88), some (.ref 2), some (.ref 34), some (.int a.1), none] [] (mh sc rest to fl a.2 tr mk cn nu de ru la tb tf ph cs) x) (X := (kO (fun r : Ob × Ob => (none, mh sc rest to fl r.1 tr r.2 cn nu de ru la tb tf ph cs)) x)) (fun a hk => e_Maker_make_88_2_34_L22b hk) (v3, ma) hk
set_option maxRecDepth 100000 in
theorem e_Maker_make_88_2_34_0 {x : Option Value × List mmC} (hk : (kO (fun r : Ob × Ob => (none, mh sc rest to fl r.1 tr r.2 cn nu de ru la tb tf ph cs)) x) (Maker_make to fl ma mk)) : Ev mmPT tbX5_make 0 [some (.ref 88), some (.ref 2), some (.ref 34), none, none] [] (mh sc rest to fl ma tr mk cn nu de ru la tb tf ph cs) x := by
  unfold Maker_make at hk
  refine Ev.s (ins := .aload_n 2) (pc' := 1) rfl rfl ?_
  refine Ev.s (ins := .aload_n 1) (pc' := 2) rfl rfl ?_
  refine gf_2_12 (to.2.1 0) rfl rfl ?_
  refine Ev.s (ins := .aload_n 1) (pc' := 6) rfl rfl ?_
  refine gf_2_11 rfl ?_
  refine gf_25_4 (fl.2.1 0) rfl rfl ?_
  refine kc_X3_begin_0 rfl oi_34 rfl (Nat.le_of_ble_eq_true rfl) (e_Form_begin_34) ?_
  refine Ev.s (ins := .aload_n 0) (pc' := 16) rfl rfl ?_
  refine Ev.s (ins := .aload_n 1) (pc' := 17) rfl rfl ?_
  refine kc_X5_placePhis_0 rfl oi_88 rfl (Nat.le_of_ble_eq_true rfl) (e_Maker_placePhis_88_2) ?_
  refine q_ic 0 rfl rfl ?_
  refine Ev.s (ins := .istore_n 3) (pc' := 22) (lv' := [some (.ref 88), some (.ref 2), some (.ref 34), some (.int 0), none]) rfl rfl ?_
  exact e_Maker_make_88_2_34_L22 hk
set_option maxRecDepth 100000 in
theorem e_Maker_make_88_2_34 : Ev mmPT tbX5_make 0 [some (.ref 88), some (.ref 2), some (.ref 34), none, none] [] (mh sc rest to fl ma tr mk cn nu de ru la tb tf ph cs) ((fun r : Ob × Ob => (none, mh sc rest to fl r.1 tr r.2 cn nu de ru la tb tf ph cs)) (Maker_make to fl ma mk)) := e_Maker_make_88_2_34_0 (by exact rfl)
set_option maxRecDepth 100000 in
theorem e_Ph_form_15 {x : Option Value × List mmC} (hk : (kO (fun r : Int32 × Ob × Ob × Ob => (some (.int r.1), mh sc rest to fl r.2.1 tr r.2.2.1 cn nu de ru la tb tf r.2.2.2 cs)) x) (Ph_form_15 to fl ma mk ph)) : Ev mmPT tbX11_form 15 [some (.ref 1)] [] (mh sc rest to fl ma tr mk cn nu de ru la tb tf ph cs) x := by
  unfold Ph_form_15 at hk
  refine Ev.s (ins := .aload_n 0) (pc' := 16) rfl rfl ?_
  refine q_ic 1 rfl rfl ?_
  refine pf_1_12 true rfl ?_
  refine Ev.s (ins := .aload_n 0) (pc' := 21) rfl rfl ?_
  refine gf_1_1 rfl ?_
  refine gf_34_15 (ma.2.1 2) rfl rfl ?_
  exact Ev.iret rfl rfl hk
set_option maxRecDepth 100000 in
theorem e_Ph_form_0 {x : Option Value × List mmC} (hk : (kO (fun r : Int32 × Ob × Ob × Ob => (some (.int r.1), mh sc rest to fl r.2.1 tr r.2.2.1 cn nu de ru la tb tf r.2.2.2 cs)) x) (Ph_form to fl ma mk ph)) : Ev mmPT tbX11_form 0 [some (.ref 1)] [] (mh sc rest to fl ma tr mk cn nu de ru la tb tf ph cs) x := by
  unfold Ph_form at hk
  refine Ev.s (ins := .aload_n 0) (pc' := 1) rfl rfl ?_
  refine gf_1_3 rfl ?_
  refine Ev.s (ins := .aload_n 0) (pc' := 5) rfl rfl ?_
  refine gf_1_0 rfl ?_
  refine Ev.s (ins := .aload_n 0) (pc' := 9) rfl rfl ?_
  refine gf_1_1 rfl ?_
  refine kc_X5_make_0 rfl oi_88 rfl (Nat.le_of_ble_eq_true rfl) (e_Maker_make_88_2_34) ?_
  exact e_Ph_form_15 hk
set_option maxRecDepth 100000 in
theorem e_Ph_form : Ev mmPT tbX11_form 0 [some (.ref 1)] [] (mh sc rest to fl ma tr mk cn nu de ru la tb tf ph cs) ((fun r : Int32 × Ob × Ob × Ob => (some (.int r.1), mh sc rest to fl r.2.1 tr r.2.2.1 cn nu de ru la tb tf r.2.2.2 cs)) (Ph_form to fl ma mk ph)) := e_Ph_form_0 (by exact rfl)
set_option maxRecDepth 100000 in
theorem e_Ph_isPass_14 {x : Option Value × List mmC} (hk : (kO (fun r : Bool => (some (.int (b2i r)), mh sc rest to fl ma tr mk cn nu de ru la tb tf ph cs)) x) (Ph_isPass_14)) : Ev mmPT tbX11_isPass 14 [none] [] (mh sc rest to fl ma tr mk cn nu de ru la tb tf ph cs) x := by
  unfold Ph_isPass_14 at hk
  refine q_ic 0 rfl rfl ?_
  exact Ev.zret rfl rfl (Or.inl rfl) hk
set_option maxRecDepth 100000 in
theorem e_Ph_isPass_0 {v0 : Int32} {x : Option Value × List mmC} (hk : (kO (fun r : Bool => (some (.int (b2i r)), mh sc rest to fl ma tr mk cn nu de ru la tb tf ph cs)) x) (Ph_isPass v0)) : Ev mmPT tbX11_isPass 0 [some (.int v0)] [] (mh sc rest to fl ma tr mk cn nu de ru la tb tf ph cs) x := by
  unfold Ph_isPass at hk
  refine Ev.s (ins := .iload_n 0) (pc' := 1) rfl rfl ?_
  refine q_ic 1 rfl rfl ?_
  refine q_clt rfl hk (fun c1 hk => ?_) (fun c1 hk => ?_)
  · refine Ev.weak [none] ⟨rfl, trivial⟩ ?_
    exact e_Ph_isPass_14 hk
  · refine Ev.s (ins := .iload_n 0) (pc' := 6) rfl rfl ?_
    refine q_ic 4 rfl rfl ?_
    refine q_cgt rfl hk (fun c2 hk => ?_) (fun c2 hk => ?_)
    · refine Ev.weak [none] ⟨rfl, trivial⟩ ?_
      exact e_Ph_isPass_14 hk
    · refine q_ic 1 rfl rfl ?_
      refine Ev.goto rfl ?_
      exact Ev.zret rfl rfl (Or.inr rfl) hk
set_option maxRecDepth 100000 in
theorem e_Ph_isPass {v0 : Int32} : Ev mmPT tbX11_isPass 0 [some (.int v0)] [] (mh sc rest to fl ma tr mk cn nu de ru la tb tf ph cs) ((fun r : Bool => (some (.int (b2i r)), mh sc rest to fl ma tr mk cn nu de ru la tb tf ph cs)) (Ph_isPass v0)) := e_Ph_isPass_0 (by exact rfl)
set_option maxRecDepth 100000 in
theorem e_Constants_begin_95_39 {v1 : Int32} {w0 : Int32} {w1 : Int32} {x : Option Value × List mmC} (b18 : v1 < 2147483647) (hk : (kK (fun a : Int32 × Ob => mu a.1) (mu v1) (fun a : Int32 × Ob => Ev mmPT tbX0_begin 18 [some (.ref 95), some (.int a.1)] [] (mh sc rest to fl ma tr mk a.2 nu de ru la tb tf ph cs) x) (kO (fun r : Ob => (none, mh sc rest to fl ma tr mk r nu de ru la tb tf ph cs)) x)) (Constants_begin_39 cn v1 w0 w1)) : Ev mmPT tbX0_begin 39 [some (.ref 95), some (.int v1)] [.int w0, .int w1, .ref 96] (mh sc rest to fl ma tr mk cn nu de ru la tb tf ph cs) x := by
  unfold Constants_begin_39 at hk
  refine pt_96 rfl (Nat.le_of_ble_eq_true rfl) ?_
  refine q_inc 1 [some (.ref 95), some (.int (v1 + 1))] rfl rfl rfl rfl ?_
  refine Ev.goto rfl ?_
  replace hk := kK_l hk
  exact hk (mu_lt b18)
set_option maxRecDepth 100000 in
theorem e_Constants_begin_95_L18b {v1 : Int32} {x : Option Value × List mmC} (hk : (kK (fun a : Int32 × Ob => mu a.1) (mu v1) (fun a : Int32 × Ob => Ev mmPT tbX0_begin 18 [some (.ref 95), some (.int a.1)] [] (mh sc rest to fl ma tr mk a.2 nu de ru la tb tf ph cs) x) (kO (fun r : Ob => (none, mh sc rest to fl ma tr mk r nu de ru la tb tf ph cs)) x)) (Constants_begin_L18b cn v1)) : Ev mmPT tbX0_begin 18 [some (.ref 95), some (.int v1)] [] (mh sc rest to fl ma tr mk cn nu de ru la tb tf ph cs) x := by
  unfold Constants_begin_L18b at hk
  refine Ev.s (ins := .iload_n 1) (pc' := 19) rfl rfl ?_
  refine q_bi 6 rfl rfl ?_
  refine q_cge rfl hk (fun c1 hk => ?_) (fun c1 hk => ?_)
  · refine Ev.s (ins := .aload_n 0) (pc' := 25) rfl rfl ?_
    refine gf_95_0 rfl ?_
    refine Ev.s (ins := .iload_n 1) (pc' := 29) rfl rfl ?_
    refine Ev.s (ins := .iload_n 1) (pc' := 30) rfl rfl ?_
    refine q_ic 2 rfl rfl ?_
    refine q_cge rfl hk (fun c2 hk => ?_) (fun c2 hk => ?_)
    · refine q_ic 2 rfl rfl ?_
      refine Ev.goto rfl ?_
      exact e_Constants_begin_95_39 (lt31 c1) hk
    · refine q_ic 1 rfl rfl ?_
      exact e_Constants_begin_95_39 (lt31 c1) hk
  · replace hk := kK_r hk
    refine Ev.s (ins := .aload_n 0) (pc' := 49) rfl rfl ?_
    refine q_ic 0 rfl rfl ?_
    refine kc_X11_bit_3 rfl (Nat.le_of_ble_eq_true rfl) (e_Ph_bit) ?_
    refine pf_95_2 (Ph_bit 0) rfl ?_
    refine Ev.s (ins := .aload_n 0) (pc' := 57) rfl rfl ?_
    refine q_ic 0 rfl rfl ?_
    refine pf_95_3 0 rfl ?_
    refine Ev.s (ins := .aload_n 0) (pc' := 62) rfl rfl ?_
    refine q_ic 1 rfl rfl ?_
    refine pf_95_4 true rfl ?_
    exact Ev.vret rfl rfl hk
set_option maxRecDepth 100000 in
theorem e_Constants_begin_95_L18 {v1 : Int32} {x : Option Value × List mmC} (hk : (kO (fun r : Ob => (none, mh sc rest to fl ma tr mk r nu de ru la tb tf ph cs)) x) (Constants_begin_L18 cn v1)) : Ev mmPT tbX0_begin 18 [some (.ref 95), some (.int v1)] [] (mh sc rest to fl ma tr mk cn nu de ru la tb tf ph cs) x :=
  k_loop (B := (fun a : Int32 × Ob => Constants_begin_L18b a.2 a.1)) (μ := fun a : Int32 × Ob => mu a.1) (E := fun a : Int32 × Ob => Ev mmPT tbX0_begin 18 [some (.ref 95), some (.int a.1)] [] (mh sc rest to fl ma tr mk a.2 nu de ru la tb tf ph cs) x) (X := (kO (fun r : Ob => (none, mh sc rest to fl ma tr mk r nu de ru la tb tf ph cs)) x)) (fun a hk => e_Constants_begin_95_L18b hk) (v1, cn) hk
set_option maxRecDepth 100000 in
theorem e_Constants_begin_95_0 {x : Option Value × List mmC} (hk : (kO (fun r : Ob => (none, mh sc rest to fl ma tr mk r nu de ru la tb tf ph cs)) x) (Constants_begin cn)) : Ev mmPT tbX0_begin 0 [some (.ref 95), none] [] (mh sc rest to fl ma tr mk cn nu de ru la tb tf ph cs) x := by
  unfold Constants_begin at hk
  refine Ev.s (ins := .aload_n 0) (pc' := 1) rfl rfl ?_
  refine gf_95_0 rfl ?_
  refine q_ic 0 rfl rfl ?_
  refine fl_96 rfl (Nat.le_of_ble_eq_true rfl) ?_
  refine Ev.s (ins := .aload_n 0) (pc' := 9) rfl rfl ?_
  refine gf_95_1 rfl ?_
  refine q_ic 0 rfl rfl ?_
  refine fl_98 rfl (Nat.le_of_ble_eq_true rfl) ?_
  refine q_ic 0 rfl rfl ?_
  refine Ev.s (ins := .istore_n 1) (pc' := 18) (lv' := [some (.ref 95), some (.int 0)]) rfl rfl ?_
  exact e_Constants_begin_95_L18 hk
set_option maxRecDepth 100000 in
theorem e_Constants_begin_95 : Ev mmPT tbX0_begin 0 [some (.ref 95), none] [] (mh sc rest to fl ma tr mk cn nu de ru la tb tf ph cs) ((fun r : Ob => (none, mh sc rest to fl ma tr mk r nu de ru la tb tf ph cs)) (Constants_begin cn)) := e_Constants_begin_95_0 (by exact rfl)
end RF1
