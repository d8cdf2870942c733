/-! THE RUNS ARE THE FUNCTIONS, by program: 5 -/
section RF4
variable {sc : mmC} {rest : List mmC} {to fl ma tr mk cn nu de ru la tb tf ph : Ob} {cs : Int64}
set_option maxRecDepth 100000 in
theorem e_Joiner_firstToJoin_34_63 {v1 : Int32} {x : Option Value × List mmC} (b2 : v1 < 2147483647) (hk : (kK (fun a : Int32 => mu a) (mu v1) (fun a : Int32 => Ev mmPT tbX4_firstToJoin 2 [some (.ref 34), some (.int a), none] [] (mh sc rest to fl ma tr mk cn nu de ru la tb tf ph cs) x) (kO (fun r : Int32 => (some (.int r), mh sc rest to fl ma tr mk cn nu de ru la tb tf ph cs)) x)) (Joiner_firstToJoin_63 ma v1)) : Ev mmPT tbX4_firstToJoin 63 [some (.ref 34), some (.int v1), none] [] (mh sc rest to fl ma tr mk cn nu de ru la tb tf ph cs) x := by
  unfold Joiner_firstToJoin_63 at hk
  refine q_inc 1 [some (.ref 34), some (.int (v1 + 1)), none] rfl rfl rfl rfl ?_
  refine Ev.goto rfl ?_
  replace hk := kK_l hk
  exact hk (mu_lt b2)
set_option maxRecDepth 100000 in
theorem e_Joiner_firstToJoin_34_L2b {v1 : Int32} {x : Option Value × List mmC} (hk : (kK (fun a : Int32 => mu a) (mu v1) (fun a : Int32 => Ev mmPT tbX4_firstToJoin 2 [some (.ref 34), some (.int a), none] [] (mh sc rest to fl ma tr mk cn nu de ru la tb tf ph cs) x) (kO (fun r : Int32 => (some (.int r), mh sc rest to fl ma tr mk cn nu de ru la tb tf ph cs)) x)) (Joiner_firstToJoin_L2b ma v1)) : Ev mmPT tbX4_firstToJoin 2 [some (.ref 34), some (.int v1), none] [] (mh sc rest to fl ma tr mk cn nu de ru la tb tf ph cs) x := by
  unfold Joiner_firstToJoin_L2b at hk
  refine Ev.s (ins := .iload_n 1) (pc' := 3) rfl rfl ?_
  refine Ev.s (ins := .aload_n 0) (pc' := 4) rfl rfl ?_
  refine gf_34_13 (ma.2.1 0) rfl rfl ?_
  refine q_cge rfl hk (fun c1 hk => ?_) (fun c1 hk => ?_)
  · refine Ev.s (ins := .aload_n 0) (pc' := 11) rfl rfl ?_
    refine gf_34_12 rfl ?_
    refine Ev.s (ins := .iload_n 1) (pc' := 15) rfl rfl ?_
    refine q_ic 2 rfl rfl ?_
    refine Ev.s (ins := .imul) (pc' := 17) rfl rfl ?_
    refine at_59 (oat ma 12 20 (v1 * 2)) rfl (Nat.le_of_ble_eq_true rfl) rfl ?_
    refine Ev.s (ins := .istore_n 2) (pc' := 21) (lv' := [some (.ref 34), some (.int v1), some (.int (oat ma 12 20 (v1 * 2)))]) rfl rfl ?_
    refine Ev.s (ins := .aload_n 0) (pc' := 22) rfl rfl ?_
    refine gf_34_14 (ma.2.1 1) rfl rfl ?_
    refine Ev.s (ins := .iload_n 1) (pc' := 26) rfl rfl ?_
    refine kc_X11_has_3 rfl (Nat.le_of_ble_eq_true rfl) (e_Ph_has) ?_
    refine q_beq rfl hk (fun c2 hk => ?_) (fun c2 hk => ?_)
    · refine Ev.s (ins := .aload_n 0) (pc' := 33) rfl rfl ?_
      refine gf_34_11 rfl ?_
      refine Ev.s (ins := .iload_n 1) (pc' := 37) rfl rfl ?_
      refine at_57 (oat ma 11 10 v1) rfl (Nat.le_of_ble_eq_true rfl) rfl ?_
      refine q_ic 1 rfl rfl ?_
      refine q_cne rfl hk (fun c3 hk => ?_) (fun c3 hk => ?_)
      · refine Ev.s (ins := .iload_n 2) (pc' := 45) rfl rfl ?_
        refine Ev.s (ins := .iload_n 1) (pc' := 46) rfl rfl ?_
        refine q_ceq rfl hk (fun c4 hk => ?_) (fun c4 hk => ?_)
        · refine Ev.weak [some (.ref 34), some (.int v1), none] ⟨rfl, rfl, rfl, trivial⟩ ?_
          exact e_Joiner_firstToJoin_34_63 (lt31 c1) hk
        · refine Ev.s (ins := .aload_n 0) (pc' := 50) rfl rfl ?_
          refine gf_34_9 rfl ?_
          refine Ev.s (ins := .iload_n 2) (pc' := 54) rfl rfl ?_
          refine at_53 (oat ma 9 10 (oat ma 12 20 (v1 * 2))) rfl (Nat.le_of_ble_eq_true rfl) rfl ?_
          refine q_ic 1 rfl rfl ?_
          refine q_cne rfl hk (fun c5 hk => ?_) (fun c5 hk => ?_)
          · replace hk := kK_r hk
            refine Ev.s (ins := .iload_n 1) (pc' := 62) rfl rfl ?_
            exact Ev.iret rfl rfl hk
          · refine Ev.weak [some (.ref 34), some (.int v1), none] ⟨rfl, rfl, rfl, trivial⟩ ?_
            exact e_Joiner_firstToJoin_34_63 (lt31 c1) hk
      · refine Ev.weak [some (.ref 34), some (.int v1), none] ⟨rfl, rfl, rfl, trivial⟩ ?_
        exact e_Joiner_firstToJoin_34_63 (lt31 c1) hk
    · refine Ev.weak [some (.ref 34), some (.int v1), none] ⟨rfl, rfl, rfl, trivial⟩ ?_
      exact e_Joiner_firstToJoin_34_63 (lt31 c1) hk
  · replace hk := kK_r hk
    refine q_ic (-1) rfl rfl ?_
    exact Ev.iret rfl rfl hk
set_option maxRecDepth 100000 in
theorem e_Joiner_firstToJoin_34_L2 {v1 : Int32} {x : Option Value × List mmC} (hk : (kO (fun r : Int32 => (some (.int r), mh sc rest to fl ma tr mk cn nu de ru la tb tf ph cs)) x) (Joiner_firstToJoin_L2 ma v1)) : Ev mmPT tbX4_firstToJoin 2 [some (.ref 34), some (.int v1), none] [] (mh sc rest to fl ma tr mk cn nu de ru la tb tf ph cs) x :=
  k_loop (B := (fun a : Int32 => Joiner_firstToJoin_L2b ma a)) (μ := fun a : Int32 => mu a) (E := fun a : Int32 => Ev mmPT tbX4_firstToJoin 2 [some (.ref 34), some (.int a), none] [] (mh sc rest to fl ma tr mk cn nu de ru la tb tf ph cs) x) (X := (kO (fun r : Int32 => (some (.int r), mh sc rest to fl ma tr mk cn nu de ru la tb tf ph cs)) x)) (fun a hk => e_Joiner_firstToJoin_34_L2b hk) v1 hk
set_option maxRecDepth 100000 in
theorem e_Joiner_firstToJoin_34_0 {x : Option Value × List mmC} (hk : (kO (fun r : Int32 => (some (.int r), mh sc rest to fl ma tr mk cn nu de ru la tb tf ph cs)) x) (Joiner_firstToJoin ma)) : Ev mmPT tbX4_firstToJoin 0 [some (.ref 34), none, none] [] (mh sc rest to fl ma tr mk cn nu de ru la tb tf ph cs) x := by
  unfold Joiner_firstToJoin at hk
  refine q_ic 0 rfl rfl ?_
  refine Ev.s (ins := .istore_n 1) (pc' := 2) (lv' := [some (.ref 34), some (.int 0), none]) rfl rfl ?_
  exact e_Joiner_firstToJoin_34_L2 hk
set_option maxRecDepth 100000 in
theorem e_Joiner_firstToJoin_34 : Ev mmPT tbX4_firstToJoin 0 [some (.ref 34), none, none] [] (mh sc rest to fl ma tr mk cn nu de ru la tb tf ph cs) ((fun r : Int32 => (some (.int r), mh sc rest to fl ma tr mk cn nu de ru la tb tf ph cs)) (Joiner_firstToJoin ma)) := e_Joiner_firstToJoin_34_0 (by exact rfl)
set_option maxRecDepth 100000 in
theorem e_Joiner_moveValues_34_79 {v1 : Int32} {v2 : Int32} {v3 : Int32} {x : Option Value × List mmC} (b2 : v3 < 2147483647) (hk : (kK (fun a : Int32 × Ob => mu a.1) (mu v3) (fun a : Int32 × Ob => Ev mmPT tbX4_moveValues 2 [some (.ref 34), some (.int v1), some (.int v2), some (.int a.1), none] [] (mh sc rest to fl a.2 tr mk cn nu de ru la tb tf ph cs) x) (kO (fun r : Ob => (none, mh sc rest to fl r tr mk cn nu de ru la tb tf ph cs)) x)) (Joiner_moveValues_79 ma v1 v2 v3)) : Ev mmPT tbX4_moveValues 79 [some (.ref 34), some (.int v1), some (.int v2), some (.int v3), none] [] (mh sc rest to fl ma tr mk cn nu de ru la tb tf ph cs) x := by
  unfold Joiner_moveValues_79 at hk
  refine q_inc 1 [some (.ref 34), some (.int v1), some (.int v2), some (.int (v3 + 1)), none] rfl rfl rfl rfl ?_
  refine Ev.goto rfl ?_
  replace hk := kK_l hk
  exact hk (mu_lt b2)
set_option maxRecDepth 100000 in
theorem e_Joiner_moveValues_34_L2b {v1 : Int32} {v2 : Int32} {v3 : Int32} {x : Option Value × List mmC} (hk : (kK (fun a : Int32 × Ob => mu a.1) (mu v3) (fun a : Int32 × Ob => Ev mmPT tbX4_moveValues 2 [some (.ref 34), some (.int v1), some (.int v2), some (.int a.1), none] [] (mh sc rest to fl a.2 tr mk cn nu de ru la tb tf ph cs) x) (kO (fun r : Ob => (none, mh sc rest to fl r tr mk cn nu de ru la tb tf ph cs)) x)) (Joiner_moveValues_L2b ma v1 v2 v3)) : Ev mmPT tbX4_moveValues 2 [some (.ref 34), some (.int v1), some (.int v2), some (.int v3), none] [] (mh sc rest to fl ma tr mk cn nu de ru la tb tf ph cs) x := by
  unfold Joiner_moveValues_L2b at hk
  refine Ev.s (ins := .iload_n 3) (pc' := 3) rfl rfl ?_
  refine Ev.s (ins := .aload_n 0) (pc' := 4) rfl rfl ?_
  refine gf_34_7 rfl ?_
  refine Ev.s (ins := .iload_n 2) (pc' := 8) rfl rfl ?_
  refine at_49 (oat ma 7 10 v2) rfl (Nat.le_of_ble_eq_true rfl) rfl ?_
  refine q_cge rfl hk (fun c1 hk => ?_) (fun c1 hk => ?_)
  · refine Ev.s (ins := .aload_n 0) (pc' := 15) rfl rfl ?_
    refine Ev.s (ins := .iload_n 2) (pc' := 16) rfl rfl ?_
    refine Ev.s (ins := .iload_n 3) (pc' := 17) rfl rfl ?_
    refine kc_X3_valueIn_0 rfl oi_34 rfl (Nat.le_of_ble_eq_true rfl) (e_Form_valueIn_34) ?_
    refine Ev.s (ins := .istore 4) (pc' := 22) (lv' := [some (.ref 34), some (.int v1), some (.int v2), some (.int v3), some (.int (Form_valueIn ma v2 v3))]) rfl rfl ?_
    refine Ev.s (ins := .aload_n 0) (pc' := 23) rfl rfl ?_
    refine gf_34_0 rfl ?_
    refine Ev.s (ins := .iload 4) (pc' := 28) rfl rfl ?_
    refine at_35 (oat ma 0 140 (Form_valueIn ma v2 v3)) rfl (Nat.le_of_ble_eq_true rfl) rfl ?_
    refine q_bi 9 rfl rfl ?_
    refine q_cne rfl hk (fun c2 hk => ?_) (fun c2 hk => ?_)
    · refine Ev.s (ins := .aload_n 0) (pc' := 37) rfl rfl ?_
      refine Ev.s (ins := .iload 4) (pc' := 39) rfl rfl ?_
      refine Ev.s (ins := .aload_n 0) (pc' := 40) rfl rfl ?_
      refine Ev.s (ins := .iload 4) (pc' := 42) rfl rfl ?_
      refine q_ic 0 rfl rfl ?_
      refine kc_X3_valueOf_0 rfl oi_34 rfl (Nat.le_of_ble_eq_true rfl) (e_Form_valueOf_34) ?_
      refine Ev.s (ins := .aload_n 0) (pc' := 47) rfl rfl ?_
      refine Ev.s (ins := .iload 4) (pc' := 49) rfl rfl ?_
      refine q_ic 0 rfl rfl ?_
      refine kc_X3_numberOf_0 rfl oi_34 rfl (Nat.le_of_ble_eq_true rfl) (e_Form_numberOf_34) ?_
      refine kc_X3_replace_0 rfl oi_34 rfl (Nat.le_of_ble_eq_true rfl) (e_Form_replace_34) ?_
      refine Ev.goto rfl ?_
      refine Ev.weak [some (.ref 34), some (.int v1), some (.int v2), some (.int v3), none] ⟨rfl, rfl, rfl, rfl, rfl, trivial⟩ ?_
      exact e_Joiner_moveValues_34_79 (lt31 c1) hk
    · refine Ev.s (ins := .aload_n 0) (pc' := 60) rfl rfl ?_
      refine gf_34_1 rfl ?_
      refine Ev.s (ins := .iload 4) (pc' := 65) rfl rfl ?_
      refine at_37 (oat ma 1 140 (Form_valueIn ma v2 v3)) rfl (Nat.le_of_ble_eq_true rfl) rfl ?_
      refine Ev.s (ins := .iload_n 2) (pc' := 69) rfl rfl ?_
      refine q_cne rfl hk (fun c3 hk => ?_) (fun c3 hk => ?_)
      · refine Ev.s (ins := .aload_n 0) (pc' := 73) rfl rfl ?_
        refine Ev.s (ins := .iload 4) (pc' := 75) rfl rfl ?_
        refine Ev.s (ins := .iload_n 1) (pc' := 76) rfl rfl ?_
        refine kc_X3_putInto_0 rfl oi_34 rfl (Nat.le_of_ble_eq_true rfl) (e_Form_putInto_34) ?_
        refine Ev.weak [some (.ref 34), some (.int v1), some (.int v2), some (.int v3), none] ⟨rfl, rfl, rfl, rfl, rfl, trivial⟩ ?_
        exact e_Joiner_moveValues_34_79 (lt31 c1) hk
      · refine Ev.weak [some (.ref 34), some (.int v1), some (.int v2), some (.int v3), none] ⟨rfl, rfl, rfl, rfl, rfl, trivial⟩ ?_
        exact e_Joiner_moveValues_34_79 (lt31 c1) hk
  · replace hk := kK_r hk
    exact Ev.vret rfl rfl hk
set_option maxRecDepth 100000 in
theorem e_Joiner_moveValues_34_L2 {v1 : Int32} {v2 : Int32} {v3 : Int32} {x : Option Value × List mmC} (hk : (kO (fun r : Ob => (none, mh sc rest to fl r tr mk cn nu de ru la tb tf ph cs)) x) (Joiner_moveValues_L2 ma v1 v2 v3)) : Ev mmPT tbX4_moveValues 2 [some (.ref 34), some (.int v1), some (.int v2), some (.int v3), none] [] (mh sc rest to fl ma tr mk cn nu de ru la tb tf ph cs) x :=
  k_loop (B := (fun a : Int32 × Ob => Joiner_moveValues_L2b a.2 v1 v2 a.1)) (μ := fun a : Int32 × Ob => mu a.1) (E := fun a : Int32 × Ob => Ev mmPT tbX4_moveValues 2 [some (.ref 34), some (.int v1), some (.int v2), some (.int a.1), none] [] (mh sc rest to fl a.2 tr mk cn nu de ru la tb tf ph cs) x) (X := (kO (fun r : Ob => (none, mh sc rest to fl r tr mk cn nu de ru la tb tf ph cs)) x)) (fun a hk => e_Joiner_moveValues_34_L2b hk) (v3, ma) hk
set_option maxRecDepth 100000 in
theorem e_Joiner_moveValues_34_0 {v1 : Int32} {v2 : Int32} {x : Option Value × List mmC} (hk : (kO (fun r : Ob => (none, mh sc rest to fl r tr mk cn nu de ru la tb tf ph cs)) x) (Joiner_moveValues ma v1 v2)) : Ev mmPT tbX4_moveValues 0 [some (.ref 34), some (.int v1), some (.int v2), none, none] [] (mh sc rest to fl ma tr mk cn nu de ru la tb tf ph cs) x := by
  unfold Joiner_moveValues at hk
  refine q_ic 0 rfl rfl ?_
  refine Ev.s (ins := .istore_n 3) (pc' := 2) (lv' := [some (.ref 34), some (.int v1), some (.int v2), some (.int 0), none]) rfl rfl ?_
  exact e_Joiner_moveValues_34_L2 hk
set_option maxRecDepth 100000 in
theorem e_Joiner_moveValues_34 {v1 : Int32} {v2 : Int32} : Ev mmPT tbX4_moveValues 0 [some (.ref 34), some (.int v1), some (.int v2), none, none] [] (mh sc rest to fl ma tr mk cn nu de ru la tb tf ph cs) ((fun r : Ob => (none, mh sc rest to fl r tr mk cn nu de ru la tb tf ph cs)) (Joiner_moveValues ma v1 v2)) := e_Joiner_moveValues_34_0 (by exact rfl)
set_option maxRecDepth 100000 in
theorem e_Form_takeEnd_34_0 {v1 : Int32} {v2 : Int32} {x : Option Value × List mmC} (hk : (kO (fun r : Ob => (none, mh sc rest to fl r tr mk cn nu de ru la tb tf ph cs)) x) (Form_takeEnd ma v1 v2)) : Ev mmPT tbX3_takeEnd 0 [some (.ref 34), some (.int v1), some (.int v2)] [] (mh sc rest to fl ma tr mk cn nu de ru la tb tf ph cs) x := by
  unfold Form_takeEnd at hk
  refine Ev.s (ins := .aload_n 0) (pc' := 1) rfl rfl ?_
  refine gf_34_11 rfl ?_
  refine Ev.s (ins := .iload_n 1) (pc' := 5) rfl rfl ?_
  refine Ev.s (ins := .aload_n 0) (pc' := 6) rfl rfl ?_
  refine gf_34_11 rfl ?_
  refine Ev.s (ins := .iload_n 2) (pc' := 10) rfl rfl ?_
  refine at_57 (oat ma 11 10 v2) rfl (Nat.le_of_ble_eq_true rfl) rfl ?_
  refine pt_57 rfl (Nat.le_of_ble_eq_true rfl) ?_
  refine Ev.s (ins := .aload_n 0) (pc' := 17) rfl rfl ?_
  refine gf_34_4 rfl ?_
  refine q_si 140 rfl rfl ?_
  refine Ev.s (ins := .iload_n 1) (pc' := 24) rfl rfl ?_
  refine Ev.s (ins := .iadd) (pc' := 25) rfl rfl ?_
  refine Ev.s (ins := .aload_n 0) (pc' := 26) rfl rfl ?_
  refine gf_34_4 rfl ?_
  refine q_si 140 rfl rfl ?_
  refine Ev.s (ins := .iload_n 2) (pc' := 33) rfl rfl ?_
  refine Ev.s (ins := .iadd) (pc' := 34) rfl rfl ?_
  refine at_43 (oat ma 4 150 ((140 : Int32) + v2)) rfl (Nat.le_of_ble_eq_true rfl) rfl ?_
  refine pt_43 rfl (Nat.le_of_ble_eq_true rfl) ?_
  refine Ev.s (ins := .aload_n 0) (pc' := 41) rfl rfl ?_
  refine gf_34_3 rfl ?_
  refine q_si 140 rfl rfl ?_
  refine Ev.s (ins := .iload_n 1) (pc' := 48) rfl rfl ?_
  refine Ev.s (ins := .iadd) (pc' := 49) rfl rfl ?_
  refine Ev.s (ins := .aload_n 0) (pc' := 50) rfl rfl ?_
  refine gf_34_3 rfl ?_
  refine q_si 140 rfl rfl ?_
  refine Ev.s (ins := .iload_n 2) (pc' := 57) rfl rfl ?_
  refine Ev.s (ins := .iadd) (pc' := 58) rfl rfl ?_
  refine at_41 (oat ma 3 150 ((140 : Int32) + v2)) rfl (Nat.le_of_ble_eq_true rfl) rfl ?_
  refine pt_41 rfl (Nat.le_of_ble_eq_true rfl) ?_
  refine Ev.s (ins := .aload_n 0) (pc' := 65) rfl rfl ?_
  refine gf_34_3 rfl ?_
  refine q_si 140 rfl rfl ?_
  refine Ev.s (ins := .iload_n 2) (pc' := 72) rfl rfl ?_
  refine Ev.s (ins := .iadd) (pc' := 73) rfl rfl ?_
  refine q_ic 0 rfl rfl ?_
  refine pt_41 rfl (Nat.le_of_ble_eq_true rfl) ?_
  exact Ev.vret rfl rfl hk
set_option maxRecDepth 100000 in
theorem e_Form_takeEnd_34 {v1 : Int32} {v2 : Int32} : Ev mmPT tbX3_takeEnd 0 [some (.ref 34), some (.int v1), some (.int v2)] [] (mh sc rest to fl ma tr mk cn nu de ru la tb tf ph cs) ((fun r : Ob => (none, mh sc rest to fl r tr mk cn nu de ru la tb tf ph cs)) (Form_takeEnd ma v1 v2)) := e_Form_takeEnd_34_0 (by exact rfl)
set_option maxRecDepth 100000 in
theorem e_Joiner_moveEnd_34_L9b {v1 : Int32} {v2 : Int32} {v3 : Int32} {x : Option Value × List mmC} (hk : (kK (fun a : Int32 × Ob => mu a.1) (mu v3) (fun a : Int32 × Ob => Ev mmPT tbX4_moveEnd 9 [some (.ref 34), some (.int v1), some (.int v2), some (.int a.1)] [] (mh sc rest to fl a.2 tr mk cn nu de ru la tb tf ph cs) x) (kO (fun r : Ob => (none, mh sc rest to fl r tr mk cn nu de ru la tb tf ph cs)) x)) (Joiner_moveEnd_L9b ma v1 v2 v3)) : Ev mmPT tbX4_moveEnd 9 [some (.ref 34), some (.int v1), some (.int v2), some (.int v3)] [] (mh sc rest to fl ma tr mk cn nu de ru la tb tf ph cs) x := by
  unfold Joiner_moveEnd_L9b at hk
  refine Ev.s (ins := .iload_n 3) (pc' := 10) rfl rfl ?_
  refine q_ic 2 rfl rfl ?_
  refine q_cge rfl hk (fun c1 hk => ?_) (fun c1 hk => ?_)
  · refine Ev.s (ins := .aload_n 0) (pc' := 15) rfl rfl ?_
    refine Ev.s (ins := .iload_n 2) (pc' := 16) rfl rfl ?_
    refine q_ic 2 rfl rfl ?_
    refine Ev.s (ins := .imul) (pc' := 18) rfl rfl ?_
    refine Ev.s (ins := .iload_n 3) (pc' := 19) rfl rfl ?_
    refine Ev.s (ins := .iadd) (pc' := 20) rfl rfl ?_
    refine Ev.s (ins := .iload_n 1) (pc' := 21) rfl rfl ?_
    refine q_ic 2 rfl rfl ?_
    refine Ev.s (ins := .imul) (pc' := 23) rfl rfl ?_
    refine Ev.s (ins := .iload_n 3) (pc' := 24) rfl rfl ?_
    refine Ev.s (ins := .iadd) (pc' := 25) rfl rfl ?_
    refine kc_X3_changeWay_0 rfl oi_34 rfl (Nat.le_of_ble_eq_true rfl) (e_Form_changeWay_34) ?_
    refine q_inc 1 [some (.ref 34), some (.int v1), some (.int v2), some (.int (v3 + 1))] rfl rfl rfl rfl ?_
    refine Ev.goto rfl ?_
    replace hk := kK_l hk
    exact hk (mu_lt (lt31 c1))
  · replace hk := kK_r hk
    refine Ev.s (ins := .aload_n 0) (pc' := 35) rfl rfl ?_
    refine Ev.s (ins := .iload_n 1) (pc' := 36) rfl rfl ?_
    refine Ev.s (ins := .iload_n 2) (pc' := 37) rfl rfl ?_
    refine kc_X3_takeEnd_0 rfl oi_34 rfl (Nat.le_of_ble_eq_true rfl) (e_Form_takeEnd_34) ?_
    exact Ev.vret rfl rfl hk
set_option maxRecDepth 100000 in
theorem e_Joiner_moveEnd_34_L9 {v1 : Int32} {v2 : Int32} {v3 : Int32} {x : Option Value × List mmC} (hk : (kO (fun r : Ob => (none, mh sc rest to fl r tr mk cn nu de ru la tb tf ph cs)) x) (Joiner_moveEnd_L9 ma v1 v2 v3)) : Ev mmPT tbX4_moveEnd 9 [some (.ref 34), some (.int v1), some (.int v2), some (.int v3)] [] (mh sc rest to fl ma tr mk cn nu de ru la tb tf ph cs) x :=
  k_loop (B := (fun a : Int32 × Ob => Joiner_moveEnd_L9b a.2 v1 v2 a.1)) (μ := fun a : Int32 × Ob => mu a.1) (E := fun a : Int32 × Ob => Ev mmPT tbX4_moveEnd 9 [some (.ref 34), some (.int v1), some (.int v2), some (.int a.1)] [] (mh sc rest to fl a.2 tr mk cn nu de ru la tb tf ph cs) x) (X := (kO (fun r : Ob => (none, mh sc rest to fl r tr mk cn nu de ru la tb tf ph cs)) x)) (fun a hk => e_Joiner_moveEnd_34_L9b hk) (v3, ma) hk
set_option maxRecDepth 100000 in
theorem e_Joiner_moveEnd_34_0 {v1 : Int32} {v2 : Int32} {x : Option Value × List mmC} (hk : (kO (fun r : Ob => (none, mh sc rest to fl r tr mk cn nu de ru la tb tf ph cs)) x) (Joiner_moveEnd ma v1 v2)) : Ev mmPT tbX4_moveEnd 0 [some (.ref 34), some (.int v1), some (.int v2), none] [] (mh sc rest to fl ma tr mk cn nu de ru la tb tf ph cs) x := by
  unfold Joiner_moveEnd at hk
  refine Ev.s (ins := .aload_n 0) (pc' := 1) rfl rfl ?_
  refine Ev.s (ins := .iload_n 1) (pc' := 2) rfl rfl ?_
  refine q_ic 2 rfl rfl ?_
  refine Ev.s (ins := .imul) (pc' := 4) rfl rfl ?_
  refine kc_X3_dropEdge_0 rfl oi_34 rfl (Nat.le_of_ble_eq_true rfl) (e_Form_dropEdge_34) ?_
  refine q_ic 0 rfl rfl ?_
  refine Ev.s (ins := .istore_n 3) (pc' := 9) (lv' := [some (.ref 34), some (.int v1), some (.int v2), some (.int 0)]) rfl rfl ?_
  exact e_Joiner_moveEnd_34_L9 hk
set_option maxRecDepth 100000 in
theorem e_Joiner_moveEnd_34 {v1 : Int32} {v2 : Int32} : Ev mmPT tbX4_moveEnd 0 [some (.ref 34), some (.int v1), some (.int v2), none] [] (mh sc rest to fl ma tr mk cn nu de ru la tb tf ph cs) ((fun r : Ob => (none, mh sc rest to fl r tr mk cn nu de ru la tb tf ph cs)) (Joiner_moveEnd ma v1 v2)) := e_Joiner_moveEnd_34_0 (by exact rfl)
set_option maxRecDepth 100000 in
theorem e_Joiner_goOver_113_34_L2b {v2 : Int32} {x : Option Value × List mmC} (hk : (kK (fun a : Int32 × Ob => mu a.1) (mu v2) (fun a : Int32 × Ob => Ev mmPT tbX4_goOver 2 [none, some (.ref 34), some (.int a.1), none, none] [] (mh sc rest to fl a.2 tr mk cn nu de ru la tb tf ph cs) x) (kO (fun r : Ob => (none, mh sc rest to fl r tr mk cn nu de ru la tb tf ph cs)) x)) (Joiner_goOver_L2b ma v2)) : Ev mmPT tbX4_goOver 2 [none, some (.ref 34), some (.int v2), none, none] [] (mh sc rest to fl ma tr mk cn nu de ru la tb tf ph cs) x := by
  unfold Joiner_goOver_L2b at hk
  refine Ev.s (ins := .iload_n 2) (pc' := 3) rfl rfl ?_
  refine q_bi 10 rfl rfl ?_
  refine q_cge rfl hk (fun c1 hk => ?_) (fun c1 hk => ?_)
  · refine Ev.s (ins := .aload_n 1) (pc' := 9) rfl rfl ?_
    refine kc_X4_firstToJoin_2 rfl (Nat.le_of_ble_eq_true rfl) (e_Joiner_firstToJoin_34) ?_
    refine Ev.s (ins := .istore_n 3) (pc' := 13) (lv' := [none, some (.ref 34), some (.int v2), some (.int (Joiner_firstToJoin ma)), none]) rfl rfl ?_
    refine Ev.s (ins := .iload_n 3) (pc' := 14) rfl rfl ?_
    refine q_ic (-1) rfl rfl ?_
    refine q_cne rfl hk (fun c2 hk => ?_) (fun c2 hk => ?_)
    · replace hk := kK_r hk
      exact Ev.vret rfl rfl hk
    · refine Ev.s (ins := .aload_n 1) (pc' := 20) rfl rfl ?_
      refine gf_34_12 rfl ?_
      refine Ev.s (ins := .iload_n 3) (pc' := 24) rfl rfl ?_
      refine q_ic 2 rfl rfl ?_
      refine Ev.s (ins := .imul) (pc' := 26) rfl rfl ?_
      refine at_59 (oat ma 12 20 ((Joiner_firstToJoin ma) * 2)) rfl (Nat.le_of_ble_eq_true rfl) rfl ?_
      refine Ev.s (ins := .istore 4) (pc' := 31) (lv' := [none, some (.ref 34), some (.int v2), some (.int (Joiner_firstToJoin ma)), some (.int (oat ma 12 20 ((Joiner_firstToJoin ma) * 2)))]) rfl rfl ?_
      refine Ev.s (ins := .aload_n 1) (pc' := 32) rfl rfl ?_
      refine Ev.s (ins := .iload_n 3) (pc' := 33) rfl rfl ?_
      refine Ev.s (ins := .iload 4) (pc' := 35) rfl rfl ?_
      refine kc_X4_moveValues_2 rfl (Nat.le_of_ble_eq_true rfl) (e_Joiner_moveValues_34) ?_
      refine Ev.s (ins := .aload_n 1) (pc' := 39) rfl rfl ?_
      refine Ev.s (ins := .iload_n 3) (pc' := 40) rfl rfl ?_
      refine Ev.s (ins := .iload 4) (pc' := 42) rfl rfl ?_
      refine kc_X4_moveEnd_2 rfl (Nat.le_of_ble_eq_true rfl) (e_Joiner_moveEnd_34) ?_
      refine Ev.s (ins := .aload_n 1) (pc' := 46) rfl rfl ?_
      refine Ev.s (ins := .iload 4) (pc' := 48) rfl rfl ?_
      refine kc_X3_loseBlock_0 rfl oi_34 rfl (Nat.le_of_ble_eq_true rfl) (e_Form_loseBlock_34) ?_
      refine q_inc 1 [none, some (.ref 34), some (.int (v2 + 1)), some (.int (Joiner_firstToJoin ma)), some (.int (oat ma 12 20 ((Joiner_firstToJoin ma) * 2)))] rfl rfl rfl rfl ?_
      refine Ev.goto rfl ?_
      refine Ev.weak [none, some (.ref 34), some (.int (v2 + 1)), none, none] ⟨rfl, rfl, rfl, rfl, rfl, trivial⟩ ?_
      replace hk := kK_l hk
      exact hk (mu_lt (lt31 c1))
  · replace hk := kK_r hk
    exact Ev.vret rfl rfl hk
set_option maxRecDepth 100000 in
theorem e_Joiner_goOver_113_34_L2 {v2 : Int32} {x : Option Value × List mmC} (hk : (kO (fun r : Ob => (none, mh sc rest to fl r tr mk cn nu de ru la tb tf ph cs)) x) (Joiner_goOver_L2 ma v2)) : Ev mmPT tbX4_goOver 2 [none, some (.ref 34), some (.int v2), none, none] [] (mh sc rest to fl ma tr mk cn nu de ru la tb tf ph cs) x :=
  k_loop (B := (fun a : Int32 × Ob => Joiner_goOver_L2b a.2 a.1)) (μ := fun a : Int32 × Ob => mu a.1) (E := fun a : Int32 × Ob => Ev mmPT tbX4_goOver 2 [none, some (.ref 34), some (.int a.1), none, none] [] (mh sc rest to fl a.2 tr mk cn nu de ru la tb tf ph cs) x) (X := (kO (fun r : Ob => (none, mh sc rest to fl r tr mk cn nu de ru la tb tf ph cs)) x)) (fun a hk => e_Joiner_goOver_113_34_L2b hk) (v2, ma) hk
set_option maxRecDepth 100000 in
theorem e_Joiner_goOver_113_34_0 {x : Option Value × List mmC} (hk : (kO (fun r : Ob => (none, mh sc rest to fl r tr mk cn nu de ru la tb tf ph cs)) x) (Joiner_goOver ma)) : Ev mmPT tbX4_goOver 0 [some (.ref 113), some (.ref 34), none, none, none] [] (mh sc rest to fl ma tr mk cn nu de ru la tb tf ph cs) x := by
  unfold Joiner_goOver at hk
  refine q_ic 0 rfl rfl ?_
  refine Ev.s (ins := .istore_n 2) (pc' := 2) (lv' := [some (.ref 113), some (.ref 34), some (.int 0), none, none]) rfl rfl ?_
  refine Ev.weak [none, some (.ref 34), some (.int 0), none, none] ⟨rfl, rfl, rfl, rfl, rfl, trivial⟩ ?_
  exact e_Joiner_goOver_113_34_L2 hk
set_option maxRecDepth 100000 in
theorem e_Joiner_goOver_113_34 : Ev mmPT tbX4_goOver 0 [some (.ref 113), some (.ref 34), none, none, none] [] (mh sc rest to fl ma tr mk cn nu de ru la tb tf ph cs) ((fun r : Ob => (none, mh sc rest to fl r tr mk cn nu de ru la tb tf ph cs)) (Joiner_goOver ma)) := e_Joiner_goOver_113_34_0 (by exact rfl)
set_option maxRecDepth 100000 in
theorem e_Form_sweep_34_75 {v1 : Int32} {v2 : Int32} {v3 : Int32} {v4 : Int32} {x : Option Value × List mmC} (b2 : v1 < 2147483647) (b21 : v4 < 2147483647) (hk : (kK (fun a : Int32 × Int32 × Ob => mu a.2.1) (mu v4) (fun a : Int32 × Int32 × Ob => Ev mmPT tbX3_sweep 21 [some (.ref 34), some (.int v1), some (.int v2), some (.int a.1), some (.int a.2.1), none] [] (mh sc rest to fl a.2.2 tr mk cn nu de ru la tb tf ph cs) x) (kK (fun a : Int32 × Ob => mu a.1) (mu v1) (fun a : Int32 × Ob => Ev mmPT tbX3_sweep 2 [some (.ref 34), some (.int a.1), none, none, none, none] [] (mh sc rest to fl a.2 tr mk cn nu de ru la tb tf ph cs) x) (kO (fun r : Ob => (none, mh sc rest to fl r tr mk cn nu de ru la tb tf ph cs)) x))) (Form_sweep_75 ma v1 v2 v3 v4)) : Ev mmPT tbX3_sweep 75 [some (.ref 34), some (.int v1), some (.int v2), some (.int v3), some (.int v4), none] [] (mh sc rest to fl ma tr mk cn nu de ru la tb tf ph cs) x := by
  unfold Form_sweep_75 at hk
  refine q_inc 1 [some (.ref 34), some (.int v1), some (.int v2), some (.int v3), some (.int (v4 + 1)), none] rfl rfl rfl rfl ?_
  refine Ev.goto rfl ?_
  replace hk := kK_l hk
  exact hk (mu_lt b21)
set_option maxRecDepth 100000 in
theorem e_Form_sweep_34_L21b {v1 : Int32} {v2 : Int32} {v3 : Int32} {v4 : Int32} {x : Option Value × List mmC} (b2 : v1 < 2147483647) (hk : (kK (fun a : Int32 × Int32 × Ob => mu a.2.1) (mu v4) (fun a : Int32 × Int32 × Ob => Ev mmPT tbX3_sweep 21 [some (.ref 34), some (.int v1), some (.int v2), some (.int a.1), some (.int a.2.1), none] [] (mh sc rest to fl a.2.2 tr mk cn nu de ru la tb tf ph cs) x) (kK (fun a : Int32 × Ob => mu a.1) (mu v1) (fun a : Int32 × Ob => Ev mmPT tbX3_sweep 2 [some (.ref 34), some (.int a.1), none, none, none, none] [] (mh sc rest to fl a.2 tr mk cn nu de ru la tb tf ph cs) x) (kO (fun r : Ob => (none, mh sc rest to fl r tr mk cn nu de ru la tb tf ph cs)) x))) (Form_sweep_L21b ma v1 v2 v3 v4)) : Ev mmPT tbX3_sweep 21 [some (.ref 34), some (.int v1), some (.int v2), some (.int v3), some (.int v4), none] [] (mh sc rest to fl ma tr mk cn nu de ru la tb tf ph cs) x := by
  unfold Form_sweep_L21b at hk
  refine Ev.s (ins := .iload 4) (pc' := 23) rfl rfl ?_
  refine Ev.s (ins := .aload_n 0) (pc' := 24) rfl rfl ?_
  refine gf_34_7 rfl ?_
  refine Ev.s (ins := .iload_n 1) (pc' := 28) rfl rfl ?_
  refine at_49 (oat ma 7 10 v1) rfl (Nat.le_of_ble_eq_true rfl) rfl ?_
  refine q_cge rfl hk (fun c1 hk => ?_) (fun c1 hk => ?_)
  · refine Ev.s (ins := .aload_n 0) (pc' := 35) rfl rfl ?_
    refine gf_34_8 rfl ?_
    refine Ev.s (ins := .iload_n 2) (pc' := 39) rfl rfl ?_
    refine Ev.s (ins := .iload 4) (pc' := 41) rfl rfl ?_
    refine Ev.s (ins := .iadd) (pc' := 42) rfl rfl ?_
    refine at_51 (oat ma 8 1400 (v2 + v4)) rfl (Nat.le_of_ble_eq_true rfl) rfl ?_
    refine Ev.s (ins := .istore 5) (pc' := 47) (lv' := [some (.ref 34), some (.int v1), some (.int v2), some (.int v3), some (.int v4), some (.int (oat ma 8 1400 (v2 + v4)))]) rfl rfl ?_
    refine Ev.s (ins := .aload_n 0) (pc' := 48) rfl rfl ?_
    refine gf_34_1 rfl ?_
    refine Ev.s (ins := .iload 5) (pc' := 53) rfl rfl ?_
    refine at_37 (oat ma 1 140 (oat ma 8 1400 (v2 + v4))) rfl (Nat.le_of_ble_eq_true rfl) rfl ?_
    refine Ev.s (ins := .iload_n 1) (pc' := 57) rfl rfl ?_
    refine q_cne rfl hk (fun c2 hk => ?_) (fun c2 hk => ?_)
    · refine Ev.s (ins := .aload_n 0) (pc' := 61) rfl rfl ?_
      refine gf_34_8 rfl ?_
      refine Ev.s (ins := .iload_n 2) (pc' := 65) rfl rfl ?_
      refine Ev.s (ins := .iload_n 3) (pc' := 66) rfl rfl ?_
      refine Ev.s (ins := .iadd) (pc' := 67) rfl rfl ?_
      refine Ev.s (ins := .iload 5) (pc' := 69) rfl rfl ?_
      refine pt_51 rfl (Nat.le_of_ble_eq_true rfl) ?_
      refine q_inc 1 [some (.ref 34), some (.int v1), some (.int v2), some (.int (v3 + 1)), some (.int v4), some (.int (oat ma 8 1400 (v2 + v4)))] rfl rfl rfl rfl ?_
      refine Ev.weak [some (.ref 34), some (.int v1), some (.int v2), some (.int (v3 + 1)), some (.int v4), none] ⟨rfl, rfl, rfl, rfl, rfl, rfl, trivial⟩ ?_
      exact e_Form_sweep_34_75 b2 (lt31 c1) hk
    · refine Ev.weak [some (.ref 34), some (.int v1), some (.int v2), some (.int v3), some (.int v4), none] ⟨rfl, rfl, rfl, rfl, rfl, rfl, trivial⟩ ?_
      exact e_Form_sweep_34_75 b2 (lt31 c1) hk
  · replace hk := kK_r hk
    refine Ev.s (ins := .aload_n 0) (pc' := 82) rfl rfl ?_
    refine gf_34_7 rfl ?_
    refine Ev.s (ins := .iload_n 1) (pc' := 86) rfl rfl ?_
    refine Ev.s (ins := .iload_n 3) (pc' := 87) rfl rfl ?_
    refine pt_49 rfl (Nat.le_of_ble_eq_true rfl) ?_
    refine q_inc 1 [some (.ref 34), some (.int (v1 + 1)), some (.int v2), some (.int v3), some (.int v4), none] rfl rfl rfl rfl ?_
    refine Ev.goto rfl ?_
    refine Ev.weak [some (.ref 34), some (.int (v1 + 1)), none, none, none, none] ⟨rfl, rfl, rfl, rfl, rfl, rfl, trivial⟩ ?_
    replace hk := kK_l hk
    exact hk (mu_lt b2)
set_option maxRecDepth 100000 in
theorem e_Form_sweep_34_L21 {v1 : Int32} {v2 : Int32} {v3 : Int32} {v4 : Int32} {x : Option Value × List mmC} (b2 : v1 < 2147483647) (hk : (kK (fun a : Int32 × Ob => mu a.1) (mu v1) (fun a : Int32 × Ob => Ev mmPT tbX3_sweep 2 [some (.ref 34), some (.int a.1), none, none, none, none] [] (mh sc rest to fl a.2 tr mk cn nu de ru la tb tf ph cs) x) (kO (fun r : Ob => (none, mh sc rest to fl r tr mk cn nu de ru la tb tf ph cs)) x)) (Form_sweep_L21 ma v1 v2 v3 v4)) : Ev mmPT tbX3_sweep 21 [some (.ref 34), some (.int v1), some (.int v2), some (.int v3), some (.int v4), none] [] (mh sc rest to fl ma tr mk cn nu de ru la tb tf ph cs) x :=
  k_loop (B := (fun a : Int32 × Int32 × Ob => Form_sweep_L21b a.2.2 v1 v2 a.1 a.2.1)) (μ := fun a : Int32 × Int32 × Ob => mu a.2.1) (E := fun a : Int32 × Int32 × Ob => Ev mmPT tbX3_sweep 21 [some (.ref 34), some (.int v1), some (.int v2), some (.int a.1), some (.int a.2.1), none] [] (mh sc rest to fl a.2.2 tr mk cn nu de ru la tb tf ph cs) x) (X := (kK (fun a : Int32 × Ob => mu a.1) (mu v1) (fun a : Int32 × Ob => Ev mmPT tbX3_sweep 2 [some (.ref 34), some (.int a.1), none, none, none, none] [] (mh sc rest to fl a.2 tr mk cn nu de ru la tb tf ph cs) x) (kO (fun r : Ob => (none, mh sc rest to fl r tr mk cn nu de ru la tb tf ph cs)) x))) (fun a hk => e_Form_sweep_34_L21b b2 hk) (v3, v4, ma) hk
set_option maxRecDepth 100000 in
theorem e_Form_sweep_34_L2b {v1 : Int32} {x : Option Value × List mmC} (hk : (kK (fun a : Int32 × Ob => mu a.1) (mu v1) (fun a : Int32 × Ob => Ev mmPT tbX3_sweep 2 [some (.ref 34), some (.int a.1), none, none, none, none] [] (mh sc rest to fl a.2 tr mk cn nu de ru la tb tf ph cs) x) (kO (fun r : Ob => (none, mh sc rest to fl r tr mk cn nu de ru la tb tf ph cs)) x)) (Form_sweep_L2b ma v1)) : Ev mmPT tbX3_sweep 2 [some (.ref 34), some (.int v1), none, none, none, none] [] (mh sc rest to fl ma tr mk cn nu de ru la tb tf ph cs) x := by
  unfold Form_sweep_L2b at hk
  refine Ev.s (ins := .iload_n 1) (pc' := 3) rfl rfl ?_
  refine Ev.s (ins := .aload_n 0) (pc' := 4) rfl rfl ?_
  refine gf_34_13 (ma.2.1 0) rfl rfl ?_
  refine q_cge rfl hk (fun c1 hk => ?_) (fun c1 hk => ?_)
  · refine Ev.s (ins := .iload_n 1) (pc' := 11) rfl rfl ?_
    refine q_si 140 rfl rfl ?_
    refine Ev.s (ins := .imul) (pc' := 15) rfl rfl ?_
    refine Ev.s (ins := .istore_n 2) (pc' := 16) (lv' := [some (.ref 34), some (.int v1), some (.int (v1 * 140)), none, none, none]) rfl rfl ?_
    refine q_ic 0 rfl rfl ?_
    refine Ev.s (ins := .istore_n 3) (pc' := 18) (lv' := [some (.ref 34), some (.int v1), some (.int (v1 * 140)), some (.int 0), none, none]) rfl rfl ?_
    refine q_ic 0 rfl rfl ?_
    refine Ev.s (ins := .istore 4) (pc' := 21) (lv' := [some (.ref 34), some (.int v1), some (.int (v1 * 140)), some (.int 0), some (.int 0), none]) rfl rfl ?_
    exact e_Form_sweep_34_L21 (lt31 c1) hk
  · replace hk := kK_r hk
    exact Ev.vret rfl rfl hk
set_option maxRecDepth 100000 in
theorem e_Form_sweep_34_L2 {v1 : Int32} {x : Option Value × List mmC} (hk : (kO (fun r : Ob => (none, mh sc rest to fl r tr mk cn nu de ru la tb tf ph cs)) x) (Form_sweep_L2 ma v1)) : Ev mmPT tbX3_sweep 2 [some (.ref 34), some (.int v1), none, none, none, none] [] (mh sc rest to fl ma tr mk cn nu de ru la tb tf ph cs) x :=
  k_loop (B := (fun a : Int32 × Ob => Form_sweep_L2b a.2 a.1)) (μ := fun a : Int32 × Ob => mu a.1) (E := fun a : Int32 × Ob => Ev mmPT tbX3_sweep 2 [some (.ref 34), some (.int a.1), none, none, none, none] [] (mh sc rest to fl a.2 tr mk cn nu de ru la tb tf ph cs) x) (X := (kO (fun r : Ob => (none, mh sc rest to fl r tr mk cn nu de ru la tb tf ph cs)) x)) (fun a hk => e_Form_sweep_34_L2b hk) (v1, ma) hk
set_option maxRecDepth 100000 in
theorem e_Form_sweep_34_0 {x : Option Value × List mmC} (hk : (kO (fun r : Ob => (none, mh sc rest to fl r tr mk cn nu de ru la tb tf ph cs)) x) (Form_sweep ma)) : Ev mmPT tbX3_sweep 0 [some (.ref 34), none, none, none, none, none] [] (mh sc rest to fl ma tr mk cn nu de ru la tb tf ph cs) x := by
  unfold Form_sweep at hk
  refine q_ic 0 rfl rfl ?_
  refine Ev.s (ins := .istore_n 1) (pc' := 2) (lv' := [some (.ref 34), some (.int 0), none, none, none, none]) rfl rfl ?_
  exact e_Form_sweep_34_L2 hk
set_option maxRecDepth 100000 in
theorem e_Form_sweep_34 : Ev mmPT tbX3_sweep 0 [some (.ref 34), none, none, none, none, none] [] (mh sc rest to fl ma tr mk cn nu de ru la tb tf ph cs) ((fun r : Ob => (none, mh sc rest to fl r tr mk cn nu de ru la tb tf ph cs)) (Form_sweep ma)) := e_Form_sweep_34_0 (by exact rfl)
set_option maxRecDepth 100000 in
theorem e_Ph_passOver_34_86 {v3 : Int32} {x : Option Value × List mmC} (hk : (kO (fun r : Int32 × Ob × Ob × Ob × Ob => (some (.int r.1), mh sc rest to fl r.2.1 tr mk r.2.2.1 r.2.2.2.1 r.2.2.2.2 ru la tb tf ph cs)) x) (Ph_passOver_86 ma cn nu de v3)) : Ev mmPT tbX11_passOver 86 [none, some (.ref 34), none, some (.int v3)] [.ref 34, .ref 34] (mh sc rest to fl ma tr mk cn nu de ru la tb tf ph cs) x := by
  unfold Ph_passOver_86 at hk
  refine gf_34_17 (ma.2.1 4) rfl rfl ?_
  refine q_ic 1 rfl rfl ?_
  refine Ev.s (ins := .iadd) (pc' := 91) rfl rfl ?_
  refine pf_34_17 ((ma.2.1 4) + 1) rfl ?_
  refine Ev.s (ins := .aload_n 1) (pc' := 95) rfl rfl ?_
  refine gf_34_18 (ma.2.1 5) rfl rfl ?_
  refine Ev.s (ins := .iload_n 3) (pc' := 99) rfl rfl ?_
  refine Ev.s (ins := .isub) (pc' := 100) rfl rfl ?_
  exact Ev.iret rfl rfl hk
set_option maxRecDepth 100000 in
theorem e_Ph_passOver_34_80 {v3 : Int32} {x : Option Value × List mmC} (hk : (kO (fun r : Int32 × Ob × Ob × Ob × Ob => (some (.int r.1), mh sc rest to fl r.2.1 tr mk r.2.2.1 r.2.2.2.1 r.2.2.2.2 ru la tb tf ph cs)) x) (Ph_passOver_80 ma cn nu de v3)) : Ev mmPT tbX11_passOver 80 [none, some (.ref 34), none, some (.int v3)] [] (mh sc rest to fl ma tr mk cn nu de ru la tb tf ph cs) x := by
  unfold Ph_passOver_80 at hk
  refine Ev.s (ins := .aload_n 1) (pc' := 81) rfl rfl ?_
  refine kc_X3_sweep_0 rfl oi_34 rfl (Nat.le_of_ble_eq_true rfl) (e_Form_sweep_34) ?_
  refine Ev.s (ins := .aload_n 1) (pc' := 85) rfl rfl ?_
  refine Ev.s (ins := .dup) (pc' := 86) rfl rfl ?_
  exact e_Ph_passOver_34_86 hk
set_option maxRecDepth 100000 in
theorem e_Ph_passOver_34_44 {v3 : Int32} {x : Option Value × List mmC} (hk : (kO (fun r : Int32 × Ob × Ob × Ob × Ob => (some (.int r.1), mh sc rest to fl r.2.1 tr mk r.2.2.1 r.2.2.2.1 r.2.2.2.2 ru la tb tf ph cs)) x) (Ph_passOver_44 ma cn nu de v3)) : Ev mmPT tbX11_passOver 44 [none, some (.ref 34), none, some (.int v3)] [] (mh sc rest to fl ma tr mk cn nu de ru la tb tf ph cs) x := by
  unfold Ph_passOver_44 at hk
  refine Ev.goto rfl ?_
  exact e_Ph_passOver_34_80 hk
set_option maxRecDepth 100000 in
theorem e_Ph_passOver_34_55 {v3 : Int32} {x : Option Value × List mmC} (hk : (kO (fun r : Int32 × Ob × Ob × Ob × Ob => (some (.int r.1), mh sc rest to fl r.2.1 tr mk r.2.2.1 r.2.2.2.1 r.2.2.2.2 ru la tb tf ph cs)) x) (Ph_passOver_55 ma cn nu de v3)) : Ev mmPT tbX11_passOver 55 [none, some (.ref 34), none, some (.int v3)] [] (mh sc rest to fl ma tr mk cn nu de ru la tb tf ph cs) x := by
  unfold Ph_passOver_55 at hk
  refine Ev.goto rfl ?_
  exact e_Ph_passOver_34_80 hk
set_option maxRecDepth 100000 in
theorem e_Ph_passOver_34_66 {v3 : Int32} {x : Option Value × List mmC} (hk : (kO (fun r : Int32 × Ob × Ob × Ob × Ob => (some (.int r.1), mh sc rest to fl r.2.1 tr mk r.2.2.1 r.2.2.2.1 r.2.2.2.2 ru la tb tf ph cs)) x) (Ph_passOver_66 ma cn nu de v3)) : Ev mmPT tbX11_passOver 66 [none, some (.ref 34), none, some (.int v3)] [] (mh sc rest to fl ma tr mk cn nu de ru la tb tf ph cs) x := by
  unfold Ph_passOver_66 at hk
  refine Ev.goto rfl ?_
  exact e_Ph_passOver_34_80 hk
set_option maxRecDepth 100000 in
theorem e_Ph_passOver_34_0 {v2 : Int32} {x : Option Value × List mmC} (hk : (kO (fun r : Int32 × Ob × Ob × Ob × Ob => (some (.int r.1), mh sc rest to fl r.2.1 tr mk r.2.2.1 r.2.2.2.1 r.2.2.2.2 ru la tb tf ph cs)) x) (Ph_passOver ma cn nu de v2)) : Ev mmPT tbX11_passOver 0 [some (.ref 1), some (.ref 34), some (.int v2), none] [] (mh sc rest to fl ma tr mk cn nu de ru la tb tf ph cs) x := by
  unfold Ph_passOver at hk
  refine Ev.s (ins := .aload_n 1) (pc' := 1) rfl rfl ?_
  refine gf_34_18 (ma.2.1 5) rfl rfl ?_
  refine Ev.s (ins := .istore_n 3) (pc' := 5) (lv' := [some (.ref 1), some (.ref 34), some (.int v2), some (.int (ma.2.1 5))]) rfl rfl ?_
  refine Ev.s (ins := .iload_n 2) (pc' := 6) rfl rfl ?_
  refine q_if hk (fun c1 hk => ?_) (fun c1 hk => ?_)
  · refine Ev.sw (tg := 36) rfl rfl (by rw [c1]; rfl) ?_
    refine Ev.s (ins := .aload_n 0) (pc' := 37) rfl rfl ?_
    refine gf_1_4 rfl ?_
    refine Ev.s (ins := .aload_n 1) (pc' := 41) rfl rfl ?_
    refine kc_X0_goOver_0 rfl oi_95 rfl (Nat.le_of_ble_eq_true rfl) (e_Constants_goOver_95_34) ?_
    refine Ev.weak [none, some (.ref 34), none, some (.int (ma.2.1 5))] ⟨rfl, rfl, rfl, rfl, trivial⟩ ?_
    exact e_Ph_passOver_34_44 hk
  · skip
    refine q_if hk (fun c2 hk => ?_) (fun c2 hk => ?_)
    · refine Ev.sw (tg := 47) rfl rfl (by rw [c2]; rfl) ?_
      refine Ev.s (ins := .aload_n 0) (pc' := 48) rfl rfl ?_
      refine gf_1_5 rfl ?_
      refine Ev.s (ins := .aload_n 1) (pc' := 52) rfl rfl ?_
      refine kc_X6_goOver_0 rfl oi_100 rfl (Nat.le_of_ble_eq_true rfl) (e_Numbers_goOver_100_34) ?_
      refine Ev.weak [none, some (.ref 34), none, some (.int (ma.2.1 5))] ⟨rfl, rfl, rfl, rfl, trivial⟩ ?_
      exact e_Ph_passOver_34_55 hk
    · skip
      refine q_if hk (fun c3 hk => ?_) (fun c3 hk => ?_)
      · refine Ev.sw (tg := 58) rfl rfl (by rw [c3]; rfl) ?_
        refine Ev.s (ins := .aload_n 0) (pc' := 59) rfl rfl ?_
        refine gf_1_6 rfl ?_
        refine Ev.s (ins := .aload_n 1) (pc' := 63) rfl rfl ?_
        refine kc_X1_goOver_0 rfl oi_110 rfl (Nat.le_of_ble_eq_true rfl) (e_Dead_goOver_110_34) ?_
        refine Ev.weak [none, some (.ref 34), none, some (.int (ma.2.1 5))] ⟨rfl, rfl, rfl, rfl, trivial⟩ ?_
        exact e_Ph_passOver_34_66 hk
      · skip
        refine q_if hk (fun c4 hk => ?_) (fun c4 hk => ?_)
        · refine Ev.sw (tg := 69) rfl rfl (by rw [c4]; rfl) ?_
          refine Ev.s (ins := .aload_n 0) (pc' := 70) rfl rfl ?_
          refine gf_1_7 rfl ?_
          refine Ev.s (ins := .aload_n 1) (pc' := 74) rfl rfl ?_
          refine kc_X4_goOver_0 rfl oi_113 rfl (Nat.le_of_ble_eq_true rfl) (e_Joiner_goOver_113_34) ?_
          refine Ev.goto rfl ?_
          refine Ev.weak [none, some (.ref 34), none, some (.int (ma.2.1 5))] ⟨rfl, rfl, rfl, rfl, trivial⟩ ?_
          exact e_Ph_passOver_34_80 hk
        · skip
          refine Ev.sw (tg := 80) rfl rfl (swg (by decide) (by decide) (fun k h e => ?_)) ?_
          · have h9 : k < 4 := by omega
            match k, h9, e with
            | 0, _, e => exact absurd e c1
            | 1, _, e => exact absurd e c2
            | 2, _, e => exact absurd e c3
            | 3, _, e => exact absurd e c4
          · refine Ev.weak [none, some (.ref 34), none, some (.int (ma.2.1 5))] ⟨rfl, rfl, rfl, rfl, trivial⟩ ?_
            exact e_Ph_passOver_34_80 hk
set_option maxRecDepth 100000 in
theorem e_Ph_passOver_34 {v2 : Int32} : Ev mmPT tbX11_passOver 0 [some (.ref 1), some (.ref 34), some (.int v2), none] [] (mh sc rest to fl ma tr mk cn nu de ru la tb tf ph cs) ((fun r : Int32 × Ob × Ob × Ob × Ob => (some (.int r.1), mh sc rest to fl r.2.1 tr mk r.2.2.1 r.2.2.2.1 r.2.2.2.2 ru la tb tf ph cs)) (Ph_passOver ma cn nu de v2)) := e_Ph_passOver_34_0 (by exact rfl)
set_option maxRecDepth 100000 in
theorem e_Ph_pass_0 {v1 : Int32} {x : Option Value × List mmC} (hk : (kP (fun r : Int32 × Ob × Ob × Ob × Ob => (some (.int r.1), mh sc rest to fl r.2.1 tr mk r.2.2.1 r.2.2.2.1 r.2.2.2.2 ru la tb tf ph cs)) x) (Ph_pass ma cn nu de ph v1)) : Ev mmPT tbX11_pass 0 [some (.ref 1), some (.int v1)] [] (mh sc rest to fl ma tr mk cn nu de ru la tb tf ph cs) x := by
  unfold Ph_pass at hk
  refine Ev.s (ins := .iload_n 1) (pc' := 1) rfl rfl ?_
  refine kc_X11_isPass_2 rfl (Nat.le_of_ble_eq_true rfl) (e_Ph_isPass) ?_
  refine q_bne rfl hk (fun c1 hk => ?_) (fun c1 hk => ?_)
  · refine Ev.s (ins := .aload_n 0) (pc' := 18) rfl rfl ?_
    refine gf_1_12 (ph.2.2 0) rfl rfl ?_
    refine q_bne rfl hk (fun c2 hk => ?_) (fun c2 hk => ?_)
    · refine Ev.s (ins := .aload_n 0) (pc' := 35) rfl rfl ?_
      refine Ev.s (ins := .aload_n 0) (pc' := 36) rfl rfl ?_
      refine gf_1_1 rfl ?_
      refine Ev.s (ins := .iload_n 1) (pc' := 40) rfl rfl ?_
      refine kc_X11_passOver_0 rfl oi_1 rfl (Nat.le_of_ble_eq_true rfl) (e_Ph_passOver_34) ?_
      exact Ev.iret rfl rfl hk
    · exact False.elim hk
  · exact False.elim hk
set_option maxRecDepth 100000 in
theorem e_Ph_pass {v1 : Int32} {r : Int32 × Ob × Ob × Ob × Ob} (hr : (Ph_pass ma cn nu de ph v1) = some r) : Ev mmPT tbX11_pass 0 [some (.ref 1), some (.int v1)] [] (mh sc rest to fl ma tr mk cn nu de ru la tb tf ph cs) ((fun r : Int32 × Ob × Ob × Ob × Ob => (some (.int r.1), mh sc rest to fl r.2.1 tr mk r.2.2.1 r.2.2.2.1 r.2.2.2.2 ru la tb tf ph cs)) r) := e_Ph_pass_0 (by rw [hr]; exact rfl)
set_option maxRecDepth 100000 in
theorem e_Ph_ofPlace_22 {x : Option Value × List mmC} (hk : (kP (fun r : Int32 => (some (.int r), mh sc rest to fl ma tr mk cn nu de ru la tb tf ph cs)) x) (Ph_ofPlace_22 ma ph)) : Ev mmPT tbX11_ofPlace 22 [none, none, none, none] [] (mh sc rest to fl ma tr mk cn nu de ru la tb tf ph cs) x := by
  unfold Ph_ofPlace_22 at hk
  exact False.elim hk
set_option maxRecDepth 100000 in
theorem e_Ph_ofPlace_0 {v1 : Int32} {v2 : Int32} {x : Option Value × List mmC} (hk : (kP (fun r : Int32 => (some (.int r), mh sc rest to fl ma tr mk cn nu de ru la tb tf ph cs)) x) (Ph_ofPlace ma ph v1 v2)) : Ev mmPT tbX11_ofPlace 0 [some (.ref 1), some (.int v1), some (.int v2), none] [] (mh sc rest to fl ma tr mk cn nu de ru la tb tf ph cs) x := by
  unfold Ph_ofPlace at hk
  refine Ev.s (ins := .aload_n 0) (pc' := 1) rfl rfl ?_
  refine gf_1_12 (ph.2.2 0) rfl rfl ?_
  refine q_beq rfl hk (fun c1 hk => ?_) (fun c1 hk => ?_)
  · refine Ev.s (ins := .iload_n 1) (pc' := 8) rfl rfl ?_
    refine q_lt rfl hk (fun c2 hk => ?_) (fun c2 hk => ?_)
    · refine Ev.weak [none, none, none, none] ⟨rfl, rfl, rfl, rfl, trivial⟩ ?_
      exact e_Ph_ofPlace_22 hk
    · refine Ev.s (ins := .iload_n 1) (pc' := 12) rfl rfl ?_
      refine Ev.s (ins := .aload_n 0) (pc' := 13) rfl rfl ?_
      refine gf_1_1 rfl ?_
      refine gf_34_13 (ma.2.1 0) rfl rfl ?_
      refine q_clt rfl hk (fun c3 hk => ?_) (fun c3 hk => ?_)
      · refine Ev.s (ins := .aload_n 0) (pc' := 33) rfl rfl ?_
        refine gf_1_1 rfl ?_
        refine gf_34_14 (ma.2.1 1) rfl rfl ?_
        refine Ev.s (ins := .iload_n 1) (pc' := 40) rfl rfl ?_
        refine kc_X11_has_2 rfl (Nat.le_of_ble_eq_true rfl) (e_Ph_has) ?_
        refine Ev.s (ins := .istore_n 3) (pc' := 44) (lv' := [some (.ref 1), some (.int v1), some (.int v2), some (.int (b2i (Ph_has (ma.2.1 1) v1)))]) rfl rfl ?_
        refine Ev.s (ins := .iload_n 2) (pc' := 45) rfl rfl ?_
        refine q_if hk (fun c4 hk => ?_) (fun c4 hk => ?_)
        · refine Ev.sw (tg := 92) rfl rfl (by rw [c4]; rfl) ?_
          refine Ev.s (ins := .iload_n 3) (pc' := 93) rfl rfl ?_
          refine q_beq rfl hk (fun c5 hk => ?_) (fun c5 hk => ?_)
          · refine q_ic 1 rfl rfl ?_
            refine Ev.goto rfl ?_
            exact Ev.iret rfl rfl hk
          · refine q_ic 0 rfl rfl ?_
            exact Ev.iret rfl rfl hk
        · skip
          refine q_if hk (fun c5 hk => ?_) (fun c5 hk => ?_)
          · refine Ev.sw (tg := 102) rfl rfl (by rw [c5]; rfl) ?_
            refine Ev.s (ins := .iload_n 3) (pc' := 103) rfl rfl ?_
            refine q_beq rfl hk (fun c6 hk => ?_) (fun c6 hk => ?_)
            · refine Ev.s (ins := .aload_n 0) (pc' := 107) rfl rfl ?_
              refine gf_1_1 rfl ?_
              refine gf_34_7 rfl ?_
              refine Ev.s (ins := .iload_n 1) (pc' := 114) rfl rfl ?_
              refine at_49 (oat ma 7 10 v1) rfl (Nat.le_of_ble_eq_true rfl) rfl ?_
              refine Ev.goto rfl ?_
              exact Ev.iret rfl rfl hk
            · refine q_ic 0 rfl rfl ?_
              exact Ev.iret rfl rfl hk
          · skip
            refine q_if hk (fun c6 hk => ?_) (fun c6 hk => ?_)
            · refine Ev.sw (tg := 122) rfl rfl (by rw [c6]; rfl) ?_
              refine Ev.s (ins := .iload_n 3) (pc' := 123) rfl rfl ?_
              refine q_beq rfl hk (fun c7 hk => ?_) (fun c7 hk => ?_)
              · refine Ev.s (ins := .aload_n 0) (pc' := 127) rfl rfl ?_
                refine gf_1_1 rfl ?_
                refine gf_34_11 rfl ?_
                refine Ev.s (ins := .iload_n 1) (pc' := 134) rfl rfl ?_
                refine at_57 (oat ma 11 10 v1) rfl (Nat.le_of_ble_eq_true rfl) rfl ?_
                refine Ev.goto rfl ?_
                exact Ev.iret rfl rfl hk
              · refine q_ic 0 rfl rfl ?_
                exact Ev.iret rfl rfl hk
            · skip
              refine q_if hk (fun c7 hk => ?_) (fun c7 hk => ?_)
              · refine Ev.sw (tg := 142) rfl rfl (by rw [c7]; rfl) ?_
                refine Ev.s (ins := .iload_n 3) (pc' := 143) rfl rfl ?_
                refine q_beq rfl hk (fun c8 hk => ?_) (fun c8 hk => ?_)
                · refine Ev.s (ins := .aload_n 0) (pc' := 147) rfl rfl ?_
                  refine gf_1_1 rfl ?_
                  refine gf_34_12 rfl ?_
                  refine Ev.s (ins := .iload_n 1) (pc' := 154) rfl rfl ?_
                  refine q_ic 2 rfl rfl ?_
                  refine Ev.s (ins := .imul) (pc' := 156) rfl rfl ?_
                  refine at_59 (oat ma 12 20 (v1 * 2)) rfl (Nat.le_of_ble_eq_true rfl) rfl ?_
                  refine Ev.goto rfl ?_
                  exact Ev.iret rfl rfl hk
                · refine q_ic 0 rfl rfl ?_
                  exact Ev.iret rfl rfl hk
              · skip
                refine q_if hk (fun c8 hk => ?_) (fun c8 hk => ?_)
                · refine Ev.sw (tg := 164) rfl rfl (by rw [c8]; rfl) ?_
                  refine Ev.s (ins := .iload_n 3) (pc' := 165) rfl rfl ?_
                  refine q_beq rfl hk (fun c9 hk => ?_) (fun c9 hk => ?_)
                  · refine Ev.s (ins := .aload_n 0) (pc' := 169) rfl rfl ?_
                    refine gf_1_1 rfl ?_
                    refine gf_34_12 rfl ?_
                    refine Ev.s (ins := .iload_n 1) (pc' := 176) rfl rfl ?_
                    refine q_ic 2 rfl rfl ?_
                    refine Ev.s (ins := .imul) (pc' := 178) rfl rfl ?_
                    refine q_ic 1 rfl rfl ?_
                    refine Ev.s (ins := .iadd) (pc' := 180) rfl rfl ?_
                    refine at_59 (oat ma 12 20 ((v1 * 2) + 1)) rfl (Nat.le_of_ble_eq_true rfl) rfl ?_
                    refine Ev.goto rfl ?_
                    exact Ev.iret rfl rfl hk
                  · refine q_ic 0 rfl rfl ?_
                    exact Ev.iret rfl rfl hk
                · skip
                  refine q_if hk (fun c9 hk => ?_) (fun c9 hk => ?_)
                  · refine Ev.sw (tg := 188) rfl rfl (by rw [c9]; rfl) ?_
                    refine Ev.s (ins := .iload_n 3) (pc' := 189) rfl rfl ?_
                    refine q_beq rfl hk (fun c10 hk => ?_) (fun c10 hk => ?_)
                    · refine Ev.s (ins := .aload_n 0) (pc' := 193) rfl rfl ?_
                      refine gf_1_1 rfl ?_
                      refine gf_34_9 rfl ?_
                      refine Ev.s (ins := .iload_n 1) (pc' := 200) rfl rfl ?_
                      refine at_53 (oat ma 9 10 v1) rfl (Nat.le_of_ble_eq_true rfl) rfl ?_
                      refine Ev.goto rfl ?_
                      exact Ev.iret rfl rfl hk
                    · refine q_ic 0 rfl rfl ?_
                      exact Ev.iret rfl rfl hk
                  · skip
                    refine q_if hk (fun c10 hk => ?_) (fun c10 hk => ?_)
                    · refine Ev.sw (tg := 208) rfl rfl (by rw [c10]; rfl) ?_
                      refine Ev.s (ins := .iload_n 3) (pc' := 209) rfl rfl ?_
                      refine q_beq rfl hk (fun c11 hk => ?_) (fun c11 hk => ?_)
                      · refine Ev.s (ins := .aload_n 0) (pc' := 213) rfl rfl ?_
                        refine gf_1_1 rfl ?_
                        refine q_si 140 rfl rfl ?_
                        refine Ev.s (ins := .iload_n 1) (pc' := 220) rfl rfl ?_
                        refine Ev.s (ins := .iadd) (pc' := 221) rfl rfl ?_
                        refine q_ic 0 rfl rfl ?_
                        refine kc_X3_valueOf_0 rfl oi_34 rfl (Nat.le_of_ble_eq_true rfl) (e_Form_valueOf_34) ?_
                        refine Ev.goto rfl ?_
                        exact Ev.iret rfl rfl hk
                      · refine q_ic 0 rfl rfl ?_
                        exact Ev.iret rfl rfl hk
                    · skip
                      refine q_if hk (fun c11 hk => ?_) (fun c11 hk => ?_)
                      · refine Ev.sw (tg := 230) rfl rfl (by rw [c11]; rfl) ?_
                        refine Ev.s (ins := .iload_n 3) (pc' := 231) rfl rfl ?_
                        refine q_beq rfl hk (fun c12 hk => ?_) (fun c12 hk => ?_)
                        · refine Ev.s (ins := .aload_n 0) (pc' := 235) rfl rfl ?_
                          refine gf_1_1 rfl ?_
                          refine q_si 140 rfl rfl ?_
                          refine Ev.s (ins := .iload_n 1) (pc' := 242) rfl rfl ?_
                          refine Ev.s (ins := .iadd) (pc' := 243) rfl rfl ?_
                          refine q_ic 0 rfl rfl ?_
                          refine kc_X3_numberOf_0 rfl oi_34 rfl (Nat.le_of_ble_eq_true rfl) (e_Form_numberOf_34) ?_
                          refine Ev.goto rfl ?_
                          exact Ev.iret rfl rfl hk
                        · refine q_ic 0 rfl rfl ?_
                          exact Ev.iret rfl rfl hk
                      · skip
                        refine Ev.sw (tg := 252) rfl rfl (swg (by decide) (by decide) (fun k h e => ?_)) ?_
                        · have h9 : k < 8 := by omega
                          match k, h9, e with
                          | 0, _, e => exact absurd e c4
                          | 1, _, e => exact absurd e c5
                          | 2, _, e => exact absurd e c6
                          | 3, _, e => exact absurd e c7
                          | 4, _, e => exact absurd e c8
                          | 5, _, e => exact absurd e c9
                          | 6, _, e => exact absurd e c10
                          | 7, _, e => exact absurd e c11
                        · exact False.elim hk
      · refine Ev.weak [none, none, none, none] ⟨rfl, rfl, rfl, rfl, trivial⟩ ?_
        exact e_Ph_ofPlace_22 hk
  · refine Ev.weak [none, none, none, none] ⟨rfl, rfl, rfl, rfl, trivial⟩ ?_
    exact e_Ph_ofPlace_22 hk
set_option maxRecDepth 100000 in
theorem e_Ph_ofPlace {v1 : Int32} {v2 : Int32} {r : Int32} (hr : (Ph_ofPlace ma ph v1 v2) = some r) : Ev mmPT tbX11_ofPlace 0 [some (.ref 1), some (.int v1), some (.int v2), none] [] (mh sc rest to fl ma tr mk cn nu de ru la tb tf ph cs) ((fun r : Int32 => (some (.int r), mh sc rest to fl ma tr mk cn nu de ru la tb tf ph cs)) r) := e_Ph_ofPlace_0 (by rw [hr]; exact rfl)
set_option maxRecDepth 100000 in
theorem e_Ph_valueAt_40 {x : Option Value × List mmC} (hk : (kP (fun r : Int32 => (some (.int r), mh sc rest to fl ma tr mk cn nu de ru la tb tf ph cs)) x) (Ph_valueAt_40 ma ph)) : Ev mmPT tbX11_valueAt 40 [none, none, none] [] (mh sc rest to fl ma tr mk cn nu de ru la tb tf ph cs) x := by
  unfold Ph_valueAt_40 at hk
  exact False.elim hk
set_option maxRecDepth 100000 in
theorem e_Ph_valueAt_0 {v1 : Int32} {v2 : Int32} {x : Option Value × List mmC} (hk : (kP (fun r : Int32 => (some (.int r), mh sc rest to fl ma tr mk cn nu de ru la tb tf ph cs)) x) (Ph_valueAt ma ph v1 v2)) : Ev mmPT tbX11_valueAt 0 [some (.ref 1), some (.int v1), some (.int v2)] [] (mh sc rest to fl ma tr mk cn nu de ru la tb tf ph cs) x := by
  unfold Ph_valueAt at hk
  refine Ev.s (ins := .aload_n 0) (pc' := 1) rfl rfl ?_
  refine gf_1_12 (ph.2.2 0) rfl rfl ?_
  refine q_beq rfl hk (fun c1 hk => ?_) (fun c1 hk => ?_)
  · refine Ev.s (ins := .aload_n 0) (pc' := 8) rfl rfl ?_
    refine gf_1_1 rfl ?_
    refine gf_34_14 (ma.2.1 1) rfl rfl ?_
    refine Ev.s (ins := .iload_n 1) (pc' := 15) rfl rfl ?_
    refine kc_X11_has_2 rfl (Nat.le_of_ble_eq_true rfl) (e_Ph_has) ?_
    refine q_beq rfl hk (fun c2 hk => ?_) (fun c2 hk => ?_)
    · refine Ev.s (ins := .iload_n 2) (pc' := 22) rfl rfl ?_
      refine q_lt rfl hk (fun c3 hk => ?_) (fun c3 hk => ?_)
      · refine Ev.weak [none, none, none] ⟨rfl, rfl, rfl, trivial⟩ ?_
        exact e_Ph_valueAt_40 hk
      · refine Ev.s (ins := .iload_n 2) (pc' := 26) rfl rfl ?_
        refine Ev.s (ins := .aload_n 0) (pc' := 27) rfl rfl ?_
        refine gf_1_1 rfl ?_
        refine gf_34_7 rfl ?_
        refine Ev.s (ins := .iload_n 1) (pc' := 34) rfl rfl ?_
        refine at_49 (oat ma 7 10 v1) rfl (Nat.le_of_ble_eq_true rfl) rfl ?_
        refine q_clt rfl hk (fun c4 hk => ?_) (fun c4 hk => ?_)
        · refine Ev.s (ins := .aload_n 0) (pc' := 51) rfl rfl ?_
          refine gf_1_1 rfl ?_
          refine Ev.s (ins := .iload_n 1) (pc' := 55) rfl rfl ?_
          refine Ev.s (ins := .iload_n 2) (pc' := 56) rfl rfl ?_
          refine kc_X3_valueIn_0 rfl oi_34 rfl (Nat.le_of_ble_eq_true rfl) (e_Form_valueIn_34) ?_
          exact Ev.iret rfl rfl hk
        · refine Ev.weak [none, none, none] ⟨rfl, rfl, rfl, trivial⟩ ?_
          exact e_Ph_valueAt_40 hk
    · refine Ev.weak [none, none, none] ⟨rfl, rfl, rfl, trivial⟩ ?_
      exact e_Ph_valueAt_40 hk
  · refine Ev.weak [none, none, none] ⟨rfl, rfl, rfl, trivial⟩ ?_
    exact e_Ph_valueAt_40 hk
set_option maxRecDepth 100000 in
theorem e_Ph_valueAt {v1 : Int32} {v2 : Int32} {r : Int32} (hr : (Ph_valueAt ma ph v1 v2) = some r) : Ev mmPT tbX11_valueAt 0 [some (.ref 1), some (.int v1), some (.int v2)] [] (mh sc rest to fl ma tr mk cn nu de ru la tb tf ph cs) ((fun r : Int32 => (some (.int r), mh sc rest to fl ma tr mk cn nu de ru la tb tf ph cs)) r) := e_Ph_valueAt_0 (by rw [hr]; exact rfl)
set_option maxRecDepth 100000 in
theorem e_Ph_isValue_26 {x : Option Value × List mmC} (hk : (kO (fun r : Bool => (some (.int (b2i r)), mh sc rest to fl ma tr mk cn nu de ru la tb tf ph cs)) x) (Ph_isValue_26 ma ph)) : Ev mmPT tbX11_isValue 26 [none, none] [] (mh sc rest to fl ma tr mk cn nu de ru la tb tf ph cs) x := by
  unfold Ph_isValue_26 at hk
  refine q_ic 0 rfl rfl ?_
  exact Ev.zret rfl rfl (Or.inl rfl) hk
set_option maxRecDepth 100000 in
theorem e_Ph_isValue_0 {v1 : Int32} {x : Option Value × List mmC} (hk : (kO (fun r : Bool => (some (.int (b2i r)), mh sc rest to fl ma tr mk cn nu de ru la tb tf ph cs)) x) (Ph_isValue ma ph v1)) : Ev mmPT tbX11_isValue 0 [some (.ref 1), some (.int v1)] [] (mh sc rest to fl ma tr mk cn nu de ru la tb tf ph cs) x := by
  unfold Ph_isValue at hk
  refine Ev.s (ins := .aload_n 0) (pc' := 1) rfl rfl ?_
  refine gf_1_12 (ph.2.2 0) rfl rfl ?_
  refine q_beq rfl hk (fun c1 hk => ?_) (fun c1 hk => ?_)
  · refine Ev.s (ins := .iload_n 1) (pc' := 8) rfl rfl ?_
    refine q_lt rfl hk (fun c2 hk => ?_) (fun c2 hk => ?_)
    · refine Ev.weak [none, none] ⟨rfl, rfl, trivial⟩ ?_
      exact e_Ph_isValue_26 hk
    · refine Ev.s (ins := .iload_n 1) (pc' := 12) rfl rfl ?_
      refine Ev.s (ins := .aload_n 0) (pc' := 13) rfl rfl ?_
      refine gf_1_1 rfl ?_
      refine gf_34_15 (ma.2.1 2) rfl rfl ?_
      refine q_cge rfl hk (fun c3 hk => ?_) (fun c3 hk => ?_)
      · refine q_ic 1 rfl rfl ?_
        refine Ev.goto rfl ?_
        exact Ev.zret rfl rfl (Or.inr rfl) hk
      · refine Ev.weak [none, none] ⟨rfl, rfl, trivial⟩ ?_
        exact e_Ph_isValue_26 hk
  · refine Ev.weak [none, none] ⟨rfl, rfl, trivial⟩ ?_
    exact e_Ph_isValue_26 hk
set_option maxRecDepth 100000 in
theorem e_Ph_isValue {v1 : Int32} : Ev mmPT tbX11_isValue 0 [some (.ref 1), some (.int v1)] [] (mh sc rest to fl ma tr mk cn nu de ru la tb tf ph cs) ((fun r : Bool => (some (.int (b2i r)), mh sc rest to fl ma tr mk cn nu de ru la tb tf ph cs)) (Ph_isValue ma ph v1)) := e_Ph_isValue_0 (by exact rfl)
set_option maxRecDepth 100000 in
theorem e_Form_usesOf_34_55 {v1 : Int32} {v3 : Int32} {v4 : Int32} {w0 : Int32} {w1 : Int32} {x : Option Value × List mmC} (b4 : v3 < 2147483647) (b14 : v4 < 2147483647) (hk : (kK (fun a : Int32 × Int32 => mu a.2) (mu v4) (fun a : Int32 × Int32 => Ev mmPT tbX3_usesOf 14 [some (.ref 34), some (.int v1), some (.int a.1), some (.int v3), some (.int a.2)] [] (mh sc rest to fl ma tr mk cn nu de ru la tb tf ph cs) x) (kK (fun a : Int32 × Int32 => mu a.2) (mu v3) (fun a : Int32 × Int32 => Ev mmPT tbX3_usesOf 4 [some (.ref 34), some (.int v1), some (.int a.1), some (.int a.2), none] [] (mh sc rest to fl ma tr mk cn nu de ru la tb tf ph cs) x) (kO (fun r : Int32 => (some (.int r), mh sc rest to fl ma tr mk cn nu de ru la tb tf ph cs)) x))) (Form_usesOf_55 ma v1 v3 v4 w0 w1)) : Ev mmPT tbX3_usesOf 55 [some (.ref 34), some (.int v1), none, some (.int v3), some (.int v4)] [.int w0, .int w1] (mh sc rest to fl ma tr mk cn nu de ru la tb tf ph cs) x := by
  unfold Form_usesOf_55 at hk
  refine Ev.s (ins := .iadd) (pc' := 56) rfl rfl ?_
  refine Ev.s (ins := .istore_n 2) (pc' := 57) (lv' := [some (.ref 34), some (.int v1), some (.int (w1 + w0)), some (.int v3), some (.int v4)]) rfl rfl ?_
  refine q_inc 1 [some (.ref 34), some (.int v1), some (.int (w1 + w0)), some (.int v3), some (.int (v4 + 1))] rfl rfl rfl rfl ?_
  refine Ev.goto rfl ?_
  replace hk := kK_l hk
  exact hk (mu_lt b14)
set_option maxRecDepth 100000 in
theorem e_Form_usesOf_34_L14b {v1 : Int32} {v2 : Int32} {v3 : Int32} {v4 : Int32} {x : Option Value × List mmC} (b4 : v3 < 2147483647) (hk : (kK (fun a : Int32 × Int32 => mu a.2) (mu v4) (fun a : Int32 × Int32 => Ev mmPT tbX3_usesOf 14 [some (.ref 34), some (.int v1), some (.int a.1), some (.int v3), some (.int a.2)] [] (mh sc rest to fl ma tr mk cn nu de ru la tb tf ph cs) x) (kK (fun a : Int32 × Int32 => mu a.2) (mu v3) (fun a : Int32 × Int32 => Ev mmPT tbX3_usesOf 4 [some (.ref 34), some (.int v1), some (.int a.1), some (.int a.2), none] [] (mh sc rest to fl ma tr mk cn nu de ru la tb tf ph cs) x) (kO (fun r : Int32 => (some (.int r), mh sc rest to fl ma tr mk cn nu de ru la tb tf ph cs)) x))) (Form_usesOf_L14b ma v1 v2 v3 v4)) : Ev mmPT tbX3_usesOf 14 [some (.ref 34), some (.int v1), some (.int v2), some (.int v3), some (.int v4)] [] (mh sc rest to fl ma tr mk cn nu de ru la tb tf ph cs) x := by
  unfold Form_usesOf_L14b at hk
  refine Ev.s (ins := .iload 4) (pc' := 16) rfl rfl ?_
  refine Ev.s (ins := .aload_n 0) (pc' := 17) rfl rfl ?_
  refine gf_34_3 rfl ?_
  refine Ev.s (ins := .iload_n 3) (pc' := 21) rfl rfl ?_
  refine at_41 (oat ma 3 150 v3) rfl (Nat.le_of_ble_eq_true rfl) rfl ?_
  refine q_cge rfl hk (fun c1 hk => ?_) (fun c1 hk => ?_)
  · refine Ev.s (ins := .iload_n 2) (pc' := 28) rfl rfl ?_
    refine Ev.s (ins := .aload_n 0) (pc' := 29) rfl rfl ?_
    refine gf_34_5 rfl ?_
    refine Ev.s (ins := .aload_n 0) (pc' := 33) rfl rfl ?_
    refine gf_34_4 rfl ?_
    refine Ev.s (ins := .iload_n 3) (pc' := 37) rfl rfl ?_
    refine at_43 (oat ma 4 150 v3) rfl (Nat.le_of_ble_eq_true rfl) rfl ?_
    refine Ev.s (ins := .iload 4) (pc' := 42) rfl rfl ?_
    refine Ev.s (ins := .iadd) (pc' := 43) rfl rfl ?_
    refine at_45 (oat ma 5 290 ((oat ma 4 150 v3) + v4)) rfl (Nat.le_of_ble_eq_true rfl) rfl ?_
    refine Ev.s (ins := .iload_n 1) (pc' := 47) rfl rfl ?_
    refine q_cne rfl hk (fun c2 hk => ?_) (fun c2 hk => ?_)
    · refine q_ic 1 rfl rfl ?_
      refine Ev.goto rfl ?_
      refine Ev.weak [some (.ref 34), some (.int v1), none, some (.int v3), some (.int v4)] ⟨rfl, rfl, rfl, rfl, rfl, trivial⟩ ?_
      exact e_Form_usesOf_34_55 b4 (lt31 c1) hk
    · refine q_ic 0 rfl rfl ?_
      refine Ev.weak [some (.ref 34), some (.int v1), none, some (.int v3), some (.int v4)] ⟨rfl, rfl, rfl, rfl, rfl, trivial⟩ ?_
      exact e_Form_usesOf_34_55 b4 (lt31 c1) hk
  · replace hk := kK_r hk
    refine q_inc 1 [some (.ref 34), some (.int v1), some (.int v2), some (.int (v3 + 1)), some (.int v4)] rfl rfl rfl rfl ?_
    refine Ev.goto rfl ?_
    refine Ev.weak [some (.ref 34), some (.int v1), some (.int v2), some (.int (v3 + 1)), none] ⟨rfl, rfl, rfl, rfl, rfl, trivial⟩ ?_
    replace hk := kK_l hk
    exact hk (mu_lt b4)
set_option maxRecDepth 100000 in
theorem e_Form_usesOf_34_L14 {v1 : Int32} {v2 : Int32} {v3 : Int32} {v4 : Int32} {x : Option Value × List mmC} (b4 : v3 < 2147483647) (hk : (kK (fun a : Int32 × Int32 => mu a.2) (mu v3) (fun a : Int32 × Int32 => Ev mmPT tbX3_usesOf 4 [some (.ref 34), some (.int v1), some (.int a.1), some (.int a.2), none] [] (mh sc rest to fl ma tr mk cn nu de ru la tb tf ph cs) x) (kO (fun r : Int32 => (some (.int r), mh sc rest to fl ma tr mk cn nu de ru la tb tf ph cs)) x)) (Form_usesOf_L14 ma v1 v2 v3 v4)) : Ev mmPT tbX3_usesOf 14 [some (.ref 34), some (.int v1), some (.int v2), some (.int v3), some (.int v4)] [] (mh sc rest to fl ma tr mk cn nu de ru la tb tf ph cs) x :=
  k_loop (B := (fun a : Int32 × Int32 => Form_usesOf_L14b ma v1 a.1 v3 a.2)) (μ := fun a : Int32 × Int32 => mu a.2) (E := fun a : Int32 × Int32 => Ev mmPT tbX3_usesOf 14 [some (.ref 34), some (.int v1), some (.int a.1), some (.int v3), some (.int a.2)] [] (mh sc rest to fl ma tr mk cn nu de ru la tb tf ph cs) x) (X := (kK (fun a : Int32 × Int32 => mu a.2) (mu v3) (fun a : Int32 × Int32 => Ev mmPT tbX3_usesOf 4 [some (.ref 34), some (.int v1), some (.int a.1), some (.int a.2), none] [] (mh sc rest to fl ma tr mk cn nu de ru la tb tf ph cs) x) (kO (fun r : Int32 => (some (.int r), mh sc rest to fl ma tr mk cn nu de ru la tb tf ph cs)) x))) (fun a hk => e_Form_usesOf_34_L14b b4 hk) (v2, v4) hk
set_option maxRecDepth 100000 in
theorem e_Form_usesOf_34_L4b {v1 : Int32} {v2 : Int32} {v3 : Int32} {x : Option Value × List mmC} (hk : (kK (fun a : Int32 × Int32 => mu a.2) (mu v3) (fun a : Int32 × Int32 => Ev mmPT tbX3_usesOf 4 [some (.ref 34), some (.int v1), some (.int a.1), some (.int a.2), none] [] (mh sc rest to fl ma tr mk cn nu de ru la tb tf ph cs) x) (kO (fun r : Int32 => (some (.int r), mh sc rest to fl ma tr mk cn nu de ru la tb tf ph cs)) x)) (Form_usesOf_L4b ma v1 v2 v3)) : Ev mmPT tbX3_usesOf 4 [some (.ref 34), some (.int v1), some (.int v2), some (.int v3), none] [] (mh sc rest to fl ma tr mk cn nu de ru la tb tf ph cs) x := by
  unfold Form_usesOf_L4b at hk
  refine Ev.s (ins := .iload_n 3) (pc' := 5) rfl rfl ?_
  refine q_si 150 rfl rfl ?_
  refine q_cge rfl hk (fun c1 hk => ?_) (fun c1 hk => ?_)
  · refine q_ic 0 rfl rfl ?_
    refine Ev.s (ins := .istore 4) (pc' := 14) (lv' := [some (.ref 34), some (.int v1), some (.int v2), some (.int v3), some (.int 0)]) rfl rfl ?_
    exact e_Form_usesOf_34_L14 (lt31 c1) hk
  · replace hk := kK_r hk
    refine Ev.s (ins := .iload_n 2) (pc' := 70) rfl rfl ?_
    exact Ev.iret rfl rfl hk
set_option maxRecDepth 100000 in
theorem e_Form_usesOf_34_L4 {v1 : Int32} {v2 : Int32} {v3 : Int32} {x : Option Value × List mmC} (hk : (kO (fun r : Int32 => (some (.int r), mh sc rest to fl ma tr mk cn nu de ru la tb tf ph cs)) x) (Form_usesOf_L4 ma v1 v2 v3)) : Ev mmPT tbX3_usesOf 4 [some (.ref 34), some (.int v1), some (.int v2), some (.int v3), none] [] (mh sc rest to fl ma tr mk cn nu de ru la tb tf ph cs) x :=
  k_loop (B := (fun a : Int32 × Int32 => Form_usesOf_L4b ma v1 a.1 a.2)) (μ := fun a : Int32 × Int32 => mu a.2) (E := fun a : Int32 × Int32 => Ev mmPT tbX3_usesOf 4 [some (.ref 34), some (.int v1), some (.int a.1), some (.int a.2), none] [] (mh sc rest to fl ma tr mk cn nu de ru la tb tf ph cs) x) (X := (kO (fun r : Int32 => (some (.int r), mh sc rest to fl ma tr mk cn nu de ru la tb tf ph cs)) x)) (fun a hk => e_Form_usesOf_34_L4b hk) (v2, v3) hk
set_option maxRecDepth 100000 in
theorem e_Form_usesOf_34_0 {v1 : Int32} {x : Option Value × List mmC} (hk : (kO (fun r : Int32 => (some (.int r), mh sc rest to fl ma tr mk cn nu de ru la tb tf ph cs)) x) (Form_usesOf ma v1)) : Ev mmPT tbX3_usesOf 0 [some (.ref 34), some (.int v1), none, none, none] [] (mh sc rest to fl ma tr mk cn nu de ru la tb tf ph cs) x := by
  unfold Form_usesOf at hk
  refine q_ic 0 rfl rfl ?_
  refine Ev.s (ins := .istore_n 2) (pc' := 2) (lv' := [some (.ref 34), some (.int v1), some (.int 0), none, none]) rfl rfl ?_
  refine q_ic 0 rfl rfl ?_
  refine Ev.s (ins := .istore_n 3) (pc' := 4) (lv' := [some (.ref 34), some (.int v1), some (.int 0), some (.int 0), none]) rfl rfl ?_
  exact e_Form_usesOf_34_L4 hk
set_option maxRecDepth 100000 in
theorem e_Form_usesOf_34 {v1 : Int32} : Ev mmPT tbX3_usesOf 0 [some (.ref 34), some (.int v1), none, none, none] [] (mh sc rest to fl ma tr mk cn nu de ru la tb tf ph cs) ((fun r : Int32 => (some (.int r), mh sc rest to fl ma tr mk cn nu de ru la tb tf ph cs)) (Form_usesOf ma v1)) := e_Form_usesOf_34_0 (by exact rfl)
set_option maxRecDepth 100000 in
theorem e_Ph_ofValue_0 {v1 : Int32} {v2 : Int32} {x : Option Value × List mmC} (hk : (kP (fun r : Int32 => (some (.int r), mh sc rest to fl ma tr mk cn nu de ru la tb tf ph cs)) x) (Ph_ofValue ma ph v1 v2)) : Ev mmPT tbX11_ofValue 0 [some (.ref 1), some (.int v1), some (.int v2)] [] (mh sc rest to fl ma tr mk cn nu de ru la tb tf ph cs) x := by
  unfold Ph_ofValue at hk
  refine Ev.s (ins := .aload_n 0) (pc' := 1) rfl rfl ?_
  refine Ev.s (ins := .iload_n 1) (pc' := 2) rfl rfl ?_
  refine kc_X11_isValue_0 rfl oi_1 rfl (Nat.le_of_ble_eq_true rfl) (e_Ph_isValue) ?_
  refine q_bne rfl hk (fun c1 hk => ?_) (fun c1 hk => ?_)
  · refine Ev.s (ins := .iload_n 2) (pc' := 19) rfl rfl ?_
    refine q_if hk (fun c2 hk => ?_) (fun c2 hk => ?_)
    · refine Ev.sw (tg := 52) rfl rfl (by rw [c2]; rfl) ?_
      refine Ev.s (ins := .aload_n 0) (pc' := 53) rfl rfl ?_
      refine gf_1_1 rfl ?_
      refine gf_34_0 rfl ?_
      refine Ev.s (ins := .iload_n 1) (pc' := 60) rfl rfl ?_
      refine at_35 (oat ma 0 140 v1) rfl (Nat.le_of_ble_eq_true rfl) rfl ?_
      exact Ev.iret rfl rfl hk
    · skip
      refine q_if hk (fun c3 hk => ?_) (fun c3 hk => ?_)
      · refine Ev.sw (tg := 64) rfl rfl (by rw [c3]; rfl) ?_
        refine Ev.s (ins := .aload_n 0) (pc' := 65) rfl rfl ?_
        refine gf_1_1 rfl ?_
        refine gf_34_1 rfl ?_
        refine Ev.s (ins := .iload_n 1) (pc' := 72) rfl rfl ?_
        refine at_37 (oat ma 1 140 v1) rfl (Nat.le_of_ble_eq_true rfl) rfl ?_
        exact Ev.iret rfl rfl hk
      · skip
        refine q_if hk (fun c4 hk => ?_) (fun c4 hk => ?_)
        · refine Ev.sw (tg := 76) rfl rfl (by rw [c4]; rfl) ?_
          refine Ev.s (ins := .aload_n 0) (pc' := 77) rfl rfl ?_
          refine gf_1_1 rfl ?_
          refine gf_34_2 rfl ?_
          refine Ev.s (ins := .iload_n 1) (pc' := 84) rfl rfl ?_
          refine at_39 (oat ma 2 140 v1) rfl (Nat.le_of_ble_eq_true rfl) rfl ?_
          exact Ev.iret rfl rfl hk
        · skip
          refine q_if hk (fun c5 hk => ?_) (fun c5 hk => ?_)
          · refine Ev.sw (tg := 88) rfl rfl (by rw [c5]; rfl) ?_
            refine Ev.s (ins := .aload_n 0) (pc' := 89) rfl rfl ?_
            refine gf_1_1 rfl ?_
            refine gf_34_3 rfl ?_
            refine Ev.s (ins := .iload_n 1) (pc' := 96) rfl rfl ?_
            refine at_41 (oat ma 3 150 v1) rfl (Nat.le_of_ble_eq_true rfl) rfl ?_
            exact Ev.iret rfl rfl hk
          · skip
            refine q_if hk (fun c6 hk => ?_) (fun c6 hk => ?_)
            · refine Ev.sw (tg := 100) rfl rfl (by rw [c6]; rfl) ?_
              refine Ev.s (ins := .aload_n 0) (pc' := 101) rfl rfl ?_
              refine gf_1_1 rfl ?_
              refine Ev.s (ins := .iload_n 1) (pc' := 105) rfl rfl ?_
              refine kc_X3_usesOf_0 rfl oi_34 rfl (Nat.le_of_ble_eq_true rfl) (e_Form_usesOf_34) ?_
              exact Ev.iret rfl rfl hk
            · skip
              refine Ev.sw (tg := 109) rfl rfl (swg (by decide) (by decide) (fun k h e => ?_)) ?_
              · have h9 : k < 5 := by omega
                match k, h9, e with
                | 0, _, e => exact absurd e c2
                | 1, _, e => exact absurd e c3
                | 2, _, e => exact absurd e c4
                | 3, _, e => exact absurd e c5
                | 4, _, e => exact absurd e c6
              · exact False.elim hk
  · exact False.elim hk
set_option maxRecDepth 100000 in
theorem e_Ph_ofValue {v1 : Int32} {v2 : Int32} {r : Int32} (hr : (Ph_ofValue ma ph v1 v2) = some r) : Ev mmPT tbX11_ofValue 0 [some (.ref 1), some (.int v1), some (.int v2)] [] (mh sc rest to fl ma tr mk cn nu de ru la tb tf ph cs) ((fun r : Int32 => (some (.int r), mh sc rest to fl ma tr mk cn nu de ru la tb tf ph cs)) r) := e_Ph_ofValue_0 (by rw [hr]; exact rfl)
set_option maxRecDepth 100000 in
theorem e_Ph_isArgument_31 {x : Option Value × List mmC} (hk : (kO (fun r : Bool => (some (.int (b2i r)), mh sc rest to fl ma tr mk cn nu de ru la tb tf ph cs)) x) (Ph_isArgument_31 ma ph)) : Ev mmPT tbX11_isArgument 31 [none, none, none] [] (mh sc rest to fl ma tr mk cn nu de ru la tb tf ph cs) x := by
  unfold Ph_isArgument_31 at hk
  refine q_ic 0 rfl rfl ?_
  exact Ev.zret rfl rfl (Or.inl rfl) hk
set_option maxRecDepth 100000 in
theorem e_Ph_isArgument_0 {v1 : Int32} {v2 : Int32} {x : Option Value × List mmC} (hk : (kO (fun r : Bool => (some (.int (b2i r)), mh sc rest to fl ma tr mk cn nu de ru la tb tf ph cs)) x) (Ph_isArgument ma ph v1 v2)) : Ev mmPT tbX11_isArgument 0 [some (.ref 1), some (.int v1), some (.int v2)] [] (mh sc rest to fl ma tr mk cn nu de ru la tb tf ph cs) x := by
  unfold Ph_isArgument at hk
  refine Ev.s (ins := .aload_n 0) (pc' := 1) rfl rfl ?_
  refine Ev.s (ins := .iload_n 1) (pc' := 2) rfl rfl ?_
  refine kc_X11_isValue_0 rfl oi_1 rfl (Nat.le_of_ble_eq_true rfl) (e_Ph_isValue) ?_
  refine q_beq rfl hk (fun c1 hk => ?_) (fun c1 hk => ?_)
  · refine Ev.s (ins := .iload_n 2) (pc' := 9) rfl rfl ?_
    refine q_lt rfl hk (fun c2 hk => ?_) (fun c2 hk => ?_)
    · refine Ev.weak [none, none, none] ⟨rfl, rfl, rfl, trivial⟩ ?_
      exact e_Ph_isArgument_31 hk
    · refine Ev.s (ins := .iload_n 2) (pc' := 13) rfl rfl ?_
      refine Ev.s (ins := .aload_n 0) (pc' := 14) rfl rfl ?_
      refine gf_1_1 rfl ?_
      refine gf_34_3 rfl ?_
      refine Ev.s (ins := .iload_n 1) (pc' := 21) rfl rfl ?_
      refine at_41 (oat ma 3 150 v1) rfl (Nat.le_of_ble_eq_true rfl) rfl ?_
      refine q_cge rfl hk (fun c3 hk => ?_) (fun c3 hk => ?_)
      · refine q_ic 1 rfl rfl ?_
        refine Ev.goto rfl ?_
        exact Ev.zret rfl rfl (Or.inr rfl) hk
      · refine Ev.weak [none, none, none] ⟨rfl, rfl, rfl, trivial⟩ ?_
        exact e_Ph_isArgument_31 hk
  · refine Ev.weak [none, none, none] ⟨rfl, rfl, rfl, trivial⟩ ?_
    exact e_Ph_isArgument_31 hk
set_option maxRecDepth 100000 in
theorem e_Ph_isArgument {v1 : Int32} {v2 : Int32} : Ev mmPT tbX11_isArgument 0 [some (.ref 1), some (.int v1), some (.int v2)] [] (mh sc rest to fl ma tr mk cn nu de ru la tb tf ph cs) ((fun r : Bool => (some (.int (b2i r)), mh sc rest to fl ma tr mk cn nu de ru la tb tf ph cs)) (Ph_isArgument ma ph v1 v2)) := e_Ph_isArgument_0 (by exact rfl)
set_option maxRecDepth 100000 in
theorem e_Ph_argument_0 {v1 : Int32} {v2 : Int32} {x : Option Value × List mmC} (hk : (kP (fun r : Int32 => (some (.int r), mh sc rest to fl ma tr mk cn nu de ru la tb tf ph cs)) x) (Ph_argument ma ph v1 v2)) : Ev mmPT tbX11_argument 0 [some (.ref 1), some (.int v1), some (.int v2)] [] (mh sc rest to fl ma tr mk cn nu de ru la tb tf ph cs) x := by
  unfold Ph_argument at hk
  refine Ev.s (ins := .aload_n 0) (pc' := 1) rfl rfl ?_
  refine Ev.s (ins := .iload_n 1) (pc' := 2) rfl rfl ?_
  refine Ev.s (ins := .iload_n 2) (pc' := 3) rfl rfl ?_
  refine kc_X11_isArgument_0 rfl oi_1 rfl (Nat.le_of_ble_eq_true rfl) (e_Ph_isArgument) ?_
  refine q_bne rfl hk (fun c1 hk => ?_) (fun c1 hk => ?_)
  · refine Ev.s (ins := .aload_n 0) (pc' := 21) rfl rfl ?_
    refine gf_1_1 rfl ?_
    refine Ev.s (ins := .iload_n 1) (pc' := 25) rfl rfl ?_
    refine Ev.s (ins := .iload_n 2) (pc' := 26) rfl rfl ?_
    refine kc_X3_valueOf_0 rfl oi_34 rfl (Nat.le_of_ble_eq_true rfl) (e_Form_valueOf_34) ?_
    exact Ev.iret rfl rfl hk
  · exact False.elim hk
set_option maxRecDepth 100000 in
theorem e_Ph_argument {v1 : Int32} {v2 : Int32} {r : Int32} (hr : (Ph_argument ma ph v1 v2) = some r) : Ev mmPT tbX11_argument 0 [some (.ref 1), some (.int v1), some (.int v2)] [] (mh sc rest to fl ma tr mk cn nu de ru la tb tf ph cs) ((fun r : Int32 => (some (.int r), mh sc rest to fl ma tr mk cn nu de ru la tb tf ph cs)) r) := e_Ph_argument_0 (by rw [hr]; exact rfl)
set_option maxRecDepth 100000 in
theorem e_Tape_begin_121_0 {x : Option Value × List mmC} (hk : (kO (fun r : Ob => (none, mh sc rest to fl ma tr mk cn nu de ru r tb tf ph cs)) x) (Tape_begin la)) : Ev mmPT tbX9_begin 0 [some (.ref 121)] [] (mh sc rest to fl ma tr mk cn nu de ru la tb tf ph cs) x := by
  unfold Tape_begin at hk
  refine Ev.s (ins := .aload_n 0) (pc' := 1) rfl rfl ?_
  refine gf_121_1 rfl ?_
  refine q_ic 0 rfl rfl ?_
  refine fl_122 rfl (Nat.le_of_ble_eq_true rfl) ?_
  refine Ev.s (ins := .aload_n 0) (pc' := 9) rfl rfl ?_
  refine q_ic 1 rfl rfl ?_
  refine pf_121_2 true rfl ?_
  refine Ev.s (ins := .aload_n 0) (pc' := 14) rfl rfl ?_
  refine q_ic 0 rfl rfl ?_
  refine pf_121_3 0 rfl ?_
  refine Ev.s (ins := .aload_n 0) (pc' := 19) rfl rfl ?_
  refine q_ic 0 rfl rfl ?_
  refine pf_121_4 0 rfl ?_
  refine Ev.s (ins := .aload_n 0) (pc' := 24) rfl rfl ?_
  refine q_ic 0 rfl rfl ?_
  refine pf_121_5 0 rfl ?_
  refine Ev.s (ins := .aload_n 0) (pc' := 29) rfl rfl ?_
  refine q_ic 0 rfl rfl ?_
  refine pf_121_6 0 rfl ?_
  refine Ev.s (ins := .aload_n 0) (pc' := 34) rfl rfl ?_
  refine q_ic 0 rfl rfl ?_
  refine pf_121_7 0 rfl ?_
  exact Ev.vret rfl rfl hk
set_option maxRecDepth 100000 in
theorem e_Tape_begin_121 : Ev mmPT tbX9_begin 0 [some (.ref 121)] [] (mh sc rest to fl ma tr mk cn nu de ru la tb tf ph cs) ((fun r : Ob => (none, mh sc rest to fl ma tr mk cn nu de ru r tb tf ph cs)) (Tape_begin la)) := e_Tape_begin_121_0 (by exact rfl)
set_option maxRecDepth 100000 in
theorem e_Runner_read_114_0 {v1 : Int32} {x : Option Value × List mmC} (hk : (kO (fun r : Int32 => (some (.int r), mh sc rest to fl ma tr mk cn nu de ru la tb tf ph cs)) x) (Runner_read ru v1)) : Ev mmPT tbX8_read 0 [some (.ref 114), some (.int v1), none] [] (mh sc rest to fl ma tr mk cn nu de ru la tb tf ph cs) x := by
  unfold Runner_read at hk
  refine Ev.s (ins := .iload_n 1) (pc' := 1) rfl rfl ?_
  refine kc_X11_variableOf_3 rfl (Nat.le_of_ble_eq_true rfl) (e_Ph_variableOf) ?_
  refine Ev.s (ins := .istore_n 2) (pc' := 5) (lv' := [some (.ref 114), some (.int v1), some (.int (Ph_variableOf v1))]) rfl rfl ?_
  refine Ev.s (ins := .iload_n 2) (pc' := 6) rfl rfl ?_
  refine q_ic (-1) rfl rfl ?_
  refine q_cne rfl hk (fun c1 hk => ?_) (fun c1 hk => ?_)
  · refine Ev.s (ins := .iload_n 1) (pc' := 11) rfl rfl ?_
    refine Ev.goto rfl ?_
    exact Ev.iret rfl rfl hk
  · refine Ev.s (ins := .aload_n 0) (pc' := 15) rfl rfl ?_
    refine gf_114_0 rfl ?_
    refine Ev.s (ins := .iload_n 2) (pc' := 19) rfl rfl ?_
    refine at_115 (oat ru 0 6 (Ph_variableOf v1)) rfl (Nat.le_of_ble_eq_true rfl) rfl ?_
    exact Ev.iret rfl rfl hk
set_option maxRecDepth 100000 in
theorem e_Runner_read_114 {v1 : Int32} : Ev mmPT tbX8_read 0 [some (.ref 114), some (.int v1), none] [] (mh sc rest to fl ma tr mk cn nu de ru la tb tf ph cs) ((fun r : Int32 => (some (.int r), mh sc rest to fl ma tr mk cn nu de ru la tb tf ph cs)) (Runner_read ru v1)) := e_Runner_read_114_0 (by exact rfl)
set_option maxRecDepth 100000 in
theorem e_Ph_costOf_0 {v0 : Int32} {x : Option Value × List mmC} (hk : (kO (fun r : Int32 => (some (.int r), mh sc rest to fl ma tr mk cn nu de ru la tb tf ph cs)) x) (Ph_costOf v0)) : Ev mmPT tbX11_costOf 0 [some (.int v0)] [] (mh sc rest to fl ma tr mk cn nu de ru la tb tf ph cs) x := by
  unfold Ph_costOf at hk
  refine Ev.s (ins := .iload_n 0) (pc' := 1) rfl rfl ?_
  refine q_if hk (fun c1 hk => ?_) (fun c1 hk => ?_)
  · refine Ev.sw (tg := 48) rfl rfl (by rw [c1]; rfl) ?_
    refine q_ic 1 rfl rfl ?_
    exact Ev.iret rfl rfl hk
  · skip
    refine q_if hk (fun c2 hk => ?_) (fun c2 hk => ?_)
    · refine Ev.sw (tg := 48) rfl rfl (by rw [c2]; rfl) ?_
      refine q_ic 1 rfl rfl ?_
      exact Ev.iret rfl rfl hk
    · skip
      refine q_if hk (fun c3 hk => ?_) (fun c3 hk => ?_)
      · refine Ev.sw (tg := 50) rfl rfl (by rw [c3]; rfl) ?_
        refine q_ic 3 rfl rfl ?_
        exact Ev.iret rfl rfl hk
      · skip
        refine q_if hk (fun c4 hk => ?_) (fun c4 hk => ?_)
        · refine Ev.sw (tg := 54) rfl rfl (by rw [c4]; rfl) ?_
          refine q_bi 8 rfl rfl ?_
          exact Ev.iret rfl rfl hk
        · skip
          refine q_if hk (fun c5 hk => ?_) (fun c5 hk => ?_)
          · refine Ev.sw (tg := 48) rfl rfl (by rw [c5]; rfl) ?_
            refine q_ic 1 rfl rfl ?_
            exact Ev.iret rfl rfl hk
          · skip
            refine q_if hk (fun c6 hk => ?_) (fun c6 hk => ?_)
            · refine Ev.sw (tg := 52) rfl rfl (by rw [c6]; rfl) ?_
              refine q_ic 4 rfl rfl ?_
              exact Ev.iret rfl rfl hk
            · skip
              refine q_if hk (fun c7 hk => ?_) (fun c7 hk => ?_)
              · refine Ev.sw (tg := 52) rfl rfl (by rw [c7]; rfl) ?_
                refine q_ic 4 rfl rfl ?_
                exact Ev.iret rfl rfl hk
              · skip
                refine q_if hk (fun c8 hk => ?_) (fun c8 hk => ?_)
                · refine Ev.sw (tg := 48) rfl rfl (by rw [c8]; rfl) ?_
                  refine q_ic 1 rfl rfl ?_
                  exact Ev.iret rfl rfl hk
                · skip
                  refine Ev.sw (tg := 57) rfl rfl (swg (by decide) (by decide) (fun k h e => ?_)) ?_
                  · have h9 : k < 8 := by omega
                    match k, h9, e with
                    | 0, _, e => exact absurd e c1
                    | 1, _, e => exact absurd e c2
                    | 2, _, e => exact absurd e c3
                    | 3, _, e => exact absurd e c4
                    | 4, _, e => exact absurd e c5
                    | 5, _, e => exact absurd e c6
                    | 6, _, e => exact absurd e c7
                    | 7, _, e => exact absurd e c8
                  · refine q_ic 0 rfl rfl ?_
                    exact Ev.iret rfl rfl hk
set_option maxRecDepth 100000 in
theorem e_Ph_costOf {v0 : Int32} : Ev mmPT tbX11_costOf 0 [some (.int v0)] [] (mh sc rest to fl ma tr mk cn nu de ru la tb tf ph cs) ((fun r : Int32 => (some (.int r), mh sc rest to fl ma tr mk cn nu de ru la tb tf ph cs)) (Ph_costOf v0)) := e_Ph_costOf_0 (by exact rfl)
set_option maxRecDepth 100000 in
theorem e_J_floorMod_8_18 {v2 : Int32} {x : Option Value × List mmC} (hk : (kO (fun r : Int32 => (some (.int r), mh sc rest to fl ma tr mk cn nu de ru la tb tf ph cs)) x) (J_floorMod_8_18 v2)) : Ev mmPT tbJ9_floorMod_7cf53 18 [none, none, some (.int v2)] [] (mh sc rest to fl ma tr mk cn nu de ru la tb tf ph cs) x := by
  unfold J_floorMod_8_18 at hk
  refine Ev.s (ins := .iload_n 2) (pc' := 19) rfl rfl ?_
  exact Ev.iret rfl rfl hk
set_option maxRecDepth 100000 in
theorem e_J_floorMod_8_0 {v0 : Int32} {x : Option Value × List mmC} (hk : (kO (fun r : Int32 => (some (.int r), mh sc rest to fl ma tr mk cn nu de ru la tb tf ph cs)) x) (J_floorMod_8 v0)) : Ev mmPT tbJ9_floorMod_7cf53 0 [some (.int v0), some (.int 8), none] [] (mh sc rest to fl ma tr mk cn nu de ru la tb tf ph cs) x := by
  unfold J_floorMod_8 at hk
  refine Ev.s (ins := .iload_n 0) (pc' := 1) rfl rfl ?_
  refine Ev.s (ins := .iload_n 1) (pc' := 2) rfl rfl ?_
  refine q_rem rfl (by decide) ?_
  refine Ev.s (ins := .istore_n 2) (pc' := 4) (lv' := [some (.int v0), some (.int 8), some (.int (v0 - v0 / 8 * 8))]) rfl rfl ?_
  refine Ev.s (ins := .iload_n 0) (pc' := 5) rfl rfl ?_
  refine Ev.s (ins := .iload_n 1) (pc' := 6) rfl rfl ?_
  refine Ev.s (ins := .ixor) (pc' := 7) rfl rfl ?_
  refine q_ge rfl hk (fun c1 hk => ?_) (fun c1 hk => ?_)
  · refine Ev.s (ins := .iload_n 2) (pc' := 11) rfl rfl ?_
    refine q_eq rfl hk (fun c2 hk => ?_) (fun c2 hk => ?_)
    · refine Ev.weak [none, none, some (.int (v0 - v0 / 8 * 8))] ⟨rfl, rfl, rfl, trivial⟩ ?_
      exact e_J_floorMod_8_18 hk
    · refine Ev.s (ins := .iload_n 2) (pc' := 15) rfl rfl ?_
      refine Ev.s (ins := .iload_n 1) (pc' := 16) rfl rfl ?_
      refine Ev.s (ins := .iadd) (pc' := 17) rfl rfl ?_
      exact Ev.iret rfl rfl hk
  · refine Ev.weak [none, none, some (.int (v0 - v0 / 8 * 8))] ⟨rfl, rfl, rfl, trivial⟩ ?_
    exact e_J_floorMod_8_18 hk
set_option maxRecDepth 100000 in
theorem e_J_floorMod_8 {v0 : Int32} : Ev mmPT tbJ9_floorMod_7cf53 0 [some (.int v0), some (.int 8), none] [] (mh sc rest to fl ma tr mk cn nu de ru la tb tf ph cs) ((fun r : Int32 => (some (.int r), mh sc rest to fl ma tr mk cn nu de ru la tb tf ph cs)) (J_floorMod_8 v0)) := e_J_floorMod_8_0 (by exact rfl)
set_option maxRecDepth 100000 in
theorem e_Tape_finish_121_0 {v1 : Int32} {x : Option Value × List mmC} (hk : (kO (fun r : Ob => (none, mh sc rest to fl ma tr mk cn nu de ru r tb tf ph cs)) x) (Tape_finish la v1)) : Ev mmPT tbX9_finish 0 [some (.ref 121), some (.int v1)] [] (mh sc rest to fl ma tr mk cn nu de ru la tb tf ph cs) x := by
  unfold Tape_finish at hk
  refine Ev.s (ins := .aload_n 0) (pc' := 1) rfl rfl ?_
  refine q_ic 0 rfl rfl ?_
  refine pf_121_2 false rfl ?_
  refine Ev.s (ins := .aload_n 0) (pc' := 6) rfl rfl ?_
  refine Ev.s (ins := .iload_n 1) (pc' := 7) rfl rfl ?_
  refine pf_121_3 v1 rfl ?_
  exact Ev.vret rfl rfl hk
set_option maxRecDepth 100000 in
theorem e_Tape_finish_121 {v1 : Int32} : Ev mmPT tbX9_finish 0 [some (.ref 121), some (.int v1)] [] (mh sc rest to fl ma tr mk cn nu de ru la tb tf ph cs) ((fun r : Ob => (none, mh sc rest to fl ma tr mk cn nu de ru r tb tf ph cs)) (Tape_finish la v1)) := e_Tape_finish_121_0 (by exact rfl)
set_option maxRecDepth 100000 in
theorem e_Tape_act_121_134 {v1 : Int32} {v2 : Int32} {v3 : Int32} {x : Option Value × List mmC} (hk : (kO (fun r : Int32 × Ob => (some (.int r.1), mh sc rest to fl ma tr mk cn nu de ru r.2 tb tf ph cs)) x) (Tape_act_134 la v1 v2 v3)) : Ev mmPT tbX9_act 134 [none, some (.int v1), some (.int v2), some (.int v3)] [] (mh sc rest to fl ma tr mk cn nu de ru la tb tf ph cs) x := by
  unfold Tape_act_134 at hk
  refine Ev.s (ins := .iload_n 1) (pc' := 135) rfl rfl ?_
  refine Ev.s (ins := .iload_n 2) (pc' := 136) rfl rfl ?_
  refine Ev.s (ins := .iload_n 3) (pc' := 137) rfl rfl ?_
  refine kc_X11_reckoned_3 rfl (Nat.le_of_ble_eq_true rfl) (e_Ph_reckoned) ?_
  exact Ev.iret rfl rfl hk
set_option maxRecDepth 100000 in
theorem e_Tape_act_121_0 {v1 : Int32} {v2 : Int32} {v3 : Int32} {x : Option Value × List mmC} (hk : (kO (fun r : Int32 × Ob => (some (.int r.1), mh sc rest to fl ma tr mk cn nu de ru r.2 tb tf ph cs)) x) (Tape_act la v1 v2 v3)) : Ev mmPT tbX9_act 0 [some (.ref 121), some (.int v1), some (.int v2), some (.int v3)] [] (mh sc rest to fl ma tr mk cn nu de ru la tb tf ph cs) x := by
  unfold Tape_act at hk
  refine Ev.s (ins := .aload_n 0) (pc' := 1) rfl rfl ?_
  refine Ev.s (ins := .dup) (pc' := 2) rfl rfl ?_
  refine gf_121_6 (la.2.1 3) rfl rfl ?_
  refine Ev.s (ins := .iload_n 1) (pc' := 6) rfl rfl ?_
  refine kc_X11_costOf_3 rfl (Nat.le_of_ble_eq_true rfl) (e_Ph_costOf) ?_
  refine Ev.s (ins := .iadd) (pc' := 10) rfl rfl ?_
  refine pf_121_6 ((la.2.1 3) + (Ph_costOf v1)) rfl ?_
  refine Ev.s (ins := .iload_n 1) (pc' := 14) rfl rfl ?_
  refine q_if hk (fun c1 hk => ?_) (fun c1 hk => ?_)
  · refine Ev.sw (tg := 64) rfl rfl (by rw [c1]; rfl) ?_
    refine Ev.s (ins := .iload_n 2) (pc' := 65) rfl rfl ?_
    exact Ev.iret rfl rfl hk
  · skip
    refine q_if hk (fun c2 hk => ?_) (fun c2 hk => ?_)
    · refine Ev.sw (tg := 66) rfl rfl (by rw [c2]; rfl) ?_
      refine Ev.s (ins := .aload_n 0) (pc' := 67) rfl rfl ?_
      refine gf_121_1 rfl ?_
      refine Ev.s (ins := .iload_n 2) (pc' := 71) rfl rfl ?_
      refine q_bi 8 rfl rfl ?_
      refine kc_J9_floorMod_7cf53_2 rfl (Nat.le_of_ble_eq_true rfl) (e_J_floorMod_8) ?_
      refine at_122 (oat la 0 8 (J_floorMod_8 v2)) rfl (Nat.le_of_ble_eq_true rfl) rfl ?_
      exact Ev.iret rfl rfl hk
    · skip
      refine q_if hk (fun c3 hk => ?_) (fun c3 hk => ?_)
      · refine Ev.sw (tg := 80) rfl rfl (by rw [c3]; rfl) ?_
        refine Ev.s (ins := .aload_n 0) (pc' := 81) rfl rfl ?_
        refine gf_121_1 rfl ?_
        refine Ev.s (ins := .iload_n 2) (pc' := 85) rfl rfl ?_
        refine q_bi 8 rfl rfl ?_
        refine kc_J9_floorMod_7cf53_2 rfl (Nat.le_of_ble_eq_true rfl) (e_J_floorMod_8) ?_
        refine Ev.s (ins := .iload_n 3) (pc' := 91) rfl rfl ?_
        refine pt_122 rfl (Nat.le_of_ble_eq_true rfl) ?_
        refine q_ic 0 rfl rfl ?_
        exact Ev.iret rfl rfl hk
      · skip
        refine q_if hk (fun c4 hk => ?_) (fun c4 hk => ?_)
        · refine Ev.sw (tg := 96) rfl rfl (by rw [c4]; rfl) ?_
          refine Ev.s (ins := .aload_n 0) (pc' := 97) rfl rfl ?_
          refine gf_121_0 rfl ?_
          refine Ev.s (ins := .aload_n 0) (pc' := 101) rfl rfl ?_
          refine gf_121_5 (la.2.1 2) rfl rfl ?_
          refine Ev.s (ins := .iload_n 2) (pc' := 105) rfl rfl ?_
          refine pt_124 rfl (Nat.le_of_ble_eq_true rfl) ?_
          refine Ev.s (ins := .aload_n 0) (pc' := 109) rfl rfl ?_
          refine Ev.s (ins := .dup) (pc' := 110) rfl rfl ?_
          refine gf_121_5 (la.2.1 2) rfl rfl ?_
          refine q_ic 1 rfl rfl ?_
          refine Ev.s (ins := .iadd) (pc' := 115) rfl rfl ?_
          refine pf_121_5 ((la.2.1 2) + 1) rfl ?_
          refine q_ic 0 rfl rfl ?_
          exact Ev.iret rfl rfl hk
        · skip
          refine Ev.sw (tg := 120) rfl rfl (swg (by decide) (by decide) (fun k h e => ?_)) ?_
          · have h9 : k < 9 := by omega
            match k, h9, e with
            | 0, _, e => exact absurd e c1
            | 1, _, e => rfl
            | 2, _, e => rfl
            | 3, _, e => rfl
            | 4, _, e => rfl
            | 5, _, e => rfl
            | 6, _, e => exact absurd e c2
            | 7, _, e => exact absurd e c3
            | 8, _, e => exact absurd e c4
          · refine Ev.s (ins := .iload_n 1) (pc' := 121) rfl rfl ?_
            refine q_ic 4 rfl rfl ?_
            refine q_cne rfl hk (fun c5 hk => ?_) (fun c5 hk => ?_)
            · refine Ev.s (ins := .iload_n 3) (pc' := 126) rfl rfl ?_
              refine q_ne rfl hk (fun c6 hk => ?_) (fun c6 hk => ?_)
              · refine Ev.s (ins := .aload_n 0) (pc' := 130) rfl rfl ?_
                refine q_ic 1 rfl rfl ?_
                refine kc_X9_finish_0 rfl oi_121 rfl (Nat.le_of_ble_eq_true rfl) (e_Tape_finish_121) ?_
                refine Ev.weak [none, some (.int v1), some (.int v2), some (.int v3)] ⟨rfl, rfl, rfl, rfl, trivial⟩ ?_
                exact e_Tape_act_121_134 hk
              · refine Ev.weak [none, some (.int v1), some (.int v2), some (.int v3)] ⟨rfl, rfl, rfl, rfl, trivial⟩ ?_
                exact e_Tape_act_121_134 hk
            · refine Ev.weak [none, some (.int v1), some (.int v2), some (.int v3)] ⟨rfl, rfl, rfl, rfl, trivial⟩ ?_
              exact e_Tape_act_121_134 hk
set_option maxRecDepth 100000 in
theorem e_Tape_act_121 {v1 : Int32} {v2 : Int32} {v3 : Int32} : Ev mmPT tbX9_act 0 [some (.ref 121), some (.int v1), some (.int v2), some (.int v3)] [] (mh sc rest to fl ma tr mk cn nu de ru la tb tf ph cs) ((fun r : Int32 × Ob => (some (.int r.1), mh sc rest to fl ma tr mk cn nu de ru r.2 tb tf ph cs)) (Tape_act la v1 v2 v3)) := e_Tape_act_121_0 (by exact rfl)
set_option maxRecDepth 100000 in
theorem e_Runner_doLines_114_2_121_103 {v2 : Int32} {v4 : Int32} {x : Option Value × List mmC} (b3 : v4 < 2147483647) (hk : (kK (fun a : Int32 × Ob × Ob => mu a.1) (mu v4) (fun a : Int32 × Ob × Ob => Ev mmPT tbX8_doLines 3 [some (.ref 114), some (.ref 2), some (.int v2), some (.ref 121), some (.int a.1), none, none, none] [] (mh sc rest to fl ma tr mk cn nu de a.2.1 a.2.2 tb tf ph cs) x) (kO (fun r : Ob × Ob => (none, mh sc rest to fl ma tr mk cn nu de r.1 r.2 tb tf ph cs)) x)) (Runner_doLines_103 to ru la v2 v4)) : Ev mmPT tbX8_doLines 103 [some (.ref 114), some (.ref 2), some (.int v2), some (.ref 121), some (.int v4), none, none, none] [] (mh sc rest to fl ma tr mk cn nu de ru la tb tf ph cs) x := by
  unfold Runner_doLines_103 at hk
  refine q_inc 1 [some (.ref 114), some (.ref 2), some (.int v2), some (.ref 121), some (.int (v4 + 1)), none, none, none] rfl rfl rfl rfl ?_
  refine Ev.goto rfl ?_
  replace hk := kK_l hk
  exact hk (mu_lt b3)
set_option maxRecDepth 100000 in
theorem e_Runner_doLines_114_2_121_75 {v2 : Int32} {v4 : Int32} {v5 : Int32} {v6 : Int32} {w0 : Int32} {x : Option Value × List mmC} (b3 : v4 < 2147483647) (hk : (kK (fun a : Int32 × Ob × Ob => mu a.1) (mu v4) (fun a : Int32 × Ob × Ob => Ev mmPT tbX8_doLines 3 [some (.ref 114), some (.ref 2), some (.int v2), some (.ref 121), some (.int a.1), none, none, none] [] (mh sc rest to fl ma tr mk cn nu de a.2.1 a.2.2 tb tf ph cs) x) (kO (fun r : Ob × Ob => (none, mh sc rest to fl ma tr mk cn nu de r.1 r.2 tb tf ph cs)) x)) (Runner_doLines_75 to ru la v2 v4 v5 v6 w0)) : Ev mmPT tbX8_doLines 75 [some (.ref 114), some (.ref 2), some (.int v2), some (.ref 121), some (.int v4), some (.int v5), some (.int v6), none] [.int w0] (mh sc rest to fl ma tr mk cn nu de ru la tb tf ph cs) x := by
  unfold Runner_doLines_75 at hk
  refine Ev.s (ins := .istore 7) (pc' := 77) (lv' := [some (.ref 114), some (.ref 2), some (.int v2), some (.ref 121), some (.int v4), some (.int v5), some (.int v6), some (.int w0)]) rfl rfl ?_
  refine Ev.s (ins := .iload 6) (pc' := 79) rfl rfl ?_
  refine kc_X11_sets_3 rfl (Nat.le_of_ble_eq_true rfl) (e_Ph_sets) ?_
  refine q_beq rfl hk (fun c1 hk => ?_) (fun c1 hk => ?_)
  · refine Ev.s (ins := .aload_n 0) (pc' := 86) rfl rfl ?_
    refine gf_114_0 rfl ?_
    refine Ev.s (ins := .aload_n 1) (pc' := 90) rfl rfl ?_
    refine gf_2_2 rfl ?_
    refine Ev.s (ins := .iload 5) (pc' := 95) rfl rfl ?_
    refine at_7 (oat to 2 80 v5) rfl (Nat.le_of_ble_eq_true rfl) rfl ?_
    refine Ev.s (ins := .iload 7) (pc' := 100) rfl rfl ?_
    refine pt_115 rfl (Nat.le_of_ble_eq_true rfl) ?_
    refine Ev.weak [some (.ref 114), some (.ref 2), some (.int v2), some (.ref 121), some (.int v4), none, none, none] ⟨rfl, rfl, rfl, rfl, rfl, rfl, rfl, rfl, trivial⟩ ?_
    exact e_Runner_doLines_114_2_121_103 b3 hk
  · refine Ev.weak [some (.ref 114), some (.ref 2), some (.int v2), some (.ref 121), some (.int v4), none, none, none] ⟨rfl, rfl, rfl, rfl, rfl, rfl, rfl, rfl, trivial⟩ ?_
    exact e_Runner_doLines_114_2_121_103 b3 hk
set_option maxRecDepth 100000 in
theorem e_Runner_doLines_114_2_121_L3b {v2 : Int32} {v4 : Int32} {x : Option Value × List mmC} (hk : (kK (fun a : Int32 × Ob × Ob => mu a.1) (mu v4) (fun a : Int32 × Ob × Ob => Ev mmPT tbX8_doLines 3 [some (.ref 114), some (.ref 2), some (.int v2), some (.ref 121), some (.int a.1), none, none, none] [] (mh sc rest to fl ma tr mk cn nu de a.2.1 a.2.2 tb tf ph cs) x) (kO (fun r : Ob × Ob => (none, mh sc rest to fl ma tr mk cn nu de r.1 r.2 tb tf ph cs)) x)) (Runner_doLines_L3b to ru la v2 v4)) : Ev mmPT tbX8_doLines 3 [some (.ref 114), some (.ref 2), some (.int v2), some (.ref 121), some (.int v4), none, none, none] [] (mh sc rest to fl ma tr mk cn nu de ru la tb tf ph cs) x := by
  unfold Runner_doLines_L3b at hk
  refine Ev.s (ins := .aload_n 3) (pc' := 4) rfl rfl ?_
  refine gf_121_2 (la.2.2 0) rfl rfl ?_
  refine q_beq rfl hk (fun c1 hk => ?_) (fun c1 hk => ?_)
  · refine Ev.s (ins := .iload 4) (pc' := 12) rfl rfl ?_
    refine Ev.s (ins := .aload_n 1) (pc' := 13) rfl rfl ?_
    refine gf_2_0 rfl ?_
    refine Ev.s (ins := .iload_n 2) (pc' := 17) rfl rfl ?_
    refine at_3 (oat to 0 10 v2) rfl (Nat.le_of_ble_eq_true rfl) rfl ?_
    refine q_cge rfl hk (fun c2 hk => ?_) (fun c2 hk => ?_)
    · refine Ev.s (ins := .iload_n 2) (pc' := 24) rfl rfl ?_
      refine q_bi 8 rfl rfl ?_
      refine Ev.s (ins := .imul) (pc' := 27) rfl rfl ?_
      refine Ev.s (ins := .iload 4) (pc' := 29) rfl rfl ?_
      refine Ev.s (ins := .iadd) (pc' := 30) rfl rfl ?_
      refine Ev.s (ins := .istore 5) (pc' := 32) (lv' := [some (.ref 114), some (.ref 2), some (.int v2), some (.ref 121), some (.int v4), some (.int ((v2 * 8) + v4)), none, none]) rfl rfl ?_
      refine Ev.s (ins := .aload_n 1) (pc' := 33) rfl rfl ?_
      refine gf_2_1 rfl ?_
      refine Ev.s (ins := .iload 5) (pc' := 38) rfl rfl ?_
      refine at_5 (oat to 1 80 ((v2 * 8) + v4)) rfl (Nat.le_of_ble_eq_true rfl) rfl ?_
      refine Ev.s (ins := .istore 6) (pc' := 43) (lv' := [some (.ref 114), some (.ref 2), some (.int v2), some (.ref 121), some (.int v4), some (.int ((v2 * 8) + v4)), some (.int (oat to 1 80 ((v2 * 8) + v4))), none]) rfl rfl ?_
      refine Ev.s (ins := .aload_n 3) (pc' := 44) rfl rfl ?_
      refine Ev.s (ins := .iload 6) (pc' := 46) rfl rfl ?_
      refine Ev.s (ins := .aload_n 0) (pc' := 47) rfl rfl ?_
      refine Ev.s (ins := .aload_n 1) (pc' := 48) rfl rfl ?_
      refine gf_2_3 rfl ?_
      refine Ev.s (ins := .iload 5) (pc' := 53) rfl rfl ?_
      refine at_9 (oat to 3 80 ((v2 * 8) + v4)) rfl (Nat.le_of_ble_eq_true rfl) rfl ?_
      refine kc_X8_read_0 rfl oi_114 rfl (Nat.le_of_ble_eq_true rfl) (e_Runner_read_114) ?_
      refine Ev.s (ins := .aload_n 0) (pc' := 60) rfl rfl ?_
      refine Ev.s (ins := .aload_n 1) (pc' := 61) rfl rfl ?_
      refine gf_2_4 rfl ?_
      refine Ev.s (ins := .iload 5) (pc' := 66) rfl rfl ?_
      refine at_11 (oat to 4 80 ((v2 * 8) + v4)) rfl (Nat.le_of_ble_eq_true rfl) rfl ?_
      refine kc_X8_read_0 rfl oi_114 rfl (Nat.le_of_ble_eq_true rfl) (e_Runner_read_114) ?_
      refine kc_X9_act_0 rfl oi_121 rfl (Nat.le_of_ble_eq_true rfl) (e_Tape_act_121) ?_
      exact e_Runner_doLines_114_2_121_75 (lt31 c2) hk
    · replace hk := kK_r hk
      exact Ev.vret rfl rfl hk
  · replace hk := kK_r hk
    exact Ev.vret rfl rfl hk
set_option maxRecDepth 100000 in
theorem e_Runner_doLines_114_2_121_L3 {v2 : Int32} {v4 : Int32} {x : Option Value × List mmC} (hk : (kO (fun r : Ob × Ob => (none, mh sc rest to fl ma tr mk cn nu de r.1 r.2 tb tf ph cs)) x) (Runner_doLines_L3 to ru la v2 v4)) : Ev mmPT tbX8_doLines 3 [some (.ref 114), some (.ref 2), some (.int v2), some (.ref 121), some (.int v4), none, none, none] [] (mh sc rest to fl ma tr mk cn nu de ru la tb tf ph cs) x :=
  k_loop (B := (fun a : Int32 × Ob × Ob => Runner_doLines_L3b to a.2.1 a.2.2 v2 a.1)) (μ := fun a : Int32 × Ob × Ob => mu a.1) (E := fun a : Int32 × Ob × Ob => Ev mmPT tbX8_doLines 3 [some (.ref 114), some (.ref 2), some (.int v2), some (.ref 121), some (.int a.1), none, none, none] [] (mh sc rest to fl ma tr mk cn nu de a.2.1 a.2.2 tb tf ph cs) x) (X := (kO (fun r : Ob × Ob => (none, mh sc rest to fl ma tr mk cn nu de r.1 r.2 tb tf ph cs)) x)) (fun a hk => e_Runner_doLines_114_2_121_L3b hk) (v4, ru, la) hk
set_option maxRecDepth 100000 in
theorem e_Runner_doLines_114_2_121_0 {v2 : Int32} {x : Option Value × List mmC} (hk : (kO (fun r : Ob × Ob => (none, mh sc rest to fl ma tr mk cn nu de r.1 r.2 tb tf ph cs)) x) (Runner_doLines to ru la v2)) : Ev mmPT tbX8_doLines 0 [some (.ref 114), some (.ref 2), some (.int v2), some (.ref 121), none, none, none, none] [] (mh sc rest to fl ma tr mk cn nu de ru la tb tf ph cs) x := by
  unfold Runner_doLines at hk
  refine q_ic 0 rfl rfl ?_
  refine Ev.s (ins := .istore 4) (pc' := 3) (lv' := [some (.ref 114), some (.ref 2), some (.int v2), some (.ref 121), some (.int 0), none, none, none]) rfl rfl ?_
  exact e_Runner_doLines_114_2_121_L3 hk
set_option maxRecDepth 100000 in
theorem e_Runner_doLines_114_2_121 {v2 : Int32} : Ev mmPT tbX8_doLines 0 [some (.ref 114), some (.ref 2), some (.int v2), some (.ref 121), none, none, none, none] [] (mh sc rest to fl ma tr mk cn nu de ru la tb tf ph cs) ((fun r : Ob × Ob => (none, mh sc rest to fl ma tr mk cn nu de r.1 r.2 tb tf ph cs)) (Runner_doLines to ru la v2)) := e_Runner_doLines_114_2_121_0 (by exact rfl)
set_option maxRecDepth 100000 in
theorem e_Tape_leaveBy_121_84 {x : Option Value × List mmC} (hk : (kO (fun r : Int32 × Ob => (some (.int r.1), mh sc rest to fl ma tr mk cn nu de ru r.2 tb tf ph cs)) x) (Tape_leaveBy_84 la)) : Ev mmPT tbX9_leaveBy 84 [none, none, none] [] (mh sc rest to fl ma tr mk cn nu de ru la tb tf ph cs) x := by
  unfold Tape_leaveBy_84 at hk
  refine q_ic 0 rfl rfl ?_
  exact Ev.iret rfl rfl hk
set_option maxRecDepth 100000 in
theorem e_Tape_leaveBy_121_67 {v1 : Int32} {v2 : Int32} {w0 : Int32} {w1 : Int32} {x : Option Value × List mmC} (hk : (kO (fun r : Int32 × Ob => (some (.int r.1), mh sc rest to fl ma tr mk cn nu de ru r.2 tb tf ph cs)) x) (Tape_leaveBy_67 la v1 v2 w0 w1)) : Ev mmPT tbX9_leaveBy 67 [none, some (.int v1), some (.int v2)] [.int w0, .int w1, .ref 121] (mh sc rest to fl ma tr mk cn nu de ru la tb tf ph cs) x := by
  unfold Tape_leaveBy_67 at hk
  refine Ev.s (ins := .iadd) (pc' := 68) rfl rfl ?_
  refine pf_121_6 (w1 + w0) rfl ?_
  refine Ev.s (ins := .iload_n 1) (pc' := 72) rfl rfl ?_
  refine q_ic 2 rfl rfl ?_
  refine q_cne rfl hk (fun c1 hk => ?_) (fun c1 hk => ?_)
  · refine Ev.s (ins := .iload_n 2) (pc' := 77) rfl rfl ?_
    refine q_gt rfl hk (fun c2 hk => ?_) (fun c2 hk => ?_)
    · refine Ev.weak [none, none, none] ⟨rfl, rfl, rfl, trivial⟩ ?_
      exact e_Tape_leaveBy_121_84 hk
    · refine q_ic 1 rfl rfl ?_
      refine Ev.goto rfl ?_
      exact Ev.iret rfl rfl hk
  · refine Ev.weak [none, none, none] ⟨rfl, rfl, rfl, trivial⟩ ?_
    exact e_Tape_leaveBy_121_84 hk
set_option maxRecDepth 100000 in
theorem e_Tape_leaveBy_121_0 {v1 : Int32} {v2 : Int32} {x : Option Value × List mmC} (hk : (kO (fun r : Int32 × Ob => (some (.int r.1), mh sc rest to fl ma tr mk cn nu de ru r.2 tb tf ph cs)) x) (Tape_leaveBy la v1 v2)) : Ev mmPT tbX9_leaveBy 0 [some (.ref 121), some (.int v1), some (.int v2)] [] (mh sc rest to fl ma tr mk cn nu de ru la tb tf ph cs) x := by
  unfold Tape_leaveBy at hk
  refine Ev.s (ins := .aload_n 0) (pc' := 1) rfl rfl ?_
  refine gf_121_2 (la.2.2 0) rfl rfl ?_
  refine q_bne rfl hk (fun c1 hk => ?_) (fun c1 hk => ?_)
  · refine Ev.s (ins := .aload_n 0) (pc' := 10) rfl rfl ?_
    refine gf_121_7 (la.2.1 4) rfl rfl ?_
    refine q_si 300 rfl rfl ?_
    refine q_clt rfl hk (fun c2 hk => ?_) (fun c2 hk => ?_)
    · refine Ev.s (ins := .aload_n 0) (pc' := 27) rfl rfl ?_
      refine Ev.s (ins := .dup) (pc' := 28) rfl rfl ?_
      refine gf_121_7 (la.2.1 4) rfl rfl ?_
      refine q_ic 1 rfl rfl ?_
      refine Ev.s (ins := .iadd) (pc' := 33) rfl rfl ?_
      refine pf_121_7 ((la.2.1 4) + 1) rfl ?_
      refine Ev.s (ins := .iload_n 1) (pc' := 37) rfl rfl ?_
      refine q_ne rfl hk (fun c3 hk => ?_) (fun c3 hk => ?_)
      · refine Ev.s (ins := .aload_n 0) (pc' := 41) rfl rfl ?_
        refine Ev.s (ins := .iload_n 2) (pc' := 42) rfl rfl ?_
        refine pf_121_4 v2 rfl ?_
        refine Ev.s (ins := .aload_n 0) (pc' := 46) rfl rfl ?_
        refine q_ic 0 rfl rfl ?_
        refine kc_X9_finish_0 rfl oi_121 rfl (Nat.le_of_ble_eq_true rfl) (e_Tape_finish_121) ?_
        refine q_ic 0 rfl rfl ?_
        exact Ev.iret rfl rfl hk
      · refine Ev.s (ins := .aload_n 0) (pc' := 53) rfl rfl ?_
        refine Ev.s (ins := .dup) (pc' := 54) rfl rfl ?_
        refine gf_121_6 (la.2.1 3) rfl rfl ?_
        refine Ev.s (ins := .iload_n 1) (pc' := 58) rfl rfl ?_
        refine q_ic 2 rfl rfl ?_
        refine q_cne rfl hk (fun c4 hk => ?_) (fun c4 hk => ?_)
        · refine q_ic 2 rfl rfl ?_
          refine Ev.goto rfl ?_
          refine Ev.weak [none, some (.int v1), some (.int v2)] ⟨rfl, rfl, rfl, trivial⟩ ?_
          exact e_Tape_leaveBy_121_67 hk
        · refine q_ic 1 rfl rfl ?_
          refine Ev.weak [none, some (.int v1), some (.int v2)] ⟨rfl, rfl, rfl, trivial⟩ ?_
          exact e_Tape_leaveBy_121_67 hk
    · refine Ev.s (ins := .aload_n 0) (pc' := 20) rfl rfl ?_
      refine q_ic 2 rfl rfl ?_
      refine kc_X9_finish_0 rfl oi_121 rfl (Nat.le_of_ble_eq_true rfl) (e_Tape_finish_121) ?_
      refine q_ic 0 rfl rfl ?_
      exact Ev.iret rfl rfl hk
  · refine q_ic 0 rfl rfl ?_
    exact Ev.iret rfl rfl hk
set_option maxRecDepth 100000 in
theorem e_Tape_leaveBy_121 {v1 : Int32} {v2 : Int32} : Ev mmPT tbX9_leaveBy 0 [some (.ref 121), some (.int v1), some (.int v2)] [] (mh sc rest to fl ma tr mk cn nu de ru la tb tf ph cs) ((fun r : Int32 × Ob => (some (.int r.1), mh sc rest to fl ma tr mk cn nu de ru r.2 tb tf ph cs)) (Tape_leaveBy la v1 v2)) := e_Tape_leaveBy_121_0 (by exact rfl)
set_option maxRecDepth 100000 in
theorem e_Runner_walkBlocks_114_2_121_93 {v6 : Int32} {w0 : Int32} {w1 : Int32} {x : Option Value × List mmC} (b37 : v6 < 2147483647) (hk : (kK (fun a : Int32 × Int32 × Ob × Ob => mu a.2.1) (mu v6) (fun a : Int32 × Int32 × Ob × Ob => Ev mmPT tbX8_walkBlocks 37 [some (.ref 114), some (.ref 2), none, none, some (.ref 121), some (.int a.1), some (.int a.2.1), none] [] (mh sc rest to fl ma tr mk cn nu de a.2.2.1 a.2.2.2 tb tf ph cs) x) (kO (fun r : Ob × Ob => (none, mh sc rest to fl ma tr mk cn nu de r.1 r.2 tb tf ph cs)) x)) (Runner_walkBlocks_93 to ru la v6 w0 w1)) : Ev mmPT tbX8_walkBlocks 93 [some (.ref 114), some (.ref 2), none, none, some (.ref 121), none, some (.int v6), none] [.int w0, .int w1] (mh sc rest to fl ma tr mk cn nu de ru la tb tf ph cs) x := by
  unfold Runner_walkBlocks_93 at hk
  refine Ev.s (ins := .iadd) (pc' := 94) rfl rfl ?_
  refine Ev.s (ins := .istore 7) (pc' := 96) (lv' := [some (.ref 114), some (.ref 2), none, none, some (.ref 121), none, some (.int v6), some (.int (w1 + w0))]) rfl rfl ?_
  refine Ev.s (ins := .aload_n 1) (pc' := 97) rfl rfl ?_
  refine gf_2_7 rfl ?_
  refine Ev.s (ins := .iload 7) (pc' := 102) rfl rfl ?_
  refine at_17 (oat to 7 20 (w1 + w0)) rfl (Nat.le_of_ble_eq_true rfl) rfl ?_
  refine Ev.s (ins := .istore 5) (pc' := 107) (lv' := [some (.ref 114), some (.ref 2), none, none, some (.ref 121), some (.int (oat to 7 20 (w1 + w0))), some (.int v6), some (.int (w1 + w0))]) rfl rfl ?_
  refine q_inc 1 [some (.ref 114), some (.ref 2), none, none, some (.ref 121), some (.int (oat to 7 20 (w1 + w0))), some (.int (v6 + 1)), some (.int (w1 + w0))] rfl rfl rfl rfl ?_
  refine Ev.goto rfl ?_
  refine Ev.weak [some (.ref 114), some (.ref 2), none, none, some (.ref 121), some (.int (oat to 7 20 (w1 + w0))), some (.int (v6 + 1)), none] ⟨rfl, rfl, rfl, rfl, rfl, rfl, rfl, rfl, trivial⟩ ?_
  replace hk := kK_l hk
  exact hk (mu_lt b37)
set_option maxRecDepth 100000 in
theorem e_Runner_walkBlocks_114_2_121_62 {v5 : Int32} {v6 : Int32} {x : Option Value × List mmC} (b37 : v6 < 2147483647) (hk : (kK (fun a : Int32 × Int32 × Ob × Ob => mu a.2.1) (mu v6) (fun a : Int32 × Int32 × Ob × Ob => Ev mmPT tbX8_walkBlocks 37 [some (.ref 114), some (.ref 2), none, none, some (.ref 121), some (.int a.1), some (.int a.2.1), none] [] (mh sc rest to fl ma tr mk cn nu de a.2.2.1 a.2.2.2 tb tf ph cs) x) (kO (fun r : Ob × Ob => (none, mh sc rest to fl ma tr mk cn nu de r.1 r.2 tb tf ph cs)) x)) (Runner_walkBlocks_62 to ru la v5 v6)) : Ev mmPT tbX8_walkBlocks 62 [some (.ref 114), some (.ref 2), none, none, some (.ref 121), some (.int v5), some (.int v6), none] [] (mh sc rest to fl ma tr mk cn nu de ru la tb tf ph cs) x := by
  unfold Runner_walkBlocks_62 at hk
  refine Ev.s (ins := .iload 5) (pc' := 64) rfl rfl ?_
  refine q_ic 2 rfl rfl ?_
  refine Ev.s (ins := .imul) (pc' := 66) rfl rfl ?_
  refine Ev.s (ins := .aload 4) (pc' := 68) rfl rfl ?_
  refine Ev.s (ins := .aload_n 1) (pc' := 69) rfl rfl ?_
  refine gf_2_5 rfl ?_
  refine Ev.s (ins := .iload 5) (pc' := 74) rfl rfl ?_
  refine at_13 (oat to 5 10 v5) rfl (Nat.le_of_ble_eq_true rfl) rfl ?_
  refine Ev.s (ins := .aload_n 0) (pc' := 78) rfl rfl ?_
  refine Ev.s (ins := .aload_n 1) (pc' := 79) rfl rfl ?_
  refine gf_2_6 rfl ?_
  refine Ev.s (ins := .iload 5) (pc' := 84) rfl rfl ?_
  refine at_15 (oat to 6 10 v5) rfl (Nat.le_of_ble_eq_true rfl) rfl ?_
  refine kc_X8_read_0 rfl oi_114 rfl (Nat.le_of_ble_eq_true rfl) (e_Runner_read_114) ?_
  refine kc_X9_leaveBy_0 rfl oi_121 rfl (Nat.le_of_ble_eq_true rfl) (e_Tape_leaveBy_121) ?_
  refine Ev.weak [some (.ref 114), some (.ref 2), none, none, some (.ref 121), none, some (.int v6), none] ⟨rfl, rfl, rfl, rfl, rfl, rfl, rfl, rfl, trivial⟩ ?_
  exact e_Runner_walkBlocks_114_2_121_93 b37 hk
set_option maxRecDepth 100000 in
theorem e_Runner_walkBlocks_114_2_121_L37b {v5 : Int32} {v6 : Int32} {x : Option Value × List mmC} (hk : (kK (fun a : Int32 × Int32 × Ob × Ob => mu a.2.1) (mu v6) (fun a : Int32 × Int32 × Ob × Ob => Ev mmPT tbX8_walkBlocks 37 [some (.ref 114), some (.ref 2), none, none, some (.ref 121), some (.int a.1), some (.int a.2.1), none] [] (mh sc rest to fl ma tr mk cn nu de a.2.2.1 a.2.2.2 tb tf ph cs) x) (kO (fun r : Ob × Ob => (none, mh sc rest to fl ma tr mk cn nu de r.1 r.2 tb tf ph cs)) x)) (Runner_walkBlocks_L37b to ru la v5 v6)) : Ev mmPT tbX8_walkBlocks 37 [some (.ref 114), some (.ref 2), none, none, some (.ref 121), some (.int v5), some (.int v6), none] [] (mh sc rest to fl ma tr mk cn nu de ru la tb tf ph cs) x := by
  unfold Runner_walkBlocks_L37b at hk
  refine Ev.s (ins := .aload 4) (pc' := 39) rfl rfl ?_
  refine gf_121_2 (la.2.2 0) rfl rfl ?_
  refine q_beq rfl hk (fun c1 hk => ?_) (fun c1 hk => ?_)
  · refine Ev.s (ins := .iload 6) (pc' := 47) rfl rfl ?_
    refine q_si 300 rfl rfl ?_
    refine q_cgt rfl hk (fun c2 hk => ?_) (fun c2 hk => ?_)
    · replace hk := kK_r hk
      exact Ev.vret rfl rfl hk
    · refine Ev.s (ins := .aload_n 0) (pc' := 54) rfl rfl ?_
      refine Ev.s (ins := .aload_n 1) (pc' := 55) rfl rfl ?_
      refine Ev.s (ins := .iload 5) (pc' := 57) rfl rfl ?_
      refine Ev.s (ins := .aload 4) (pc' := 59) rfl rfl ?_
      refine kc_X8_doLines_0 rfl oi_114 rfl (Nat.le_of_ble_eq_true rfl) (e_Runner_doLines_114_2_121) ?_
      exact e_Runner_walkBlocks_114_2_121_62 (le31 (by decide) c2) hk
  · replace hk := kK_r hk
    exact Ev.vret rfl rfl hk
set_option maxRecDepth 100000 in
theorem e_Runner_walkBlocks_114_2_121_L37 {v5 : Int32} {v6 : Int32} {x : Option Value × List mmC} (hk : (kO (fun r : Ob × Ob => (none, mh sc rest to fl ma tr mk cn nu de r.1 r.2 tb tf ph cs)) x) (Runner_walkBlocks_L37 to ru la v5 v6)) : Ev mmPT tbX8_walkBlocks 37 [some (.ref 114), some (.ref 2), none, none, some (.ref 121), some (.int v5), some (.int v6), none] [] (mh sc rest to fl ma tr mk cn nu de ru la tb tf ph cs) x :=
  k_loop (B := (fun a : Int32 × Int32 × Ob × Ob => Runner_walkBlocks_L37b to a.2.2.1 a.2.2.2 a.1 a.2.1)) (μ := fun a : Int32 × Int32 × Ob × Ob => mu a.2.1) (E := fun a : Int32 × Int32 × Ob × Ob => Ev mmPT tbX8_walkBlocks 37 [some (.ref 114), some (.ref 2), none, none, some (.ref 121), some (.int a.1), some (.int a.2.1), none] [] (mh sc rest to fl ma tr mk cn nu de a.2.2.1 a.2.2.2 tb tf ph cs) x) (X := (kO (fun r : Ob × Ob => (none, mh sc rest to fl ma tr mk cn nu de r.1 r.2 tb tf ph cs)) x)) (fun a hk => e_Runner_walkBlocks_114_2_121_L37b hk) (v5, v6, ru, la) hk
set_option maxRecDepth 100000 in
theorem e_Runner_walkBlocks_114_2_121_0 {v2 : Int32} {v3 : Int32} {x : Option Value × List mmC} (hk : (kO (fun r : Ob × Ob => (none, mh sc rest to fl ma tr mk cn nu de r.1 r.2 tb tf ph cs)) x) (Runner_walkBlocks to ru la v2 v3)) : Ev mmPT tbX8_walkBlocks 0 [some (.ref 114), some (.ref 2), some (.int v2), some (.int v3), some (.ref 121), none, none, none] [] (mh sc rest to fl ma tr mk cn nu de ru la tb tf ph cs) x := by
  unfold Runner_walkBlocks at hk
  refine Ev.s (ins := .aload 4) (pc' := 2) rfl rfl ?_
  refine kc_X9_begin_0 rfl oi_121 rfl (Nat.le_of_ble_eq_true rfl) (e_Tape_begin_121) ?_
  refine Ev.s (ins := .aload_n 0) (pc' := 6) rfl rfl ?_
  refine gf_114_0 rfl ?_
  refine q_ic 0 rfl rfl ?_
  refine fl_115 rfl (Nat.le_of_ble_eq_true rfl) ?_
  refine Ev.s (ins := .aload_n 0) (pc' := 14) rfl rfl ?_
  refine gf_114_0 rfl ?_
  refine q_ic 0 rfl rfl ?_
  refine Ev.s (ins := .iload_n 2) (pc' := 19) rfl rfl ?_
  refine pt_115 rfl (Nat.le_of_ble_eq_true rfl) ?_
  refine Ev.s (ins := .aload_n 0) (pc' := 23) rfl rfl ?_
  refine gf_114_0 rfl ?_
  refine q_ic 1 rfl rfl ?_
  refine Ev.s (ins := .iload_n 3) (pc' := 28) rfl rfl ?_
  refine pt_115 rfl (Nat.le_of_ble_eq_true rfl) ?_
  refine q_ic 0 rfl rfl ?_
  refine Ev.s (ins := .istore 5) (pc' := 34) (lv' := [some (.ref 114), some (.ref 2), some (.int v2), some (.int v3), some (.ref 121), some (.int 0), none, none]) rfl rfl ?_
  refine q_ic 0 rfl rfl ?_
  refine Ev.s (ins := .istore 6) (pc' := 37) (lv' := [some (.ref 114), some (.ref 2), some (.int v2), some (.int v3), some (.ref 121), some (.int 0), some (.int 0), none]) rfl rfl ?_
  refine Ev.weak [some (.ref 114), some (.ref 2), none, none, some (.ref 121), some (.int 0), some (.int 0), none] ⟨rfl, rfl, rfl, rfl, rfl, rfl, rfl, rfl, trivial⟩ ?_
  exact e_Runner_walkBlocks_114_2_121_L37 hk
set_option maxRecDepth 100000 in
theorem e_Runner_walkBlocks_114_2_121 {v2 : Int32} {v3 : Int32} : Ev mmPT tbX8_walkBlocks 0 [some (.ref 114), some (.ref 2), some (.int v2), some (.int v3), some (.ref 121), none, none, none] [] (mh sc rest to fl ma tr mk cn nu de ru la tb tf ph cs) ((fun r : Ob × Ob => (none, mh sc rest to fl ma tr mk cn nu de r.1 r.2 tb tf ph cs)) (Runner_walkBlocks to ru la v2 v3)) := e_Runner_walkBlocks_114_2_121_0 (by exact rfl)
set_option maxRecDepth 100000 in
theorem e_Ph_countRun_0 {x : Option Value × List mmC} (hk : (kO (fun r : Ob × Int64 => (none, mh sc rest to fl ma tr mk cn nu de ru la tb tf r.1 r.2)) x) (Ph_countRun la ph cs)) : Ev mmPT tbX11_countRun 0 [some (.ref 1)] [] (mh sc rest to fl ma tr mk cn nu de ru la tb tf ph cs) x := by
  unfold Ph_countRun at hk
  refine Ev.s (ins := .aload_n 0) (pc' := 1) rfl rfl ?_
  refine Ev.s (ins := .dup) (pc' := 2) rfl rfl ?_
  refine gf_1_13 (ph.2.1 0) rfl rfl ?_
  refine q_ic 1 rfl rfl ?_
  refine Ev.s (ins := .iadd) (pc' := 7) rfl rfl ?_
  refine pf_1_13 ((ph.2.1 0) + 1) rfl ?_
  refine Ev.s (ins := .aload_n 0) (pc' := 11) rfl rfl ?_
  refine Ev.s (ins := .dup) (pc' := 12) rfl rfl ?_
  refine gf_1_14 cs rfl rfl ?_
  refine Ev.s (ins := .aload_n 0) (pc' := 16) rfl rfl ?_
  refine gf_1_9 rfl ?_
  refine gf_121_6 (la.2.1 3) rfl rfl ?_
  refine Ev.s (ins := .i2l) (pc' := 23) rfl rfl ?_
  refine Ev.s (ins := .ladd) (pc' := 24) rfl rfl ?_
  refine pf_1_14 (cs + (la.2.1 3).toInt64) rfl ?_
  exact Ev.vret rfl rfl hk
set_option maxRecDepth 100000 in
theorem e_Ph_countRun : Ev mmPT tbX11_countRun 0 [some (.ref 1)] [] (mh sc rest to fl ma tr mk cn nu de ru la tb tf ph cs) ((fun r : Ob × Int64 => (none, mh sc rest to fl ma tr mk cn nu de ru la tb tf r.1 r.2)) (Ph_countRun la ph cs)) := e_Ph_countRun_0 (by exact rfl)
set_option maxRecDepth 100000 in
theorem e_Ph_run_21 {x : Option Value × List mmC} (hk : (kO (fun r : Int32 × Ob × Ob × Ob × Int64 => (some (.int r.1), mh sc rest to fl ma tr mk cn nu de r.2.1 r.2.2.1 tb tf r.2.2.2.1 r.2.2.2.2)) x) (Ph_run_21 to ru la ph cs)) : Ev mmPT tbX11_run 21 [some (.ref 1), none, none] [] (mh sc rest to fl ma tr mk cn nu de ru la tb tf ph cs) x := by
  unfold Ph_run_21 at hk
  refine Ev.s (ins := .aload_n 0) (pc' := 22) rfl rfl ?_
  refine gf_1_9 rfl ?_
  refine gf_121_3 (la.2.1 0) rfl rfl ?_
  exact Ev.iret rfl rfl hk
set_option maxRecDepth 100000 in
theorem e_Ph_run_17 {x : Option Value × List mmC} (hk : (kO (fun r : Int32 × Ob × Ob × Ob × Int64 => (some (.int r.1), mh sc rest to fl ma tr mk cn nu de r.2.1 r.2.2.1 tb tf r.2.2.2.1 r.2.2.2.2)) x) (Ph_run_17 to ru la ph cs)) : Ev mmPT tbX11_run 17 [some (.ref 1), none, none] [] (mh sc rest to fl ma tr mk cn nu de ru la tb tf ph cs) x := by
  unfold Ph_run_17 at hk
  refine Ev.s (ins := .aload_n 0) (pc' := 18) rfl rfl ?_
  refine kc_X11_countRun_0 rfl oi_1 rfl (Nat.le_of_ble_eq_true rfl) (e_Ph_countRun) ?_
  exact e_Ph_run_21 hk
set_option maxRecDepth 100000 in
theorem e_Ph_run_0 {v1 : Int32} {v2 : Int32} {x : Option Value × List mmC} (hk : (kO (fun r : Int32 × Ob × Ob × Ob × Int64 => (some (.int r.1), mh sc rest to fl ma tr mk cn nu de r.2.1 r.2.2.1 tb tf r.2.2.2.1 r.2.2.2.2)) x) (Ph_run to ru la ph cs v1 v2)) : Ev mmPT tbX11_run 0 [some (.ref 1), some (.int v1), some (.int v2)] [] (mh sc rest to fl ma tr mk cn nu de ru la tb tf ph cs) x := by
  unfold Ph_run at hk
  refine Ev.s (ins := .aload_n 0) (pc' := 1) rfl rfl ?_
  refine gf_1_8 rfl ?_
  refine Ev.s (ins := .aload_n 0) (pc' := 5) rfl rfl ?_
  refine gf_1_0 rfl ?_
  refine Ev.s (ins := .iload_n 1) (pc' := 9) rfl rfl ?_
  refine Ev.s (ins := .iload_n 2) (pc' := 10) rfl rfl ?_
  refine Ev.s (ins := .aload_n 0) (pc' := 11) rfl rfl ?_
  refine gf_1_9 rfl ?_
  refine kc_X8_walkBlocks_0 rfl oi_114 rfl (Nat.le_of_ble_eq_true rfl) (e_Runner_walkBlocks_114_2_121) ?_
  refine Ev.weak [some (.ref 1), none, none] ⟨rfl, rfl, rfl, trivial⟩ ?_
  exact e_Ph_run_17 hk
set_option maxRecDepth 100000 in
theorem e_Ph_run {v1 : Int32} {v2 : Int32} : Ev mmPT tbX11_run 0 [some (.ref 1), some (.int v1), some (.int v2)] [] (mh sc rest to fl ma tr mk cn nu de ru la tb tf ph cs) ((fun r : Int32 × Ob × Ob × Ob × Int64 => (some (.int r.1), mh sc rest to fl ma tr mk cn nu de r.2.1 r.2.2.1 tb tf r.2.2.2.1 r.2.2.2.2)) (Ph_run to ru la ph cs v1 v2)) := e_Ph_run_0 (by exact rfl)
set_option maxRecDepth 100000 in
theorem e_Runner_reckon_114_34_0 {v2 : Int32} {v3 : Int32} {x : Option Value × List mmC} (hk : (kO (fun r : Int32 => (some (.int r), mh sc rest to fl ma tr mk cn nu de ru la tb tf ph cs)) x) (Runner_reckon ma ru v2 v3)) : Ev mmPT tbX8_reckon 0 [some (.ref 114), some (.ref 34), some (.int v2), some (.int v3), none] [] (mh sc rest to fl ma tr mk cn nu de ru la tb tf ph cs) x := by
  unfold Runner_reckon at hk
  refine Ev.s (ins := .aload_n 1) (pc' := 1) rfl rfl ?_
  refine Ev.s (ins := .iload_n 2) (pc' := 2) rfl rfl ?_
  refine Ev.s (ins := .iload_n 3) (pc' := 3) rfl rfl ?_
  refine kc_X3_valueOf_0 rfl oi_34 rfl (Nat.le_of_ble_eq_true rfl) (e_Form_valueOf_34) ?_
  refine Ev.s (ins := .istore 4) (pc' := 8) (lv' := [some (.ref 114), some (.ref 34), some (.int v2), some (.int v3), some (.int (Form_valueOf ma v2 v3))]) rfl rfl ?_
  refine Ev.s (ins := .iload 4) (pc' := 10) rfl rfl ?_
  refine q_ic (-1) rfl rfl ?_
  refine q_cne rfl hk (fun c1 hk => ?_) (fun c1 hk => ?_)
  · refine Ev.s (ins := .aload_n 1) (pc' := 15) rfl rfl ?_
    refine Ev.s (ins := .iload_n 2) (pc' := 16) rfl rfl ?_
    refine Ev.s (ins := .iload_n 3) (pc' := 17) rfl rfl ?_
    refine kc_X3_numberOf_0 rfl oi_34 rfl (Nat.le_of_ble_eq_true rfl) (e_Form_numberOf_34) ?_
    refine Ev.goto rfl ?_
    exact Ev.iret rfl rfl hk
  · refine Ev.s (ins := .aload_n 0) (pc' := 24) rfl rfl ?_
    refine gf_114_1 rfl ?_
    refine Ev.s (ins := .iload 4) (pc' := 29) rfl rfl ?_
    refine at_117 (oat ru 1 140 (Form_valueOf ma v2 v3)) rfl (Nat.le_of_ble_eq_true rfl) rfl ?_
    exact Ev.iret rfl rfl hk
set_option maxRecDepth 100000 in
theorem e_Runner_reckon_114_34 {v2 : Int32} {v3 : Int32} : Ev mmPT tbX8_reckon 0 [some (.ref 114), some (.ref 34), some (.int v2), some (.int v3), none] [] (mh sc rest to fl ma tr mk cn nu de ru la tb tf ph cs) ((fun r : Int32 => (some (.int r), mh sc rest to fl ma tr mk cn nu de ru la tb tf ph cs)) (Runner_reckon ma ru v2 v3)) := e_Runner_reckon_114_34_0 (by exact rfl)
set_option maxRecDepth 100000 in
theorem e_Runner_doPhis_114_34_56 {v2 : Int32} {v3 : Int32} {v4 : Int32} {x : Option Value × List mmC} (b3 : v4 < 2147483647) (hk : (kK (fun a : Int32 × Ob => mu a.1) (mu v4) (fun a : Int32 × Ob => Ev mmPT tbX8_doPhis 3 [some (.ref 114), some (.ref 34), some (.int v2), some (.int v3), some (.int a.1), none] [] (mh sc rest to fl ma tr mk cn nu de a.2 la tb tf ph cs) x) (kO (fun r : Ob => (none, mh sc rest to fl ma tr mk cn nu de r la tb tf ph cs)) x)) (Runner_doPhis_56 ma ru v2 v3 v4)) : Ev mmPT tbX8_doPhis 56 [some (.ref 114), some (.ref 34), some (.int v2), some (.int v3), some (.int v4), none] [] (mh sc rest to fl ma tr mk cn nu de ru la tb tf ph cs) x := by
  unfold Runner_doPhis_56 at hk
  refine q_inc 1 [some (.ref 114), some (.ref 34), some (.int v2), some (.int v3), some (.int (v4 + 1)), none] rfl rfl rfl rfl ?_
  refine Ev.goto rfl ?_
  replace hk := kK_l hk
  exact hk (mu_lt b3)
set_option maxRecDepth 100000 in
theorem e_Runner_doPhis_114_34_119 {v2 : Int32} {v4 : Int32} {x : Option Value × List mmC} (b65 : v4 < 2147483647) (hk : (kK (fun a : Int32 × Ob => mu a.1) (mu v4) (fun a : Int32 × Ob => Ev mmPT tbX8_doPhis 65 [some (.ref 114), some (.ref 34), some (.int v2), none, some (.int a.1), none] [] (mh sc rest to fl ma tr mk cn nu de a.2 la tb tf ph cs) x) (kO (fun r : Ob => (none, mh sc rest to fl ma tr mk cn nu de r la tb tf ph cs)) x)) (Runner_doPhis_119 ma ru v2 v4)) : Ev mmPT tbX8_doPhis 119 [some (.ref 114), some (.ref 34), some (.int v2), none, some (.int v4), none] [] (mh sc rest to fl ma tr mk cn nu de ru la tb tf ph cs) x := by
  unfold Runner_doPhis_119 at hk
  refine q_inc 1 [some (.ref 114), some (.ref 34), some (.int v2), none, some (.int (v4 + 1)), none] rfl rfl rfl rfl ?_
  refine Ev.goto rfl ?_
  replace hk := kK_l hk
  exact hk (mu_lt b65)
set_option maxRecDepth 100000 in
theorem e_Runner_doPhis_114_34_L65b {v2 : Int32} {v4 : Int32} {x : Option Value × List mmC} (hk : (kK (fun a : Int32 × Ob => mu a.1) (mu v4) (fun a : Int32 × Ob => Ev mmPT tbX8_doPhis 65 [some (.ref 114), some (.ref 34), some (.int v2), none, some (.int a.1), none] [] (mh sc rest to fl ma tr mk cn nu de a.2 la tb tf ph cs) x) (kO (fun r : Ob => (none, mh sc rest to fl ma tr mk cn nu de r la tb tf ph cs)) x)) (Runner_doPhis_L65b ma ru v2 v4)) : Ev mmPT tbX8_doPhis 65 [some (.ref 114), some (.ref 34), some (.int v2), none, some (.int v4), none] [] (mh sc rest to fl ma tr mk cn nu de ru la tb tf ph cs) x := by
  unfold Runner_doPhis_L65b at hk
  refine Ev.s (ins := .iload 4) (pc' := 67) rfl rfl ?_
  refine Ev.s (ins := .aload_n 1) (pc' := 68) rfl rfl ?_
  refine gf_34_7 rfl ?_
  refine Ev.s (ins := .iload_n 2) (pc' := 72) rfl rfl ?_
  refine at_49 (oat ma 7 10 v2) rfl (Nat.le_of_ble_eq_true rfl) rfl ?_
  refine q_cge rfl hk (fun c1 hk => ?_) (fun c1 hk => ?_)
  · refine Ev.s (ins := .aload_n 1) (pc' := 79) rfl rfl ?_
    refine Ev.s (ins := .iload_n 2) (pc' := 80) rfl rfl ?_
    refine Ev.s (ins := .iload 4) (pc' := 82) rfl rfl ?_
    refine kc_X3_valueIn_0 rfl oi_34 rfl (Nat.le_of_ble_eq_true rfl) (e_Form_valueIn_34) ?_
    refine Ev.s (ins := .istore 5) (pc' := 87) (lv' := [some (.ref 114), some (.ref 34), some (.int v2), none, some (.int v4), some (.int (Form_valueIn ma v2 v4))]) rfl rfl ?_
    refine Ev.s (ins := .aload_n 1) (pc' := 88) rfl rfl ?_
    refine gf_34_0 rfl ?_
    refine Ev.s (ins := .iload 5) (pc' := 93) rfl rfl ?_
    refine at_35 (oat ma 0 140 (Form_valueIn ma v2 v4)) rfl (Nat.le_of_ble_eq_true rfl) rfl ?_
    refine q_bi 9 rfl rfl ?_
    refine q_cne rfl hk (fun c2 hk => ?_) (fun c2 hk => ?_)
    · refine Ev.s (ins := .aload_n 0) (pc' := 102) rfl rfl ?_
      refine gf_114_1 rfl ?_
      refine Ev.s (ins := .iload 5) (pc' := 107) rfl rfl ?_
      refine Ev.s (ins := .aload_n 0) (pc' := 108) rfl rfl ?_
      refine gf_114_2 rfl ?_
      refine Ev.s (ins := .iload 5) (pc' := 113) rfl rfl ?_
      refine at_119 (oat ru 2 140 (Form_valueIn ma v2 v4)) rfl (Nat.le_of_ble_eq_true rfl) rfl ?_
      refine pt_117 rfl (Nat.le_of_ble_eq_true rfl) ?_
      refine Ev.weak [some (.ref 114), some (.ref 34), some (.int v2), none, some (.int v4), none] ⟨rfl, rfl, rfl, rfl, rfl, rfl, trivial⟩ ?_
      exact e_Runner_doPhis_114_34_119 (lt31 c1) hk
    · refine Ev.weak [some (.ref 114), some (.ref 34), some (.int v2), none, some (.int v4), none] ⟨rfl, rfl, rfl, rfl, rfl, rfl, trivial⟩ ?_
      exact e_Runner_doPhis_114_34_119 (lt31 c1) hk
  · replace hk := kK_r hk
    exact Ev.vret rfl rfl hk
set_option maxRecDepth 100000 in
theorem e_Runner_doPhis_114_34_L65 {v2 : Int32} {v4 : Int32} {x : Option Value × List mmC} (hk : (kO (fun r : Ob => (none, mh sc rest to fl ma tr mk cn nu de r la tb tf ph cs)) x) (Runner_doPhis_L65 ma ru v2 v4)) : Ev mmPT tbX8_doPhis 65 [some (.ref 114), some (.ref 34), some (.int v2), none, some (.int v4), none] [] (mh sc rest to fl ma tr mk cn nu de ru la tb tf ph cs) x :=
  k_loop (B := (fun a : Int32 × Ob => Runner_doPhis_L65b ma a.2 v2 a.1)) (μ := fun a : Int32 × Ob => mu a.1) (E := fun a : Int32 × Ob => Ev mmPT tbX8_doPhis 65 [some (.ref 114), some (.ref 34), some (.int v2), none, some (.int a.1), none] [] (mh sc rest to fl ma tr mk cn nu de a.2 la tb tf ph cs) x) (X := (kO (fun r : Ob => (none, mh sc rest to fl ma tr mk cn nu de r la tb tf ph cs)) x)) (fun a hk => e_Runner_doPhis_114_34_L65b hk) (v4, ru) hk
set_option maxRecDepth 100000 in
theorem e_Runner_doPhis_114_34_L3b {v2 : Int32} {v3 : Int32} {v4 : Int32} {x : Option Value × List mmC} (hk : (kK (fun a : Int32 × Ob => mu a.1) (mu v4) (fun a : Int32 × Ob => Ev mmPT tbX8_doPhis 3 [some (.ref 114), some (.ref 34), some (.int v2), some (.int v3), some (.int a.1), none] [] (mh sc rest to fl ma tr mk cn nu de a.2 la tb tf ph cs) x) (kO (fun r : Ob => (none, mh sc rest to fl ma tr mk cn nu de r la tb tf ph cs)) x)) (Runner_doPhis_L3b ma ru v2 v3 v4)) : Ev mmPT tbX8_doPhis 3 [some (.ref 114), some (.ref 34), some (.int v2), some (.int v3), some (.int v4), none] [] (mh sc rest to fl ma tr mk cn nu de ru la tb tf ph cs) x := by
  unfold Runner_doPhis_L3b at hk
  refine Ev.s (ins := .iload 4) (pc' := 5) rfl rfl ?_
  refine Ev.s (ins := .aload_n 1) (pc' := 6) rfl rfl ?_
  refine gf_34_7 rfl ?_
  refine Ev.s (ins := .iload_n 2) (pc' := 10) rfl rfl ?_
  refine at_49 (oat ma 7 10 v2) rfl (Nat.le_of_ble_eq_true rfl) rfl ?_
  refine q_cge rfl hk (fun c1 hk => ?_) (fun c1 hk => ?_)
  · refine Ev.s (ins := .aload_n 1) (pc' := 17) rfl rfl ?_
    refine Ev.s (ins := .iload_n 2) (pc' := 18) rfl rfl ?_
    refine Ev.s (ins := .iload 4) (pc' := 20) rfl rfl ?_
    refine kc_X3_valueIn_0 rfl oi_34 rfl (Nat.le_of_ble_eq_true rfl) (e_Form_valueIn_34) ?_
    refine Ev.s (ins := .istore 5) (pc' := 25) (lv' := [some (.ref 114), some (.ref 34), some (.int v2), some (.int v3), some (.int v4), some (.int (Form_valueIn ma v2 v4))]) rfl rfl ?_
    refine Ev.s (ins := .aload_n 1) (pc' := 26) rfl rfl ?_
    refine gf_34_0 rfl ?_
    refine Ev.s (ins := .iload 5) (pc' := 31) rfl rfl ?_
    refine at_35 (oat ma 0 140 (Form_valueIn ma v2 v4)) rfl (Nat.le_of_ble_eq_true rfl) rfl ?_
    refine q_bi 9 rfl rfl ?_
    refine q_cne rfl hk (fun c2 hk => ?_) (fun c2 hk => ?_)
    · refine Ev.s (ins := .aload_n 0) (pc' := 40) rfl rfl ?_
      refine gf_114_2 rfl ?_
      refine Ev.s (ins := .iload 5) (pc' := 45) rfl rfl ?_
      refine Ev.s (ins := .aload_n 0) (pc' := 46) rfl rfl ?_
      refine Ev.s (ins := .aload_n 1) (pc' := 47) rfl rfl ?_
      refine Ev.s (ins := .iload 5) (pc' := 49) rfl rfl ?_
      refine Ev.s (ins := .iload_n 3) (pc' := 50) rfl rfl ?_
      refine kc_X8_reckon_0 rfl oi_114 rfl (Nat.le_of_ble_eq_true rfl) (e_Runner_reckon_114_34) ?_
      refine pt_119 rfl (Nat.le_of_ble_eq_true rfl) ?_
      refine Ev.weak [some (.ref 114), some (.ref 34), some (.int v2), some (.int v3), some (.int v4), none] ⟨rfl, rfl, rfl, rfl, rfl, rfl, trivial⟩ ?_
      exact e_Runner_doPhis_114_34_56 (lt31 c1) hk
    · refine Ev.weak [some (.ref 114), some (.ref 34), some (.int v2), some (.int v3), some (.int v4), none] ⟨rfl, rfl, rfl, rfl, rfl, rfl, trivial⟩ ?_
      exact e_Runner_doPhis_114_34_56 (lt31 c1) hk
  · replace hk := kK_r hk
    refine q_ic 0 rfl rfl ?_
    refine Ev.s (ins := .istore 4) (pc' := 65) (lv' := [some (.ref 114), some (.ref 34), some (.int v2), some (.int v3), some (.int 0), none]) rfl rfl ?_
    refine Ev.weak [some (.ref 114), some (.ref 34), some (.int v2), none, some (.int 0), none] ⟨rfl, rfl, rfl, rfl, rfl, rfl, trivial⟩ ?_
    exact e_Runner_doPhis_114_34_L65 hk
set_option maxRecDepth 100000 in
theorem e_Runner_doPhis_114_34_L3 {v2 : Int32} {v3 : Int32} {v4 : Int32} {x : Option Value × List mmC} (hk : (kO (fun r : Ob => (none, mh sc rest to fl ma tr mk cn nu de r la tb tf ph cs)) x) (Runner_doPhis_L3 ma ru v2 v3 v4)) : Ev mmPT tbX8_doPhis 3 [some (.ref 114), some (.ref 34), some (.int v2), some (.int v3), some (.int v4), none] [] (mh sc rest to fl ma tr mk cn nu de ru la tb tf ph cs) x :=
  k_loop (B := (fun a : Int32 × Ob => Runner_doPhis_L3b ma a.2 v2 v3 a.1)) (μ := fun a : Int32 × Ob => mu a.1) (E := fun a : Int32 × Ob => Ev mmPT tbX8_doPhis 3 [some (.ref 114), some (.ref 34), some (.int v2), some (.int v3), some (.int a.1), none] [] (mh sc rest to fl ma tr mk cn nu de a.2 la tb tf ph cs) x) (X := (kO (fun r : Ob => (none, mh sc rest to fl ma tr mk cn nu de r la tb tf ph cs)) x)) (fun a hk => e_Runner_doPhis_114_34_L3b hk) (v4, ru) hk
set_option maxRecDepth 100000 in
theorem e_Runner_doPhis_114_34_0 {v2 : Int32} {v3 : Int32} {x : Option Value × List mmC} (hk : (kO (fun r : Ob => (none, mh sc rest to fl ma tr mk cn nu de r la tb tf ph cs)) x) (Runner_doPhis ma ru v2 v3)) : Ev mmPT tbX8_doPhis 0 [some (.ref 114), some (.ref 34), some (.int v2), some (.int v3), none, none] [] (mh sc rest to fl ma tr mk cn nu de ru la tb tf ph cs) x := by
  unfold Runner_doPhis at hk
  refine q_ic 0 rfl rfl ?_
  refine Ev.s (ins := .istore 4) (pc' := 3) (lv' := [some (.ref 114), some (.ref 34), some (.int v2), some (.int v3), some (.int 0), none]) rfl rfl ?_
  exact e_Runner_doPhis_114_34_L3 hk
set_option maxRecDepth 100000 in
theorem e_Runner_doPhis_114_34 {v2 : Int32} {v3 : Int32} : Ev mmPT tbX8_doPhis 0 [some (.ref 114), some (.ref 34), some (.int v2), some (.int v3), none, none] [] (mh sc rest to fl ma tr mk cn nu de ru la tb tf ph cs) ((fun r : Ob => (none, mh sc rest to fl ma tr mk cn nu de r la tb tf ph cs)) (Runner_doPhis ma ru v2 v3)) := e_Runner_doPhis_114_34_0 (by exact rfl)
end RF4
