/-! THE RUNS ARE THE FUNCTIONS, by program: 3 -/
section RF2
variable {sc : mmC} {rest : List mmC} {to fl ma tr mk cn nu de ru la tb tf ph : Ob} {cs : Int64}
set_option maxRecDepth 100000 in
theorem e_Constants_knownAt_95_34_0 {v2 : Int32} {x : Option Value × List mmC} (hk : (kO (fun r : Int32 => (some (.int r), mh sc rest to fl ma tr mk cn nu de ru la tb tf ph cs)) x) (Constants_knownAt ma cn v2)) : Ev mmPT tbX0_knownAt 0 [some (.ref 95), some (.ref 34), some (.int v2), none] [] (mh sc rest to fl ma tr mk cn nu de ru la tb tf ph cs) x := by
  unfold Constants_knownAt at hk
  refine Ev.s (ins := .aload_n 1) (pc' := 1) rfl rfl ?_
  refine gf_34_5 rfl ?_
  refine Ev.s (ins := .iload_n 2) (pc' := 5) rfl rfl ?_
  refine at_45 (oat ma 5 290 v2) rfl (Nat.le_of_ble_eq_true rfl) rfl ?_
  refine Ev.s (ins := .istore_n 3) (pc' := 9) (lv' := [some (.ref 95), some (.ref 34), some (.int v2), some (.int (oat ma 5 290 v2))]) rfl rfl ?_
  refine Ev.s (ins := .iload_n 3) (pc' := 10) rfl rfl ?_
  refine q_ic (-1) rfl rfl ?_
  refine q_cne rfl hk (fun c1 hk => ?_) (fun c1 hk => ?_)
  · refine q_ic 1 rfl rfl ?_
    refine Ev.goto rfl ?_
    exact Ev.iret rfl rfl hk
  · refine Ev.s (ins := .aload_n 0) (pc' := 19) rfl rfl ?_
    refine gf_95_0 rfl ?_
    refine Ev.s (ins := .iload_n 3) (pc' := 23) rfl rfl ?_
    refine at_96 (oat cn 0 140 (oat ma 5 290 v2)) rfl (Nat.le_of_ble_eq_true rfl) rfl ?_
    exact Ev.iret rfl rfl hk
set_option maxRecDepth 100000 in
theorem e_Constants_knownAt_95_34 {v2 : Int32} : Ev mmPT tbX0_knownAt 0 [some (.ref 95), some (.ref 34), some (.int v2), none] [] (mh sc rest to fl ma tr mk cn nu de ru la tb tf ph cs) ((fun r : Int32 => (some (.int r), mh sc rest to fl ma tr mk cn nu de ru la tb tf ph cs)) (Constants_knownAt ma cn v2)) := e_Constants_knownAt_95_34_0 (by exact rfl)
set_option maxRecDepth 100000 in
theorem e_Constants_rise_95_0 {v1 : Int32} {v2 : Int32} {v3 : Int32} {x : Option Value × List mmC} (hk : (kO (fun r : Ob => (none, mh sc rest to fl ma tr mk r nu de ru la tb tf ph cs)) x) (Constants_rise cn v1 v2 v3)) : Ev mmPT tbX0_rise 0 [some (.ref 95), some (.int v1), some (.int v2), some (.int v3)] [] (mh sc rest to fl ma tr mk cn nu de ru la tb tf ph cs) x := by
  unfold Constants_rise at hk
  refine Ev.s (ins := .iload_n 2) (pc' := 1) rfl rfl ?_
  refine Ev.s (ins := .aload_n 0) (pc' := 2) rfl rfl ?_
  refine gf_95_0 rfl ?_
  refine Ev.s (ins := .iload_n 1) (pc' := 6) rfl rfl ?_
  refine at_96 (oat cn 0 140 v1) rfl (Nat.le_of_ble_eq_true rfl) rfl ?_
  refine q_cle rfl hk (fun c1 hk => ?_) (fun c1 hk => ?_)
  · refine Ev.s (ins := .aload_n 0) (pc' := 13) rfl rfl ?_
    refine gf_95_0 rfl ?_
    refine Ev.s (ins := .iload_n 1) (pc' := 17) rfl rfl ?_
    refine Ev.s (ins := .iload_n 2) (pc' := 18) rfl rfl ?_
    refine pt_96 rfl (Nat.le_of_ble_eq_true rfl) ?_
    refine Ev.s (ins := .aload_n 0) (pc' := 22) rfl rfl ?_
    refine gf_95_1 rfl ?_
    refine Ev.s (ins := .iload_n 1) (pc' := 26) rfl rfl ?_
    refine Ev.s (ins := .iload_n 3) (pc' := 27) rfl rfl ?_
    refine pt_98 rfl (Nat.le_of_ble_eq_true rfl) ?_
    refine Ev.s (ins := .aload_n 0) (pc' := 31) rfl rfl ?_
    refine q_ic 1 rfl rfl ?_
    refine pf_95_4 true rfl ?_
    exact Ev.vret rfl rfl hk
  · exact Ev.vret rfl rfl hk
set_option maxRecDepth 100000 in
theorem e_Constants_rise_95 {v1 : Int32} {v2 : Int32} {v3 : Int32} : Ev mmPT tbX0_rise 0 [some (.ref 95), some (.int v1), some (.int v2), some (.int v3)] [] (mh sc rest to fl ma tr mk cn nu de ru la tb tf ph cs) ((fun r : Ob => (none, mh sc rest to fl ma tr mk r nu de ru la tb tf ph cs)) (Constants_rise cn v1 v2 v3)) := e_Constants_rise_95_0 (by exact rfl)
set_option maxRecDepth 100000 in
theorem e_Constants_numberAt_95_34_0 {v2 : Int32} {x : Option Value × List mmC} (hk : (kO (fun r : Int32 => (some (.int r), mh sc rest to fl ma tr mk cn nu de ru la tb tf ph cs)) x) (Constants_numberAt ma cn v2)) : Ev mmPT tbX0_numberAt 0 [some (.ref 95), some (.ref 34), some (.int v2), none] [] (mh sc rest to fl ma tr mk cn nu de ru la tb tf ph cs) x := by
  unfold Constants_numberAt at hk
  refine Ev.s (ins := .aload_n 1) (pc' := 1) rfl rfl ?_
  refine gf_34_5 rfl ?_
  refine Ev.s (ins := .iload_n 2) (pc' := 5) rfl rfl ?_
  refine at_45 (oat ma 5 290 v2) rfl (Nat.le_of_ble_eq_true rfl) rfl ?_
  refine Ev.s (ins := .istore_n 3) (pc' := 9) (lv' := [some (.ref 95), some (.ref 34), some (.int v2), some (.int (oat ma 5 290 v2))]) rfl rfl ?_
  refine Ev.s (ins := .iload_n 3) (pc' := 10) rfl rfl ?_
  refine q_ic (-1) rfl rfl ?_
  refine q_cne rfl hk (fun c1 hk => ?_) (fun c1 hk => ?_)
  · refine Ev.s (ins := .aload_n 1) (pc' := 15) rfl rfl ?_
    refine gf_34_6 rfl ?_
    refine Ev.s (ins := .iload_n 2) (pc' := 19) rfl rfl ?_
    refine at_47 (oat ma 6 290 v2) rfl (Nat.le_of_ble_eq_true rfl) rfl ?_
    refine Ev.goto rfl ?_
    exact Ev.iret rfl rfl hk
  · refine Ev.s (ins := .aload_n 0) (pc' := 26) rfl rfl ?_
    refine gf_95_1 rfl ?_
    refine Ev.s (ins := .iload_n 3) (pc' := 30) rfl rfl ?_
    refine at_98 (oat cn 1 140 (oat ma 5 290 v2)) rfl (Nat.le_of_ble_eq_true rfl) rfl ?_
    exact Ev.iret rfl rfl hk
set_option maxRecDepth 100000 in
theorem e_Constants_numberAt_95_34 {v2 : Int32} : Ev mmPT tbX0_numberAt 0 [some (.ref 95), some (.ref 34), some (.int v2), none] [] (mh sc rest to fl ma tr mk cn nu de ru la tb tf ph cs) ((fun r : Int32 => (some (.int r), mh sc rest to fl ma tr mk cn nu de ru la tb tf ph cs)) (Constants_numberAt ma cn v2)) := e_Constants_numberAt_95_34_0 (by exact rfl)
set_option maxRecDepth 100000 in
theorem e_Constants_meet_95_34_136 {v2 : Int32} {v3 : Int32} {v4 : Int32} {v5 : Int32} {v6 : Int32} {x : Option Value × List mmC} (b9 : v6 < 2147483647) (hk : (kK (fun a : Int32 × Int32 × Int32 => mu a.2.2) (mu v6) (fun a : Int32 × Int32 × Int32 => Ev mmPT tbX0_meet 9 [some (.ref 95), some (.ref 34), some (.int v2), some (.int v3), some (.int a.1), some (.int a.2.1), some (.int a.2.2), none, none, none] [] (mh sc rest to fl ma tr mk cn nu de ru la tb tf ph cs) x) (kO (fun r : Ob => (none, mh sc rest to fl ma tr mk r nu de ru la tb tf ph cs)) x)) (Constants_meet_136 ma cn v2 v3 v4 v5 v6)) : Ev mmPT tbX0_meet 136 [some (.ref 95), some (.ref 34), some (.int v2), some (.int v3), some (.int v4), some (.int v5), some (.int v6), none, none, none] [] (mh sc rest to fl ma tr mk cn nu de ru la tb tf ph cs) x := by
  unfold Constants_meet_136 at hk
  refine q_inc 1 [some (.ref 95), some (.ref 34), some (.int v2), some (.int v3), some (.int v4), some (.int v5), some (.int (v6 + 1)), none, none, none] rfl rfl rfl rfl ?_
  refine Ev.goto rfl ?_
  replace hk := kK_l hk
  exact hk (mu_lt b9)
set_option maxRecDepth 100000 in
theorem e_Constants_meet_95_34_133 {v2 : Int32} {v3 : Int32} {v5 : Int32} {v6 : Int32} {x : Option Value × List mmC} (b9 : v6 < 2147483647) (hk : (kK (fun a : Int32 × Int32 × Int32 => mu a.2.2) (mu v6) (fun a : Int32 × Int32 × Int32 => Ev mmPT tbX0_meet 9 [some (.ref 95), some (.ref 34), some (.int v2), some (.int v3), some (.int a.1), some (.int a.2.1), some (.int a.2.2), none, none, none] [] (mh sc rest to fl ma tr mk cn nu de ru la tb tf ph cs) x) (kO (fun r : Ob => (none, mh sc rest to fl ma tr mk r nu de ru la tb tf ph cs)) x)) (Constants_meet_133 ma cn v2 v3 v5 v6)) : Ev mmPT tbX0_meet 133 [some (.ref 95), some (.ref 34), some (.int v2), some (.int v3), none, some (.int v5), some (.int v6), none, none, none] [] (mh sc rest to fl ma tr mk cn nu de ru la tb tf ph cs) x := by
  unfold Constants_meet_133 at hk
  refine q_ic 2 rfl rfl ?_
  refine Ev.s (ins := .istore 4) (pc' := 136) (lv' := [some (.ref 95), some (.ref 34), some (.int v2), some (.int v3), some (.int 2), some (.int v5), some (.int v6), none, none, none]) rfl rfl ?_
  exact e_Constants_meet_95_34_136 b9 hk
set_option maxRecDepth 100000 in
theorem e_Constants_meet_95_34_122 {v2 : Int32} {v3 : Int32} {v4 : Int32} {v5 : Int32} {v6 : Int32} {v8 : Int32} {v9 : Int32} {x : Option Value × List mmC} (b9 : v6 < 2147483647) (hk : (kK (fun a : Int32 × Int32 × Int32 => mu a.2.2) (mu v6) (fun a : Int32 × Int32 × Int32 => Ev mmPT tbX0_meet 9 [some (.ref 95), some (.ref 34), some (.int v2), some (.int v3), some (.int a.1), some (.int a.2.1), some (.int a.2.2), none, none, none] [] (mh sc rest to fl ma tr mk cn nu de ru la tb tf ph cs) x) (kO (fun r : Ob => (none, mh sc rest to fl ma tr mk r nu de ru la tb tf ph cs)) x)) (Constants_meet_122 ma cn v2 v3 v4 v5 v6 v8 v9)) : Ev mmPT tbX0_meet 122 [some (.ref 95), some (.ref 34), some (.int v2), some (.int v3), some (.int v4), some (.int v5), some (.int v6), none, some (.int v8), some (.int v9)] [] (mh sc rest to fl ma tr mk cn nu de ru la tb tf ph cs) x := by
  unfold Constants_meet_122 at hk
  refine Ev.s (ins := .iload 8) (pc' := 124) rfl rfl ?_
  refine q_ic 2 rfl rfl ?_
  refine q_ceq rfl hk (fun c1 hk => ?_) (fun c1 hk => ?_)
  · refine Ev.weak [some (.ref 95), some (.ref 34), some (.int v2), some (.int v3), none, some (.int v5), some (.int v6), none, none, none] ⟨rfl, rfl, rfl, rfl, rfl, rfl, rfl, rfl, rfl, rfl, trivial⟩ ?_
    exact e_Constants_meet_95_34_133 b9 hk
  · refine Ev.s (ins := .iload 9) (pc' := 130) rfl rfl ?_
    refine q_eq rfl hk (fun c2 hk => ?_) (fun c2 hk => ?_)
    · refine Ev.weak [some (.ref 95), some (.ref 34), some (.int v2), some (.int v3), some (.int v4), some (.int v5), some (.int v6), none, none, none] ⟨rfl, rfl, rfl, rfl, rfl, rfl, rfl, rfl, rfl, rfl, trivial⟩ ?_
      exact e_Constants_meet_95_34_136 b9 hk
    · refine Ev.weak [some (.ref 95), some (.ref 34), some (.int v2), some (.int v3), none, some (.int v5), some (.int v6), none, none, none] ⟨rfl, rfl, rfl, rfl, rfl, rfl, rfl, rfl, rfl, rfl, trivial⟩ ?_
      exact e_Constants_meet_95_34_133 b9 hk
set_option maxRecDepth 100000 in
theorem e_Constants_meet_95_34_94 {v2 : Int32} {v3 : Int32} {v4 : Int32} {v5 : Int32} {v6 : Int32} {v7 : Int32} {v8 : Int32} {w0 : Int32} {x : Option Value × List mmC} (b9 : v6 < 2147483647) (hk : (kK (fun a : Int32 × Int32 × Int32 => mu a.2.2) (mu v6) (fun a : Int32 × Int32 × Int32 => Ev mmPT tbX0_meet 9 [some (.ref 95), some (.ref 34), some (.int v2), some (.int v3), some (.int a.1), some (.int a.2.1), some (.int a.2.2), none, none, none] [] (mh sc rest to fl ma tr mk cn nu de ru la tb tf ph cs) x) (kO (fun r : Ob => (none, mh sc rest to fl ma tr mk r nu de ru la tb tf ph cs)) x)) (Constants_meet_94 ma cn v2 v3 v4 v5 v6 v7 v8 w0)) : Ev mmPT tbX0_meet 94 [some (.ref 95), some (.ref 34), some (.int v2), some (.int v3), some (.int v4), some (.int v5), some (.int v6), some (.int v7), some (.int v8), none] [.int w0] (mh sc rest to fl ma tr mk cn nu de ru la tb tf ph cs) x := by
  unfold Constants_meet_94 at hk
  refine Ev.s (ins := .istore 9) (pc' := 96) (lv' := [some (.ref 95), some (.ref 34), some (.int v2), some (.int v3), some (.int v4), some (.int v5), some (.int v6), some (.int v7), some (.int v8), some (.int w0)]) rfl rfl ?_
  refine Ev.s (ins := .iload 8) (pc' := 98) rfl rfl ?_
  refine q_ic 1 rfl rfl ?_
  refine q_cne rfl hk (fun c1 hk => ?_) (fun c1 hk => ?_)
  · refine Ev.s (ins := .iload 4) (pc' := 104) rfl rfl ?_
    refine q_ne rfl hk (fun c2 hk => ?_) (fun c2 hk => ?_)
    · refine q_ic 1 rfl rfl ?_
      refine Ev.s (ins := .istore 4) (pc' := 110) (lv' := [some (.ref 95), some (.ref 34), some (.int v2), some (.int v3), some (.int 1), some (.int v5), some (.int v6), some (.int v7), some (.int v8), some (.int w0)]) rfl rfl ?_
      refine Ev.s (ins := .aload_n 0) (pc' := 111) rfl rfl ?_
      refine Ev.s (ins := .aload_n 1) (pc' := 112) rfl rfl ?_
      refine Ev.s (ins := .iload 7) (pc' := 114) rfl rfl ?_
      refine kc_X0_numberAt_0 rfl oi_95 rfl (Nat.le_of_ble_eq_true rfl) (e_Constants_numberAt_95_34) ?_
      refine Ev.s (ins := .istore 5) (pc' := 119) (lv' := [some (.ref 95), some (.ref 34), some (.int v2), some (.int v3), some (.int 1), some (.int (Constants_numberAt ma cn v7)), some (.int v6), some (.int v7), some (.int v8), some (.int w0)]) rfl rfl ?_
      refine Ev.goto rfl ?_
      refine Ev.weak [some (.ref 95), some (.ref 34), some (.int v2), some (.int v3), some (.int 1), some (.int (Constants_numberAt ma cn v7)), some (.int v6), none, none, none] ⟨rfl, rfl, rfl, rfl, rfl, rfl, rfl, rfl, rfl, rfl, trivial⟩ ?_
      exact e_Constants_meet_95_34_136 b9 hk
    · refine Ev.weak [some (.ref 95), some (.ref 34), some (.int v2), some (.int v3), some (.int v4), some (.int v5), some (.int v6), none, some (.int v8), some (.int w0)] ⟨rfl, rfl, rfl, rfl, rfl, rfl, rfl, rfl, rfl, rfl, trivial⟩ ?_
      exact e_Constants_meet_95_34_122 b9 hk
  · refine Ev.weak [some (.ref 95), some (.ref 34), some (.int v2), some (.int v3), some (.int v4), some (.int v5), some (.int v6), none, some (.int v8), some (.int w0)] ⟨rfl, rfl, rfl, rfl, rfl, rfl, rfl, rfl, rfl, rfl, trivial⟩ ?_
    exact e_Constants_meet_95_34_122 b9 hk
set_option maxRecDepth 100000 in
theorem e_Constants_meet_95_34_93 {v2 : Int32} {v3 : Int32} {v4 : Int32} {v5 : Int32} {v6 : Int32} {v7 : Int32} {v8 : Int32} {x : Option Value × List mmC} (b9 : v6 < 2147483647) (hk : (kK (fun a : Int32 × Int32 × Int32 => mu a.2.2) (mu v6) (fun a : Int32 × Int32 × Int32 => Ev mmPT tbX0_meet 9 [some (.ref 95), some (.ref 34), some (.int v2), some (.int v3), some (.int a.1), some (.int a.2.1), some (.int a.2.2), none, none, none] [] (mh sc rest to fl ma tr mk cn nu de ru la tb tf ph cs) x) (kO (fun r : Ob => (none, mh sc rest to fl ma tr mk r nu de ru la tb tf ph cs)) x)) (Constants_meet_93 ma cn v2 v3 v4 v5 v6 v7 v8)) : Ev mmPT tbX0_meet 93 [some (.ref 95), some (.ref 34), some (.int v2), some (.int v3), some (.int v4), some (.int v5), some (.int v6), some (.int v7), some (.int v8), none] [] (mh sc rest to fl ma tr mk cn nu de ru la tb tf ph cs) x := by
  unfold Constants_meet_93 at hk
  refine q_ic 0 rfl rfl ?_
  exact e_Constants_meet_95_34_94 b9 hk
set_option maxRecDepth 100000 in
theorem e_Constants_meet_95_34_63 {v2 : Int32} {v3 : Int32} {v4 : Int32} {v5 : Int32} {v6 : Int32} {v7 : Int32} {w0 : Int32} {x : Option Value × List mmC} (b9 : v6 < 2147483647) (hk : (kK (fun a : Int32 × Int32 × Int32 => mu a.2.2) (mu v6) (fun a : Int32 × Int32 × Int32 => Ev mmPT tbX0_meet 9 [some (.ref 95), some (.ref 34), some (.int v2), some (.int v3), some (.int a.1), some (.int a.2.1), some (.int a.2.2), none, none, none] [] (mh sc rest to fl ma tr mk cn nu de ru la tb tf ph cs) x) (kO (fun r : Ob => (none, mh sc rest to fl ma tr mk r nu de ru la tb tf ph cs)) x)) (Constants_meet_63 ma cn v2 v3 v4 v5 v6 v7 w0)) : Ev mmPT tbX0_meet 63 [some (.ref 95), some (.ref 34), some (.int v2), some (.int v3), some (.int v4), some (.int v5), some (.int v6), some (.int v7), none, none] [.int w0] (mh sc rest to fl ma tr mk cn nu de ru la tb tf ph cs) x := by
  unfold Constants_meet_63 at hk
  refine Ev.s (ins := .istore 8) (pc' := 65) (lv' := [some (.ref 95), some (.ref 34), some (.int v2), some (.int v3), some (.int v4), some (.int v5), some (.int v6), some (.int v7), some (.int w0), none]) rfl rfl ?_
  refine Ev.s (ins := .iload 8) (pc' := 67) rfl rfl ?_
  refine q_ic 1 rfl rfl ?_
  refine q_cne rfl hk (fun c1 hk => ?_) (fun c1 hk => ?_)
  · refine Ev.s (ins := .iload 4) (pc' := 73) rfl rfl ?_
    refine q_ic 1 rfl rfl ?_
    refine q_cne rfl hk (fun c2 hk => ?_) (fun c2 hk => ?_)
    · refine Ev.s (ins := .aload_n 0) (pc' := 78) rfl rfl ?_
      refine Ev.s (ins := .aload_n 1) (pc' := 79) rfl rfl ?_
      refine Ev.s (ins := .iload 7) (pc' := 81) rfl rfl ?_
      refine kc_X0_numberAt_0 rfl oi_95 rfl (Nat.le_of_ble_eq_true rfl) (e_Constants_numberAt_95_34) ?_
      refine Ev.s (ins := .iload 5) (pc' := 86) rfl rfl ?_
      refine q_ceq rfl hk (fun c3 hk => ?_) (fun c3 hk => ?_)
      · exact e_Constants_meet_95_34_93 b9 hk
      · refine q_ic 1 rfl rfl ?_
        refine Ev.goto rfl ?_
        exact e_Constants_meet_95_34_94 b9 hk
    · exact e_Constants_meet_95_34_93 b9 hk
  · exact e_Constants_meet_95_34_93 b9 hk
set_option maxRecDepth 100000 in
theorem e_Constants_meet_95_34_L9b {v2 : Int32} {v3 : Int32} {v4 : Int32} {v5 : Int32} {v6 : Int32} {x : Option Value × List mmC} (hk : (kK (fun a : Int32 × Int32 × Int32 => mu a.2.2) (mu v6) (fun a : Int32 × Int32 × Int32 => Ev mmPT tbX0_meet 9 [some (.ref 95), some (.ref 34), some (.int v2), some (.int v3), some (.int a.1), some (.int a.2.1), some (.int a.2.2), none, none, none] [] (mh sc rest to fl ma tr mk cn nu de ru la tb tf ph cs) x) (kO (fun r : Ob => (none, mh sc rest to fl ma tr mk r nu de ru la tb tf ph cs)) x)) (Constants_meet_L9b ma cn v2 v3 v4 v5 v6)) : Ev mmPT tbX0_meet 9 [some (.ref 95), some (.ref 34), some (.int v2), some (.int v3), some (.int v4), some (.int v5), some (.int v6), none, none, none] [] (mh sc rest to fl ma tr mk cn nu de ru la tb tf ph cs) x := by
  unfold Constants_meet_L9b at hk
  refine Ev.s (ins := .iload 6) (pc' := 11) rfl rfl ?_
  refine Ev.s (ins := .aload_n 1) (pc' := 12) rfl rfl ?_
  refine gf_34_9 rfl ?_
  refine Ev.s (ins := .iload_n 2) (pc' := 16) rfl rfl ?_
  refine at_53 (oat ma 9 10 v2) rfl (Nat.le_of_ble_eq_true rfl) rfl ?_
  refine q_cge rfl hk (fun c1 hk => ?_) (fun c1 hk => ?_)
  · refine Ev.s (ins := .aload_n 1) (pc' := 23) rfl rfl ?_
    refine gf_34_4 rfl ?_
    refine Ev.s (ins := .iload_n 3) (pc' := 27) rfl rfl ?_
    refine at_43 (oat ma 4 150 v3) rfl (Nat.le_of_ble_eq_true rfl) rfl ?_
    refine Ev.s (ins := .iload 6) (pc' := 32) rfl rfl ?_
    refine Ev.s (ins := .iadd) (pc' := 33) rfl rfl ?_
    refine Ev.s (ins := .istore 7) (pc' := 35) (lv' := [some (.ref 95), some (.ref 34), some (.int v2), some (.int v3), some (.int v4), some (.int v5), some (.int v6), some (.int ((oat ma 4 150 v3) + v6)), none, none]) rfl rfl ?_
    refine Ev.s (ins := .aload_n 0) (pc' := 36) rfl rfl ?_
    refine gf_95_3 (cn.2.1 1) rfl rfl ?_
    refine Ev.s (ins := .aload_n 1) (pc' := 40) rfl rfl ?_
    refine Ev.s (ins := .iload_n 2) (pc' := 41) rfl rfl ?_
    refine Ev.s (ins := .iload 6) (pc' := 43) rfl rfl ?_
    refine kc_X3_wayTo_0 rfl oi_34 rfl (Nat.le_of_ble_eq_true rfl) (e_Form_wayTo_34) ?_
    refine kc_X11_has_3 rfl (Nat.le_of_ble_eq_true rfl) (e_Ph_has) ?_
    refine q_beq rfl hk (fun c2 hk => ?_) (fun c2 hk => ?_)
    · refine Ev.s (ins := .aload_n 0) (pc' := 53) rfl rfl ?_
      refine Ev.s (ins := .aload_n 1) (pc' := 54) rfl rfl ?_
      refine Ev.s (ins := .iload 7) (pc' := 56) rfl rfl ?_
      refine kc_X0_knownAt_0 rfl oi_95 rfl (Nat.le_of_ble_eq_true rfl) (e_Constants_knownAt_95_34) ?_
      refine Ev.goto rfl ?_
      exact e_Constants_meet_95_34_63 (lt31 c1) hk
    · refine q_ic 0 rfl rfl ?_
      exact e_Constants_meet_95_34_63 (lt31 c1) hk
  · replace hk := kK_r hk
    refine Ev.s (ins := .aload_n 0) (pc' := 143) rfl rfl ?_
    refine Ev.s (ins := .iload_n 3) (pc' := 144) rfl rfl ?_
    refine Ev.s (ins := .iload 4) (pc' := 146) rfl rfl ?_
    refine Ev.s (ins := .iload 5) (pc' := 148) rfl rfl ?_
    refine kc_X0_rise_0 rfl oi_95 rfl (Nat.le_of_ble_eq_true rfl) (e_Constants_rise_95) ?_
    exact Ev.vret rfl rfl hk
set_option maxRecDepth 100000 in
theorem e_Constants_meet_95_34_L9 {v2 : Int32} {v3 : Int32} {v4 : Int32} {v5 : Int32} {v6 : Int32} {x : Option Value × List mmC} (hk : (kO (fun r : Ob => (none, mh sc rest to fl ma tr mk r nu de ru la tb tf ph cs)) x) (Constants_meet_L9 ma cn v2 v3 v4 v5 v6)) : Ev mmPT tbX0_meet 9 [some (.ref 95), some (.ref 34), some (.int v2), some (.int v3), some (.int v4), some (.int v5), some (.int v6), none, none, none] [] (mh sc rest to fl ma tr mk cn nu de ru la tb tf ph cs) x :=
  k_loop (B := (fun a : Int32 × Int32 × Int32 => Constants_meet_L9b ma cn v2 v3 a.1 a.2.1 a.2.2)) (μ := fun a : Int32 × Int32 × Int32 => mu a.2.2) (E := fun a : Int32 × Int32 × Int32 => Ev mmPT tbX0_meet 9 [some (.ref 95), some (.ref 34), some (.int v2), some (.int v3), some (.int a.1), some (.int a.2.1), some (.int a.2.2), none, none, none] [] (mh sc rest to fl ma tr mk cn nu de ru la tb tf ph cs) x) (X := (kO (fun r : Ob => (none, mh sc rest to fl ma tr mk r nu de ru la tb tf ph cs)) x)) (fun a hk => e_Constants_meet_95_34_L9b hk) (v4, v5, v6) hk
set_option maxRecDepth 100000 in
theorem e_Constants_meet_95_34_0 {v2 : Int32} {v3 : Int32} {x : Option Value × List mmC} (hk : (kO (fun r : Ob => (none, mh sc rest to fl ma tr mk r nu de ru la tb tf ph cs)) x) (Constants_meet ma cn v2 v3)) : Ev mmPT tbX0_meet 0 [some (.ref 95), some (.ref 34), some (.int v2), some (.int v3), none, none, none, none, none, none] [] (mh sc rest to fl ma tr mk cn nu de ru la tb tf ph cs) x := by
  unfold Constants_meet at hk
  refine q_ic 0 rfl rfl ?_
  refine Ev.s (ins := .istore 4) (pc' := 3) (lv' := [some (.ref 95), some (.ref 34), some (.int v2), some (.int v3), some (.int 0), none, none, none, none, none]) rfl rfl ?_
  refine q_ic 0 rfl rfl ?_
  refine Ev.s (ins := .istore 5) (pc' := 6) (lv' := [some (.ref 95), some (.ref 34), some (.int v2), some (.int v3), some (.int 0), some (.int 0), none, none, none, none]) rfl rfl ?_
  refine q_ic 0 rfl rfl ?_
  refine Ev.s (ins := .istore 6) (pc' := 9) (lv' := [some (.ref 95), some (.ref 34), some (.int v2), some (.int v3), some (.int 0), some (.int 0), some (.int 0), none, none, none]) rfl rfl ?_
  exact e_Constants_meet_95_34_L9 hk
set_option maxRecDepth 100000 in
theorem e_Constants_meet_95_34 {v2 : Int32} {v3 : Int32} : Ev mmPT tbX0_meet 0 [some (.ref 95), some (.ref 34), some (.int v2), some (.int v3), none, none, none, none, none, none] [] (mh sc rest to fl ma tr mk cn nu de ru la tb tf ph cs) ((fun r : Ob => (none, mh sc rest to fl ma tr mk r nu de ru la tb tf ph cs)) (Constants_meet ma cn v2 v3)) := e_Constants_meet_95_34_0 (by exact rfl)
set_option maxRecDepth 100000 in
theorem e_Ph_reckoned_0 {v0 : Int32} {v1 : Int32} {v2 : Int32} {x : Option Value × List mmC} (hk : (kO (fun r : Int32 => (some (.int r), mh sc rest to fl ma tr mk cn nu de ru la tb tf ph cs)) x) (Ph_reckoned v0 v1 v2)) : Ev mmPT tbX11_reckoned 0 [some (.int v0), some (.int v1), some (.int v2)] [] (mh sc rest to fl ma tr mk cn nu de ru la tb tf ph cs) x := by
  unfold Ph_reckoned at hk
  refine Ev.s (ins := .iload_n 0) (pc' := 1) rfl rfl ?_
  refine q_if hk (fun c1 hk => ?_) (fun c1 hk => ?_)
  · refine Ev.sw (tg := 36) rfl rfl (by rw [c1]; rfl) ?_
    refine Ev.s (ins := .iload_n 1) (pc' := 37) rfl rfl ?_
    refine Ev.s (ins := .iload_n 2) (pc' := 38) rfl rfl ?_
    refine Ev.s (ins := .iadd) (pc' := 39) rfl rfl ?_
    exact Ev.iret rfl rfl hk
  · skip
    refine q_if hk (fun c2 hk => ?_) (fun c2 hk => ?_)
    · refine Ev.sw (tg := 40) rfl rfl (by rw [c2]; rfl) ?_
      refine Ev.s (ins := .iload_n 1) (pc' := 41) rfl rfl ?_
      refine Ev.s (ins := .iload_n 2) (pc' := 42) rfl rfl ?_
      refine Ev.s (ins := .isub) (pc' := 43) rfl rfl ?_
      exact Ev.iret rfl rfl hk
    · skip
      refine q_if hk (fun c3 hk => ?_) (fun c3 hk => ?_)
      · refine Ev.sw (tg := 44) rfl rfl (by rw [c3]; rfl) ?_
        refine Ev.s (ins := .iload_n 1) (pc' := 45) rfl rfl ?_
        refine Ev.s (ins := .iload_n 2) (pc' := 46) rfl rfl ?_
        refine Ev.s (ins := .imul) (pc' := 47) rfl rfl ?_
        exact Ev.iret rfl rfl hk
      · skip
        refine q_if hk (fun c4 hk => ?_) (fun c4 hk => ?_)
        · refine Ev.sw (tg := 48) rfl rfl (by rw [c4]; rfl) ?_
          refine Ev.s (ins := .iload_n 2) (pc' := 49) rfl rfl ?_
          refine q_ne rfl hk (fun c5 hk => ?_) (fun c5 hk => ?_)
          · refine q_ic 0 rfl rfl ?_
            refine Ev.goto rfl ?_
            exact Ev.iret rfl rfl hk
          · refine Ev.s (ins := .iload_n 1) (pc' := 57) rfl rfl ?_
            refine Ev.s (ins := .iload_n 2) (pc' := 58) rfl rfl ?_
            refine q_div rfl c5 ?_
            exact Ev.iret rfl rfl hk
        · skip
          refine q_if hk (fun c5 hk => ?_) (fun c5 hk => ?_)
          · refine Ev.sw (tg := 60) rfl rfl (by rw [c5]; rfl) ?_
            refine Ev.s (ins := .iload_n 1) (pc' := 61) rfl rfl ?_
            refine Ev.s (ins := .iload_n 2) (pc' := 62) rfl rfl ?_
            refine q_cge rfl hk (fun c6 hk => ?_) (fun c6 hk => ?_)
            · refine q_ic 1 rfl rfl ?_
              refine Ev.goto rfl ?_
              exact Ev.iret rfl rfl hk
            · refine q_ic 0 rfl rfl ?_
              exact Ev.iret rfl rfl hk
          · skip
            refine Ev.sw (tg := 71) rfl rfl (swg (by decide) (by decide) (fun k h e => ?_)) ?_
            · have h9 : k < 5 := by omega
              match k, h9, e with
              | 0, _, e => exact absurd e c1
              | 1, _, e => exact absurd e c2
              | 2, _, e => exact absurd e c3
              | 3, _, e => exact absurd e c4
              | 4, _, e => exact absurd e c5
            · refine q_ic 0 rfl rfl ?_
              exact Ev.iret rfl rfl hk
set_option maxRecDepth 100000 in
theorem e_Ph_reckoned {v0 : Int32} {v1 : Int32} {v2 : Int32} : Ev mmPT tbX11_reckoned 0 [some (.int v0), some (.int v1), some (.int v2)] [] (mh sc rest to fl ma tr mk cn nu de ru la tb tf ph cs) ((fun r : Int32 => (some (.int r), mh sc rest to fl ma tr mk cn nu de ru la tb tf ph cs)) (Ph_reckoned v0 v1 v2)) := e_Ph_reckoned_0 (by exact rfl)
set_option maxRecDepth 100000 in
theorem e_Constants_reckon_95_34_74 {v2 : Int32} {x : Option Value × List mmC} (hk : (kO (fun r : Ob => (none, mh sc rest to fl ma tr mk r nu de ru la tb tf ph cs)) x) (Constants_reckon_74 ma cn v2)) : Ev mmPT tbX0_reckon 74 [some (.ref 95), none, some (.int v2), none, none, none, none, none] [] (mh sc rest to fl ma tr mk cn nu de ru la tb tf ph cs) x := by
  unfold Constants_reckon_74 at hk
  refine Ev.s (ins := .aload_n 0) (pc' := 75) rfl rfl ?_
  refine Ev.s (ins := .iload_n 2) (pc' := 76) rfl rfl ?_
  refine q_ic 2 rfl rfl ?_
  refine q_ic 0 rfl rfl ?_
  refine kc_X0_rise_0 rfl oi_95 rfl (Nat.le_of_ble_eq_true rfl) (e_Constants_rise_95) ?_
  refine Ev.goto rfl ?_
  exact Ev.vret rfl rfl hk
set_option maxRecDepth 100000 in
theorem e_Constants_reckon_95_34_84 {v2 : Int32} {v3 : Int32} {v4 : Int32} {v7 : Int32} {x : Option Value × List mmC} (hk : (kO (fun r : Ob => (none, mh sc rest to fl ma tr mk r nu de ru la tb tf ph cs)) x) (Constants_reckon_84 ma cn v2 v3 v4 v7)) : Ev mmPT tbX0_reckon 84 [some (.ref 95), some (.ref 34), some (.int v2), some (.int v3), some (.int v4), none, none, some (.int v7)] [] (mh sc rest to fl ma tr mk cn nu de ru la tb tf ph cs) x := by
  unfold Constants_reckon_84 at hk
  refine Ev.s (ins := .aload_n 0) (pc' := 85) rfl rfl ?_
  refine Ev.s (ins := .iload_n 2) (pc' := 86) rfl rfl ?_
  refine q_ic 1 rfl rfl ?_
  refine Ev.s (ins := .iload_n 3) (pc' := 88) rfl rfl ?_
  refine Ev.s (ins := .aload_n 0) (pc' := 89) rfl rfl ?_
  refine Ev.s (ins := .aload_n 1) (pc' := 90) rfl rfl ?_
  refine Ev.s (ins := .iload 4) (pc' := 92) rfl rfl ?_
  refine kc_X0_numberAt_0 rfl oi_95 rfl (Nat.le_of_ble_eq_true rfl) (e_Constants_numberAt_95_34) ?_
  refine Ev.s (ins := .iload 7) (pc' := 97) rfl rfl ?_
  refine kc_X11_reckoned_3 rfl (Nat.le_of_ble_eq_true rfl) (e_Ph_reckoned) ?_
  refine kc_X0_rise_0 rfl oi_95 rfl (Nat.le_of_ble_eq_true rfl) (e_Constants_rise_95) ?_
  exact Ev.vret rfl rfl hk
set_option maxRecDepth 100000 in
theorem e_Constants_reckon_95_34_0 {v2 : Int32} {v3 : Int32} {x : Option Value × List mmC} (hk : (kO (fun r : Ob => (none, mh sc rest to fl ma tr mk r nu de ru la tb tf ph cs)) x) (Constants_reckon ma cn v2 v3)) : Ev mmPT tbX0_reckon 0 [some (.ref 95), some (.ref 34), some (.int v2), some (.int v3), none, none, none, none] [] (mh sc rest to fl ma tr mk cn nu de ru la tb tf ph cs) x := by
  unfold Constants_reckon at hk
  refine Ev.s (ins := .aload_n 1) (pc' := 1) rfl rfl ?_
  refine gf_34_4 rfl ?_
  refine Ev.s (ins := .iload_n 2) (pc' := 5) rfl rfl ?_
  refine at_43 (oat ma 4 150 v2) rfl (Nat.le_of_ble_eq_true rfl) rfl ?_
  refine Ev.s (ins := .istore 4) (pc' := 10) (lv' := [some (.ref 95), some (.ref 34), some (.int v2), some (.int v3), some (.int (oat ma 4 150 v2)), none, none, none]) rfl rfl ?_
  refine Ev.s (ins := .aload_n 0) (pc' := 11) rfl rfl ?_
  refine Ev.s (ins := .aload_n 1) (pc' := 12) rfl rfl ?_
  refine Ev.s (ins := .iload 4) (pc' := 14) rfl rfl ?_
  refine kc_X0_knownAt_0 rfl oi_95 rfl (Nat.le_of_ble_eq_true rfl) (e_Constants_knownAt_95_34) ?_
  refine Ev.s (ins := .istore 5) (pc' := 19) (lv' := [some (.ref 95), some (.ref 34), some (.int v2), some (.int v3), some (.int (oat ma 4 150 v2)), some (.int (Constants_knownAt ma cn (oat ma 4 150 v2))), none, none]) rfl rfl ?_
  refine Ev.s (ins := .aload_n 0) (pc' := 20) rfl rfl ?_
  refine Ev.s (ins := .aload_n 1) (pc' := 21) rfl rfl ?_
  refine Ev.s (ins := .iload 4) (pc' := 23) rfl rfl ?_
  refine q_ic 1 rfl rfl ?_
  refine Ev.s (ins := .iadd) (pc' := 25) rfl rfl ?_
  refine kc_X0_knownAt_0 rfl oi_95 rfl (Nat.le_of_ble_eq_true rfl) (e_Constants_knownAt_95_34) ?_
  refine Ev.s (ins := .istore 6) (pc' := 30) (lv' := [some (.ref 95), some (.ref 34), some (.int v2), some (.int v3), some (.int (oat ma 4 150 v2)), some (.int (Constants_knownAt ma cn (oat ma 4 150 v2))), some (.int (Constants_knownAt ma cn ((oat ma 4 150 v2) + 1))), none]) rfl rfl ?_
  refine Ev.s (ins := .iload 5) (pc' := 32) rfl rfl ?_
  refine q_eq rfl hk (fun c1 hk => ?_) (fun c1 hk => ?_)
  · exact Ev.vret rfl rfl hk
  · refine Ev.s (ins := .iload 6) (pc' := 37) rfl rfl ?_
    refine q_ne rfl hk (fun c2 hk => ?_) (fun c2 hk => ?_)
    · exact Ev.vret rfl rfl hk
    · refine Ev.s (ins := .aload_n 0) (pc' := 42) rfl rfl ?_
      refine Ev.s (ins := .aload_n 1) (pc' := 43) rfl rfl ?_
      refine Ev.s (ins := .iload 4) (pc' := 45) rfl rfl ?_
      refine q_ic 1 rfl rfl ?_
      refine Ev.s (ins := .iadd) (pc' := 47) rfl rfl ?_
      refine kc_X0_numberAt_0 rfl oi_95 rfl (Nat.le_of_ble_eq_true rfl) (e_Constants_numberAt_95_34) ?_
      refine Ev.s (ins := .istore 7) (pc' := 52) (lv' := [some (.ref 95), some (.ref 34), some (.int v2), some (.int v3), some (.int (oat ma 4 150 v2)), some (.int (Constants_knownAt ma cn (oat ma 4 150 v2))), some (.int (Constants_knownAt ma cn ((oat ma 4 150 v2) + 1))), some (.int (Constants_numberAt ma cn ((oat ma 4 150 v2) + 1)))]) rfl rfl ?_
      refine Ev.s (ins := .iload 5) (pc' := 54) rfl rfl ?_
      refine q_ic 2 rfl rfl ?_
      refine q_ceq rfl hk (fun c3 hk => ?_) (fun c3 hk => ?_)
      · refine Ev.weak [some (.ref 95), none, some (.int v2), none, none, none, none, none] ⟨rfl, rfl, rfl, rfl, rfl, rfl, rfl, rfl, trivial⟩ ?_
        exact e_Constants_reckon_95_34_74 hk
      · refine Ev.s (ins := .iload 6) (pc' := 60) rfl rfl ?_
        refine q_ic 2 rfl rfl ?_
        refine q_ceq rfl hk (fun c4 hk => ?_) (fun c4 hk => ?_)
        · refine Ev.weak [some (.ref 95), none, some (.int v2), none, none, none, none, none] ⟨rfl, rfl, rfl, rfl, rfl, rfl, rfl, rfl, trivial⟩ ?_
          exact e_Constants_reckon_95_34_74 hk
        · refine Ev.s (ins := .iload_n 3) (pc' := 65) rfl rfl ?_
          refine q_ic 4 rfl rfl ?_
          refine q_cne rfl hk (fun c5 hk => ?_) (fun c5 hk => ?_)
          · refine Ev.s (ins := .iload 7) (pc' := 71) rfl rfl ?_
            refine q_ne rfl hk (fun c6 hk => ?_) (fun c6 hk => ?_)
            · refine Ev.weak [some (.ref 95), none, some (.int v2), none, none, none, none, none] ⟨rfl, rfl, rfl, rfl, rfl, rfl, rfl, rfl, trivial⟩ ?_
              exact e_Constants_reckon_95_34_74 hk
            · refine Ev.weak [some (.ref 95), some (.ref 34), some (.int v2), some (.int v3), some (.int (oat ma 4 150 v2)), none, none, some (.int (Constants_numberAt ma cn ((oat ma 4 150 v2) + 1)))] ⟨rfl, rfl, rfl, rfl, rfl, rfl, rfl, rfl, trivial⟩ ?_
              exact e_Constants_reckon_95_34_84 hk
          · refine Ev.weak [some (.ref 95), some (.ref 34), some (.int v2), some (.int v3), some (.int (oat ma 4 150 v2)), none, none, some (.int (Constants_numberAt ma cn ((oat ma 4 150 v2) + 1)))] ⟨rfl, rfl, rfl, rfl, rfl, rfl, rfl, rfl, trivial⟩ ?_
            exact e_Constants_reckon_95_34_84 hk
set_option maxRecDepth 100000 in
theorem e_Constants_reckon_95_34 {v2 : Int32} {v3 : Int32} : Ev mmPT tbX0_reckon 0 [some (.ref 95), some (.ref 34), some (.int v2), some (.int v3), none, none, none, none] [] (mh sc rest to fl ma tr mk cn nu de ru la tb tf ph cs) ((fun r : Ob => (none, mh sc rest to fl ma tr mk r nu de ru la tb tf ph cs)) (Constants_reckon ma cn v2 v3)) := e_Constants_reckon_95_34_0 (by exact rfl)
set_option maxRecDepth 100000 in
theorem e_Constants_visit_95_34_86 {v2 : Int32} {v3 : Int32} {x : Option Value × List mmC} (b2 : v3 < 2147483647) (hk : (kK (fun a : Int32 × Ob => mu a.1) (mu v3) (fun a : Int32 × Ob => Ev mmPT tbX0_visit 2 [some (.ref 95), some (.ref 34), some (.int v2), some (.int a.1), none, none] [] (mh sc rest to fl ma tr mk a.2 nu de ru la tb tf ph cs) x) (kO (fun r : Ob => (none, mh sc rest to fl ma tr mk r nu de ru la tb tf ph cs)) x)) (Constants_visit_86 ma cn v2 v3)) : Ev mmPT tbX0_visit 86 [some (.ref 95), some (.ref 34), some (.int v2), some (.int v3), none, none] [] (mh sc rest to fl ma tr mk cn nu de ru la tb tf ph cs) x := by
  unfold Constants_visit_86 at hk
  refine q_inc 1 [some (.ref 95), some (.ref 34), some (.int v2), some (.int (v3 + 1)), none, none] rfl rfl rfl rfl ?_
  refine Ev.goto rfl ?_
  replace hk := kK_l hk
  exact hk (mu_lt b2)
set_option maxRecDepth 100000 in
theorem e_Constants_visit_95_34_L2b {v2 : Int32} {v3 : Int32} {x : Option Value × List mmC} (hk : (kK (fun a : Int32 × Ob => mu a.1) (mu v3) (fun a : Int32 × Ob => Ev mmPT tbX0_visit 2 [some (.ref 95), some (.ref 34), some (.int v2), some (.int a.1), none, none] [] (mh sc rest to fl ma tr mk a.2 nu de ru la tb tf ph cs) x) (kO (fun r : Ob => (none, mh sc rest to fl ma tr mk r nu de ru la tb tf ph cs)) x)) (Constants_visit_L2b ma cn v2 v3)) : Ev mmPT tbX0_visit 2 [some (.ref 95), some (.ref 34), some (.int v2), some (.int v3), none, none] [] (mh sc rest to fl ma tr mk cn nu de ru la tb tf ph cs) x := by
  unfold Constants_visit_L2b at hk
  refine Ev.s (ins := .iload_n 3) (pc' := 3) rfl rfl ?_
  refine Ev.s (ins := .aload_n 1) (pc' := 4) rfl rfl ?_
  refine gf_34_7 rfl ?_
  refine Ev.s (ins := .iload_n 2) (pc' := 8) rfl rfl ?_
  refine at_49 (oat ma 7 10 v2) rfl (Nat.le_of_ble_eq_true rfl) rfl ?_
  refine q_cge rfl hk (fun c1 hk => ?_) (fun c1 hk => ?_)
  · refine Ev.s (ins := .aload_n 1) (pc' := 15) rfl rfl ?_
    refine Ev.s (ins := .iload_n 2) (pc' := 16) rfl rfl ?_
    refine Ev.s (ins := .iload_n 3) (pc' := 17) rfl rfl ?_
    refine kc_X3_valueIn_0 rfl oi_34 rfl (Nat.le_of_ble_eq_true rfl) (e_Form_valueIn_34) ?_
    refine Ev.s (ins := .istore 4) (pc' := 22) (lv' := [some (.ref 95), some (.ref 34), some (.int v2), some (.int v3), some (.int (Form_valueIn ma v2 v3)), none]) rfl rfl ?_
    refine Ev.s (ins := .aload_n 1) (pc' := 23) rfl rfl ?_
    refine gf_34_0 rfl ?_
    refine Ev.s (ins := .iload 4) (pc' := 28) rfl rfl ?_
    refine at_35 (oat ma 0 140 (Form_valueIn ma v2 v3)) rfl (Nat.le_of_ble_eq_true rfl) rfl ?_
    refine Ev.s (ins := .istore 5) (pc' := 33) (lv' := [some (.ref 95), some (.ref 34), some (.int v2), some (.int v3), some (.int (Form_valueIn ma v2 v3)), some (.int (oat ma 0 140 (Form_valueIn ma v2 v3)))]) rfl rfl ?_
    refine Ev.s (ins := .iload 5) (pc' := 35) rfl rfl ?_
    refine q_bi 9 rfl rfl ?_
    refine q_cne rfl hk (fun c2 hk => ?_) (fun c2 hk => ?_)
    · refine Ev.s (ins := .aload_n 0) (pc' := 41) rfl rfl ?_
      refine Ev.s (ins := .aload_n 1) (pc' := 42) rfl rfl ?_
      refine Ev.s (ins := .iload_n 2) (pc' := 43) rfl rfl ?_
      refine Ev.s (ins := .iload 4) (pc' := 45) rfl rfl ?_
      refine kc_X0_meet_0 rfl oi_95 rfl (Nat.le_of_ble_eq_true rfl) (e_Constants_meet_95_34) ?_
      refine Ev.goto rfl ?_
      refine Ev.weak [some (.ref 95), some (.ref 34), some (.int v2), some (.int v3), none, none] ⟨rfl, rfl, rfl, rfl, rfl, rfl, trivial⟩ ?_
      exact e_Constants_visit_95_34_86 (lt31 c1) hk
    · refine Ev.s (ins := .iload 5) (pc' := 53) rfl rfl ?_
      refine q_bi 6 rfl rfl ?_
      refine q_cne rfl hk (fun c3 hk => ?_) (fun c3 hk => ?_)
      · refine Ev.s (ins := .aload_n 0) (pc' := 59) rfl rfl ?_
        refine Ev.s (ins := .iload 4) (pc' := 61) rfl rfl ?_
        refine q_ic 2 rfl rfl ?_
        refine q_ic 0 rfl rfl ?_
        refine kc_X0_rise_0 rfl oi_95 rfl (Nat.le_of_ble_eq_true rfl) (e_Constants_rise_95) ?_
        refine Ev.goto rfl ?_
        refine Ev.weak [some (.ref 95), some (.ref 34), some (.int v2), some (.int v3), none, none] ⟨rfl, rfl, rfl, rfl, rfl, rfl, trivial⟩ ?_
        exact e_Constants_visit_95_34_86 (lt31 c1) hk
      · refine Ev.s (ins := .iload 5) (pc' := 71) rfl rfl ?_
        refine kc_X11_isReckoning_3 rfl (Nat.le_of_ble_eq_true rfl) (e_Ph_isReckoning) ?_
        refine q_beq rfl hk (fun c4 hk => ?_) (fun c4 hk => ?_)
        · refine Ev.s (ins := .aload_n 0) (pc' := 78) rfl rfl ?_
          refine Ev.s (ins := .aload_n 1) (pc' := 79) rfl rfl ?_
          refine Ev.s (ins := .iload 4) (pc' := 81) rfl rfl ?_
          refine Ev.s (ins := .iload 5) (pc' := 83) rfl rfl ?_
          refine kc_X0_reckon_0 rfl oi_95 rfl (Nat.le_of_ble_eq_true rfl) (e_Constants_reckon_95_34) ?_
          refine Ev.weak [some (.ref 95), some (.ref 34), some (.int v2), some (.int v3), none, none] ⟨rfl, rfl, rfl, rfl, rfl, rfl, trivial⟩ ?_
          exact e_Constants_visit_95_34_86 (lt31 c1) hk
        · refine Ev.weak [some (.ref 95), some (.ref 34), some (.int v2), some (.int v3), none, none] ⟨rfl, rfl, rfl, rfl, rfl, rfl, trivial⟩ ?_
          exact e_Constants_visit_95_34_86 (lt31 c1) hk
  · replace hk := kK_r hk
    exact Ev.vret rfl rfl hk
set_option maxRecDepth 100000 in
theorem e_Constants_visit_95_34_L2 {v2 : Int32} {v3 : Int32} {x : Option Value × List mmC} (hk : (kO (fun r : Ob => (none, mh sc rest to fl ma tr mk r nu de ru la tb tf ph cs)) x) (Constants_visit_L2 ma cn v2 v3)) : Ev mmPT tbX0_visit 2 [some (.ref 95), some (.ref 34), some (.int v2), some (.int v3), none, none] [] (mh sc rest to fl ma tr mk cn nu de ru la tb tf ph cs) x :=
  k_loop (B := (fun a : Int32 × Ob => Constants_visit_L2b ma a.2 v2 a.1)) (μ := fun a : Int32 × Ob => mu a.1) (E := fun a : Int32 × Ob => Ev mmPT tbX0_visit 2 [some (.ref 95), some (.ref 34), some (.int v2), some (.int a.1), none, none] [] (mh sc rest to fl ma tr mk a.2 nu de ru la tb tf ph cs) x) (X := (kO (fun r : Ob => (none, mh sc rest to fl ma tr mk r nu de ru la tb tf ph cs)) x)) (fun a hk => e_Constants_visit_95_34_L2b hk) (v3, cn) hk
set_option maxRecDepth 100000 in
theorem e_Constants_visit_95_34_0 {v2 : Int32} {x : Option Value × List mmC} (hk : (kO (fun r : Ob => (none, mh sc rest to fl ma tr mk r nu de ru la tb tf ph cs)) x) (Constants_visit ma cn v2)) : Ev mmPT tbX0_visit 0 [some (.ref 95), some (.ref 34), some (.int v2), none, none, none] [] (mh sc rest to fl ma tr mk cn nu de ru la tb tf ph cs) x := by
  unfold Constants_visit at hk
  refine q_ic 0 rfl rfl ?_
  refine Ev.s (ins := .istore_n 3) (pc' := 2) (lv' := [some (.ref 95), some (.ref 34), some (.int v2), some (.int 0), none, none]) rfl rfl ?_
  exact e_Constants_visit_95_34_L2 hk
set_option maxRecDepth 100000 in
theorem e_Constants_visit_95_34 {v2 : Int32} : Ev mmPT tbX0_visit 0 [some (.ref 95), some (.ref 34), some (.int v2), none, none, none] [] (mh sc rest to fl ma tr mk cn nu de ru la tb tf ph cs) ((fun r : Ob => (none, mh sc rest to fl ma tr mk r nu de ru la tb tf ph cs)) (Constants_visit ma cn v2)) := e_Constants_visit_95_34_0 (by exact rfl)
set_option maxRecDepth 100000 in
theorem e_Constants_goAlong_95_34_0 {v2 : Int32} {x : Option Value × List mmC} (hk : (kO (fun r : Ob => (none, mh sc rest to fl ma tr mk r nu de ru la tb tf ph cs)) x) (Constants_goAlong ma cn v2)) : Ev mmPT tbX0_goAlong 0 [some (.ref 95), some (.ref 34), some (.int v2), none] [] (mh sc rest to fl ma tr mk cn nu de ru la tb tf ph cs) x := by
  unfold Constants_goAlong at hk
  refine Ev.s (ins := .aload_n 1) (pc' := 1) rfl rfl ?_
  refine gf_34_12 rfl ?_
  refine Ev.s (ins := .iload_n 2) (pc' := 5) rfl rfl ?_
  refine at_59 (oat ma 12 20 v2) rfl (Nat.le_of_ble_eq_true rfl) rfl ?_
  refine Ev.s (ins := .istore_n 3) (pc' := 9) (lv' := [some (.ref 95), some (.ref 34), some (.int v2), some (.int (oat ma 12 20 v2))]) rfl rfl ?_
  refine Ev.s (ins := .aload_n 0) (pc' := 10) rfl rfl ?_
  refine gf_95_3 (cn.2.1 1) rfl rfl ?_
  refine Ev.s (ins := .iload_n 2) (pc' := 14) rfl rfl ?_
  refine kc_X11_has_3 rfl (Nat.le_of_ble_eq_true rfl) (e_Ph_has) ?_
  refine q_bne rfl hk (fun c1 hk => ?_) (fun c1 hk => ?_)
  · exact Ev.vret rfl rfl hk
  · refine Ev.s (ins := .iload_n 3) (pc' := 21) rfl rfl ?_
    refine q_ic (-1) rfl rfl ?_
    refine q_ceq rfl hk (fun c2 hk => ?_) (fun c2 hk => ?_)
    · exact Ev.vret rfl rfl hk
    · refine Ev.s (ins := .aload_n 0) (pc' := 26) rfl rfl ?_
      refine Ev.s (ins := .dup) (pc' := 27) rfl rfl ?_
      refine gf_95_3 (cn.2.1 1) rfl rfl ?_
      refine Ev.s (ins := .iload_n 2) (pc' := 31) rfl rfl ?_
      refine kc_X11_bit_3 rfl (Nat.le_of_ble_eq_true rfl) (e_Ph_bit) ?_
      refine Ev.s (ins := .ior) (pc' := 35) rfl rfl ?_
      refine pf_95_3 ((cn.2.1 1) ||| (Ph_bit v2)) rfl ?_
      refine Ev.s (ins := .aload_n 0) (pc' := 39) rfl rfl ?_
      refine Ev.s (ins := .dup) (pc' := 40) rfl rfl ?_
      refine gf_95_2 (cn.2.1 0) rfl rfl ?_
      refine Ev.s (ins := .iload_n 3) (pc' := 44) rfl rfl ?_
      refine kc_X11_bit_3 rfl (Nat.le_of_ble_eq_true rfl) (e_Ph_bit) ?_
      refine Ev.s (ins := .ior) (pc' := 48) rfl rfl ?_
      refine pf_95_2 ((cn.2.1 0) ||| (Ph_bit (oat ma 12 20 v2))) rfl ?_
      refine Ev.s (ins := .aload_n 0) (pc' := 52) rfl rfl ?_
      refine q_ic 1 rfl rfl ?_
      refine pf_95_4 true rfl ?_
      exact Ev.vret rfl rfl hk
set_option maxRecDepth 100000 in
theorem e_Constants_goAlong_95_34 {v2 : Int32} : Ev mmPT tbX0_goAlong 0 [some (.ref 95), some (.ref 34), some (.int v2), none] [] (mh sc rest to fl ma tr mk cn nu de ru la tb tf ph cs) ((fun r : Ob => (none, mh sc rest to fl ma tr mk r nu de ru la tb tf ph cs)) (Constants_goAlong ma cn v2)) := e_Constants_goAlong_95_34_0 (by exact rfl)
set_option maxRecDepth 100000 in
theorem e_Constants_goOn_95_34_113 {v3 : Int32} {x : Option Value × List mmC} (hk : (kO (fun r : Ob => (none, mh sc rest to fl ma tr mk r nu de ru la tb tf ph cs)) x) (Constants_goOn_113 ma cn v3)) : Ev mmPT tbX0_goOn 113 [some (.ref 95), some (.ref 34), none, some (.int v3), none, none, none, none] [] (mh sc rest to fl ma tr mk cn nu de ru la tb tf ph cs) x := by
  unfold Constants_goOn_113 at hk
  refine Ev.s (ins := .aload_n 0) (pc' := 114) rfl rfl ?_
  refine Ev.s (ins := .aload_n 1) (pc' := 115) rfl rfl ?_
  refine Ev.s (ins := .iload_n 3) (pc' := 116) rfl rfl ?_
  refine q_ic 1 rfl rfl ?_
  refine Ev.s (ins := .iadd) (pc' := 118) rfl rfl ?_
  refine kc_X0_goAlong_0 rfl oi_95 rfl (Nat.le_of_ble_eq_true rfl) (e_Constants_goAlong_95_34) ?_
  exact Ev.vret rfl rfl hk
set_option maxRecDepth 100000 in
theorem e_Constants_goOn_95_34_96 {v3 : Int32} {v6 : Int32} {v7 : Int32} {x : Option Value × List mmC} (hk : (kO (fun r : Ob => (none, mh sc rest to fl ma tr mk r nu de ru la tb tf ph cs)) x) (Constants_goOn_96 ma cn v3 v6 v7)) : Ev mmPT tbX0_goOn 96 [some (.ref 95), some (.ref 34), none, some (.int v3), none, none, some (.int v6), some (.int v7)] [] (mh sc rest to fl ma tr mk cn nu de ru la tb tf ph cs) x := by
  unfold Constants_goOn_96 at hk
  refine Ev.s (ins := .iload 6) (pc' := 98) rfl rfl ?_
  refine q_ic 2 rfl rfl ?_
  refine q_ceq rfl hk (fun c1 hk => ?_) (fun c1 hk => ?_)
  · refine Ev.weak [some (.ref 95), some (.ref 34), none, some (.int v3), none, none, none, none] ⟨rfl, rfl, rfl, rfl, rfl, rfl, rfl, rfl, trivial⟩ ?_
    exact e_Constants_goOn_95_34_113 hk
  · refine Ev.s (ins := .iload 6) (pc' := 104) rfl rfl ?_
    refine q_ic 1 rfl rfl ?_
    refine q_cne rfl hk (fun c2 hk => ?_) (fun c2 hk => ?_)
    · refine Ev.s (ins := .iload 7) (pc' := 110) rfl rfl ?_
      refine q_ne rfl hk (fun c3 hk => ?_) (fun c3 hk => ?_)
      · refine Ev.weak [some (.ref 95), some (.ref 34), none, some (.int v3), none, none, none, none] ⟨rfl, rfl, rfl, rfl, rfl, rfl, rfl, rfl, trivial⟩ ?_
        exact e_Constants_goOn_95_34_113 hk
      · exact Ev.vret rfl rfl hk
    · exact Ev.vret rfl rfl hk
set_option maxRecDepth 100000 in
theorem e_Constants_goOn_95_34_90 {v3 : Int32} {v6 : Int32} {v7 : Int32} {x : Option Value × List mmC} (hk : (kO (fun r : Ob => (none, mh sc rest to fl ma tr mk r nu de ru la tb tf ph cs)) x) (Constants_goOn_90 ma cn v3 v6 v7)) : Ev mmPT tbX0_goOn 90 [some (.ref 95), some (.ref 34), none, some (.int v3), none, none, some (.int v6), some (.int v7)] [] (mh sc rest to fl ma tr mk cn nu de ru la tb tf ph cs) x := by
  unfold Constants_goOn_90 at hk
  refine Ev.s (ins := .aload_n 0) (pc' := 91) rfl rfl ?_
  refine Ev.s (ins := .aload_n 1) (pc' := 92) rfl rfl ?_
  refine Ev.s (ins := .iload_n 3) (pc' := 93) rfl rfl ?_
  refine kc_X0_goAlong_0 rfl oi_95 rfl (Nat.le_of_ble_eq_true rfl) (e_Constants_goAlong_95_34) ?_
  exact e_Constants_goOn_95_34_96 hk
set_option maxRecDepth 100000 in
theorem e_Constants_goOn_95_34_77 {v3 : Int32} {v6 : Int32} {w0 : Int32} {x : Option Value × List mmC} (hk : (kO (fun r : Ob => (none, mh sc rest to fl ma tr mk r nu de ru la tb tf ph cs)) x) (Constants_goOn_77 ma cn v3 v6 w0)) : Ev mmPT tbX0_goOn 77 [some (.ref 95), some (.ref 34), none, some (.int v3), none, none, some (.int v6), none] [.int w0] (mh sc rest to fl ma tr mk cn nu de ru la tb tf ph cs) x := by
  unfold Constants_goOn_77 at hk
  refine Ev.s (ins := .istore 7) (pc' := 79) (lv' := [some (.ref 95), some (.ref 34), none, some (.int v3), none, none, some (.int v6), some (.int w0)]) rfl rfl ?_
  refine Ev.s (ins := .iload 6) (pc' := 81) rfl rfl ?_
  refine q_ic 2 rfl rfl ?_
  refine q_ceq rfl hk (fun c1 hk => ?_) (fun c1 hk => ?_)
  · exact e_Constants_goOn_95_34_90 hk
  · refine Ev.s (ins := .iload 7) (pc' := 87) rfl rfl ?_
    refine q_eq rfl hk (fun c2 hk => ?_) (fun c2 hk => ?_)
    · exact e_Constants_goOn_95_34_96 hk
    · exact e_Constants_goOn_95_34_90 hk
set_option maxRecDepth 100000 in
theorem e_Constants_goOn_95_34_76 {v3 : Int32} {v6 : Int32} {x : Option Value × List mmC} (hk : (kO (fun r : Ob => (none, mh sc rest to fl ma tr mk r nu de ru la tb tf ph cs)) x) (Constants_goOn_76 ma cn v3 v6)) : Ev mmPT tbX0_goOn 76 [some (.ref 95), some (.ref 34), none, some (.int v3), none, none, some (.int v6), none] [] (mh sc rest to fl ma tr mk cn nu de ru la tb tf ph cs) x := by
  unfold Constants_goOn_76 at hk
  refine q_ic 0 rfl rfl ?_
  exact e_Constants_goOn_95_34_77 hk
set_option maxRecDepth 100000 in
theorem e_Constants_goOn_95_34_26 {v2 : Int32} {v3 : Int32} {v4 : Int32} {x : Option Value × List mmC} (hk : (kO (fun r : Ob => (none, mh sc rest to fl ma tr mk r nu de ru la tb tf ph cs)) x) (Constants_goOn_26 ma cn v2 v3 v4)) : Ev mmPT tbX0_goOn 26 [some (.ref 95), some (.ref 34), some (.int v2), some (.int v3), some (.int v4), none, none, none] [] (mh sc rest to fl ma tr mk cn nu de ru la tb tf ph cs) x := by
  unfold Constants_goOn_26 at hk
  refine Ev.s (ins := .iload 4) (pc' := 28) rfl rfl ?_
  refine q_ic 2 rfl rfl ?_
  refine q_ceq rfl hk (fun c1 hk => ?_) (fun c1 hk => ?_)
  · refine Ev.s (ins := .aload_n 1) (pc' := 34) rfl rfl ?_
    refine gf_34_4 rfl ?_
    refine q_si 140 rfl rfl ?_
    refine Ev.s (ins := .iload_n 2) (pc' := 41) rfl rfl ?_
    refine Ev.s (ins := .iadd) (pc' := 42) rfl rfl ?_
    refine at_43 (oat ma 4 150 ((140 : Int32) + v2)) rfl (Nat.le_of_ble_eq_true rfl) rfl ?_
    refine Ev.s (ins := .istore 5) (pc' := 47) (lv' := [some (.ref 95), some (.ref 34), some (.int v2), some (.int v3), some (.int v4), some (.int (oat ma 4 150 ((140 : Int32) + v2))), none, none]) rfl rfl ?_
    refine Ev.s (ins := .aload_n 0) (pc' := 48) rfl rfl ?_
    refine Ev.s (ins := .aload_n 1) (pc' := 49) rfl rfl ?_
    refine Ev.s (ins := .iload 5) (pc' := 51) rfl rfl ?_
    refine kc_X0_knownAt_0 rfl oi_95 rfl (Nat.le_of_ble_eq_true rfl) (e_Constants_knownAt_95_34) ?_
    refine Ev.s (ins := .istore 6) (pc' := 56) (lv' := [some (.ref 95), some (.ref 34), some (.int v2), some (.int v3), some (.int v4), some (.int (oat ma 4 150 ((140 : Int32) + v2))), some (.int (Constants_knownAt ma cn (oat ma 4 150 ((140 : Int32) + v2)))), none]) rfl rfl ?_
    refine Ev.s (ins := .iload 6) (pc' := 58) rfl rfl ?_
    refine q_ic 1 rfl rfl ?_
    refine q_cne rfl hk (fun c2 hk => ?_) (fun c2 hk => ?_)
    · refine Ev.s (ins := .aload_n 0) (pc' := 63) rfl rfl ?_
      refine Ev.s (ins := .aload_n 1) (pc' := 64) rfl rfl ?_
      refine Ev.s (ins := .iload 5) (pc' := 66) rfl rfl ?_
      refine kc_X0_numberAt_0 rfl oi_95 rfl (Nat.le_of_ble_eq_true rfl) (e_Constants_numberAt_95_34) ?_
      refine q_le rfl hk (fun c3 hk => ?_) (fun c3 hk => ?_)
      · refine q_ic 1 rfl rfl ?_
        refine Ev.goto rfl ?_
        refine Ev.weak [some (.ref 95), some (.ref 34), none, some (.int v3), none, none, some (.int (Constants_knownAt ma cn (oat ma 4 150 ((140 : Int32) + v2)))), none] ⟨rfl, rfl, rfl, rfl, rfl, rfl, rfl, rfl, trivial⟩ ?_
        exact e_Constants_goOn_95_34_77 hk
      · refine Ev.weak [some (.ref 95), some (.ref 34), none, some (.int v3), none, none, some (.int (Constants_knownAt ma cn (oat ma 4 150 ((140 : Int32) + v2)))), none] ⟨rfl, rfl, rfl, rfl, rfl, rfl, rfl, rfl, trivial⟩ ?_
        exact e_Constants_goOn_95_34_76 hk
    · refine Ev.weak [some (.ref 95), some (.ref 34), none, some (.int v3), none, none, some (.int (Constants_knownAt ma cn (oat ma 4 150 ((140 : Int32) + v2)))), none] ⟨rfl, rfl, rfl, rfl, rfl, rfl, rfl, rfl, trivial⟩ ?_
      exact e_Constants_goOn_95_34_76 hk
  · exact Ev.vret rfl rfl hk
set_option maxRecDepth 100000 in
theorem e_Constants_goOn_95_34_0 {v2 : Int32} {x : Option Value × List mmC} (hk : (kO (fun r : Ob => (none, mh sc rest to fl ma tr mk r nu de ru la tb tf ph cs)) x) (Constants_goOn ma cn v2)) : Ev mmPT tbX0_goOn 0 [some (.ref 95), some (.ref 34), some (.int v2), none, none, none, none, none] [] (mh sc rest to fl ma tr mk cn nu de ru la tb tf ph cs) x := by
  unfold Constants_goOn at hk
  refine Ev.s (ins := .iload_n 2) (pc' := 1) rfl rfl ?_
  refine q_ic 2 rfl rfl ?_
  refine Ev.s (ins := .imul) (pc' := 3) rfl rfl ?_
  refine Ev.s (ins := .istore_n 3) (pc' := 4) (lv' := [some (.ref 95), some (.ref 34), some (.int v2), some (.int (v2 * 2)), none, none, none, none]) rfl rfl ?_
  refine Ev.s (ins := .aload_n 1) (pc' := 5) rfl rfl ?_
  refine gf_34_11 rfl ?_
  refine Ev.s (ins := .iload_n 2) (pc' := 9) rfl rfl ?_
  refine at_57 (oat ma 11 10 v2) rfl (Nat.le_of_ble_eq_true rfl) rfl ?_
  refine Ev.s (ins := .istore 4) (pc' := 14) (lv' := [some (.ref 95), some (.ref 34), some (.int v2), some (.int (v2 * 2)), some (.int (oat ma 11 10 v2)), none, none, none]) rfl rfl ?_
  refine Ev.s (ins := .iload 4) (pc' := 16) rfl rfl ?_
  refine q_ic 1 rfl rfl ?_
  refine q_cne rfl hk (fun c1 hk => ?_) (fun c1 hk => ?_)
  · refine Ev.s (ins := .aload_n 0) (pc' := 21) rfl rfl ?_
    refine Ev.s (ins := .aload_n 1) (pc' := 22) rfl rfl ?_
    refine Ev.s (ins := .iload_n 3) (pc' := 23) rfl rfl ?_
    refine kc_X0_goAlong_0 rfl oi_95 rfl (Nat.le_of_ble_eq_true rfl) (e_Constants_goAlong_95_34) ?_
    exact e_Constants_goOn_95_34_26 hk
  · exact e_Constants_goOn_95_34_26 hk
set_option maxRecDepth 100000 in
theorem e_Constants_goOn_95_34 {v2 : Int32} : Ev mmPT tbX0_goOn 0 [some (.ref 95), some (.ref 34), some (.int v2), none, none, none, none, none] [] (mh sc rest to fl ma tr mk cn nu de ru la tb tf ph cs) ((fun r : Ob => (none, mh sc rest to fl ma tr mk r nu de ru la tb tf ph cs)) (Constants_goOn ma cn v2)) := e_Constants_goOn_95_34_0 (by exact rfl)
set_option maxRecDepth 100000 in
theorem e_Form_edgeOf_34_L2b {v1 : Int32} {v2 : Int32} {v3 : Int32} {x : Option Value × List mmC} (hk : (kK (fun a : Int32 => mu a) (mu v3) (fun a : Int32 => Ev mmPT tbX3_edgeOf 2 [some (.ref 34), some (.int v1), some (.int v2), some (.int a)] [] (mh sc rest to fl ma tr mk cn nu de ru la tb tf ph cs) x) (kO (fun r : Int32 => (some (.int r), mh sc rest to fl ma tr mk cn nu de ru la tb tf ph cs)) x)) (Form_edgeOf_L2b ma v1 v2 v3)) : Ev mmPT tbX3_edgeOf 2 [some (.ref 34), some (.int v1), some (.int v2), some (.int v3)] [] (mh sc rest to fl ma tr mk cn nu de ru la tb tf ph cs) x := by
  unfold Form_edgeOf_L2b at hk
  refine Ev.s (ins := .iload_n 3) (pc' := 3) rfl rfl ?_
  refine Ev.s (ins := .aload_n 0) (pc' := 4) rfl rfl ?_
  refine gf_34_9 rfl ?_
  refine Ev.s (ins := .iload_n 1) (pc' := 8) rfl rfl ?_
  refine at_53 (oat ma 9 10 v1) rfl (Nat.le_of_ble_eq_true rfl) rfl ?_
  refine q_cge rfl hk (fun c1 hk => ?_) (fun c1 hk => ?_)
  · refine Ev.s (ins := .aload_n 0) (pc' := 15) rfl rfl ?_
    refine gf_34_10 rfl ?_
    refine Ev.s (ins := .iload_n 1) (pc' := 19) rfl rfl ?_
    refine q_bi 20 rfl rfl ?_
    refine Ev.s (ins := .imul) (pc' := 22) rfl rfl ?_
    refine Ev.s (ins := .iload_n 3) (pc' := 23) rfl rfl ?_
    refine Ev.s (ins := .iadd) (pc' := 24) rfl rfl ?_
    refine at_55 (oat ma 10 200 ((v1 * 20) + v3)) rfl (Nat.le_of_ble_eq_true rfl) rfl ?_
    refine Ev.s (ins := .iload_n 2) (pc' := 28) rfl rfl ?_
    refine q_cne rfl hk (fun c2 hk => ?_) (fun c2 hk => ?_)
    · replace hk := kK_r hk
      refine Ev.s (ins := .iload_n 3) (pc' := 32) rfl rfl ?_
      exact Ev.iret rfl rfl hk
    · refine q_inc 1 [some (.ref 34), some (.int v1), some (.int v2), some (.int (v3 + 1))] rfl rfl rfl rfl ?_
      refine Ev.goto rfl ?_
      replace hk := kK_l hk
      exact hk (mu_lt (lt31 c1))
  · replace hk := kK_r hk
    refine q_ic (-1) rfl rfl ?_
    exact Ev.iret rfl rfl hk
set_option maxRecDepth 100000 in
theorem e_Form_edgeOf_34_L2 {v1 : Int32} {v2 : Int32} {v3 : Int32} {x : Option Value × List mmC} (hk : (kO (fun r : Int32 => (some (.int r), mh sc rest to fl ma tr mk cn nu de ru la tb tf ph cs)) x) (Form_edgeOf_L2 ma v1 v2 v3)) : Ev mmPT tbX3_edgeOf 2 [some (.ref 34), some (.int v1), some (.int v2), some (.int v3)] [] (mh sc rest to fl ma tr mk cn nu de ru la tb tf ph cs) x :=
  k_loop (B := (fun a : Int32 => Form_edgeOf_L2b ma v1 v2 a)) (μ := fun a : Int32 => mu a) (E := fun a : Int32 => Ev mmPT tbX3_edgeOf 2 [some (.ref 34), some (.int v1), some (.int v2), some (.int a)] [] (mh sc rest to fl ma tr mk cn nu de ru la tb tf ph cs) x) (X := (kO (fun r : Int32 => (some (.int r), mh sc rest to fl ma tr mk cn nu de ru la tb tf ph cs)) x)) (fun a hk => e_Form_edgeOf_34_L2b hk) v3 hk
set_option maxRecDepth 100000 in
theorem e_Form_edgeOf_34_0 {v1 : Int32} {v2 : Int32} {x : Option Value × List mmC} (hk : (kO (fun r : Int32 => (some (.int r), mh sc rest to fl ma tr mk cn nu de ru la tb tf ph cs)) x) (Form_edgeOf ma v1 v2)) : Ev mmPT tbX3_edgeOf 0 [some (.ref 34), some (.int v1), some (.int v2), none] [] (mh sc rest to fl ma tr mk cn nu de ru la tb tf ph cs) x := by
  unfold Form_edgeOf at hk
  refine q_ic 0 rfl rfl ?_
  refine Ev.s (ins := .istore_n 3) (pc' := 2) (lv' := [some (.ref 34), some (.int v1), some (.int v2), some (.int 0)]) rfl rfl ?_
  exact e_Form_edgeOf_34_L2 hk
set_option maxRecDepth 100000 in
theorem e_Form_edgeOf_34 {v1 : Int32} {v2 : Int32} : Ev mmPT tbX3_edgeOf 0 [some (.ref 34), some (.int v1), some (.int v2), none] [] (mh sc rest to fl ma tr mk cn nu de ru la tb tf ph cs) ((fun r : Int32 => (some (.int r), mh sc rest to fl ma tr mk cn nu de ru la tb tf ph cs)) (Form_edgeOf ma v1 v2)) := e_Form_edgeOf_34_0 (by exact rfl)
set_option maxRecDepth 100000 in
theorem e_Form_dropArgument_34_L33b {v1 : Int32} {v3 : Int32} {v4 : Int32} {v5 : Int32} {x : Option Value × List mmC} (hk : (kK (fun a : Int32 × Ob => mu a.1) (mu v5) (fun a : Int32 × Ob => Ev mmPT tbX3_dropArgument 33 [some (.ref 34), some (.int v1), none, some (.int v3), some (.int v4), some (.int a.1)] [] (mh sc rest to fl a.2 tr mk cn nu de ru la tb tf ph cs) x) (kO (fun r : Ob => (none, mh sc rest to fl r tr mk cn nu de ru la tb tf ph cs)) x)) (Form_dropArgument_L33b ma v1 v3 v4 v5)) : Ev mmPT tbX3_dropArgument 33 [some (.ref 34), some (.int v1), none, some (.int v3), some (.int v4), some (.int v5)] [] (mh sc rest to fl ma tr mk cn nu de ru la tb tf ph cs) x := by
  unfold Form_dropArgument_L33b at hk
  refine Ev.s (ins := .iload 5) (pc' := 35) rfl rfl ?_
  refine Ev.s (ins := .iload_n 3) (pc' := 36) rfl rfl ?_
  refine Ev.s (ins := .iload 4) (pc' := 38) rfl rfl ?_
  refine Ev.s (ins := .iadd) (pc' := 39) rfl rfl ?_
  refine q_cge rfl hk (fun c1 hk => ?_) (fun c1 hk => ?_)
  · refine Ev.s (ins := .aload_n 0) (pc' := 43) rfl rfl ?_
    refine gf_34_5 rfl ?_
    refine Ev.s (ins := .iload 5) (pc' := 48) rfl rfl ?_
    refine Ev.s (ins := .aload_n 0) (pc' := 49) rfl rfl ?_
    refine gf_34_5 rfl ?_
    refine Ev.s (ins := .iload 5) (pc' := 54) rfl rfl ?_
    refine q_ic 1 rfl rfl ?_
    refine Ev.s (ins := .iadd) (pc' := 56) rfl rfl ?_
    refine at_45 (oat ma 5 290 (v5 + 1)) rfl (Nat.le_of_ble_eq_true rfl) rfl ?_
    refine pt_45 rfl (Nat.le_of_ble_eq_true rfl) ?_
    refine Ev.s (ins := .aload_n 0) (pc' := 63) rfl rfl ?_
    refine gf_34_6 rfl ?_
    refine Ev.s (ins := .iload 5) (pc' := 68) rfl rfl ?_
    refine Ev.s (ins := .aload_n 0) (pc' := 69) rfl rfl ?_
    refine gf_34_6 rfl ?_
    refine Ev.s (ins := .iload 5) (pc' := 74) rfl rfl ?_
    refine q_ic 1 rfl rfl ?_
    refine Ev.s (ins := .iadd) (pc' := 76) rfl rfl ?_
    refine at_47 (oat ma 6 290 (v5 + 1)) rfl (Nat.le_of_ble_eq_true rfl) rfl ?_
    refine pt_47 rfl (Nat.le_of_ble_eq_true rfl) ?_
    refine q_inc 1 [some (.ref 34), some (.int v1), none, some (.int v3), some (.int v4), some (.int (v5 + 1))] rfl rfl rfl rfl ?_
    refine Ev.goto rfl ?_
    replace hk := kK_l hk
    exact hk (mu_lt (lt31 c1))
  · replace hk := kK_r hk
    refine Ev.s (ins := .aload_n 0) (pc' := 89) rfl rfl ?_
    refine gf_34_3 rfl ?_
    refine Ev.s (ins := .iload_n 1) (pc' := 93) rfl rfl ?_
    refine Ev.s (ins := .iload 4) (pc' := 95) rfl rfl ?_
    refine pt_41 rfl (Nat.le_of_ble_eq_true rfl) ?_
    exact Ev.vret rfl rfl hk
set_option maxRecDepth 100000 in
theorem e_Form_dropArgument_34_L33 {v1 : Int32} {v3 : Int32} {v4 : Int32} {v5 : Int32} {x : Option Value × List mmC} (hk : (kO (fun r : Ob => (none, mh sc rest to fl r tr mk cn nu de ru la tb tf ph cs)) x) (Form_dropArgument_L33 ma v1 v3 v4 v5)) : Ev mmPT tbX3_dropArgument 33 [some (.ref 34), some (.int v1), none, some (.int v3), some (.int v4), some (.int v5)] [] (mh sc rest to fl ma tr mk cn nu de ru la tb tf ph cs) x :=
  k_loop (B := (fun a : Int32 × Ob => Form_dropArgument_L33b a.2 v1 v3 v4 a.1)) (μ := fun a : Int32 × Ob => mu a.1) (E := fun a : Int32 × Ob => Ev mmPT tbX3_dropArgument 33 [some (.ref 34), some (.int v1), none, some (.int v3), some (.int v4), some (.int a.1)] [] (mh sc rest to fl a.2 tr mk cn nu de ru la tb tf ph cs) x) (X := (kO (fun r : Ob => (none, mh sc rest to fl r tr mk cn nu de ru la tb tf ph cs)) x)) (fun a hk => e_Form_dropArgument_34_L33b hk) (v5, ma) hk
set_option maxRecDepth 100000 in
theorem e_Form_dropArgument_34_0 {v1 : Int32} {v2 : Int32} {x : Option Value × List mmC} (hk : (kO (fun r : Ob => (none, mh sc rest to fl r tr mk cn nu de ru la tb tf ph cs)) x) (Form_dropArgument ma v1 v2)) : Ev mmPT tbX3_dropArgument 0 [some (.ref 34), some (.int v1), some (.int v2), none, none, none] [] (mh sc rest to fl ma tr mk cn nu de ru la tb tf ph cs) x := by
  unfold Form_dropArgument at hk
  refine Ev.s (ins := .aload_n 0) (pc' := 1) rfl rfl ?_
  refine gf_34_4 rfl ?_
  refine Ev.s (ins := .iload_n 1) (pc' := 5) rfl rfl ?_
  refine at_43 (oat ma 4 150 v1) rfl (Nat.le_of_ble_eq_true rfl) rfl ?_
  refine Ev.s (ins := .istore_n 3) (pc' := 9) (lv' := [some (.ref 34), some (.int v1), some (.int v2), some (.int (oat ma 4 150 v1)), none, none]) rfl rfl ?_
  refine Ev.s (ins := .aload_n 0) (pc' := 10) rfl rfl ?_
  refine gf_34_3 rfl ?_
  refine Ev.s (ins := .iload_n 1) (pc' := 14) rfl rfl ?_
  refine at_41 (oat ma 3 150 v1) rfl (Nat.le_of_ble_eq_true rfl) rfl ?_
  refine q_ic 1 rfl rfl ?_
  refine Ev.s (ins := .isub) (pc' := 19) rfl rfl ?_
  refine Ev.s (ins := .istore 4) (pc' := 21) (lv' := [some (.ref 34), some (.int v1), some (.int v2), some (.int (oat ma 4 150 v1)), some (.int ((oat ma 3 150 v1) - 1)), none]) rfl rfl ?_
  refine Ev.s (ins := .iload_n 2) (pc' := 22) rfl rfl ?_
  refine Ev.s (ins := .iload 4) (pc' := 24) rfl rfl ?_
  refine q_cle rfl hk (fun c1 hk => ?_) (fun c1 hk => ?_)
  · exact Ev.vret rfl rfl hk
  · refine Ev.s (ins := .iload_n 3) (pc' := 29) rfl rfl ?_
    refine Ev.s (ins := .iload_n 2) (pc' := 30) rfl rfl ?_
    refine Ev.s (ins := .iadd) (pc' := 31) rfl rfl ?_
    refine Ev.s (ins := .istore 5) (pc' := 33) (lv' := [some (.ref 34), some (.int v1), some (.int v2), some (.int (oat ma 4 150 v1)), some (.int ((oat ma 3 150 v1) - 1)), some (.int ((oat ma 4 150 v1) + v2))]) rfl rfl ?_
    refine Ev.weak [some (.ref 34), some (.int v1), none, some (.int (oat ma 4 150 v1)), some (.int ((oat ma 3 150 v1) - 1)), some (.int ((oat ma 4 150 v1) + v2))] ⟨rfl, rfl, rfl, rfl, rfl, rfl, trivial⟩ ?_
    exact e_Form_dropArgument_34_L33 hk
set_option maxRecDepth 100000 in
theorem e_Form_dropArgument_34 {v1 : Int32} {v2 : Int32} : Ev mmPT tbX3_dropArgument 0 [some (.ref 34), some (.int v1), some (.int v2), none, none, none] [] (mh sc rest to fl ma tr mk cn nu de ru la tb tf ph cs) ((fun r : Ob => (none, mh sc rest to fl r tr mk cn nu de ru la tb tf ph cs)) (Form_dropArgument ma v1 v2)) := e_Form_dropArgument_34_0 (by exact rfl)
set_option maxRecDepth 100000 in
theorem e_Form_dropEdge_34_77 {v1 : Int32} {v2 : Int32} {v3 : Int32} {v4 : Int32} {x : Option Value × List mmC} (b34 : v4 < 2147483647) (hk : (kK (fun a : Int32 × Ob => mu a.1) (mu v4) (fun a : Int32 × Ob => Ev mmPT tbX3_dropEdge 34 [some (.ref 34), some (.int v1), some (.int v2), some (.int v3), some (.int a.1), none, none] [] (mh sc rest to fl a.2 tr mk cn nu de ru la tb tf ph cs) x) (kO (fun r : Ob => (none, mh sc rest to fl r tr mk cn nu de ru la tb tf ph cs)) x)) (Form_dropEdge_77 ma v1 v2 v3 v4)) : Ev mmPT tbX3_dropEdge 77 [some (.ref 34), some (.int v1), some (.int v2), some (.int v3), some (.int v4), none, none] [] (mh sc rest to fl ma tr mk cn nu de ru la tb tf ph cs) x := by
  unfold Form_dropEdge_77 at hk
  refine q_inc 1 [some (.ref 34), some (.int v1), some (.int v2), some (.int v3), some (.int (v4 + 1)), none, none] rfl rfl rfl rfl ?_
  refine Ev.goto rfl ?_
  replace hk := kK_l hk
  exact hk (mu_lt b34)
set_option maxRecDepth 100000 in
theorem e_Form_dropEdge_34_L104b {v1 : Int32} {v2 : Int32} {v4 : Int32} {v5 : Int32} {v6 : Int32} {x : Option Value × List mmC} (hk : (kK (fun a : Int32 × Ob => mu a.1) (mu v6) (fun a : Int32 × Ob => Ev mmPT tbX3_dropEdge 104 [some (.ref 34), some (.int v1), some (.int v2), none, some (.int v4), some (.int v5), some (.int a.1)] [] (mh sc rest to fl a.2 tr mk cn nu de ru la tb tf ph cs) x) (kO (fun r : Ob => (none, mh sc rest to fl r tr mk cn nu de ru la tb tf ph cs)) x)) (Form_dropEdge_L104b ma v1 v2 v4 v5 v6)) : Ev mmPT tbX3_dropEdge 104 [some (.ref 34), some (.int v1), some (.int v2), none, some (.int v4), some (.int v5), some (.int v6)] [] (mh sc rest to fl ma tr mk cn nu de ru la tb tf ph cs) x := by
  unfold Form_dropEdge_L104b at hk
  refine Ev.s (ins := .iload 6) (pc' := 106) rfl rfl ?_
  refine Ev.s (ins := .iload 5) (pc' := 108) rfl rfl ?_
  refine q_cge rfl hk (fun c1 hk => ?_) (fun c1 hk => ?_)
  · refine Ev.s (ins := .aload_n 0) (pc' := 112) rfl rfl ?_
    refine gf_34_10 rfl ?_
    refine Ev.s (ins := .iload 4) (pc' := 117) rfl rfl ?_
    refine Ev.s (ins := .iload 6) (pc' := 119) rfl rfl ?_
    refine Ev.s (ins := .iadd) (pc' := 120) rfl rfl ?_
    refine Ev.s (ins := .aload_n 0) (pc' := 121) rfl rfl ?_
    refine gf_34_10 rfl ?_
    refine Ev.s (ins := .iload 4) (pc' := 126) rfl rfl ?_
    refine Ev.s (ins := .iload 6) (pc' := 128) rfl rfl ?_
    refine Ev.s (ins := .iadd) (pc' := 129) rfl rfl ?_
    refine q_ic 1 rfl rfl ?_
    refine Ev.s (ins := .iadd) (pc' := 131) rfl rfl ?_
    refine at_55 (oat ma 10 200 ((v4 + v6) + 1)) rfl (Nat.le_of_ble_eq_true rfl) rfl ?_
    refine pt_55 rfl (Nat.le_of_ble_eq_true rfl) ?_
    refine q_inc 1 [some (.ref 34), some (.int v1), some (.int v2), none, some (.int v4), some (.int v5), some (.int (v6 + 1))] rfl rfl rfl rfl ?_
    refine Ev.goto rfl ?_
    replace hk := kK_l hk
    exact hk (mu_lt (lt31 c1))
  · replace hk := kK_r hk
    refine Ev.s (ins := .aload_n 0) (pc' := 144) rfl rfl ?_
    refine gf_34_9 rfl ?_
    refine Ev.s (ins := .iload_n 2) (pc' := 148) rfl rfl ?_
    refine Ev.s (ins := .iload 5) (pc' := 150) rfl rfl ?_
    refine pt_53 rfl (Nat.le_of_ble_eq_true rfl) ?_
    refine Ev.s (ins := .aload_n 0) (pc' := 154) rfl rfl ?_
    refine gf_34_12 rfl ?_
    refine Ev.s (ins := .iload_n 1) (pc' := 158) rfl rfl ?_
    refine q_ic (-1) rfl rfl ?_
    refine pt_59 rfl (Nat.le_of_ble_eq_true rfl) ?_
    exact Ev.vret rfl rfl hk
set_option maxRecDepth 100000 in
theorem e_Form_dropEdge_34_L104 {v1 : Int32} {v2 : Int32} {v4 : Int32} {v5 : Int32} {v6 : Int32} {x : Option Value × List mmC} (hk : (kO (fun r : Ob => (none, mh sc rest to fl r tr mk cn nu de ru la tb tf ph cs)) x) (Form_dropEdge_L104 ma v1 v2 v4 v5 v6)) : Ev mmPT tbX3_dropEdge 104 [some (.ref 34), some (.int v1), some (.int v2), none, some (.int v4), some (.int v5), some (.int v6)] [] (mh sc rest to fl ma tr mk cn nu de ru la tb tf ph cs) x :=
  k_loop (B := (fun a : Int32 × Ob => Form_dropEdge_L104b a.2 v1 v2 v4 v5 a.1)) (μ := fun a : Int32 × Ob => mu a.1) (E := fun a : Int32 × Ob => Ev mmPT tbX3_dropEdge 104 [some (.ref 34), some (.int v1), some (.int v2), none, some (.int v4), some (.int v5), some (.int a.1)] [] (mh sc rest to fl a.2 tr mk cn nu de ru la tb tf ph cs) x) (X := (kO (fun r : Ob => (none, mh sc rest to fl r tr mk cn nu de ru la tb tf ph cs)) x)) (fun a hk => e_Form_dropEdge_34_L104b hk) (v6, ma) hk
set_option maxRecDepth 100000 in
theorem e_Form_dropEdge_34_L34b {v1 : Int32} {v2 : Int32} {v3 : Int32} {v4 : Int32} {x : Option Value × List mmC} (hk : (kK (fun a : Int32 × Ob => mu a.1) (mu v4) (fun a : Int32 × Ob => Ev mmPT tbX3_dropEdge 34 [some (.ref 34), some (.int v1), some (.int v2), some (.int v3), some (.int a.1), none, none] [] (mh sc rest to fl a.2 tr mk cn nu de ru la tb tf ph cs) x) (kO (fun r : Ob => (none, mh sc rest to fl r tr mk cn nu de ru la tb tf ph cs)) x)) (Form_dropEdge_L34b ma v1 v2 v3 v4)) : Ev mmPT tbX3_dropEdge 34 [some (.ref 34), some (.int v1), some (.int v2), some (.int v3), some (.int v4), none, none] [] (mh sc rest to fl ma tr mk cn nu de ru la tb tf ph cs) x := by
  unfold Form_dropEdge_L34b at hk
  refine Ev.s (ins := .iload 4) (pc' := 36) rfl rfl ?_
  refine Ev.s (ins := .aload_n 0) (pc' := 37) rfl rfl ?_
  refine gf_34_7 rfl ?_
  refine Ev.s (ins := .iload_n 2) (pc' := 41) rfl rfl ?_
  refine at_49 (oat ma 7 10 v2) rfl (Nat.le_of_ble_eq_true rfl) rfl ?_
  refine q_cge rfl hk (fun c1 hk => ?_) (fun c1 hk => ?_)
  · refine Ev.s (ins := .aload_n 0) (pc' := 48) rfl rfl ?_
    refine Ev.s (ins := .iload_n 2) (pc' := 49) rfl rfl ?_
    refine Ev.s (ins := .iload 4) (pc' := 51) rfl rfl ?_
    refine kc_X3_valueIn_0 rfl oi_34 rfl (Nat.le_of_ble_eq_true rfl) (e_Form_valueIn_34) ?_
    refine Ev.s (ins := .istore 5) (pc' := 56) (lv' := [some (.ref 34), some (.int v1), some (.int v2), some (.int v3), some (.int v4), some (.int (Form_valueIn ma v2 v4)), none]) rfl rfl ?_
    refine Ev.s (ins := .aload_n 0) (pc' := 57) rfl rfl ?_
    refine gf_34_0 rfl ?_
    refine Ev.s (ins := .iload 5) (pc' := 62) rfl rfl ?_
    refine at_35 (oat ma 0 140 (Form_valueIn ma v2 v4)) rfl (Nat.le_of_ble_eq_true rfl) rfl ?_
    refine q_bi 9 rfl rfl ?_
    refine q_cne rfl hk (fun c2 hk => ?_) (fun c2 hk => ?_)
    · refine Ev.s (ins := .aload_n 0) (pc' := 71) rfl rfl ?_
      refine Ev.s (ins := .iload 5) (pc' := 73) rfl rfl ?_
      refine Ev.s (ins := .iload_n 3) (pc' := 74) rfl rfl ?_
      refine kc_X3_dropArgument_0 rfl oi_34 rfl (Nat.le_of_ble_eq_true rfl) (e_Form_dropArgument_34) ?_
      refine Ev.weak [some (.ref 34), some (.int v1), some (.int v2), some (.int v3), some (.int v4), none, none] ⟨rfl, rfl, rfl, rfl, rfl, rfl, rfl, trivial⟩ ?_
      exact e_Form_dropEdge_34_77 (lt31 c1) hk
    · refine Ev.weak [some (.ref 34), some (.int v1), some (.int v2), some (.int v3), some (.int v4), none, none] ⟨rfl, rfl, rfl, rfl, rfl, rfl, rfl, trivial⟩ ?_
      exact e_Form_dropEdge_34_77 (lt31 c1) hk
  · replace hk := kK_r hk
    refine Ev.s (ins := .iload_n 2) (pc' := 84) rfl rfl ?_
    refine q_bi 20 rfl rfl ?_
    refine Ev.s (ins := .imul) (pc' := 87) rfl rfl ?_
    refine Ev.s (ins := .istore 4) (pc' := 89) (lv' := [some (.ref 34), some (.int v1), some (.int v2), some (.int v3), some (.int (v2 * 20)), none, none]) rfl rfl ?_
    refine Ev.s (ins := .aload_n 0) (pc' := 90) rfl rfl ?_
    refine gf_34_9 rfl ?_
    refine Ev.s (ins := .iload_n 2) (pc' := 94) rfl rfl ?_
    refine at_53 (oat ma 9 10 v2) rfl (Nat.le_of_ble_eq_true rfl) rfl ?_
    refine q_ic 1 rfl rfl ?_
    refine Ev.s (ins := .isub) (pc' := 99) rfl rfl ?_
    refine Ev.s (ins := .istore 5) (pc' := 101) (lv' := [some (.ref 34), some (.int v1), some (.int v2), some (.int v3), some (.int (v2 * 20)), some (.int ((oat ma 9 10 v2) - 1)), none]) rfl rfl ?_
    refine Ev.s (ins := .iload_n 3) (pc' := 102) rfl rfl ?_
    refine Ev.s (ins := .istore 6) (pc' := 104) (lv' := [some (.ref 34), some (.int v1), some (.int v2), some (.int v3), some (.int (v2 * 20)), some (.int ((oat ma 9 10 v2) - 1)), some (.int v3)]) rfl rfl ?_
    refine Ev.weak [some (.ref 34), some (.int v1), some (.int v2), none, some (.int (v2 * 20)), some (.int ((oat ma 9 10 v2) - 1)), some (.int v3)] ⟨rfl, rfl, rfl, rfl, rfl, rfl, rfl, trivial⟩ ?_
    exact e_Form_dropEdge_34_L104 hk
set_option maxRecDepth 100000 in
theorem e_Form_dropEdge_34_L34 {v1 : Int32} {v2 : Int32} {v3 : Int32} {v4 : Int32} {x : Option Value × List mmC} (hk : (kO (fun r : Ob => (none, mh sc rest to fl r tr mk cn nu de ru la tb tf ph cs)) x) (Form_dropEdge_L34 ma v1 v2 v3 v4)) : Ev mmPT tbX3_dropEdge 34 [some (.ref 34), some (.int v1), some (.int v2), some (.int v3), some (.int v4), none, none] [] (mh sc rest to fl ma tr mk cn nu de ru la tb tf ph cs) x :=
  k_loop (B := (fun a : Int32 × Ob => Form_dropEdge_L34b a.2 v1 v2 v3 a.1)) (μ := fun a : Int32 × Ob => mu a.1) (E := fun a : Int32 × Ob => Ev mmPT tbX3_dropEdge 34 [some (.ref 34), some (.int v1), some (.int v2), some (.int v3), some (.int a.1), none, none] [] (mh sc rest to fl a.2 tr mk cn nu de ru la tb tf ph cs) x) (X := (kO (fun r : Ob => (none, mh sc rest to fl r tr mk cn nu de ru la tb tf ph cs)) x)) (fun a hk => e_Form_dropEdge_34_L34b hk) (v4, ma) hk
set_option maxRecDepth 100000 in
theorem e_Form_dropEdge_34_24 {v1 : Int32} {v2 : Int32} {w0 : Int32} {x : Option Value × List mmC} (hk : (kO (fun r : Ob => (none, mh sc rest to fl r tr mk cn nu de ru la tb tf ph cs)) x) (Form_dropEdge_24 ma v1 v2 w0)) : Ev mmPT tbX3_dropEdge 24 [some (.ref 34), some (.int v1), some (.int v2), none, none, none, none] [.int w0] (mh sc rest to fl ma tr mk cn nu de ru la tb tf ph cs) x := by
  unfold Form_dropEdge_24 at hk
  refine Ev.s (ins := .istore_n 3) (pc' := 25) (lv' := [some (.ref 34), some (.int v1), some (.int v2), some (.int w0), none, none, none]) rfl rfl ?_
  refine Ev.s (ins := .iload_n 3) (pc' := 26) rfl rfl ?_
  refine q_ic (-1) rfl rfl ?_
  refine q_cne rfl hk (fun c1 hk => ?_) (fun c1 hk => ?_)
  · exact Ev.vret rfl rfl hk
  · refine q_ic 0 rfl rfl ?_
    refine Ev.s (ins := .istore 4) (pc' := 34) (lv' := [some (.ref 34), some (.int v1), some (.int v2), some (.int w0), some (.int 0), none, none]) rfl rfl ?_
    exact e_Form_dropEdge_34_L34 hk
set_option maxRecDepth 100000 in
theorem e_Form_dropEdge_34_0 {v1 : Int32} {x : Option Value × List mmC} (hk : (kO (fun r : Ob => (none, mh sc rest to fl r tr mk cn nu de ru la tb tf ph cs)) x) (Form_dropEdge ma v1)) : Ev mmPT tbX3_dropEdge 0 [some (.ref 34), some (.int v1), none, none, none, none, none] [] (mh sc rest to fl ma tr mk cn nu de ru la tb tf ph cs) x := by
  unfold Form_dropEdge at hk
  refine Ev.s (ins := .aload_n 0) (pc' := 1) rfl rfl ?_
  refine gf_34_12 rfl ?_
  refine Ev.s (ins := .iload_n 1) (pc' := 5) rfl rfl ?_
  refine at_59 (oat ma 12 20 v1) rfl (Nat.le_of_ble_eq_true rfl) rfl ?_
  refine Ev.s (ins := .istore_n 2) (pc' := 9) (lv' := [some (.ref 34), some (.int v1), some (.int (oat ma 12 20 v1)), none, none, none, none]) rfl rfl ?_
  refine Ev.s (ins := .iload_n 2) (pc' := 10) rfl rfl ?_
  refine q_ic (-1) rfl rfl ?_
  refine q_cne rfl hk (fun c1 hk => ?_) (fun c1 hk => ?_)
  · refine q_ic (-1) rfl rfl ?_
    refine Ev.goto rfl ?_
    exact e_Form_dropEdge_34_24 hk
  · refine Ev.s (ins := .aload_n 0) (pc' := 19) rfl rfl ?_
    refine Ev.s (ins := .iload_n 2) (pc' := 20) rfl rfl ?_
    refine Ev.s (ins := .iload_n 1) (pc' := 21) rfl rfl ?_
    refine kc_X3_edgeOf_0 rfl oi_34 rfl (Nat.le_of_ble_eq_true rfl) (e_Form_edgeOf_34) ?_
    exact e_Form_dropEdge_34_24 hk
set_option maxRecDepth 100000 in
theorem e_Form_dropEdge_34 {v1 : Int32} : Ev mmPT tbX3_dropEdge 0 [some (.ref 34), some (.int v1), none, none, none, none, none] [] (mh sc rest to fl ma tr mk cn nu de ru la tb tf ph cs) ((fun r : Ob => (none, mh sc rest to fl r tr mk cn nu de ru la tb tf ph cs)) (Form_dropEdge ma v1)) := e_Form_dropEdge_34_0 (by exact rfl)
set_option maxRecDepth 100000 in
theorem e_Form_changeWay_34_24 {v1 : Int32} {v2 : Int32} {v3 : Int32} {w0 : Int32} {x : Option Value × List mmC} (hk : (kO (fun r : Ob => (none, mh sc rest to fl r tr mk cn nu de ru la tb tf ph cs)) x) (Form_changeWay_24 ma v1 v2 v3 w0)) : Ev mmPT tbX3_changeWay 24 [some (.ref 34), some (.int v1), some (.int v2), some (.int v3), none] [.int w0] (mh sc rest to fl ma tr mk cn nu de ru la tb tf ph cs) x := by
  unfold Form_changeWay_24 at hk
  refine Ev.s (ins := .istore 4) (pc' := 26) (lv' := [some (.ref 34), some (.int v1), some (.int v2), some (.int v3), some (.int w0)]) rfl rfl ?_
  refine Ev.s (ins := .iload 4) (pc' := 28) rfl rfl ?_
  refine q_ic (-1) rfl rfl ?_
  refine q_ceq rfl hk (fun c1 hk => ?_) (fun c1 hk => ?_)
  · exact Ev.vret rfl rfl hk
  · refine Ev.s (ins := .iload_n 1) (pc' := 33) rfl rfl ?_
    refine Ev.s (ins := .iload_n 2) (pc' := 34) rfl rfl ?_
    refine q_cne rfl hk (fun c2 hk => ?_) (fun c2 hk => ?_)
    · exact Ev.vret rfl rfl hk
    · refine Ev.s (ins := .aload_n 0) (pc' := 39) rfl rfl ?_
      refine gf_34_10 rfl ?_
      refine Ev.s (ins := .iload_n 3) (pc' := 43) rfl rfl ?_
      refine q_bi 20 rfl rfl ?_
      refine Ev.s (ins := .imul) (pc' := 46) rfl rfl ?_
      refine Ev.s (ins := .iload 4) (pc' := 48) rfl rfl ?_
      refine Ev.s (ins := .iadd) (pc' := 49) rfl rfl ?_
      refine Ev.s (ins := .iload_n 2) (pc' := 50) rfl rfl ?_
      refine pt_55 rfl (Nat.le_of_ble_eq_true rfl) ?_
      refine Ev.s (ins := .aload_n 0) (pc' := 54) rfl rfl ?_
      refine gf_34_12 rfl ?_
      refine Ev.s (ins := .iload_n 2) (pc' := 58) rfl rfl ?_
      refine Ev.s (ins := .iload_n 3) (pc' := 59) rfl rfl ?_
      refine pt_59 rfl (Nat.le_of_ble_eq_true rfl) ?_
      refine Ev.s (ins := .aload_n 0) (pc' := 63) rfl rfl ?_
      refine gf_34_12 rfl ?_
      refine Ev.s (ins := .iload_n 1) (pc' := 67) rfl rfl ?_
      refine q_ic (-1) rfl rfl ?_
      refine pt_59 rfl (Nat.le_of_ble_eq_true rfl) ?_
      exact Ev.vret rfl rfl hk
set_option maxRecDepth 100000 in
theorem e_Form_changeWay_34_0 {v1 : Int32} {v2 : Int32} {x : Option Value × List mmC} (hk : (kO (fun r : Ob => (none, mh sc rest to fl r tr mk cn nu de ru la tb tf ph cs)) x) (Form_changeWay ma v1 v2)) : Ev mmPT tbX3_changeWay 0 [some (.ref 34), some (.int v1), some (.int v2), none, none] [] (mh sc rest to fl ma tr mk cn nu de ru la tb tf ph cs) x := by
  unfold Form_changeWay at hk
  refine Ev.s (ins := .aload_n 0) (pc' := 1) rfl rfl ?_
  refine gf_34_12 rfl ?_
  refine Ev.s (ins := .iload_n 1) (pc' := 5) rfl rfl ?_
  refine at_59 (oat ma 12 20 v1) rfl (Nat.le_of_ble_eq_true rfl) rfl ?_
  refine Ev.s (ins := .istore_n 3) (pc' := 9) (lv' := [some (.ref 34), some (.int v1), some (.int v2), some (.int (oat ma 12 20 v1)), none]) rfl rfl ?_
  refine Ev.s (ins := .iload_n 3) (pc' := 10) rfl rfl ?_
  refine q_ic (-1) rfl rfl ?_
  refine q_cne rfl hk (fun c1 hk => ?_) (fun c1 hk => ?_)
  · refine q_ic (-1) rfl rfl ?_
    refine Ev.goto rfl ?_
    exact e_Form_changeWay_34_24 hk
  · refine Ev.s (ins := .aload_n 0) (pc' := 19) rfl rfl ?_
    refine Ev.s (ins := .iload_n 3) (pc' := 20) rfl rfl ?_
    refine Ev.s (ins := .iload_n 1) (pc' := 21) rfl rfl ?_
    refine kc_X3_edgeOf_0 rfl oi_34 rfl (Nat.le_of_ble_eq_true rfl) (e_Form_edgeOf_34) ?_
    exact e_Form_changeWay_34_24 hk
set_option maxRecDepth 100000 in
theorem e_Form_changeWay_34 {v1 : Int32} {v2 : Int32} : Ev mmPT tbX3_changeWay 0 [some (.ref 34), some (.int v1), some (.int v2), none, none] [] (mh sc rest to fl ma tr mk cn nu de ru la tb tf ph cs) ((fun r : Ob => (none, mh sc rest to fl r tr mk cn nu de ru la tb tf ph cs)) (Form_changeWay ma v1 v2)) := e_Form_changeWay_34_0 (by exact rfl)
set_option maxRecDepth 100000 in
theorem e_Constants_cutWays_95_34_135 {v2 : Int32} {x : Option Value × List mmC} (b2 : v2 < 2147483647) (hk : (kK (fun a : Int32 × Ob => mu a.1) (mu v2) (fun a : Int32 × Ob => Ev mmPT tbX0_cutWays 2 [some (.ref 95), some (.ref 34), some (.int a.1), none, none, none, none] [] (mh sc rest to fl a.2 tr mk cn nu de ru la tb tf ph cs) x) (kO (fun r : Ob => (none, mh sc rest to fl r tr mk cn nu de ru la tb tf ph cs)) x)) (Constants_cutWays_135 ma cn v2)) : Ev mmPT tbX0_cutWays 135 [some (.ref 95), some (.ref 34), some (.int v2), none, none, none, none] [] (mh sc rest to fl ma tr mk cn nu de ru la tb tf ph cs) x := by
  unfold Constants_cutWays_135 at hk
  refine q_inc 1 [some (.ref 95), some (.ref 34), some (.int (v2 + 1)), none, none, none, none] rfl rfl rfl rfl ?_
  refine Ev.goto rfl ?_
  replace hk := kK_l hk
  exact hk (mu_lt b2)
set_option maxRecDepth 100000 in
theorem e_Constants_cutWays_95_34_99 {v2 : Int32} {v3 : Int32} {v5 : Int32} {w0 : Int32} {w1 : Int32} {x : Option Value × List mmC} (b2 : v2 < 2147483647) (hk : (kK (fun a : Int32 × Ob => mu a.1) (mu v2) (fun a : Int32 × Ob => Ev mmPT tbX0_cutWays 2 [some (.ref 95), some (.ref 34), some (.int a.1), none, none, none, none] [] (mh sc rest to fl a.2 tr mk cn nu de ru la tb tf ph cs) x) (kO (fun r : Ob => (none, mh sc rest to fl r tr mk cn nu de ru la tb tf ph cs)) x)) (Constants_cutWays_99 ma cn v2 v3 v5 w0 w1)) : Ev mmPT tbX0_cutWays 99 [some (.ref 95), some (.ref 34), some (.int v2), some (.int v3), none, some (.int v5), none] [.int w0, .int w1] (mh sc rest to fl ma tr mk cn nu de ru la tb tf ph cs) x := by
  unfold Constants_cutWays_99 at hk
  refine Ev.s (ins := .iadd) (pc' := 100) rfl rfl ?_
  refine Ev.s (ins := .istore 6) (pc' := 102) (lv' := [some (.ref 95), some (.ref 34), some (.int v2), some (.int v3), none, some (.int v5), some (.int (w1 + w0))]) rfl rfl ?_
  refine Ev.s (ins := .aload_n 1) (pc' := 103) rfl rfl ?_
  refine Ev.s (ins := .iload 6) (pc' := 105) rfl rfl ?_
  refine kc_X3_dropEdge_0 rfl oi_34 rfl (Nat.le_of_ble_eq_true rfl) (e_Form_dropEdge_34) ?_
  refine Ev.s (ins := .aload_n 1) (pc' := 109) rfl rfl ?_
  refine Ev.s (ins := .iload 5) (pc' := 111) rfl rfl ?_
  refine Ev.s (ins := .iload_n 2) (pc' := 112) rfl rfl ?_
  refine q_ic 2 rfl rfl ?_
  refine Ev.s (ins := .imul) (pc' := 114) rfl rfl ?_
  refine kc_X3_changeWay_0 rfl oi_34 rfl (Nat.le_of_ble_eq_true rfl) (e_Form_changeWay_34) ?_
  refine Ev.s (ins := .aload_n 1) (pc' := 118) rfl rfl ?_
  refine gf_34_11 rfl ?_
  refine Ev.s (ins := .iload_n 2) (pc' := 122) rfl rfl ?_
  refine q_ic 1 rfl rfl ?_
  refine pt_57 rfl (Nat.le_of_ble_eq_true rfl) ?_
  refine Ev.s (ins := .aload_n 1) (pc' := 127) rfl rfl ?_
  refine gf_34_3 rfl ?_
  refine Ev.s (ins := .iload_n 3) (pc' := 131) rfl rfl ?_
  refine q_ic 0 rfl rfl ?_
  refine pt_41 rfl (Nat.le_of_ble_eq_true rfl) ?_
  refine Ev.weak [some (.ref 95), some (.ref 34), some (.int v2), none, none, none, none] ⟨rfl, rfl, rfl, rfl, rfl, rfl, rfl, trivial⟩ ?_
  exact e_Constants_cutWays_95_34_135 b2 hk
set_option maxRecDepth 100000 in
theorem e_Constants_cutWays_95_34_78 {v2 : Int32} {v3 : Int32} {v4 : Int32} {w0 : Int32} {w1 : Int32} {x : Option Value × List mmC} (b2 : v2 < 2147483647) (hk : (kK (fun a : Int32 × Ob => mu a.1) (mu v2) (fun a : Int32 × Ob => Ev mmPT tbX0_cutWays 2 [some (.ref 95), some (.ref 34), some (.int a.1), none, none, none, none] [] (mh sc rest to fl a.2 tr mk cn nu de ru la tb tf ph cs) x) (kO (fun r : Ob => (none, mh sc rest to fl r tr mk cn nu de ru la tb tf ph cs)) x)) (Constants_cutWays_78 ma cn v2 v3 v4 w0 w1)) : Ev mmPT tbX0_cutWays 78 [some (.ref 95), some (.ref 34), some (.int v2), some (.int v3), some (.int v4), none, none] [.int w0, .int w1] (mh sc rest to fl ma tr mk cn nu de ru la tb tf ph cs) x := by
  unfold Constants_cutWays_78 at hk
  refine Ev.s (ins := .iadd) (pc' := 79) rfl rfl ?_
  refine Ev.s (ins := .istore 5) (pc' := 81) (lv' := [some (.ref 95), some (.ref 34), some (.int v2), some (.int v3), some (.int v4), some (.int (w1 + w0)), none]) rfl rfl ?_
  refine Ev.s (ins := .iload_n 2) (pc' := 82) rfl rfl ?_
  refine q_ic 2 rfl rfl ?_
  refine Ev.s (ins := .imul) (pc' := 84) rfl rfl ?_
  refine Ev.s (ins := .aload_n 0) (pc' := 85) rfl rfl ?_
  refine Ev.s (ins := .aload_n 1) (pc' := 86) rfl rfl ?_
  refine Ev.s (ins := .iload 4) (pc' := 88) rfl rfl ?_
  refine kc_X0_numberAt_0 rfl oi_95 rfl (Nat.le_of_ble_eq_true rfl) (e_Constants_numberAt_95_34) ?_
  refine q_le rfl hk (fun c1 hk => ?_) (fun c1 hk => ?_)
  · refine q_ic 1 rfl rfl ?_
    refine Ev.goto rfl ?_
    refine Ev.weak [some (.ref 95), some (.ref 34), some (.int v2), some (.int v3), none, some (.int (w1 + w0)), none] ⟨rfl, rfl, rfl, rfl, rfl, rfl, rfl, trivial⟩ ?_
    exact e_Constants_cutWays_95_34_99 b2 hk
  · refine q_ic 0 rfl rfl ?_
    refine Ev.weak [some (.ref 95), some (.ref 34), some (.int v2), some (.int v3), none, some (.int (w1 + w0)), none] ⟨rfl, rfl, rfl, rfl, rfl, rfl, rfl, trivial⟩ ?_
    exact e_Constants_cutWays_95_34_99 b2 hk
set_option maxRecDepth 100000 in
theorem e_Constants_cutWays_95_34_L2b {v2 : Int32} {x : Option Value × List mmC} (hk : (kK (fun a : Int32 × Ob => mu a.1) (mu v2) (fun a : Int32 × Ob => Ev mmPT tbX0_cutWays 2 [some (.ref 95), some (.ref 34), some (.int a.1), none, none, none, none] [] (mh sc rest to fl a.2 tr mk cn nu de ru la tb tf ph cs) x) (kO (fun r : Ob => (none, mh sc rest to fl r tr mk cn nu de ru la tb tf ph cs)) x)) (Constants_cutWays_L2b ma cn v2)) : Ev mmPT tbX0_cutWays 2 [some (.ref 95), some (.ref 34), some (.int v2), none, none, none, none] [] (mh sc rest to fl ma tr mk cn nu de ru la tb tf ph cs) x := by
  unfold Constants_cutWays_L2b at hk
  refine Ev.s (ins := .iload_n 2) (pc' := 3) rfl rfl ?_
  refine Ev.s (ins := .aload_n 1) (pc' := 4) rfl rfl ?_
  refine gf_34_13 (ma.2.1 0) rfl rfl ?_
  refine q_cge rfl hk (fun c1 hk => ?_) (fun c1 hk => ?_)
  · refine q_si 140 rfl rfl ?_
    refine Ev.s (ins := .iload_n 2) (pc' := 14) rfl rfl ?_
    refine Ev.s (ins := .iadd) (pc' := 15) rfl rfl ?_
    refine Ev.s (ins := .istore_n 3) (pc' := 16) (lv' := [some (.ref 95), some (.ref 34), some (.int v2), some (.int ((140 : Int32) + v2)), none, none, none]) rfl rfl ?_
    refine Ev.s (ins := .aload_n 1) (pc' := 17) rfl rfl ?_
    refine gf_34_4 rfl ?_
    refine Ev.s (ins := .iload_n 3) (pc' := 21) rfl rfl ?_
    refine at_43 (oat ma 4 150 ((140 : Int32) + v2)) rfl (Nat.le_of_ble_eq_true rfl) rfl ?_
    refine Ev.s (ins := .istore 4) (pc' := 26) (lv' := [some (.ref 95), some (.ref 34), some (.int v2), some (.int ((140 : Int32) + v2)), some (.int (oat ma 4 150 ((140 : Int32) + v2))), none, none]) rfl rfl ?_
    refine Ev.s (ins := .aload_n 0) (pc' := 27) rfl rfl ?_
    refine gf_95_2 (cn.2.1 0) rfl rfl ?_
    refine Ev.s (ins := .iload_n 2) (pc' := 31) rfl rfl ?_
    refine kc_X11_has_3 rfl (Nat.le_of_ble_eq_true rfl) (e_Ph_has) ?_
    refine q_beq rfl hk (fun c2 hk => ?_) (fun c2 hk => ?_)
    · refine Ev.s (ins := .aload_n 1) (pc' := 38) rfl rfl ?_
      refine gf_34_11 rfl ?_
      refine Ev.s (ins := .iload_n 2) (pc' := 42) rfl rfl ?_
      refine at_57 (oat ma 11 10 v2) rfl (Nat.le_of_ble_eq_true rfl) rfl ?_
      refine q_ic 2 rfl rfl ?_
      refine q_cne rfl hk (fun c3 hk => ?_) (fun c3 hk => ?_)
      · refine Ev.s (ins := .aload_n 0) (pc' := 50) rfl rfl ?_
        refine Ev.s (ins := .aload_n 1) (pc' := 51) rfl rfl ?_
        refine Ev.s (ins := .iload 4) (pc' := 53) rfl rfl ?_
        refine kc_X0_knownAt_0 rfl oi_95 rfl (Nat.le_of_ble_eq_true rfl) (e_Constants_knownAt_95_34) ?_
        refine q_ic 1 rfl rfl ?_
        refine q_cne rfl hk (fun c4 hk => ?_) (fun c4 hk => ?_)
        · refine Ev.s (ins := .iload_n 2) (pc' := 61) rfl rfl ?_
          refine q_ic 2 rfl rfl ?_
          refine Ev.s (ins := .imul) (pc' := 63) rfl rfl ?_
          refine Ev.s (ins := .aload_n 0) (pc' := 64) rfl rfl ?_
          refine Ev.s (ins := .aload_n 1) (pc' := 65) rfl rfl ?_
          refine Ev.s (ins := .iload 4) (pc' := 67) rfl rfl ?_
          refine kc_X0_numberAt_0 rfl oi_95 rfl (Nat.le_of_ble_eq_true rfl) (e_Constants_numberAt_95_34) ?_
          refine q_le rfl hk (fun c5 hk => ?_) (fun c5 hk => ?_)
          · refine q_ic 0 rfl rfl ?_
            refine Ev.goto rfl ?_
            exact e_Constants_cutWays_95_34_78 (lt31 c1) hk
          · refine q_ic 1 rfl rfl ?_
            exact e_Constants_cutWays_95_34_78 (lt31 c1) hk
        · refine Ev.weak [some (.ref 95), some (.ref 34), some (.int v2), none, none, none, none] ⟨rfl, rfl, rfl, rfl, rfl, rfl, rfl, trivial⟩ ?_
          exact e_Constants_cutWays_95_34_135 (lt31 c1) hk
      · refine Ev.weak [some (.ref 95), some (.ref 34), some (.int v2), none, none, none, none] ⟨rfl, rfl, rfl, rfl, rfl, rfl, rfl, trivial⟩ ?_
        exact e_Constants_cutWays_95_34_135 (lt31 c1) hk
    · refine Ev.weak [some (.ref 95), some (.ref 34), some (.int v2), none, none, none, none] ⟨rfl, rfl, rfl, rfl, rfl, rfl, rfl, trivial⟩ ?_
      exact e_Constants_cutWays_95_34_135 (lt31 c1) hk
  · replace hk := kK_r hk
    exact Ev.vret rfl rfl hk
set_option maxRecDepth 100000 in
theorem e_Constants_cutWays_95_34_L2 {v2 : Int32} {x : Option Value × List mmC} (hk : (kO (fun r : Ob => (none, mh sc rest to fl r tr mk cn nu de ru la tb tf ph cs)) x) (Constants_cutWays_L2 ma cn v2)) : Ev mmPT tbX0_cutWays 2 [some (.ref 95), some (.ref 34), some (.int v2), none, none, none, none] [] (mh sc rest to fl ma tr mk cn nu de ru la tb tf ph cs) x :=
  k_loop (B := (fun a : Int32 × Ob => Constants_cutWays_L2b a.2 cn a.1)) (μ := fun a : Int32 × Ob => mu a.1) (E := fun a : Int32 × Ob => Ev mmPT tbX0_cutWays 2 [some (.ref 95), some (.ref 34), some (.int a.1), none, none, none, none] [] (mh sc rest to fl a.2 tr mk cn nu de ru la tb tf ph cs) x) (X := (kO (fun r : Ob => (none, mh sc rest to fl r tr mk cn nu de ru la tb tf ph cs)) x)) (fun a hk => e_Constants_cutWays_95_34_L2b hk) (v2, ma) hk
set_option maxRecDepth 100000 in
theorem e_Constants_cutWays_95_34_0 {x : Option Value × List mmC} (hk : (kO (fun r : Ob => (none, mh sc rest to fl r tr mk cn nu de ru la tb tf ph cs)) x) (Constants_cutWays ma cn)) : Ev mmPT tbX0_cutWays 0 [some (.ref 95), some (.ref 34), none, none, none, none, none] [] (mh sc rest to fl ma tr mk cn nu de ru la tb tf ph cs) x := by
  unfold Constants_cutWays at hk
  refine q_ic 0 rfl rfl ?_
  refine Ev.s (ins := .istore_n 2) (pc' := 2) (lv' := [some (.ref 95), some (.ref 34), some (.int 0), none, none, none, none]) rfl rfl ?_
  exact e_Constants_cutWays_95_34_L2 hk
set_option maxRecDepth 100000 in
theorem e_Constants_cutWays_95_34 : Ev mmPT tbX0_cutWays 0 [some (.ref 95), some (.ref 34), none, none, none, none, none] [] (mh sc rest to fl ma tr mk cn nu de ru la tb tf ph cs) ((fun r : Ob => (none, mh sc rest to fl r tr mk cn nu de ru la tb tf ph cs)) (Constants_cutWays ma cn)) := e_Constants_cutWays_95_34_0 (by exact rfl)
set_option maxRecDepth 100000 in
theorem e_Form_lose_34_0 {v1 : Int32} {x : Option Value × List mmC} (hk : (kO (fun r : Ob => (none, mh sc rest to fl r tr mk cn nu de ru la tb tf ph cs)) x) (Form_lose ma v1)) : Ev mmPT tbX3_lose 0 [some (.ref 34), some (.int v1)] [] (mh sc rest to fl ma tr mk cn nu de ru la tb tf ph cs) x := by
  unfold Form_lose at hk
  refine Ev.s (ins := .aload_n 0) (pc' := 1) rfl rfl ?_
  refine gf_34_1 rfl ?_
  refine Ev.s (ins := .iload_n 1) (pc' := 5) rfl rfl ?_
  refine at_37 (oat ma 1 140 v1) rfl (Nat.le_of_ble_eq_true rfl) rfl ?_
  refine q_ic (-1) rfl rfl ?_
  refine q_cne rfl hk (fun c1 hk => ?_) (fun c1 hk => ?_)
  · exact Ev.vret rfl rfl hk
  · refine Ev.s (ins := .aload_n 0) (pc' := 14) rfl rfl ?_
    refine gf_34_1 rfl ?_
    refine Ev.s (ins := .iload_n 1) (pc' := 18) rfl rfl ?_
    refine q_ic (-1) rfl rfl ?_
    refine pt_37 rfl (Nat.le_of_ble_eq_true rfl) ?_
    refine Ev.s (ins := .aload_n 0) (pc' := 23) rfl rfl ?_
    refine gf_34_3 rfl ?_
    refine Ev.s (ins := .iload_n 1) (pc' := 27) rfl rfl ?_
    refine q_ic 0 rfl rfl ?_
    refine pt_41 rfl (Nat.le_of_ble_eq_true rfl) ?_
    refine Ev.s (ins := .aload_n 0) (pc' := 32) rfl rfl ?_
    refine Ev.s (ins := .dup) (pc' := 33) rfl rfl ?_
    refine gf_34_18 (ma.2.1 5) rfl rfl ?_
    refine q_ic 1 rfl rfl ?_
    refine Ev.s (ins := .iadd) (pc' := 38) rfl rfl ?_
    refine pf_34_18 ((ma.2.1 5) + 1) rfl ?_
    exact Ev.vret rfl rfl hk
set_option maxRecDepth 100000 in
theorem e_Form_lose_34 {v1 : Int32} : Ev mmPT tbX3_lose 0 [some (.ref 34), some (.int v1)] [] (mh sc rest to fl ma tr mk cn nu de ru la tb tf ph cs) ((fun r : Ob => (none, mh sc rest to fl r tr mk cn nu de ru la tb tf ph cs)) (Form_lose ma v1)) := e_Form_lose_34_0 (by exact rfl)
set_option maxRecDepth 100000 in
theorem e_Form_loseBlock_34_38 {v1 : Int32} {v2 : Int32} {x : Option Value × List mmC} (b2 : v2 < 2147483647) (hk : (kK (fun a : Int32 × Ob => mu a.1) (mu v2) (fun a : Int32 × Ob => Ev mmPT tbX3_loseBlock 2 [some (.ref 34), some (.int v1), some (.int a.1), none] [] (mh sc rest to fl a.2 tr mk cn nu de ru la tb tf ph cs) x) (kO (fun r : Ob => (none, mh sc rest to fl r tr mk cn nu de ru la tb tf ph cs)) x)) (Form_loseBlock_38 ma v1 v2)) : Ev mmPT tbX3_loseBlock 38 [some (.ref 34), some (.int v1), some (.int v2), none] [] (mh sc rest to fl ma tr mk cn nu de ru la tb tf ph cs) x := by
  unfold Form_loseBlock_38 at hk
  refine q_inc 1 [some (.ref 34), some (.int v1), some (.int (v2 + 1)), none] rfl rfl rfl rfl ?_
  refine Ev.goto rfl ?_
  replace hk := kK_l hk
  exact hk (mu_lt b2)
set_option maxRecDepth 100000 in
theorem e_Form_loseBlock_34_L2b {v1 : Int32} {v2 : Int32} {x : Option Value × List mmC} (hk : (kK (fun a : Int32 × Ob => mu a.1) (mu v2) (fun a : Int32 × Ob => Ev mmPT tbX3_loseBlock 2 [some (.ref 34), some (.int v1), some (.int a.1), none] [] (mh sc rest to fl a.2 tr mk cn nu de ru la tb tf ph cs) x) (kO (fun r : Ob => (none, mh sc rest to fl r tr mk cn nu de ru la tb tf ph cs)) x)) (Form_loseBlock_L2b ma v1 v2)) : Ev mmPT tbX3_loseBlock 2 [some (.ref 34), some (.int v1), some (.int v2), none] [] (mh sc rest to fl ma tr mk cn nu de ru la tb tf ph cs) x := by
  unfold Form_loseBlock_L2b at hk
  refine Ev.s (ins := .iload_n 2) (pc' := 3) rfl rfl ?_
  refine Ev.s (ins := .aload_n 0) (pc' := 4) rfl rfl ?_
  refine gf_34_7 rfl ?_
  refine Ev.s (ins := .iload_n 1) (pc' := 8) rfl rfl ?_
  refine at_49 (oat ma 7 10 v1) rfl (Nat.le_of_ble_eq_true rfl) rfl ?_
  refine q_cge rfl hk (fun c1 hk => ?_) (fun c1 hk => ?_)
  · refine Ev.s (ins := .aload_n 0) (pc' := 15) rfl rfl ?_
    refine Ev.s (ins := .iload_n 1) (pc' := 16) rfl rfl ?_
    refine Ev.s (ins := .iload_n 2) (pc' := 17) rfl rfl ?_
    refine kc_X3_valueIn_0 rfl oi_34 rfl (Nat.le_of_ble_eq_true rfl) (e_Form_valueIn_34) ?_
    refine Ev.s (ins := .istore_n 3) (pc' := 21) (lv' := [some (.ref 34), some (.int v1), some (.int v2), some (.int (Form_valueIn ma v1 v2))]) rfl rfl ?_
    refine Ev.s (ins := .aload_n 0) (pc' := 22) rfl rfl ?_
    refine gf_34_1 rfl ?_
    refine Ev.s (ins := .iload_n 3) (pc' := 26) rfl rfl ?_
    refine at_37 (oat ma 1 140 (Form_valueIn ma v1 v2)) rfl (Nat.le_of_ble_eq_true rfl) rfl ?_
    refine Ev.s (ins := .iload_n 1) (pc' := 30) rfl rfl ?_
    refine q_cne rfl hk (fun c2 hk => ?_) (fun c2 hk => ?_)
    · refine Ev.s (ins := .aload_n 0) (pc' := 34) rfl rfl ?_
      refine Ev.s (ins := .iload_n 3) (pc' := 35) rfl rfl ?_
      refine kc_X3_lose_0 rfl oi_34 rfl (Nat.le_of_ble_eq_true rfl) (e_Form_lose_34) ?_
      refine Ev.weak [some (.ref 34), some (.int v1), some (.int v2), none] ⟨rfl, rfl, rfl, rfl, trivial⟩ ?_
      exact e_Form_loseBlock_34_38 (lt31 c1) hk
    · refine Ev.weak [some (.ref 34), some (.int v1), some (.int v2), none] ⟨rfl, rfl, rfl, rfl, trivial⟩ ?_
      exact e_Form_loseBlock_34_38 (lt31 c1) hk
  · replace hk := kK_r hk
    refine Ev.s (ins := .aload_n 0) (pc' := 45) rfl rfl ?_
    refine gf_34_7 rfl ?_
    refine Ev.s (ins := .iload_n 1) (pc' := 49) rfl rfl ?_
    refine q_ic 0 rfl rfl ?_
    refine pt_49 rfl (Nat.le_of_ble_eq_true rfl) ?_
    refine Ev.s (ins := .aload_n 0) (pc' := 54) rfl rfl ?_
    refine gf_34_9 rfl ?_
    refine Ev.s (ins := .iload_n 1) (pc' := 58) rfl rfl ?_
    refine q_ic 0 rfl rfl ?_
    refine pt_53 rfl (Nat.le_of_ble_eq_true rfl) ?_
    refine Ev.s (ins := .aload_n 0) (pc' := 63) rfl rfl ?_
    refine gf_34_3 rfl ?_
    refine q_si 140 rfl rfl ?_
    refine Ev.s (ins := .iload_n 1) (pc' := 70) rfl rfl ?_
    refine Ev.s (ins := .iadd) (pc' := 71) rfl rfl ?_
    refine q_ic 0 rfl rfl ?_
    refine pt_41 rfl (Nat.le_of_ble_eq_true rfl) ?_
    refine Ev.s (ins := .aload_n 0) (pc' := 76) rfl rfl ?_
    refine Ev.s (ins := .dup) (pc' := 77) rfl rfl ?_
    refine gf_34_14 (ma.2.1 1) rfl rfl ?_
    refine Ev.s (ins := .iload_n 1) (pc' := 81) rfl rfl ?_
    refine kc_X11_bit_3 rfl (Nat.le_of_ble_eq_true rfl) (e_Ph_bit) ?_
    refine q_ic (-1) rfl rfl ?_
    refine Ev.s (ins := .ixor) (pc' := 86) rfl rfl ?_
    refine Ev.s (ins := .iand) (pc' := 87) rfl rfl ?_
    refine pf_34_14 ((ma.2.1 1) &&& ((Ph_bit v1) ^^^ (-1))) rfl ?_
    refine Ev.s (ins := .aload_n 0) (pc' := 91) rfl rfl ?_
    refine Ev.s (ins := .dup) (pc' := 92) rfl rfl ?_
    refine gf_34_18 (ma.2.1 5) rfl rfl ?_
    refine q_ic 1 rfl rfl ?_
    refine Ev.s (ins := .iadd) (pc' := 97) rfl rfl ?_
    refine pf_34_18 ((ma.2.1 5) + 1) rfl ?_
    exact Ev.vret rfl rfl hk
set_option maxRecDepth 100000 in
theorem e_Form_loseBlock_34_L2 {v1 : Int32} {v2 : Int32} {x : Option Value × List mmC} (hk : (kO (fun r : Ob => (none, mh sc rest to fl r tr mk cn nu de ru la tb tf ph cs)) x) (Form_loseBlock_L2 ma v1 v2)) : Ev mmPT tbX3_loseBlock 2 [some (.ref 34), some (.int v1), some (.int v2), none] [] (mh sc rest to fl ma tr mk cn nu de ru la tb tf ph cs) x :=
  k_loop (B := (fun a : Int32 × Ob => Form_loseBlock_L2b a.2 v1 a.1)) (μ := fun a : Int32 × Ob => mu a.1) (E := fun a : Int32 × Ob => Ev mmPT tbX3_loseBlock 2 [some (.ref 34), some (.int v1), some (.int a.1), none] [] (mh sc rest to fl a.2 tr mk cn nu de ru la tb tf ph cs) x) (X := (kO (fun r : Ob => (none, mh sc rest to fl r tr mk cn nu de ru la tb tf ph cs)) x)) (fun a hk => e_Form_loseBlock_34_L2b hk) (v2, ma) hk
set_option maxRecDepth 100000 in
theorem e_Form_loseBlock_34_0 {v1 : Int32} {x : Option Value × List mmC} (hk : (kO (fun r : Ob => (none, mh sc rest to fl r tr mk cn nu de ru la tb tf ph cs)) x) (Form_loseBlock ma v1)) : Ev mmPT tbX3_loseBlock 0 [some (.ref 34), some (.int v1), none, none] [] (mh sc rest to fl ma tr mk cn nu de ru la tb tf ph cs) x := by
  unfold Form_loseBlock at hk
  refine q_ic 0 rfl rfl ?_
  refine Ev.s (ins := .istore_n 2) (pc' := 2) (lv' := [some (.ref 34), some (.int v1), some (.int 0), none]) rfl rfl ?_
  exact e_Form_loseBlock_34_L2 hk
set_option maxRecDepth 100000 in
theorem e_Form_loseBlock_34 {v1 : Int32} : Ev mmPT tbX3_loseBlock 0 [some (.ref 34), some (.int v1), none, none] [] (mh sc rest to fl ma tr mk cn nu de ru la tb tf ph cs) ((fun r : Ob => (none, mh sc rest to fl r tr mk cn nu de ru la tb tf ph cs)) (Form_loseBlock ma v1)) := e_Form_loseBlock_34_0 (by exact rfl)
set_option maxRecDepth 100000 in
theorem e_Constants_loseBlocks_95_34_49 {v2 : Int32} {x : Option Value × List mmC} (b2 : v2 < 2147483647) (hk : (kK (fun a : Int32 × Ob => mu a.1) (mu v2) (fun a : Int32 × Ob => Ev mmPT tbX0_loseBlocks 2 [some (.ref 95), some (.ref 34), some (.int a.1)] [] (mh sc rest to fl a.2 tr mk cn nu de ru la tb tf ph cs) x) (kO (fun r : Ob => (none, mh sc rest to fl r tr mk cn nu de ru la tb tf ph cs)) x)) (Constants_loseBlocks_49 ma cn v2)) : Ev mmPT tbX0_loseBlocks 49 [some (.ref 95), some (.ref 34), some (.int v2)] [] (mh sc rest to fl ma tr mk cn nu de ru la tb tf ph cs) x := by
  unfold Constants_loseBlocks_49 at hk
  refine q_inc 1 [some (.ref 95), some (.ref 34), some (.int (v2 + 1))] rfl rfl rfl rfl ?_
  refine Ev.goto rfl ?_
  replace hk := kK_l hk
  exact hk (mu_lt b2)
set_option maxRecDepth 100000 in
theorem e_Constants_loseBlocks_95_34_L2b {v2 : Int32} {x : Option Value × List mmC} (hk : (kK (fun a : Int32 × Ob => mu a.1) (mu v2) (fun a : Int32 × Ob => Ev mmPT tbX0_loseBlocks 2 [some (.ref 95), some (.ref 34), some (.int a.1)] [] (mh sc rest to fl a.2 tr mk cn nu de ru la tb tf ph cs) x) (kO (fun r : Ob => (none, mh sc rest to fl r tr mk cn nu de ru la tb tf ph cs)) x)) (Constants_loseBlocks_L2b ma cn v2)) : Ev mmPT tbX0_loseBlocks 2 [some (.ref 95), some (.ref 34), some (.int v2)] [] (mh sc rest to fl ma tr mk cn nu de ru la tb tf ph cs) x := by
  unfold Constants_loseBlocks_L2b at hk
  refine Ev.s (ins := .iload_n 2) (pc' := 3) rfl rfl ?_
  refine Ev.s (ins := .aload_n 1) (pc' := 4) rfl rfl ?_
  refine gf_34_13 (ma.2.1 0) rfl rfl ?_
  refine q_cge rfl hk (fun c1 hk => ?_) (fun c1 hk => ?_)
  · refine Ev.s (ins := .aload_n 1) (pc' := 11) rfl rfl ?_
    refine gf_34_14 (ma.2.1 1) rfl rfl ?_
    refine Ev.s (ins := .aload_n 0) (pc' := 15) rfl rfl ?_
    refine gf_95_2 (cn.2.1 0) rfl rfl ?_
    refine q_ic (-1) rfl rfl ?_
    refine Ev.s (ins := .ixor) (pc' := 20) rfl rfl ?_
    refine Ev.s (ins := .iand) (pc' := 21) rfl rfl ?_
    refine Ev.s (ins := .iload_n 2) (pc' := 22) rfl rfl ?_
    refine kc_X11_has_3 rfl (Nat.le_of_ble_eq_true rfl) (e_Ph_has) ?_
    refine q_beq rfl hk (fun c2 hk => ?_) (fun c2 hk => ?_)
    · refine Ev.s (ins := .aload_n 1) (pc' := 29) rfl rfl ?_
      refine Ev.s (ins := .iload_n 2) (pc' := 30) rfl rfl ?_
      refine q_ic 2 rfl rfl ?_
      refine Ev.s (ins := .imul) (pc' := 32) rfl rfl ?_
      refine kc_X3_dropEdge_0 rfl oi_34 rfl (Nat.le_of_ble_eq_true rfl) (e_Form_dropEdge_34) ?_
      refine Ev.s (ins := .aload_n 1) (pc' := 36) rfl rfl ?_
      refine Ev.s (ins := .iload_n 2) (pc' := 37) rfl rfl ?_
      refine q_ic 2 rfl rfl ?_
      refine Ev.s (ins := .imul) (pc' := 39) rfl rfl ?_
      refine q_ic 1 rfl rfl ?_
      refine Ev.s (ins := .iadd) (pc' := 41) rfl rfl ?_
      refine kc_X3_dropEdge_0 rfl oi_34 rfl (Nat.le_of_ble_eq_true rfl) (e_Form_dropEdge_34) ?_
      refine Ev.s (ins := .aload_n 1) (pc' := 45) rfl rfl ?_
      refine Ev.s (ins := .iload_n 2) (pc' := 46) rfl rfl ?_
      refine kc_X3_loseBlock_0 rfl oi_34 rfl (Nat.le_of_ble_eq_true rfl) (e_Form_loseBlock_34) ?_
      exact e_Constants_loseBlocks_95_34_49 (lt31 c1) hk
    · exact e_Constants_loseBlocks_95_34_49 (lt31 c1) hk
  · replace hk := kK_r hk
    exact Ev.vret rfl rfl hk
set_option maxRecDepth 100000 in
theorem e_Constants_loseBlocks_95_34_L2 {v2 : Int32} {x : Option Value × List mmC} (hk : (kO (fun r : Ob => (none, mh sc rest to fl r tr mk cn nu de ru la tb tf ph cs)) x) (Constants_loseBlocks_L2 ma cn v2)) : Ev mmPT tbX0_loseBlocks 2 [some (.ref 95), some (.ref 34), some (.int v2)] [] (mh sc rest to fl ma tr mk cn nu de ru la tb tf ph cs) x :=
  k_loop (B := (fun a : Int32 × Ob => Constants_loseBlocks_L2b a.2 cn a.1)) (μ := fun a : Int32 × Ob => mu a.1) (E := fun a : Int32 × Ob => Ev mmPT tbX0_loseBlocks 2 [some (.ref 95), some (.ref 34), some (.int a.1)] [] (mh sc rest to fl a.2 tr mk cn nu de ru la tb tf ph cs) x) (X := (kO (fun r : Ob => (none, mh sc rest to fl r tr mk cn nu de ru la tb tf ph cs)) x)) (fun a hk => e_Constants_loseBlocks_95_34_L2b hk) (v2, ma) hk
set_option maxRecDepth 100000 in
theorem e_Constants_loseBlocks_95_34_0 {x : Option Value × List mmC} (hk : (kO (fun r : Ob => (none, mh sc rest to fl r tr mk cn nu de ru la tb tf ph cs)) x) (Constants_loseBlocks ma cn)) : Ev mmPT tbX0_loseBlocks 0 [some (.ref 95), some (.ref 34), none] [] (mh sc rest to fl ma tr mk cn nu de ru la tb tf ph cs) x := by
  unfold Constants_loseBlocks at hk
  refine q_ic 0 rfl rfl ?_
  refine Ev.s (ins := .istore_n 2) (pc' := 2) (lv' := [some (.ref 95), some (.ref 34), some (.int 0)]) rfl rfl ?_
  exact e_Constants_loseBlocks_95_34_L2 hk
set_option maxRecDepth 100000 in
theorem e_Constants_loseBlocks_95_34 : Ev mmPT tbX0_loseBlocks 0 [some (.ref 95), some (.ref 34), none] [] (mh sc rest to fl ma tr mk cn nu de ru la tb tf ph cs) ((fun r : Ob => (none, mh sc rest to fl r tr mk cn nu de ru la tb tf ph cs)) (Constants_loseBlocks ma cn)) := e_Constants_loseBlocks_95_34_0 (by exact rfl)
set_option maxRecDepth 100000 in
theorem e_Form_redirect_34_76 {v1 : Int32} {v2 : Int32} {v3 : Int32} {v4 : Int32} {v5 : Int32} {v6 : Int32} {x : Option Value × List mmC} (b3 : v4 < 2147483647) (b26 : v6 < 2147483647) (hk : (kK (fun a : Int32 × Ob => mu a.1) (mu v6) (fun a : Int32 × Ob => Ev mmPT tbX3_redirect 26 [some (.ref 34), some (.int v1), some (.int v2), some (.int v3), some (.int v4), some (.int v5), some (.int a.1)] [] (mh sc rest to fl a.2 tr mk cn nu de ru la tb tf ph cs) x) (kK (fun a : Int32 × Ob => mu a.1) (mu v4) (fun a : Int32 × Ob => Ev mmPT tbX3_redirect 3 [some (.ref 34), some (.int v1), some (.int v2), some (.int v3), some (.int a.1), none, none] [] (mh sc rest to fl a.2 tr mk cn nu de ru la tb tf ph cs) x) (kO (fun r : Ob => (none, mh sc rest to fl r tr mk cn nu de ru la tb tf ph cs)) x))) (Form_redirect_76 ma v1 v2 v3 v4 v5 v6)) : Ev mmPT tbX3_redirect 76 [some (.ref 34), some (.int v1), some (.int v2), some (.int v3), some (.int v4), some (.int v5), some (.int v6)] [] (mh sc rest to fl ma tr mk cn nu de ru la tb tf ph cs) x := by
  unfold Form_redirect_76 at hk
  refine q_inc 1 [some (.ref 34), some (.int v1), some (.int v2), some (.int v3), some (.int v4), some (.int v5), some (.int (v6 + 1))] rfl rfl rfl rfl ?_
  refine Ev.goto rfl ?_
  replace hk := kK_l hk
  exact hk (mu_lt b26)
set_option maxRecDepth 100000 in
theorem e_Form_redirect_34_L26b {v1 : Int32} {v2 : Int32} {v3 : Int32} {v4 : Int32} {v5 : Int32} {v6 : Int32} {x : Option Value × List mmC} (b3 : v4 < 2147483647) (hk : (kK (fun a : Int32 × Ob => mu a.1) (mu v6) (fun a : Int32 × Ob => Ev mmPT tbX3_redirect 26 [some (.ref 34), some (.int v1), some (.int v2), some (.int v3), some (.int v4), some (.int v5), some (.int a.1)] [] (mh sc rest to fl a.2 tr mk cn nu de ru la tb tf ph cs) x) (kK (fun a : Int32 × Ob => mu a.1) (mu v4) (fun a : Int32 × Ob => Ev mmPT tbX3_redirect 3 [some (.ref 34), some (.int v1), some (.int v2), some (.int v3), some (.int a.1), none, none] [] (mh sc rest to fl a.2 tr mk cn nu de ru la tb tf ph cs) x) (kO (fun r : Ob => (none, mh sc rest to fl r tr mk cn nu de ru la tb tf ph cs)) x))) (Form_redirect_L26b ma v1 v2 v3 v4 v5 v6)) : Ev mmPT tbX3_redirect 26 [some (.ref 34), some (.int v1), some (.int v2), some (.int v3), some (.int v4), some (.int v5), some (.int v6)] [] (mh sc rest to fl ma tr mk cn nu de ru la tb tf ph cs) x := by
  unfold Form_redirect_L26b at hk
  refine Ev.s (ins := .iload 6) (pc' := 28) rfl rfl ?_
  refine Ev.s (ins := .iload 5) (pc' := 30) rfl rfl ?_
  refine Ev.s (ins := .aload_n 0) (pc' := 31) rfl rfl ?_
  refine gf_34_3 rfl ?_
  refine Ev.s (ins := .iload 4) (pc' := 36) rfl rfl ?_
  refine at_41 (oat ma 3 150 v4) rfl (Nat.le_of_ble_eq_true rfl) rfl ?_
  refine Ev.s (ins := .iadd) (pc' := 40) rfl rfl ?_
  refine q_cge rfl hk (fun c1 hk => ?_) (fun c1 hk => ?_)
  · refine Ev.s (ins := .aload_n 0) (pc' := 44) rfl rfl ?_
    refine gf_34_5 rfl ?_
    refine Ev.s (ins := .iload 6) (pc' := 49) rfl rfl ?_
    refine at_45 (oat ma 5 290 v6) rfl (Nat.le_of_ble_eq_true rfl) rfl ?_
    refine Ev.s (ins := .iload_n 1) (pc' := 53) rfl rfl ?_
    refine q_cne rfl hk (fun c2 hk => ?_) (fun c2 hk => ?_)
    · refine Ev.s (ins := .aload_n 0) (pc' := 57) rfl rfl ?_
      refine gf_34_5 rfl ?_
      refine Ev.s (ins := .iload 6) (pc' := 62) rfl rfl ?_
      refine Ev.s (ins := .iload_n 2) (pc' := 63) rfl rfl ?_
      refine pt_45 rfl (Nat.le_of_ble_eq_true rfl) ?_
      refine Ev.s (ins := .aload_n 0) (pc' := 67) rfl rfl ?_
      refine gf_34_6 rfl ?_
      refine Ev.s (ins := .iload 6) (pc' := 72) rfl rfl ?_
      refine Ev.s (ins := .iload_n 3) (pc' := 73) rfl rfl ?_
      refine pt_47 rfl (Nat.le_of_ble_eq_true rfl) ?_
      exact e_Form_redirect_34_76 b3 (lt31 c1) hk
    · exact e_Form_redirect_34_76 b3 (lt31 c1) hk
  · replace hk := kK_r hk
    refine q_inc 1 [some (.ref 34), some (.int v1), some (.int v2), some (.int v3), some (.int (v4 + 1)), some (.int v5), some (.int v6)] rfl rfl rfl rfl ?_
    refine Ev.goto rfl ?_
    refine Ev.weak [some (.ref 34), some (.int v1), some (.int v2), some (.int v3), some (.int (v4 + 1)), none, none] ⟨rfl, rfl, rfl, rfl, rfl, rfl, rfl, trivial⟩ ?_
    replace hk := kK_l hk
    exact hk (mu_lt b3)
set_option maxRecDepth 100000 in
theorem e_Form_redirect_34_L26 {v1 : Int32} {v2 : Int32} {v3 : Int32} {v4 : Int32} {v5 : Int32} {v6 : Int32} {x : Option Value × List mmC} (b3 : v4 < 2147483647) (hk : (kK (fun a : Int32 × Ob => mu a.1) (mu v4) (fun a : Int32 × Ob => Ev mmPT tbX3_redirect 3 [some (.ref 34), some (.int v1), some (.int v2), some (.int v3), some (.int a.1), none, none] [] (mh sc rest to fl a.2 tr mk cn nu de ru la tb tf ph cs) x) (kO (fun r : Ob => (none, mh sc rest to fl r tr mk cn nu de ru la tb tf ph cs)) x)) (Form_redirect_L26 ma v1 v2 v3 v4 v5 v6)) : Ev mmPT tbX3_redirect 26 [some (.ref 34), some (.int v1), some (.int v2), some (.int v3), some (.int v4), some (.int v5), some (.int v6)] [] (mh sc rest to fl ma tr mk cn nu de ru la tb tf ph cs) x :=
  k_loop (B := (fun a : Int32 × Ob => Form_redirect_L26b a.2 v1 v2 v3 v4 v5 a.1)) (μ := fun a : Int32 × Ob => mu a.1) (E := fun a : Int32 × Ob => Ev mmPT tbX3_redirect 26 [some (.ref 34), some (.int v1), some (.int v2), some (.int v3), some (.int v4), some (.int v5), some (.int a.1)] [] (mh sc rest to fl a.2 tr mk cn nu de ru la tb tf ph cs) x) (X := (kK (fun a : Int32 × Ob => mu a.1) (mu v4) (fun a : Int32 × Ob => Ev mmPT tbX3_redirect 3 [some (.ref 34), some (.int v1), some (.int v2), some (.int v3), some (.int a.1), none, none] [] (mh sc rest to fl a.2 tr mk cn nu de ru la tb tf ph cs) x) (kO (fun r : Ob => (none, mh sc rest to fl r tr mk cn nu de ru la tb tf ph cs)) x))) (fun a hk => e_Form_redirect_34_L26b b3 hk) (v6, ma) hk
set_option maxRecDepth 100000 in
theorem e_Form_redirect_34_L3b {v1 : Int32} {v2 : Int32} {v3 : Int32} {v4 : Int32} {x : Option Value × List mmC} (hk : (kK (fun a : Int32 × Ob => mu a.1) (mu v4) (fun a : Int32 × Ob => Ev mmPT tbX3_redirect 3 [some (.ref 34), some (.int v1), some (.int v2), some (.int v3), some (.int a.1), none, none] [] (mh sc rest to fl a.2 tr mk cn nu de ru la tb tf ph cs) x) (kO (fun r : Ob => (none, mh sc rest to fl r tr mk cn nu de ru la tb tf ph cs)) x)) (Form_redirect_L3b ma v1 v2 v3 v4)) : Ev mmPT tbX3_redirect 3 [some (.ref 34), some (.int v1), some (.int v2), some (.int v3), some (.int v4), none, none] [] (mh sc rest to fl ma tr mk cn nu de ru la tb tf ph cs) x := by
  unfold Form_redirect_L3b at hk
  refine Ev.s (ins := .iload 4) (pc' := 5) rfl rfl ?_
  refine q_si 150 rfl rfl ?_
  refine q_cge rfl hk (fun c1 hk => ?_) (fun c1 hk => ?_)
  · refine Ev.s (ins := .aload_n 0) (pc' := 12) rfl rfl ?_
    refine gf_34_4 rfl ?_
    refine Ev.s (ins := .iload 4) (pc' := 17) rfl rfl ?_
    refine at_43 (oat ma 4 150 v4) rfl (Nat.le_of_ble_eq_true rfl) rfl ?_
    refine Ev.s (ins := .istore 5) (pc' := 22) (lv' := [some (.ref 34), some (.int v1), some (.int v2), some (.int v3), some (.int v4), some (.int (oat ma 4 150 v4)), none]) rfl rfl ?_
    refine Ev.s (ins := .iload 5) (pc' := 24) rfl rfl ?_
    refine Ev.s (ins := .istore 6) (pc' := 26) (lv' := [some (.ref 34), some (.int v1), some (.int v2), some (.int v3), some (.int v4), some (.int (oat ma 4 150 v4)), some (.int (oat ma 4 150 v4))]) rfl rfl ?_
    exact e_Form_redirect_34_L26 (lt31 c1) hk
  · replace hk := kK_r hk
    exact Ev.vret rfl rfl hk
set_option maxRecDepth 100000 in
theorem e_Form_redirect_34_L3 {v1 : Int32} {v2 : Int32} {v3 : Int32} {v4 : Int32} {x : Option Value × List mmC} (hk : (kO (fun r : Ob => (none, mh sc rest to fl r tr mk cn nu de ru la tb tf ph cs)) x) (Form_redirect_L3 ma v1 v2 v3 v4)) : Ev mmPT tbX3_redirect 3 [some (.ref 34), some (.int v1), some (.int v2), some (.int v3), some (.int v4), none, none] [] (mh sc rest to fl ma tr mk cn nu de ru la tb tf ph cs) x :=
  k_loop (B := (fun a : Int32 × Ob => Form_redirect_L3b a.2 v1 v2 v3 a.1)) (μ := fun a : Int32 × Ob => mu a.1) (E := fun a : Int32 × Ob => Ev mmPT tbX3_redirect 3 [some (.ref 34), some (.int v1), some (.int v2), some (.int v3), some (.int a.1), none, none] [] (mh sc rest to fl a.2 tr mk cn nu de ru la tb tf ph cs) x) (X := (kO (fun r : Ob => (none, mh sc rest to fl r tr mk cn nu de ru la tb tf ph cs)) x)) (fun a hk => e_Form_redirect_34_L3b hk) (v4, ma) hk
set_option maxRecDepth 100000 in
theorem e_Form_redirect_34_0 {v1 : Int32} {v2 : Int32} {v3 : Int32} {x : Option Value × List mmC} (hk : (kO (fun r : Ob => (none, mh sc rest to fl r tr mk cn nu de ru la tb tf ph cs)) x) (Form_redirect ma v1 v2 v3)) : Ev mmPT tbX3_redirect 0 [some (.ref 34), some (.int v1), some (.int v2), some (.int v3), none, none, none] [] (mh sc rest to fl ma tr mk cn nu de ru la tb tf ph cs) x := by
  unfold Form_redirect at hk
  refine q_ic 0 rfl rfl ?_
  refine Ev.s (ins := .istore 4) (pc' := 3) (lv' := [some (.ref 34), some (.int v1), some (.int v2), some (.int v3), some (.int 0), none, none]) rfl rfl ?_
  exact e_Form_redirect_34_L3 hk
set_option maxRecDepth 100000 in
theorem e_Form_redirect_34 {v1 : Int32} {v2 : Int32} {v3 : Int32} : Ev mmPT tbX3_redirect 0 [some (.ref 34), some (.int v1), some (.int v2), some (.int v3), none, none, none] [] (mh sc rest to fl ma tr mk cn nu de ru la tb tf ph cs) ((fun r : Ob => (none, mh sc rest to fl r tr mk cn nu de ru la tb tf ph cs)) (Form_redirect ma v1 v2 v3)) := e_Form_redirect_34_0 (by exact rfl)
set_option maxRecDepth 100000 in
theorem e_Form_replace_34_0 {v1 : Int32} {v2 : Int32} {v3 : Int32} {x : Option Value × List mmC} (hk : (kO (fun r : Ob => (none, mh sc rest to fl r tr mk cn nu de ru la tb tf ph cs)) x) (Form_replace ma v1 v2 v3)) : Ev mmPT tbX3_replace 0 [some (.ref 34), some (.int v1), some (.int v2), some (.int v3)] [] (mh sc rest to fl ma tr mk cn nu de ru la tb tf ph cs) x := by
  unfold Form_replace at hk
  refine Ev.s (ins := .aload_n 0) (pc' := 1) rfl rfl ?_
  refine Ev.s (ins := .iload_n 1) (pc' := 2) rfl rfl ?_
  refine Ev.s (ins := .iload_n 2) (pc' := 3) rfl rfl ?_
  refine Ev.s (ins := .iload_n 3) (pc' := 4) rfl rfl ?_
  refine kc_X3_redirect_0 rfl oi_34 rfl (Nat.le_of_ble_eq_true rfl) (e_Form_redirect_34) ?_
  refine Ev.s (ins := .aload_n 0) (pc' := 8) rfl rfl ?_
  refine Ev.s (ins := .iload_n 1) (pc' := 9) rfl rfl ?_
  refine kc_X3_lose_0 rfl oi_34 rfl (Nat.le_of_ble_eq_true rfl) (e_Form_lose_34) ?_
  exact Ev.vret rfl rfl hk
set_option maxRecDepth 100000 in
theorem e_Form_replace_34 {v1 : Int32} {v2 : Int32} {v3 : Int32} : Ev mmPT tbX3_replace 0 [some (.ref 34), some (.int v1), some (.int v2), some (.int v3)] [] (mh sc rest to fl ma tr mk cn nu de ru la tb tf ph cs) ((fun r : Ob => (none, mh sc rest to fl r tr mk cn nu de ru la tb tf ph cs)) (Form_replace ma v1 v2 v3)) := e_Form_replace_34_0 (by exact rfl)
set_option maxRecDepth 100000 in
theorem e_Constants_replaceNumbers_95_34_76 {v2 : Int32} {x : Option Value × List mmC} (b2 : v2 < 2147483647) (hk : (kK (fun a : Int32 × Ob => mu a.1) (mu v2) (fun a : Int32 × Ob => Ev mmPT tbX0_replaceNumbers 2 [some (.ref 95), some (.ref 34), some (.int a.1)] [] (mh sc rest to fl a.2 tr mk cn nu de ru la tb tf ph cs) x) (kO (fun r : Ob => (none, mh sc rest to fl r tr mk cn nu de ru la tb tf ph cs)) x)) (Constants_replaceNumbers_76 ma cn v2)) : Ev mmPT tbX0_replaceNumbers 76 [some (.ref 95), some (.ref 34), some (.int v2)] [] (mh sc rest to fl ma tr mk cn nu de ru la tb tf ph cs) x := by
  unfold Constants_replaceNumbers_76 at hk
  refine q_inc 1 [some (.ref 95), some (.ref 34), some (.int (v2 + 1))] rfl rfl rfl rfl ?_
  refine Ev.goto rfl ?_
  replace hk := kK_l hk
  exact hk (mu_lt b2)
set_option maxRecDepth 100000 in
theorem e_Constants_replaceNumbers_95_34_51 {v2 : Int32} {x : Option Value × List mmC} (b2 : v2 < 2147483647) (hk : (kK (fun a : Int32 × Ob => mu a.1) (mu v2) (fun a : Int32 × Ob => Ev mmPT tbX0_replaceNumbers 2 [some (.ref 95), some (.ref 34), some (.int a.1)] [] (mh sc rest to fl a.2 tr mk cn nu de ru la tb tf ph cs) x) (kO (fun r : Ob => (none, mh sc rest to fl r tr mk cn nu de ru la tb tf ph cs)) x)) (Constants_replaceNumbers_51 ma cn v2)) : Ev mmPT tbX0_replaceNumbers 51 [some (.ref 95), some (.ref 34), some (.int v2)] [] (mh sc rest to fl ma tr mk cn nu de ru la tb tf ph cs) x := by
  unfold Constants_replaceNumbers_51 at hk
  refine Ev.s (ins := .aload_n 0) (pc' := 52) rfl rfl ?_
  refine gf_95_0 rfl ?_
  refine Ev.s (ins := .iload_n 2) (pc' := 56) rfl rfl ?_
  refine at_96 (oat cn 0 140 v2) rfl (Nat.le_of_ble_eq_true rfl) rfl ?_
  refine q_ic 1 rfl rfl ?_
  refine q_cne rfl hk (fun c1 hk => ?_) (fun c1 hk => ?_)
  · refine Ev.s (ins := .iload_n 2) (pc' := 64) rfl rfl ?_
    refine q_bi 6 rfl rfl ?_
    refine q_cge rfl hk (fun c2 hk => ?_) (fun c2 hk => ?_)
    · refine Ev.s (ins := .aload_n 1) (pc' := 70) rfl rfl ?_
      refine Ev.s (ins := .iload_n 2) (pc' := 71) rfl rfl ?_
      refine q_ic (-1) rfl rfl ?_
      refine q_ic 0 rfl rfl ?_
      refine kc_X3_redirect_0 rfl oi_34 rfl (Nat.le_of_ble_eq_true rfl) (e_Form_redirect_34) ?_
      exact e_Constants_replaceNumbers_95_34_76 b2 hk
    · exact e_Constants_replaceNumbers_95_34_76 b2 hk
  · exact e_Constants_replaceNumbers_95_34_76 b2 hk
set_option maxRecDepth 100000 in
theorem e_Constants_replaceNumbers_95_34_L2b {v2 : Int32} {x : Option Value × List mmC} (hk : (kK (fun a : Int32 × Ob => mu a.1) (mu v2) (fun a : Int32 × Ob => Ev mmPT tbX0_replaceNumbers 2 [some (.ref 95), some (.ref 34), some (.int a.1)] [] (mh sc rest to fl a.2 tr mk cn nu de ru la tb tf ph cs) x) (kO (fun r : Ob => (none, mh sc rest to fl r tr mk cn nu de ru la tb tf ph cs)) x)) (Constants_replaceNumbers_L2b ma cn v2)) : Ev mmPT tbX0_replaceNumbers 2 [some (.ref 95), some (.ref 34), some (.int v2)] [] (mh sc rest to fl ma tr mk cn nu de ru la tb tf ph cs) x := by
  unfold Constants_replaceNumbers_L2b at hk
  refine Ev.s (ins := .iload_n 2) (pc' := 3) rfl rfl ?_
  refine Ev.s (ins := .aload_n 1) (pc' := 4) rfl rfl ?_
  refine gf_34_15 (ma.2.1 2) rfl rfl ?_
  refine q_cge rfl hk (fun c1 hk => ?_) (fun c1 hk => ?_)
  · refine Ev.s (ins := .aload_n 0) (pc' := 11) rfl rfl ?_
    refine gf_95_0 rfl ?_
    refine Ev.s (ins := .iload_n 2) (pc' := 15) rfl rfl ?_
    refine at_96 (oat cn 0 140 v2) rfl (Nat.le_of_ble_eq_true rfl) rfl ?_
    refine q_ic 1 rfl rfl ?_
    refine q_cne rfl hk (fun c2 hk => ?_) (fun c2 hk => ?_)
    · refine Ev.s (ins := .aload_n 1) (pc' := 23) rfl rfl ?_
      refine gf_34_1 rfl ?_
      refine Ev.s (ins := .iload_n 2) (pc' := 27) rfl rfl ?_
      refine at_37 (oat ma 1 140 v2) rfl (Nat.le_of_ble_eq_true rfl) rfl ?_
      refine q_ic (-1) rfl rfl ?_
      refine q_ceq rfl hk (fun c3 hk => ?_) (fun c3 hk => ?_)
      · exact e_Constants_replaceNumbers_95_34_51 (lt31 c1) hk
      · refine Ev.s (ins := .aload_n 1) (pc' := 35) rfl rfl ?_
        refine Ev.s (ins := .iload_n 2) (pc' := 36) rfl rfl ?_
        refine q_ic (-1) rfl rfl ?_
        refine Ev.s (ins := .aload_n 0) (pc' := 38) rfl rfl ?_
        refine gf_95_1 rfl ?_
        refine Ev.s (ins := .iload_n 2) (pc' := 42) rfl rfl ?_
        refine at_98 (oat cn 1 140 v2) rfl (Nat.le_of_ble_eq_true rfl) rfl ?_
        refine kc_X3_replace_0 rfl oi_34 rfl (Nat.le_of_ble_eq_true rfl) (e_Form_replace_34) ?_
        refine Ev.goto rfl ?_
        exact e_Constants_replaceNumbers_95_34_76 (lt31 c1) hk
    · exact e_Constants_replaceNumbers_95_34_51 (lt31 c1) hk
  · replace hk := kK_r hk
    exact Ev.vret rfl rfl hk
set_option maxRecDepth 100000 in
theorem e_Constants_replaceNumbers_95_34_L2 {v2 : Int32} {x : Option Value × List mmC} (hk : (kO (fun r : Ob => (none, mh sc rest to fl r tr mk cn nu de ru la tb tf ph cs)) x) (Constants_replaceNumbers_L2 ma cn v2)) : Ev mmPT tbX0_replaceNumbers 2 [some (.ref 95), some (.ref 34), some (.int v2)] [] (mh sc rest to fl ma tr mk cn nu de ru la tb tf ph cs) x :=
  k_loop (B := (fun a : Int32 × Ob => Constants_replaceNumbers_L2b a.2 cn a.1)) (μ := fun a : Int32 × Ob => mu a.1) (E := fun a : Int32 × Ob => Ev mmPT tbX0_replaceNumbers 2 [some (.ref 95), some (.ref 34), some (.int a.1)] [] (mh sc rest to fl a.2 tr mk cn nu de ru la tb tf ph cs) x) (X := (kO (fun r : Ob => (none, mh sc rest to fl r tr mk cn nu de ru la tb tf ph cs)) x)) (fun a hk => e_Constants_replaceNumbers_95_34_L2b hk) (v2, ma) hk
set_option maxRecDepth 100000 in
theorem e_Constants_replaceNumbers_95_34_0 {x : Option Value × List mmC} (hk : (kO (fun r : Ob => (none, mh sc rest to fl r tr mk cn nu de ru la tb tf ph cs)) x) (Constants_replaceNumbers ma cn)) : Ev mmPT tbX0_replaceNumbers 0 [some (.ref 95), some (.ref 34), none] [] (mh sc rest to fl ma tr mk cn nu de ru la tb tf ph cs) x := by
  unfold Constants_replaceNumbers at hk
  refine q_ic 0 rfl rfl ?_
  refine Ev.s (ins := .istore_n 2) (pc' := 2) (lv' := [some (.ref 95), some (.ref 34), some (.int 0)]) rfl rfl ?_
  exact e_Constants_replaceNumbers_95_34_L2 hk
set_option maxRecDepth 100000 in
theorem e_Constants_replaceNumbers_95_34 : Ev mmPT tbX0_replaceNumbers 0 [some (.ref 95), some (.ref 34), none] [] (mh sc rest to fl ma tr mk cn nu de ru la tb tf ph cs) ((fun r : Ob => (none, mh sc rest to fl r tr mk cn nu de ru la tb tf ph cs)) (Constants_replaceNumbers ma cn)) := e_Constants_replaceNumbers_95_34_0 (by exact rfl)
set_option maxRecDepth 100000 in
theorem e_Constants_goOver_95_34_58 {v2 : Int32} {v3 : Int32} {x : Option Value × List mmC} (b6 : v2 < 2147483647) (b27 : v3 < 2147483647) (hk : (kK (fun a : Int32 × Ob => mu a.1) (mu v3) (fun a : Int32 × Ob => Ev mmPT tbX0_goOver 27 [some (.ref 95), some (.ref 34), some (.int v2), some (.int a.1)] [] (mh sc rest to fl ma tr mk a.2 nu de ru la tb tf ph cs) x) (kK (fun a : Int32 × Ob => mu a.1) (mu v2) (fun a : Int32 × Ob => Ev mmPT tbX0_goOver 6 [some (.ref 95), some (.ref 34), some (.int a.1), none] [] (mh sc rest to fl ma tr mk a.2 nu de ru la tb tf ph cs) x) (kO (fun r : Ob × Ob => (none, mh sc rest to fl r.1 tr mk r.2 nu de ru la tb tf ph cs)) x))) (Constants_goOver_58 ma cn v2 v3)) : Ev mmPT tbX0_goOver 58 [some (.ref 95), some (.ref 34), some (.int v2), some (.int v3)] [] (mh sc rest to fl ma tr mk cn nu de ru la tb tf ph cs) x := by
  unfold Constants_goOver_58 at hk
  refine q_inc 1 [some (.ref 95), some (.ref 34), some (.int v2), some (.int (v3 + 1))] rfl rfl rfl rfl ?_
  refine Ev.goto rfl ?_
  replace hk := kK_l hk
  exact hk (mu_lt b27)
set_option maxRecDepth 100000 in
theorem e_Constants_goOver_95_34_L27b {v2 : Int32} {v3 : Int32} {x : Option Value × List mmC} (b6 : v2 < 2147483647) (hk : (kK (fun a : Int32 × Ob => mu a.1) (mu v3) (fun a : Int32 × Ob => Ev mmPT tbX0_goOver 27 [some (.ref 95), some (.ref 34), some (.int v2), some (.int a.1)] [] (mh sc rest to fl ma tr mk a.2 nu de ru la tb tf ph cs) x) (kK (fun a : Int32 × Ob => mu a.1) (mu v2) (fun a : Int32 × Ob => Ev mmPT tbX0_goOver 6 [some (.ref 95), some (.ref 34), some (.int a.1), none] [] (mh sc rest to fl ma tr mk a.2 nu de ru la tb tf ph cs) x) (kO (fun r : Ob × Ob => (none, mh sc rest to fl r.1 tr mk r.2 nu de ru la tb tf ph cs)) x))) (Constants_goOver_L27b ma cn v2 v3)) : Ev mmPT tbX0_goOver 27 [some (.ref 95), some (.ref 34), some (.int v2), some (.int v3)] [] (mh sc rest to fl ma tr mk cn nu de ru la tb tf ph cs) x := by
  unfold Constants_goOver_L27b at hk
  refine Ev.s (ins := .iload_n 3) (pc' := 28) rfl rfl ?_
  refine Ev.s (ins := .aload_n 1) (pc' := 29) rfl rfl ?_
  refine gf_34_13 (ma.2.1 0) rfl rfl ?_
  refine q_cge rfl hk (fun c1 hk => ?_) (fun c1 hk => ?_)
  · refine Ev.s (ins := .aload_n 0) (pc' := 36) rfl rfl ?_
    refine gf_95_2 (cn.2.1 0) rfl rfl ?_
    refine Ev.s (ins := .iload_n 3) (pc' := 40) rfl rfl ?_
    refine kc_X11_has_3 rfl (Nat.le_of_ble_eq_true rfl) (e_Ph_has) ?_
    refine q_beq rfl hk (fun c2 hk => ?_) (fun c2 hk => ?_)
    · refine Ev.s (ins := .aload_n 0) (pc' := 47) rfl rfl ?_
      refine Ev.s (ins := .aload_n 1) (pc' := 48) rfl rfl ?_
      refine Ev.s (ins := .iload_n 3) (pc' := 49) rfl rfl ?_
      refine kc_X0_visit_0 rfl oi_95 rfl (Nat.le_of_ble_eq_true rfl) (e_Constants_visit_95_34) ?_
      refine Ev.s (ins := .aload_n 0) (pc' := 53) rfl rfl ?_
      refine Ev.s (ins := .aload_n 1) (pc' := 54) rfl rfl ?_
      refine Ev.s (ins := .iload_n 3) (pc' := 55) rfl rfl ?_
      refine kc_X0_goOn_0 rfl oi_95 rfl (Nat.le_of_ble_eq_true rfl) (e_Constants_goOn_95_34) ?_
      exact e_Constants_goOver_95_34_58 b6 (lt31 c1) hk
    · exact e_Constants_goOver_95_34_58 b6 (lt31 c1) hk
  · replace hk := kK_r hk
    refine q_inc 1 [some (.ref 95), some (.ref 34), some (.int (v2 + 1)), some (.int v3)] rfl rfl rfl rfl ?_
    refine Ev.goto rfl ?_
    refine Ev.weak [some (.ref 95), some (.ref 34), some (.int (v2 + 1)), none] ⟨rfl, rfl, rfl, rfl, trivial⟩ ?_
    replace hk := kK_l hk
    exact hk (mu_lt b6)
set_option maxRecDepth 100000 in
theorem e_Constants_goOver_95_34_L27 {v2 : Int32} {v3 : Int32} {x : Option Value × List mmC} (b6 : v2 < 2147483647) (hk : (kK (fun a : Int32 × Ob => mu a.1) (mu v2) (fun a : Int32 × Ob => Ev mmPT tbX0_goOver 6 [some (.ref 95), some (.ref 34), some (.int a.1), none] [] (mh sc rest to fl ma tr mk a.2 nu de ru la tb tf ph cs) x) (kO (fun r : Ob × Ob => (none, mh sc rest to fl r.1 tr mk r.2 nu de ru la tb tf ph cs)) x)) (Constants_goOver_L27 ma cn v2 v3)) : Ev mmPT tbX0_goOver 27 [some (.ref 95), some (.ref 34), some (.int v2), some (.int v3)] [] (mh sc rest to fl ma tr mk cn nu de ru la tb tf ph cs) x :=
  k_loop (B := (fun a : Int32 × Ob => Constants_goOver_L27b ma a.2 v2 a.1)) (μ := fun a : Int32 × Ob => mu a.1) (E := fun a : Int32 × Ob => Ev mmPT tbX0_goOver 27 [some (.ref 95), some (.ref 34), some (.int v2), some (.int a.1)] [] (mh sc rest to fl ma tr mk a.2 nu de ru la tb tf ph cs) x) (X := (kK (fun a : Int32 × Ob => mu a.1) (mu v2) (fun a : Int32 × Ob => Ev mmPT tbX0_goOver 6 [some (.ref 95), some (.ref 34), some (.int a.1), none] [] (mh sc rest to fl ma tr mk a.2 nu de ru la tb tf ph cs) x) (kO (fun r : Ob × Ob => (none, mh sc rest to fl r.1 tr mk r.2 nu de ru la tb tf ph cs)) x))) (fun a hk => e_Constants_goOver_95_34_L27b b6 hk) (v3, cn) hk
set_option maxRecDepth 100000 in
theorem e_Constants_goOver_95_34_70 {x : Option Value × List mmC} (hk : (kO (fun r : Ob × Ob => (none, mh sc rest to fl r.1 tr mk r.2 nu de ru la tb tf ph cs)) x) (Constants_goOver_70 ma cn)) : Ev mmPT tbX0_goOver 70 [some (.ref 95), some (.ref 34), none, none] [] (mh sc rest to fl ma tr mk cn nu de ru la tb tf ph cs) x := by
  unfold Constants_goOver_70 at hk
  refine Ev.s (ins := .aload_n 0) (pc' := 71) rfl rfl ?_
  refine Ev.s (ins := .aload_n 1) (pc' := 72) rfl rfl ?_
  refine kc_X0_cutWays_0 rfl oi_95 rfl (Nat.le_of_ble_eq_true rfl) (e_Constants_cutWays_95_34) ?_
  refine Ev.s (ins := .aload_n 0) (pc' := 76) rfl rfl ?_
  refine Ev.s (ins := .aload_n 1) (pc' := 77) rfl rfl ?_
  refine kc_X0_loseBlocks_0 rfl oi_95 rfl (Nat.le_of_ble_eq_true rfl) (e_Constants_loseBlocks_95_34) ?_
  refine Ev.s (ins := .aload_n 0) (pc' := 81) rfl rfl ?_
  refine Ev.s (ins := .aload_n 1) (pc' := 82) rfl rfl ?_
  refine kc_X0_replaceNumbers_0 rfl oi_95 rfl (Nat.le_of_ble_eq_true rfl) (e_Constants_replaceNumbers_95_34) ?_
  exact Ev.vret rfl rfl hk
set_option maxRecDepth 100000 in
theorem e_Constants_goOver_95_34_L6b {v2 : Int32} {x : Option Value × List mmC} (hk : (kK (fun a : Int32 × Ob => mu a.1) (mu v2) (fun a : Int32 × Ob => Ev mmPT tbX0_goOver 6 [some (.ref 95), some (.ref 34), some (.int a.1), none] [] (mh sc rest to fl ma tr mk a.2 nu de ru la tb tf ph cs) x) (kO (fun r : Ob × Ob => (none, mh sc rest to fl r.1 tr mk r.2 nu de ru la tb tf ph cs)) x)) (Constants_goOver_L6b ma cn v2)) : Ev mmPT tbX0_goOver 6 [some (.ref 95), some (.ref 34), some (.int v2), none] [] (mh sc rest to fl ma tr mk cn nu de ru la tb tf ph cs) x := by
  unfold Constants_goOver_L6b at hk
  refine Ev.s (ins := .aload_n 0) (pc' := 7) rfl rfl ?_
  refine gf_95_4 (cn.2.2 0) rfl rfl ?_
  refine q_beq rfl hk (fun c1 hk => ?_) (fun c1 hk => ?_)
  · refine Ev.s (ins := .iload_n 2) (pc' := 14) rfl rfl ?_
    refine q_si 301 rfl rfl ?_
    refine q_cge rfl hk (fun c2 hk => ?_) (fun c2 hk => ?_)
    · refine Ev.s (ins := .aload_n 0) (pc' := 21) rfl rfl ?_
      refine q_ic 0 rfl rfl ?_
      refine pf_95_4 false rfl ?_
      refine q_ic 0 rfl rfl ?_
      refine Ev.s (ins := .istore_n 3) (pc' := 27) (lv' := [some (.ref 95), some (.ref 34), some (.int v2), some (.int 0)]) rfl rfl ?_
      exact e_Constants_goOver_95_34_L27 (lt31 c2) hk
    · replace hk := kK_r hk
      refine Ev.weak [some (.ref 95), some (.ref 34), none, none] ⟨rfl, rfl, rfl, rfl, trivial⟩ ?_
      exact e_Constants_goOver_95_34_70 hk
  · replace hk := kK_r hk
    refine Ev.weak [some (.ref 95), some (.ref 34), none, none] ⟨rfl, rfl, rfl, rfl, trivial⟩ ?_
    exact e_Constants_goOver_95_34_70 hk
set_option maxRecDepth 100000 in
theorem e_Constants_goOver_95_34_L6 {v2 : Int32} {x : Option Value × List mmC} (hk : (kO (fun r : Ob × Ob => (none, mh sc rest to fl r.1 tr mk r.2 nu de ru la tb tf ph cs)) x) (Constants_goOver_L6 ma cn v2)) : Ev mmPT tbX0_goOver 6 [some (.ref 95), some (.ref 34), some (.int v2), none] [] (mh sc rest to fl ma tr mk cn nu de ru la tb tf ph cs) x :=
  k_loop (B := (fun a : Int32 × Ob => Constants_goOver_L6b ma a.2 a.1)) (μ := fun a : Int32 × Ob => mu a.1) (E := fun a : Int32 × Ob => Ev mmPT tbX0_goOver 6 [some (.ref 95), some (.ref 34), some (.int a.1), none] [] (mh sc rest to fl ma tr mk a.2 nu de ru la tb tf ph cs) x) (X := (kO (fun r : Ob × Ob => (none, mh sc rest to fl r.1 tr mk r.2 nu de ru la tb tf ph cs)) x)) (fun a hk => e_Constants_goOver_95_34_L6b hk) (v2, cn) hk
set_option maxRecDepth 100000 in
theorem e_Constants_goOver_95_34_0 {x : Option Value × List mmC} (hk : (kO (fun r : Ob × Ob => (none, mh sc rest to fl r.1 tr mk r.2 nu de ru la tb tf ph cs)) x) (Constants_goOver ma cn)) : Ev mmPT tbX0_goOver 0 [some (.ref 95), some (.ref 34), none, none] [] (mh sc rest to fl ma tr mk cn nu de ru la tb tf ph cs) x := by
  unfold Constants_goOver at hk
  refine Ev.s (ins := .aload_n 0) (pc' := 1) rfl rfl ?_
  refine kc_X0_begin_0 rfl oi_95 rfl (Nat.le_of_ble_eq_true rfl) (e_Constants_begin_95) ?_
  refine q_ic 0 rfl rfl ?_
  refine Ev.s (ins := .istore_n 2) (pc' := 6) (lv' := [some (.ref 95), some (.ref 34), some (.int 0), none]) rfl rfl ?_
  exact e_Constants_goOver_95_34_L6 hk
set_option maxRecDepth 100000 in
theorem e_Constants_goOver_95_34 : Ev mmPT tbX0_goOver 0 [some (.ref 95), some (.ref 34), none, none] [] (mh sc rest to fl ma tr mk cn nu de ru la tb tf ph cs) ((fun r : Ob × Ob => (none, mh sc rest to fl r.1 tr mk r.2 nu de ru la tb tf ph cs)) (Constants_goOver ma cn)) := e_Constants_goOver_95_34_0 (by exact rfl)
set_option maxRecDepth 100000 in
theorem e_Flow_forget_101_0 {x : Option Value × List mmC} (hk : (kO (fun r : Ob => (none, mh sc rest to fl ma tr mk cn r de ru la tb tf ph cs)) x) (Flow_forget nu)) : Ev mmPT tbX2_forget 0 [some (.ref 101)] [] (mh sc rest to fl ma tr mk cn nu de ru la tb tf ph cs) x := by
  unfold Flow_forget at hk
  refine Ev.s (ins := .aload_n 0) (pc' := 1) rfl rfl ?_
  refine gf_101_0 rfl ?_
  refine q_ic 0 rfl rfl ?_
  refine fl_102 rfl (Nat.le_of_ble_eq_true rfl) ?_
  exact Ev.vret rfl rfl hk
set_option maxRecDepth 100000 in
theorem e_Flow_forget_101 : Ev mmPT tbX2_forget 0 [some (.ref 101)] [] (mh sc rest to fl ma tr mk cn nu de ru la tb tf ph cs) ((fun r : Ob => (none, mh sc rest to fl ma tr mk cn r de ru la tb tf ph cs)) (Flow_forget nu)) := e_Flow_forget_101_0 (by exact rfl)
set_option maxRecDepth 100000 in
theorem e_Flow_lead_101_0 {v1 : Int32} {v2 : Int32} {x : Option Value × List mmC} (hk : (kO (fun r : Ob => (none, mh sc rest to fl ma tr mk cn r de ru la tb tf ph cs)) x) (Flow_lead nu v1 v2)) : Ev mmPT tbX2_lead 0 [some (.ref 101), some (.int v1), some (.int v2)] [] (mh sc rest to fl ma tr mk cn nu de ru la tb tf ph cs) x := by
  unfold Flow_lead at hk
  refine Ev.s (ins := .aload_n 0) (pc' := 1) rfl rfl ?_
  refine gf_101_0 rfl ?_
  refine Ev.s (ins := .iload_n 1) (pc' := 5) rfl rfl ?_
  refine Ev.s (ins := .aload_n 0) (pc' := 6) rfl rfl ?_
  refine gf_101_0 rfl ?_
  refine Ev.s (ins := .iload_n 1) (pc' := 10) rfl rfl ?_
  refine at_102 (oat nu 0 10 v1) rfl (Nat.le_of_ble_eq_true rfl) rfl ?_
  refine Ev.s (ins := .iload_n 2) (pc' := 14) rfl rfl ?_
  refine kc_X11_bit_3 rfl (Nat.le_of_ble_eq_true rfl) (e_Ph_bit) ?_
  refine Ev.s (ins := .ior) (pc' := 18) rfl rfl ?_
  refine pt_102 rfl (Nat.le_of_ble_eq_true rfl) ?_
  exact Ev.vret rfl rfl hk
set_option maxRecDepth 100000 in
theorem e_Flow_lead_101 {v1 : Int32} {v2 : Int32} : Ev mmPT tbX2_lead 0 [some (.ref 101), some (.int v1), some (.int v2)] [] (mh sc rest to fl ma tr mk cn nu de ru la tb tf ph cs) ((fun r : Ob => (none, mh sc rest to fl ma tr mk cn r de ru la tb tf ph cs)) (Flow_lead nu v1 v2)) := e_Flow_lead_101_0 (by exact rfl)
set_option maxRecDepth 100000 in
theorem e_Numbers_readEdges_100_34_L19b {v2 : Int32} {v3 : Int32} {x : Option Value × List mmC} (b9 : v2 < 2147483647) (hk : (kK (fun a : Int32 × Ob => mu a.1) (mu v3) (fun a : Int32 × Ob => Ev mmPT tbX6_readEdges 19 [some (.ref 100), some (.ref 34), some (.int v2), some (.int a.1)] [] (mh sc rest to fl ma tr mk cn a.2 de ru la tb tf ph cs) x) (kK (fun a : Int32 × Ob => mu a.1) (mu v2) (fun a : Int32 × Ob => Ev mmPT tbX6_readEdges 9 [some (.ref 100), some (.ref 34), some (.int a.1), none] [] (mh sc rest to fl ma tr mk cn a.2 de ru la tb tf ph cs) x) (kO (fun r : Ob => (none, mh sc rest to fl ma tr mk cn r de ru la tb tf ph cs)) x))) (Numbers_readEdges_L19b ma nu v2 v3)) : Ev mmPT tbX6_readEdges 19 [some (.ref 100), some (.ref 34), some (.int v2), some (.int v3)] [] (mh sc rest to fl ma tr mk cn nu de ru la tb tf ph cs) x := by
  unfold Numbers_readEdges_L19b at hk
  refine Ev.s (ins := .iload_n 3) (pc' := 20) rfl rfl ?_
  refine Ev.s (ins := .aload_n 1) (pc' := 21) rfl rfl ?_
  refine gf_34_9 rfl ?_
  refine Ev.s (ins := .iload_n 2) (pc' := 25) rfl rfl ?_
  refine at_53 (oat ma 9 10 v2) rfl (Nat.le_of_ble_eq_true rfl) rfl ?_
  refine q_cge rfl hk (fun c1 hk => ?_) (fun c1 hk => ?_)
  · refine Ev.s (ins := .aload_n 0) (pc' := 32) rfl rfl ?_
    refine gf_100_0 rfl ?_
    refine Ev.s (ins := .aload_n 1) (pc' := 36) rfl rfl ?_
    refine Ev.s (ins := .iload_n 2) (pc' := 37) rfl rfl ?_
    refine Ev.s (ins := .iload_n 3) (pc' := 38) rfl rfl ?_
    refine kc_X3_wayTo_0 rfl oi_34 rfl (Nat.le_of_ble_eq_true rfl) (e_Form_wayTo_34) ?_
    refine kc_X11_fromOf_3 rfl (Nat.le_of_ble_eq_true rfl) (e_Ph_fromOf) ?_
    refine Ev.s (ins := .iload_n 2) (pc' := 45) rfl rfl ?_
    refine kc_X2_lead_0 rfl oi_101 rfl (Nat.le_of_ble_eq_true rfl) (e_Flow_lead_101) ?_
    refine q_inc 1 [some (.ref 100), some (.ref 34), some (.int v2), some (.int (v3 + 1))] rfl rfl rfl rfl ?_
    refine Ev.goto rfl ?_
    replace hk := kK_l hk
    exact hk (mu_lt (lt31 c1))
  · replace hk := kK_r hk
    refine q_inc 1 [some (.ref 100), some (.ref 34), some (.int (v2 + 1)), some (.int v3)] rfl rfl rfl rfl ?_
    refine Ev.goto rfl ?_
    refine Ev.weak [some (.ref 100), some (.ref 34), some (.int (v2 + 1)), none] ⟨rfl, rfl, rfl, rfl, trivial⟩ ?_
    replace hk := kK_l hk
    exact hk (mu_lt b9)
set_option maxRecDepth 100000 in
theorem e_Numbers_readEdges_100_34_L19 {v2 : Int32} {v3 : Int32} {x : Option Value × List mmC} (b9 : v2 < 2147483647) (hk : (kK (fun a : Int32 × Ob => mu a.1) (mu v2) (fun a : Int32 × Ob => Ev mmPT tbX6_readEdges 9 [some (.ref 100), some (.ref 34), some (.int a.1), none] [] (mh sc rest to fl ma tr mk cn a.2 de ru la tb tf ph cs) x) (kO (fun r : Ob => (none, mh sc rest to fl ma tr mk cn r de ru la tb tf ph cs)) x)) (Numbers_readEdges_L19 ma nu v2 v3)) : Ev mmPT tbX6_readEdges 19 [some (.ref 100), some (.ref 34), some (.int v2), some (.int v3)] [] (mh sc rest to fl ma tr mk cn nu de ru la tb tf ph cs) x :=
  k_loop (B := (fun a : Int32 × Ob => Numbers_readEdges_L19b ma a.2 v2 a.1)) (μ := fun a : Int32 × Ob => mu a.1) (E := fun a : Int32 × Ob => Ev mmPT tbX6_readEdges 19 [some (.ref 100), some (.ref 34), some (.int v2), some (.int a.1)] [] (mh sc rest to fl ma tr mk cn a.2 de ru la tb tf ph cs) x) (X := (kK (fun a : Int32 × Ob => mu a.1) (mu v2) (fun a : Int32 × Ob => Ev mmPT tbX6_readEdges 9 [some (.ref 100), some (.ref 34), some (.int a.1), none] [] (mh sc rest to fl ma tr mk cn a.2 de ru la tb tf ph cs) x) (kO (fun r : Ob => (none, mh sc rest to fl ma tr mk cn r de ru la tb tf ph cs)) x))) (fun a hk => e_Numbers_readEdges_100_34_L19b b9 hk) (v3, nu) hk
set_option maxRecDepth 100000 in
theorem e_Numbers_readEdges_100_34_L9b {v2 : Int32} {x : Option Value × List mmC} (hk : (kK (fun a : Int32 × Ob => mu a.1) (mu v2) (fun a : Int32 × Ob => Ev mmPT tbX6_readEdges 9 [some (.ref 100), some (.ref 34), some (.int a.1), none] [] (mh sc rest to fl ma tr mk cn a.2 de ru la tb tf ph cs) x) (kO (fun r : Ob => (none, mh sc rest to fl ma tr mk cn r de ru la tb tf ph cs)) x)) (Numbers_readEdges_L9b ma nu v2)) : Ev mmPT tbX6_readEdges 9 [some (.ref 100), some (.ref 34), some (.int v2), none] [] (mh sc rest to fl ma tr mk cn nu de ru la tb tf ph cs) x := by
  unfold Numbers_readEdges_L9b at hk
  refine Ev.s (ins := .iload_n 2) (pc' := 10) rfl rfl ?_
  refine Ev.s (ins := .aload_n 1) (pc' := 11) rfl rfl ?_
  refine gf_34_13 (ma.2.1 0) rfl rfl ?_
  refine q_cge rfl hk (fun c1 hk => ?_) (fun c1 hk => ?_)
  · refine q_ic 0 rfl rfl ?_
    refine Ev.s (ins := .istore_n 3) (pc' := 19) (lv' := [some (.ref 100), some (.ref 34), some (.int v2), some (.int 0)]) rfl rfl ?_
    exact e_Numbers_readEdges_100_34_L19 (lt31 c1) hk
  · replace hk := kK_r hk
    exact Ev.vret rfl rfl hk
set_option maxRecDepth 100000 in
theorem e_Numbers_readEdges_100_34_L9 {v2 : Int32} {x : Option Value × List mmC} (hk : (kO (fun r : Ob => (none, mh sc rest to fl ma tr mk cn r de ru la tb tf ph cs)) x) (Numbers_readEdges_L9 ma nu v2)) : Ev mmPT tbX6_readEdges 9 [some (.ref 100), some (.ref 34), some (.int v2), none] [] (mh sc rest to fl ma tr mk cn nu de ru la tb tf ph cs) x :=
  k_loop (B := (fun a : Int32 × Ob => Numbers_readEdges_L9b ma a.2 a.1)) (μ := fun a : Int32 × Ob => mu a.1) (E := fun a : Int32 × Ob => Ev mmPT tbX6_readEdges 9 [some (.ref 100), some (.ref 34), some (.int a.1), none] [] (mh sc rest to fl ma tr mk cn a.2 de ru la tb tf ph cs) x) (X := (kO (fun r : Ob => (none, mh sc rest to fl ma tr mk cn r de ru la tb tf ph cs)) x)) (fun a hk => e_Numbers_readEdges_100_34_L9b hk) (v2, nu) hk
set_option maxRecDepth 100000 in
theorem e_Numbers_readEdges_100_34_0 {x : Option Value × List mmC} (hk : (kO (fun r : Ob => (none, mh sc rest to fl ma tr mk cn r de ru la tb tf ph cs)) x) (Numbers_readEdges ma nu)) : Ev mmPT tbX6_readEdges 0 [some (.ref 100), some (.ref 34), none, none] [] (mh sc rest to fl ma tr mk cn nu de ru la tb tf ph cs) x := by
  unfold Numbers_readEdges at hk
  refine Ev.s (ins := .aload_n 0) (pc' := 1) rfl rfl ?_
  refine gf_100_0 rfl ?_
  refine kc_X2_forget_0 rfl oi_101 rfl (Nat.le_of_ble_eq_true rfl) (e_Flow_forget_101) ?_
  refine q_ic 0 rfl rfl ?_
  refine Ev.s (ins := .istore_n 2) (pc' := 9) (lv' := [some (.ref 100), some (.ref 34), some (.int 0), none]) rfl rfl ?_
  exact e_Numbers_readEdges_100_34_L9 hk
set_option maxRecDepth 100000 in
theorem e_Numbers_readEdges_100_34 : Ev mmPT tbX6_readEdges 0 [some (.ref 100), some (.ref 34), none, none] [] (mh sc rest to fl ma tr mk cn nu de ru la tb tf ph cs) ((fun r : Ob => (none, mh sc rest to fl ma tr mk cn r de ru la tb tf ph cs)) (Numbers_readEdges ma nu)) := e_Numbers_readEdges_100_34_0 (by exact rfl)
end RF2
