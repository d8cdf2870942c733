/-! THE RUNS ARE THE FUNCTIONS, by program: 7 -/
section RF6
variable {sc : mmC} {rest : List mmC} {to fl ma tr mk cn nu de ru la tb tf ph : Ob} {cs : Int64}
set_option maxRecDepth 100000 in
theorem e_Constants_cutWays_95_61_135 {v2 : Int32} {x : Option Value × List mmC} (b2 : v2 < 2147483647) (hk : (kK (fun a : Int32 × Ob => mu a.1) (mu v2) (fun a : Int32 × Ob => Ev mmPT tbX0_cutWays 2 [some (.ref 95), some (.ref 61), some (.int a.1), none, none, none, none] [] (mh sc rest to fl ma a.2 mk cn nu de ru la tb tf ph cs) x) (kO (fun r : Ob => (none, mh sc rest to fl ma r mk cn nu de ru la tb tf ph cs)) x)) (Constants_cutWays_135 tr cn v2)) : Ev mmPT tbX0_cutWays 135 [some (.ref 95), some (.ref 61), some (.int v2), none, none, none, none] [] (mh sc rest to fl ma tr mk cn nu de ru la tb tf ph cs) x := by
  unfold Constants_cutWays_135 at hk
  refine q_inc 1 [some (.ref 95), some (.ref 61), some (.int (v2 + 1)), none, none, none, none] rfl rfl rfl rfl ?_
  refine Ev.goto rfl ?_
  replace hk := kK_l hk
  exact hk (mu_lt b2)
set_option maxRecDepth 100000 in
theorem e_Constants_cutWays_95_61_99 {v2 : Int32} {v3 : Int32} {v5 : Int32} {w0 : Int32} {w1 : Int32} {x : Option Value × List mmC} (b2 : v2 < 2147483647) (hk : (kK (fun a : Int32 × Ob => mu a.1) (mu v2) (fun a : Int32 × Ob => Ev mmPT tbX0_cutWays 2 [some (.ref 95), some (.ref 61), some (.int a.1), none, none, none, none] [] (mh sc rest to fl ma a.2 mk cn nu de ru la tb tf ph cs) x) (kO (fun r : Ob => (none, mh sc rest to fl ma r mk cn nu de ru la tb tf ph cs)) x)) (Constants_cutWays_99 tr cn v2 v3 v5 w0 w1)) : Ev mmPT tbX0_cutWays 99 [some (.ref 95), some (.ref 61), some (.int v2), some (.int v3), none, some (.int v5), none] [.int w0, .int w1] (mh sc rest to fl ma tr mk cn nu de ru la tb tf ph cs) x := by
  unfold Constants_cutWays_99 at hk
  refine Ev.s (ins := .iadd) (pc' := 100) rfl rfl ?_
  refine Ev.s (ins := .istore 6) (pc' := 102) (lv' := [some (.ref 95), some (.ref 61), some (.int v2), some (.int v3), none, some (.int v5), some (.int (w1 + w0))]) rfl rfl ?_
  refine Ev.s (ins := .aload_n 1) (pc' := 103) rfl rfl ?_
  refine Ev.s (ins := .iload 6) (pc' := 105) rfl rfl ?_
  refine kc_X3_dropEdge_0 rfl oi_61 rfl (Nat.le_of_ble_eq_true rfl) (e_Form_dropEdge_61) ?_
  refine Ev.s (ins := .aload_n 1) (pc' := 109) rfl rfl ?_
  refine Ev.s (ins := .iload 5) (pc' := 111) rfl rfl ?_
  refine Ev.s (ins := .iload_n 2) (pc' := 112) rfl rfl ?_
  refine q_ic 2 rfl rfl ?_
  refine Ev.s (ins := .imul) (pc' := 114) rfl rfl ?_
  refine kc_X3_changeWay_0 rfl oi_61 rfl (Nat.le_of_ble_eq_true rfl) (e_Form_changeWay_61) ?_
  refine Ev.s (ins := .aload_n 1) (pc' := 118) rfl rfl ?_
  refine gf_61_11 rfl ?_
  refine Ev.s (ins := .iload_n 2) (pc' := 122) rfl rfl ?_
  refine q_ic 1 rfl rfl ?_
  refine pt_84 rfl (Nat.le_of_ble_eq_true rfl) ?_
  refine Ev.s (ins := .aload_n 1) (pc' := 127) rfl rfl ?_
  refine gf_61_3 rfl ?_
  refine Ev.s (ins := .iload_n 3) (pc' := 131) rfl rfl ?_
  refine q_ic 0 rfl rfl ?_
  refine pt_68 rfl (Nat.le_of_ble_eq_true rfl) ?_
  refine Ev.weak [some (.ref 95), some (.ref 61), some (.int v2), none, none, none, none] ⟨rfl, rfl, rfl, rfl, rfl, rfl, rfl, trivial⟩ ?_
  exact e_Constants_cutWays_95_61_135 b2 hk
set_option maxRecDepth 100000 in
theorem e_Constants_cutWays_95_61_78 {v2 : Int32} {v3 : Int32} {v4 : Int32} {w0 : Int32} {w1 : Int32} {x : Option Value × List mmC} (b2 : v2 < 2147483647) (hk : (kK (fun a : Int32 × Ob => mu a.1) (mu v2) (fun a : Int32 × Ob => Ev mmPT tbX0_cutWays 2 [some (.ref 95), some (.ref 61), some (.int a.1), none, none, none, none] [] (mh sc rest to fl ma a.2 mk cn nu de ru la tb tf ph cs) x) (kO (fun r : Ob => (none, mh sc rest to fl ma r mk cn nu de ru la tb tf ph cs)) x)) (Constants_cutWays_78 tr cn v2 v3 v4 w0 w1)) : Ev mmPT tbX0_cutWays 78 [some (.ref 95), some (.ref 61), some (.int v2), some (.int v3), some (.int v4), none, none] [.int w0, .int w1] (mh sc rest to fl ma tr mk cn nu de ru la tb tf ph cs) x := by
  unfold Constants_cutWays_78 at hk
  refine Ev.s (ins := .iadd) (pc' := 79) rfl rfl ?_
  refine Ev.s (ins := .istore 5) (pc' := 81) (lv' := [some (.ref 95), some (.ref 61), some (.int v2), some (.int v3), some (.int v4), some (.int (w1 + w0)), none]) rfl rfl ?_
  refine Ev.s (ins := .iload_n 2) (pc' := 82) rfl rfl ?_
  refine q_ic 2 rfl rfl ?_
  refine Ev.s (ins := .imul) (pc' := 84) rfl rfl ?_
  refine Ev.s (ins := .aload_n 0) (pc' := 85) rfl rfl ?_
  refine Ev.s (ins := .aload_n 1) (pc' := 86) rfl rfl ?_
  refine Ev.s (ins := .iload 4) (pc' := 88) rfl rfl ?_
  refine kc_X0_numberAt_0 rfl oi_95 rfl (Nat.le_of_ble_eq_true rfl) (e_Constants_numberAt_95_61) ?_
  refine q_le rfl hk (fun c1 hk => ?_) (fun c1 hk => ?_)
  · refine q_ic 1 rfl rfl ?_
    refine Ev.goto rfl ?_
    refine Ev.weak [some (.ref 95), some (.ref 61), some (.int v2), some (.int v3), none, some (.int (w1 + w0)), none] ⟨rfl, rfl, rfl, rfl, rfl, rfl, rfl, trivial⟩ ?_
    exact e_Constants_cutWays_95_61_99 b2 hk
  · refine q_ic 0 rfl rfl ?_
    refine Ev.weak [some (.ref 95), some (.ref 61), some (.int v2), some (.int v3), none, some (.int (w1 + w0)), none] ⟨rfl, rfl, rfl, rfl, rfl, rfl, rfl, trivial⟩ ?_
    exact e_Constants_cutWays_95_61_99 b2 hk
set_option maxRecDepth 100000 in
theorem e_Constants_cutWays_95_61_L2b {v2 : Int32} {x : Option Value × List mmC} (hk : (kK (fun a : Int32 × Ob => mu a.1) (mu v2) (fun a : Int32 × Ob => Ev mmPT tbX0_cutWays 2 [some (.ref 95), some (.ref 61), some (.int a.1), none, none, none, none] [] (mh sc rest to fl ma a.2 mk cn nu de ru la tb tf ph cs) x) (kO (fun r : Ob => (none, mh sc rest to fl ma r mk cn nu de ru la tb tf ph cs)) x)) (Constants_cutWays_L2b tr cn v2)) : Ev mmPT tbX0_cutWays 2 [some (.ref 95), some (.ref 61), some (.int v2), none, none, none, none] [] (mh sc rest to fl ma tr mk cn nu de ru la tb tf ph cs) x := by
  unfold Constants_cutWays_L2b at hk
  refine Ev.s (ins := .iload_n 2) (pc' := 3) rfl rfl ?_
  refine Ev.s (ins := .aload_n 1) (pc' := 4) rfl rfl ?_
  refine gf_61_13 (tr.2.1 0) rfl rfl ?_
  refine q_cge rfl hk (fun c1 hk => ?_) (fun c1 hk => ?_)
  · refine q_si 140 rfl rfl ?_
    refine Ev.s (ins := .iload_n 2) (pc' := 14) rfl rfl ?_
    refine Ev.s (ins := .iadd) (pc' := 15) rfl rfl ?_
    refine Ev.s (ins := .istore_n 3) (pc' := 16) (lv' := [some (.ref 95), some (.ref 61), some (.int v2), some (.int ((140 : Int32) + v2)), none, none, none]) rfl rfl ?_
    refine Ev.s (ins := .aload_n 1) (pc' := 17) rfl rfl ?_
    refine gf_61_4 rfl ?_
    refine Ev.s (ins := .iload_n 3) (pc' := 21) rfl rfl ?_
    refine at_70 (oat tr 4 150 ((140 : Int32) + v2)) rfl (Nat.le_of_ble_eq_true rfl) rfl ?_
    refine Ev.s (ins := .istore 4) (pc' := 26) (lv' := [some (.ref 95), some (.ref 61), some (.int v2), some (.int ((140 : Int32) + v2)), some (.int (oat tr 4 150 ((140 : Int32) + v2))), none, none]) rfl rfl ?_
    refine Ev.s (ins := .aload_n 0) (pc' := 27) rfl rfl ?_
    refine gf_95_2 (cn.2.1 0) rfl rfl ?_
    refine Ev.s (ins := .iload_n 2) (pc' := 31) rfl rfl ?_
    refine kc_X11_has_3 rfl (Nat.le_of_ble_eq_true rfl) (e_Ph_has) ?_
    refine q_beq rfl hk (fun c2 hk => ?_) (fun c2 hk => ?_)
    · refine Ev.s (ins := .aload_n 1) (pc' := 38) rfl rfl ?_
      refine gf_61_11 rfl ?_
      refine Ev.s (ins := .iload_n 2) (pc' := 42) rfl rfl ?_
      refine at_84 (oat tr 11 10 v2) rfl (Nat.le_of_ble_eq_true rfl) rfl ?_
      refine q_ic 2 rfl rfl ?_
      refine q_cne rfl hk (fun c3 hk => ?_) (fun c3 hk => ?_)
      · refine Ev.s (ins := .aload_n 0) (pc' := 50) rfl rfl ?_
        refine Ev.s (ins := .aload_n 1) (pc' := 51) rfl rfl ?_
        refine Ev.s (ins := .iload 4) (pc' := 53) rfl rfl ?_
        refine kc_X0_knownAt_0 rfl oi_95 rfl (Nat.le_of_ble_eq_true rfl) (e_Constants_knownAt_95_61) ?_
        refine q_ic 1 rfl rfl ?_
        refine q_cne rfl hk (fun c4 hk => ?_) (fun c4 hk => ?_)
        · refine Ev.s (ins := .iload_n 2) (pc' := 61) rfl rfl ?_
          refine q_ic 2 rfl rfl ?_
          refine Ev.s (ins := .imul) (pc' := 63) rfl rfl ?_
          refine Ev.s (ins := .aload_n 0) (pc' := 64) rfl rfl ?_
          refine Ev.s (ins := .aload_n 1) (pc' := 65) rfl rfl ?_
          refine Ev.s (ins := .iload 4) (pc' := 67) rfl rfl ?_
          refine kc_X0_numberAt_0 rfl oi_95 rfl (Nat.le_of_ble_eq_true rfl) (e_Constants_numberAt_95_61) ?_
          refine q_le rfl hk (fun c5 hk => ?_) (fun c5 hk => ?_)
          · refine q_ic 0 rfl rfl ?_
            refine Ev.goto rfl ?_
            exact e_Constants_cutWays_95_61_78 (lt31 c1) hk
          · refine q_ic 1 rfl rfl ?_
            exact e_Constants_cutWays_95_61_78 (lt31 c1) hk
        · refine Ev.weak [some (.ref 95), some (.ref 61), some (.int v2), none, none, none, none] ⟨rfl, rfl, rfl, rfl, rfl, rfl, rfl, trivial⟩ ?_
          exact e_Constants_cutWays_95_61_135 (lt31 c1) hk
      · refine Ev.weak [some (.ref 95), some (.ref 61), some (.int v2), none, none, none, none] ⟨rfl, rfl, rfl, rfl, rfl, rfl, rfl, trivial⟩ ?_
        exact e_Constants_cutWays_95_61_135 (lt31 c1) hk
    · refine Ev.weak [some (.ref 95), some (.ref 61), some (.int v2), none, none, none, none] ⟨rfl, rfl, rfl, rfl, rfl, rfl, rfl, trivial⟩ ?_
      exact e_Constants_cutWays_95_61_135 (lt31 c1) hk
  · replace hk := kK_r hk
    exact Ev.vret rfl rfl hk
set_option maxRecDepth 100000 in
theorem e_Constants_cutWays_95_61_L2 {v2 : Int32} {x : Option Value × List mmC} (hk : (kO (fun r : Ob => (none, mh sc rest to fl ma r mk cn nu de ru la tb tf ph cs)) x) (Constants_cutWays_L2 tr cn v2)) : Ev mmPT tbX0_cutWays 2 [some (.ref 95), some (.ref 61), some (.int v2), none, none, none, none] [] (mh sc rest to fl ma tr mk cn nu de ru la tb tf ph cs) x :=
  k_loop (B := (fun a : Int32 × Ob => Constants_cutWays_L2b a.2 cn a.1)) (μ := fun a : Int32 × Ob => mu a.1) (E := fun a : Int32 × Ob => Ev mmPT tbX0_cutWays 2 [some (.ref 95), some (.ref 61), some (.int a.1), none, none, none, none] [] (mh sc rest to fl ma a.2 mk cn nu de ru la tb tf ph cs) x) (X := (kO (fun r : Ob => (none, mh sc rest to fl ma r mk cn nu de ru la tb tf ph cs)) x)) (fun a hk => e_Constants_cutWays_95_61_L2b hk) (v2, tr) hk
set_option maxRecDepth 100000 in
theorem e_Constants_cutWays_95_61_0 {x : Option Value × List mmC} (hk : (kO (fun r : Ob => (none, mh sc rest to fl ma r mk cn nu de ru la tb tf ph cs)) x) (Constants_cutWays tr cn)) : Ev mmPT tbX0_cutWays 0 [some (.ref 95), some (.ref 61), none, none, none, none, none] [] (mh sc rest to fl ma tr mk cn nu de ru la tb tf ph cs) x := by
  unfold Constants_cutWays at hk
  refine q_ic 0 rfl rfl ?_
  refine Ev.s (ins := .istore_n 2) (pc' := 2) (lv' := [some (.ref 95), some (.ref 61), some (.int 0), none, none, none, none]) rfl rfl ?_
  exact e_Constants_cutWays_95_61_L2 hk
set_option maxRecDepth 100000 in
theorem e_Constants_cutWays_95_61 : Ev mmPT tbX0_cutWays 0 [some (.ref 95), some (.ref 61), none, none, none, none, none] [] (mh sc rest to fl ma tr mk cn nu de ru la tb tf ph cs) ((fun r : Ob => (none, mh sc rest to fl ma r mk cn nu de ru la tb tf ph cs)) (Constants_cutWays tr cn)) := e_Constants_cutWays_95_61_0 (by exact rfl)
set_option maxRecDepth 100000 in
theorem e_Form_lose_61_0 {v1 : Int32} {x : Option Value × List mmC} (hk : (kO (fun r : Ob => (none, mh sc rest to fl ma r mk cn nu de ru la tb tf ph cs)) x) (Form_lose tr v1)) : Ev mmPT tbX3_lose 0 [some (.ref 61), some (.int v1)] [] (mh sc rest to fl ma tr mk cn nu de ru la tb tf ph cs) x := by
  unfold Form_lose at hk
  refine Ev.s (ins := .aload_n 0) (pc' := 1) rfl rfl ?_
  refine gf_61_1 rfl ?_
  refine Ev.s (ins := .iload_n 1) (pc' := 5) rfl rfl ?_
  refine at_64 (oat tr 1 140 v1) rfl (Nat.le_of_ble_eq_true rfl) rfl ?_
  refine q_ic (-1) rfl rfl ?_
  refine q_cne rfl hk (fun c1 hk => ?_) (fun c1 hk => ?_)
  · exact Ev.vret rfl rfl hk
  · refine Ev.s (ins := .aload_n 0) (pc' := 14) rfl rfl ?_
    refine gf_61_1 rfl ?_
    refine Ev.s (ins := .iload_n 1) (pc' := 18) rfl rfl ?_
    refine q_ic (-1) rfl rfl ?_
    refine pt_64 rfl (Nat.le_of_ble_eq_true rfl) ?_
    refine Ev.s (ins := .aload_n 0) (pc' := 23) rfl rfl ?_
    refine gf_61_3 rfl ?_
    refine Ev.s (ins := .iload_n 1) (pc' := 27) rfl rfl ?_
    refine q_ic 0 rfl rfl ?_
    refine pt_68 rfl (Nat.le_of_ble_eq_true rfl) ?_
    refine Ev.s (ins := .aload_n 0) (pc' := 32) rfl rfl ?_
    refine Ev.s (ins := .dup) (pc' := 33) rfl rfl ?_
    refine gf_61_18 (tr.2.1 5) rfl rfl ?_
    refine q_ic 1 rfl rfl ?_
    refine Ev.s (ins := .iadd) (pc' := 38) rfl rfl ?_
    refine pf_61_18 ((tr.2.1 5) + 1) rfl ?_
    exact Ev.vret rfl rfl hk
set_option maxRecDepth 100000 in
theorem e_Form_lose_61 {v1 : Int32} : Ev mmPT tbX3_lose 0 [some (.ref 61), some (.int v1)] [] (mh sc rest to fl ma tr mk cn nu de ru la tb tf ph cs) ((fun r : Ob => (none, mh sc rest to fl ma r mk cn nu de ru la tb tf ph cs)) (Form_lose tr v1)) := e_Form_lose_61_0 (by exact rfl)
set_option maxRecDepth 100000 in
theorem e_Form_loseBlock_61_38 {v1 : Int32} {v2 : Int32} {x : Option Value × List mmC} (b2 : v2 < 2147483647) (hk : (kK (fun a : Int32 × Ob => mu a.1) (mu v2) (fun a : Int32 × Ob => Ev mmPT tbX3_loseBlock 2 [some (.ref 61), some (.int v1), some (.int a.1), none] [] (mh sc rest to fl ma a.2 mk cn nu de ru la tb tf ph cs) x) (kO (fun r : Ob => (none, mh sc rest to fl ma r mk cn nu de ru la tb tf ph cs)) x)) (Form_loseBlock_38 tr v1 v2)) : Ev mmPT tbX3_loseBlock 38 [some (.ref 61), some (.int v1), some (.int v2), none] [] (mh sc rest to fl ma tr mk cn nu de ru la tb tf ph cs) x := by
  unfold Form_loseBlock_38 at hk
  refine q_inc 1 [some (.ref 61), some (.int v1), some (.int (v2 + 1)), none] rfl rfl rfl rfl ?_
  refine Ev.goto rfl ?_
  replace hk := kK_l hk
  exact hk (mu_lt b2)
set_option maxRecDepth 100000 in
theorem e_Form_loseBlock_61_L2b {v1 : Int32} {v2 : Int32} {x : Option Value × List mmC} (hk : (kK (fun a : Int32 × Ob => mu a.1) (mu v2) (fun a : Int32 × Ob => Ev mmPT tbX3_loseBlock 2 [some (.ref 61), some (.int v1), some (.int a.1), none] [] (mh sc rest to fl ma a.2 mk cn nu de ru la tb tf ph cs) x) (kO (fun r : Ob => (none, mh sc rest to fl ma r mk cn nu de ru la tb tf ph cs)) x)) (Form_loseBlock_L2b tr v1 v2)) : Ev mmPT tbX3_loseBlock 2 [some (.ref 61), some (.int v1), some (.int v2), none] [] (mh sc rest to fl ma tr mk cn nu de ru la tb tf ph cs) x := by
  unfold Form_loseBlock_L2b at hk
  refine Ev.s (ins := .iload_n 2) (pc' := 3) rfl rfl ?_
  refine Ev.s (ins := .aload_n 0) (pc' := 4) rfl rfl ?_
  refine gf_61_7 rfl ?_
  refine Ev.s (ins := .iload_n 1) (pc' := 8) rfl rfl ?_
  refine at_76 (oat tr 7 10 v1) rfl (Nat.le_of_ble_eq_true rfl) rfl ?_
  refine q_cge rfl hk (fun c1 hk => ?_) (fun c1 hk => ?_)
  · refine Ev.s (ins := .aload_n 0) (pc' := 15) rfl rfl ?_
    refine Ev.s (ins := .iload_n 1) (pc' := 16) rfl rfl ?_
    refine Ev.s (ins := .iload_n 2) (pc' := 17) rfl rfl ?_
    refine kc_X3_valueIn_0 rfl oi_61 rfl (Nat.le_of_ble_eq_true rfl) (e_Form_valueIn_61) ?_
    refine Ev.s (ins := .istore_n 3) (pc' := 21) (lv' := [some (.ref 61), some (.int v1), some (.int v2), some (.int (Form_valueIn tr v1 v2))]) rfl rfl ?_
    refine Ev.s (ins := .aload_n 0) (pc' := 22) rfl rfl ?_
    refine gf_61_1 rfl ?_
    refine Ev.s (ins := .iload_n 3) (pc' := 26) rfl rfl ?_
    refine at_64 (oat tr 1 140 (Form_valueIn tr v1 v2)) rfl (Nat.le_of_ble_eq_true rfl) rfl ?_
    refine Ev.s (ins := .iload_n 1) (pc' := 30) rfl rfl ?_
    refine q_cne rfl hk (fun c2 hk => ?_) (fun c2 hk => ?_)
    · refine Ev.s (ins := .aload_n 0) (pc' := 34) rfl rfl ?_
      refine Ev.s (ins := .iload_n 3) (pc' := 35) rfl rfl ?_
      refine kc_X3_lose_0 rfl oi_61 rfl (Nat.le_of_ble_eq_true rfl) (e_Form_lose_61) ?_
      refine Ev.weak [some (.ref 61), some (.int v1), some (.int v2), none] ⟨rfl, rfl, rfl, rfl, trivial⟩ ?_
      exact e_Form_loseBlock_61_38 (lt31 c1) hk
    · refine Ev.weak [some (.ref 61), some (.int v1), some (.int v2), none] ⟨rfl, rfl, rfl, rfl, trivial⟩ ?_
      exact e_Form_loseBlock_61_38 (lt31 c1) hk
  · replace hk := kK_r hk
    refine Ev.s (ins := .aload_n 0) (pc' := 45) rfl rfl ?_
    refine gf_61_7 rfl ?_
    refine Ev.s (ins := .iload_n 1) (pc' := 49) rfl rfl ?_
    refine q_ic 0 rfl rfl ?_
    refine pt_76 rfl (Nat.le_of_ble_eq_true rfl) ?_
    refine Ev.s (ins := .aload_n 0) (pc' := 54) rfl rfl ?_
    refine gf_61_9 rfl ?_
    refine Ev.s (ins := .iload_n 1) (pc' := 58) rfl rfl ?_
    refine q_ic 0 rfl rfl ?_
    refine pt_80 rfl (Nat.le_of_ble_eq_true rfl) ?_
    refine Ev.s (ins := .aload_n 0) (pc' := 63) rfl rfl ?_
    refine gf_61_3 rfl ?_
    refine q_si 140 rfl rfl ?_
    refine Ev.s (ins := .iload_n 1) (pc' := 70) rfl rfl ?_
    refine Ev.s (ins := .iadd) (pc' := 71) rfl rfl ?_
    refine q_ic 0 rfl rfl ?_
    refine pt_68 rfl (Nat.le_of_ble_eq_true rfl) ?_
    refine Ev.s (ins := .aload_n 0) (pc' := 76) rfl rfl ?_
    refine Ev.s (ins := .dup) (pc' := 77) rfl rfl ?_
    refine gf_61_14 (tr.2.1 1) rfl rfl ?_
    refine Ev.s (ins := .iload_n 1) (pc' := 81) rfl rfl ?_
    refine kc_X11_bit_3 rfl (Nat.le_of_ble_eq_true rfl) (e_Ph_bit) ?_
    refine q_ic (-1) rfl rfl ?_
    refine Ev.s (ins := .ixor) (pc' := 86) rfl rfl ?_
    refine Ev.s (ins := .iand) (pc' := 87) rfl rfl ?_
    refine pf_61_14 ((tr.2.1 1) &&& ((Ph_bit v1) ^^^ (-1))) rfl ?_
    refine Ev.s (ins := .aload_n 0) (pc' := 91) rfl rfl ?_
    refine Ev.s (ins := .dup) (pc' := 92) rfl rfl ?_
    refine gf_61_18 (tr.2.1 5) rfl rfl ?_
    refine q_ic 1 rfl rfl ?_
    refine Ev.s (ins := .iadd) (pc' := 97) rfl rfl ?_
    refine pf_61_18 ((tr.2.1 5) + 1) rfl ?_
    exact Ev.vret rfl rfl hk
set_option maxRecDepth 100000 in
theorem e_Form_loseBlock_61_L2 {v1 : Int32} {v2 : Int32} {x : Option Value × List mmC} (hk : (kO (fun r : Ob => (none, mh sc rest to fl ma r mk cn nu de ru la tb tf ph cs)) x) (Form_loseBlock_L2 tr v1 v2)) : Ev mmPT tbX3_loseBlock 2 [some (.ref 61), some (.int v1), some (.int v2), none] [] (mh sc rest to fl ma tr mk cn nu de ru la tb tf ph cs) x :=
  k_loop (B := (fun a : Int32 × Ob => Form_loseBlock_L2b a.2 v1 a.1)) (μ := fun a : Int32 × Ob => mu a.1) (E := fun a : Int32 × Ob => Ev mmPT tbX3_loseBlock 2 [some (.ref 61), some (.int v1), some (.int a.1), none] [] (mh sc rest to fl ma a.2 mk cn nu de ru la tb tf ph cs) x) (X := (kO (fun r : Ob => (none, mh sc rest to fl ma r mk cn nu de ru la tb tf ph cs)) x)) (fun a hk => e_Form_loseBlock_61_L2b hk) (v2, tr) hk
set_option maxRecDepth 100000 in
theorem e_Form_loseBlock_61_0 {v1 : Int32} {x : Option Value × List mmC} (hk : (kO (fun r : Ob => (none, mh sc rest to fl ma r mk cn nu de ru la tb tf ph cs)) x) (Form_loseBlock tr v1)) : Ev mmPT tbX3_loseBlock 0 [some (.ref 61), some (.int v1), none, none] [] (mh sc rest to fl ma tr mk cn nu de ru la tb tf ph cs) x := by
  unfold Form_loseBlock at hk
  refine q_ic 0 rfl rfl ?_
  refine Ev.s (ins := .istore_n 2) (pc' := 2) (lv' := [some (.ref 61), some (.int v1), some (.int 0), none]) rfl rfl ?_
  exact e_Form_loseBlock_61_L2 hk
set_option maxRecDepth 100000 in
theorem e_Form_loseBlock_61 {v1 : Int32} : Ev mmPT tbX3_loseBlock 0 [some (.ref 61), some (.int v1), none, none] [] (mh sc rest to fl ma tr mk cn nu de ru la tb tf ph cs) ((fun r : Ob => (none, mh sc rest to fl ma r mk cn nu de ru la tb tf ph cs)) (Form_loseBlock tr v1)) := e_Form_loseBlock_61_0 (by exact rfl)
set_option maxRecDepth 100000 in
theorem e_Constants_loseBlocks_95_61_49 {v2 : Int32} {x : Option Value × List mmC} (b2 : v2 < 2147483647) (hk : (kK (fun a : Int32 × Ob => mu a.1) (mu v2) (fun a : Int32 × Ob => Ev mmPT tbX0_loseBlocks 2 [some (.ref 95), some (.ref 61), some (.int a.1)] [] (mh sc rest to fl ma a.2 mk cn nu de ru la tb tf ph cs) x) (kO (fun r : Ob => (none, mh sc rest to fl ma r mk cn nu de ru la tb tf ph cs)) x)) (Constants_loseBlocks_49 tr cn v2)) : Ev mmPT tbX0_loseBlocks 49 [some (.ref 95), some (.ref 61), some (.int v2)] [] (mh sc rest to fl ma tr mk cn nu de ru la tb tf ph cs) x := by
  unfold Constants_loseBlocks_49 at hk
  refine q_inc 1 [some (.ref 95), some (.ref 61), some (.int (v2 + 1))] rfl rfl rfl rfl ?_
  refine Ev.goto rfl ?_
  replace hk := kK_l hk
  exact hk (mu_lt b2)
set_option maxRecDepth 100000 in
theorem e_Constants_loseBlocks_95_61_L2b {v2 : Int32} {x : Option Value × List mmC} (hk : (kK (fun a : Int32 × Ob => mu a.1) (mu v2) (fun a : Int32 × Ob => Ev mmPT tbX0_loseBlocks 2 [some (.ref 95), some (.ref 61), some (.int a.1)] [] (mh sc rest to fl ma a.2 mk cn nu de ru la tb tf ph cs) x) (kO (fun r : Ob => (none, mh sc rest to fl ma r mk cn nu de ru la tb tf ph cs)) x)) (Constants_loseBlocks_L2b tr cn v2)) : Ev mmPT tbX0_loseBlocks 2 [some (.ref 95), some (.ref 61), some (.int v2)] [] (mh sc rest to fl ma tr mk cn nu de ru la tb tf ph cs) x := by
  unfold Constants_loseBlocks_L2b at hk
  refine Ev.s (ins := .iload_n 2) (pc' := 3) rfl rfl ?_
  refine Ev.s (ins := .aload_n 1) (pc' := 4) rfl rfl ?_
  refine gf_61_13 (tr.2.1 0) rfl rfl ?_
  refine q_cge rfl hk (fun c1 hk => ?_) (fun c1 hk => ?_)
  · refine Ev.s (ins := .aload_n 1) (pc' := 11) rfl rfl ?_
    refine gf_61_14 (tr.2.1 1) rfl rfl ?_
    refine Ev.s (ins := .aload_n 0) (pc' := 15) rfl rfl ?_
    refine gf_95_2 (cn.2.1 0) rfl rfl ?_
    refine q_ic (-1) rfl rfl ?_
    refine Ev.s (ins := .ixor) (pc' := 20) rfl rfl ?_
    refine Ev.s (ins := .iand) (pc' := 21) rfl rfl ?_
    refine Ev.s (ins := .iload_n 2) (pc' := 22) rfl rfl ?_
    refine kc_X11_has_3 rfl (Nat.le_of_ble_eq_true rfl) (e_Ph_has) ?_
    refine q_beq rfl hk (fun c2 hk => ?_) (fun c2 hk => ?_)
    · refine Ev.s (ins := .aload_n 1) (pc' := 29) rfl rfl ?_
      refine Ev.s (ins := .iload_n 2) (pc' := 30) rfl rfl ?_
      refine q_ic 2 rfl rfl ?_
      refine Ev.s (ins := .imul) (pc' := 32) rfl rfl ?_
      refine kc_X3_dropEdge_0 rfl oi_61 rfl (Nat.le_of_ble_eq_true rfl) (e_Form_dropEdge_61) ?_
      refine Ev.s (ins := .aload_n 1) (pc' := 36) rfl rfl ?_
      refine Ev.s (ins := .iload_n 2) (pc' := 37) rfl rfl ?_
      refine q_ic 2 rfl rfl ?_
      refine Ev.s (ins := .imul) (pc' := 39) rfl rfl ?_
      refine q_ic 1 rfl rfl ?_
      refine Ev.s (ins := .iadd) (pc' := 41) rfl rfl ?_
      refine kc_X3_dropEdge_0 rfl oi_61 rfl (Nat.le_of_ble_eq_true rfl) (e_Form_dropEdge_61) ?_
      refine Ev.s (ins := .aload_n 1) (pc' := 45) rfl rfl ?_
      refine Ev.s (ins := .iload_n 2) (pc' := 46) rfl rfl ?_
      refine kc_X3_loseBlock_0 rfl oi_61 rfl (Nat.le_of_ble_eq_true rfl) (e_Form_loseBlock_61) ?_
      exact e_Constants_loseBlocks_95_61_49 (lt31 c1) hk
    · exact e_Constants_loseBlocks_95_61_49 (lt31 c1) hk
  · replace hk := kK_r hk
    exact Ev.vret rfl rfl hk
set_option maxRecDepth 100000 in
theorem e_Constants_loseBlocks_95_61_L2 {v2 : Int32} {x : Option Value × List mmC} (hk : (kO (fun r : Ob => (none, mh sc rest to fl ma r mk cn nu de ru la tb tf ph cs)) x) (Constants_loseBlocks_L2 tr cn v2)) : Ev mmPT tbX0_loseBlocks 2 [some (.ref 95), some (.ref 61), some (.int v2)] [] (mh sc rest to fl ma tr mk cn nu de ru la tb tf ph cs) x :=
  k_loop (B := (fun a : Int32 × Ob => Constants_loseBlocks_L2b a.2 cn a.1)) (μ := fun a : Int32 × Ob => mu a.1) (E := fun a : Int32 × Ob => Ev mmPT tbX0_loseBlocks 2 [some (.ref 95), some (.ref 61), some (.int a.1)] [] (mh sc rest to fl ma a.2 mk cn nu de ru la tb tf ph cs) x) (X := (kO (fun r : Ob => (none, mh sc rest to fl ma r mk cn nu de ru la tb tf ph cs)) x)) (fun a hk => e_Constants_loseBlocks_95_61_L2b hk) (v2, tr) hk
set_option maxRecDepth 100000 in
theorem e_Constants_loseBlocks_95_61_0 {x : Option Value × List mmC} (hk : (kO (fun r : Ob => (none, mh sc rest to fl ma r mk cn nu de ru la tb tf ph cs)) x) (Constants_loseBlocks tr cn)) : Ev mmPT tbX0_loseBlocks 0 [some (.ref 95), some (.ref 61), none] [] (mh sc rest to fl ma tr mk cn nu de ru la tb tf ph cs) x := by
  unfold Constants_loseBlocks at hk
  refine q_ic 0 rfl rfl ?_
  refine Ev.s (ins := .istore_n 2) (pc' := 2) (lv' := [some (.ref 95), some (.ref 61), some (.int 0)]) rfl rfl ?_
  exact e_Constants_loseBlocks_95_61_L2 hk
set_option maxRecDepth 100000 in
theorem e_Constants_loseBlocks_95_61 : Ev mmPT tbX0_loseBlocks 0 [some (.ref 95), some (.ref 61), none] [] (mh sc rest to fl ma tr mk cn nu de ru la tb tf ph cs) ((fun r : Ob => (none, mh sc rest to fl ma r mk cn nu de ru la tb tf ph cs)) (Constants_loseBlocks tr cn)) := e_Constants_loseBlocks_95_61_0 (by exact rfl)
set_option maxRecDepth 100000 in
theorem e_Form_redirect_61_76 {v1 : Int32} {v2 : Int32} {v3 : Int32} {v4 : Int32} {v5 : Int32} {v6 : Int32} {x : Option Value × List mmC} (b3 : v4 < 2147483647) (b26 : v6 < 2147483647) (hk : (kK (fun a : Int32 × Ob => mu a.1) (mu v6) (fun a : Int32 × Ob => Ev mmPT tbX3_redirect 26 [some (.ref 61), some (.int v1), some (.int v2), some (.int v3), some (.int v4), some (.int v5), some (.int a.1)] [] (mh sc rest to fl ma a.2 mk cn nu de ru la tb tf ph cs) x) (kK (fun a : Int32 × Ob => mu a.1) (mu v4) (fun a : Int32 × Ob => Ev mmPT tbX3_redirect 3 [some (.ref 61), some (.int v1), some (.int v2), some (.int v3), some (.int a.1), none, none] [] (mh sc rest to fl ma a.2 mk cn nu de ru la tb tf ph cs) x) (kO (fun r : Ob => (none, mh sc rest to fl ma r mk cn nu de ru la tb tf ph cs)) x))) (Form_redirect_76 tr v1 v2 v3 v4 v5 v6)) : Ev mmPT tbX3_redirect 76 [some (.ref 61), some (.int v1), some (.int v2), some (.int v3), some (.int v4), some (.int v5), some (.int v6)] [] (mh sc rest to fl ma tr mk cn nu de ru la tb tf ph cs) x := by
  unfold Form_redirect_76 at hk
  refine q_inc 1 [some (.ref 61), some (.int v1), some (.int v2), some (.int v3), some (.int v4), some (.int v5), some (.int (v6 + 1))] rfl rfl rfl rfl ?_
  refine Ev.goto rfl ?_
  replace hk := kK_l hk
  exact hk (mu_lt b26)
set_option maxRecDepth 100000 in
theorem e_Form_redirect_61_L26b {v1 : Int32} {v2 : Int32} {v3 : Int32} {v4 : Int32} {v5 : Int32} {v6 : Int32} {x : Option Value × List mmC} (b3 : v4 < 2147483647) (hk : (kK (fun a : Int32 × Ob => mu a.1) (mu v6) (fun a : Int32 × Ob => Ev mmPT tbX3_redirect 26 [some (.ref 61), some (.int v1), some (.int v2), some (.int v3), some (.int v4), some (.int v5), some (.int a.1)] [] (mh sc rest to fl ma a.2 mk cn nu de ru la tb tf ph cs) x) (kK (fun a : Int32 × Ob => mu a.1) (mu v4) (fun a : Int32 × Ob => Ev mmPT tbX3_redirect 3 [some (.ref 61), some (.int v1), some (.int v2), some (.int v3), some (.int a.1), none, none] [] (mh sc rest to fl ma a.2 mk cn nu de ru la tb tf ph cs) x) (kO (fun r : Ob => (none, mh sc rest to fl ma r mk cn nu de ru la tb tf ph cs)) x))) (Form_redirect_L26b tr v1 v2 v3 v4 v5 v6)) : Ev mmPT tbX3_redirect 26 [some (.ref 61), some (.int v1), some (.int v2), some (.int v3), some (.int v4), some (.int v5), some (.int v6)] [] (mh sc rest to fl ma tr mk cn nu de ru la tb tf ph cs) x := by
  unfold Form_redirect_L26b at hk
  refine Ev.s (ins := .iload 6) (pc' := 28) rfl rfl ?_
  refine Ev.s (ins := .iload 5) (pc' := 30) rfl rfl ?_
  refine Ev.s (ins := .aload_n 0) (pc' := 31) rfl rfl ?_
  refine gf_61_3 rfl ?_
  refine Ev.s (ins := .iload 4) (pc' := 36) rfl rfl ?_
  refine at_68 (oat tr 3 150 v4) rfl (Nat.le_of_ble_eq_true rfl) rfl ?_
  refine Ev.s (ins := .iadd) (pc' := 40) rfl rfl ?_
  refine q_cge rfl hk (fun c1 hk => ?_) (fun c1 hk => ?_)
  · refine Ev.s (ins := .aload_n 0) (pc' := 44) rfl rfl ?_
    refine gf_61_5 rfl ?_
    refine Ev.s (ins := .iload 6) (pc' := 49) rfl rfl ?_
    refine at_72 (oat tr 5 290 v6) rfl (Nat.le_of_ble_eq_true rfl) rfl ?_
    refine Ev.s (ins := .iload_n 1) (pc' := 53) rfl rfl ?_
    refine q_cne rfl hk (fun c2 hk => ?_) (fun c2 hk => ?_)
    · refine Ev.s (ins := .aload_n 0) (pc' := 57) rfl rfl ?_
      refine gf_61_5 rfl ?_
      refine Ev.s (ins := .iload 6) (pc' := 62) rfl rfl ?_
      refine Ev.s (ins := .iload_n 2) (pc' := 63) rfl rfl ?_
      refine pt_72 rfl (Nat.le_of_ble_eq_true rfl) ?_
      refine Ev.s (ins := .aload_n 0) (pc' := 67) rfl rfl ?_
      refine gf_61_6 rfl ?_
      refine Ev.s (ins := .iload 6) (pc' := 72) rfl rfl ?_
      refine Ev.s (ins := .iload_n 3) (pc' := 73) rfl rfl ?_
      refine pt_74 rfl (Nat.le_of_ble_eq_true rfl) ?_
      exact e_Form_redirect_61_76 b3 (lt31 c1) hk
    · exact e_Form_redirect_61_76 b3 (lt31 c1) hk
  · replace hk := kK_r hk
    refine q_inc 1 [some (.ref 61), some (.int v1), some (.int v2), some (.int v3), some (.int (v4 + 1)), some (.int v5), some (.int v6)] rfl rfl rfl rfl ?_
    refine Ev.goto rfl ?_
    refine Ev.weak [some (.ref 61), some (.int v1), some (.int v2), some (.int v3), some (.int (v4 + 1)), none, none] ⟨rfl, rfl, rfl, rfl, rfl, rfl, rfl, trivial⟩ ?_
    replace hk := kK_l hk
    exact hk (mu_lt b3)
set_option maxRecDepth 100000 in
theorem e_Form_redirect_61_L26 {v1 : Int32} {v2 : Int32} {v3 : Int32} {v4 : Int32} {v5 : Int32} {v6 : Int32} {x : Option Value × List mmC} (b3 : v4 < 2147483647) (hk : (kK (fun a : Int32 × Ob => mu a.1) (mu v4) (fun a : Int32 × Ob => Ev mmPT tbX3_redirect 3 [some (.ref 61), some (.int v1), some (.int v2), some (.int v3), some (.int a.1), none, none] [] (mh sc rest to fl ma a.2 mk cn nu de ru la tb tf ph cs) x) (kO (fun r : Ob => (none, mh sc rest to fl ma r mk cn nu de ru la tb tf ph cs)) x)) (Form_redirect_L26 tr v1 v2 v3 v4 v5 v6)) : Ev mmPT tbX3_redirect 26 [some (.ref 61), some (.int v1), some (.int v2), some (.int v3), some (.int v4), some (.int v5), some (.int v6)] [] (mh sc rest to fl ma tr mk cn nu de ru la tb tf ph cs) x :=
  k_loop (B := (fun a : Int32 × Ob => Form_redirect_L26b a.2 v1 v2 v3 v4 v5 a.1)) (μ := fun a : Int32 × Ob => mu a.1) (E := fun a : Int32 × Ob => Ev mmPT tbX3_redirect 26 [some (.ref 61), some (.int v1), some (.int v2), some (.int v3), some (.int v4), some (.int v5), some (.int a.1)] [] (mh sc rest to fl ma a.2 mk cn nu de ru la tb tf ph cs) x) (X := (kK (fun a : Int32 × Ob => mu a.1) (mu v4) (fun a : Int32 × Ob => Ev mmPT tbX3_redirect 3 [some (.ref 61), some (.int v1), some (.int v2), some (.int v3), some (.int a.1), none, none] [] (mh sc rest to fl ma a.2 mk cn nu de ru la tb tf ph cs) x) (kO (fun r : Ob => (none, mh sc rest to fl ma r mk cn nu de ru la tb tf ph cs)) x))) (fun a hk => e_Form_redirect_61_L26b b3 hk) (v6, tr) hk
set_option maxRecDepth 100000 in
theorem e_Form_redirect_61_L3b {v1 : Int32} {v2 : Int32} {v3 : Int32} {v4 : Int32} {x : Option Value × List mmC} (hk : (kK (fun a : Int32 × Ob => mu a.1) (mu v4) (fun a : Int32 × Ob => Ev mmPT tbX3_redirect 3 [some (.ref 61), some (.int v1), some (.int v2), some (.int v3), some (.int a.1), none, none] [] (mh sc rest to fl ma a.2 mk cn nu de ru la tb tf ph cs) x) (kO (fun r : Ob => (none, mh sc rest to fl ma r mk cn nu de ru la tb tf ph cs)) x)) (Form_redirect_L3b tr v1 v2 v3 v4)) : Ev mmPT tbX3_redirect 3 [some (.ref 61), some (.int v1), some (.int v2), some (.int v3), some (.int v4), none, none] [] (mh sc rest to fl ma tr mk cn nu de ru la tb tf ph cs) x := by
  unfold Form_redirect_L3b at hk
  refine Ev.s (ins := .iload 4) (pc' := 5) rfl rfl ?_
  refine q_si 150 rfl rfl ?_
  refine q_cge rfl hk (fun c1 hk => ?_) (fun c1 hk => ?_)
  · refine Ev.s (ins := .aload_n 0) (pc' := 12) rfl rfl ?_
    refine gf_61_4 rfl ?_
    refine Ev.s (ins := .iload 4) (pc' := 17) rfl rfl ?_
    refine at_70 (oat tr 4 150 v4) rfl (Nat.le_of_ble_eq_true rfl) rfl ?_
    refine Ev.s (ins := .istore 5) (pc' := 22) (lv' := [some (.ref 61), some (.int v1), some (.int v2), some (.int v3), some (.int v4), some (.int (oat tr 4 150 v4)), none]) rfl rfl ?_
    refine Ev.s (ins := .iload 5) (pc' := 24) rfl rfl ?_
    refine Ev.s (ins := .istore 6) (pc' := 26) (lv' := [some (.ref 61), some (.int v1), some (.int v2), some (.int v3), some (.int v4), some (.int (oat tr 4 150 v4)), some (.int (oat tr 4 150 v4))]) rfl rfl ?_
    exact e_Form_redirect_61_L26 (lt31 c1) hk
  · replace hk := kK_r hk
    exact Ev.vret rfl rfl hk
set_option maxRecDepth 100000 in
theorem e_Form_redirect_61_L3 {v1 : Int32} {v2 : Int32} {v3 : Int32} {v4 : Int32} {x : Option Value × List mmC} (hk : (kO (fun r : Ob => (none, mh sc rest to fl ma r mk cn nu de ru la tb tf ph cs)) x) (Form_redirect_L3 tr v1 v2 v3 v4)) : Ev mmPT tbX3_redirect 3 [some (.ref 61), some (.int v1), some (.int v2), some (.int v3), some (.int v4), none, none] [] (mh sc rest to fl ma tr mk cn nu de ru la tb tf ph cs) x :=
  k_loop (B := (fun a : Int32 × Ob => Form_redirect_L3b a.2 v1 v2 v3 a.1)) (μ := fun a : Int32 × Ob => mu a.1) (E := fun a : Int32 × Ob => Ev mmPT tbX3_redirect 3 [some (.ref 61), some (.int v1), some (.int v2), some (.int v3), some (.int a.1), none, none] [] (mh sc rest to fl ma a.2 mk cn nu de ru la tb tf ph cs) x) (X := (kO (fun r : Ob => (none, mh sc rest to fl ma r mk cn nu de ru la tb tf ph cs)) x)) (fun a hk => e_Form_redirect_61_L3b hk) (v4, tr) hk
set_option maxRecDepth 100000 in
theorem e_Form_redirect_61_0 {v1 : Int32} {v2 : Int32} {v3 : Int32} {x : Option Value × List mmC} (hk : (kO (fun r : Ob => (none, mh sc rest to fl ma r mk cn nu de ru la tb tf ph cs)) x) (Form_redirect tr v1 v2 v3)) : Ev mmPT tbX3_redirect 0 [some (.ref 61), some (.int v1), some (.int v2), some (.int v3), none, none, none] [] (mh sc rest to fl ma tr mk cn nu de ru la tb tf ph cs) x := by
  unfold Form_redirect at hk
  refine q_ic 0 rfl rfl ?_
  refine Ev.s (ins := .istore 4) (pc' := 3) (lv' := [some (.ref 61), some (.int v1), some (.int v2), some (.int v3), some (.int 0), none, none]) rfl rfl ?_
  exact e_Form_redirect_61_L3 hk
set_option maxRecDepth 100000 in
theorem e_Form_redirect_61 {v1 : Int32} {v2 : Int32} {v3 : Int32} : Ev mmPT tbX3_redirect 0 [some (.ref 61), some (.int v1), some (.int v2), some (.int v3), none, none, none] [] (mh sc rest to fl ma tr mk cn nu de ru la tb tf ph cs) ((fun r : Ob => (none, mh sc rest to fl ma r mk cn nu de ru la tb tf ph cs)) (Form_redirect tr v1 v2 v3)) := e_Form_redirect_61_0 (by exact rfl)
set_option maxRecDepth 100000 in
theorem e_Form_replace_61_0 {v1 : Int32} {v2 : Int32} {v3 : Int32} {x : Option Value × List mmC} (hk : (kO (fun r : Ob => (none, mh sc rest to fl ma r mk cn nu de ru la tb tf ph cs)) x) (Form_replace tr v1 v2 v3)) : Ev mmPT tbX3_replace 0 [some (.ref 61), some (.int v1), some (.int v2), some (.int v3)] [] (mh sc rest to fl ma tr mk cn nu de ru la tb tf ph cs) x := by
  unfold Form_replace at hk
  refine Ev.s (ins := .aload_n 0) (pc' := 1) rfl rfl ?_
  refine Ev.s (ins := .iload_n 1) (pc' := 2) rfl rfl ?_
  refine Ev.s (ins := .iload_n 2) (pc' := 3) rfl rfl ?_
  refine Ev.s (ins := .iload_n 3) (pc' := 4) rfl rfl ?_
  refine kc_X3_redirect_0 rfl oi_61 rfl (Nat.le_of_ble_eq_true rfl) (e_Form_redirect_61) ?_
  refine Ev.s (ins := .aload_n 0) (pc' := 8) rfl rfl ?_
  refine Ev.s (ins := .iload_n 1) (pc' := 9) rfl rfl ?_
  refine kc_X3_lose_0 rfl oi_61 rfl (Nat.le_of_ble_eq_true rfl) (e_Form_lose_61) ?_
  exact Ev.vret rfl rfl hk
set_option maxRecDepth 100000 in
theorem e_Form_replace_61 {v1 : Int32} {v2 : Int32} {v3 : Int32} : Ev mmPT tbX3_replace 0 [some (.ref 61), some (.int v1), some (.int v2), some (.int v3)] [] (mh sc rest to fl ma tr mk cn nu de ru la tb tf ph cs) ((fun r : Ob => (none, mh sc rest to fl ma r mk cn nu de ru la tb tf ph cs)) (Form_replace tr v1 v2 v3)) := e_Form_replace_61_0 (by exact rfl)
set_option maxRecDepth 100000 in
theorem e_Constants_replaceNumbers_95_61_76 {v2 : Int32} {x : Option Value × List mmC} (b2 : v2 < 2147483647) (hk : (kK (fun a : Int32 × Ob => mu a.1) (mu v2) (fun a : Int32 × Ob => Ev mmPT tbX0_replaceNumbers 2 [some (.ref 95), some (.ref 61), some (.int a.1)] [] (mh sc rest to fl ma a.2 mk cn nu de ru la tb tf ph cs) x) (kO (fun r : Ob => (none, mh sc rest to fl ma r mk cn nu de ru la tb tf ph cs)) x)) (Constants_replaceNumbers_76 tr cn v2)) : Ev mmPT tbX0_replaceNumbers 76 [some (.ref 95), some (.ref 61), some (.int v2)] [] (mh sc rest to fl ma tr mk cn nu de ru la tb tf ph cs) x := by
  unfold Constants_replaceNumbers_76 at hk
  refine q_inc 1 [some (.ref 95), some (.ref 61), some (.int (v2 + 1))] rfl rfl rfl rfl ?_
  refine Ev.goto rfl ?_
  replace hk := kK_l hk
  exact hk (mu_lt b2)
set_option maxRecDepth 100000 in
theorem e_Constants_replaceNumbers_95_61_51 {v2 : Int32} {x : Option Value × List mmC} (b2 : v2 < 2147483647) (hk : (kK (fun a : Int32 × Ob => mu a.1) (mu v2) (fun a : Int32 × Ob => Ev mmPT tbX0_replaceNumbers 2 [some (.ref 95), some (.ref 61), some (.int a.1)] [] (mh sc rest to fl ma a.2 mk cn nu de ru la tb tf ph cs) x) (kO (fun r : Ob => (none, mh sc rest to fl ma r mk cn nu de ru la tb tf ph cs)) x)) (Constants_replaceNumbers_51 tr cn v2)) : Ev mmPT tbX0_replaceNumbers 51 [some (.ref 95), some (.ref 61), some (.int v2)] [] (mh sc rest to fl ma tr mk cn nu de ru la tb tf ph cs) x := by
  unfold Constants_replaceNumbers_51 at hk
  refine Ev.s (ins := .aload_n 0) (pc' := 52) rfl rfl ?_
  refine gf_95_0 rfl ?_
  refine Ev.s (ins := .iload_n 2) (pc' := 56) rfl rfl ?_
  refine at_96 (oat cn 0 140 v2) rfl (Nat.le_of_ble_eq_true rfl) rfl ?_
  refine q_ic 1 rfl rfl ?_
  refine q_cne rfl hk (fun c1 hk => ?_) (fun c1 hk => ?_)
  · refine Ev.s (ins := .iload_n 2) (pc' := 64) rfl rfl ?_
    refine q_bi 6 rfl rfl ?_
    refine q_cge rfl hk (fun c2 hk => ?_) (fun c2 hk => ?_)
    · refine Ev.s (ins := .aload_n 1) (pc' := 70) rfl rfl ?_
      refine Ev.s (ins := .iload_n 2) (pc' := 71) rfl rfl ?_
      refine q_ic (-1) rfl rfl ?_
      refine q_ic 0 rfl rfl ?_
      refine kc_X3_redirect_0 rfl oi_61 rfl (Nat.le_of_ble_eq_true rfl) (e_Form_redirect_61) ?_
      exact e_Constants_replaceNumbers_95_61_76 b2 hk
    · exact e_Constants_replaceNumbers_95_61_76 b2 hk
  · exact e_Constants_replaceNumbers_95_61_76 b2 hk
set_option maxRecDepth 100000 in
theorem e_Constants_replaceNumbers_95_61_L2b {v2 : Int32} {x : Option Value × List mmC} (hk : (kK (fun a : Int32 × Ob => mu a.1) (mu v2) (fun a : Int32 × Ob => Ev mmPT tbX0_replaceNumbers 2 [some (.ref 95), some (.ref 61), some (.int a.1)] [] (mh sc rest to fl ma a.2 mk cn nu de ru la tb tf ph cs) x) (kO (fun r : Ob => (none, mh sc rest to fl ma r mk cn nu de ru la tb tf ph cs)) x)) (Constants_replaceNumbers_L2b tr cn v2)) : Ev mmPT tbX0_replaceNumbers 2 [some (.ref 95), some (.ref 61), some (.int v2)] [] (mh sc rest to fl ma tr mk cn nu de ru la tb tf ph cs) x := by
  unfold Constants_replaceNumbers_L2b at hk
  refine Ev.s (ins := .iload_n 2) (pc' := 3) rfl rfl ?_
  refine Ev.s (ins := .aload_n 1) (pc' := 4) rfl rfl ?_
  refine gf_61_15 (tr.2.1 2) rfl rfl ?_
  refine q_cge rfl hk (fun c1 hk => ?_) (fun c1 hk => ?_)
  · refine Ev.s (ins := .aload_n 0) (pc' := 11) rfl rfl ?_
    refine gf_95_0 rfl ?_
    refine Ev.s (ins := .iload_n 2) (pc' := 15) rfl rfl ?_
    refine at_96 (oat cn 0 140 v2) rfl (Nat.le_of_ble_eq_true rfl) rfl ?_
    refine q_ic 1 rfl rfl ?_
    refine q_cne rfl hk (fun c2 hk => ?_) (fun c2 hk => ?_)
    · refine Ev.s (ins := .aload_n 1) (pc' := 23) rfl rfl ?_
      refine gf_61_1 rfl ?_
      refine Ev.s (ins := .iload_n 2) (pc' := 27) rfl rfl ?_
      refine at_64 (oat tr 1 140 v2) rfl (Nat.le_of_ble_eq_true rfl) rfl ?_
      refine q_ic (-1) rfl rfl ?_
      refine q_ceq rfl hk (fun c3 hk => ?_) (fun c3 hk => ?_)
      · exact e_Constants_replaceNumbers_95_61_51 (lt31 c1) hk
      · refine Ev.s (ins := .aload_n 1) (pc' := 35) rfl rfl ?_
        refine Ev.s (ins := .iload_n 2) (pc' := 36) rfl rfl ?_
        refine q_ic (-1) rfl rfl ?_
        refine Ev.s (ins := .aload_n 0) (pc' := 38) rfl rfl ?_
        refine gf_95_1 rfl ?_
        refine Ev.s (ins := .iload_n 2) (pc' := 42) rfl rfl ?_
        refine at_98 (oat cn 1 140 v2) rfl (Nat.le_of_ble_eq_true rfl) rfl ?_
        refine kc_X3_replace_0 rfl oi_61 rfl (Nat.le_of_ble_eq_true rfl) (e_Form_replace_61) ?_
        refine Ev.goto rfl ?_
        exact e_Constants_replaceNumbers_95_61_76 (lt31 c1) hk
    · exact e_Constants_replaceNumbers_95_61_51 (lt31 c1) hk
  · replace hk := kK_r hk
    exact Ev.vret rfl rfl hk
set_option maxRecDepth 100000 in
theorem e_Constants_replaceNumbers_95_61_L2 {v2 : Int32} {x : Option Value × List mmC} (hk : (kO (fun r : Ob => (none, mh sc rest to fl ma r mk cn nu de ru la tb tf ph cs)) x) (Constants_replaceNumbers_L2 tr cn v2)) : Ev mmPT tbX0_replaceNumbers 2 [some (.ref 95), some (.ref 61), some (.int v2)] [] (mh sc rest to fl ma tr mk cn nu de ru la tb tf ph cs) x :=
  k_loop (B := (fun a : Int32 × Ob => Constants_replaceNumbers_L2b a.2 cn a.1)) (μ := fun a : Int32 × Ob => mu a.1) (E := fun a : Int32 × Ob => Ev mmPT tbX0_replaceNumbers 2 [some (.ref 95), some (.ref 61), some (.int a.1)] [] (mh sc rest to fl ma a.2 mk cn nu de ru la tb tf ph cs) x) (X := (kO (fun r : Ob => (none, mh sc rest to fl ma r mk cn nu de ru la tb tf ph cs)) x)) (fun a hk => e_Constants_replaceNumbers_95_61_L2b hk) (v2, tr) hk
set_option maxRecDepth 100000 in
theorem e_Constants_replaceNumbers_95_61_0 {x : Option Value × List mmC} (hk : (kO (fun r : Ob => (none, mh sc rest to fl ma r mk cn nu de ru la tb tf ph cs)) x) (Constants_replaceNumbers tr cn)) : Ev mmPT tbX0_replaceNumbers 0 [some (.ref 95), some (.ref 61), none] [] (mh sc rest to fl ma tr mk cn nu de ru la tb tf ph cs) x := by
  unfold Constants_replaceNumbers at hk
  refine q_ic 0 rfl rfl ?_
  refine Ev.s (ins := .istore_n 2) (pc' := 2) (lv' := [some (.ref 95), some (.ref 61), some (.int 0)]) rfl rfl ?_
  exact e_Constants_replaceNumbers_95_61_L2 hk
set_option maxRecDepth 100000 in
theorem e_Constants_replaceNumbers_95_61 : Ev mmPT tbX0_replaceNumbers 0 [some (.ref 95), some (.ref 61), none] [] (mh sc rest to fl ma tr mk cn nu de ru la tb tf ph cs) ((fun r : Ob => (none, mh sc rest to fl ma r mk cn nu de ru la tb tf ph cs)) (Constants_replaceNumbers tr cn)) := e_Constants_replaceNumbers_95_61_0 (by exact rfl)
set_option maxRecDepth 100000 in
theorem e_Constants_goOver_95_61_58 {v2 : Int32} {v3 : Int32} {x : Option Value × List mmC} (b6 : v2 < 2147483647) (b27 : v3 < 2147483647) (hk : (kK (fun a : Int32 × Ob => mu a.1) (mu v3) (fun a : Int32 × Ob => Ev mmPT tbX0_goOver 27 [some (.ref 95), some (.ref 61), some (.int v2), some (.int a.1)] [] (mh sc rest to fl ma tr mk a.2 nu de ru la tb tf ph cs) x) (kK (fun a : Int32 × Ob => mu a.1) (mu v2) (fun a : Int32 × Ob => Ev mmPT tbX0_goOver 6 [some (.ref 95), some (.ref 61), some (.int a.1), none] [] (mh sc rest to fl ma tr mk a.2 nu de ru la tb tf ph cs) x) (kO (fun r : Ob × Ob => (none, mh sc rest to fl ma r.1 mk r.2 nu de ru la tb tf ph cs)) x))) (Constants_goOver_58 tr cn v2 v3)) : Ev mmPT tbX0_goOver 58 [some (.ref 95), some (.ref 61), some (.int v2), some (.int v3)] [] (mh sc rest to fl ma tr mk cn nu de ru la tb tf ph cs) x := by
  unfold Constants_goOver_58 at hk
  refine q_inc 1 [some (.ref 95), some (.ref 61), some (.int v2), some (.int (v3 + 1))] rfl rfl rfl rfl ?_
  refine Ev.goto rfl ?_
  replace hk := kK_l hk
  exact hk (mu_lt b27)
set_option maxRecDepth 100000 in
theorem e_Constants_goOver_95_61_L27b {v2 : Int32} {v3 : Int32} {x : Option Value × List mmC} (b6 : v2 < 2147483647) (hk : (kK (fun a : Int32 × Ob => mu a.1) (mu v3) (fun a : Int32 × Ob => Ev mmPT tbX0_goOver 27 [some (.ref 95), some (.ref 61), some (.int v2), some (.int a.1)] [] (mh sc rest to fl ma tr mk a.2 nu de ru la tb tf ph cs) x) (kK (fun a : Int32 × Ob => mu a.1) (mu v2) (fun a : Int32 × Ob => Ev mmPT tbX0_goOver 6 [some (.ref 95), some (.ref 61), some (.int a.1), none] [] (mh sc rest to fl ma tr mk a.2 nu de ru la tb tf ph cs) x) (kO (fun r : Ob × Ob => (none, mh sc rest to fl ma r.1 mk r.2 nu de ru la tb tf ph cs)) x))) (Constants_goOver_L27b tr cn v2 v3)) : Ev mmPT tbX0_goOver 27 [some (.ref 95), some (.ref 61), some (.int v2), some (.int v3)] [] (mh sc rest to fl ma tr mk cn nu de ru la tb tf ph cs) x := by
  unfold Constants_goOver_L27b at hk
  refine Ev.s (ins := .iload_n 3) (pc' := 28) rfl rfl ?_
  refine Ev.s (ins := .aload_n 1) (pc' := 29) rfl rfl ?_
  refine gf_61_13 (tr.2.1 0) rfl rfl ?_
  refine q_cge rfl hk (fun c1 hk => ?_) (fun c1 hk => ?_)
  · refine Ev.s (ins := .aload_n 0) (pc' := 36) rfl rfl ?_
    refine gf_95_2 (cn.2.1 0) rfl rfl ?_
    refine Ev.s (ins := .iload_n 3) (pc' := 40) rfl rfl ?_
    refine kc_X11_has_3 rfl (Nat.le_of_ble_eq_true rfl) (e_Ph_has) ?_
    refine q_beq rfl hk (fun c2 hk => ?_) (fun c2 hk => ?_)
    · refine Ev.s (ins := .aload_n 0) (pc' := 47) rfl rfl ?_
      refine Ev.s (ins := .aload_n 1) (pc' := 48) rfl rfl ?_
      refine Ev.s (ins := .iload_n 3) (pc' := 49) rfl rfl ?_
      refine kc_X0_visit_0 rfl oi_95 rfl (Nat.le_of_ble_eq_true rfl) (e_Constants_visit_95_61) ?_
      refine Ev.s (ins := .aload_n 0) (pc' := 53) rfl rfl ?_
      refine Ev.s (ins := .aload_n 1) (pc' := 54) rfl rfl ?_
      refine Ev.s (ins := .iload_n 3) (pc' := 55) rfl rfl ?_
      refine kc_X0_goOn_0 rfl oi_95 rfl (Nat.le_of_ble_eq_true rfl) (e_Constants_goOn_95_61) ?_
      exact e_Constants_goOver_95_61_58 b6 (lt31 c1) hk
    · exact e_Constants_goOver_95_61_58 b6 (lt31 c1) hk
  · replace hk := kK_r hk
    refine q_inc 1 [some (.ref 95), some (.ref 61), some (.int (v2 + 1)), some (.int v3)] rfl rfl rfl rfl ?_
    refine Ev.goto rfl ?_
    refine Ev.weak [some (.ref 95), some (.ref 61), some (.int (v2 + 1)), none] ⟨rfl, rfl, rfl, rfl, trivial⟩ ?_
    replace hk := kK_l hk
    exact hk (mu_lt b6)
set_option maxRecDepth 100000 in
theorem e_Constants_goOver_95_61_L27 {v2 : Int32} {v3 : Int32} {x : Option Value × List mmC} (b6 : v2 < 2147483647) (hk : (kK (fun a : Int32 × Ob => mu a.1) (mu v2) (fun a : Int32 × Ob => Ev mmPT tbX0_goOver 6 [some (.ref 95), some (.ref 61), some (.int a.1), none] [] (mh sc rest to fl ma tr mk a.2 nu de ru la tb tf ph cs) x) (kO (fun r : Ob × Ob => (none, mh sc rest to fl ma r.1 mk r.2 nu de ru la tb tf ph cs)) x)) (Constants_goOver_L27 tr cn v2 v3)) : Ev mmPT tbX0_goOver 27 [some (.ref 95), some (.ref 61), some (.int v2), some (.int v3)] [] (mh sc rest to fl ma tr mk cn nu de ru la tb tf ph cs) x :=
  k_loop (B := (fun a : Int32 × Ob => Constants_goOver_L27b tr a.2 v2 a.1)) (μ := fun a : Int32 × Ob => mu a.1) (E := fun a : Int32 × Ob => Ev mmPT tbX0_goOver 27 [some (.ref 95), some (.ref 61), some (.int v2), some (.int a.1)] [] (mh sc rest to fl ma tr mk a.2 nu de ru la tb tf ph cs) x) (X := (kK (fun a : Int32 × Ob => mu a.1) (mu v2) (fun a : Int32 × Ob => Ev mmPT tbX0_goOver 6 [some (.ref 95), some (.ref 61), some (.int a.1), none] [] (mh sc rest to fl ma tr mk a.2 nu de ru la tb tf ph cs) x) (kO (fun r : Ob × Ob => (none, mh sc rest to fl ma r.1 mk r.2 nu de ru la tb tf ph cs)) x))) (fun a hk => e_Constants_goOver_95_61_L27b b6 hk) (v3, cn) hk
set_option maxRecDepth 100000 in
theorem e_Constants_goOver_95_61_70 {x : Option Value × List mmC} (hk : (kO (fun r : Ob × Ob => (none, mh sc rest to fl ma r.1 mk r.2 nu de ru la tb tf ph cs)) x) (Constants_goOver_70 tr cn)) : Ev mmPT tbX0_goOver 70 [some (.ref 95), some (.ref 61), none, none] [] (mh sc rest to fl ma tr mk cn nu de ru la tb tf ph cs) x := by
  unfold Constants_goOver_70 at hk
  refine Ev.s (ins := .aload_n 0) (pc' := 71) rfl rfl ?_
  refine Ev.s (ins := .aload_n 1) (pc' := 72) rfl rfl ?_
  refine kc_X0_cutWays_0 rfl oi_95 rfl (Nat.le_of_ble_eq_true rfl) (e_Constants_cutWays_95_61) ?_
  refine Ev.s (ins := .aload_n 0) (pc' := 76) rfl rfl ?_
  refine Ev.s (ins := .aload_n 1) (pc' := 77) rfl rfl ?_
  refine kc_X0_loseBlocks_0 rfl oi_95 rfl (Nat.le_of_ble_eq_true rfl) (e_Constants_loseBlocks_95_61) ?_
  refine Ev.s (ins := .aload_n 0) (pc' := 81) rfl rfl ?_
  refine Ev.s (ins := .aload_n 1) (pc' := 82) rfl rfl ?_
  refine kc_X0_replaceNumbers_0 rfl oi_95 rfl (Nat.le_of_ble_eq_true rfl) (e_Constants_replaceNumbers_95_61) ?_
  exact Ev.vret rfl rfl hk
set_option maxRecDepth 100000 in
theorem e_Constants_goOver_95_61_L6b {v2 : Int32} {x : Option Value × List mmC} (hk : (kK (fun a : Int32 × Ob => mu a.1) (mu v2) (fun a : Int32 × Ob => Ev mmPT tbX0_goOver 6 [some (.ref 95), some (.ref 61), some (.int a.1), none] [] (mh sc rest to fl ma tr mk a.2 nu de ru la tb tf ph cs) x) (kO (fun r : Ob × Ob => (none, mh sc rest to fl ma r.1 mk r.2 nu de ru la tb tf ph cs)) x)) (Constants_goOver_L6b tr cn v2)) : Ev mmPT tbX0_goOver 6 [some (.ref 95), some (.ref 61), some (.int v2), none] [] (mh sc rest to fl ma tr mk cn nu de ru la tb tf ph cs) x := by
  unfold Constants_goOver_L6b at hk
  refine Ev.s (ins := .aload_n 0) (pc' := 7) rfl rfl ?_
  refine gf_95_4 (cn.2.2 0) rfl rfl ?_
  refine q_beq rfl hk (fun c1 hk => ?_) (fun c1 hk => ?_)
  · refine Ev.s (ins := .iload_n 2) (pc' := 14) rfl rfl ?_
    refine q_si 301 rfl rfl ?_
    refine q_cge rfl hk (fun c2 hk => ?_) (fun c2 hk => ?_)
    · refine Ev.s (ins := .aload_n 0) (pc' := 21) rfl rfl ?_
      refine q_ic 0 rfl rfl ?_
      refine pf_95_4 false rfl ?_
      refine q_ic 0 rfl rfl ?_
      refine Ev.s (ins := .istore_n 3) (pc' := 27) (lv' := [some (.ref 95), some (.ref 61), some (.int v2), some (.int 0)]) rfl rfl ?_
      exact e_Constants_goOver_95_61_L27 (lt31 c2) hk
    · replace hk := kK_r hk
      refine Ev.weak [some (.ref 95), some (.ref 61), none, none] ⟨rfl, rfl, rfl, rfl, trivial⟩ ?_
      exact e_Constants_goOver_95_61_70 hk
  · replace hk := kK_r hk
    refine Ev.weak [some (.ref 95), some (.ref 61), none, none] ⟨rfl, rfl, rfl, rfl, trivial⟩ ?_
    exact e_Constants_goOver_95_61_70 hk
set_option maxRecDepth 100000 in
theorem e_Constants_goOver_95_61_L6 {v2 : Int32} {x : Option Value × List mmC} (hk : (kO (fun r : Ob × Ob => (none, mh sc rest to fl ma r.1 mk r.2 nu de ru la tb tf ph cs)) x) (Constants_goOver_L6 tr cn v2)) : Ev mmPT tbX0_goOver 6 [some (.ref 95), some (.ref 61), some (.int v2), none] [] (mh sc rest to fl ma tr mk cn nu de ru la tb tf ph cs) x :=
  k_loop (B := (fun a : Int32 × Ob => Constants_goOver_L6b tr a.2 a.1)) (μ := fun a : Int32 × Ob => mu a.1) (E := fun a : Int32 × Ob => Ev mmPT tbX0_goOver 6 [some (.ref 95), some (.ref 61), some (.int a.1), none] [] (mh sc rest to fl ma tr mk a.2 nu de ru la tb tf ph cs) x) (X := (kO (fun r : Ob × Ob => (none, mh sc rest to fl ma r.1 mk r.2 nu de ru la tb tf ph cs)) x)) (fun a hk => e_Constants_goOver_95_61_L6b hk) (v2, cn) hk
set_option maxRecDepth 100000 in
theorem e_Constants_goOver_95_61_0 {x : Option Value × List mmC} (hk : (kO (fun r : Ob × Ob => (none, mh sc rest to fl ma r.1 mk r.2 nu de ru la tb tf ph cs)) x) (Constants_goOver tr cn)) : Ev mmPT tbX0_goOver 0 [some (.ref 95), some (.ref 61), none, none] [] (mh sc rest to fl ma tr mk cn nu de ru la tb tf ph cs) x := by
  unfold Constants_goOver at hk
  refine Ev.s (ins := .aload_n 0) (pc' := 1) rfl rfl ?_
  refine kc_X0_begin_0 rfl oi_95 rfl (Nat.le_of_ble_eq_true rfl) (e_Constants_begin_95) ?_
  refine q_ic 0 rfl rfl ?_
  refine Ev.s (ins := .istore_n 2) (pc' := 6) (lv' := [some (.ref 95), some (.ref 61), some (.int 0), none]) rfl rfl ?_
  exact e_Constants_goOver_95_61_L6 hk
set_option maxRecDepth 100000 in
theorem e_Constants_goOver_95_61 : Ev mmPT tbX0_goOver 0 [some (.ref 95), some (.ref 61), none, none] [] (mh sc rest to fl ma tr mk cn nu de ru la tb tf ph cs) ((fun r : Ob × Ob => (none, mh sc rest to fl ma r.1 mk r.2 nu de ru la tb tf ph cs)) (Constants_goOver tr cn)) := e_Constants_goOver_95_61_0 (by exact rfl)
set_option maxRecDepth 100000 in
theorem e_Numbers_readEdges_100_61_L19b {v2 : Int32} {v3 : Int32} {x : Option Value × List mmC} (b9 : v2 < 2147483647) (hk : (kK (fun a : Int32 × Ob => mu a.1) (mu v3) (fun a : Int32 × Ob => Ev mmPT tbX6_readEdges 19 [some (.ref 100), some (.ref 61), some (.int v2), some (.int a.1)] [] (mh sc rest to fl ma tr mk cn a.2 de ru la tb tf ph cs) x) (kK (fun a : Int32 × Ob => mu a.1) (mu v2) (fun a : Int32 × Ob => Ev mmPT tbX6_readEdges 9 [some (.ref 100), some (.ref 61), some (.int a.1), none] [] (mh sc rest to fl ma tr mk cn a.2 de ru la tb tf ph cs) x) (kO (fun r : Ob => (none, mh sc rest to fl ma tr mk cn r de ru la tb tf ph cs)) x))) (Numbers_readEdges_L19b tr nu v2 v3)) : Ev mmPT tbX6_readEdges 19 [some (.ref 100), some (.ref 61), some (.int v2), some (.int v3)] [] (mh sc rest to fl ma tr mk cn nu de ru la tb tf ph cs) x := by
  unfold Numbers_readEdges_L19b at hk
  refine Ev.s (ins := .iload_n 3) (pc' := 20) rfl rfl ?_
  refine Ev.s (ins := .aload_n 1) (pc' := 21) rfl rfl ?_
  refine gf_61_9 rfl ?_
  refine Ev.s (ins := .iload_n 2) (pc' := 25) rfl rfl ?_
  refine at_80 (oat tr 9 10 v2) rfl (Nat.le_of_ble_eq_true rfl) rfl ?_
  refine q_cge rfl hk (fun c1 hk => ?_) (fun c1 hk => ?_)
  · refine Ev.s (ins := .aload_n 0) (pc' := 32) rfl rfl ?_
    refine gf_100_0 rfl ?_
    refine Ev.s (ins := .aload_n 1) (pc' := 36) rfl rfl ?_
    refine Ev.s (ins := .iload_n 2) (pc' := 37) rfl rfl ?_
    refine Ev.s (ins := .iload_n 3) (pc' := 38) rfl rfl ?_
    refine kc_X3_wayTo_0 rfl oi_61 rfl (Nat.le_of_ble_eq_true rfl) (e_Form_wayTo_61) ?_
    refine kc_X11_fromOf_3 rfl (Nat.le_of_ble_eq_true rfl) (e_Ph_fromOf) ?_
    refine Ev.s (ins := .iload_n 2) (pc' := 45) rfl rfl ?_
    refine kc_X2_lead_0 rfl oi_101 rfl (Nat.le_of_ble_eq_true rfl) (e_Flow_lead_101) ?_
    refine q_inc 1 [some (.ref 100), some (.ref 61), some (.int v2), some (.int (v3 + 1))] rfl rfl rfl rfl ?_
    refine Ev.goto rfl ?_
    replace hk := kK_l hk
    exact hk (mu_lt (lt31 c1))
  · replace hk := kK_r hk
    refine q_inc 1 [some (.ref 100), some (.ref 61), some (.int (v2 + 1)), some (.int v3)] rfl rfl rfl rfl ?_
    refine Ev.goto rfl ?_
    refine Ev.weak [some (.ref 100), some (.ref 61), some (.int (v2 + 1)), none] ⟨rfl, rfl, rfl, rfl, trivial⟩ ?_
    replace hk := kK_l hk
    exact hk (mu_lt b9)
set_option maxRecDepth 100000 in
theorem e_Numbers_readEdges_100_61_L19 {v2 : Int32} {v3 : Int32} {x : Option Value × List mmC} (b9 : v2 < 2147483647) (hk : (kK (fun a : Int32 × Ob => mu a.1) (mu v2) (fun a : Int32 × Ob => Ev mmPT tbX6_readEdges 9 [some (.ref 100), some (.ref 61), some (.int a.1), none] [] (mh sc rest to fl ma tr mk cn a.2 de ru la tb tf ph cs) x) (kO (fun r : Ob => (none, mh sc rest to fl ma tr mk cn r de ru la tb tf ph cs)) x)) (Numbers_readEdges_L19 tr nu v2 v3)) : Ev mmPT tbX6_readEdges 19 [some (.ref 100), some (.ref 61), some (.int v2), some (.int v3)] [] (mh sc rest to fl ma tr mk cn nu de ru la tb tf ph cs) x :=
  k_loop (B := (fun a : Int32 × Ob => Numbers_readEdges_L19b tr a.2 v2 a.1)) (μ := fun a : Int32 × Ob => mu a.1) (E := fun a : Int32 × Ob => Ev mmPT tbX6_readEdges 19 [some (.ref 100), some (.ref 61), some (.int v2), some (.int a.1)] [] (mh sc rest to fl ma tr mk cn a.2 de ru la tb tf ph cs) x) (X := (kK (fun a : Int32 × Ob => mu a.1) (mu v2) (fun a : Int32 × Ob => Ev mmPT tbX6_readEdges 9 [some (.ref 100), some (.ref 61), some (.int a.1), none] [] (mh sc rest to fl ma tr mk cn a.2 de ru la tb tf ph cs) x) (kO (fun r : Ob => (none, mh sc rest to fl ma tr mk cn r de ru la tb tf ph cs)) x))) (fun a hk => e_Numbers_readEdges_100_61_L19b b9 hk) (v3, nu) hk
set_option maxRecDepth 100000 in
theorem e_Numbers_readEdges_100_61_L9b {v2 : Int32} {x : Option Value × List mmC} (hk : (kK (fun a : Int32 × Ob => mu a.1) (mu v2) (fun a : Int32 × Ob => Ev mmPT tbX6_readEdges 9 [some (.ref 100), some (.ref 61), some (.int a.1), none] [] (mh sc rest to fl ma tr mk cn a.2 de ru la tb tf ph cs) x) (kO (fun r : Ob => (none, mh sc rest to fl ma tr mk cn r de ru la tb tf ph cs)) x)) (Numbers_readEdges_L9b tr nu v2)) : Ev mmPT tbX6_readEdges 9 [some (.ref 100), some (.ref 61), some (.int v2), none] [] (mh sc rest to fl ma tr mk cn nu de ru la tb tf ph cs) x := by
  unfold Numbers_readEdges_L9b at hk
  refine Ev.s (ins := .iload_n 2) (pc' := 10) rfl rfl ?_
  refine Ev.s (ins := .aload_n 1) (pc' := 11) rfl rfl ?_
  refine gf_61_13 (tr.2.1 0) rfl rfl ?_
  refine q_cge rfl hk (fun c1 hk => ?_) (fun c1 hk => ?_)
  · refine q_ic 0 rfl rfl ?_
    refine Ev.s (ins := .istore_n 3) (pc' := 19) (lv' := [some (.ref 100), some (.ref 61), some (.int v2), some (.int 0)]) rfl rfl ?_
    exact e_Numbers_readEdges_100_61_L19 (lt31 c1) hk
  · replace hk := kK_r hk
    exact Ev.vret rfl rfl hk
set_option maxRecDepth 100000 in
theorem e_Numbers_readEdges_100_61_L9 {v2 : Int32} {x : Option Value × List mmC} (hk : (kO (fun r : Ob => (none, mh sc rest to fl ma tr mk cn r de ru la tb tf ph cs)) x) (Numbers_readEdges_L9 tr nu v2)) : Ev mmPT tbX6_readEdges 9 [some (.ref 100), some (.ref 61), some (.int v2), none] [] (mh sc rest to fl ma tr mk cn nu de ru la tb tf ph cs) x :=
  k_loop (B := (fun a : Int32 × Ob => Numbers_readEdges_L9b tr a.2 a.1)) (μ := fun a : Int32 × Ob => mu a.1) (E := fun a : Int32 × Ob => Ev mmPT tbX6_readEdges 9 [some (.ref 100), some (.ref 61), some (.int a.1), none] [] (mh sc rest to fl ma tr mk cn a.2 de ru la tb tf ph cs) x) (X := (kO (fun r : Ob => (none, mh sc rest to fl ma tr mk cn r de ru la tb tf ph cs)) x)) (fun a hk => e_Numbers_readEdges_100_61_L9b hk) (v2, nu) hk
set_option maxRecDepth 100000 in
theorem e_Numbers_readEdges_100_61_0 {x : Option Value × List mmC} (hk : (kO (fun r : Ob => (none, mh sc rest to fl ma tr mk cn r de ru la tb tf ph cs)) x) (Numbers_readEdges tr nu)) : Ev mmPT tbX6_readEdges 0 [some (.ref 100), some (.ref 61), none, none] [] (mh sc rest to fl ma tr mk cn nu de ru la tb tf ph cs) x := by
  unfold Numbers_readEdges at hk
  refine Ev.s (ins := .aload_n 0) (pc' := 1) rfl rfl ?_
  refine gf_100_0 rfl ?_
  refine kc_X2_forget_0 rfl oi_101 rfl (Nat.le_of_ble_eq_true rfl) (e_Flow_forget_101) ?_
  refine q_ic 0 rfl rfl ?_
  refine Ev.s (ins := .istore_n 2) (pc' := 9) (lv' := [some (.ref 100), some (.ref 61), some (.int 0), none]) rfl rfl ?_
  exact e_Numbers_readEdges_100_61_L9 hk
set_option maxRecDepth 100000 in
theorem e_Numbers_readEdges_100_61 : Ev mmPT tbX6_readEdges 0 [some (.ref 100), some (.ref 61), none, none] [] (mh sc rest to fl ma tr mk cn nu de ru la tb tf ph cs) ((fun r : Ob => (none, mh sc rest to fl ma tr mk cn r de ru la tb tf ph cs)) (Numbers_readEdges tr nu)) := e_Numbers_readEdges_100_61_0 (by exact rfl)
set_option maxRecDepth 100000 in
theorem e_Form_soleArgument_61_101 {v1 : Int32} {v2 : Int32} {v3 : Int32} {v4 : Int32} {x : Option Value × List mmC} (b14 : v4 < 2147483647) (hk : (kK (fun a : Int32 × Int32 => mu a.2) (mu v4) (fun a : Int32 × Int32 => Ev mmPT tbX3_soleArgument 14 [some (.ref 61), some (.int v1), some (.int v2), some (.int a.1), some (.int a.2), none] [] (mh sc rest to fl ma tr mk cn nu de ru la tb tf ph cs) x) (kO (fun r : Int32 => (some (.int r), mh sc rest to fl ma tr mk cn nu de ru la tb tf ph cs)) x)) (Form_soleArgument_101 tr v1 v2 v3 v4)) : Ev mmPT tbX3_soleArgument 101 [some (.ref 61), some (.int v1), some (.int v2), some (.int v3), some (.int v4), none] [] (mh sc rest to fl ma tr mk cn nu de ru la tb tf ph cs) x := by
  unfold Form_soleArgument_101 at hk
  refine q_inc 1 [some (.ref 61), some (.int v1), some (.int v2), some (.int v3), some (.int (v4 + 1)), none] rfl rfl rfl rfl ?_
  refine Ev.goto rfl ?_
  replace hk := kK_l hk
  exact hk (mu_lt b14)
set_option maxRecDepth 100000 in
theorem e_Form_soleArgument_61_99 {x : Option Value × List mmC} (hk : (kO (fun r : Int32 => (some (.int r), mh sc rest to fl ma tr mk cn nu de ru la tb tf ph cs)) x) (Form_soleArgument_99 tr)) : Ev mmPT tbX3_soleArgument 99 [none, none, none, none, none, none] [] (mh sc rest to fl ma tr mk cn nu de ru la tb tf ph cs) x := by
  unfold Form_soleArgument_99 at hk
  refine q_ic (-1) rfl rfl ?_
  exact Ev.iret rfl rfl hk
set_option maxRecDepth 100000 in
theorem e_Form_soleArgument_61_L14b {v1 : Int32} {v2 : Int32} {v3 : Int32} {v4 : Int32} {x : Option Value × List mmC} (hk : (kK (fun a : Int32 × Int32 => mu a.2) (mu v4) (fun a : Int32 × Int32 => Ev mmPT tbX3_soleArgument 14 [some (.ref 61), some (.int v1), some (.int v2), some (.int a.1), some (.int a.2), none] [] (mh sc rest to fl ma tr mk cn nu de ru la tb tf ph cs) x) (kO (fun r : Int32 => (some (.int r), mh sc rest to fl ma tr mk cn nu de ru la tb tf ph cs)) x)) (Form_soleArgument_L14b tr v1 v2 v3 v4)) : Ev mmPT tbX3_soleArgument 14 [some (.ref 61), some (.int v1), some (.int v2), some (.int v3), some (.int v4), none] [] (mh sc rest to fl ma tr mk cn nu de ru la tb tf ph cs) x := by
  unfold Form_soleArgument_L14b at hk
  refine Ev.s (ins := .iload 4) (pc' := 16) rfl rfl ?_
  refine Ev.s (ins := .aload_n 0) (pc' := 17) rfl rfl ?_
  refine gf_61_3 rfl ?_
  refine Ev.s (ins := .iload_n 1) (pc' := 21) rfl rfl ?_
  refine at_68 (oat tr 3 150 v1) rfl (Nat.le_of_ble_eq_true rfl) rfl ?_
  refine q_cge rfl hk (fun c1 hk => ?_) (fun c1 hk => ?_)
  · refine Ev.s (ins := .aload_n 0) (pc' := 28) rfl rfl ?_
    refine gf_61_5 rfl ?_
    refine Ev.s (ins := .iload_n 2) (pc' := 32) rfl rfl ?_
    refine Ev.s (ins := .iload 4) (pc' := 34) rfl rfl ?_
    refine Ev.s (ins := .iadd) (pc' := 35) rfl rfl ?_
    refine at_72 (oat tr 5 290 (v2 + v4)) rfl (Nat.le_of_ble_eq_true rfl) rfl ?_
    refine Ev.s (ins := .istore 5) (pc' := 40) (lv' := [some (.ref 61), some (.int v1), some (.int v2), some (.int v3), some (.int v4), some (.int (oat tr 5 290 (v2 + v4)))]) rfl rfl ?_
    refine Ev.s (ins := .iload 5) (pc' := 42) rfl rfl ?_
    refine Ev.s (ins := .iload_n 1) (pc' := 43) rfl rfl ?_
    refine q_cne rfl hk (fun c2 hk => ?_) (fun c2 hk => ?_)
    · refine Ev.goto rfl ?_
      refine Ev.weak [some (.ref 61), some (.int v1), some (.int v2), some (.int v3), some (.int v4), none] ⟨rfl, rfl, rfl, rfl, rfl, rfl, trivial⟩ ?_
      exact e_Form_soleArgument_61_101 (lt31 c1) hk
    · refine Ev.s (ins := .iload_n 3) (pc' := 50) rfl rfl ?_
      refine q_ic (-1) rfl rfl ?_
      refine q_cne rfl hk (fun c3 hk => ?_) (fun c3 hk => ?_)
      · refine Ev.s (ins := .iload 4) (pc' := 56) rfl rfl ?_
        refine Ev.s (ins := .istore_n 3) (pc' := 57) (lv' := [some (.ref 61), some (.int v1), some (.int v2), some (.int v4), some (.int v4), some (.int (oat tr 5 290 (v2 + v4)))]) rfl rfl ?_
        refine Ev.goto rfl ?_
        refine Ev.weak [some (.ref 61), some (.int v1), some (.int v2), some (.int v4), some (.int v4), none] ⟨rfl, rfl, rfl, rfl, rfl, rfl, trivial⟩ ?_
        exact e_Form_soleArgument_61_101 (lt31 c1) hk
      · refine Ev.s (ins := .iload 5) (pc' := 62) rfl rfl ?_
        refine Ev.s (ins := .aload_n 0) (pc' := 63) rfl rfl ?_
        refine gf_61_5 rfl ?_
        refine Ev.s (ins := .iload_n 2) (pc' := 67) rfl rfl ?_
        refine Ev.s (ins := .iload_n 3) (pc' := 68) rfl rfl ?_
        refine Ev.s (ins := .iadd) (pc' := 69) rfl rfl ?_
        refine at_72 (oat tr 5 290 (v2 + v3)) rfl (Nat.le_of_ble_eq_true rfl) rfl ?_
        refine q_cne rfl hk (fun c4 hk => ?_) (fun c4 hk => ?_)
        · refine Ev.s (ins := .aload_n 0) (pc' := 76) rfl rfl ?_
          refine gf_61_6 rfl ?_
          refine Ev.s (ins := .iload_n 2) (pc' := 80) rfl rfl ?_
          refine Ev.s (ins := .iload 4) (pc' := 82) rfl rfl ?_
          refine Ev.s (ins := .iadd) (pc' := 83) rfl rfl ?_
          refine at_74 (oat tr 6 290 (v2 + v4)) rfl (Nat.le_of_ble_eq_true rfl) rfl ?_
          refine Ev.s (ins := .aload_n 0) (pc' := 87) rfl rfl ?_
          refine gf_61_6 rfl ?_
          refine Ev.s (ins := .iload_n 2) (pc' := 91) rfl rfl ?_
          refine Ev.s (ins := .iload_n 3) (pc' := 92) rfl rfl ?_
          refine Ev.s (ins := .iadd) (pc' := 93) rfl rfl ?_
          refine at_74 (oat tr 6 290 (v2 + v3)) rfl (Nat.le_of_ble_eq_true rfl) rfl ?_
          refine q_ceq rfl hk (fun c5 hk => ?_) (fun c5 hk => ?_)
          · refine Ev.weak [some (.ref 61), some (.int v1), some (.int v2), some (.int v3), some (.int v4), none] ⟨rfl, rfl, rfl, rfl, rfl, rfl, trivial⟩ ?_
            exact e_Form_soleArgument_61_101 (lt31 c1) hk
          · replace hk := kK_r hk
            refine Ev.weak [none, none, none, none, none, none] ⟨rfl, rfl, rfl, rfl, rfl, rfl, trivial⟩ ?_
            exact e_Form_soleArgument_61_99 hk
        · replace hk := kK_r hk
          refine Ev.weak [none, none, none, none, none, none] ⟨rfl, rfl, rfl, rfl, rfl, rfl, trivial⟩ ?_
          exact e_Form_soleArgument_61_99 hk
  · replace hk := kK_r hk
    refine Ev.s (ins := .iload_n 3) (pc' := 108) rfl rfl ?_
    exact Ev.iret rfl rfl hk
set_option maxRecDepth 100000 in
theorem e_Form_soleArgument_61_L14 {v1 : Int32} {v2 : Int32} {v3 : Int32} {v4 : Int32} {x : Option Value × List mmC} (hk : (kO (fun r : Int32 => (some (.int r), mh sc rest to fl ma tr mk cn nu de ru la tb tf ph cs)) x) (Form_soleArgument_L14 tr v1 v2 v3 v4)) : Ev mmPT tbX3_soleArgument 14 [some (.ref 61), some (.int v1), some (.int v2), some (.int v3), some (.int v4), none] [] (mh sc rest to fl ma tr mk cn nu de ru la tb tf ph cs) x :=
  k_loop (B := (fun a : Int32 × Int32 => Form_soleArgument_L14b tr v1 v2 a.1 a.2)) (μ := fun a : Int32 × Int32 => mu a.2) (E := fun a : Int32 × Int32 => Ev mmPT tbX3_soleArgument 14 [some (.ref 61), some (.int v1), some (.int v2), some (.int a.1), some (.int a.2), none] [] (mh sc rest to fl ma tr mk cn nu de ru la tb tf ph cs) x) (X := (kO (fun r : Int32 => (some (.int r), mh sc rest to fl ma tr mk cn nu de ru la tb tf ph cs)) x)) (fun a hk => e_Form_soleArgument_61_L14b hk) (v3, v4) hk
set_option maxRecDepth 100000 in
theorem e_Form_soleArgument_61_0 {v1 : Int32} {x : Option Value × List mmC} (hk : (kO (fun r : Int32 => (some (.int r), mh sc rest to fl ma tr mk cn nu de ru la tb tf ph cs)) x) (Form_soleArgument tr v1)) : Ev mmPT tbX3_soleArgument 0 [some (.ref 61), some (.int v1), none, none, none, none] [] (mh sc rest to fl ma tr mk cn nu de ru la tb tf ph cs) x := by
  unfold Form_soleArgument at hk
  refine Ev.s (ins := .aload_n 0) (pc' := 1) rfl rfl ?_
  refine gf_61_4 rfl ?_
  refine Ev.s (ins := .iload_n 1) (pc' := 5) rfl rfl ?_
  refine at_70 (oat tr 4 150 v1) rfl (Nat.le_of_ble_eq_true rfl) rfl ?_
  refine Ev.s (ins := .istore_n 2) (pc' := 9) (lv' := [some (.ref 61), some (.int v1), some (.int (oat tr 4 150 v1)), none, none, none]) rfl rfl ?_
  refine q_ic (-1) rfl rfl ?_
  refine Ev.s (ins := .istore_n 3) (pc' := 11) (lv' := [some (.ref 61), some (.int v1), some (.int (oat tr 4 150 v1)), some (.int (-1)), none, none]) rfl rfl ?_
  refine q_ic 0 rfl rfl ?_
  refine Ev.s (ins := .istore 4) (pc' := 14) (lv' := [some (.ref 61), some (.int v1), some (.int (oat tr 4 150 v1)), some (.int (-1)), some (.int 0), none]) rfl rfl ?_
  exact e_Form_soleArgument_61_L14 hk
set_option maxRecDepth 100000 in
theorem e_Form_soleArgument_61 {v1 : Int32} : Ev mmPT tbX3_soleArgument 0 [some (.ref 61), some (.int v1), none, none, none, none] [] (mh sc rest to fl ma tr mk cn nu de ru la tb tf ph cs) ((fun r : Int32 => (some (.int r), mh sc rest to fl ma tr mk cn nu de ru la tb tf ph cs)) (Form_soleArgument tr v1)) := e_Form_soleArgument_61_0 (by exact rfl)
set_option maxRecDepth 100000 in
theorem e_Numbers_isStill_61_28 {x : Option Value × List mmC} (hk : (kO (fun r : Bool => (some (.int (b2i r)), mh sc rest to fl ma tr mk cn nu de ru la tb tf ph cs)) x) (Numbers_isStill_28 tr)) : Ev mmPT tbX6_isStill 28 [none, none, none, none] [] (mh sc rest to fl ma tr mk cn nu de ru la tb tf ph cs) x := by
  unfold Numbers_isStill_28 at hk
  refine q_ic 0 rfl rfl ?_
  exact Ev.zret rfl rfl (Or.inl rfl) hk
set_option maxRecDepth 100000 in
theorem e_Numbers_isStill_61_0 {v1 : Int32} {v2 : Int32} {v3 : Int32} {x : Option Value × List mmC} (hk : (kO (fun r : Bool => (some (.int (b2i r)), mh sc rest to fl ma tr mk cn nu de ru la tb tf ph cs)) x) (Numbers_isStill tr v1 v2 v3)) : Ev mmPT tbX6_isStill 0 [some (.ref 61), some (.int v1), some (.int v2), some (.int v3)] [] (mh sc rest to fl ma tr mk cn nu de ru la tb tf ph cs) x := by
  unfold Numbers_isStill at hk
  refine Ev.s (ins := .aload_n 0) (pc' := 1) rfl rfl ?_
  refine gf_61_0 rfl ?_
  refine Ev.s (ins := .iload_n 1) (pc' := 5) rfl rfl ?_
  refine at_62 (oat tr 0 140 v1) rfl (Nat.le_of_ble_eq_true rfl) rfl ?_
  refine Ev.s (ins := .iload_n 2) (pc' := 9) rfl rfl ?_
  refine q_cne rfl hk (fun c1 hk => ?_) (fun c1 hk => ?_)
  · refine Ev.s (ins := .aload_n 0) (pc' := 13) rfl rfl ?_
    refine gf_61_1 rfl ?_
    refine Ev.s (ins := .iload_n 1) (pc' := 17) rfl rfl ?_
    refine at_64 (oat tr 1 140 v1) rfl (Nat.le_of_ble_eq_true rfl) rfl ?_
    refine Ev.s (ins := .iload_n 3) (pc' := 21) rfl rfl ?_
    refine q_cne rfl hk (fun c2 hk => ?_) (fun c2 hk => ?_)
    · refine q_ic 1 rfl rfl ?_
      refine Ev.goto rfl ?_
      exact Ev.zret rfl rfl (Or.inr rfl) hk
    · refine Ev.weak [none, none, none, none] ⟨rfl, rfl, rfl, rfl, trivial⟩ ?_
      exact e_Numbers_isStill_61_28 hk
  · refine Ev.weak [none, none, none, none] ⟨rfl, rfl, rfl, rfl, trivial⟩ ?_
    exact e_Numbers_isStill_61_28 hk
set_option maxRecDepth 100000 in
theorem e_Numbers_isStill_61 {v1 : Int32} {v2 : Int32} {v3 : Int32} : Ev mmPT tbX6_isStill 0 [some (.ref 61), some (.int v1), some (.int v2), some (.int v3)] [] (mh sc rest to fl ma tr mk cn nu de ru la tb tf ph cs) ((fun r : Bool => (some (.int (b2i r)), mh sc rest to fl ma tr mk cn nu de ru la tb tf ph cs)) (Numbers_isStill tr v1 v2 v3)) := e_Numbers_isStill_61_0 (by exact rfl)
set_option maxRecDepth 100000 in
theorem e_Form_hasSameArguments_61_121 {v3 : Int32} {v4 : Int32} {v5 : Int32} {v7 : Int32} {w0 : Bool} {x : Option Value × List mmC} (b51 : v7 < 2147483647) (hk : (kK (fun a : Bool × Int32 => mu a.2) (mu v7) (fun a : Bool × Int32 => Ev mmPT tbX3_hasSameArguments 51 [some (.ref 61), none, none, some (.int v3), some (.int v4), some (.int v5), some (.int (b2i a.1)), some (.int a.2)] [] (mh sc rest to fl ma tr mk cn nu de ru la tb tf ph cs) x) (kO (fun r : Bool => (some (.int (b2i r)), mh sc rest to fl ma tr mk cn nu de ru la tb tf ph cs)) x)) (Form_hasSameArguments_121 tr v3 v4 v5 v7 w0)) : Ev mmPT tbX3_hasSameArguments 121 [some (.ref 61), none, none, some (.int v3), some (.int v4), some (.int v5), none, some (.int v7)] [.int (b2i w0)] (mh sc rest to fl ma tr mk cn nu de ru la tb tf ph cs) x := by
  unfold Form_hasSameArguments_121 at hk
  refine Ev.s (ins := .istore 6) (pc' := 123) (lv' := [some (.ref 61), none, none, some (.int v3), some (.int v4), some (.int v5), some (.int (b2i w0)), some (.int v7)]) rfl rfl ?_
  refine q_inc 1 [some (.ref 61), none, none, some (.int v3), some (.int v4), some (.int v5), some (.int (b2i w0)), some (.int (v7 + 1))] rfl rfl rfl rfl ?_
  refine Ev.goto rfl ?_
  replace hk := kK_l hk
  exact hk (mu_lt b51)
set_option maxRecDepth 100000 in
theorem e_Form_hasSameArguments_61_120 {v3 : Int32} {v4 : Int32} {v5 : Int32} {v7 : Int32} {x : Option Value × List mmC} (b51 : v7 < 2147483647) (hk : (kK (fun a : Bool × Int32 => mu a.2) (mu v7) (fun a : Bool × Int32 => Ev mmPT tbX3_hasSameArguments 51 [some (.ref 61), none, none, some (.int v3), some (.int v4), some (.int v5), some (.int (b2i a.1)), some (.int a.2)] [] (mh sc rest to fl ma tr mk cn nu de ru la tb tf ph cs) x) (kO (fun r : Bool => (some (.int (b2i r)), mh sc rest to fl ma tr mk cn nu de ru la tb tf ph cs)) x)) (Form_hasSameArguments_120 tr v3 v4 v5 v7)) : Ev mmPT tbX3_hasSameArguments 120 [some (.ref 61), none, none, some (.int v3), some (.int v4), some (.int v5), none, some (.int v7)] [] (mh sc rest to fl ma tr mk cn nu de ru la tb tf ph cs) x := by
  unfold Form_hasSameArguments_120 at hk
  refine q_ic 0 rfl rfl ?_
  exact e_Form_hasSameArguments_61_121 b51 hk
set_option maxRecDepth 100000 in
theorem e_Form_hasSameArguments_61_L51b {v3 : Int32} {v4 : Int32} {v5 : Int32} {v6 : Bool} {v7 : Int32} {x : Option Value × List mmC} (hk : (kK (fun a : Bool × Int32 => mu a.2) (mu v7) (fun a : Bool × Int32 => Ev mmPT tbX3_hasSameArguments 51 [some (.ref 61), none, none, some (.int v3), some (.int v4), some (.int v5), some (.int (b2i a.1)), some (.int a.2)] [] (mh sc rest to fl ma tr mk cn nu de ru la tb tf ph cs) x) (kO (fun r : Bool => (some (.int (b2i r)), mh sc rest to fl ma tr mk cn nu de ru la tb tf ph cs)) x)) (Form_hasSameArguments_L51b tr v3 v4 v5 v6 v7)) : Ev mmPT tbX3_hasSameArguments 51 [some (.ref 61), none, none, some (.int v3), some (.int v4), some (.int v5), some (.int (b2i v6)), some (.int v7)] [] (mh sc rest to fl ma tr mk cn nu de ru la tb tf ph cs) x := by
  unfold Form_hasSameArguments_L51b at hk
  refine Ev.s (ins := .iload 7) (pc' := 53) rfl rfl ?_
  refine Ev.s (ins := .iload_n 3) (pc' := 54) rfl rfl ?_
  refine q_cge rfl hk (fun c1 hk => ?_) (fun c1 hk => ?_)
  · refine Ev.s (ins := .iload 6) (pc' := 59) rfl rfl ?_
    refine q_beq rfl hk (fun c2 hk => ?_) (fun c2 hk => ?_)
    · refine Ev.s (ins := .aload_n 0) (pc' := 63) rfl rfl ?_
      refine gf_61_5 rfl ?_
      refine Ev.s (ins := .iload 4) (pc' := 68) rfl rfl ?_
      refine Ev.s (ins := .iload 7) (pc' := 70) rfl rfl ?_
      refine Ev.s (ins := .iadd) (pc' := 71) rfl rfl ?_
      refine at_72 (oat tr 5 290 (v4 + v7)) rfl (Nat.le_of_ble_eq_true rfl) rfl ?_
      refine Ev.s (ins := .aload_n 0) (pc' := 75) rfl rfl ?_
      refine gf_61_5 rfl ?_
      refine Ev.s (ins := .iload 5) (pc' := 80) rfl rfl ?_
      refine Ev.s (ins := .iload 7) (pc' := 82) rfl rfl ?_
      refine Ev.s (ins := .iadd) (pc' := 83) rfl rfl ?_
      refine at_72 (oat tr 5 290 (v5 + v7)) rfl (Nat.le_of_ble_eq_true rfl) rfl ?_
      refine q_cne rfl hk (fun c3 hk => ?_) (fun c3 hk => ?_)
      · refine Ev.s (ins := .aload_n 0) (pc' := 90) rfl rfl ?_
        refine gf_61_6 rfl ?_
        refine Ev.s (ins := .iload 4) (pc' := 95) rfl rfl ?_
        refine Ev.s (ins := .iload 7) (pc' := 97) rfl rfl ?_
        refine Ev.s (ins := .iadd) (pc' := 98) rfl rfl ?_
        refine at_74 (oat tr 6 290 (v4 + v7)) rfl (Nat.le_of_ble_eq_true rfl) rfl ?_
        refine Ev.s (ins := .aload_n 0) (pc' := 102) rfl rfl ?_
        refine gf_61_6 rfl ?_
        refine Ev.s (ins := .iload 5) (pc' := 107) rfl rfl ?_
        refine Ev.s (ins := .iload 7) (pc' := 109) rfl rfl ?_
        refine Ev.s (ins := .iadd) (pc' := 110) rfl rfl ?_
        refine at_74 (oat tr 6 290 (v5 + v7)) rfl (Nat.le_of_ble_eq_true rfl) rfl ?_
        refine q_cne rfl hk (fun c4 hk => ?_) (fun c4 hk => ?_)
        · refine q_ic 1 rfl rfl ?_
          refine Ev.goto rfl ?_
          refine Ev.weak [some (.ref 61), none, none, some (.int v3), some (.int v4), some (.int v5), none, some (.int v7)] ⟨rfl, rfl, rfl, rfl, rfl, rfl, rfl, rfl, trivial⟩ ?_
          exact e_Form_hasSameArguments_61_121 (lt31 c1) hk
        · refine Ev.weak [some (.ref 61), none, none, some (.int v3), some (.int v4), some (.int v5), none, some (.int v7)] ⟨rfl, rfl, rfl, rfl, rfl, rfl, rfl, rfl, trivial⟩ ?_
          exact e_Form_hasSameArguments_61_120 (lt31 c1) hk
      · refine Ev.weak [some (.ref 61), none, none, some (.int v3), some (.int v4), some (.int v5), none, some (.int v7)] ⟨rfl, rfl, rfl, rfl, rfl, rfl, rfl, rfl, trivial⟩ ?_
        exact e_Form_hasSameArguments_61_120 (lt31 c1) hk
    · refine Ev.weak [some (.ref 61), none, none, some (.int v3), some (.int v4), some (.int v5), none, some (.int v7)] ⟨rfl, rfl, rfl, rfl, rfl, rfl, rfl, rfl, trivial⟩ ?_
      exact e_Form_hasSameArguments_61_120 (lt31 c1) hk
  · replace hk := kK_r hk
    refine Ev.s (ins := .iload 6) (pc' := 131) rfl rfl ?_
    exact Ev.zret rfl rfl (b2i_01 _) hk
set_option maxRecDepth 100000 in
theorem e_Form_hasSameArguments_61_L51 {v3 : Int32} {v4 : Int32} {v5 : Int32} {v6 : Bool} {v7 : Int32} {x : Option Value × List mmC} (hk : (kO (fun r : Bool => (some (.int (b2i r)), mh sc rest to fl ma tr mk cn nu de ru la tb tf ph cs)) x) (Form_hasSameArguments_L51 tr v3 v4 v5 v6 v7)) : Ev mmPT tbX3_hasSameArguments 51 [some (.ref 61), none, none, some (.int v3), some (.int v4), some (.int v5), some (.int (b2i v6)), some (.int v7)] [] (mh sc rest to fl ma tr mk cn nu de ru la tb tf ph cs) x :=
  k_loop (B := (fun a : Bool × Int32 => Form_hasSameArguments_L51b tr v3 v4 v5 a.1 a.2)) (μ := fun a : Bool × Int32 => mu a.2) (E := fun a : Bool × Int32 => Ev mmPT tbX3_hasSameArguments 51 [some (.ref 61), none, none, some (.int v3), some (.int v4), some (.int v5), some (.int (b2i a.1)), some (.int a.2)] [] (mh sc rest to fl ma tr mk cn nu de ru la tb tf ph cs) x) (X := (kO (fun r : Bool => (some (.int (b2i r)), mh sc rest to fl ma tr mk cn nu de ru la tb tf ph cs)) x)) (fun a hk => e_Form_hasSameArguments_61_L51b hk) (v6, v7) hk
set_option maxRecDepth 100000 in
theorem e_Form_hasSameArguments_61_46 {v3 : Int32} {v4 : Int32} {v5 : Int32} {w0 : Bool} {x : Option Value × List mmC} (hk : (kO (fun r : Bool => (some (.int (b2i r)), mh sc rest to fl ma tr mk cn nu de ru la tb tf ph cs)) x) (Form_hasSameArguments_46 tr v3 v4 v5 w0)) : Ev mmPT tbX3_hasSameArguments 46 [some (.ref 61), none, none, some (.int v3), some (.int v4), some (.int v5), none, none] [.int (b2i w0)] (mh sc rest to fl ma tr mk cn nu de ru la tb tf ph cs) x := by
  unfold Form_hasSameArguments_46 at hk
  refine Ev.s (ins := .istore 6) (pc' := 48) (lv' := [some (.ref 61), none, none, some (.int v3), some (.int v4), some (.int v5), some (.int (b2i w0)), none]) rfl rfl ?_
  refine q_ic 0 rfl rfl ?_
  refine Ev.s (ins := .istore 7) (pc' := 51) (lv' := [some (.ref 61), none, none, some (.int v3), some (.int v4), some (.int v5), some (.int (b2i w0)), some (.int 0)]) rfl rfl ?_
  exact e_Form_hasSameArguments_61_L51 hk
set_option maxRecDepth 100000 in
theorem e_Form_hasSameArguments_61_0 {v1 : Int32} {v2 : Int32} {x : Option Value × List mmC} (hk : (kO (fun r : Bool => (some (.int (b2i r)), mh sc rest to fl ma tr mk cn nu de ru la tb tf ph cs)) x) (Form_hasSameArguments tr v1 v2)) : Ev mmPT tbX3_hasSameArguments 0 [some (.ref 61), some (.int v1), some (.int v2), none, none, none, none, none] [] (mh sc rest to fl ma tr mk cn nu de ru la tb tf ph cs) x := by
  unfold Form_hasSameArguments at hk
  refine Ev.s (ins := .aload_n 0) (pc' := 1) rfl rfl ?_
  refine gf_61_3 rfl ?_
  refine Ev.s (ins := .iload_n 1) (pc' := 5) rfl rfl ?_
  refine at_68 (oat tr 3 150 v1) rfl (Nat.le_of_ble_eq_true rfl) rfl ?_
  refine Ev.s (ins := .istore_n 3) (pc' := 9) (lv' := [some (.ref 61), some (.int v1), some (.int v2), some (.int (oat tr 3 150 v1)), none, none, none, none]) rfl rfl ?_
  refine Ev.s (ins := .aload_n 0) (pc' := 10) rfl rfl ?_
  refine gf_61_4 rfl ?_
  refine Ev.s (ins := .iload_n 1) (pc' := 14) rfl rfl ?_
  refine at_70 (oat tr 4 150 v1) rfl (Nat.le_of_ble_eq_true rfl) rfl ?_
  refine Ev.s (ins := .istore 4) (pc' := 19) (lv' := [some (.ref 61), some (.int v1), some (.int v2), some (.int (oat tr 3 150 v1)), some (.int (oat tr 4 150 v1)), none, none, none]) rfl rfl ?_
  refine Ev.s (ins := .aload_n 0) (pc' := 20) rfl rfl ?_
  refine gf_61_4 rfl ?_
  refine Ev.s (ins := .iload_n 2) (pc' := 24) rfl rfl ?_
  refine at_70 (oat tr 4 150 v2) rfl (Nat.le_of_ble_eq_true rfl) rfl ?_
  refine Ev.s (ins := .istore 5) (pc' := 29) (lv' := [some (.ref 61), some (.int v1), some (.int v2), some (.int (oat tr 3 150 v1)), some (.int (oat tr 4 150 v1)), some (.int (oat tr 4 150 v2)), none, none]) rfl rfl ?_
  refine Ev.s (ins := .iload_n 3) (pc' := 30) rfl rfl ?_
  refine Ev.s (ins := .aload_n 0) (pc' := 31) rfl rfl ?_
  refine gf_61_3 rfl ?_
  refine Ev.s (ins := .iload_n 2) (pc' := 35) rfl rfl ?_
  refine at_68 (oat tr 3 150 v2) rfl (Nat.le_of_ble_eq_true rfl) rfl ?_
  refine q_cne rfl hk (fun c1 hk => ?_) (fun c1 hk => ?_)
  · refine q_ic 1 rfl rfl ?_
    refine Ev.goto rfl ?_
    refine Ev.weak [some (.ref 61), none, none, some (.int (oat tr 3 150 v1)), some (.int (oat tr 4 150 v1)), some (.int (oat tr 4 150 v2)), none, none] ⟨rfl, rfl, rfl, rfl, rfl, rfl, rfl, rfl, trivial⟩ ?_
    exact e_Form_hasSameArguments_61_46 hk
  · refine q_ic 0 rfl rfl ?_
    refine Ev.weak [some (.ref 61), none, none, some (.int (oat tr 3 150 v1)), some (.int (oat tr 4 150 v1)), some (.int (oat tr 4 150 v2)), none, none] ⟨rfl, rfl, rfl, rfl, rfl, rfl, rfl, rfl, trivial⟩ ?_
    exact e_Form_hasSameArguments_61_46 hk
set_option maxRecDepth 100000 in
theorem e_Form_hasSameArguments_61 {v1 : Int32} {v2 : Int32} : Ev mmPT tbX3_hasSameArguments 0 [some (.ref 61), some (.int v1), some (.int v2), none, none, none, none, none] [] (mh sc rest to fl ma tr mk cn nu de ru la tb tf ph cs) ((fun r : Bool => (some (.int (b2i r)), mh sc rest to fl ma tr mk cn nu de ru la tb tf ph cs)) (Form_hasSameArguments tr v1 v2)) := e_Form_hasSameArguments_61_0 (by exact rfl)
set_option maxRecDepth 100000 in
theorem e_Numbers_twinOfPhi_61_50 {v1 : Int32} {v2 : Int32} {v3 : Int32} {v4 : Int32} {x : Option Value × List mmC} (b10 : v4 < 2147483647) (hk : (kK (fun a : Int32 => mu a) (mu v4) (fun a : Int32 => Ev mmPT tbX6_twinOfPhi 10 [some (.ref 61), some (.int v1), some (.int v2), some (.int v3), some (.int a), none] [] (mh sc rest to fl ma tr mk cn nu de ru la tb tf ph cs) x) (kO (fun r : Int32 => (some (.int r), mh sc rest to fl ma tr mk cn nu de ru la tb tf ph cs)) x)) (Numbers_twinOfPhi_50 tr v1 v2 v3 v4)) : Ev mmPT tbX6_twinOfPhi 50 [some (.ref 61), some (.int v1), some (.int v2), some (.int v3), some (.int v4), none] [] (mh sc rest to fl ma tr mk cn nu de ru la tb tf ph cs) x := by
  unfold Numbers_twinOfPhi_50 at hk
  refine q_inc 1 [some (.ref 61), some (.int v1), some (.int v2), some (.int v3), some (.int (v4 + 1)), none] rfl rfl rfl rfl ?_
  refine Ev.goto rfl ?_
  replace hk := kK_l hk
  exact hk (mu_lt b10)
set_option maxRecDepth 100000 in
theorem e_Numbers_twinOfPhi_61_L10b {v1 : Int32} {v2 : Int32} {v3 : Int32} {v4 : Int32} {x : Option Value × List mmC} (hk : (kK (fun a : Int32 => mu a) (mu v4) (fun a : Int32 => Ev mmPT tbX6_twinOfPhi 10 [some (.ref 61), some (.int v1), some (.int v2), some (.int v3), some (.int a), none] [] (mh sc rest to fl ma tr mk cn nu de ru la tb tf ph cs) x) (kO (fun r : Int32 => (some (.int r), mh sc rest to fl ma tr mk cn nu de ru la tb tf ph cs)) x)) (Numbers_twinOfPhi_L10b tr v1 v2 v3 v4)) : Ev mmPT tbX6_twinOfPhi 10 [some (.ref 61), some (.int v1), some (.int v2), some (.int v3), some (.int v4), none] [] (mh sc rest to fl ma tr mk cn nu de ru la tb tf ph cs) x := by
  unfold Numbers_twinOfPhi_L10b at hk
  refine Ev.s (ins := .iload 4) (pc' := 12) rfl rfl ?_
  refine Ev.s (ins := .iload_n 2) (pc' := 13) rfl rfl ?_
  refine q_cge rfl hk (fun c1 hk => ?_) (fun c1 hk => ?_)
  · refine Ev.s (ins := .aload_n 0) (pc' := 17) rfl rfl ?_
    refine Ev.s (ins := .iload_n 1) (pc' := 18) rfl rfl ?_
    refine Ev.s (ins := .iload 4) (pc' := 20) rfl rfl ?_
    refine kc_X3_valueIn_0 rfl oi_61 rfl (Nat.le_of_ble_eq_true rfl) (e_Form_valueIn_61) ?_
    refine Ev.s (ins := .istore 5) (pc' := 25) (lv' := [some (.ref 61), some (.int v1), some (.int v2), some (.int v3), some (.int v4), some (.int (Form_valueIn tr v1 v4))]) rfl rfl ?_
    refine Ev.s (ins := .aload_n 0) (pc' := 26) rfl rfl ?_
    refine Ev.s (ins := .iload 5) (pc' := 28) rfl rfl ?_
    refine q_bi 9 rfl rfl ?_
    refine Ev.s (ins := .iload_n 1) (pc' := 31) rfl rfl ?_
    refine kc_X6_isStill_2 rfl (Nat.le_of_ble_eq_true rfl) (e_Numbers_isStill_61) ?_
    refine q_beq rfl hk (fun c2 hk => ?_) (fun c2 hk => ?_)
    · refine Ev.s (ins := .aload_n 0) (pc' := 38) rfl rfl ?_
      refine Ev.s (ins := .iload_n 3) (pc' := 39) rfl rfl ?_
      refine Ev.s (ins := .iload 5) (pc' := 41) rfl rfl ?_
      refine kc_X3_hasSameArguments_0 rfl oi_61 rfl (Nat.le_of_ble_eq_true rfl) (e_Form_hasSameArguments_61) ?_
      refine q_beq rfl hk (fun c3 hk => ?_) (fun c3 hk => ?_)
      · replace hk := kK_r hk
        refine Ev.s (ins := .iload 5) (pc' := 49) rfl rfl ?_
        exact Ev.iret rfl rfl hk
      · refine Ev.weak [some (.ref 61), some (.int v1), some (.int v2), some (.int v3), some (.int v4), none] ⟨rfl, rfl, rfl, rfl, rfl, rfl, trivial⟩ ?_
        exact e_Numbers_twinOfPhi_61_50 (lt31 c1) hk
    · refine Ev.weak [some (.ref 61), some (.int v1), some (.int v2), some (.int v3), some (.int v4), none] ⟨rfl, rfl, rfl, rfl, rfl, rfl, trivial⟩ ?_
      exact e_Numbers_twinOfPhi_61_50 (lt31 c1) hk
  · replace hk := kK_r hk
    refine q_ic (-1) rfl rfl ?_
    exact Ev.iret rfl rfl hk
set_option maxRecDepth 100000 in
theorem e_Numbers_twinOfPhi_61_L10 {v1 : Int32} {v2 : Int32} {v3 : Int32} {v4 : Int32} {x : Option Value × List mmC} (hk : (kO (fun r : Int32 => (some (.int r), mh sc rest to fl ma tr mk cn nu de ru la tb tf ph cs)) x) (Numbers_twinOfPhi_L10 tr v1 v2 v3 v4)) : Ev mmPT tbX6_twinOfPhi 10 [some (.ref 61), some (.int v1), some (.int v2), some (.int v3), some (.int v4), none] [] (mh sc rest to fl ma tr mk cn nu de ru la tb tf ph cs) x :=
  k_loop (B := (fun a : Int32 => Numbers_twinOfPhi_L10b tr v1 v2 v3 a)) (μ := fun a : Int32 => mu a) (E := fun a : Int32 => Ev mmPT tbX6_twinOfPhi 10 [some (.ref 61), some (.int v1), some (.int v2), some (.int v3), some (.int a), none] [] (mh sc rest to fl ma tr mk cn nu de ru la tb tf ph cs) x) (X := (kO (fun r : Int32 => (some (.int r), mh sc rest to fl ma tr mk cn nu de ru la tb tf ph cs)) x)) (fun a hk => e_Numbers_twinOfPhi_61_L10b hk) v4 hk
set_option maxRecDepth 100000 in
theorem e_Numbers_twinOfPhi_61_0 {v1 : Int32} {v2 : Int32} {x : Option Value × List mmC} (hk : (kO (fun r : Int32 => (some (.int r), mh sc rest to fl ma tr mk cn nu de ru la tb tf ph cs)) x) (Numbers_twinOfPhi tr v1 v2)) : Ev mmPT tbX6_twinOfPhi 0 [some (.ref 61), some (.int v1), some (.int v2), none, none, none] [] (mh sc rest to fl ma tr mk cn nu de ru la tb tf ph cs) x := by
  unfold Numbers_twinOfPhi at hk
  refine Ev.s (ins := .aload_n 0) (pc' := 1) rfl rfl ?_
  refine Ev.s (ins := .iload_n 1) (pc' := 2) rfl rfl ?_
  refine Ev.s (ins := .iload_n 2) (pc' := 3) rfl rfl ?_
  refine kc_X3_valueIn_0 rfl oi_61 rfl (Nat.le_of_ble_eq_true rfl) (e_Form_valueIn_61) ?_
  refine Ev.s (ins := .istore_n 3) (pc' := 7) (lv' := [some (.ref 61), some (.int v1), some (.int v2), some (.int (Form_valueIn tr v1 v2)), none, none]) rfl rfl ?_
  refine q_ic 0 rfl rfl ?_
  refine Ev.s (ins := .istore 4) (pc' := 10) (lv' := [some (.ref 61), some (.int v1), some (.int v2), some (.int (Form_valueIn tr v1 v2)), some (.int 0), none]) rfl rfl ?_
  exact e_Numbers_twinOfPhi_61_L10 hk
set_option maxRecDepth 100000 in
theorem e_Numbers_twinOfPhi_61 {v1 : Int32} {v2 : Int32} : Ev mmPT tbX6_twinOfPhi 0 [some (.ref 61), some (.int v1), some (.int v2), none, none, none] [] (mh sc rest to fl ma tr mk cn nu de ru la tb tf ph cs) ((fun r : Int32 => (some (.int r), mh sc rest to fl ma tr mk cn nu de ru la tb tf ph cs)) (Numbers_twinOfPhi tr v1 v2)) := e_Numbers_twinOfPhi_61_0 (by exact rfl)
set_option maxRecDepth 100000 in
theorem e_Form_valueOf_61_36 {x : Option Value × List mmC} (hk : (kO (fun r : Int32 => (some (.int r), mh sc rest to fl ma tr mk cn nu de ru la tb tf ph cs)) x) (Form_valueOf_36 tr)) : Ev mmPT tbX3_valueOf 36 [none, none, none] [] (mh sc rest to fl ma tr mk cn nu de ru la tb tf ph cs) x := by
  unfold Form_valueOf_36 at hk
  refine q_ic (-1) rfl rfl ?_
  exact Ev.iret rfl rfl hk
set_option maxRecDepth 100000 in
theorem e_Form_valueOf_61_0 {v1 : Int32} {v2 : Int32} {x : Option Value × List mmC} (hk : (kO (fun r : Int32 => (some (.int r), mh sc rest to fl ma tr mk cn nu de ru la tb tf ph cs)) x) (Form_valueOf tr v1 v2)) : Ev mmPT tbX3_valueOf 0 [some (.ref 61), some (.int v1), some (.int v2)] [] (mh sc rest to fl ma tr mk cn nu de ru la tb tf ph cs) x := by
  unfold Form_valueOf at hk
  refine Ev.s (ins := .iload_n 2) (pc' := 1) rfl rfl ?_
  refine q_lt rfl hk (fun c1 hk => ?_) (fun c1 hk => ?_)
  · refine Ev.weak [none, none, none] ⟨rfl, rfl, rfl, trivial⟩ ?_
    exact e_Form_valueOf_61_36 hk
  · refine Ev.s (ins := .iload_n 2) (pc' := 5) rfl rfl ?_
    refine Ev.s (ins := .aload_n 0) (pc' := 6) rfl rfl ?_
    refine gf_61_3 rfl ?_
    refine Ev.s (ins := .iload_n 1) (pc' := 10) rfl rfl ?_
    refine at_68 (oat tr 3 150 v1) rfl (Nat.le_of_ble_eq_true rfl) rfl ?_
    refine q_cge rfl hk (fun c2 hk => ?_) (fun c2 hk => ?_)
    · refine Ev.s (ins := .aload_n 0) (pc' := 17) rfl rfl ?_
      refine gf_61_5 rfl ?_
      refine Ev.s (ins := .aload_n 0) (pc' := 21) rfl rfl ?_
      refine gf_61_4 rfl ?_
      refine Ev.s (ins := .iload_n 1) (pc' := 25) rfl rfl ?_
      refine at_70 (oat tr 4 150 v1) rfl (Nat.le_of_ble_eq_true rfl) rfl ?_
      refine Ev.s (ins := .iload_n 2) (pc' := 29) rfl rfl ?_
      refine Ev.s (ins := .iadd) (pc' := 30) rfl rfl ?_
      refine at_72 (oat tr 5 290 ((oat tr 4 150 v1) + v2)) rfl (Nat.le_of_ble_eq_true rfl) rfl ?_
      refine Ev.goto rfl ?_
      exact Ev.iret rfl rfl hk
    · refine Ev.weak [none, none, none] ⟨rfl, rfl, rfl, trivial⟩ ?_
      exact e_Form_valueOf_61_36 hk
set_option maxRecDepth 100000 in
theorem e_Form_valueOf_61 {v1 : Int32} {v2 : Int32} : Ev mmPT tbX3_valueOf 0 [some (.ref 61), some (.int v1), some (.int v2)] [] (mh sc rest to fl ma tr mk cn nu de ru la tb tf ph cs) ((fun r : Int32 => (some (.int r), mh sc rest to fl ma tr mk cn nu de ru la tb tf ph cs)) (Form_valueOf tr v1 v2)) := e_Form_valueOf_61_0 (by exact rfl)
set_option maxRecDepth 100000 in
theorem e_Form_numberOf_61_36 {x : Option Value × List mmC} (hk : (kO (fun r : Int32 => (some (.int r), mh sc rest to fl ma tr mk cn nu de ru la tb tf ph cs)) x) (Form_numberOf_36 tr)) : Ev mmPT tbX3_numberOf 36 [none, none, none] [] (mh sc rest to fl ma tr mk cn nu de ru la tb tf ph cs) x := by
  unfold Form_numberOf_36 at hk
  refine q_ic 0 rfl rfl ?_
  exact Ev.iret rfl rfl hk
set_option maxRecDepth 100000 in
theorem e_Form_numberOf_61_0 {v1 : Int32} {v2 : Int32} {x : Option Value × List mmC} (hk : (kO (fun r : Int32 => (some (.int r), mh sc rest to fl ma tr mk cn nu de ru la tb tf ph cs)) x) (Form_numberOf tr v1 v2)) : Ev mmPT tbX3_numberOf 0 [some (.ref 61), some (.int v1), some (.int v2)] [] (mh sc rest to fl ma tr mk cn nu de ru la tb tf ph cs) x := by
  unfold Form_numberOf at hk
  refine Ev.s (ins := .iload_n 2) (pc' := 1) rfl rfl ?_
  refine q_lt rfl hk (fun c1 hk => ?_) (fun c1 hk => ?_)
  · refine Ev.weak [none, none, none] ⟨rfl, rfl, rfl, trivial⟩ ?_
    exact e_Form_numberOf_61_36 hk
  · refine Ev.s (ins := .iload_n 2) (pc' := 5) rfl rfl ?_
    refine Ev.s (ins := .aload_n 0) (pc' := 6) rfl rfl ?_
    refine gf_61_3 rfl ?_
    refine Ev.s (ins := .iload_n 1) (pc' := 10) rfl rfl ?_
    refine at_68 (oat tr 3 150 v1) rfl (Nat.le_of_ble_eq_true rfl) rfl ?_
    refine q_cge rfl hk (fun c2 hk => ?_) (fun c2 hk => ?_)
    · refine Ev.s (ins := .aload_n 0) (pc' := 17) rfl rfl ?_
      refine gf_61_6 rfl ?_
      refine Ev.s (ins := .aload_n 0) (pc' := 21) rfl rfl ?_
      refine gf_61_4 rfl ?_
      refine Ev.s (ins := .iload_n 1) (pc' := 25) rfl rfl ?_
      refine at_70 (oat tr 4 150 v1) rfl (Nat.le_of_ble_eq_true rfl) rfl ?_
      refine Ev.s (ins := .iload_n 2) (pc' := 29) rfl rfl ?_
      refine Ev.s (ins := .iadd) (pc' := 30) rfl rfl ?_
      refine at_74 (oat tr 6 290 ((oat tr 4 150 v1) + v2)) rfl (Nat.le_of_ble_eq_true rfl) rfl ?_
      refine Ev.goto rfl ?_
      exact Ev.iret rfl rfl hk
    · refine Ev.weak [none, none, none] ⟨rfl, rfl, rfl, trivial⟩ ?_
      exact e_Form_numberOf_61_36 hk
set_option maxRecDepth 100000 in
theorem e_Form_numberOf_61 {v1 : Int32} {v2 : Int32} : Ev mmPT tbX3_numberOf 0 [some (.ref 61), some (.int v1), some (.int v2)] [] (mh sc rest to fl ma tr mk cn nu de ru la tb tf ph cs) ((fun r : Int32 => (some (.int r), mh sc rest to fl ma tr mk cn nu de ru la tb tf ph cs)) (Form_numberOf tr v1 v2)) := e_Form_numberOf_61_0 (by exact rfl)
set_option maxRecDepth 100000 in
theorem e_Form_hasCrossedArguments_61_111 {x : Option Value × List mmC} (hk : (kO (fun r : Bool => (some (.int (b2i r)), mh sc rest to fl ma tr mk cn nu de ru la tb tf ph cs)) x) (Form_hasCrossedArguments_111 tr)) : Ev mmPT tbX3_hasCrossedArguments 111 [none, none, none, none, none] [] (mh sc rest to fl ma tr mk cn nu de ru la tb tf ph cs) x := by
  unfold Form_hasCrossedArguments_111 at hk
  refine q_ic 0 rfl rfl ?_
  exact Ev.zret rfl rfl (Or.inl rfl) hk
set_option maxRecDepth 100000 in
theorem e_Form_hasCrossedArguments_61_0 {v1 : Int32} {v2 : Int32} {x : Option Value × List mmC} (hk : (kO (fun r : Bool => (some (.int (b2i r)), mh sc rest to fl ma tr mk cn nu de ru la tb tf ph cs)) x) (Form_hasCrossedArguments tr v1 v2)) : Ev mmPT tbX3_hasCrossedArguments 0 [some (.ref 61), some (.int v1), some (.int v2), none, none] [] (mh sc rest to fl ma tr mk cn nu de ru la tb tf ph cs) x := by
  unfold Form_hasCrossedArguments at hk
  refine Ev.s (ins := .aload_n 0) (pc' := 1) rfl rfl ?_
  refine gf_61_4 rfl ?_
  refine Ev.s (ins := .iload_n 1) (pc' := 5) rfl rfl ?_
  refine at_70 (oat tr 4 150 v1) rfl (Nat.le_of_ble_eq_true rfl) rfl ?_
  refine Ev.s (ins := .istore_n 3) (pc' := 9) (lv' := [some (.ref 61), some (.int v1), some (.int v2), some (.int (oat tr 4 150 v1)), none]) rfl rfl ?_
  refine Ev.s (ins := .aload_n 0) (pc' := 10) rfl rfl ?_
  refine gf_61_4 rfl ?_
  refine Ev.s (ins := .iload_n 2) (pc' := 14) rfl rfl ?_
  refine at_70 (oat tr 4 150 v2) rfl (Nat.le_of_ble_eq_true rfl) rfl ?_
  refine Ev.s (ins := .istore 4) (pc' := 19) (lv' := [some (.ref 61), some (.int v1), some (.int v2), some (.int (oat tr 4 150 v1)), some (.int (oat tr 4 150 v2))]) rfl rfl ?_
  refine Ev.s (ins := .aload_n 0) (pc' := 20) rfl rfl ?_
  refine gf_61_5 rfl ?_
  refine Ev.s (ins := .iload_n 3) (pc' := 24) rfl rfl ?_
  refine at_72 (oat tr 5 290 (oat tr 4 150 v1)) rfl (Nat.le_of_ble_eq_true rfl) rfl ?_
  refine Ev.s (ins := .aload_n 0) (pc' := 28) rfl rfl ?_
  refine gf_61_5 rfl ?_
  refine Ev.s (ins := .iload 4) (pc' := 33) rfl rfl ?_
  refine q_ic 1 rfl rfl ?_
  refine Ev.s (ins := .iadd) (pc' := 35) rfl rfl ?_
  refine at_72 (oat tr 5 290 ((oat tr 4 150 v2) + 1)) rfl (Nat.le_of_ble_eq_true rfl) rfl ?_
  refine q_cne rfl hk (fun c1 hk => ?_) (fun c1 hk => ?_)
  · refine Ev.s (ins := .aload_n 0) (pc' := 42) rfl rfl ?_
    refine gf_61_6 rfl ?_
    refine Ev.s (ins := .iload_n 3) (pc' := 46) rfl rfl ?_
    refine at_74 (oat tr 6 290 (oat tr 4 150 v1)) rfl (Nat.le_of_ble_eq_true rfl) rfl ?_
    refine Ev.s (ins := .aload_n 0) (pc' := 50) rfl rfl ?_
    refine gf_61_6 rfl ?_
    refine Ev.s (ins := .iload 4) (pc' := 55) rfl rfl ?_
    refine q_ic 1 rfl rfl ?_
    refine Ev.s (ins := .iadd) (pc' := 57) rfl rfl ?_
    refine at_74 (oat tr 6 290 ((oat tr 4 150 v2) + 1)) rfl (Nat.le_of_ble_eq_true rfl) rfl ?_
    refine q_cne rfl hk (fun c2 hk => ?_) (fun c2 hk => ?_)
    · refine Ev.s (ins := .aload_n 0) (pc' := 64) rfl rfl ?_
      refine gf_61_5 rfl ?_
      refine Ev.s (ins := .iload_n 3) (pc' := 68) rfl rfl ?_
      refine q_ic 1 rfl rfl ?_
      refine Ev.s (ins := .iadd) (pc' := 70) rfl rfl ?_
      refine at_72 (oat tr 5 290 ((oat tr 4 150 v1) + 1)) rfl (Nat.le_of_ble_eq_true rfl) rfl ?_
      refine Ev.s (ins := .aload_n 0) (pc' := 74) rfl rfl ?_
      refine gf_61_5 rfl ?_
      refine Ev.s (ins := .iload 4) (pc' := 79) rfl rfl ?_
      refine at_72 (oat tr 5 290 (oat tr 4 150 v2)) rfl (Nat.le_of_ble_eq_true rfl) rfl ?_
      refine q_cne rfl hk (fun c3 hk => ?_) (fun c3 hk => ?_)
      · refine Ev.s (ins := .aload_n 0) (pc' := 86) rfl rfl ?_
        refine gf_61_6 rfl ?_
        refine Ev.s (ins := .iload_n 3) (pc' := 90) rfl rfl ?_
        refine q_ic 1 rfl rfl ?_
        refine Ev.s (ins := .iadd) (pc' := 92) rfl rfl ?_
        refine at_74 (oat tr 6 290 ((oat tr 4 150 v1) + 1)) rfl (Nat.le_of_ble_eq_true rfl) rfl ?_
        refine Ev.s (ins := .aload_n 0) (pc' := 96) rfl rfl ?_
        refine gf_61_6 rfl ?_
        refine Ev.s (ins := .iload 4) (pc' := 101) rfl rfl ?_
        refine at_74 (oat tr 6 290 (oat tr 4 150 v2)) rfl (Nat.le_of_ble_eq_true rfl) rfl ?_
        refine q_cne rfl hk (fun c4 hk => ?_) (fun c4 hk => ?_)
        · refine q_ic 1 rfl rfl ?_
          refine Ev.goto rfl ?_
          exact Ev.zret rfl rfl (Or.inr rfl) hk
        · refine Ev.weak [none, none, none, none, none] ⟨rfl, rfl, rfl, rfl, rfl, trivial⟩ ?_
          exact e_Form_hasCrossedArguments_61_111 hk
      · refine Ev.weak [none, none, none, none, none] ⟨rfl, rfl, rfl, rfl, rfl, trivial⟩ ?_
        exact e_Form_hasCrossedArguments_61_111 hk
    · refine Ev.weak [none, none, none, none, none] ⟨rfl, rfl, rfl, rfl, rfl, trivial⟩ ?_
      exact e_Form_hasCrossedArguments_61_111 hk
  · refine Ev.weak [none, none, none, none, none] ⟨rfl, rfl, rfl, rfl, rfl, trivial⟩ ?_
    exact e_Form_hasCrossedArguments_61_111 hk
set_option maxRecDepth 100000 in
theorem e_Form_hasCrossedArguments_61 {v1 : Int32} {v2 : Int32} : Ev mmPT tbX3_hasCrossedArguments 0 [some (.ref 61), some (.int v1), some (.int v2), none, none] [] (mh sc rest to fl ma tr mk cn nu de ru la tb tf ph cs) ((fun r : Bool => (some (.int (b2i r)), mh sc rest to fl ma tr mk cn nu de ru la tb tf ph cs)) (Form_hasCrossedArguments tr v1 v2)) := e_Form_hasCrossedArguments_61_0 (by exact rfl)
set_option maxRecDepth 100000 in
theorem e_Numbers_twinOfReckoning_100_61_166 {v11 : Int32} {x : Option Value × List mmC} (hk : (kO (fun r : Int32 => (some (.int r), mh sc rest to fl ma tr mk cn nu de ru la tb tf ph cs)) x) (Numbers_twinOfReckoning_166 tr nu v11)) : Ev mmPT tbX6_twinOfReckoning 166 [none, none, none, none, none, none, none, none, none, none, none, some (.int v11)] [] (mh sc rest to fl ma tr mk cn nu de ru la tb tf ph cs) x := by
  unfold Numbers_twinOfReckoning_166 at hk
  refine Ev.s (ins := .iload 11) (pc' := 168) rfl rfl ?_
  exact Ev.iret rfl rfl hk
set_option maxRecDepth 100000 in
theorem e_Numbers_twinOfReckoning_100_61_169 {v2 : Int32} {v3 : Int32} {v4 : Int32} {v5 : Int32} {v6 : Int32} {v7 : Int32} {v8 : Int32} {v9 : Int32} {v10 : Int32} {x : Option Value × List mmC} (b41 : v7 < 2147483647) (b109 : v10 < 2147483647) (hk : (kK (fun a : Int32 => mu a) (mu v10) (fun a : Int32 => Ev mmPT tbX6_twinOfReckoning 109 [some (.ref 100), some (.ref 61), some (.int v2), some (.int v3), some (.int v4), some (.int v5), some (.int v6), some (.int v7), some (.int v8), some (.int v9), some (.int a), none] [] (mh sc rest to fl ma tr mk cn nu de ru la tb tf ph cs) x) (kK (fun a : Int32 => mu a) (mu v7) (fun a : Int32 => Ev mmPT tbX6_twinOfReckoning 41 [some (.ref 100), some (.ref 61), some (.int v2), some (.int v3), some (.int v4), some (.int v5), some (.int v6), some (.int a), none, none, none, none] [] (mh sc rest to fl ma tr mk cn nu de ru la tb tf ph cs) x) (kO (fun r : Int32 => (some (.int r), mh sc rest to fl ma tr mk cn nu de ru la tb tf ph cs)) x))) (Numbers_twinOfReckoning_169 tr nu v2 v3 v4 v5 v6 v7 v8 v9 v10)) : Ev mmPT tbX6_twinOfReckoning 169 [some (.ref 100), some (.ref 61), some (.int v2), some (.int v3), some (.int v4), some (.int v5), some (.int v6), some (.int v7), some (.int v8), some (.int v9), some (.int v10), none] [] (mh sc rest to fl ma tr mk cn nu de ru la tb tf ph cs) x := by
  unfold Numbers_twinOfReckoning_169 at hk
  refine q_inc 1 [some (.ref 100), some (.ref 61), some (.int v2), some (.int v3), some (.int v4), some (.int v5), some (.int v6), some (.int v7), some (.int v8), some (.int v9), some (.int (v10 + 1)), none] rfl rfl rfl rfl ?_
  refine Ev.goto rfl ?_
  replace hk := kK_l hk
  exact hk (mu_lt b109)
set_option maxRecDepth 100000 in
theorem e_Numbers_twinOfReckoning_100_61_L109b {v2 : Int32} {v3 : Int32} {v4 : Int32} {v5 : Int32} {v6 : Int32} {v7 : Int32} {v8 : Int32} {v9 : Int32} {v10 : Int32} {x : Option Value × List mmC} (b41 : v7 < 2147483647) (hk : (kK (fun a : Int32 => mu a) (mu v10) (fun a : Int32 => Ev mmPT tbX6_twinOfReckoning 109 [some (.ref 100), some (.ref 61), some (.int v2), some (.int v3), some (.int v4), some (.int v5), some (.int v6), some (.int v7), some (.int v8), some (.int v9), some (.int a), none] [] (mh sc rest to fl ma tr mk cn nu de ru la tb tf ph cs) x) (kK (fun a : Int32 => mu a) (mu v7) (fun a : Int32 => Ev mmPT tbX6_twinOfReckoning 41 [some (.ref 100), some (.ref 61), some (.int v2), some (.int v3), some (.int v4), some (.int v5), some (.int v6), some (.int a), none, none, none, none] [] (mh sc rest to fl ma tr mk cn nu de ru la tb tf ph cs) x) (kO (fun r : Int32 => (some (.int r), mh sc rest to fl ma tr mk cn nu de ru la tb tf ph cs)) x))) (Numbers_twinOfReckoning_L109b tr nu v2 v3 v4 v5 v6 v7 v8 v9 v10)) : Ev mmPT tbX6_twinOfReckoning 109 [some (.ref 100), some (.ref 61), some (.int v2), some (.int v3), some (.int v4), some (.int v5), some (.int v6), some (.int v7), some (.int v8), some (.int v9), some (.int v10), none] [] (mh sc rest to fl ma tr mk cn nu de ru la tb tf ph cs) x := by
  unfold Numbers_twinOfReckoning_L109b at hk
  refine Ev.s (ins := .iload 10) (pc' := 111) rfl rfl ?_
  refine Ev.s (ins := .iload 9) (pc' := 113) rfl rfl ?_
  refine q_cge rfl hk (fun c1 hk => ?_) (fun c1 hk => ?_)
  · refine Ev.s (ins := .aload_n 1) (pc' := 117) rfl rfl ?_
    refine Ev.s (ins := .iload 8) (pc' := 119) rfl rfl ?_
    refine Ev.s (ins := .iload 10) (pc' := 121) rfl rfl ?_
    refine kc_X3_valueIn_0 rfl oi_61 rfl (Nat.le_of_ble_eq_true rfl) (e_Form_valueIn_61) ?_
    refine Ev.s (ins := .istore 11) (pc' := 126) (lv' := [some (.ref 100), some (.ref 61), some (.int v2), some (.int v3), some (.int v4), some (.int v5), some (.int v6), some (.int v7), some (.int v8), some (.int v9), some (.int v10), some (.int (Form_valueIn tr v8 v10))]) rfl rfl ?_
    refine Ev.s (ins := .aload_n 1) (pc' := 127) rfl rfl ?_
    refine Ev.s (ins := .iload 11) (pc' := 129) rfl rfl ?_
    refine Ev.s (ins := .iload 5) (pc' := 131) rfl rfl ?_
    refine Ev.s (ins := .iload 8) (pc' := 133) rfl rfl ?_
    refine kc_X6_isStill_2 rfl (Nat.le_of_ble_eq_true rfl) (e_Numbers_isStill_61) ?_
    refine q_beq rfl hk (fun c2 hk => ?_) (fun c2 hk => ?_)
    · refine Ev.s (ins := .aload_n 1) (pc' := 140) rfl rfl ?_
      refine Ev.s (ins := .iload 4) (pc' := 142) rfl rfl ?_
      refine Ev.s (ins := .iload 11) (pc' := 144) rfl rfl ?_
      refine kc_X3_hasSameArguments_0 rfl oi_61 rfl (Nat.le_of_ble_eq_true rfl) (e_Form_hasSameArguments_61) ?_
      refine q_bne rfl hk (fun c3 hk => ?_) (fun c3 hk => ?_)
      · replace hk := kK_r hk
        replace hk := kK_r hk
        refine Ev.weak [none, none, none, none, none, none, none, none, none, none, none, some (.int (Form_valueIn tr v8 v10))] ⟨rfl, rfl, rfl, rfl, rfl, rfl, rfl, rfl, rfl, rfl, rfl, rfl, trivial⟩ ?_
        exact e_Numbers_twinOfReckoning_100_61_166 hk
      · refine Ev.s (ins := .iload 6) (pc' := 152) rfl rfl ?_
        refine q_eq rfl hk (fun c4 hk => ?_) (fun c4 hk => ?_)
        · refine Ev.weak [some (.ref 100), some (.ref 61), some (.int v2), some (.int v3), some (.int v4), some (.int v5), some (.int v6), some (.int v7), some (.int v8), some (.int v9), some (.int v10), none] ⟨rfl, rfl, rfl, rfl, rfl, rfl, rfl, rfl, rfl, rfl, rfl, rfl, trivial⟩ ?_
          exact e_Numbers_twinOfReckoning_100_61_169 b41 (lt31 c1) hk
        · refine Ev.s (ins := .aload_n 1) (pc' := 156) rfl rfl ?_
          refine Ev.s (ins := .iload 4) (pc' := 158) rfl rfl ?_
          refine Ev.s (ins := .iload 11) (pc' := 160) rfl rfl ?_
          refine kc_X3_hasCrossedArguments_0 rfl oi_61 rfl (Nat.le_of_ble_eq_true rfl) (e_Form_hasCrossedArguments_61) ?_
          refine q_beq rfl hk (fun c5 hk => ?_) (fun c5 hk => ?_)
          · replace hk := kK_r hk
            replace hk := kK_r hk
            refine Ev.weak [none, none, none, none, none, none, none, none, none, none, none, some (.int (Form_valueIn tr v8 v10))] ⟨rfl, rfl, rfl, rfl, rfl, rfl, rfl, rfl, rfl, rfl, rfl, rfl, trivial⟩ ?_
            exact e_Numbers_twinOfReckoning_100_61_166 hk
          · refine Ev.weak [some (.ref 100), some (.ref 61), some (.int v2), some (.int v3), some (.int v4), some (.int v5), some (.int v6), some (.int v7), some (.int v8), some (.int v9), some (.int v10), none] ⟨rfl, rfl, rfl, rfl, rfl, rfl, rfl, rfl, rfl, rfl, rfl, rfl, trivial⟩ ?_
            exact e_Numbers_twinOfReckoning_100_61_169 b41 (lt31 c1) hk
    · refine Ev.weak [some (.ref 100), some (.ref 61), some (.int v2), some (.int v3), some (.int v4), some (.int v5), some (.int v6), some (.int v7), some (.int v8), some (.int v9), some (.int v10), none] ⟨rfl, rfl, rfl, rfl, rfl, rfl, rfl, rfl, rfl, rfl, rfl, rfl, trivial⟩ ?_
      exact e_Numbers_twinOfReckoning_100_61_169 b41 (lt31 c1) hk
  · replace hk := kK_r hk
    refine q_inc 1 [some (.ref 100), some (.ref 61), some (.int v2), some (.int v3), some (.int v4), some (.int v5), some (.int v6), some (.int (v7 + 1)), some (.int v8), some (.int v9), some (.int v10), none] rfl rfl rfl rfl ?_
    refine Ev.goto rfl ?_
    refine Ev.weak [some (.ref 100), some (.ref 61), some (.int v2), some (.int v3), some (.int v4), some (.int v5), some (.int v6), some (.int (v7 + 1)), none, none, none, none] ⟨rfl, rfl, rfl, rfl, rfl, rfl, rfl, rfl, rfl, rfl, rfl, rfl, trivial⟩ ?_
    replace hk := kK_l hk
    exact hk (mu_lt b41)
set_option maxRecDepth 100000 in
theorem e_Numbers_twinOfReckoning_100_61_L109 {v2 : Int32} {v3 : Int32} {v4 : Int32} {v5 : Int32} {v6 : Int32} {v7 : Int32} {v8 : Int32} {v9 : Int32} {v10 : Int32} {x : Option Value × List mmC} (b41 : v7 < 2147483647) (hk : (kK (fun a : Int32 => mu a) (mu v7) (fun a : Int32 => Ev mmPT tbX6_twinOfReckoning 41 [some (.ref 100), some (.ref 61), some (.int v2), some (.int v3), some (.int v4), some (.int v5), some (.int v6), some (.int a), none, none, none, none] [] (mh sc rest to fl ma tr mk cn nu de ru la tb tf ph cs) x) (kO (fun r : Int32 => (some (.int r), mh sc rest to fl ma tr mk cn nu de ru la tb tf ph cs)) x)) (Numbers_twinOfReckoning_L109 tr nu v2 v3 v4 v5 v6 v7 v8 v9 v10)) : Ev mmPT tbX6_twinOfReckoning 109 [some (.ref 100), some (.ref 61), some (.int v2), some (.int v3), some (.int v4), some (.int v5), some (.int v6), some (.int v7), some (.int v8), some (.int v9), some (.int v10), none] [] (mh sc rest to fl ma tr mk cn nu de ru la tb tf ph cs) x :=
  k_loop (B := (fun a : Int32 => Numbers_twinOfReckoning_L109b tr nu v2 v3 v4 v5 v6 v7 v8 v9 a)) (μ := fun a : Int32 => mu a) (E := fun a : Int32 => Ev mmPT tbX6_twinOfReckoning 109 [some (.ref 100), some (.ref 61), some (.int v2), some (.int v3), some (.int v4), some (.int v5), some (.int v6), some (.int v7), some (.int v8), some (.int v9), some (.int a), none] [] (mh sc rest to fl ma tr mk cn nu de ru la tb tf ph cs) x) (X := (kK (fun a : Int32 => mu a) (mu v7) (fun a : Int32 => Ev mmPT tbX6_twinOfReckoning 41 [some (.ref 100), some (.ref 61), some (.int v2), some (.int v3), some (.int v4), some (.int v5), some (.int v6), some (.int a), none, none, none, none] [] (mh sc rest to fl ma tr mk cn nu de ru la tb tf ph cs) x) (kO (fun r : Int32 => (some (.int r), mh sc rest to fl ma tr mk cn nu de ru la tb tf ph cs)) x))) (fun a hk => e_Numbers_twinOfReckoning_100_61_L109b b41 hk) v10 hk
set_option maxRecDepth 100000 in
theorem e_Numbers_twinOfReckoning_100_61_104 {v2 : Int32} {v3 : Int32} {v4 : Int32} {v5 : Int32} {v6 : Int32} {v7 : Int32} {v8 : Int32} {w0 : Int32} {x : Option Value × List mmC} (b41 : v7 < 2147483647) (hk : (kK (fun a : Int32 => mu a) (mu v7) (fun a : Int32 => Ev mmPT tbX6_twinOfReckoning 41 [some (.ref 100), some (.ref 61), some (.int v2), some (.int v3), some (.int v4), some (.int v5), some (.int v6), some (.int a), none, none, none, none] [] (mh sc rest to fl ma tr mk cn nu de ru la tb tf ph cs) x) (kO (fun r : Int32 => (some (.int r), mh sc rest to fl ma tr mk cn nu de ru la tb tf ph cs)) x)) (Numbers_twinOfReckoning_104 tr nu v2 v3 v4 v5 v6 v7 v8 w0)) : Ev mmPT tbX6_twinOfReckoning 104 [some (.ref 100), some (.ref 61), some (.int v2), some (.int v3), some (.int v4), some (.int v5), some (.int v6), some (.int v7), some (.int v8), none, none, none] [.int w0] (mh sc rest to fl ma tr mk cn nu de ru la tb tf ph cs) x := by
  unfold Numbers_twinOfReckoning_104 at hk
  refine Ev.s (ins := .istore 9) (pc' := 106) (lv' := [some (.ref 100), some (.ref 61), some (.int v2), some (.int v3), some (.int v4), some (.int v5), some (.int v6), some (.int v7), some (.int v8), some (.int w0), none, none]) rfl rfl ?_
  refine q_ic 0 rfl rfl ?_
  refine Ev.s (ins := .istore 10) (pc' := 109) (lv' := [some (.ref 100), some (.ref 61), some (.int v2), some (.int v3), some (.int v4), some (.int v5), some (.int v6), some (.int v7), some (.int v8), some (.int w0), some (.int 0), none]) rfl rfl ?_
  exact e_Numbers_twinOfReckoning_100_61_L109 b41 hk
set_option maxRecDepth 100000 in
theorem e_Numbers_twinOfReckoning_100_61_L41b {v2 : Int32} {v3 : Int32} {v4 : Int32} {v5 : Int32} {v6 : Int32} {v7 : Int32} {x : Option Value × List mmC} (hk : (kK (fun a : Int32 => mu a) (mu v7) (fun a : Int32 => Ev mmPT tbX6_twinOfReckoning 41 [some (.ref 100), some (.ref 61), some (.int v2), some (.int v3), some (.int v4), some (.int v5), some (.int v6), some (.int a), none, none, none, none] [] (mh sc rest to fl ma tr mk cn nu de ru la tb tf ph cs) x) (kO (fun r : Int32 => (some (.int r), mh sc rest to fl ma tr mk cn nu de ru la tb tf ph cs)) x)) (Numbers_twinOfReckoning_L41b tr nu v2 v3 v4 v5 v6 v7)) : Ev mmPT tbX6_twinOfReckoning 41 [some (.ref 100), some (.ref 61), some (.int v2), some (.int v3), some (.int v4), some (.int v5), some (.int v6), some (.int v7), none, none, none, none] [] (mh sc rest to fl ma tr mk cn nu de ru la tb tf ph cs) x := by
  unfold Numbers_twinOfReckoning_L41b at hk
  refine Ev.s (ins := .iload 7) (pc' := 43) rfl rfl ?_
  refine q_bi 10 rfl rfl ?_
  refine q_cge rfl hk (fun c1 hk => ?_) (fun c1 hk => ?_)
  · refine Ev.s (ins := .aload_n 0) (pc' := 49) rfl rfl ?_
    refine gf_100_0 rfl ?_
    refine gf_101_3 rfl ?_
    refine Ev.s (ins := .iload 7) (pc' := 57) rfl rfl ?_
    refine at_108 (oat nu 3 10 v7) rfl (Nat.le_of_ble_eq_true rfl) rfl ?_
    refine Ev.s (ins := .istore 8) (pc' := 62) (lv' := [some (.ref 100), some (.ref 61), some (.int v2), some (.int v3), some (.int v4), some (.int v5), some (.int v6), some (.int v7), some (.int (oat nu 3 10 v7)), none, none, none]) rfl rfl ?_
    refine Ev.s (ins := .aload_n 0) (pc' := 63) rfl rfl ?_
    refine gf_100_0 rfl ?_
    refine gf_101_2 rfl ?_
    refine Ev.s (ins := .iload_n 2) (pc' := 70) rfl rfl ?_
    refine at_106 (oat nu 2 10 v2) rfl (Nat.le_of_ble_eq_true rfl) rfl ?_
    refine Ev.s (ins := .iload 8) (pc' := 75) rfl rfl ?_
    refine kc_X11_has_3 rfl (Nat.le_of_ble_eq_true rfl) (e_Ph_has) ?_
    refine q_bne rfl hk (fun c2 hk => ?_) (fun c2 hk => ?_)
    · refine Ev.s (ins := .iload 8) (pc' := 87) rfl rfl ?_
      refine Ev.s (ins := .iload_n 2) (pc' := 88) rfl rfl ?_
      refine q_cne rfl hk (fun c3 hk => ?_) (fun c3 hk => ?_)
      · refine Ev.s (ins := .iload_n 3) (pc' := 92) rfl rfl ?_
        refine Ev.goto rfl ?_
        exact e_Numbers_twinOfReckoning_100_61_104 (lt31 c1) hk
      · refine Ev.s (ins := .aload_n 1) (pc' := 96) rfl rfl ?_
        refine gf_61_7 rfl ?_
        refine Ev.s (ins := .iload 8) (pc' := 101) rfl rfl ?_
        refine at_76 (oat tr 7 10 (oat nu 3 10 v7)) rfl (Nat.le_of_ble_eq_true rfl) rfl ?_
        exact e_Numbers_twinOfReckoning_100_61_104 (lt31 c1) hk
    · refine q_ic 0 rfl rfl ?_
      refine Ev.goto rfl ?_
      exact e_Numbers_twinOfReckoning_100_61_104 (lt31 c1) hk
  · replace hk := kK_r hk
    refine q_ic (-1) rfl rfl ?_
    exact Ev.iret rfl rfl hk
set_option maxRecDepth 100000 in
theorem e_Numbers_twinOfReckoning_100_61_L41 {v2 : Int32} {v3 : Int32} {v4 : Int32} {v5 : Int32} {v6 : Int32} {v7 : Int32} {x : Option Value × List mmC} (hk : (kO (fun r : Int32 => (some (.int r), mh sc rest to fl ma tr mk cn nu de ru la tb tf ph cs)) x) (Numbers_twinOfReckoning_L41 tr nu v2 v3 v4 v5 v6 v7)) : Ev mmPT tbX6_twinOfReckoning 41 [some (.ref 100), some (.ref 61), some (.int v2), some (.int v3), some (.int v4), some (.int v5), some (.int v6), some (.int v7), none, none, none, none] [] (mh sc rest to fl ma tr mk cn nu de ru la tb tf ph cs) x :=
  k_loop (B := (fun a : Int32 => Numbers_twinOfReckoning_L41b tr nu v2 v3 v4 v5 v6 a)) (μ := fun a : Int32 => mu a) (E := fun a : Int32 => Ev mmPT tbX6_twinOfReckoning 41 [some (.ref 100), some (.ref 61), some (.int v2), some (.int v3), some (.int v4), some (.int v5), some (.int v6), some (.int a), none, none, none, none] [] (mh sc rest to fl ma tr mk cn nu de ru la tb tf ph cs) x) (X := (kO (fun r : Int32 => (some (.int r), mh sc rest to fl ma tr mk cn nu de ru la tb tf ph cs)) x)) (fun a hk => e_Numbers_twinOfReckoning_100_61_L41b hk) v7 hk
set_option maxRecDepth 100000 in
theorem e_Numbers_twinOfReckoning_100_61_36 {v2 : Int32} {v3 : Int32} {v4 : Int32} {v5 : Int32} {w0 : Int32} {x : Option Value × List mmC} (hk : (kO (fun r : Int32 => (some (.int r), mh sc rest to fl ma tr mk cn nu de ru la tb tf ph cs)) x) (Numbers_twinOfReckoning_36 tr nu v2 v3 v4 v5 w0)) : Ev mmPT tbX6_twinOfReckoning 36 [some (.ref 100), some (.ref 61), some (.int v2), some (.int v3), some (.int v4), some (.int v5), none, none, none, none, none, none] [.int w0] (mh sc rest to fl ma tr mk cn nu de ru la tb tf ph cs) x := by
  unfold Numbers_twinOfReckoning_36 at hk
  refine Ev.s (ins := .istore 6) (pc' := 38) (lv' := [some (.ref 100), some (.ref 61), some (.int v2), some (.int v3), some (.int v4), some (.int v5), some (.int w0), none, none, none, none, none]) rfl rfl ?_
  refine q_ic 0 rfl rfl ?_
  refine Ev.s (ins := .istore 7) (pc' := 41) (lv' := [some (.ref 100), some (.ref 61), some (.int v2), some (.int v3), some (.int v4), some (.int v5), some (.int w0), some (.int 0), none, none, none, none]) rfl rfl ?_
  exact e_Numbers_twinOfReckoning_100_61_L41 hk
set_option maxRecDepth 100000 in
theorem e_Numbers_twinOfReckoning_100_61_31 {v2 : Int32} {v3 : Int32} {v4 : Int32} {v5 : Int32} {x : Option Value × List mmC} (hk : (kO (fun r : Int32 => (some (.int r), mh sc rest to fl ma tr mk cn nu de ru la tb tf ph cs)) x) (Numbers_twinOfReckoning_31 tr nu v2 v3 v4 v5)) : Ev mmPT tbX6_twinOfReckoning 31 [some (.ref 100), some (.ref 61), some (.int v2), some (.int v3), some (.int v4), some (.int v5), none, none, none, none, none, none] [] (mh sc rest to fl ma tr mk cn nu de ru la tb tf ph cs) x := by
  unfold Numbers_twinOfReckoning_31 at hk
  refine q_ic 1 rfl rfl ?_
  refine Ev.goto rfl ?_
  exact e_Numbers_twinOfReckoning_100_61_36 hk
set_option maxRecDepth 100000 in
theorem e_Numbers_twinOfReckoning_100_61_0 {v2 : Int32} {v3 : Int32} {x : Option Value × List mmC} (hk : (kO (fun r : Int32 => (some (.int r), mh sc rest to fl ma tr mk cn nu de ru la tb tf ph cs)) x) (Numbers_twinOfReckoning tr nu v2 v3)) : Ev mmPT tbX6_twinOfReckoning 0 [some (.ref 100), some (.ref 61), some (.int v2), some (.int v3), none, none, none, none, none, none, none, none] [] (mh sc rest to fl ma tr mk cn nu de ru la tb tf ph cs) x := by
  unfold Numbers_twinOfReckoning at hk
  refine Ev.s (ins := .aload_n 1) (pc' := 1) rfl rfl ?_
  refine Ev.s (ins := .iload_n 2) (pc' := 2) rfl rfl ?_
  refine Ev.s (ins := .iload_n 3) (pc' := 3) rfl rfl ?_
  refine kc_X3_valueIn_0 rfl oi_61 rfl (Nat.le_of_ble_eq_true rfl) (e_Form_valueIn_61) ?_
  refine Ev.s (ins := .istore 4) (pc' := 8) (lv' := [some (.ref 100), some (.ref 61), some (.int v2), some (.int v3), some (.int (Form_valueIn tr v2 v3)), none, none, none, none, none, none, none]) rfl rfl ?_
  refine Ev.s (ins := .aload_n 1) (pc' := 9) rfl rfl ?_
  refine gf_61_0 rfl ?_
  refine Ev.s (ins := .iload 4) (pc' := 14) rfl rfl ?_
  refine at_62 (oat tr 0 140 (Form_valueIn tr v2 v3)) rfl (Nat.le_of_ble_eq_true rfl) rfl ?_
  refine Ev.s (ins := .istore 5) (pc' := 19) (lv' := [some (.ref 100), some (.ref 61), some (.int v2), some (.int v3), some (.int (Form_valueIn tr v2 v3)), some (.int (oat tr 0 140 (Form_valueIn tr v2 v3))), none, none, none, none, none, none]) rfl rfl ?_
  refine Ev.s (ins := .iload 5) (pc' := 21) rfl rfl ?_
  refine q_ic 1 rfl rfl ?_
  refine q_ceq rfl hk (fun c1 hk => ?_) (fun c1 hk => ?_)
  · exact e_Numbers_twinOfReckoning_100_61_31 hk
  · refine Ev.s (ins := .iload 5) (pc' := 27) rfl rfl ?_
    refine q_ic 3 rfl rfl ?_
    refine q_cne rfl hk (fun c2 hk => ?_) (fun c2 hk => ?_)
    · exact e_Numbers_twinOfReckoning_100_61_31 hk
    · refine q_ic 0 rfl rfl ?_
      exact e_Numbers_twinOfReckoning_100_61_36 hk
set_option maxRecDepth 100000 in
theorem e_Numbers_twinOfReckoning_100_61 {v2 : Int32} {v3 : Int32} : Ev mmPT tbX6_twinOfReckoning 0 [some (.ref 100), some (.ref 61), some (.int v2), some (.int v3), none, none, none, none, none, none, none, none] [] (mh sc rest to fl ma tr mk cn nu de ru la tb tf ph cs) ((fun r : Int32 => (some (.int r), mh sc rest to fl ma tr mk cn nu de ru la tb tf ph cs)) (Numbers_twinOfReckoning tr nu v2 v3)) := e_Numbers_twinOfReckoning_100_61_0 (by exact rfl)
set_option maxRecDepth 100000 in
theorem e_Numbers_visit_100_61_142 {v2 : Int32} {v3 : Int32} {x : Option Value × List mmC} (b2 : v3 < 2147483647) (hk : (kK (fun a : Int32 × Ob => mu a.1) (mu v3) (fun a : Int32 × Ob => Ev mmPT tbX6_visit 2 [some (.ref 100), some (.ref 61), some (.int v2), some (.int a.1), none, none, none, none] [] (mh sc rest to fl ma a.2 mk cn nu de ru la tb tf ph cs) x) (kO (fun r : Ob => (none, mh sc rest to fl ma r mk cn nu de ru la tb tf ph cs)) x)) (Numbers_visit_142 tr nu v2 v3)) : Ev mmPT tbX6_visit 142 [some (.ref 100), some (.ref 61), some (.int v2), some (.int v3), none, none, none, none] [] (mh sc rest to fl ma tr mk cn nu de ru la tb tf ph cs) x := by
  unfold Numbers_visit_142 at hk
  refine q_inc 1 [some (.ref 100), some (.ref 61), some (.int v2), some (.int (v3 + 1)), none, none, none, none] rfl rfl rfl rfl ?_
  refine Ev.goto rfl ?_
  replace hk := kK_l hk
  exact hk (mu_lt b2)
set_option maxRecDepth 100000 in
theorem e_Numbers_visit_100_61_96 {v2 : Int32} {v3 : Int32} {v4 : Int32} {v6 : Int32} {v7 : Int32} {x : Option Value × List mmC} (b2 : v3 < 2147483647) (hk : (kK (fun a : Int32 × Ob => mu a.1) (mu v3) (fun a : Int32 × Ob => Ev mmPT tbX6_visit 2 [some (.ref 100), some (.ref 61), some (.int v2), some (.int a.1), none, none, none, none] [] (mh sc rest to fl ma a.2 mk cn nu de ru la tb tf ph cs) x) (kO (fun r : Ob => (none, mh sc rest to fl ma r mk cn nu de ru la tb tf ph cs)) x)) (Numbers_visit_96 tr nu v2 v3 v4 v6 v7)) : Ev mmPT tbX6_visit 96 [some (.ref 100), some (.ref 61), some (.int v2), some (.int v3), some (.int v4), none, some (.int v6), some (.int v7)] [] (mh sc rest to fl ma tr mk cn nu de ru la tb tf ph cs) x := by
  unfold Numbers_visit_96 at hk
  refine Ev.s (ins := .iload 6) (pc' := 98) rfl rfl ?_
  refine q_ic (-1) rfl rfl ?_
  refine q_ceq rfl hk (fun c1 hk => ?_) (fun c1 hk => ?_)
  · refine Ev.s (ins := .iload 7) (pc' := 129) rfl rfl ?_
    refine q_ic (-1) rfl rfl ?_
    refine q_ceq rfl hk (fun c2 hk => ?_) (fun c2 hk => ?_)
    · refine Ev.weak [some (.ref 100), some (.ref 61), some (.int v2), some (.int v3), none, none, none, none] ⟨rfl, rfl, rfl, rfl, rfl, rfl, rfl, rfl, trivial⟩ ?_
      exact e_Numbers_visit_100_61_142 b2 hk
    · refine Ev.s (ins := .aload_n 1) (pc' := 134) rfl rfl ?_
      refine Ev.s (ins := .iload 4) (pc' := 136) rfl rfl ?_
      refine Ev.s (ins := .iload 7) (pc' := 138) rfl rfl ?_
      refine q_ic 0 rfl rfl ?_
      refine kc_X3_replace_0 rfl oi_61 rfl (Nat.le_of_ble_eq_true rfl) (e_Form_replace_61) ?_
      refine Ev.weak [some (.ref 100), some (.ref 61), some (.int v2), some (.int v3), none, none, none, none] ⟨rfl, rfl, rfl, rfl, rfl, rfl, rfl, rfl, trivial⟩ ?_
      exact e_Numbers_visit_100_61_142 b2 hk
  · refine Ev.s (ins := .aload_n 1) (pc' := 103) rfl rfl ?_
    refine Ev.s (ins := .iload 4) (pc' := 105) rfl rfl ?_
    refine Ev.s (ins := .aload_n 1) (pc' := 106) rfl rfl ?_
    refine Ev.s (ins := .iload 4) (pc' := 108) rfl rfl ?_
    refine Ev.s (ins := .iload 6) (pc' := 110) rfl rfl ?_
    refine kc_X3_valueOf_0 rfl oi_61 rfl (Nat.le_of_ble_eq_true rfl) (e_Form_valueOf_61) ?_
    refine Ev.s (ins := .aload_n 1) (pc' := 114) rfl rfl ?_
    refine Ev.s (ins := .iload 4) (pc' := 116) rfl rfl ?_
    refine Ev.s (ins := .iload 6) (pc' := 118) rfl rfl ?_
    refine kc_X3_numberOf_0 rfl oi_61 rfl (Nat.le_of_ble_eq_true rfl) (e_Form_numberOf_61) ?_
    refine kc_X3_replace_0 rfl oi_61 rfl (Nat.le_of_ble_eq_true rfl) (e_Form_replace_61) ?_
    refine Ev.goto rfl ?_
    refine Ev.weak [some (.ref 100), some (.ref 61), some (.int v2), some (.int v3), none, none, none, none] ⟨rfl, rfl, rfl, rfl, rfl, rfl, rfl, rfl, trivial⟩ ?_
    exact e_Numbers_visit_100_61_142 b2 hk
set_option maxRecDepth 100000 in
theorem e_Numbers_visit_100_61_79 {v2 : Int32} {v3 : Int32} {v4 : Int32} {v5 : Int32} {v6 : Int32} {v7 : Int32} {x : Option Value × List mmC} (b2 : v3 < 2147483647) (hk : (kK (fun a : Int32 × Ob => mu a.1) (mu v3) (fun a : Int32 × Ob => Ev mmPT tbX6_visit 2 [some (.ref 100), some (.ref 61), some (.int v2), some (.int a.1), none, none, none, none] [] (mh sc rest to fl ma a.2 mk cn nu de ru la tb tf ph cs) x) (kO (fun r : Ob => (none, mh sc rest to fl ma r mk cn nu de ru la tb tf ph cs)) x)) (Numbers_visit_79 tr nu v2 v3 v4 v5 v6 v7)) : Ev mmPT tbX6_visit 79 [some (.ref 100), some (.ref 61), some (.int v2), some (.int v3), some (.int v4), some (.int v5), some (.int v6), some (.int v7)] [] (mh sc rest to fl ma tr mk cn nu de ru la tb tf ph cs) x := by
  unfold Numbers_visit_79 at hk
  refine Ev.s (ins := .iload 5) (pc' := 81) rfl rfl ?_
  refine kc_X11_isReckoning_3 rfl (Nat.le_of_ble_eq_true rfl) (e_Ph_isReckoning) ?_
  refine q_beq rfl hk (fun c1 hk => ?_) (fun c1 hk => ?_)
  · refine Ev.s (ins := .aload_n 0) (pc' := 88) rfl rfl ?_
    refine Ev.s (ins := .aload_n 1) (pc' := 89) rfl rfl ?_
    refine Ev.s (ins := .iload_n 2) (pc' := 90) rfl rfl ?_
    refine Ev.s (ins := .iload_n 3) (pc' := 91) rfl rfl ?_
    refine kc_X6_twinOfReckoning_0 rfl oi_100 rfl (Nat.le_of_ble_eq_true rfl) (e_Numbers_twinOfReckoning_100_61) ?_
    refine Ev.s (ins := .istore 7) (pc' := 96) (lv' := [some (.ref 100), some (.ref 61), some (.int v2), some (.int v3), some (.int v4), some (.int v5), some (.int v6), some (.int (Numbers_twinOfReckoning tr nu v2 v3))]) rfl rfl ?_
    refine Ev.weak [some (.ref 100), some (.ref 61), some (.int v2), some (.int v3), some (.int v4), none, some (.int v6), some (.int (Numbers_twinOfReckoning tr nu v2 v3))] ⟨rfl, rfl, rfl, rfl, rfl, rfl, rfl, rfl, trivial⟩ ?_
    exact e_Numbers_visit_100_61_96 b2 hk
  · refine Ev.weak [some (.ref 100), some (.ref 61), some (.int v2), some (.int v3), some (.int v4), none, some (.int v6), some (.int v7)] ⟨rfl, rfl, rfl, rfl, rfl, rfl, rfl, rfl, trivial⟩ ?_
    exact e_Numbers_visit_100_61_96 b2 hk
set_option maxRecDepth 100000 in
theorem e_Numbers_visit_100_61_50 {v2 : Int32} {v3 : Int32} {v4 : Int32} {v5 : Int32} {w0 : Int32} {x : Option Value × List mmC} (b2 : v3 < 2147483647) (hk : (kK (fun a : Int32 × Ob => mu a.1) (mu v3) (fun a : Int32 × Ob => Ev mmPT tbX6_visit 2 [some (.ref 100), some (.ref 61), some (.int v2), some (.int a.1), none, none, none, none] [] (mh sc rest to fl ma a.2 mk cn nu de ru la tb tf ph cs) x) (kO (fun r : Ob => (none, mh sc rest to fl ma r mk cn nu de ru la tb tf ph cs)) x)) (Numbers_visit_50 tr nu v2 v3 v4 v5 w0)) : Ev mmPT tbX6_visit 50 [some (.ref 100), some (.ref 61), some (.int v2), some (.int v3), some (.int v4), some (.int v5), none, none] [.int w0] (mh sc rest to fl ma tr mk cn nu de ru la tb tf ph cs) x := by
  unfold Numbers_visit_50 at hk
  refine Ev.s (ins := .istore 6) (pc' := 52) (lv' := [some (.ref 100), some (.ref 61), some (.int v2), some (.int v3), some (.int v4), some (.int v5), some (.int w0), none]) rfl rfl ?_
  refine q_ic (-1) rfl rfl ?_
  refine Ev.s (ins := .istore 7) (pc' := 55) (lv' := [some (.ref 100), some (.ref 61), some (.int v2), some (.int v3), some (.int v4), some (.int v5), some (.int w0), some (.int (-1))]) rfl rfl ?_
  refine Ev.s (ins := .iload 5) (pc' := 57) rfl rfl ?_
  refine q_bi 9 rfl rfl ?_
  refine q_cne rfl hk (fun c1 hk => ?_) (fun c1 hk => ?_)
  · refine Ev.s (ins := .iload 6) (pc' := 64) rfl rfl ?_
    refine q_ic (-1) rfl rfl ?_
    refine q_cne rfl hk (fun c2 hk => ?_) (fun c2 hk => ?_)
    · refine Ev.s (ins := .aload_n 1) (pc' := 69) rfl rfl ?_
      refine Ev.s (ins := .iload_n 2) (pc' := 70) rfl rfl ?_
      refine Ev.s (ins := .iload_n 3) (pc' := 71) rfl rfl ?_
      refine kc_X6_twinOfPhi_2 rfl (Nat.le_of_ble_eq_true rfl) (e_Numbers_twinOfPhi_61) ?_
      refine Ev.s (ins := .istore 7) (pc' := 76) (lv' := [some (.ref 100), some (.ref 61), some (.int v2), some (.int v3), some (.int v4), some (.int v5), some (.int w0), some (.int (Numbers_twinOfPhi tr v2 v3))]) rfl rfl ?_
      refine Ev.goto rfl ?_
      refine Ev.weak [some (.ref 100), some (.ref 61), some (.int v2), some (.int v3), some (.int v4), none, some (.int w0), some (.int (Numbers_twinOfPhi tr v2 v3))] ⟨rfl, rfl, rfl, rfl, rfl, rfl, rfl, rfl, trivial⟩ ?_
      exact e_Numbers_visit_100_61_96 b2 hk
    · exact e_Numbers_visit_100_61_79 b2 hk
  · exact e_Numbers_visit_100_61_79 b2 hk
set_option maxRecDepth 100000 in
theorem e_Numbers_visit_100_61_L2b {v2 : Int32} {v3 : Int32} {x : Option Value × List mmC} (hk : (kK (fun a : Int32 × Ob => mu a.1) (mu v3) (fun a : Int32 × Ob => Ev mmPT tbX6_visit 2 [some (.ref 100), some (.ref 61), some (.int v2), some (.int a.1), none, none, none, none] [] (mh sc rest to fl ma a.2 mk cn nu de ru la tb tf ph cs) x) (kO (fun r : Ob => (none, mh sc rest to fl ma r mk cn nu de ru la tb tf ph cs)) x)) (Numbers_visit_L2b tr nu v2 v3)) : Ev mmPT tbX6_visit 2 [some (.ref 100), some (.ref 61), some (.int v2), some (.int v3), none, none, none, none] [] (mh sc rest to fl ma tr mk cn nu de ru la tb tf ph cs) x := by
  unfold Numbers_visit_L2b at hk
  refine Ev.s (ins := .iload_n 3) (pc' := 3) rfl rfl ?_
  refine Ev.s (ins := .aload_n 1) (pc' := 4) rfl rfl ?_
  refine gf_61_7 rfl ?_
  refine Ev.s (ins := .iload_n 2) (pc' := 8) rfl rfl ?_
  refine at_76 (oat tr 7 10 v2) rfl (Nat.le_of_ble_eq_true rfl) rfl ?_
  refine q_cge rfl hk (fun c1 hk => ?_) (fun c1 hk => ?_)
  · refine Ev.s (ins := .aload_n 1) (pc' := 15) rfl rfl ?_
    refine Ev.s (ins := .iload_n 2) (pc' := 16) rfl rfl ?_
    refine Ev.s (ins := .iload_n 3) (pc' := 17) rfl rfl ?_
    refine kc_X3_valueIn_0 rfl oi_61 rfl (Nat.le_of_ble_eq_true rfl) (e_Form_valueIn_61) ?_
    refine Ev.s (ins := .istore 4) (pc' := 22) (lv' := [some (.ref 100), some (.ref 61), some (.int v2), some (.int v3), some (.int (Form_valueIn tr v2 v3)), none, none, none]) rfl rfl ?_
    refine Ev.s (ins := .aload_n 1) (pc' := 23) rfl rfl ?_
    refine gf_61_0 rfl ?_
    refine Ev.s (ins := .iload 4) (pc' := 28) rfl rfl ?_
    refine at_62 (oat tr 0 140 (Form_valueIn tr v2 v3)) rfl (Nat.le_of_ble_eq_true rfl) rfl ?_
    refine Ev.s (ins := .istore 5) (pc' := 33) (lv' := [some (.ref 100), some (.ref 61), some (.int v2), some (.int v3), some (.int (Form_valueIn tr v2 v3)), some (.int (oat tr 0 140 (Form_valueIn tr v2 v3))), none, none]) rfl rfl ?_
    refine Ev.s (ins := .iload 5) (pc' := 35) rfl rfl ?_
    refine q_bi 9 rfl rfl ?_
    refine q_cne rfl hk (fun c2 hk => ?_) (fun c2 hk => ?_)
    · refine Ev.s (ins := .aload_n 1) (pc' := 41) rfl rfl ?_
      refine Ev.s (ins := .iload 4) (pc' := 43) rfl rfl ?_
      refine kc_X3_soleArgument_0 rfl oi_61 rfl (Nat.le_of_ble_eq_true rfl) (e_Form_soleArgument_61) ?_
      refine Ev.goto rfl ?_
      exact e_Numbers_visit_100_61_50 (lt31 c1) hk
    · refine q_ic (-1) rfl rfl ?_
      exact e_Numbers_visit_100_61_50 (lt31 c1) hk
  · replace hk := kK_r hk
    exact Ev.vret rfl rfl hk
set_option maxRecDepth 100000 in
theorem e_Numbers_visit_100_61_L2 {v2 : Int32} {v3 : Int32} {x : Option Value × List mmC} (hk : (kO (fun r : Ob => (none, mh sc rest to fl ma r mk cn nu de ru la tb tf ph cs)) x) (Numbers_visit_L2 tr nu v2 v3)) : Ev mmPT tbX6_visit 2 [some (.ref 100), some (.ref 61), some (.int v2), some (.int v3), none, none, none, none] [] (mh sc rest to fl ma tr mk cn nu de ru la tb tf ph cs) x :=
  k_loop (B := (fun a : Int32 × Ob => Numbers_visit_L2b a.2 nu v2 a.1)) (μ := fun a : Int32 × Ob => mu a.1) (E := fun a : Int32 × Ob => Ev mmPT tbX6_visit 2 [some (.ref 100), some (.ref 61), some (.int v2), some (.int a.1), none, none, none, none] [] (mh sc rest to fl ma a.2 mk cn nu de ru la tb tf ph cs) x) (X := (kO (fun r : Ob => (none, mh sc rest to fl ma r mk cn nu de ru la tb tf ph cs)) x)) (fun a hk => e_Numbers_visit_100_61_L2b hk) (v3, tr) hk
set_option maxRecDepth 100000 in
theorem e_Numbers_visit_100_61_0 {v2 : Int32} {x : Option Value × List mmC} (hk : (kO (fun r : Ob => (none, mh sc rest to fl ma r mk cn nu de ru la tb tf ph cs)) x) (Numbers_visit tr nu v2)) : Ev mmPT tbX6_visit 0 [some (.ref 100), some (.ref 61), some (.int v2), none, none, none, none, none] [] (mh sc rest to fl ma tr mk cn nu de ru la tb tf ph cs) x := by
  unfold Numbers_visit at hk
  refine q_ic 0 rfl rfl ?_
  refine Ev.s (ins := .istore_n 3) (pc' := 2) (lv' := [some (.ref 100), some (.ref 61), some (.int v2), some (.int 0), none, none, none, none]) rfl rfl ?_
  exact e_Numbers_visit_100_61_L2 hk
set_option maxRecDepth 100000 in
theorem e_Numbers_visit_100_61 {v2 : Int32} : Ev mmPT tbX6_visit 0 [some (.ref 100), some (.ref 61), some (.int v2), none, none, none, none, none] [] (mh sc rest to fl ma tr mk cn nu de ru la tb tf ph cs) ((fun r : Ob => (none, mh sc rest to fl ma r mk cn nu de ru la tb tf ph cs)) (Numbers_visit tr nu v2)) := e_Numbers_visit_100_61_0 (by exact rfl)
set_option maxRecDepth 100000 in
theorem e_Numbers_goOver_100_61_43 {v2 : Int32} {x : Option Value × List mmC} (b14 : v2 < 2147483647) (hk : (kK (fun a : Int32 × Ob => mu a.1) (mu v2) (fun a : Int32 × Ob => Ev mmPT tbX6_goOver 14 [some (.ref 100), some (.ref 61), some (.int a.1), none] [] (mh sc rest to fl ma a.2 mk cn nu de ru la tb tf ph cs) x) (kO (fun r : Ob × Ob => (none, mh sc rest to fl ma r.1 mk cn r.2 de ru la tb tf ph cs)) x)) (Numbers_goOver_43 tr nu v2)) : Ev mmPT tbX6_goOver 43 [some (.ref 100), some (.ref 61), some (.int v2), none] [] (mh sc rest to fl ma tr mk cn nu de ru la tb tf ph cs) x := by
  unfold Numbers_goOver_43 at hk
  refine q_inc 1 [some (.ref 100), some (.ref 61), some (.int (v2 + 1)), none] rfl rfl rfl rfl ?_
  refine Ev.goto rfl ?_
  replace hk := kK_l hk
  exact hk (mu_lt b14)
set_option maxRecDepth 100000 in
theorem e_Numbers_goOver_100_61_L14b {v2 : Int32} {x : Option Value × List mmC} (hk : (kK (fun a : Int32 × Ob => mu a.1) (mu v2) (fun a : Int32 × Ob => Ev mmPT tbX6_goOver 14 [some (.ref 100), some (.ref 61), some (.int a.1), none] [] (mh sc rest to fl ma a.2 mk cn nu de ru la tb tf ph cs) x) (kO (fun r : Ob × Ob => (none, mh sc rest to fl ma r.1 mk cn r.2 de ru la tb tf ph cs)) x)) (Numbers_goOver_L14b tr nu v2)) : Ev mmPT tbX6_goOver 14 [some (.ref 100), some (.ref 61), some (.int v2), none] [] (mh sc rest to fl ma tr mk cn nu de ru la tb tf ph cs) x := by
  unfold Numbers_goOver_L14b at hk
  refine Ev.s (ins := .iload_n 2) (pc' := 15) rfl rfl ?_
  refine q_bi 10 rfl rfl ?_
  refine q_cge rfl hk (fun c1 hk => ?_) (fun c1 hk => ?_)
  · refine Ev.s (ins := .aload_n 0) (pc' := 21) rfl rfl ?_
    refine gf_100_0 rfl ?_
    refine gf_101_3 rfl ?_
    refine Ev.s (ins := .iload_n 2) (pc' := 28) rfl rfl ?_
    refine at_108 (oat nu 3 10 v2) rfl (Nat.le_of_ble_eq_true rfl) rfl ?_
    refine Ev.s (ins := .istore_n 3) (pc' := 32) (lv' := [some (.ref 100), some (.ref 61), some (.int v2), some (.int (oat nu 3 10 v2))]) rfl rfl ?_
    refine Ev.s (ins := .iload_n 3) (pc' := 33) rfl rfl ?_
    refine q_ic (-1) rfl rfl ?_
    refine q_ceq rfl hk (fun c2 hk => ?_) (fun c2 hk => ?_)
    · refine Ev.weak [some (.ref 100), some (.ref 61), some (.int v2), none] ⟨rfl, rfl, rfl, rfl, trivial⟩ ?_
      exact e_Numbers_goOver_100_61_43 (lt31 c1) hk
    · refine Ev.s (ins := .aload_n 0) (pc' := 38) rfl rfl ?_
      refine Ev.s (ins := .aload_n 1) (pc' := 39) rfl rfl ?_
      refine Ev.s (ins := .iload_n 3) (pc' := 40) rfl rfl ?_
      refine kc_X6_visit_0 rfl oi_100 rfl (Nat.le_of_ble_eq_true rfl) (e_Numbers_visit_100_61) ?_
      refine Ev.weak [some (.ref 100), some (.ref 61), some (.int v2), none] ⟨rfl, rfl, rfl, rfl, trivial⟩ ?_
      exact e_Numbers_goOver_100_61_43 (lt31 c1) hk
  · replace hk := kK_r hk
    exact Ev.vret rfl rfl hk
set_option maxRecDepth 100000 in
theorem e_Numbers_goOver_100_61_L14 {v2 : Int32} {x : Option Value × List mmC} (hk : (kO (fun r : Ob × Ob => (none, mh sc rest to fl ma r.1 mk cn r.2 de ru la tb tf ph cs)) x) (Numbers_goOver_L14 tr nu v2)) : Ev mmPT tbX6_goOver 14 [some (.ref 100), some (.ref 61), some (.int v2), none] [] (mh sc rest to fl ma tr mk cn nu de ru la tb tf ph cs) x :=
  k_loop (B := (fun a : Int32 × Ob => Numbers_goOver_L14b a.2 nu a.1)) (μ := fun a : Int32 × Ob => mu a.1) (E := fun a : Int32 × Ob => Ev mmPT tbX6_goOver 14 [some (.ref 100), some (.ref 61), some (.int a.1), none] [] (mh sc rest to fl ma a.2 mk cn nu de ru la tb tf ph cs) x) (X := (kO (fun r : Ob × Ob => (none, mh sc rest to fl ma r.1 mk cn r.2 de ru la tb tf ph cs)) x)) (fun a hk => e_Numbers_goOver_100_61_L14b hk) (v2, tr) hk
set_option maxRecDepth 100000 in
theorem e_Numbers_goOver_100_61_0 {x : Option Value × List mmC} (hk : (kO (fun r : Ob × Ob => (none, mh sc rest to fl ma r.1 mk cn r.2 de ru la tb tf ph cs)) x) (Numbers_goOver tr nu)) : Ev mmPT tbX6_goOver 0 [some (.ref 100), some (.ref 61), none, none] [] (mh sc rest to fl ma tr mk cn nu de ru la tb tf ph cs) x := by
  unfold Numbers_goOver at hk
  refine Ev.s (ins := .aload_n 0) (pc' := 1) rfl rfl ?_
  refine Ev.s (ins := .aload_n 1) (pc' := 2) rfl rfl ?_
  refine kc_X6_readEdges_0 rfl oi_100 rfl (Nat.le_of_ble_eq_true rfl) (e_Numbers_readEdges_100_61) ?_
  refine Ev.s (ins := .aload_n 0) (pc' := 6) rfl rfl ?_
  refine gf_100_0 rfl ?_
  refine kc_X2_reckon_0 rfl oi_101 rfl (Nat.le_of_ble_eq_true rfl) (e_Flow_reckon_101) ?_
  refine q_ic 0 rfl rfl ?_
  refine Ev.s (ins := .istore_n 2) (pc' := 14) (lv' := [some (.ref 100), some (.ref 61), some (.int 0), none]) rfl rfl ?_
  exact e_Numbers_goOver_100_61_L14 hk
set_option maxRecDepth 100000 in
theorem e_Numbers_goOver_100_61 : Ev mmPT tbX6_goOver 0 [some (.ref 100), some (.ref 61), none, none] [] (mh sc rest to fl ma tr mk cn nu de ru la tb tf ph cs) ((fun r : Ob × Ob => (none, mh sc rest to fl ma r.1 mk cn r.2 de ru la tb tf ph cs)) (Numbers_goOver tr nu)) := e_Numbers_goOver_100_61_0 (by exact rfl)
set_option maxRecDepth 100000 in
theorem e_Dead_isNeededBySelf_61_55 {x : Option Value × List mmC} (hk : (kO (fun r : Bool => (some (.int (b2i r)), mh sc rest to fl ma tr mk cn nu de ru la tb tf ph cs)) x) (Dead_isNeededBySelf_55 tr)) : Ev mmPT tbX1_isNeededBySelf 55 [none, none, none, none] [] (mh sc rest to fl ma tr mk cn nu de ru la tb tf ph cs) x := by
  unfold Dead_isNeededBySelf_55 at hk
  refine q_ic 1 rfl rfl ?_
  refine Ev.goto rfl ?_
  exact Ev.zret rfl rfl (Or.inr rfl) hk
set_option maxRecDepth 100000 in
theorem e_Dead_isNeededBySelf_61_38 {v2 : Int32} {w0 : Int32} {x : Option Value × List mmC} (hk : (kO (fun r : Bool => (some (.int (b2i r)), mh sc rest to fl ma tr mk cn nu de ru la tb tf ph cs)) x) (Dead_isNeededBySelf_38 tr v2 w0)) : Ev mmPT tbX1_isNeededBySelf 38 [none, none, some (.int v2), none] [.int w0] (mh sc rest to fl ma tr mk cn nu de ru la tb tf ph cs) x := by
  unfold Dead_isNeededBySelf_38 at hk
  refine Ev.s (ins := .istore_n 3) (pc' := 39) (lv' := [none, none, some (.int v2), some (.int w0)]) rfl rfl ?_
  refine Ev.s (ins := .iload_n 2) (pc' := 40) rfl rfl ?_
  refine q_bi 7 rfl rfl ?_
  refine q_ceq rfl hk (fun c1 hk => ?_) (fun c1 hk => ?_)
  · refine Ev.weak [none, none, none, none] ⟨rfl, rfl, rfl, rfl, trivial⟩ ?_
    exact e_Dead_isNeededBySelf_61_55 hk
  · refine Ev.s (ins := .iload_n 2) (pc' := 46) rfl rfl ?_
    refine q_bi 8 rfl rfl ?_
    refine q_ceq rfl hk (fun c2 hk => ?_) (fun c2 hk => ?_)
    · refine Ev.weak [none, none, none, none] ⟨rfl, rfl, rfl, rfl, trivial⟩ ?_
      exact e_Dead_isNeededBySelf_61_55 hk
    · refine Ev.s (ins := .iload_n 3) (pc' := 52) rfl rfl ?_
      refine q_eq rfl hk (fun c3 hk => ?_) (fun c3 hk => ?_)
      · refine q_ic 0 rfl rfl ?_
        exact Ev.zret rfl rfl (Or.inl rfl) hk
      · refine Ev.weak [none, none, none, none] ⟨rfl, rfl, rfl, rfl, trivial⟩ ?_
        exact e_Dead_isNeededBySelf_61_55 hk
set_option maxRecDepth 100000 in
theorem e_Dead_isNeededBySelf_61_33 {v2 : Int32} {x : Option Value × List mmC} (hk : (kO (fun r : Bool => (some (.int (b2i r)), mh sc rest to fl ma tr mk cn nu de ru la tb tf ph cs)) x) (Dead_isNeededBySelf_33 tr v2)) : Ev mmPT tbX1_isNeededBySelf 33 [none, none, some (.int v2), none] [] (mh sc rest to fl ma tr mk cn nu de ru la tb tf ph cs) x := by
  unfold Dead_isNeededBySelf_33 at hk
  refine q_ic 1 rfl rfl ?_
  refine Ev.goto rfl ?_
  exact e_Dead_isNeededBySelf_61_38 hk
set_option maxRecDepth 100000 in
theorem e_Dead_isNeededBySelf_61_37 {v2 : Int32} {x : Option Value × List mmC} (hk : (kO (fun r : Bool => (some (.int (b2i r)), mh sc rest to fl ma tr mk cn nu de ru la tb tf ph cs)) x) (Dead_isNeededBySelf_37 tr v2)) : Ev mmPT tbX1_isNeededBySelf 37 [none, none, some (.int v2), none] [] (mh sc rest to fl ma tr mk cn nu de ru la tb tf ph cs) x := by
  unfold Dead_isNeededBySelf_37 at hk
  refine q_ic 0 rfl rfl ?_
  exact e_Dead_isNeededBySelf_61_38 hk
set_option maxRecDepth 100000 in
theorem e_Dead_isNeededBySelf_61_0 {v1 : Int32} {x : Option Value × List mmC} (hk : (kO (fun r : Bool => (some (.int (b2i r)), mh sc rest to fl ma tr mk cn nu de ru la tb tf ph cs)) x) (Dead_isNeededBySelf tr v1)) : Ev mmPT tbX1_isNeededBySelf 0 [some (.ref 61), some (.int v1), none, none] [] (mh sc rest to fl ma tr mk cn nu de ru la tb tf ph cs) x := by
  unfold Dead_isNeededBySelf at hk
  refine Ev.s (ins := .aload_n 0) (pc' := 1) rfl rfl ?_
  refine gf_61_0 rfl ?_
  refine Ev.s (ins := .iload_n 1) (pc' := 5) rfl rfl ?_
  refine at_62 (oat tr 0 140 v1) rfl (Nat.le_of_ble_eq_true rfl) rfl ?_
  refine Ev.s (ins := .istore_n 2) (pc' := 9) (lv' := [some (.ref 61), some (.int v1), some (.int (oat tr 0 140 v1)), none]) rfl rfl ?_
  refine Ev.s (ins := .iload_n 2) (pc' := 10) rfl rfl ?_
  refine q_ic 4 rfl rfl ?_
  refine q_cne rfl hk (fun c1 hk => ?_) (fun c1 hk => ?_)
  · refine Ev.s (ins := .aload_n 0) (pc' := 15) rfl rfl ?_
    refine Ev.s (ins := .iload_n 1) (pc' := 16) rfl rfl ?_
    refine q_ic 1 rfl rfl ?_
    refine kc_X3_valueOf_0 rfl oi_61 rfl (Nat.le_of_ble_eq_true rfl) (e_Form_valueOf_61) ?_
    refine q_ic (-1) rfl rfl ?_
    refine q_cne rfl hk (fun c2 hk => ?_) (fun c2 hk => ?_)
    · refine Ev.s (ins := .aload_n 0) (pc' := 25) rfl rfl ?_
      refine Ev.s (ins := .iload_n 1) (pc' := 26) rfl rfl ?_
      refine q_ic 1 rfl rfl ?_
      refine kc_X3_numberOf_0 rfl oi_61 rfl (Nat.le_of_ble_eq_true rfl) (e_Form_numberOf_61) ?_
      refine q_ne rfl hk (fun c3 hk => ?_) (fun c3 hk => ?_)
      · refine Ev.weak [none, none, some (.int (oat tr 0 140 v1)), none] ⟨rfl, rfl, rfl, rfl, trivial⟩ ?_
        exact e_Dead_isNeededBySelf_61_33 hk
      · refine Ev.weak [none, none, some (.int (oat tr 0 140 v1)), none] ⟨rfl, rfl, rfl, rfl, trivial⟩ ?_
        exact e_Dead_isNeededBySelf_61_37 hk
    · refine Ev.weak [none, none, some (.int (oat tr 0 140 v1)), none] ⟨rfl, rfl, rfl, rfl, trivial⟩ ?_
      exact e_Dead_isNeededBySelf_61_33 hk
  · refine Ev.weak [none, none, some (.int (oat tr 0 140 v1)), none] ⟨rfl, rfl, rfl, rfl, trivial⟩ ?_
    exact e_Dead_isNeededBySelf_61_37 hk
set_option maxRecDepth 100000 in
theorem e_Dead_isNeededBySelf_61 {v1 : Int32} : Ev mmPT tbX1_isNeededBySelf 0 [some (.ref 61), some (.int v1), none, none] [] (mh sc rest to fl ma tr mk cn nu de ru la tb tf ph cs) ((fun r : Bool => (some (.int (b2i r)), mh sc rest to fl ma tr mk cn nu de ru la tb tf ph cs)) (Dead_isNeededBySelf tr v1)) := e_Dead_isNeededBySelf_61_0 (by exact rfl)
end RF6
