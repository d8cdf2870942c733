/-! THE RUNS ARE THE FUNCTIONS, by program: 10 -/
section RF9
variable {sc : mmC} {rest : List mmC} {to fl ma tr mk cn nu de ru la tb tf ph : Ob} {cs : Int64}
set_option maxRecDepth 100000 in
theorem e_Law_isRunRight_184 {x : Option Value × List mmC} (hk : (kP (fun r : Bool × Ob × Ob × Ob × Ob × Ob × Ob × Ob × Ob × Ob × Int64 => (some (.int (b2i r.1)), mh sc rest to fl ma r.2.1 mk r.2.2.1 r.2.2.2.1 r.2.2.2.2.1 r.2.2.2.2.2.1 r.2.2.2.2.2.2.1 r.2.2.2.2.2.2.2.1 r.2.2.2.2.2.2.2.2.1 r.2.2.2.2.2.2.2.2.2.1 r.2.2.2.2.2.2.2.2.2.2)) x) (Law_isRunRight_184 to ma tr cn nu de ru la tb tf ph cs)) : Ev mmPT tbL_isRunRight 184 [none, none, none, none, none, none, none, none, none, none, none, none] [] (mh sc rest to fl ma tr mk cn nu de ru la tb tf ph cs) x := by
  unfold Law_isRunRight_184 at hk
  refine q_ic 0 rfl rfl ?_
  exact Ev.zret rfl rfl (Or.inl rfl) hk
set_option maxRecDepth 100000 in
theorem e_Law_isRunRight_260 {x : Option Value × List mmC} (hk : (kP (fun r : Bool × Ob × Ob × Ob × Ob × Ob × Ob × Ob × Ob × Ob × Int64 => (some (.int (b2i r.1)), mh sc rest to fl ma r.2.1 mk r.2.2.1 r.2.2.2.1 r.2.2.2.2.1 r.2.2.2.2.2.1 r.2.2.2.2.2.2.1 r.2.2.2.2.2.2.2.1 r.2.2.2.2.2.2.2.2.1 r.2.2.2.2.2.2.2.2.2.1 r.2.2.2.2.2.2.2.2.2.2)) x) (Law_isRunRight_260 to ma tr cn nu de ru la tb tf ph cs)) : Ev mmPT tbL_isRunRight 260 [none, none, none, none, none, none, none, none, none, none, none, none] [] (mh sc rest to fl ma tr mk cn nu de ru la tb tf ph cs) x := by
  unfold Law_isRunRight_260 at hk
  refine q_ic 0 rfl rfl ?_
  exact Ev.zret rfl rfl (Or.inl rfl) hk
set_option maxRecDepth 100000 in
theorem e_Law_isRunRight_368 {x : Option Value × List mmC} (hk : (kP (fun r : Bool × Ob × Ob × Ob × Ob × Ob × Ob × Ob × Ob × Ob × Int64 => (some (.int (b2i r.1)), mh sc rest to fl ma r.2.1 mk r.2.2.1 r.2.2.2.1 r.2.2.2.2.1 r.2.2.2.2.2.1 r.2.2.2.2.2.2.1 r.2.2.2.2.2.2.2.1 r.2.2.2.2.2.2.2.2.1 r.2.2.2.2.2.2.2.2.2.1 r.2.2.2.2.2.2.2.2.2.2)) x) (Law_isRunRight_368 to ma tr cn nu de ru la tb tf ph cs)) : Ev mmPT tbL_isRunRight 368 [none, none, none, none, none, none, none, none, none, none, none, none] [] (mh sc rest to fl ma tr mk cn nu de ru la tb tf ph cs) x := by
  unfold Law_isRunRight_368 at hk
  refine q_ic 0 rfl rfl ?_
  exact Ev.zret rfl rfl (Or.inl rfl) hk
set_option maxRecDepth 100000 in
theorem e_Law_isRunRight_361 {w0 : Int32} {w1 : Int32} {x : Option Value × List mmC} (hk : (kP (fun r : Bool × Ob × Ob × Ob × Ob × Ob × Ob × Ob × Ob × Ob × Int64 => (some (.int (b2i r.1)), mh sc rest to fl ma r.2.1 mk r.2.2.1 r.2.2.2.1 r.2.2.2.2.1 r.2.2.2.2.2.1 r.2.2.2.2.2.2.1 r.2.2.2.2.2.2.2.1 r.2.2.2.2.2.2.2.2.1 r.2.2.2.2.2.2.2.2.2.1 r.2.2.2.2.2.2.2.2.2.2)) x) (Law_isRunRight_361 to ma tr cn nu de ru la tb tf ph cs w0 w1)) : Ev mmPT tbL_isRunRight 361 [none, none, none, none, none, none, none, none, none, none, none, none] [.int w0, .int w1] (mh sc rest to fl ma tr mk cn nu de ru la tb tf ph cs) x := by
  unfold Law_isRunRight_361 at hk
  refine q_cne rfl hk (fun c1 hk => ?_) (fun c1 hk => ?_)
  · refine q_ic 1 rfl rfl ?_
    refine Ev.goto rfl ?_
    exact Ev.zret rfl rfl (Or.inr rfl) hk
  · exact e_Law_isRunRight_368 hk
set_option maxRecDepth 100000 in
theorem e_Law_isRunRight_L303b {v2 : Int32} {v3 : Int32} {v4 : Int32} {v9 : Int32} {v10 : Int32} {v11 : Int32} {x : Option Value × List mmC} (hk : (kK (fun a : Int32 × Int32 => mu a.2) (mu v11) (fun a : Int32 × Int32 => Ev mmPT tbL_isRunRight 303 [some (.ref 1), none, some (.int v2), some (.int v3), some (.int v4), none, none, none, none, some (.int v9), some (.int a.1), some (.int a.2)] [] (mh sc rest to fl ma tr mk cn nu de ru la tb tf ph cs) x) (kP (fun r : Bool × Ob × Ob × Ob × Ob × Ob × Ob × Ob × Ob × Ob × Int64 => (some (.int (b2i r.1)), mh sc rest to fl ma r.2.1 mk r.2.2.1 r.2.2.2.1 r.2.2.2.2.1 r.2.2.2.2.2.1 r.2.2.2.2.2.2.1 r.2.2.2.2.2.2.2.1 r.2.2.2.2.2.2.2.2.1 r.2.2.2.2.2.2.2.2.2.1 r.2.2.2.2.2.2.2.2.2.2)) x)) (Law_isRunRight_L303b to ma tr cn nu de ru la tb tf ph cs v2 v3 v4 v9 v10 v11)) : Ev mmPT tbL_isRunRight 303 [some (.ref 1), none, some (.int v2), some (.int v3), some (.int v4), none, none, none, none, some (.int v9), some (.int v10), some (.int v11)] [] (mh sc rest to fl ma tr mk cn nu de ru la tb tf ph cs) x := by
  unfold Law_isRunRight_L303b at hk
  refine Ev.s (ins := .iload 11) (pc' := 305) rfl rfl ?_
  refine q_bi 8 rfl rfl ?_
  refine q_cge rfl hk (fun c1 hk => ?_) (fun c1 hk => ?_)
  · refine Ev.s (ins := .iload 10) (pc' := 312) rfl rfl ?_
    refine q_bi 31 rfl rfl ?_
    refine Ev.s (ins := .imul) (pc' := 315) rfl rfl ?_
    refine Ev.s (ins := .aload_n 0) (pc' := 316) rfl rfl ?_
    refine Ev.s (ins := .iload 11) (pc' := 318) rfl rfl ?_
    refine q_ob hk (fun hb => hb) (fun r318 hr318 hk => ?_)
    refine kc_X11_cell_0 rfl oi_1 rfl (Nat.le_of_ble_eq_true rfl) (e_Ph_cell hr318) ?_
    refine Ev.s (ins := .iadd) (pc' := 322) rfl rfl ?_
    refine Ev.s (ins := .istore 10) (pc' := 324) (lv' := [some (.ref 1), none, some (.int v2), some (.int v3), some (.int v4), none, none, none, none, some (.int v9), some (.int ((v10 * 31) + r318)), some (.int v11)]) rfl rfl ?_
    refine q_inc 1 [some (.ref 1), none, some (.int v2), some (.int v3), some (.int v4), none, none, none, none, some (.int v9), some (.int ((v10 * 31) + r318)), some (.int (v11 + 1))] rfl rfl rfl rfl ?_
    refine Ev.goto rfl ?_
    replace hk := kK_l hk
    exact hk (mu_lt (lt31 c1))
  · replace hk := kK_r hk
    refine Ev.s (ins := .iload 10) (pc' := 332) rfl rfl ?_
    refine Ev.s (ins := .iload 9) (pc' := 334) rfl rfl ?_
    refine q_cne rfl hk (fun c2 hk => ?_) (fun c2 hk => ?_)
    · refine Ev.s (ins := .aload_n 0) (pc' := 338) rfl rfl ?_
      refine q_ic 5 rfl rfl ?_
      refine q_ob hk (fun hb => hb) (fun r339 hr339 hk => ?_)
      refine kc_X11_ofRun_0 rfl oi_1 rfl (Nat.le_of_ble_eq_true rfl) (e_Ph_ofRun hr339) ?_
      refine Ev.s (ins := .iload 4) (pc' := 344) rfl rfl ?_
      refine q_ic 2 rfl rfl ?_
      refine Ev.s (ins := .iadd) (pc' := 346) rfl rfl ?_
      refine q_cne rfl hk (fun c3 hk => ?_) (fun c3 hk => ?_)
      · refine Ev.s (ins := .aload_n 0) (pc' := 350) rfl rfl ?_
        refine q_ic 3 rfl rfl ?_
        refine q_ob hk (fun hb => hb) (fun r351 hr351 hk => ?_)
        refine kc_X11_ofRun_0 rfl oi_1 rfl (Nat.le_of_ble_eq_true rfl) (e_Ph_ofRun hr351) ?_
        refine Ev.s (ins := .aload_n 0) (pc' := 355) rfl rfl ?_
        refine q_ic 0 rfl rfl ?_
        refine Ev.s (ins := .iload_n 2) (pc' := 357) rfl rfl ?_
        refine Ev.s (ins := .iload_n 3) (pc' := 358) rfl rfl ?_
        refine q_ob hk (fun hb => hb) (fun r358 hr358 hk => ?_)
        refine kc_X11_wouldCost_0 rfl oi_1 rfl (Nat.le_of_ble_eq_true rfl) (e_Ph_wouldCost hr358) ?_
        refine Ev.weak [none, none, none, none, none, none, none, none, none, none, none, none] ⟨rfl, rfl, rfl, rfl, rfl, rfl, rfl, rfl, rfl, rfl, rfl, rfl, trivial⟩ ?_
        exact e_Law_isRunRight_361 hk
      · refine Ev.weak [none, none, none, none, none, none, none, none, none, none, none, none] ⟨rfl, rfl, rfl, rfl, rfl, rfl, rfl, rfl, rfl, rfl, rfl, rfl, trivial⟩ ?_
        exact e_Law_isRunRight_368 hk
    · refine Ev.weak [none, none, none, none, none, none, none, none, none, none, none, none] ⟨rfl, rfl, rfl, rfl, rfl, rfl, rfl, rfl, rfl, rfl, rfl, rfl, trivial⟩ ?_
      exact e_Law_isRunRight_368 hk
set_option maxRecDepth 100000 in
theorem e_Law_isRunRight_L303 {v2 : Int32} {v3 : Int32} {v4 : Int32} {v9 : Int32} {v10 : Int32} {v11 : Int32} {x : Option Value × List mmC} (hk : (kP (fun r : Bool × Ob × Ob × Ob × Ob × Ob × Ob × Ob × Ob × Ob × Int64 => (some (.int (b2i r.1)), mh sc rest to fl ma r.2.1 mk r.2.2.1 r.2.2.2.1 r.2.2.2.2.1 r.2.2.2.2.2.1 r.2.2.2.2.2.2.1 r.2.2.2.2.2.2.2.1 r.2.2.2.2.2.2.2.2.1 r.2.2.2.2.2.2.2.2.2.1 r.2.2.2.2.2.2.2.2.2.2)) x) (Law_isRunRight_L303 to ma tr cn nu de ru la tb tf ph cs v2 v3 v4 v9 v10 v11)) : Ev mmPT tbL_isRunRight 303 [some (.ref 1), none, some (.int v2), some (.int v3), some (.int v4), none, none, none, none, some (.int v9), some (.int v10), some (.int v11)] [] (mh sc rest to fl ma tr mk cn nu de ru la tb tf ph cs) x :=
  k_loop (B := (fun a : Int32 × Int32 => Law_isRunRight_L303b to ma tr cn nu de ru la tb tf ph cs v2 v3 v4 v9 a.1 a.2)) (μ := fun a : Int32 × Int32 => mu a.2) (E := fun a : Int32 × Int32 => Ev mmPT tbL_isRunRight 303 [some (.ref 1), none, some (.int v2), some (.int v3), some (.int v4), none, none, none, none, some (.int v9), some (.int a.1), some (.int a.2)] [] (mh sc rest to fl ma tr mk cn nu de ru la tb tf ph cs) x) (X := (kP (fun r : Bool × Ob × Ob × Ob × Ob × Ob × Ob × Ob × Ob × Ob × Int64 => (some (.int (b2i r.1)), mh sc rest to fl ma r.2.1 mk r.2.2.1 r.2.2.2.1 r.2.2.2.2.1 r.2.2.2.2.2.1 r.2.2.2.2.2.2.1 r.2.2.2.2.2.2.2.1 r.2.2.2.2.2.2.2.2.1 r.2.2.2.2.2.2.2.2.2.1 r.2.2.2.2.2.2.2.2.2.2)) x)) (fun a hk => e_Law_isRunRight_L303b hk) (v10, v11) hk
set_option maxRecDepth 100000 in
theorem e_Law_isRunRight_L268b {v2 : Int32} {v3 : Int32} {v4 : Int32} {v7 : Int32} {v9 : Int32} {v10 : Int32} {v11 : Int32} {x : Option Value × List mmC} (hk : (kK (fun a : Int32 × Int32 => mu a.2) (mu v11) (fun a : Int32 × Int32 => Ev mmPT tbL_isRunRight 268 [some (.ref 1), none, some (.int v2), some (.int v3), some (.int v4), none, none, some (.int v7), none, some (.int v9), some (.int a.1), some (.int a.2)] [] (mh sc rest to fl ma tr mk cn nu de ru la tb tf ph cs) x) (kP (fun r : Bool × Ob × Ob × Ob × Ob × Ob × Ob × Ob × Ob × Ob × Int64 => (some (.int (b2i r.1)), mh sc rest to fl ma r.2.1 mk r.2.2.1 r.2.2.2.1 r.2.2.2.2.1 r.2.2.2.2.2.1 r.2.2.2.2.2.2.1 r.2.2.2.2.2.2.2.1 r.2.2.2.2.2.2.2.2.1 r.2.2.2.2.2.2.2.2.2.1 r.2.2.2.2.2.2.2.2.2.2)) x)) (Law_isRunRight_L268b to ma tr cn nu de ru la tb tf ph cs v2 v3 v4 v7 v9 v10 v11)) : Ev mmPT tbL_isRunRight 268 [some (.ref 1), none, some (.int v2), some (.int v3), some (.int v4), none, none, some (.int v7), none, some (.int v9), some (.int v10), some (.int v11)] [] (mh sc rest to fl ma tr mk cn nu de ru la tb tf ph cs) x := by
  unfold Law_isRunRight_L268b at hk
  refine Ev.s (ins := .iload 11) (pc' := 270) rfl rfl ?_
  refine q_bi 60 rfl rfl ?_
  refine Ev.s (ins := .iload 7) (pc' := 274) rfl rfl ?_
  refine kc_J9_min_7cf53_2 rfl (Nat.le_of_ble_eq_true rfl) (e_J_min) ?_
  refine q_cge rfl hk (fun c1 hk => ?_) (fun c1 hk => ?_)
  · refine Ev.s (ins := .iload 10) (pc' := 282) rfl rfl ?_
    refine q_bi 31 rfl rfl ?_
    refine Ev.s (ins := .imul) (pc' := 285) rfl rfl ?_
    refine Ev.s (ins := .aload_n 0) (pc' := 286) rfl rfl ?_
    refine Ev.s (ins := .iload 11) (pc' := 288) rfl rfl ?_
    refine q_ob hk (fun hb => hb) (fun r288 hr288 hk => ?_)
    refine kc_X11_printed_0 rfl oi_1 rfl (Nat.le_of_ble_eq_true rfl) (e_Ph_printed hr288) ?_
    refine Ev.s (ins := .iadd) (pc' := 292) rfl rfl ?_
    refine Ev.s (ins := .istore 10) (pc' := 294) (lv' := [some (.ref 1), none, some (.int v2), some (.int v3), some (.int v4), none, none, some (.int v7), none, some (.int v9), some (.int ((v10 * 31) + r288)), some (.int v11)]) rfl rfl ?_
    refine q_inc 1 [some (.ref 1), none, some (.int v2), some (.int v3), some (.int v4), none, none, some (.int v7), none, some (.int v9), some (.int ((v10 * 31) + r288)), some (.int (v11 + 1))] rfl rfl rfl rfl ?_
    refine Ev.goto rfl ?_
    replace hk := kK_l hk
    exact hk (mu_lt (lt31 c1))
  · replace hk := kK_r hk
    refine q_ic 0 rfl rfl ?_
    refine Ev.s (ins := .istore 11) (pc' := 303) (lv' := [some (.ref 1), none, some (.int v2), some (.int v3), some (.int v4), none, none, some (.int v7), none, some (.int v9), some (.int v10), some (.int 0)]) rfl rfl ?_
    refine Ev.weak [some (.ref 1), none, some (.int v2), some (.int v3), some (.int v4), none, none, none, none, some (.int v9), some (.int v10), some (.int 0)] ⟨rfl, rfl, rfl, rfl, rfl, rfl, rfl, rfl, rfl, rfl, rfl, rfl, trivial⟩ ?_
    exact e_Law_isRunRight_L303 hk
set_option maxRecDepth 100000 in
theorem e_Law_isRunRight_L268 {v2 : Int32} {v3 : Int32} {v4 : Int32} {v7 : Int32} {v9 : Int32} {v10 : Int32} {v11 : Int32} {x : Option Value × List mmC} (hk : (kP (fun r : Bool × Ob × Ob × Ob × Ob × Ob × Ob × Ob × Ob × Ob × Int64 => (some (.int (b2i r.1)), mh sc rest to fl ma r.2.1 mk r.2.2.1 r.2.2.2.1 r.2.2.2.2.1 r.2.2.2.2.2.1 r.2.2.2.2.2.2.1 r.2.2.2.2.2.2.2.1 r.2.2.2.2.2.2.2.2.1 r.2.2.2.2.2.2.2.2.2.1 r.2.2.2.2.2.2.2.2.2.2)) x) (Law_isRunRight_L268 to ma tr cn nu de ru la tb tf ph cs v2 v3 v4 v7 v9 v10 v11)) : Ev mmPT tbL_isRunRight 268 [some (.ref 1), none, some (.int v2), some (.int v3), some (.int v4), none, none, some (.int v7), none, some (.int v9), some (.int v10), some (.int v11)] [] (mh sc rest to fl ma tr mk cn nu de ru la tb tf ph cs) x :=
  k_loop (B := (fun a : Int32 × Int32 => Law_isRunRight_L268b to ma tr cn nu de ru la tb tf ph cs v2 v3 v4 v7 v9 a.1 a.2)) (μ := fun a : Int32 × Int32 => mu a.2) (E := fun a : Int32 × Int32 => Ev mmPT tbL_isRunRight 268 [some (.ref 1), none, some (.int v2), some (.int v3), some (.int v4), none, none, some (.int v7), none, some (.int v9), some (.int a.1), some (.int a.2)] [] (mh sc rest to fl ma tr mk cn nu de ru la tb tf ph cs) x) (X := (kP (fun r : Bool × Ob × Ob × Ob × Ob × Ob × Ob × Ob × Ob × Ob × Int64 => (some (.int (b2i r.1)), mh sc rest to fl ma r.2.1 mk r.2.2.1 r.2.2.2.1 r.2.2.2.2.1 r.2.2.2.2.2.1 r.2.2.2.2.2.2.1 r.2.2.2.2.2.2.2.1 r.2.2.2.2.2.2.2.2.1 r.2.2.2.2.2.2.2.2.2.1 r.2.2.2.2.2.2.2.2.2.2)) x)) (fun a hk => e_Law_isRunRight_L268b hk) (v10, v11) hk
set_option maxRecDepth 100000 in
theorem e_Law_isRunRight_225 {v2 : Int32} {v3 : Int32} {v4 : Int32} {v5 : Int32} {v6 : Int32} {v7 : Int32} {v8 : Int32} {v9 : Int32} {w0 : Int32} {x : Option Value × List mmC} (hk : (kP (fun r : Bool × Ob × Ob × Ob × Ob × Ob × Ob × Ob × Ob × Ob × Int64 => (some (.int (b2i r.1)), mh sc rest to fl ma r.2.1 mk r.2.2.1 r.2.2.2.1 r.2.2.2.2.1 r.2.2.2.2.2.1 r.2.2.2.2.2.2.1 r.2.2.2.2.2.2.2.1 r.2.2.2.2.2.2.2.2.1 r.2.2.2.2.2.2.2.2.2.1 r.2.2.2.2.2.2.2.2.2.2)) x) (Law_isRunRight_225 to ma tr cn nu de ru la tb tf ph cs v2 v3 v4 v5 v6 v7 v8 v9 w0)) : Ev mmPT tbL_isRunRight 225 [some (.ref 1), none, some (.int v2), some (.int v3), some (.int v4), some (.int v5), some (.int v6), some (.int v7), some (.int v8), some (.int v9), none, none] [.int w0] (mh sc rest to fl ma tr mk cn nu de ru la tb tf ph cs) x := by
  unfold Law_isRunRight_225 at hk
  refine Ev.s (ins := .iload 5) (pc' := 227) rfl rfl ?_
  refine q_cne rfl hk (fun c1 hk => ?_) (fun c1 hk => ?_)
  · refine Ev.s (ins := .aload_n 0) (pc' := 231) rfl rfl ?_
    refine q_ic 1 rfl rfl ?_
    refine q_ob hk (fun hb => hb) (fun r232 hr232 hk => ?_)
    refine kc_X11_ofRun_0 rfl oi_1 rfl (Nat.le_of_ble_eq_true rfl) (e_Ph_ofRun hr232) ?_
    refine Ev.s (ins := .iload 6) (pc' := 237) rfl rfl ?_
    refine q_cne rfl hk (fun c2 hk => ?_) (fun c2 hk => ?_)
    · refine Ev.s (ins := .aload_n 0) (pc' := 241) rfl rfl ?_
      refine q_ic 2 rfl rfl ?_
      refine q_ob hk (fun hb => hb) (fun r242 hr242 hk => ?_)
      refine kc_X11_ofRun_0 rfl oi_1 rfl (Nat.le_of_ble_eq_true rfl) (e_Ph_ofRun hr242) ?_
      refine Ev.s (ins := .iload 7) (pc' := 247) rfl rfl ?_
      refine q_cne rfl hk (fun c3 hk => ?_) (fun c3 hk => ?_)
      · refine Ev.s (ins := .aload_n 0) (pc' := 251) rfl rfl ?_
        refine q_ic 3 rfl rfl ?_
        refine q_ob hk (fun hb => hb) (fun r252 hr252 hk => ?_)
        refine kc_X11_ofRun_0 rfl oi_1 rfl (Nat.le_of_ble_eq_true rfl) (e_Ph_ofRun hr252) ?_
        refine Ev.s (ins := .iload 8) (pc' := 257) rfl rfl ?_
        refine q_cle rfl hk (fun c4 hk => ?_) (fun c4 hk => ?_)
        · refine Ev.weak [none, none, none, none, none, none, none, none, none, none, none, none] ⟨rfl, rfl, rfl, rfl, rfl, rfl, rfl, rfl, rfl, rfl, rfl, rfl, trivial⟩ ?_
          exact e_Law_isRunRight_260 hk
        · refine q_ic 0 rfl rfl ?_
          refine Ev.s (ins := .istore 10) (pc' := 265) (lv' := [some (.ref 1), none, some (.int v2), some (.int v3), some (.int v4), some (.int v5), some (.int v6), some (.int v7), some (.int v8), some (.int v9), some (.int 0), none]) rfl rfl ?_
          refine q_ic 0 rfl rfl ?_
          refine Ev.s (ins := .istore 11) (pc' := 268) (lv' := [some (.ref 1), none, some (.int v2), some (.int v3), some (.int v4), some (.int v5), some (.int v6), some (.int v7), some (.int v8), some (.int v9), some (.int 0), some (.int 0)]) rfl rfl ?_
          refine Ev.weak [some (.ref 1), none, some (.int v2), some (.int v3), some (.int v4), none, none, some (.int v7), none, some (.int v9), some (.int 0), some (.int 0)] ⟨rfl, rfl, rfl, rfl, rfl, rfl, rfl, rfl, rfl, rfl, rfl, rfl, trivial⟩ ?_
          exact e_Law_isRunRight_L268 hk
      · refine Ev.weak [none, none, none, none, none, none, none, none, none, none, none, none] ⟨rfl, rfl, rfl, rfl, rfl, rfl, rfl, rfl, rfl, rfl, rfl, rfl, trivial⟩ ?_
        exact e_Law_isRunRight_260 hk
    · refine Ev.weak [none, none, none, none, none, none, none, none, none, none, none, none] ⟨rfl, rfl, rfl, rfl, rfl, rfl, rfl, rfl, rfl, rfl, rfl, rfl, trivial⟩ ?_
      exact e_Law_isRunRight_260 hk
  · refine Ev.weak [none, none, none, none, none, none, none, none, none, none, none, none] ⟨rfl, rfl, rfl, rfl, rfl, rfl, rfl, rfl, rfl, rfl, rfl, rfl, trivial⟩ ?_
    exact e_Law_isRunRight_260 hk
set_option maxRecDepth 100000 in
theorem e_Law_isRunRight_216 {v2 : Int32} {v3 : Int32} {v4 : Int32} {v5 : Int32} {v6 : Int32} {v7 : Int32} {v8 : Int32} {v9 : Int32} {w0 : Bool} {x : Option Value × List mmC} (hk : (kP (fun r : Bool × Ob × Ob × Ob × Ob × Ob × Ob × Ob × Ob × Ob × Int64 => (some (.int (b2i r.1)), mh sc rest to fl ma r.2.1 mk r.2.2.1 r.2.2.2.1 r.2.2.2.2.1 r.2.2.2.2.2.1 r.2.2.2.2.2.2.1 r.2.2.2.2.2.2.2.1 r.2.2.2.2.2.2.2.2.1 r.2.2.2.2.2.2.2.2.2.1 r.2.2.2.2.2.2.2.2.2.2)) x) (Law_isRunRight_216 to ma tr cn nu de ru la tb tf ph cs v2 v3 v4 v5 v6 v7 v8 v9 w0)) : Ev mmPT tbL_isRunRight 216 [some (.ref 1), none, some (.int v2), some (.int v3), some (.int v4), some (.int v5), some (.int v6), some (.int v7), some (.int v8), some (.int v9), none, none] [.int (b2i w0)] (mh sc rest to fl ma tr mk cn nu de ru la tb tf ph cs) x := by
  unfold Law_isRunRight_216 at hk
  refine q_beq rfl hk (fun c1 hk => ?_) (fun c1 hk => ?_)
  · refine Ev.s (ins := .aload_n 0) (pc' := 220) rfl rfl ?_
    refine Ev.s (ins := .iload_n 2) (pc' := 221) rfl rfl ?_
    refine Ev.s (ins := .iload_n 3) (pc' := 222) rfl rfl ?_
    refine q_ob hk (fun hb => hb) (fun r222 hr222 hk => ?_)
    refine kc_X11_runForm_0 rfl oi_1 rfl (Nat.le_of_ble_eq_true rfl) (e_Ph_runForm hr222) ?_
    exact e_Law_isRunRight_225 hk
  · refine Ev.weak [none, none, none, none, none, none, none, none, none, none, none, none] ⟨rfl, rfl, rfl, rfl, rfl, rfl, rfl, rfl, rfl, rfl, rfl, rfl, trivial⟩ ?_
    exact e_Law_isRunRight_260 hk
set_option maxRecDepth 100000 in
theorem e_Law_isRunRight_186 {v2 : Int32} {v3 : Int32} {v4 : Int32} {v5 : Int32} {v6 : Int32} {v7 : Int32} {v8 : Int32} {v9 : Int32} {x : Option Value × List mmC} (hk : (kP (fun r : Bool × Ob × Ob × Ob × Ob × Ob × Ob × Ob × Ob × Ob × Int64 => (some (.int (b2i r.1)), mh sc rest to fl ma r.2.1 mk r.2.2.1 r.2.2.2.1 r.2.2.2.2.1 r.2.2.2.2.2.1 r.2.2.2.2.2.2.1 r.2.2.2.2.2.2.2.1 r.2.2.2.2.2.2.2.2.1 r.2.2.2.2.2.2.2.2.2.1 r.2.2.2.2.2.2.2.2.2.2)) x) (Law_isRunRight_186 to ma tr cn nu de ru la tb tf ph cs v2 v3 v4 v5 v6 v7 v8 v9)) : Ev mmPT tbL_isRunRight 186 [some (.ref 1), none, some (.int v2), some (.int v3), some (.int v4), some (.int v5), some (.int v6), some (.int v7), some (.int v8), some (.int v9), none, none] [] (mh sc rest to fl ma tr mk cn nu de ru la tb tf ph cs) x := by
  unfold Law_isRunRight_186 at hk
  refine Ev.s (ins := .iload 5) (pc' := 188) rfl rfl ?_
  refine q_ic 2 rfl rfl ?_
  refine q_cne rfl hk (fun c1 hk => ?_) (fun c1 hk => ?_)
  · refine Ev.s (ins := .aload_n 0) (pc' := 193) rfl rfl ?_
    refine q_ic 5 rfl rfl ?_
    refine q_ob hk (fun hb => hb) (fun r194 hr194 hk => ?_)
    refine kc_X11_ofRun_0 rfl oi_1 rfl (Nat.le_of_ble_eq_true rfl) (e_Ph_ofRun hr194) ?_
    refine Ev.s (ins := .iload 4) (pc' := 199) rfl rfl ?_
    refine q_ic 1 rfl rfl ?_
    refine Ev.s (ins := .iadd) (pc' := 201) rfl rfl ?_
    refine q_cne rfl hk (fun c2 hk => ?_) (fun c2 hk => ?_)
    · refine q_ic 1 rfl rfl ?_
      refine Ev.goto rfl ?_
      exact Ev.zret rfl rfl (Or.inr rfl) hk
    · refine q_ic 0 rfl rfl ?_
      exact Ev.zret rfl rfl (Or.inl rfl) hk
  · refine Ev.s (ins := .aload_n 0) (pc' := 211) rfl rfl ?_
    refine Ev.s (ins := .iload_n 2) (pc' := 212) rfl rfl ?_
    refine Ev.s (ins := .iload_n 3) (pc' := 213) rfl rfl ?_
    refine q_ob hk (fun hb => hb) (fun r213 hr213 hk => ?_)
    refine kc_X11_isAlike_0 rfl oi_1 rfl (Nat.le_of_ble_eq_true rfl) (e_Ph_isAlike hr213) ?_
    exact e_Law_isRunRight_216 hk
set_option maxRecDepth 100000 in
theorem e_Law_isRunRight_146 {v2 : Int32} {v3 : Int32} {v4 : Int32} {v5 : Int32} {v6 : Int32} {v7 : Int32} {v8 : Int32} {v9 : Int32} {x : Option Value × List mmC} (hk : (kP (fun r : Bool × Ob × Ob × Ob × Ob × Ob × Ob × Ob × Ob × Ob × Int64 => (some (.int (b2i r.1)), mh sc rest to fl ma r.2.1 mk r.2.2.1 r.2.2.2.1 r.2.2.2.2.1 r.2.2.2.2.2.1 r.2.2.2.2.2.2.1 r.2.2.2.2.2.2.2.1 r.2.2.2.2.2.2.2.2.1 r.2.2.2.2.2.2.2.2.2.1 r.2.2.2.2.2.2.2.2.2.2)) x) (Law_isRunRight_146 to ma tr cn nu de ru la tb tf ph cs v2 v3 v4 v5 v6 v7 v8 v9)) : Ev mmPT tbL_isRunRight 146 [some (.ref 1), none, some (.int v2), some (.int v3), some (.int v4), some (.int v5), some (.int v6), some (.int v7), some (.int v8), some (.int v9), none, none] [] (mh sc rest to fl ma tr mk cn nu de ru la tb tf ph cs) x := by
  unfold Law_isRunRight_146 at hk
  refine Ev.s (ins := .aload_n 0) (pc' := 147) rfl rfl ?_
  refine q_ic 0 rfl rfl ?_
  refine q_ob hk (fun hb => hb) (fun r148 hr148 hk => ?_)
  refine kc_X11_ofRun_0 rfl oi_1 rfl (Nat.le_of_ble_eq_true rfl) (e_Ph_ofRun hr148) ?_
  refine Ev.s (ins := .iload 5) (pc' := 153) rfl rfl ?_
  refine q_cne rfl hk (fun c1 hk => ?_) (fun c1 hk => ?_)
  · refine Ev.s (ins := .aload_n 0) (pc' := 157) rfl rfl ?_
    refine q_ic 4 rfl rfl ?_
    refine q_ob hk (fun hb => hb) (fun r158 hr158 hk => ?_)
    refine kc_X11_ofRun_0 rfl oi_1 rfl (Nat.le_of_ble_eq_true rfl) (e_Ph_ofRun hr158) ?_
    refine q_si 300 rfl rfl ?_
    refine q_cgt rfl hk (fun c2 hk => ?_) (fun c2 hk => ?_)
    · refine Ev.weak [none, none, none, none, none, none, none, none, none, none, none, none] ⟨rfl, rfl, rfl, rfl, rfl, rfl, rfl, rfl, rfl, rfl, rfl, rfl, trivial⟩ ?_
      exact e_Law_isRunRight_184 hk
    · refine Ev.s (ins := .iload 5) (pc' := 169) rfl rfl ?_
      refine q_ic 2 rfl rfl ?_
      refine q_cne rfl hk (fun c3 hk => ?_) (fun c3 hk => ?_)
      · refine Ev.s (ins := .aload_n 0) (pc' := 174) rfl rfl ?_
        refine q_ic 4 rfl rfl ?_
        refine q_ob hk (fun hb => hb) (fun r175 hr175 hk => ?_)
        refine kc_X11_ofRun_0 rfl oi_1 rfl (Nat.le_of_ble_eq_true rfl) (e_Ph_ofRun hr175) ?_
        refine q_si 300 rfl rfl ?_
        refine q_ceq rfl hk (fun c4 hk => ?_) (fun c4 hk => ?_)
        · exact e_Law_isRunRight_186 hk
        · refine Ev.weak [none, none, none, none, none, none, none, none, none, none, none, none] ⟨rfl, rfl, rfl, rfl, rfl, rfl, rfl, rfl, rfl, rfl, rfl, rfl, trivial⟩ ?_
          exact e_Law_isRunRight_184 hk
      · exact e_Law_isRunRight_186 hk
  · refine Ev.weak [none, none, none, none, none, none, none, none, none, none, none, none] ⟨rfl, rfl, rfl, rfl, rfl, rfl, rfl, rfl, rfl, rfl, rfl, rfl, trivial⟩ ?_
    exact e_Law_isRunRight_184 hk
set_option maxRecDepth 100000 in
theorem e_Law_isRunRight_L98b {v2 : Int32} {v3 : Int32} {v4 : Int32} {v5 : Int32} {v6 : Int32} {v7 : Int32} {v8 : Int32} {v9 : Int32} {v10 : Int32} {x : Option Value × List mmC} (hk : (kK (fun a : Int32 × Int32 => mu a.2) (mu v10) (fun a : Int32 × Int32 => Ev mmPT tbL_isRunRight 98 [some (.ref 1), none, some (.int v2), some (.int v3), some (.int v4), some (.int v5), some (.int v6), some (.int v7), some (.int v8), some (.int a.1), some (.int a.2), none] [] (mh sc rest to fl ma tr mk cn nu de ru la tb tf ph cs) x) (kP (fun r : Bool × Ob × Ob × Ob × Ob × Ob × Ob × Ob × Ob × Ob × Int64 => (some (.int (b2i r.1)), mh sc rest to fl ma r.2.1 mk r.2.2.1 r.2.2.2.1 r.2.2.2.2.1 r.2.2.2.2.2.1 r.2.2.2.2.2.2.1 r.2.2.2.2.2.2.2.1 r.2.2.2.2.2.2.2.2.1 r.2.2.2.2.2.2.2.2.2.1 r.2.2.2.2.2.2.2.2.2.2)) x)) (Law_isRunRight_L98b to ma tr cn nu de ru la tb tf ph cs v2 v3 v4 v5 v6 v7 v8 v9 v10)) : Ev mmPT tbL_isRunRight 98 [some (.ref 1), none, some (.int v2), some (.int v3), some (.int v4), some (.int v5), some (.int v6), some (.int v7), some (.int v8), some (.int v9), some (.int v10), none] [] (mh sc rest to fl ma tr mk cn nu de ru la tb tf ph cs) x := by
  unfold Law_isRunRight_L98b at hk
  refine Ev.s (ins := .iload 10) (pc' := 100) rfl rfl ?_
  refine q_bi 8 rfl rfl ?_
  refine q_cge rfl hk (fun c1 hk => ?_) (fun c1 hk => ?_)
  · refine Ev.s (ins := .iload 9) (pc' := 107) rfl rfl ?_
    refine q_bi 31 rfl rfl ?_
    refine Ev.s (ins := .imul) (pc' := 110) rfl rfl ?_
    refine Ev.s (ins := .aload_n 0) (pc' := 111) rfl rfl ?_
    refine Ev.s (ins := .iload 10) (pc' := 113) rfl rfl ?_
    refine q_ob hk (fun hb => hb) (fun r113 hr113 hk => ?_)
    refine kc_X11_cell_0 rfl oi_1 rfl (Nat.le_of_ble_eq_true rfl) (e_Ph_cell hr113) ?_
    refine Ev.s (ins := .iadd) (pc' := 117) rfl rfl ?_
    refine Ev.s (ins := .istore 9) (pc' := 119) (lv' := [some (.ref 1), none, some (.int v2), some (.int v3), some (.int v4), some (.int v5), some (.int v6), some (.int v7), some (.int v8), some (.int ((v9 * 31) + r113)), some (.int v10), none]) rfl rfl ?_
    refine q_inc 1 [some (.ref 1), none, some (.int v2), some (.int v3), some (.int v4), some (.int v5), some (.int v6), some (.int v7), some (.int v8), some (.int ((v9 * 31) + r113)), some (.int (v10 + 1)), none] rfl rfl rfl rfl ?_
    refine Ev.goto rfl ?_
    replace hk := kK_l hk
    exact hk (mu_lt (lt31 c1))
  · replace hk := kK_r hk
    refine Ev.s (ins := .iload 5) (pc' := 127) rfl rfl ?_
    refine q_lt rfl hk (fun c2 hk => ?_) (fun c2 hk => ?_)
    · refine Ev.weak [none, none, none, none, none, none, none, none, none, none, none, none] ⟨rfl, rfl, rfl, rfl, rfl, rfl, rfl, rfl, rfl, rfl, rfl, rfl, trivial⟩ ?_
      exact e_Law_isRunRight_184 hk
    · refine Ev.s (ins := .iload 5) (pc' := 132) rfl rfl ?_
      refine q_ic 2 rfl rfl ?_
      refine q_cgt rfl hk (fun c3 hk => ?_) (fun c3 hk => ?_)
      · refine Ev.weak [none, none, none, none, none, none, none, none, none, none, none, none] ⟨rfl, rfl, rfl, rfl, rfl, rfl, rfl, rfl, rfl, rfl, rfl, rfl, trivial⟩ ?_
        exact e_Law_isRunRight_184 hk
      · refine Ev.s (ins := .iload 5) (pc' := 138) rfl rfl ?_
        refine q_eq rfl hk (fun c4 hk => ?_) (fun c4 hk => ?_)
        · refine Ev.weak [some (.ref 1), none, some (.int v2), some (.int v3), some (.int v4), some (.int v5), some (.int v6), some (.int v7), some (.int v8), some (.int v9), none, none] ⟨rfl, rfl, rfl, rfl, rfl, rfl, rfl, rfl, rfl, rfl, rfl, rfl, trivial⟩ ?_
          exact e_Law_isRunRight_146 hk
        · refine Ev.s (ins := .iload 6) (pc' := 143) rfl rfl ?_
          refine q_ne rfl hk (fun c5 hk => ?_) (fun c5 hk => ?_)
          · refine Ev.weak [some (.ref 1), none, some (.int v2), some (.int v3), some (.int v4), some (.int v5), some (.int v6), some (.int v7), some (.int v8), some (.int v9), none, none] ⟨rfl, rfl, rfl, rfl, rfl, rfl, rfl, rfl, rfl, rfl, rfl, rfl, trivial⟩ ?_
            exact e_Law_isRunRight_146 hk
          · refine Ev.weak [none, none, none, none, none, none, none, none, none, none, none, none] ⟨rfl, rfl, rfl, rfl, rfl, rfl, rfl, rfl, rfl, rfl, rfl, rfl, trivial⟩ ?_
            exact e_Law_isRunRight_184 hk
set_option maxRecDepth 100000 in
theorem e_Law_isRunRight_L98 {v2 : Int32} {v3 : Int32} {v4 : Int32} {v5 : Int32} {v6 : Int32} {v7 : Int32} {v8 : Int32} {v9 : Int32} {v10 : Int32} {x : Option Value × List mmC} (hk : (kP (fun r : Bool × Ob × Ob × Ob × Ob × Ob × Ob × Ob × Ob × Ob × Int64 => (some (.int (b2i r.1)), mh sc rest to fl ma r.2.1 mk r.2.2.1 r.2.2.2.1 r.2.2.2.2.1 r.2.2.2.2.2.1 r.2.2.2.2.2.2.1 r.2.2.2.2.2.2.2.1 r.2.2.2.2.2.2.2.2.1 r.2.2.2.2.2.2.2.2.2.1 r.2.2.2.2.2.2.2.2.2.2)) x) (Law_isRunRight_L98 to ma tr cn nu de ru la tb tf ph cs v2 v3 v4 v5 v6 v7 v8 v9 v10)) : Ev mmPT tbL_isRunRight 98 [some (.ref 1), none, some (.int v2), some (.int v3), some (.int v4), some (.int v5), some (.int v6), some (.int v7), some (.int v8), some (.int v9), some (.int v10), none] [] (mh sc rest to fl ma tr mk cn nu de ru la tb tf ph cs) x :=
  k_loop (B := (fun a : Int32 × Int32 => Law_isRunRight_L98b to ma tr cn nu de ru la tb tf ph cs v2 v3 v4 v5 v6 v7 v8 a.1 a.2)) (μ := fun a : Int32 × Int32 => mu a.2) (E := fun a : Int32 × Int32 => Ev mmPT tbL_isRunRight 98 [some (.ref 1), none, some (.int v2), some (.int v3), some (.int v4), some (.int v5), some (.int v6), some (.int v7), some (.int v8), some (.int a.1), some (.int a.2), none] [] (mh sc rest to fl ma tr mk cn nu de ru la tb tf ph cs) x) (X := (kP (fun r : Bool × Ob × Ob × Ob × Ob × Ob × Ob × Ob × Ob × Ob × Int64 => (some (.int (b2i r.1)), mh sc rest to fl ma r.2.1 mk r.2.2.1 r.2.2.2.1 r.2.2.2.2.1 r.2.2.2.2.2.1 r.2.2.2.2.2.2.1 r.2.2.2.2.2.2.2.1 r.2.2.2.2.2.2.2.2.1 r.2.2.2.2.2.2.2.2.2.1 r.2.2.2.2.2.2.2.2.2.2)) x)) (fun a hk => e_Law_isRunRight_L98b hk) (v9, v10) hk
set_option maxRecDepth 100000 in
theorem e_Law_isRunRight_L63b {v2 : Int32} {v3 : Int32} {v4 : Int32} {v5 : Int32} {v6 : Int32} {v7 : Int32} {v8 : Int32} {v9 : Int32} {v10 : Int32} {x : Option Value × List mmC} (hk : (kK (fun a : Int32 × Int32 => mu a.2) (mu v10) (fun a : Int32 × Int32 => Ev mmPT tbL_isRunRight 63 [some (.ref 1), none, some (.int v2), some (.int v3), some (.int v4), some (.int v5), some (.int v6), some (.int v7), some (.int v8), some (.int a.1), some (.int a.2), none] [] (mh sc rest to fl ma tr mk cn nu de ru la tb tf ph cs) x) (kP (fun r : Bool × Ob × Ob × Ob × Ob × Ob × Ob × Ob × Ob × Ob × Int64 => (some (.int (b2i r.1)), mh sc rest to fl ma r.2.1 mk r.2.2.1 r.2.2.2.1 r.2.2.2.2.1 r.2.2.2.2.2.1 r.2.2.2.2.2.2.1 r.2.2.2.2.2.2.2.1 r.2.2.2.2.2.2.2.2.1 r.2.2.2.2.2.2.2.2.2.1 r.2.2.2.2.2.2.2.2.2.2)) x)) (Law_isRunRight_L63b to ma tr cn nu de ru la tb tf ph cs v2 v3 v4 v5 v6 v7 v8 v9 v10)) : Ev mmPT tbL_isRunRight 63 [some (.ref 1), none, some (.int v2), some (.int v3), some (.int v4), some (.int v5), some (.int v6), some (.int v7), some (.int v8), some (.int v9), some (.int v10), none] [] (mh sc rest to fl ma tr mk cn nu de ru la tb tf ph cs) x := by
  unfold Law_isRunRight_L63b at hk
  refine Ev.s (ins := .iload 10) (pc' := 65) rfl rfl ?_
  refine q_bi 60 rfl rfl ?_
  refine Ev.s (ins := .iload 7) (pc' := 69) rfl rfl ?_
  refine kc_J9_min_7cf53_2 rfl (Nat.le_of_ble_eq_true rfl) (e_J_min) ?_
  refine q_cge rfl hk (fun c1 hk => ?_) (fun c1 hk => ?_)
  · refine Ev.s (ins := .iload 9) (pc' := 77) rfl rfl ?_
    refine q_bi 31 rfl rfl ?_
    refine Ev.s (ins := .imul) (pc' := 80) rfl rfl ?_
    refine Ev.s (ins := .aload_n 0) (pc' := 81) rfl rfl ?_
    refine Ev.s (ins := .iload 10) (pc' := 83) rfl rfl ?_
    refine q_ob hk (fun hb => hb) (fun r83 hr83 hk => ?_)
    refine kc_X11_printed_0 rfl oi_1 rfl (Nat.le_of_ble_eq_true rfl) (e_Ph_printed hr83) ?_
    refine Ev.s (ins := .iadd) (pc' := 87) rfl rfl ?_
    refine Ev.s (ins := .istore 9) (pc' := 89) (lv' := [some (.ref 1), none, some (.int v2), some (.int v3), some (.int v4), some (.int v5), some (.int v6), some (.int v7), some (.int v8), some (.int ((v9 * 31) + r83)), some (.int v10), none]) rfl rfl ?_
    refine q_inc 1 [some (.ref 1), none, some (.int v2), some (.int v3), some (.int v4), some (.int v5), some (.int v6), some (.int v7), some (.int v8), some (.int ((v9 * 31) + r83)), some (.int (v10 + 1)), none] rfl rfl rfl rfl ?_
    refine Ev.goto rfl ?_
    replace hk := kK_l hk
    exact hk (mu_lt (lt31 c1))
  · replace hk := kK_r hk
    refine q_ic 0 rfl rfl ?_
    refine Ev.s (ins := .istore 10) (pc' := 98) (lv' := [some (.ref 1), none, some (.int v2), some (.int v3), some (.int v4), some (.int v5), some (.int v6), some (.int v7), some (.int v8), some (.int v9), some (.int 0), none]) rfl rfl ?_
    exact e_Law_isRunRight_L98 hk
set_option maxRecDepth 100000 in
theorem e_Law_isRunRight_L63 {v2 : Int32} {v3 : Int32} {v4 : Int32} {v5 : Int32} {v6 : Int32} {v7 : Int32} {v8 : Int32} {v9 : Int32} {v10 : Int32} {x : Option Value × List mmC} (hk : (kP (fun r : Bool × Ob × Ob × Ob × Ob × Ob × Ob × Ob × Ob × Ob × Int64 => (some (.int (b2i r.1)), mh sc rest to fl ma r.2.1 mk r.2.2.1 r.2.2.2.1 r.2.2.2.2.1 r.2.2.2.2.2.1 r.2.2.2.2.2.2.1 r.2.2.2.2.2.2.2.1 r.2.2.2.2.2.2.2.2.1 r.2.2.2.2.2.2.2.2.2.1 r.2.2.2.2.2.2.2.2.2.2)) x) (Law_isRunRight_L63 to ma tr cn nu de ru la tb tf ph cs v2 v3 v4 v5 v6 v7 v8 v9 v10)) : Ev mmPT tbL_isRunRight 63 [some (.ref 1), none, some (.int v2), some (.int v3), some (.int v4), some (.int v5), some (.int v6), some (.int v7), some (.int v8), some (.int v9), some (.int v10), none] [] (mh sc rest to fl ma tr mk cn nu de ru la tb tf ph cs) x :=
  k_loop (B := (fun a : Int32 × Int32 => Law_isRunRight_L63b to ma tr cn nu de ru la tb tf ph cs v2 v3 v4 v5 v6 v7 v8 a.1 a.2)) (μ := fun a : Int32 × Int32 => mu a.2) (E := fun a : Int32 × Int32 => Ev mmPT tbL_isRunRight 63 [some (.ref 1), none, some (.int v2), some (.int v3), some (.int v4), some (.int v5), some (.int v6), some (.int v7), some (.int v8), some (.int a.1), some (.int a.2), none] [] (mh sc rest to fl ma tr mk cn nu de ru la tb tf ph cs) x) (X := (kP (fun r : Bool × Ob × Ob × Ob × Ob × Ob × Ob × Ob × Ob × Ob × Int64 => (some (.int (b2i r.1)), mh sc rest to fl ma r.2.1 mk r.2.2.1 r.2.2.2.1 r.2.2.2.2.1 r.2.2.2.2.2.1 r.2.2.2.2.2.2.1 r.2.2.2.2.2.2.2.1 r.2.2.2.2.2.2.2.2.1 r.2.2.2.2.2.2.2.2.2.1 r.2.2.2.2.2.2.2.2.2.2)) x)) (fun a hk => e_Law_isRunRight_L63b hk) (v9, v10) hk
set_option maxRecDepth 100000 in
theorem e_Law_isRunRight_34 {v2 : Int32} {v3 : Int32} {v4 : Int32} {w0 : Int32} {x : Option Value × List mmC} (hk : (kP (fun r : Bool × Ob × Ob × Ob × Ob × Ob × Ob × Ob × Ob × Ob × Int64 => (some (.int (b2i r.1)), mh sc rest to fl ma r.2.1 mk r.2.2.1 r.2.2.2.1 r.2.2.2.2.1 r.2.2.2.2.2.1 r.2.2.2.2.2.2.1 r.2.2.2.2.2.2.2.1 r.2.2.2.2.2.2.2.2.1 r.2.2.2.2.2.2.2.2.2.1 r.2.2.2.2.2.2.2.2.2.2)) x) (Law_isRunRight_34 to ma tr cn nu de ru la tb tf ph cs v2 v3 v4 w0)) : Ev mmPT tbL_isRunRight 34 [some (.ref 1), none, some (.int v2), some (.int v3), some (.int v4), none, none, none, none, none, none, none] [.int w0] (mh sc rest to fl ma tr mk cn nu de ru la tb tf ph cs) x := by
  unfold Law_isRunRight_34 at hk
  refine Ev.s (ins := .istore 5) (pc' := 36) (lv' := [some (.ref 1), none, some (.int v2), some (.int v3), some (.int v4), some (.int w0), none, none, none, none, none, none]) rfl rfl ?_
  refine Ev.s (ins := .aload_n 0) (pc' := 37) rfl rfl ?_
  refine q_ic 1 rfl rfl ?_
  refine q_ob hk (fun hb => hb) (fun r38 hr38 hk => ?_)
  refine kc_X11_ofRun_0 rfl oi_1 rfl (Nat.le_of_ble_eq_true rfl) (e_Ph_ofRun hr38) ?_
  refine Ev.s (ins := .istore 6) (pc' := 43) (lv' := [some (.ref 1), none, some (.int v2), some (.int v3), some (.int v4), some (.int w0), some (.int r38), none, none, none, none, none]) rfl rfl ?_
  refine Ev.s (ins := .aload_n 0) (pc' := 44) rfl rfl ?_
  refine q_ic 2 rfl rfl ?_
  refine q_ob hk (fun hb => hb) (fun r45 hr45 hk => ?_)
  refine kc_X11_ofRun_0 rfl oi_1 rfl (Nat.le_of_ble_eq_true rfl) (e_Ph_ofRun hr45) ?_
  refine Ev.s (ins := .istore 7) (pc' := 50) (lv' := [some (.ref 1), none, some (.int v2), some (.int v3), some (.int v4), some (.int w0), some (.int r38), some (.int r45), none, none, none, none]) rfl rfl ?_
  refine Ev.s (ins := .aload_n 0) (pc' := 51) rfl rfl ?_
  refine q_ic 3 rfl rfl ?_
  refine q_ob hk (fun hb => hb) (fun r52 hr52 hk => ?_)
  refine kc_X11_ofRun_0 rfl oi_1 rfl (Nat.le_of_ble_eq_true rfl) (e_Ph_ofRun hr52) ?_
  refine Ev.s (ins := .istore 8) (pc' := 57) (lv' := [some (.ref 1), none, some (.int v2), some (.int v3), some (.int v4), some (.int w0), some (.int r38), some (.int r45), some (.int r52), none, none, none]) rfl rfl ?_
  refine q_ic 0 rfl rfl ?_
  refine Ev.s (ins := .istore 9) (pc' := 60) (lv' := [some (.ref 1), none, some (.int v2), some (.int v3), some (.int v4), some (.int w0), some (.int r38), some (.int r45), some (.int r52), some (.int 0), none, none]) rfl rfl ?_
  refine q_ic 0 rfl rfl ?_
  refine Ev.s (ins := .istore 10) (pc' := 63) (lv' := [some (.ref 1), none, some (.int v2), some (.int v3), some (.int v4), some (.int w0), some (.int r38), some (.int r45), some (.int r52), some (.int 0), some (.int 0), none]) rfl rfl ?_
  exact e_Law_isRunRight_L63 hk
set_option maxRecDepth 100000 in
theorem e_Law_isRunRight_0 {v1 : Int32} {x : Option Value × List mmC} (hk : (kP (fun r : Bool × Ob × Ob × Ob × Ob × Ob × Ob × Ob × Ob × Ob × Int64 => (some (.int (b2i r.1)), mh sc rest to fl ma r.2.1 mk r.2.2.1 r.2.2.2.1 r.2.2.2.2.1 r.2.2.2.2.2.1 r.2.2.2.2.2.2.1 r.2.2.2.2.2.2.2.1 r.2.2.2.2.2.2.2.2.1 r.2.2.2.2.2.2.2.2.2.1 r.2.2.2.2.2.2.2.2.2.2)) x) (Law_isRunRight to ma tr cn nu de ru la tb tf ph cs v1)) : Ev mmPT tbL_isRunRight 0 [some (.ref 1), some (.int v1), none, none, none, none, none, none, none, none, none, none] [] (mh sc rest to fl ma tr mk cn nu de ru la tb tf ph cs) x := by
  unfold Law_isRunRight at hk
  refine Ev.s (ins := .iload_n 1) (pc' := 1) rfl rfl ?_
  refine q_ic 3 rfl rfl ?_
  refine Ev.s (ins := .ishr) (pc' := 3) rfl rfl ?_
  refine q_bi 20 rfl rfl ?_
  refine kc_L_below_2 rfl (Nat.le_of_ble_eq_true rfl) (e_Law_below_20) ?_
  refine q_ic 5 rfl rfl ?_
  refine Ev.s (ins := .isub) (pc' := 10) rfl rfl ?_
  refine Ev.s (ins := .istore_n 2) (pc' := 11) (lv' := [some (.ref 1), some (.int v1), some (.int ((Law_below_20 (v1 >>> (3 &&& 31))) - 5)), none, none, none, none, none, none, none, none, none]) rfl rfl ?_
  refine Ev.s (ins := .iload_n 1) (pc' := 12) rfl rfl ?_
  refine q_bi 6 rfl rfl ?_
  refine Ev.s (ins := .ishr) (pc' := 15) rfl rfl ?_
  refine q_bi 9 rfl rfl ?_
  refine kc_L_below_2 rfl (Nat.le_of_ble_eq_true rfl) (e_Law_below_9) ?_
  refine Ev.s (ins := .istore_n 3) (pc' := 21) (lv' := [some (.ref 1), some (.int v1), some (.int ((Law_below_20 (v1 >>> (3 &&& 31))) - 5)), some (.int (Law_below_9 (v1 >>> (6 &&& 31)))), none, none, none, none, none, none, none, none]) rfl rfl ?_
  refine Ev.s (ins := .aload_n 0) (pc' := 22) rfl rfl ?_
  refine q_ic 5 rfl rfl ?_
  refine q_ob hk (fun hb => hb) (fun r23 hr23 hk => ?_)
  refine kc_X11_ofRun_0 rfl oi_1 rfl (Nat.le_of_ble_eq_true rfl) (e_Ph_ofRun hr23) ?_
  refine Ev.s (ins := .istore 4) (pc' := 28) (lv' := [some (.ref 1), some (.int v1), some (.int ((Law_below_20 (v1 >>> (3 &&& 31))) - 5)), some (.int (Law_below_9 (v1 >>> (6 &&& 31)))), some (.int r23), none, none, none, none, none, none, none]) rfl rfl ?_
  refine Ev.s (ins := .aload_n 0) (pc' := 29) rfl rfl ?_
  refine Ev.s (ins := .iload_n 2) (pc' := 30) rfl rfl ?_
  refine Ev.s (ins := .iload_n 3) (pc' := 31) rfl rfl ?_
  refine kc_X11_run_0 rfl oi_1 rfl (Nat.le_of_ble_eq_true rfl) (e_Ph_run) ?_
  refine Ev.weak [some (.ref 1), none, some (.int ((Law_below_20 (v1 >>> (3 &&& 31))) - 5)), some (.int (Law_below_9 (v1 >>> (6 &&& 31)))), some (.int r23), none, none, none, none, none, none, none] ⟨rfl, rfl, rfl, rfl, rfl, rfl, rfl, rfl, rfl, rfl, rfl, rfl, trivial⟩ ?_
  exact e_Law_isRunRight_34 hk
set_option maxRecDepth 100000 in
theorem e_Law_isRunRight {v1 : Int32} {r : Bool × Ob × Ob × Ob × Ob × Ob × Ob × Ob × Ob × Ob × Int64} (hr : (Law_isRunRight to ma tr cn nu de ru la tb tf ph cs v1) = some r) : Ev mmPT tbL_isRunRight 0 [some (.ref 1), some (.int v1), none, none, none, none, none, none, none, none, none, none] [] (mh sc rest to fl ma tr mk cn nu de ru la tb tf ph cs) ((fun r : Bool × Ob × Ob × Ob × Ob × Ob × Ob × Ob × Ob × Ob × Int64 => (some (.int (b2i r.1)), mh sc rest to fl ma r.2.1 mk r.2.2.1 r.2.2.2.1 r.2.2.2.2.1 r.2.2.2.2.2.1 r.2.2.2.2.2.2.1 r.2.2.2.2.2.2.2.1 r.2.2.2.2.2.2.2.2.1 r.2.2.2.2.2.2.2.2.2.1 r.2.2.2.2.2.2.2.2.2.2)) r) := e_Law_isRunRight_0 (by rw [hr]; exact rfl)
set_option maxRecDepth 100000 in
theorem e_Law_reachedSet_L4b {v1 : Int32} {v2 : Int32} {v3 : Int32} {x : Option Value × List mmC} (hk : (kK (fun a : Int32 × Int32 => mu a.2) (mu v3) (fun a : Int32 × Int32 => Ev mmPT tbL_reachedSet 4 [some (.ref 1), some (.int v1), some (.int a.1), some (.int a.2)] [] (mh sc rest to fl ma tr mk cn nu de ru la tb tf ph cs) x) (kP (fun r : Int32 => (some (.int r), mh sc rest to fl ma tr mk cn nu de ru la tb tf ph cs)) x)) (Law_reachedSet_L4b to fl v1 v2 v3)) : Ev mmPT tbL_reachedSet 4 [some (.ref 1), some (.int v1), some (.int v2), some (.int v3)] [] (mh sc rest to fl ma tr mk cn nu de ru la tb tf ph cs) x := by
  unfold Law_reachedSet_L4b at hk
  refine Ev.s (ins := .iload_n 3) (pc' := 5) rfl rfl ?_
  refine Ev.s (ins := .iload_n 1) (pc' := 6) rfl rfl ?_
  refine q_cge rfl hk (fun c1 hk => ?_) (fun c1 hk => ?_)
  · refine Ev.s (ins := .iload_n 2) (pc' := 10) rfl rfl ?_
    refine Ev.s (ins := .aload_n 0) (pc' := 11) rfl rfl ?_
    refine Ev.s (ins := .iload_n 3) (pc' := 12) rfl rfl ?_
    refine q_ic 2 rfl rfl ?_
    refine q_ob hk (fun hb => hb) (fun r13 hr13 hk => ?_)
    refine kc_X11_ofBlock_0 rfl oi_1 rfl (Nat.le_of_ble_eq_true rfl) (e_Ph_ofBlock hr13) ?_
    refine Ev.s (ins := .iload_n 3) (pc' := 17) rfl rfl ?_
    refine Ev.s (ins := .ishl) (pc' := 18) rfl rfl ?_
    refine Ev.s (ins := .ior) (pc' := 19) rfl rfl ?_
    refine Ev.s (ins := .istore_n 2) (pc' := 20) (lv' := [some (.ref 1), some (.int v1), some (.int (v2 ||| (r13 <<< (v3 &&& 31)))), some (.int v3)]) rfl rfl ?_
    refine q_inc 1 [some (.ref 1), some (.int v1), some (.int (v2 ||| (r13 <<< (v3 &&& 31)))), some (.int (v3 + 1))] rfl rfl rfl rfl ?_
    refine Ev.goto rfl ?_
    replace hk := kK_l hk
    exact hk (mu_lt (lt31 c1))
  · replace hk := kK_r hk
    refine Ev.s (ins := .iload_n 2) (pc' := 27) rfl rfl ?_
    exact Ev.iret rfl rfl hk
set_option maxRecDepth 100000 in
theorem e_Law_reachedSet_L4 {v1 : Int32} {v2 : Int32} {v3 : Int32} {x : Option Value × List mmC} (hk : (kP (fun r : Int32 => (some (.int r), mh sc rest to fl ma tr mk cn nu de ru la tb tf ph cs)) x) (Law_reachedSet_L4 to fl v1 v2 v3)) : Ev mmPT tbL_reachedSet 4 [some (.ref 1), some (.int v1), some (.int v2), some (.int v3)] [] (mh sc rest to fl ma tr mk cn nu de ru la tb tf ph cs) x :=
  k_loop (B := (fun a : Int32 × Int32 => Law_reachedSet_L4b to fl v1 a.1 a.2)) (μ := fun a : Int32 × Int32 => mu a.2) (E := fun a : Int32 × Int32 => Ev mmPT tbL_reachedSet 4 [some (.ref 1), some (.int v1), some (.int a.1), some (.int a.2)] [] (mh sc rest to fl ma tr mk cn nu de ru la tb tf ph cs) x) (X := (kP (fun r : Int32 => (some (.int r), mh sc rest to fl ma tr mk cn nu de ru la tb tf ph cs)) x)) (fun a hk => e_Law_reachedSet_L4b hk) (v2, v3) hk
set_option maxRecDepth 100000 in
theorem e_Law_reachedSet_0 {v1 : Int32} {x : Option Value × List mmC} (hk : (kP (fun r : Int32 => (some (.int r), mh sc rest to fl ma tr mk cn nu de ru la tb tf ph cs)) x) (Law_reachedSet to fl v1)) : Ev mmPT tbL_reachedSet 0 [some (.ref 1), some (.int v1), none, none] [] (mh sc rest to fl ma tr mk cn nu de ru la tb tf ph cs) x := by
  unfold Law_reachedSet at hk
  refine q_ic 0 rfl rfl ?_
  refine Ev.s (ins := .istore_n 2) (pc' := 2) (lv' := [some (.ref 1), some (.int v1), some (.int 0), none]) rfl rfl ?_
  refine q_ic 0 rfl rfl ?_
  refine Ev.s (ins := .istore_n 3) (pc' := 4) (lv' := [some (.ref 1), some (.int v1), some (.int 0), some (.int 0)]) rfl rfl ?_
  exact e_Law_reachedSet_L4 hk
set_option maxRecDepth 100000 in
theorem e_Law_reachedSet {v1 : Int32} {r : Int32} (hr : (Law_reachedSet to fl v1) = some r) : Ev mmPT tbL_reachedSet 0 [some (.ref 1), some (.int v1), none, none] [] (mh sc rest to fl ma tr mk cn nu de ru la tb tf ph cs) ((fun r : Int32 => (some (.int r), mh sc rest to fl ma tr mk cn nu de ru la tb tf ph cs)) r) := e_Law_reachedSet_0 (by rw [hr]; exact rfl)
set_option maxRecDepth 100000 in
theorem e_Law_areBlocksRight_141 {v1 : Int32} {v2 : Int32} {v3 : Int32} {v4 : Int32} {v5 : Int32} {x : Option Value × List mmC} (b4 : v3 < 2147483647) (b75 : v5 < 2147483647) (hk : (kK (fun a : Int32 => mu a) (mu v5) (fun a : Int32 => Ev mmPT tbL_areBlocksRight 75 [some (.ref 1), some (.int v1), some (.int v2), some (.int v3), some (.int v4), some (.int a)] [] (mh sc rest to fl ma tr mk cn nu de ru la tb tf ph cs) x) (kK (fun a : Int32 × Int32 => mu a.2) (mu v3) (fun a : Int32 × Int32 => Ev mmPT tbL_areBlocksRight 4 [some (.ref 1), some (.int v1), some (.int a.1), some (.int a.2), none, none] [] (mh sc rest to fl ma tr mk cn nu de ru la tb tf ph cs) x) (kP (fun r : Bool => (some (.int (b2i r)), mh sc rest to fl ma tr mk cn nu de ru la tb tf ph cs)) x))) (Law_areBlocksRight_141 to fl ma ph v1 v2 v3 v4 v5)) : Ev mmPT tbL_areBlocksRight 141 [some (.ref 1), some (.int v1), some (.int v2), some (.int v3), some (.int v4), some (.int v5)] [] (mh sc rest to fl ma tr mk cn nu de ru la tb tf ph cs) x := by
  unfold Law_areBlocksRight_141 at hk
  refine q_inc 1 [some (.ref 1), some (.int v1), some (.int v2), some (.int v3), some (.int v4), some (.int (v5 + 1))] rfl rfl rfl rfl ?_
  refine Ev.goto rfl ?_
  replace hk := kK_l hk
  exact hk (mu_lt b75)
set_option maxRecDepth 100000 in
theorem e_Law_areBlocksRight_139 {x : Option Value × List mmC} (hk : (kP (fun r : Bool => (some (.int (b2i r)), mh sc rest to fl ma tr mk cn nu de ru la tb tf ph cs)) x) (Law_areBlocksRight_139 to fl ma ph)) : Ev mmPT tbL_areBlocksRight 139 [none, none, none, none, none, none] [] (mh sc rest to fl ma tr mk cn nu de ru la tb tf ph cs) x := by
  unfold Law_areBlocksRight_139 at hk
  refine q_ic 0 rfl rfl ?_
  exact Ev.zret rfl rfl (Or.inl rfl) hk
set_option maxRecDepth 100000 in
theorem e_Law_areBlocksRight_107 {v1 : Int32} {v2 : Int32} {v3 : Int32} {v4 : Int32} {v5 : Int32} {x : Option Value × List mmC} (b4 : v3 < 2147483647) (b75 : v5 < 2147483647) (hk : (kK (fun a : Int32 => mu a) (mu v5) (fun a : Int32 => Ev mmPT tbL_areBlocksRight 75 [some (.ref 1), some (.int v1), some (.int v2), some (.int v3), some (.int v4), some (.int a)] [] (mh sc rest to fl ma tr mk cn nu de ru la tb tf ph cs) x) (kK (fun a : Int32 × Int32 => mu a.2) (mu v3) (fun a : Int32 × Int32 => Ev mmPT tbL_areBlocksRight 4 [some (.ref 1), some (.int v1), some (.int a.1), some (.int a.2), none, none] [] (mh sc rest to fl ma tr mk cn nu de ru la tb tf ph cs) x) (kP (fun r : Bool => (some (.int (b2i r)), mh sc rest to fl ma tr mk cn nu de ru la tb tf ph cs)) x))) (Law_areBlocksRight_107 to fl ma ph v1 v2 v3 v4 v5)) : Ev mmPT tbL_areBlocksRight 107 [some (.ref 1), some (.int v1), some (.int v2), some (.int v3), some (.int v4), some (.int v5)] [] (mh sc rest to fl ma tr mk cn nu de ru la tb tf ph cs) x := by
  unfold Law_areBlocksRight_107 at hk
  refine Ev.s (ins := .iload 5) (pc' := 109) rfl rfl ?_
  refine Ev.s (ins := .iload_n 3) (pc' := 110) rfl rfl ?_
  refine q_ceq rfl hk (fun c1 hk => ?_) (fun c1 hk => ?_)
  · exact e_Law_areBlocksRight_141 b4 b75 hk
  · refine Ev.s (ins := .iload 4) (pc' := 115) rfl rfl ?_
    refine Ev.s (ins := .iload 5) (pc' := 117) rfl rfl ?_
    refine Ev.s (ins := .ishr) (pc' := 118) rfl rfl ?_
    refine q_ic 1 rfl rfl ?_
    refine Ev.s (ins := .iand) (pc' := 120) rfl rfl ?_
    refine q_ic 1 rfl rfl ?_
    refine q_cne rfl hk (fun c2 hk => ?_) (fun c2 hk => ?_)
    · refine Ev.s (ins := .aload_n 0) (pc' := 125) rfl rfl ?_
      refine Ev.s (ins := .iload 5) (pc' := 127) rfl rfl ?_
      refine q_ic 3 rfl rfl ?_
      refine q_ob hk (fun hb => hb) (fun r128 hr128 hk => ?_)
      refine kc_X11_ofBlock_0 rfl oi_1 rfl (Nat.le_of_ble_eq_true rfl) (e_Ph_ofBlock hr128) ?_
      refine Ev.s (ins := .iload_n 3) (pc' := 132) rfl rfl ?_
      refine Ev.s (ins := .ishr) (pc' := 133) rfl rfl ?_
      refine q_ic 1 rfl rfl ?_
      refine Ev.s (ins := .iand) (pc' := 135) rfl rfl ?_
      refine q_ic 1 rfl rfl ?_
      refine q_cne rfl hk (fun c3 hk => ?_) (fun c3 hk => ?_)
      · replace hk := kK_r hk
        replace hk := kK_r hk
        refine Ev.weak [none, none, none, none, none, none] ⟨rfl, rfl, rfl, rfl, rfl, rfl, trivial⟩ ?_
        exact e_Law_areBlocksRight_139 hk
      · exact e_Law_areBlocksRight_141 b4 b75 hk
    · exact e_Law_areBlocksRight_141 b4 b75 hk
set_option maxRecDepth 100000 in
theorem e_Law_areBlocksRight_177 {x : Option Value × List mmC} (hk : (kP (fun r : Bool => (some (.int (b2i r)), mh sc rest to fl ma tr mk cn nu de ru la tb tf ph cs)) x) (Law_areBlocksRight_177 to fl ma ph)) : Ev mmPT tbL_areBlocksRight 177 [none, none, none, none, none, none] [] (mh sc rest to fl ma tr mk cn nu de ru la tb tf ph cs) x := by
  unfold Law_areBlocksRight_177 at hk
  refine q_ic 0 rfl rfl ?_
  exact Ev.zret rfl rfl (Or.inl rfl) hk
set_option maxRecDepth 100000 in
theorem e_Law_areBlocksRight_L75b {v1 : Int32} {v2 : Int32} {v3 : Int32} {v4 : Int32} {v5 : Int32} {x : Option Value × List mmC} (b4 : v3 < 2147483647) (hk : (kK (fun a : Int32 => mu a) (mu v5) (fun a : Int32 => Ev mmPT tbL_areBlocksRight 75 [some (.ref 1), some (.int v1), some (.int v2), some (.int v3), some (.int v4), some (.int a)] [] (mh sc rest to fl ma tr mk cn nu de ru la tb tf ph cs) x) (kK (fun a : Int32 × Int32 => mu a.2) (mu v3) (fun a : Int32 × Int32 => Ev mmPT tbL_areBlocksRight 4 [some (.ref 1), some (.int v1), some (.int a.1), some (.int a.2), none, none] [] (mh sc rest to fl ma tr mk cn nu de ru la tb tf ph cs) x) (kP (fun r : Bool => (some (.int (b2i r)), mh sc rest to fl ma tr mk cn nu de ru la tb tf ph cs)) x))) (Law_areBlocksRight_L75b to fl ma ph v1 v2 v3 v4 v5)) : Ev mmPT tbL_areBlocksRight 75 [some (.ref 1), some (.int v1), some (.int v2), some (.int v3), some (.int v4), some (.int v5)] [] (mh sc rest to fl ma tr mk cn nu de ru la tb tf ph cs) x := by
  unfold Law_areBlocksRight_L75b at hk
  refine Ev.s (ins := .iload 5) (pc' := 77) rfl rfl ?_
  refine Ev.s (ins := .iload_n 1) (pc' := 78) rfl rfl ?_
  refine q_cge rfl hk (fun c1 hk => ?_) (fun c1 hk => ?_)
  · refine Ev.s (ins := .iload 4) (pc' := 83) rfl rfl ?_
    refine Ev.s (ins := .iload 5) (pc' := 85) rfl rfl ?_
    refine Ev.s (ins := .ishr) (pc' := 86) rfl rfl ?_
    refine q_ic 1 rfl rfl ?_
    refine Ev.s (ins := .iand) (pc' := 88) rfl rfl ?_
    refine q_ic 1 rfl rfl ?_
    refine q_cne rfl hk (fun c2 hk => ?_) (fun c2 hk => ?_)
    · refine Ev.s (ins := .aload_n 0) (pc' := 93) rfl rfl ?_
      refine Ev.s (ins := .iload 5) (pc' := 95) rfl rfl ?_
      refine q_ic 3 rfl rfl ?_
      refine q_ob hk (fun hb => hb) (fun r96 hr96 hk => ?_)
      refine kc_X11_ofBlock_0 rfl oi_1 rfl (Nat.le_of_ble_eq_true rfl) (e_Ph_ofBlock hr96) ?_
      refine Ev.s (ins := .iload 4) (pc' := 101) rfl rfl ?_
      refine q_ic (-1) rfl rfl ?_
      refine Ev.s (ins := .ixor) (pc' := 103) rfl rfl ?_
      refine Ev.s (ins := .iand) (pc' := 104) rfl rfl ?_
      refine q_ne rfl hk (fun c3 hk => ?_) (fun c3 hk => ?_)
      · exact e_Law_areBlocksRight_107 b4 (lt31 c1) hk
      · replace hk := kK_r hk
        replace hk := kK_r hk
        refine Ev.weak [none, none, none, none, none, none] ⟨rfl, rfl, rfl, rfl, rfl, rfl, trivial⟩ ?_
        exact e_Law_areBlocksRight_139 hk
    · exact e_Law_areBlocksRight_107 b4 (lt31 c1) hk
  · replace hk := kK_r hk
    refine Ev.s (ins := .aload_n 0) (pc' := 148) rfl rfl ?_
    refine Ev.s (ins := .iload_n 3) (pc' := 149) rfl rfl ?_
    refine q_ic 4 rfl rfl ?_
    refine q_ob hk (fun hb => hb) (fun r150 hr150 hk => ?_)
    refine kc_X11_ofBlock_0 rfl oi_1 rfl (Nat.le_of_ble_eq_true rfl) (e_Ph_ofBlock hr150) ?_
    refine Ev.s (ins := .iload 4) (pc' := 155) rfl rfl ?_
    refine Ev.s (ins := .iand) (pc' := 156) rfl rfl ?_
    refine q_ic 1 rfl rfl ?_
    refine Ev.s (ins := .iload_n 3) (pc' := 158) rfl rfl ?_
    refine Ev.s (ins := .ishl) (pc' := 159) rfl rfl ?_
    refine q_ic (-1) rfl rfl ?_
    refine Ev.s (ins := .ixor) (pc' := 161) rfl rfl ?_
    refine Ev.s (ins := .iand) (pc' := 162) rfl rfl ?_
    refine q_ne rfl hk (fun c2 hk => ?_) (fun c2 hk => ?_)
    · refine Ev.s (ins := .aload_n 0) (pc' := 166) rfl rfl ?_
      refine Ev.s (ins := .iload_n 3) (pc' := 167) rfl rfl ?_
      refine q_ic 4 rfl rfl ?_
      refine q_ob hk (fun hb => hb) (fun r168 hr168 hk => ?_)
      refine kc_X11_ofBlock_0 rfl oi_1 rfl (Nat.le_of_ble_eq_true rfl) (e_Ph_ofBlock hr168) ?_
      refine q_ic 1 rfl rfl ?_
      refine Ev.s (ins := .iand) (pc' := 173) rfl rfl ?_
      refine q_ic 1 rfl rfl ?_
      refine q_cne rfl hk (fun c3 hk => ?_) (fun c3 hk => ?_)
      · replace hk := kK_r hk
        refine Ev.weak [none, none, none, none, none, none] ⟨rfl, rfl, rfl, rfl, rfl, rfl, trivial⟩ ?_
        exact e_Law_areBlocksRight_177 hk
      · refine q_inc 1 [some (.ref 1), some (.int v1), some (.int v2), some (.int (v3 + 1)), some (.int v4), some (.int v5)] rfl rfl rfl rfl ?_
        refine Ev.goto rfl ?_
        refine Ev.weak [some (.ref 1), some (.int v1), some (.int v2), some (.int (v3 + 1)), none, none] ⟨rfl, rfl, rfl, rfl, rfl, rfl, trivial⟩ ?_
        replace hk := kK_l hk
        exact hk (mu_lt b4)
    · replace hk := kK_r hk
      refine Ev.weak [none, none, none, none, none, none] ⟨rfl, rfl, rfl, rfl, rfl, rfl, trivial⟩ ?_
      exact e_Law_areBlocksRight_177 hk
set_option maxRecDepth 100000 in
theorem e_Law_areBlocksRight_L75 {v1 : Int32} {v2 : Int32} {v3 : Int32} {v4 : Int32} {v5 : Int32} {x : Option Value × List mmC} (b4 : v3 < 2147483647) (hk : (kK (fun a : Int32 × Int32 => mu a.2) (mu v3) (fun a : Int32 × Int32 => Ev mmPT tbL_areBlocksRight 4 [some (.ref 1), some (.int v1), some (.int a.1), some (.int a.2), none, none] [] (mh sc rest to fl ma tr mk cn nu de ru la tb tf ph cs) x) (kP (fun r : Bool => (some (.int (b2i r)), mh sc rest to fl ma tr mk cn nu de ru la tb tf ph cs)) x)) (Law_areBlocksRight_L75 to fl ma ph v1 v2 v3 v4 v5)) : Ev mmPT tbL_areBlocksRight 75 [some (.ref 1), some (.int v1), some (.int v2), some (.int v3), some (.int v4), some (.int v5)] [] (mh sc rest to fl ma tr mk cn nu de ru la tb tf ph cs) x :=
  k_loop (B := (fun a : Int32 => Law_areBlocksRight_L75b to fl ma ph v1 v2 v3 v4 a)) (μ := fun a : Int32 => mu a) (E := fun a : Int32 => Ev mmPT tbL_areBlocksRight 75 [some (.ref 1), some (.int v1), some (.int v2), some (.int v3), some (.int v4), some (.int a)] [] (mh sc rest to fl ma tr mk cn nu de ru la tb tf ph cs) x) (X := (kK (fun a : Int32 × Int32 => mu a.2) (mu v3) (fun a : Int32 × Int32 => Ev mmPT tbL_areBlocksRight 4 [some (.ref 1), some (.int v1), some (.int a.1), some (.int a.2), none, none] [] (mh sc rest to fl ma tr mk cn nu de ru la tb tf ph cs) x) (kP (fun r : Bool => (some (.int (b2i r)), mh sc rest to fl ma tr mk cn nu de ru la tb tf ph cs)) x))) (fun a hk => e_Law_areBlocksRight_L75b b4 hk) v5 hk
set_option maxRecDepth 100000 in
theorem e_Law_areBlocksRight_72 {v1 : Int32} {v2 : Int32} {v3 : Int32} {v4 : Int32} {x : Option Value × List mmC} (b4 : v3 < 2147483647) (hk : (kK (fun a : Int32 × Int32 => mu a.2) (mu v3) (fun a : Int32 × Int32 => Ev mmPT tbL_areBlocksRight 4 [some (.ref 1), some (.int v1), some (.int a.1), some (.int a.2), none, none] [] (mh sc rest to fl ma tr mk cn nu de ru la tb tf ph cs) x) (kP (fun r : Bool => (some (.int (b2i r)), mh sc rest to fl ma tr mk cn nu de ru la tb tf ph cs)) x)) (Law_areBlocksRight_72 to fl ma ph v1 v2 v3 v4)) : Ev mmPT tbL_areBlocksRight 72 [some (.ref 1), some (.int v1), some (.int v2), some (.int v3), some (.int v4), none] [] (mh sc rest to fl ma tr mk cn nu de ru la tb tf ph cs) x := by
  unfold Law_areBlocksRight_72 at hk
  refine q_ic 0 rfl rfl ?_
  refine Ev.s (ins := .istore 5) (pc' := 75) (lv' := [some (.ref 1), some (.int v1), some (.int v2), some (.int v3), some (.int v4), some (.int 0)]) rfl rfl ?_
  exact e_Law_areBlocksRight_L75 b4 hk
set_option maxRecDepth 100000 in
theorem e_Law_areBlocksRight_70 {x : Option Value × List mmC} (hk : (kP (fun r : Bool => (some (.int (b2i r)), mh sc rest to fl ma tr mk cn nu de ru la tb tf ph cs)) x) (Law_areBlocksRight_70 to fl ma ph)) : Ev mmPT tbL_areBlocksRight 70 [none, none, none, none, none, none] [] (mh sc rest to fl ma tr mk cn nu de ru la tb tf ph cs) x := by
  unfold Law_areBlocksRight_70 at hk
  refine q_ic 0 rfl rfl ?_
  exact Ev.zret rfl rfl (Or.inl rfl) hk
set_option maxRecDepth 100000 in
theorem e_Law_areBlocksRight_212 {x : Option Value × List mmC} (hk : (kP (fun r : Bool => (some (.int (b2i r)), mh sc rest to fl ma tr mk cn nu de ru la tb tf ph cs)) x) (Law_areBlocksRight_212 to fl ma ph)) : Ev mmPT tbL_areBlocksRight 212 [none, none, none, none, none, none] [] (mh sc rest to fl ma tr mk cn nu de ru la tb tf ph cs) x := by
  unfold Law_areBlocksRight_212 at hk
  refine q_ic 0 rfl rfl ?_
  exact Ev.zret rfl rfl (Or.inl rfl) hk
set_option maxRecDepth 100000 in
theorem e_Law_areBlocksRight_L4b {v1 : Int32} {v2 : Int32} {v3 : Int32} {x : Option Value × List mmC} (hk : (kK (fun a : Int32 × Int32 => mu a.2) (mu v3) (fun a : Int32 × Int32 => Ev mmPT tbL_areBlocksRight 4 [some (.ref 1), some (.int v1), some (.int a.1), some (.int a.2), none, none] [] (mh sc rest to fl ma tr mk cn nu de ru la tb tf ph cs) x) (kP (fun r : Bool => (some (.int (b2i r)), mh sc rest to fl ma tr mk cn nu de ru la tb tf ph cs)) x)) (Law_areBlocksRight_L4b to fl ma ph v1 v2 v3)) : Ev mmPT tbL_areBlocksRight 4 [some (.ref 1), some (.int v1), some (.int v2), some (.int v3), none, none] [] (mh sc rest to fl ma tr mk cn nu de ru la tb tf ph cs) x := by
  unfold Law_areBlocksRight_L4b at hk
  refine Ev.s (ins := .iload_n 3) (pc' := 5) rfl rfl ?_
  refine Ev.s (ins := .iload_n 1) (pc' := 6) rfl rfl ?_
  refine q_cge rfl hk (fun c1 hk => ?_) (fun c1 hk => ?_)
  · refine Ev.s (ins := .iload_n 2) (pc' := 10) rfl rfl ?_
    refine Ev.s (ins := .aload_n 0) (pc' := 11) rfl rfl ?_
    refine Ev.s (ins := .iload_n 3) (pc' := 12) rfl rfl ?_
    refine q_ic 2 rfl rfl ?_
    refine q_ob hk (fun hb => hb) (fun r13 hr13 hk => ?_)
    refine kc_X11_ofBlock_0 rfl oi_1 rfl (Nat.le_of_ble_eq_true rfl) (e_Ph_ofBlock hr13) ?_
    refine Ev.s (ins := .iadd) (pc' := 17) rfl rfl ?_
    refine Ev.s (ins := .istore_n 2) (pc' := 18) (lv' := [some (.ref 1), some (.int v1), some (.int (v2 + r13)), some (.int v3), none, none]) rfl rfl ?_
    refine Ev.s (ins := .aload_n 0) (pc' := 19) rfl rfl ?_
    refine Ev.s (ins := .iload_n 3) (pc' := 20) rfl rfl ?_
    refine q_ic 3 rfl rfl ?_
    refine q_ob hk (fun hb => hb) (fun r21 hr21 hk => ?_)
    refine kc_X11_ofBlock_0 rfl oi_1 rfl (Nat.le_of_ble_eq_true rfl) (e_Ph_ofBlock hr21) ?_
    refine Ev.s (ins := .istore 4) (pc' := 26) (lv' := [some (.ref 1), some (.int v1), some (.int (v2 + r13)), some (.int v3), some (.int r21), none]) rfl rfl ?_
    refine Ev.s (ins := .aload_n 0) (pc' := 27) rfl rfl ?_
    refine Ev.s (ins := .iload_n 3) (pc' := 28) rfl rfl ?_
    refine q_ic 2 rfl rfl ?_
    refine q_ob hk (fun hb => hb) (fun r29 hr29 hk => ?_)
    refine kc_X11_ofBlock_0 rfl oi_1 rfl (Nat.le_of_ble_eq_true rfl) (e_Ph_ofBlock hr29) ?_
    refine q_ne rfl hk (fun c2 hk => ?_) (fun c2 hk => ?_)
    · refine Ev.s (ins := .iload 4) (pc' := 37) rfl rfl ?_
      refine q_ne rfl hk (fun c3 hk => ?_) (fun c3 hk => ?_)
      · refine Ev.s (ins := .aload_n 0) (pc' := 41) rfl rfl ?_
        refine Ev.s (ins := .iload_n 3) (pc' := 42) rfl rfl ?_
        refine q_ic 4 rfl rfl ?_
        refine q_ob hk (fun hb => hb) (fun r43 hr43 hk => ?_)
        refine kc_X11_ofBlock_0 rfl oi_1 rfl (Nat.le_of_ble_eq_true rfl) (e_Ph_ofBlock hr43) ?_
        refine q_ne rfl hk (fun c4 hk => ?_) (fun c4 hk => ?_)
        · refine Ev.s (ins := .aload_n 0) (pc' := 50) rfl rfl ?_
          refine Ev.s (ins := .iload_n 3) (pc' := 51) rfl rfl ?_
          refine q_ic 5 rfl rfl ?_
          refine q_ob hk (fun hb => hb) (fun r52 hr52 hk => ?_)
          refine kc_X11_ofBlock_0 rfl oi_1 rfl (Nat.le_of_ble_eq_true rfl) (e_Ph_ofBlock hr52) ?_
          refine q_eq rfl hk (fun c5 hk => ?_) (fun c5 hk => ?_)
          · exact e_Law_areBlocksRight_72 (lt31 c1) hk
          · replace hk := kK_r hk
            refine Ev.goto rfl ?_
            refine Ev.weak [none, none, none, none, none, none] ⟨rfl, rfl, rfl, rfl, rfl, rfl, trivial⟩ ?_
            exact e_Law_areBlocksRight_70 hk
        · replace hk := kK_r hk
          refine Ev.weak [none, none, none, none, none, none] ⟨rfl, rfl, rfl, rfl, rfl, rfl, trivial⟩ ?_
          exact e_Law_areBlocksRight_70 hk
      · replace hk := kK_r hk
        refine Ev.weak [none, none, none, none, none, none] ⟨rfl, rfl, rfl, rfl, rfl, rfl, trivial⟩ ?_
        exact e_Law_areBlocksRight_70 hk
    · refine Ev.s (ins := .iload 4) (pc' := 63) rfl rfl ?_
      refine Ev.s (ins := .iload_n 3) (pc' := 64) rfl rfl ?_
      refine Ev.s (ins := .ishr) (pc' := 65) rfl rfl ?_
      refine q_ic 1 rfl rfl ?_
      refine Ev.s (ins := .iand) (pc' := 67) rfl rfl ?_
      refine q_ne rfl hk (fun c3 hk => ?_) (fun c3 hk => ?_)
      · replace hk := kK_r hk
        refine Ev.weak [none, none, none, none, none, none] ⟨rfl, rfl, rfl, rfl, rfl, rfl, trivial⟩ ?_
        exact e_Law_areBlocksRight_70 hk
      · exact e_Law_areBlocksRight_72 (lt31 c1) hk
  · replace hk := kK_r hk
    refine Ev.s (ins := .aload_n 0) (pc' := 186) rfl rfl ?_
    refine q_ic 1 rfl rfl ?_
    refine q_ob hk (fun hb => hb) (fun r187 hr187 hk => ?_)
    refine kc_X11_many_0 rfl oi_1 rfl (Nat.le_of_ble_eq_true rfl) (e_Ph_many hr187) ?_
    refine Ev.s (ins := .iload_n 2) (pc' := 191) rfl rfl ?_
    refine q_cne rfl hk (fun c2 hk => ?_) (fun c2 hk => ?_)
    · refine Ev.s (ins := .aload_n 0) (pc' := 195) rfl rfl ?_
      refine q_ic 0 rfl rfl ?_
      refine q_ic 3 rfl rfl ?_
      refine q_ob hk (fun hb => hb) (fun r197 hr197 hk => ?_)
      refine kc_X11_ofBlock_0 rfl oi_1 rfl (Nat.le_of_ble_eq_true rfl) (e_Ph_ofBlock hr197) ?_
      refine Ev.s (ins := .aload_n 0) (pc' := 201) rfl rfl ?_
      refine Ev.s (ins := .iload_n 1) (pc' := 202) rfl rfl ?_
      refine q_ob hk (fun hb => hb) (fun r202 hr202 hk => ?_)
      refine kc_L_reachedSet_2 rfl (Nat.le_of_ble_eq_true rfl) (e_Law_reachedSet hr202) ?_
      refine q_cne rfl hk (fun c3 hk => ?_) (fun c3 hk => ?_)
      · refine q_ic 1 rfl rfl ?_
        refine Ev.goto rfl ?_
        exact Ev.zret rfl rfl (Or.inr rfl) hk
      · refine Ev.weak [none, none, none, none, none, none] ⟨rfl, rfl, rfl, rfl, rfl, rfl, trivial⟩ ?_
        exact e_Law_areBlocksRight_212 hk
    · refine Ev.weak [none, none, none, none, none, none] ⟨rfl, rfl, rfl, rfl, rfl, rfl, trivial⟩ ?_
      exact e_Law_areBlocksRight_212 hk
set_option maxRecDepth 100000 in
theorem e_Law_areBlocksRight_L4 {v1 : Int32} {v2 : Int32} {v3 : Int32} {x : Option Value × List mmC} (hk : (kP (fun r : Bool => (some (.int (b2i r)), mh sc rest to fl ma tr mk cn nu de ru la tb tf ph cs)) x) (Law_areBlocksRight_L4 to fl ma ph v1 v2 v3)) : Ev mmPT tbL_areBlocksRight 4 [some (.ref 1), some (.int v1), some (.int v2), some (.int v3), none, none] [] (mh sc rest to fl ma tr mk cn nu de ru la tb tf ph cs) x :=
  k_loop (B := (fun a : Int32 × Int32 => Law_areBlocksRight_L4b to fl ma ph v1 a.1 a.2)) (μ := fun a : Int32 × Int32 => mu a.2) (E := fun a : Int32 × Int32 => Ev mmPT tbL_areBlocksRight 4 [some (.ref 1), some (.int v1), some (.int a.1), some (.int a.2), none, none] [] (mh sc rest to fl ma tr mk cn nu de ru la tb tf ph cs) x) (X := (kP (fun r : Bool => (some (.int (b2i r)), mh sc rest to fl ma tr mk cn nu de ru la tb tf ph cs)) x)) (fun a hk => e_Law_areBlocksRight_L4b hk) (v2, v3) hk
set_option maxRecDepth 100000 in
theorem e_Law_areBlocksRight_0 {v1 : Int32} {x : Option Value × List mmC} (hk : (kP (fun r : Bool => (some (.int (b2i r)), mh sc rest to fl ma tr mk cn nu de ru la tb tf ph cs)) x) (Law_areBlocksRight to fl ma ph v1)) : Ev mmPT tbL_areBlocksRight 0 [some (.ref 1), some (.int v1), none, none, none, none] [] (mh sc rest to fl ma tr mk cn nu de ru la tb tf ph cs) x := by
  unfold Law_areBlocksRight at hk
  refine q_ic 0 rfl rfl ?_
  refine Ev.s (ins := .istore_n 2) (pc' := 2) (lv' := [some (.ref 1), some (.int v1), some (.int 0), none, none, none]) rfl rfl ?_
  refine q_ic 0 rfl rfl ?_
  refine Ev.s (ins := .istore_n 3) (pc' := 4) (lv' := [some (.ref 1), some (.int v1), some (.int 0), some (.int 0), none, none]) rfl rfl ?_
  exact e_Law_areBlocksRight_L4 hk
set_option maxRecDepth 100000 in
theorem e_Law_areBlocksRight {v1 : Int32} {r : Bool} (hr : (Law_areBlocksRight to fl ma ph v1) = some r) : Ev mmPT tbL_areBlocksRight 0 [some (.ref 1), some (.int v1), none, none, none, none] [] (mh sc rest to fl ma tr mk cn nu de ru la tb tf ph cs) ((fun r : Bool => (some (.int (b2i r)), mh sc rest to fl ma tr mk cn nu de ru la tb tf ph cs)) r) := e_Law_areBlocksRight_0 (by rw [hr]; exact rfl)
set_option maxRecDepth 100000 in
theorem e_Law_isFormRight_102 {v1 : Int32} {v2 : Int64} {v4 : Int32} {v5 : Int32} {v6 : Int32} {v8 : Int32} {v9 : Int32} {w0 : Int32} {w1 : Int32} {x : Option Value × List mmC} (b20 : v8 < 2147483647) (b65 : v9 < 2147483647) (hk : (kK (fun a : Int32 × Int32 => mu a.2) (mu v9) (fun a : Int32 × Int32 => Ev mmPT tbL_isFormRight 65 [some (.ref 1), some (.int v1), some (.long v2), none, some (.int v4), some (.int v5), some (.int v6), some (.int a.1), some (.int v8), some (.int a.2), none, none] [] (mh sc rest to fl ma tr mk cn nu de ru la tb tf ph cs) x) (kK (fun a : Int32 × Int32 × Int32 × Int32 × Int32 => mu a.2.2.2.2) (mu v8) (fun a : Int32 × Int32 × Int32 × Int32 × Int32 => Ev mmPT tbL_isFormRight 20 [some (.ref 1), some (.int v1), some (.long v2), none, some (.int a.1), some (.int a.2.1), some (.int a.2.2.1), some (.int a.2.2.2.1), some (.int a.2.2.2.2), none, none, none] [] (mh sc rest to fl ma tr mk cn nu de ru la tb tf ph cs) x) (kP (fun r : Bool × Ob × Ob × Ob × Ob × Ob × Ob => (some (.int (b2i r.1)), mh sc rest to fl ma r.2.1 mk r.2.2.1 r.2.2.2.1 r.2.2.2.2.1 r.2.2.2.2.2.1 la tb r.2.2.2.2.2.2 ph cs)) x))) (Law_isFormRight_102 to fl ma tr cn nu de ru la tf ph v1 v2 v4 v5 v6 v8 v9 w0 w1)) : Ev mmPT tbL_isFormRight 102 [some (.ref 1), some (.int v1), some (.long v2), none, some (.int v4), some (.int v5), some (.int v6), none, some (.int v8), some (.int v9), none, none] [.int w0, .int w1] (mh sc rest to fl ma tr mk cn nu de ru la tb tf ph cs) x := by
  unfold Law_isFormRight_102 at hk
  refine Ev.s (ins := .iadd) (pc' := 103) rfl rfl ?_
  refine Ev.s (ins := .istore 7) (pc' := 105) (lv' := [some (.ref 1), some (.int v1), some (.long v2), none, some (.int v4), some (.int v5), some (.int v6), some (.int (w1 + w0)), some (.int v8), some (.int v9), none, none]) rfl rfl ?_
  refine q_inc 1 [some (.ref 1), some (.int v1), some (.long v2), none, some (.int v4), some (.int v5), some (.int v6), some (.int (w1 + w0)), some (.int v8), some (.int (v9 + 1)), none, none] rfl rfl rfl rfl ?_
  refine Ev.goto rfl ?_
  replace hk := kK_l hk
  exact hk (mu_lt b65)
set_option maxRecDepth 100000 in
theorem e_Law_isFormRight_L65b {v1 : Int32} {v2 : Int64} {v4 : Int32} {v5 : Int32} {v6 : Int32} {v7 : Int32} {v8 : Int32} {v9 : Int32} {x : Option Value × List mmC} (b20 : v8 < 2147483647) (hk : (kK (fun a : Int32 × Int32 => mu a.2) (mu v9) (fun a : Int32 × Int32 => Ev mmPT tbL_isFormRight 65 [some (.ref 1), some (.int v1), some (.long v2), none, some (.int v4), some (.int v5), some (.int v6), some (.int a.1), some (.int v8), some (.int a.2), none, none] [] (mh sc rest to fl ma tr mk cn nu de ru la tb tf ph cs) x) (kK (fun a : Int32 × Int32 × Int32 × Int32 × Int32 => mu a.2.2.2.2) (mu v8) (fun a : Int32 × Int32 × Int32 × Int32 × Int32 => Ev mmPT tbL_isFormRight 20 [some (.ref 1), some (.int v1), some (.long v2), none, some (.int a.1), some (.int a.2.1), some (.int a.2.2.1), some (.int a.2.2.2.1), some (.int a.2.2.2.2), none, none, none] [] (mh sc rest to fl ma tr mk cn nu de ru la tb tf ph cs) x) (kP (fun r : Bool × Ob × Ob × Ob × Ob × Ob × Ob => (some (.int (b2i r.1)), mh sc rest to fl ma r.2.1 mk r.2.2.1 r.2.2.2.1 r.2.2.2.2.1 r.2.2.2.2.2.1 la tb r.2.2.2.2.2.2 ph cs)) x))) (Law_isFormRight_L65b to fl ma tr cn nu de ru la tf ph v1 v2 v4 v5 v6 v7 v8 v9)) : Ev mmPT tbL_isFormRight 65 [some (.ref 1), some (.int v1), some (.long v2), none, some (.int v4), some (.int v5), some (.int v6), some (.int v7), some (.int v8), some (.int v9), none, none] [] (mh sc rest to fl ma tr mk cn nu de ru la tb tf ph cs) x := by
  unfold Law_isFormRight_L65b at hk
  refine Ev.s (ins := .iload 9) (pc' := 67) rfl rfl ?_
  refine Ev.s (ins := .aload_n 0) (pc' := 68) rfl rfl ?_
  refine Ev.s (ins := .iload 8) (pc' := 70) rfl rfl ?_
  refine q_ic 1 rfl rfl ?_
  refine q_ob hk (fun hb => hb) (fun r71 hr71 hk => ?_)
  refine kc_X11_ofPlace_0 rfl oi_1 rfl (Nat.le_of_ble_eq_true rfl) (e_Ph_ofPlace hr71) ?_
  refine q_cge rfl hk (fun c1 hk => ?_) (fun c1 hk => ?_)
  · refine Ev.s (ins := .iload 7) (pc' := 79) rfl rfl ?_
    refine Ev.s (ins := .aload_n 0) (pc' := 80) rfl rfl ?_
    refine Ev.s (ins := .aload_n 0) (pc' := 81) rfl rfl ?_
    refine Ev.s (ins := .iload 8) (pc' := 83) rfl rfl ?_
    refine Ev.s (ins := .iload 9) (pc' := 85) rfl rfl ?_
    refine q_ob hk (fun hb => hb) (fun r85 hr85 hk => ?_)
    refine kc_X11_valueAt_0 rfl oi_1 rfl (Nat.le_of_ble_eq_true rfl) (e_Ph_valueAt hr85) ?_
    refine q_ic 0 rfl rfl ?_
    refine q_ob hk (fun hb => hb) (fun r89 hr89 hk => ?_)
    refine kc_X11_ofValue_0 rfl oi_1 rfl (Nat.le_of_ble_eq_true rfl) (e_Ph_ofValue hr89) ?_
    refine q_bi 9 rfl rfl ?_
    refine q_cne rfl hk (fun c2 hk => ?_) (fun c2 hk => ?_)
    · refine q_ic 1 rfl rfl ?_
      refine Ev.goto rfl ?_
      refine Ev.weak [some (.ref 1), some (.int v1), some (.long v2), none, some (.int v4), some (.int v5), some (.int v6), none, some (.int v8), some (.int v9), none, none] ⟨rfl, rfl, rfl, rfl, rfl, rfl, rfl, rfl, rfl, rfl, rfl, rfl, trivial⟩ ?_
      exact e_Law_isFormRight_102 b20 (lt31 c1) hk
    · refine q_ic 0 rfl rfl ?_
      refine Ev.weak [some (.ref 1), some (.int v1), some (.long v2), none, some (.int v4), some (.int v5), some (.int v6), none, some (.int v8), some (.int v9), none, none] ⟨rfl, rfl, rfl, rfl, rfl, rfl, rfl, rfl, rfl, rfl, rfl, rfl, trivial⟩ ?_
      exact e_Law_isFormRight_102 b20 (lt31 c1) hk
  · replace hk := kK_r hk
    refine q_inc 1 [some (.ref 1), some (.int v1), some (.long v2), none, some (.int v4), some (.int v5), some (.int v6), some (.int v7), some (.int (v8 + 1)), some (.int v9), none, none] rfl rfl rfl rfl ?_
    refine Ev.goto rfl ?_
    refine Ev.weak [some (.ref 1), some (.int v1), some (.long v2), none, some (.int v4), some (.int v5), some (.int v6), some (.int v7), some (.int (v8 + 1)), none, none, none] ⟨rfl, rfl, rfl, rfl, rfl, rfl, rfl, rfl, rfl, rfl, rfl, rfl, trivial⟩ ?_
    replace hk := kK_l hk
    exact hk (mu_lt b20)
set_option maxRecDepth 100000 in
theorem e_Law_isFormRight_L65 {v1 : Int32} {v2 : Int64} {v4 : Int32} {v5 : Int32} {v6 : Int32} {v7 : Int32} {v8 : Int32} {v9 : Int32} {x : Option Value × List mmC} (b20 : v8 < 2147483647) (hk : (kK (fun a : Int32 × Int32 × Int32 × Int32 × Int32 => mu a.2.2.2.2) (mu v8) (fun a : Int32 × Int32 × Int32 × Int32 × Int32 => Ev mmPT tbL_isFormRight 20 [some (.ref 1), some (.int v1), some (.long v2), none, some (.int a.1), some (.int a.2.1), some (.int a.2.2.1), some (.int a.2.2.2.1), some (.int a.2.2.2.2), none, none, none] [] (mh sc rest to fl ma tr mk cn nu de ru la tb tf ph cs) x) (kP (fun r : Bool × Ob × Ob × Ob × Ob × Ob × Ob => (some (.int (b2i r.1)), mh sc rest to fl ma r.2.1 mk r.2.2.1 r.2.2.2.1 r.2.2.2.2.1 r.2.2.2.2.2.1 la tb r.2.2.2.2.2.2 ph cs)) x)) (Law_isFormRight_L65 to fl ma tr cn nu de ru la tf ph v1 v2 v4 v5 v6 v7 v8 v9)) : Ev mmPT tbL_isFormRight 65 [some (.ref 1), some (.int v1), some (.long v2), none, some (.int v4), some (.int v5), some (.int v6), some (.int v7), some (.int v8), some (.int v9), none, none] [] (mh sc rest to fl ma tr mk cn nu de ru la tb tf ph cs) x :=
  k_loop (B := (fun a : Int32 × Int32 => Law_isFormRight_L65b to fl ma tr cn nu de ru la tf ph v1 v2 v4 v5 v6 a.1 v8 a.2)) (μ := fun a : Int32 × Int32 => mu a.2) (E := fun a : Int32 × Int32 => Ev mmPT tbL_isFormRight 65 [some (.ref 1), some (.int v1), some (.long v2), none, some (.int v4), some (.int v5), some (.int v6), some (.int a.1), some (.int v8), some (.int a.2), none, none] [] (mh sc rest to fl ma tr mk cn nu de ru la tb tf ph cs) x) (X := (kK (fun a : Int32 × Int32 × Int32 × Int32 × Int32 => mu a.2.2.2.2) (mu v8) (fun a : Int32 × Int32 × Int32 × Int32 × Int32 => Ev mmPT tbL_isFormRight 20 [some (.ref 1), some (.int v1), some (.long v2), none, some (.int a.1), some (.int a.2.1), some (.int a.2.2.1), some (.int a.2.2.2.1), some (.int a.2.2.2.2), none, none, none] [] (mh sc rest to fl ma tr mk cn nu de ru la tb tf ph cs) x) (kP (fun r : Bool × Ob × Ob × Ob × Ob × Ob × Ob => (some (.int (b2i r.1)), mh sc rest to fl ma r.2.1 mk r.2.2.1 r.2.2.2.1 r.2.2.2.2.1 r.2.2.2.2.2.1 la tb r.2.2.2.2.2.2 ph cs)) x))) (fun a hk => e_Law_isFormRight_L65b b20 hk) (v7, v9) hk
set_option maxRecDepth 100000 in
theorem e_Law_isFormRight_181 {v1 : Int32} {v2 : Int64} {v4 : Int32} {v5 : Int32} {v6 : Int32} {v7 : Int32} {v8 : Int32} {v10 : Int32} {v11 : Int32} {w0 : Int32} {w1 : Int32} {x : Option Value × List mmC} (b126 : v10 < 2147483647) (b151 : v11 < 2147483647) (hk : (kK (fun a : Int32 × Int32 => mu a.2) (mu v11) (fun a : Int32 × Int32 => Ev mmPT tbL_isFormRight 151 [some (.ref 1), some (.int v1), some (.long v2), none, some (.int v4), some (.int v5), some (.int v6), some (.int v7), some (.int v8), some (.int a.1), some (.int v10), some (.int a.2)] [] (mh sc rest to fl ma tr mk cn nu de ru la tb tf ph cs) x) (kK (fun a : Int32 × Int32 × Int32 => mu a.2.2) (mu v10) (fun a : Int32 × Int32 × Int32 => Ev mmPT tbL_isFormRight 126 [some (.ref 1), some (.int v1), some (.long v2), none, some (.int v4), some (.int v5), some (.int v6), some (.int v7), some (.int a.1), some (.int a.2.1), some (.int a.2.2), none] [] (mh sc rest to fl ma tr mk cn nu de ru la tb tf ph cs) x) (kP (fun r : Bool × Ob × Ob × Ob × Ob × Ob × Ob => (some (.int (b2i r.1)), mh sc rest to fl ma r.2.1 mk r.2.2.1 r.2.2.2.1 r.2.2.2.2.1 r.2.2.2.2.2.1 la tb r.2.2.2.2.2.2 ph cs)) x))) (Law_isFormRight_181 to fl ma tr cn nu de ru la tf ph v1 v2 v4 v5 v6 v7 v8 v10 v11 w0 w1)) : Ev mmPT tbL_isFormRight 181 [some (.ref 1), some (.int v1), some (.long v2), none, some (.int v4), some (.int v5), some (.int v6), some (.int v7), some (.int v8), none, some (.int v10), some (.int v11)] [.int w0, .int w1] (mh sc rest to fl ma tr mk cn nu de ru la tb tf ph cs) x := by
  unfold Law_isFormRight_181 at hk
  refine Ev.s (ins := .iadd) (pc' := 182) rfl rfl ?_
  refine Ev.s (ins := .istore 9) (pc' := 184) (lv' := [some (.ref 1), some (.int v1), some (.long v2), none, some (.int v4), some (.int v5), some (.int v6), some (.int v7), some (.int v8), some (.int (w1 + w0)), some (.int v10), some (.int v11)]) rfl rfl ?_
  refine q_inc 1 [some (.ref 1), some (.int v1), some (.long v2), none, some (.int v4), some (.int v5), some (.int v6), some (.int v7), some (.int v8), some (.int (w1 + w0)), some (.int v10), some (.int (v11 + 1))] rfl rfl rfl rfl ?_
  refine Ev.goto rfl ?_
  replace hk := kK_l hk
  exact hk (mu_lt b151)
set_option maxRecDepth 100000 in
theorem e_Law_isFormRight_L151b {v1 : Int32} {v2 : Int64} {v4 : Int32} {v5 : Int32} {v6 : Int32} {v7 : Int32} {v8 : Int32} {v9 : Int32} {v10 : Int32} {v11 : Int32} {x : Option Value × List mmC} (b126 : v10 < 2147483647) (hk : (kK (fun a : Int32 × Int32 => mu a.2) (mu v11) (fun a : Int32 × Int32 => Ev mmPT tbL_isFormRight 151 [some (.ref 1), some (.int v1), some (.long v2), none, some (.int v4), some (.int v5), some (.int v6), some (.int v7), some (.int v8), some (.int a.1), some (.int v10), some (.int a.2)] [] (mh sc rest to fl ma tr mk cn nu de ru la tb tf ph cs) x) (kK (fun a : Int32 × Int32 × Int32 => mu a.2.2) (mu v10) (fun a : Int32 × Int32 × Int32 => Ev mmPT tbL_isFormRight 126 [some (.ref 1), some (.int v1), some (.long v2), none, some (.int v4), some (.int v5), some (.int v6), some (.int v7), some (.int a.1), some (.int a.2.1), some (.int a.2.2), none] [] (mh sc rest to fl ma tr mk cn nu de ru la tb tf ph cs) x) (kP (fun r : Bool × Ob × Ob × Ob × Ob × Ob × Ob => (some (.int (b2i r.1)), mh sc rest to fl ma r.2.1 mk r.2.2.1 r.2.2.2.1 r.2.2.2.2.1 r.2.2.2.2.2.1 la tb r.2.2.2.2.2.2 ph cs)) x))) (Law_isFormRight_L151b to fl ma tr cn nu de ru la tf ph v1 v2 v4 v5 v6 v7 v8 v9 v10 v11)) : Ev mmPT tbL_isFormRight 151 [some (.ref 1), some (.int v1), some (.long v2), none, some (.int v4), some (.int v5), some (.int v6), some (.int v7), some (.int v8), some (.int v9), some (.int v10), some (.int v11)] [] (mh sc rest to fl ma tr mk cn nu de ru la tb tf ph cs) x := by
  unfold Law_isFormRight_L151b at hk
  refine Ev.s (ins := .iload 11) (pc' := 153) rfl rfl ?_
  refine Ev.s (ins := .aload_n 0) (pc' := 154) rfl rfl ?_
  refine Ev.s (ins := .iload 10) (pc' := 156) rfl rfl ?_
  refine q_ic 3 rfl rfl ?_
  refine q_ob hk (fun hb => hb) (fun r157 hr157 hk => ?_)
  refine kc_X11_ofValue_0 rfl oi_1 rfl (Nat.le_of_ble_eq_true rfl) (e_Ph_ofValue hr157) ?_
  refine q_cge rfl hk (fun c1 hk => ?_) (fun c1 hk => ?_)
  · refine Ev.s (ins := .iload 9) (pc' := 165) rfl rfl ?_
    refine Ev.s (ins := .aload_n 0) (pc' := 166) rfl rfl ?_
    refine Ev.s (ins := .iload 10) (pc' := 168) rfl rfl ?_
    refine Ev.s (ins := .iload 11) (pc' := 170) rfl rfl ?_
    refine q_ob hk (fun hb => hb) (fun r170 hr170 hk => ?_)
    refine kc_X11_argument_0 rfl oi_1 rfl (Nat.le_of_ble_eq_true rfl) (e_Ph_argument hr170) ?_
    refine q_lt rfl hk (fun c2 hk => ?_) (fun c2 hk => ?_)
    · refine q_ic 0 rfl rfl ?_
      refine Ev.weak [some (.ref 1), some (.int v1), some (.long v2), none, some (.int v4), some (.int v5), some (.int v6), some (.int v7), some (.int v8), none, some (.int v10), some (.int v11)] ⟨rfl, rfl, rfl, rfl, rfl, rfl, rfl, rfl, rfl, rfl, rfl, rfl, trivial⟩ ?_
      exact e_Law_isFormRight_181 b126 (lt31 c1) hk
    · refine q_ic 1 rfl rfl ?_
      refine Ev.goto rfl ?_
      refine Ev.weak [some (.ref 1), some (.int v1), some (.long v2), none, some (.int v4), some (.int v5), some (.int v6), some (.int v7), some (.int v8), none, some (.int v10), some (.int v11)] ⟨rfl, rfl, rfl, rfl, rfl, rfl, rfl, rfl, rfl, rfl, rfl, rfl, trivial⟩ ?_
      exact e_Law_isFormRight_181 b126 (lt31 c1) hk
  · replace hk := kK_r hk
    refine q_inc 1 [some (.ref 1), some (.int v1), some (.long v2), none, some (.int v4), some (.int v5), some (.int v6), some (.int v7), some (.int v8), some (.int v9), some (.int (v10 + 1)), some (.int v11)] rfl rfl rfl rfl ?_
    refine Ev.goto rfl ?_
    refine Ev.weak [some (.ref 1), some (.int v1), some (.long v2), none, some (.int v4), some (.int v5), some (.int v6), some (.int v7), some (.int v8), some (.int v9), some (.int (v10 + 1)), none] ⟨rfl, rfl, rfl, rfl, rfl, rfl, rfl, rfl, rfl, rfl, rfl, rfl, trivial⟩ ?_
    replace hk := kK_l hk
    exact hk (mu_lt b126)
set_option maxRecDepth 100000 in
theorem e_Law_isFormRight_L151 {v1 : Int32} {v2 : Int64} {v4 : Int32} {v5 : Int32} {v6 : Int32} {v7 : Int32} {v8 : Int32} {v9 : Int32} {v10 : Int32} {v11 : Int32} {x : Option Value × List mmC} (b126 : v10 < 2147483647) (hk : (kK (fun a : Int32 × Int32 × Int32 => mu a.2.2) (mu v10) (fun a : Int32 × Int32 × Int32 => Ev mmPT tbL_isFormRight 126 [some (.ref 1), some (.int v1), some (.long v2), none, some (.int v4), some (.int v5), some (.int v6), some (.int v7), some (.int a.1), some (.int a.2.1), some (.int a.2.2), none] [] (mh sc rest to fl ma tr mk cn nu de ru la tb tf ph cs) x) (kP (fun r : Bool × Ob × Ob × Ob × Ob × Ob × Ob => (some (.int (b2i r.1)), mh sc rest to fl ma r.2.1 mk r.2.2.1 r.2.2.2.1 r.2.2.2.2.1 r.2.2.2.2.2.1 la tb r.2.2.2.2.2.2 ph cs)) x)) (Law_isFormRight_L151 to fl ma tr cn nu de ru la tf ph v1 v2 v4 v5 v6 v7 v8 v9 v10 v11)) : Ev mmPT tbL_isFormRight 151 [some (.ref 1), some (.int v1), some (.long v2), none, some (.int v4), some (.int v5), some (.int v6), some (.int v7), some (.int v8), some (.int v9), some (.int v10), some (.int v11)] [] (mh sc rest to fl ma tr mk cn nu de ru la tb tf ph cs) x :=
  k_loop (B := (fun a : Int32 × Int32 => Law_isFormRight_L151b to fl ma tr cn nu de ru la tf ph v1 v2 v4 v5 v6 v7 v8 a.1 v10 a.2)) (μ := fun a : Int32 × Int32 => mu a.2) (E := fun a : Int32 × Int32 => Ev mmPT tbL_isFormRight 151 [some (.ref 1), some (.int v1), some (.long v2), none, some (.int v4), some (.int v5), some (.int v6), some (.int v7), some (.int v8), some (.int a.1), some (.int v10), some (.int a.2)] [] (mh sc rest to fl ma tr mk cn nu de ru la tb tf ph cs) x) (X := (kK (fun a : Int32 × Int32 × Int32 => mu a.2.2) (mu v10) (fun a : Int32 × Int32 × Int32 => Ev mmPT tbL_isFormRight 126 [some (.ref 1), some (.int v1), some (.long v2), none, some (.int v4), some (.int v5), some (.int v6), some (.int v7), some (.int a.1), some (.int a.2.1), some (.int a.2.2), none] [] (mh sc rest to fl ma tr mk cn nu de ru la tb tf ph cs) x) (kP (fun r : Bool × Ob × Ob × Ob × Ob × Ob × Ob => (some (.int (b2i r.1)), mh sc rest to fl ma r.2.1 mk r.2.2.1 r.2.2.2.1 r.2.2.2.2.1 r.2.2.2.2.2.1 la tb r.2.2.2.2.2.2 ph cs)) x))) (fun a hk => e_Law_isFormRight_L151b b126 hk) (v9, v11) hk
set_option maxRecDepth 100000 in
theorem e_Law_isFormRight_234 {v1 : Int32} {v2 : Int64} {v4 : Int32} {v5 : Int32} {v6 : Int32} {v7 : Int32} {v8 : Int32} {v10 : Int32} {w0 : Int32} {w1 : Int32} {x : Option Value × List mmC} (b199 : v10 < 2147483647) (hk : (kK (fun a : Int32 × Int32 => mu a.2) (mu v10) (fun a : Int32 × Int32 => Ev mmPT tbL_isFormRight 199 [some (.ref 1), some (.int v1), some (.long v2), none, some (.int v4), some (.int v5), some (.int v6), some (.int v7), some (.int v8), some (.int a.1), some (.int a.2), none] [] (mh sc rest to fl ma tr mk cn nu de ru la tb tf ph cs) x) (kP (fun r : Bool × Ob × Ob × Ob × Ob × Ob × Ob => (some (.int (b2i r.1)), mh sc rest to fl ma r.2.1 mk r.2.2.1 r.2.2.2.1 r.2.2.2.2.1 r.2.2.2.2.2.1 la tb r.2.2.2.2.2.2 ph cs)) x)) (Law_isFormRight_234 to fl ma tr cn nu de ru la tf ph v1 v2 v4 v5 v6 v7 v8 v10 w0 w1)) : Ev mmPT tbL_isFormRight 234 [some (.ref 1), some (.int v1), some (.long v2), none, some (.int v4), some (.int v5), some (.int v6), some (.int v7), some (.int v8), none, some (.int v10), none] [.int w0, .int w1] (mh sc rest to fl ma tr mk cn nu de ru la tb tf ph cs) x := by
  unfold Law_isFormRight_234 at hk
  refine Ev.s (ins := .iadd) (pc' := 235) rfl rfl ?_
  refine Ev.s (ins := .istore 9) (pc' := 237) (lv' := [some (.ref 1), some (.int v1), some (.long v2), none, some (.int v4), some (.int v5), some (.int v6), some (.int v7), some (.int v8), some (.int (w1 + w0)), some (.int v10), none]) rfl rfl ?_
  refine q_inc 1 [some (.ref 1), some (.int v1), some (.long v2), none, some (.int v4), some (.int v5), some (.int v6), some (.int v7), some (.int v8), some (.int (w1 + w0)), some (.int (v10 + 1)), none] rfl rfl rfl rfl ?_
  refine Ev.goto rfl ?_
  replace hk := kK_l hk
  exact hk (mu_lt b199)
set_option maxRecDepth 100000 in
theorem e_Law_isFormRight_233 {v1 : Int32} {v2 : Int64} {v4 : Int32} {v5 : Int32} {v6 : Int32} {v7 : Int32} {v8 : Int32} {v10 : Int32} {w0 : Int32} {x : Option Value × List mmC} (b199 : v10 < 2147483647) (hk : (kK (fun a : Int32 × Int32 => mu a.2) (mu v10) (fun a : Int32 × Int32 => Ev mmPT tbL_isFormRight 199 [some (.ref 1), some (.int v1), some (.long v2), none, some (.int v4), some (.int v5), some (.int v6), some (.int v7), some (.int v8), some (.int a.1), some (.int a.2), none] [] (mh sc rest to fl ma tr mk cn nu de ru la tb tf ph cs) x) (kP (fun r : Bool × Ob × Ob × Ob × Ob × Ob × Ob => (some (.int (b2i r.1)), mh sc rest to fl ma r.2.1 mk r.2.2.1 r.2.2.2.1 r.2.2.2.2.1 r.2.2.2.2.2.1 la tb r.2.2.2.2.2.2 ph cs)) x)) (Law_isFormRight_233 to fl ma tr cn nu de ru la tf ph v1 v2 v4 v5 v6 v7 v8 v10 w0)) : Ev mmPT tbL_isFormRight 233 [some (.ref 1), some (.int v1), some (.long v2), none, some (.int v4), some (.int v5), some (.int v6), some (.int v7), some (.int v8), none, some (.int v10), none] [.int w0] (mh sc rest to fl ma tr mk cn nu de ru la tb tf ph cs) x := by
  unfold Law_isFormRight_233 at hk
  refine q_ic 0 rfl rfl ?_
  exact e_Law_isFormRight_234 b199 hk
set_option maxRecDepth 100000 in
theorem e_Law_isFormRight_325 {v2 : Int64} {x : Option Value × List mmC} (hk : (kP (fun r : Bool × Ob × Ob × Ob × Ob × Ob × Ob => (some (.int (b2i r.1)), mh sc rest to fl ma r.2.1 mk r.2.2.1 r.2.2.2.1 r.2.2.2.2.1 r.2.2.2.2.2.1 la tb r.2.2.2.2.2.2 ph cs)) x) (Law_isFormRight_325 to fl ma tr cn nu de ru la tf ph v2)) : Ev mmPT tbL_isFormRight 325 [none, none, some (.long v2), none, none, none, none, none, none, none, none, none] [] (mh sc rest to fl ma tr mk cn nu de ru la tb tf ph cs) x := by
  unfold Law_isFormRight_325 at hk
  refine q_ic 0 rfl rfl ?_
  exact Ev.zret rfl rfl (Or.inl rfl) hk
set_option maxRecDepth 100000 in
theorem e_Law_isFormRight_316 {v2 : Int64} {w0 : Int64} {x : Option Value × List mmC} (hk : (kP (fun r : Bool × Ob × Ob × Ob × Ob × Ob × Ob => (some (.int (b2i r.1)), mh sc rest to fl ma r.2.1 mk r.2.2.1 r.2.2.2.1 r.2.2.2.2.1 r.2.2.2.2.2.1 la tb r.2.2.2.2.2.2 ph cs)) x) (Law_isFormRight_316 to fl ma tr cn nu de ru la tf ph v2 w0)) : Ev mmPT tbL_isFormRight 316 [none, none, some (.long v2), none, none, none, none, none, none, none, none, none] [.long w0] (mh sc rest to fl ma tr mk cn nu de ru la tb tf ph cs) x := by
  unfold Law_isFormRight_316 at hk
  refine Ev.s (ins := .lload_n 2) (pc' := 317) rfl rfl ?_
  refine Ev.s (ins := .lcmp) (pc' := 318) rfl rfl ?_
  refine q_ne rfl hk (fun c1 hk => ?_) (fun c1 hk => ?_)
  · refine q_ic 1 rfl rfl ?_
    refine Ev.goto rfl ?_
    exact Ev.zret rfl rfl (Or.inr rfl) hk
  · exact e_Law_isFormRight_325 hk
set_option maxRecDepth 100000 in
theorem e_Law_isFormRight_247 {v2 : Int64} {v4 : Int32} {v5 : Int32} {v6 : Int32} {v7 : Int32} {v8 : Int32} {v9 : Int32} {w0 : Int32} {x : Option Value × List mmC} (hk : (kP (fun r : Bool × Ob × Ob × Ob × Ob × Ob × Ob => (some (.int (b2i r.1)), mh sc rest to fl ma r.2.1 mk r.2.2.1 r.2.2.2.1 r.2.2.2.2.1 r.2.2.2.2.2.1 la tb r.2.2.2.2.2.2 ph cs)) x) (Law_isFormRight_247 to fl ma tr cn nu de ru la tf ph v2 v4 v5 v6 v7 v8 v9 w0)) : Ev mmPT tbL_isFormRight 247 [some (.ref 1), none, some (.long v2), none, some (.int v4), some (.int v5), some (.int v6), some (.int v7), some (.int v8), some (.int v9), none, none] [.int w0] (mh sc rest to fl ma tr mk cn nu de ru la tb tf ph cs) x := by
  unfold Law_isFormRight_247 at hk
  refine Ev.s (ins := .istore 10) (pc' := 249) (lv' := [some (.ref 1), none, some (.long v2), none, some (.int v4), some (.int v5), some (.int v6), some (.int v7), some (.int v8), some (.int v9), some (.int w0), none]) rfl rfl ?_
  refine Ev.s (ins := .aload_n 0) (pc' := 250) rfl rfl ?_
  refine q_ic 5 rfl rfl ?_
  refine q_ob hk (fun hb => hb) (fun r251 hr251 hk => ?_)
  refine kc_X11_many_0 rfl oi_1 rfl (Nat.le_of_ble_eq_true rfl) (e_Ph_many hr251) ?_
  refine Ev.s (ins := .iload 5) (pc' := 256) rfl rfl ?_
  refine q_cne rfl hk (fun c1 hk => ?_) (fun c1 hk => ?_)
  · refine Ev.s (ins := .aload_n 0) (pc' := 260) rfl rfl ?_
    refine q_bi 6 rfl rfl ?_
    refine q_ob hk (fun hb => hb) (fun r262 hr262 hk => ?_)
    refine kc_X11_many_0 rfl oi_1 rfl (Nat.le_of_ble_eq_true rfl) (e_Ph_many hr262) ?_
    refine Ev.s (ins := .iload 7) (pc' := 267) rfl rfl ?_
    refine q_cne rfl hk (fun c2 hk => ?_) (fun c2 hk => ?_)
    · refine Ev.s (ins := .aload_n 0) (pc' := 271) rfl rfl ?_
      refine q_bi 7 rfl rfl ?_
      refine q_ob hk (fun hb => hb) (fun r273 hr273 hk => ?_)
      refine kc_X11_many_0 rfl oi_1 rfl (Nat.le_of_ble_eq_true rfl) (e_Ph_many hr273) ?_
      refine Ev.s (ins := .iload 4) (pc' := 278) rfl rfl ?_
      refine q_cne rfl hk (fun c3 hk => ?_) (fun c3 hk => ?_)
      · refine Ev.s (ins := .aload_n 0) (pc' := 282) rfl rfl ?_
        refine q_bi 8 rfl rfl ?_
        refine q_ob hk (fun hb => hb) (fun r284 hr284 hk => ?_)
        refine kc_X11_many_0 rfl oi_1 rfl (Nat.le_of_ble_eq_true rfl) (e_Ph_many hr284) ?_
        refine Ev.s (ins := .iload 6) (pc' := 289) rfl rfl ?_
        refine q_cne rfl hk (fun c4 hk => ?_) (fun c4 hk => ?_)
        · refine Ev.s (ins := .iload 8) (pc' := 294) rfl rfl ?_
          refine Ev.s (ins := .iload 9) (pc' := 296) rfl rfl ?_
          refine q_cne rfl hk (fun c5 hk => ?_) (fun c5 hk => ?_)
          · refine Ev.s (ins := .iload 10) (pc' := 301) rfl rfl ?_
            refine q_ic 4 rfl rfl ?_
            refine q_clt rfl hk (fun c6 hk => ?_) (fun c6 hk => ?_)
            · refine Ev.weak [none, none, some (.long v2), none, none, none, none, none, none, none, none, none] ⟨rfl, rfl, rfl, rfl, rfl, rfl, rfl, rfl, rfl, rfl, rfl, rfl, trivial⟩ ?_
              exact e_Law_isFormRight_325 hk
            · refine Ev.s (ins := .iload 10) (pc' := 307) rfl rfl ?_
              refine q_bi 40 rfl rfl ?_
              refine q_cgt rfl hk (fun c7 hk => ?_) (fun c7 hk => ?_)
              · refine Ev.weak [none, none, some (.long v2), none, none, none, none, none, none, none, none, none] ⟨rfl, rfl, rfl, rfl, rfl, rfl, rfl, rfl, rfl, rfl, rfl, rfl, trivial⟩ ?_
                exact e_Law_isFormRight_325 hk
              · refine Ev.s (ins := .aload_n 0) (pc' := 313) rfl rfl ?_
                refine q_ob hk (fun hb => hb) (fun r313 hr313 hk => ?_)
                refine kc_X11_digest_0 rfl oi_1 rfl (Nat.le_of_ble_eq_true rfl) (e_Ph_digest hr313) ?_
                refine Ev.weak [none, none, some (.long v2), none, none, none, none, none, none, none, none, none] ⟨rfl, rfl, rfl, rfl, rfl, rfl, rfl, rfl, rfl, rfl, rfl, rfl, trivial⟩ ?_
                exact e_Law_isFormRight_316 hk
          · refine Ev.weak [none, none, some (.long v2), none, none, none, none, none, none, none, none, none] ⟨rfl, rfl, rfl, rfl, rfl, rfl, rfl, rfl, rfl, rfl, rfl, rfl, trivial⟩ ?_
            exact e_Law_isFormRight_325 hk
        · refine Ev.weak [none, none, some (.long v2), none, none, none, none, none, none, none, none, none] ⟨rfl, rfl, rfl, rfl, rfl, rfl, rfl, rfl, rfl, rfl, rfl, rfl, trivial⟩ ?_
          exact e_Law_isFormRight_325 hk
      · refine Ev.weak [none, none, some (.long v2), none, none, none, none, none, none, none, none, none] ⟨rfl, rfl, rfl, rfl, rfl, rfl, rfl, rfl, rfl, rfl, rfl, rfl, trivial⟩ ?_
        exact e_Law_isFormRight_325 hk
    · refine Ev.weak [none, none, some (.long v2), none, none, none, none, none, none, none, none, none] ⟨rfl, rfl, rfl, rfl, rfl, rfl, rfl, rfl, rfl, rfl, rfl, rfl, trivial⟩ ?_
      exact e_Law_isFormRight_325 hk
  · refine Ev.weak [none, none, some (.long v2), none, none, none, none, none, none, none, none, none] ⟨rfl, rfl, rfl, rfl, rfl, rfl, rfl, rfl, rfl, rfl, rfl, rfl, trivial⟩ ?_
    exact e_Law_isFormRight_325 hk
set_option maxRecDepth 100000 in
theorem e_Law_isFormRight_L199b {v1 : Int32} {v2 : Int64} {v4 : Int32} {v5 : Int32} {v6 : Int32} {v7 : Int32} {v8 : Int32} {v9 : Int32} {v10 : Int32} {x : Option Value × List mmC} (hk : (kK (fun a : Int32 × Int32 => mu a.2) (mu v10) (fun a : Int32 × Int32 => Ev mmPT tbL_isFormRight 199 [some (.ref 1), some (.int v1), some (.long v2), none, some (.int v4), some (.int v5), some (.int v6), some (.int v7), some (.int v8), some (.int a.1), some (.int a.2), none] [] (mh sc rest to fl ma tr mk cn nu de ru la tb tf ph cs) x) (kP (fun r : Bool × Ob × Ob × Ob × Ob × Ob × Ob => (some (.int (b2i r.1)), mh sc rest to fl ma r.2.1 mk r.2.2.1 r.2.2.2.1 r.2.2.2.2.1 r.2.2.2.2.2.1 la tb r.2.2.2.2.2.2 ph cs)) x)) (Law_isFormRight_L199b to fl ma tr cn nu de ru la tf ph v1 v2 v4 v5 v6 v7 v8 v9 v10)) : Ev mmPT tbL_isFormRight 199 [some (.ref 1), some (.int v1), some (.long v2), none, some (.int v4), some (.int v5), some (.int v6), some (.int v7), some (.int v8), some (.int v9), some (.int v10), none] [] (mh sc rest to fl ma tr mk cn nu de ru la tb tf ph cs) x := by
  unfold Law_isFormRight_L199b at hk
  refine Ev.s (ins := .iload 10) (pc' := 201) rfl rfl ?_
  refine Ev.s (ins := .iload_n 1) (pc' := 202) rfl rfl ?_
  refine q_cge rfl hk (fun c1 hk => ?_) (fun c1 hk => ?_)
  · refine Ev.s (ins := .iload 9) (pc' := 207) rfl rfl ?_
    refine Ev.s (ins := .aload_n 0) (pc' := 208) rfl rfl ?_
    refine Ev.s (ins := .iload 10) (pc' := 210) rfl rfl ?_
    refine q_ic 0 rfl rfl ?_
    refine q_ob hk (fun hb => hb) (fun r211 hr211 hk => ?_)
    refine kc_X11_ofPlace_0 rfl oi_1 rfl (Nat.le_of_ble_eq_true rfl) (e_Ph_ofPlace hr211) ?_
    refine q_ic 1 rfl rfl ?_
    refine q_cne rfl hk (fun c2 hk => ?_) (fun c2 hk => ?_)
    · refine Ev.s (ins := .aload_n 0) (pc' := 219) rfl rfl ?_
      refine Ev.s (ins := .iload 10) (pc' := 221) rfl rfl ?_
      refine q_bi 6 rfl rfl ?_
      refine q_ob hk (fun hb => hb) (fun r223 hr223 hk => ?_)
      refine kc_X11_ofPlace_0 rfl oi_1 rfl (Nat.le_of_ble_eq_true rfl) (e_Ph_ofPlace hr223) ?_
      refine q_lt rfl hk (fun c3 hk => ?_) (fun c3 hk => ?_)
      · refine Ev.weak [some (.ref 1), some (.int v1), some (.long v2), none, some (.int v4), some (.int v5), some (.int v6), some (.int v7), some (.int v8), none, some (.int v10), none] ⟨rfl, rfl, rfl, rfl, rfl, rfl, rfl, rfl, rfl, rfl, rfl, rfl, trivial⟩ ?_
        exact e_Law_isFormRight_233 (lt31 c1) hk
      · refine q_ic 1 rfl rfl ?_
        refine Ev.goto rfl ?_
        refine Ev.weak [some (.ref 1), some (.int v1), some (.long v2), none, some (.int v4), some (.int v5), some (.int v6), some (.int v7), some (.int v8), none, some (.int v10), none] ⟨rfl, rfl, rfl, rfl, rfl, rfl, rfl, rfl, rfl, rfl, rfl, rfl, trivial⟩ ?_
        exact e_Law_isFormRight_234 (lt31 c1) hk
    · refine Ev.weak [some (.ref 1), some (.int v1), some (.long v2), none, some (.int v4), some (.int v5), some (.int v6), some (.int v7), some (.int v8), none, some (.int v10), none] ⟨rfl, rfl, rfl, rfl, rfl, rfl, rfl, rfl, rfl, rfl, rfl, rfl, trivial⟩ ?_
      exact e_Law_isFormRight_233 (lt31 c1) hk
  · replace hk := kK_r hk
    refine Ev.s (ins := .aload_n 0) (pc' := 244) rfl rfl ?_
    refine q_ob hk (fun hb => hb) (fun r244 hr244 hk => ?_)
    refine kc_X11_untilStill_0 rfl oi_1 rfl (Nat.le_of_ble_eq_true rfl) (e_Ph_untilStill hr244) ?_
    refine Ev.weak [some (.ref 1), none, some (.long v2), none, some (.int v4), some (.int v5), some (.int v6), some (.int v7), some (.int v8), some (.int v9), none, none] ⟨rfl, rfl, rfl, rfl, rfl, rfl, rfl, rfl, rfl, rfl, rfl, rfl, trivial⟩ ?_
    exact e_Law_isFormRight_247 hk
set_option maxRecDepth 100000 in
theorem e_Law_isFormRight_L199 {v1 : Int32} {v2 : Int64} {v4 : Int32} {v5 : Int32} {v6 : Int32} {v7 : Int32} {v8 : Int32} {v9 : Int32} {v10 : Int32} {x : Option Value × List mmC} (hk : (kP (fun r : Bool × Ob × Ob × Ob × Ob × Ob × Ob => (some (.int (b2i r.1)), mh sc rest to fl ma r.2.1 mk r.2.2.1 r.2.2.2.1 r.2.2.2.2.1 r.2.2.2.2.2.1 la tb r.2.2.2.2.2.2 ph cs)) x) (Law_isFormRight_L199 to fl ma tr cn nu de ru la tf ph v1 v2 v4 v5 v6 v7 v8 v9 v10)) : Ev mmPT tbL_isFormRight 199 [some (.ref 1), some (.int v1), some (.long v2), none, some (.int v4), some (.int v5), some (.int v6), some (.int v7), some (.int v8), some (.int v9), some (.int v10), none] [] (mh sc rest to fl ma tr mk cn nu de ru la tb tf ph cs) x :=
  k_loop (B := (fun a : Int32 × Int32 => Law_isFormRight_L199b to fl ma tr cn nu de ru la tf ph v1 v2 v4 v5 v6 v7 v8 a.1 a.2)) (μ := fun a : Int32 × Int32 => mu a.2) (E := fun a : Int32 × Int32 => Ev mmPT tbL_isFormRight 199 [some (.ref 1), some (.int v1), some (.long v2), none, some (.int v4), some (.int v5), some (.int v6), some (.int v7), some (.int v8), some (.int a.1), some (.int a.2), none] [] (mh sc rest to fl ma tr mk cn nu de ru la tb tf ph cs) x) (X := (kP (fun r : Bool × Ob × Ob × Ob × Ob × Ob × Ob => (some (.int (b2i r.1)), mh sc rest to fl ma r.2.1 mk r.2.2.1 r.2.2.2.1 r.2.2.2.2.1 r.2.2.2.2.2.1 la tb r.2.2.2.2.2.2 ph cs)) x)) (fun a hk => e_Law_isFormRight_L199b hk) (v9, v10) hk
set_option maxRecDepth 100000 in
theorem e_Law_isFormRight_L126b {v1 : Int32} {v2 : Int64} {v4 : Int32} {v5 : Int32} {v6 : Int32} {v7 : Int32} {v8 : Int32} {v9 : Int32} {v10 : Int32} {x : Option Value × List mmC} (hk : (kK (fun a : Int32 × Int32 × Int32 => mu a.2.2) (mu v10) (fun a : Int32 × Int32 × Int32 => Ev mmPT tbL_isFormRight 126 [some (.ref 1), some (.int v1), some (.long v2), none, some (.int v4), some (.int v5), some (.int v6), some (.int v7), some (.int a.1), some (.int a.2.1), some (.int a.2.2), none] [] (mh sc rest to fl ma tr mk cn nu de ru la tb tf ph cs) x) (kP (fun r : Bool × Ob × Ob × Ob × Ob × Ob × Ob => (some (.int (b2i r.1)), mh sc rest to fl ma r.2.1 mk r.2.2.1 r.2.2.2.1 r.2.2.2.2.1 r.2.2.2.2.2.1 la tb r.2.2.2.2.2.2 ph cs)) x)) (Law_isFormRight_L126b to fl ma tr cn nu de ru la tf ph v1 v2 v4 v5 v6 v7 v8 v9 v10)) : Ev mmPT tbL_isFormRight 126 [some (.ref 1), some (.int v1), some (.long v2), none, some (.int v4), some (.int v5), some (.int v6), some (.int v7), some (.int v8), some (.int v9), some (.int v10), none] [] (mh sc rest to fl ma tr mk cn nu de ru la tb tf ph cs) x := by
  unfold Law_isFormRight_L126b at hk
  refine Ev.s (ins := .iload 10) (pc' := 128) rfl rfl ?_
  refine Ev.s (ins := .aload_n 0) (pc' := 129) rfl rfl ?_
  refine q_ic 4 rfl rfl ?_
  refine q_ob hk (fun hb => hb) (fun r130 hr130 hk => ?_)
  refine kc_X11_many_0 rfl oi_1 rfl (Nat.le_of_ble_eq_true rfl) (e_Ph_many hr130) ?_
  refine q_cge rfl hk (fun c1 hk => ?_) (fun c1 hk => ?_)
  · refine Ev.s (ins := .iload 8) (pc' := 138) rfl rfl ?_
    refine Ev.s (ins := .aload_n 0) (pc' := 139) rfl rfl ?_
    refine Ev.s (ins := .iload 10) (pc' := 141) rfl rfl ?_
    refine q_ic 4 rfl rfl ?_
    refine q_ob hk (fun hb => hb) (fun r142 hr142 hk => ?_)
    refine kc_X11_ofValue_0 rfl oi_1 rfl (Nat.le_of_ble_eq_true rfl) (e_Ph_ofValue hr142) ?_
    refine Ev.s (ins := .iadd) (pc' := 146) rfl rfl ?_
    refine Ev.s (ins := .istore 8) (pc' := 148) (lv' := [some (.ref 1), some (.int v1), some (.long v2), none, some (.int v4), some (.int v5), some (.int v6), some (.int v7), some (.int (v8 + r142)), some (.int v9), some (.int v10), none]) rfl rfl ?_
    refine q_ic 0 rfl rfl ?_
    refine Ev.s (ins := .istore 11) (pc' := 151) (lv' := [some (.ref 1), some (.int v1), some (.long v2), none, some (.int v4), some (.int v5), some (.int v6), some (.int v7), some (.int (v8 + r142)), some (.int v9), some (.int v10), some (.int 0)]) rfl rfl ?_
    exact e_Law_isFormRight_L151 (lt31 c1) hk
  · replace hk := kK_r hk
    refine q_ic 0 rfl rfl ?_
    refine Ev.s (ins := .istore 10) (pc' := 199) (lv' := [some (.ref 1), some (.int v1), some (.long v2), none, some (.int v4), some (.int v5), some (.int v6), some (.int v7), some (.int v8), some (.int v9), some (.int 0), none]) rfl rfl ?_
    exact e_Law_isFormRight_L199 hk
set_option maxRecDepth 100000 in
theorem e_Law_isFormRight_L126 {v1 : Int32} {v2 : Int64} {v4 : Int32} {v5 : Int32} {v6 : Int32} {v7 : Int32} {v8 : Int32} {v9 : Int32} {v10 : Int32} {x : Option Value × List mmC} (hk : (kP (fun r : Bool × Ob × Ob × Ob × Ob × Ob × Ob => (some (.int (b2i r.1)), mh sc rest to fl ma r.2.1 mk r.2.2.1 r.2.2.2.1 r.2.2.2.2.1 r.2.2.2.2.2.1 la tb r.2.2.2.2.2.2 ph cs)) x) (Law_isFormRight_L126 to fl ma tr cn nu de ru la tf ph v1 v2 v4 v5 v6 v7 v8 v9 v10)) : Ev mmPT tbL_isFormRight 126 [some (.ref 1), some (.int v1), some (.long v2), none, some (.int v4), some (.int v5), some (.int v6), some (.int v7), some (.int v8), some (.int v9), some (.int v10), none] [] (mh sc rest to fl ma tr mk cn nu de ru la tb tf ph cs) x :=
  k_loop (B := (fun a : Int32 × Int32 × Int32 => Law_isFormRight_L126b to fl ma tr cn nu de ru la tf ph v1 v2 v4 v5 v6 v7 a.1 a.2.1 a.2.2)) (μ := fun a : Int32 × Int32 × Int32 => mu a.2.2) (E := fun a : Int32 × Int32 × Int32 => Ev mmPT tbL_isFormRight 126 [some (.ref 1), some (.int v1), some (.long v2), none, some (.int v4), some (.int v5), some (.int v6), some (.int v7), some (.int a.1), some (.int a.2.1), some (.int a.2.2), none] [] (mh sc rest to fl ma tr mk cn nu de ru la tb tf ph cs) x) (X := (kP (fun r : Bool × Ob × Ob × Ob × Ob × Ob × Ob => (some (.int (b2i r.1)), mh sc rest to fl ma r.2.1 mk r.2.2.1 r.2.2.2.1 r.2.2.2.2.1 r.2.2.2.2.2.1 la tb r.2.2.2.2.2.2 ph cs)) x)) (fun a hk => e_Law_isFormRight_L126b hk) (v8, v9, v10) hk
set_option maxRecDepth 100000 in
theorem e_Law_isFormRight_L20b {v1 : Int32} {v2 : Int64} {v4 : Int32} {v5 : Int32} {v6 : Int32} {v7 : Int32} {v8 : Int32} {x : Option Value × List mmC} (hk : (kK (fun a : Int32 × Int32 × Int32 × Int32 × Int32 => mu a.2.2.2.2) (mu v8) (fun a : Int32 × Int32 × Int32 × Int32 × Int32 => Ev mmPT tbL_isFormRight 20 [some (.ref 1), some (.int v1), some (.long v2), none, some (.int a.1), some (.int a.2.1), some (.int a.2.2.1), some (.int a.2.2.2.1), some (.int a.2.2.2.2), none, none, none] [] (mh sc rest to fl ma tr mk cn nu de ru la tb tf ph cs) x) (kP (fun r : Bool × Ob × Ob × Ob × Ob × Ob × Ob => (some (.int (b2i r.1)), mh sc rest to fl ma r.2.1 mk r.2.2.1 r.2.2.2.1 r.2.2.2.2.1 r.2.2.2.2.2.1 la tb r.2.2.2.2.2.2 ph cs)) x)) (Law_isFormRight_L20b to fl ma tr cn nu de ru la tf ph v1 v2 v4 v5 v6 v7 v8)) : Ev mmPT tbL_isFormRight 20 [some (.ref 1), some (.int v1), some (.long v2), none, some (.int v4), some (.int v5), some (.int v6), some (.int v7), some (.int v8), none, none, none] [] (mh sc rest to fl ma tr mk cn nu de ru la tb tf ph cs) x := by
  unfold Law_isFormRight_L20b at hk
  refine Ev.s (ins := .iload 8) (pc' := 22) rfl rfl ?_
  refine Ev.s (ins := .iload_n 1) (pc' := 23) rfl rfl ?_
  refine q_cge rfl hk (fun c1 hk => ?_) (fun c1 hk => ?_)
  · refine Ev.s (ins := .iload 4) (pc' := 28) rfl rfl ?_
    refine Ev.s (ins := .aload_n 0) (pc' := 29) rfl rfl ?_
    refine Ev.s (ins := .iload 8) (pc' := 31) rfl rfl ?_
    refine q_ic 0 rfl rfl ?_
    refine q_ob hk (fun hb => hb) (fun r32 hr32 hk => ?_)
    refine kc_X11_ofPlace_0 rfl oi_1 rfl (Nat.le_of_ble_eq_true rfl) (e_Ph_ofPlace hr32) ?_
    refine Ev.s (ins := .iadd) (pc' := 36) rfl rfl ?_
    refine Ev.s (ins := .istore 4) (pc' := 38) (lv' := [some (.ref 1), some (.int v1), some (.long v2), none, some (.int (v4 + r32)), some (.int v5), some (.int v6), some (.int v7), some (.int v8), none, none, none]) rfl rfl ?_
    refine Ev.s (ins := .iload 5) (pc' := 40) rfl rfl ?_
    refine Ev.s (ins := .aload_n 0) (pc' := 41) rfl rfl ?_
    refine Ev.s (ins := .iload 8) (pc' := 43) rfl rfl ?_
    refine q_ic 1 rfl rfl ?_
    refine q_ob hk (fun hb => hb) (fun r44 hr44 hk => ?_)
    refine kc_X11_ofPlace_0 rfl oi_1 rfl (Nat.le_of_ble_eq_true rfl) (e_Ph_ofPlace hr44) ?_
    refine Ev.s (ins := .iadd) (pc' := 48) rfl rfl ?_
    refine Ev.s (ins := .istore 5) (pc' := 50) (lv' := [some (.ref 1), some (.int v1), some (.long v2), none, some (.int (v4 + r32)), some (.int (v5 + r44)), some (.int v6), some (.int v7), some (.int v8), none, none, none]) rfl rfl ?_
    refine Ev.s (ins := .iload 6) (pc' := 52) rfl rfl ?_
    refine Ev.s (ins := .aload_n 0) (pc' := 53) rfl rfl ?_
    refine Ev.s (ins := .iload 8) (pc' := 55) rfl rfl ?_
    refine q_ic 5 rfl rfl ?_
    refine q_ob hk (fun hb => hb) (fun r56 hr56 hk => ?_)
    refine kc_X11_ofPlace_0 rfl oi_1 rfl (Nat.le_of_ble_eq_true rfl) (e_Ph_ofPlace hr56) ?_
    refine Ev.s (ins := .iadd) (pc' := 60) rfl rfl ?_
    refine Ev.s (ins := .istore 6) (pc' := 62) (lv' := [some (.ref 1), some (.int v1), some (.long v2), none, some (.int (v4 + r32)), some (.int (v5 + r44)), some (.int (v6 + r56)), some (.int v7), some (.int v8), none, none, none]) rfl rfl ?_
    refine q_ic 0 rfl rfl ?_
    refine Ev.s (ins := .istore 9) (pc' := 65) (lv' := [some (.ref 1), some (.int v1), some (.long v2), none, some (.int (v4 + r32)), some (.int (v5 + r44)), some (.int (v6 + r56)), some (.int v7), some (.int v8), some (.int 0), none, none]) rfl rfl ?_
    exact e_Law_isFormRight_L65 (lt31 c1) hk
  · replace hk := kK_r hk
    refine q_ic 0 rfl rfl ?_
    refine Ev.s (ins := .istore 8) (pc' := 120) (lv' := [some (.ref 1), some (.int v1), some (.long v2), none, some (.int v4), some (.int v5), some (.int v6), some (.int v7), some (.int 0), none, none, none]) rfl rfl ?_
    refine q_ic 0 rfl rfl ?_
    refine Ev.s (ins := .istore 9) (pc' := 123) (lv' := [some (.ref 1), some (.int v1), some (.long v2), none, some (.int v4), some (.int v5), some (.int v6), some (.int v7), some (.int 0), some (.int 0), none, none]) rfl rfl ?_
    refine q_ic 0 rfl rfl ?_
    refine Ev.s (ins := .istore 10) (pc' := 126) (lv' := [some (.ref 1), some (.int v1), some (.long v2), none, some (.int v4), some (.int v5), some (.int v6), some (.int v7), some (.int 0), some (.int 0), some (.int 0), none]) rfl rfl ?_
    exact e_Law_isFormRight_L126 hk
set_option maxRecDepth 100000 in
theorem e_Law_isFormRight_L20 {v1 : Int32} {v2 : Int64} {v4 : Int32} {v5 : Int32} {v6 : Int32} {v7 : Int32} {v8 : Int32} {x : Option Value × List mmC} (hk : (kP (fun r : Bool × Ob × Ob × Ob × Ob × Ob × Ob => (some (.int (b2i r.1)), mh sc rest to fl ma r.2.1 mk r.2.2.1 r.2.2.2.1 r.2.2.2.2.1 r.2.2.2.2.2.1 la tb r.2.2.2.2.2.2 ph cs)) x) (Law_isFormRight_L20 to fl ma tr cn nu de ru la tf ph v1 v2 v4 v5 v6 v7 v8)) : Ev mmPT tbL_isFormRight 20 [some (.ref 1), some (.int v1), some (.long v2), none, some (.int v4), some (.int v5), some (.int v6), some (.int v7), some (.int v8), none, none, none] [] (mh sc rest to fl ma tr mk cn nu de ru la tb tf ph cs) x :=
  k_loop (B := (fun a : Int32 × Int32 × Int32 × Int32 × Int32 => Law_isFormRight_L20b to fl ma tr cn nu de ru la tf ph v1 v2 a.1 a.2.1 a.2.2.1 a.2.2.2.1 a.2.2.2.2)) (μ := fun a : Int32 × Int32 × Int32 × Int32 × Int32 => mu a.2.2.2.2) (E := fun a : Int32 × Int32 × Int32 × Int32 × Int32 => Ev mmPT tbL_isFormRight 20 [some (.ref 1), some (.int v1), some (.long v2), none, some (.int a.1), some (.int a.2.1), some (.int a.2.2.1), some (.int a.2.2.2.1), some (.int a.2.2.2.2), none, none, none] [] (mh sc rest to fl ma tr mk cn nu de ru la tb tf ph cs) x) (X := (kP (fun r : Bool × Ob × Ob × Ob × Ob × Ob × Ob => (some (.int (b2i r.1)), mh sc rest to fl ma r.2.1 mk r.2.2.1 r.2.2.2.1 r.2.2.2.2.1 r.2.2.2.2.2.1 la tb r.2.2.2.2.2.2 ph cs)) x)) (fun a hk => e_Law_isFormRight_L20b hk) (v4, v5, v6, v7, v8) hk
set_option maxRecDepth 100000 in
theorem e_Law_isFormRight_4 {v1 : Int32} {w0 : Int64} {x : Option Value × List mmC} (hk : (kP (fun r : Bool × Ob × Ob × Ob × Ob × Ob × Ob => (some (.int (b2i r.1)), mh sc rest to fl ma r.2.1 mk r.2.2.1 r.2.2.2.1 r.2.2.2.2.1 r.2.2.2.2.2.1 la tb r.2.2.2.2.2.2 ph cs)) x) (Law_isFormRight_4 to fl ma tr cn nu de ru la tf ph v1 w0)) : Ev mmPT tbL_isFormRight 4 [some (.ref 1), some (.int v1), none, none, none, none, none, none, none, none, none, none] [.long w0] (mh sc rest to fl ma tr mk cn nu de ru la tb tf ph cs) x := by
  unfold Law_isFormRight_4 at hk
  refine Ev.s (ins := .lstore_n 2) (pc' := 5) (lv' := [some (.ref 1), some (.int v1), some (.long w0), none, none, none, none, none, none, none, none, none]) rfl rfl ?_
  refine q_ic 0 rfl rfl ?_
  refine Ev.s (ins := .istore 4) (pc' := 8) (lv' := [some (.ref 1), some (.int v1), some (.long w0), none, some (.int 0), none, none, none, none, none, none, none]) rfl rfl ?_
  refine q_ic 0 rfl rfl ?_
  refine Ev.s (ins := .istore 5) (pc' := 11) (lv' := [some (.ref 1), some (.int v1), some (.long w0), none, some (.int 0), some (.int 0), none, none, none, none, none, none]) rfl rfl ?_
  refine q_ic 0 rfl rfl ?_
  refine Ev.s (ins := .istore 6) (pc' := 14) (lv' := [some (.ref 1), some (.int v1), some (.long w0), none, some (.int 0), some (.int 0), some (.int 0), none, none, none, none, none]) rfl rfl ?_
  refine q_ic 0 rfl rfl ?_
  refine Ev.s (ins := .istore 7) (pc' := 17) (lv' := [some (.ref 1), some (.int v1), some (.long w0), none, some (.int 0), some (.int 0), some (.int 0), some (.int 0), none, none, none, none]) rfl rfl ?_
  refine q_ic 0 rfl rfl ?_
  refine Ev.s (ins := .istore 8) (pc' := 20) (lv' := [some (.ref 1), some (.int v1), some (.long w0), none, some (.int 0), some (.int 0), some (.int 0), some (.int 0), some (.int 0), none, none, none]) rfl rfl ?_
  exact e_Law_isFormRight_L20 hk
set_option maxRecDepth 100000 in
theorem e_Law_isFormRight_0 {v1 : Int32} {x : Option Value × List mmC} (hk : (kP (fun r : Bool × Ob × Ob × Ob × Ob × Ob × Ob => (some (.int (b2i r.1)), mh sc rest to fl ma r.2.1 mk r.2.2.1 r.2.2.2.1 r.2.2.2.2.1 r.2.2.2.2.2.1 la tb r.2.2.2.2.2.2 ph cs)) x) (Law_isFormRight to fl ma tr cn nu de ru la tf ph v1)) : Ev mmPT tbL_isFormRight 0 [some (.ref 1), some (.int v1), none, none, none, none, none, none, none, none, none, none] [] (mh sc rest to fl ma tr mk cn nu de ru la tb tf ph cs) x := by
  unfold Law_isFormRight at hk
  refine Ev.s (ins := .aload_n 0) (pc' := 1) rfl rfl ?_
  refine q_ob hk (fun hb => hb) (fun r1 hr1 hk => ?_)
  refine kc_X11_digest_0 rfl oi_1 rfl (Nat.le_of_ble_eq_true rfl) (e_Ph_digest hr1) ?_
  exact e_Law_isFormRight_4 hk
set_option maxRecDepth 100000 in
theorem e_Law_isFormRight {v1 : Int32} {r : Bool × Ob × Ob × Ob × Ob × Ob × Ob} (hr : (Law_isFormRight to fl ma tr cn nu de ru la tf ph v1) = some r) : Ev mmPT tbL_isFormRight 0 [some (.ref 1), some (.int v1), none, none, none, none, none, none, none, none, none, none] [] (mh sc rest to fl ma tr mk cn nu de ru la tb tf ph cs) ((fun r : Bool × Ob × Ob × Ob × Ob × Ob × Ob => (some (.int (b2i r.1)), mh sc rest to fl ma r.2.1 mk r.2.2.1 r.2.2.2.1 r.2.2.2.2.1 r.2.2.2.2.2.1 la tb r.2.2.2.2.2.2 ph cs)) r) := e_Law_isFormRight_0 (by rw [hr]; exact rfl)
end RF9
