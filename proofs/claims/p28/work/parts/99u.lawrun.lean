/-! THE LAW, from pc 42 on: its run is the function, by program -/
section RFL
variable {sc : mmC} {rest : List mmC} {to fl ma tr mk cn nu de ru la tb tf ph : Ob} {cs : Int64}
set_option maxRecDepth 100000 in
theorem e_Law_below_0 {v0 : Int32} {v1 : Int32} {x : Option Value × List mmC} (hk : (kP (fun r : Int32 => (some (.int r), mh sc rest to fl ma tr mk cn nu de ru la tb tf ph cs)) x) (Law_below v0 v1)) : Ev mmPT tbL_below 0 [some (.int v0), some (.int v1)] [] (mh sc rest to fl ma tr mk cn nu de ru la tb tf ph cs) x := by
  unfold Law_below at hk
  refine Ev.s (ins := .iload_n 0) (pc' := 1) rfl rfl ?_
  refine q_ld 2147483647 rfl rfl ?_
  refine Ev.s (ins := .iand) (pc' := 4) rfl rfl ?_
  refine Ev.s (ins := .iload_n 1) (pc' := 5) rfl rfl ?_
  refine q_if hk (fun c1 hk => ?_) (fun c1 hk => ?_)
  · exact False.elim hk
  · refine q_rem rfl c1 ?_
    exact Ev.iret rfl rfl hk
set_option maxRecDepth 100000 in
theorem e_Law_below {v0 : Int32} {v1 : Int32} {r : Int32} (hr : (Law_below v0 v1) = some r) : Ev mmPT tbL_below 0 [some (.int v0), some (.int v1)] [] (mh sc rest to fl ma tr mk cn nu de ru la tb tf ph cs) ((fun r : Int32 => (some (.int r), mh sc rest to fl ma tr mk cn nu de ru la tb tf ph cs)) r) := e_Law_below_0 (by rw [hr]; exact rfl)
set_option maxRecDepth 100000 in
theorem e_Law_below_6_0 {v0 : Int32} {x : Option Value × List mmC} (hk : (kO (fun r : Int32 => (some (.int r), mh sc rest to fl ma tr mk cn nu de ru la tb tf ph cs)) x) (Law_below_6 v0)) : Ev mmPT tbL_below 0 [some (.int v0), some (.int 6)] [] (mh sc rest to fl ma tr mk cn nu de ru la tb tf ph cs) x := by
  unfold Law_below_6 at hk
  refine Ev.s (ins := .iload_n 0) (pc' := 1) rfl rfl ?_
  refine q_ld 2147483647 rfl rfl ?_
  refine Ev.s (ins := .iand) (pc' := 4) rfl rfl ?_
  refine Ev.s (ins := .iload_n 1) (pc' := 5) rfl rfl ?_
  refine q_rem rfl (by decide) ?_
  exact Ev.iret rfl rfl hk
set_option maxRecDepth 100000 in
theorem e_Law_below_6 {v0 : Int32} : Ev mmPT tbL_below 0 [some (.int v0), some (.int 6)] [] (mh sc rest to fl ma tr mk cn nu de ru la tb tf ph cs) ((fun r : Int32 => (some (.int r), mh sc rest to fl ma tr mk cn nu de ru la tb tf ph cs)) (Law_below_6 v0)) := e_Law_below_6_0 (by exact rfl)
set_option maxRecDepth 100000 in
theorem e_Law_below_4_0 {v0 : Int32} {x : Option Value × List mmC} (hk : (kO (fun r : Int32 => (some (.int r), mh sc rest to fl ma tr mk cn nu de ru la tb tf ph cs)) x) (Law_below_4 v0)) : Ev mmPT tbL_below 0 [some (.int v0), some (.int 4)] [] (mh sc rest to fl ma tr mk cn nu de ru la tb tf ph cs) x := by
  unfold Law_below_4 at hk
  refine Ev.s (ins := .iload_n 0) (pc' := 1) rfl rfl ?_
  refine q_ld 2147483647 rfl rfl ?_
  refine Ev.s (ins := .iand) (pc' := 4) rfl rfl ?_
  refine Ev.s (ins := .iload_n 1) (pc' := 5) rfl rfl ?_
  refine q_rem rfl (by decide) ?_
  exact Ev.iret rfl rfl hk
set_option maxRecDepth 100000 in
theorem e_Law_below_4 {v0 : Int32} : Ev mmPT tbL_below 0 [some (.int v0), some (.int 4)] [] (mh sc rest to fl ma tr mk cn nu de ru la tb tf ph cs) ((fun r : Int32 => (some (.int r), mh sc rest to fl ma tr mk cn nu de ru la tb tf ph cs)) (Law_below_4 v0)) := e_Law_below_4_0 (by exact rfl)
set_option maxRecDepth 100000 in
theorem e_Law_law_0_264 {x : Option Value × List mmC} (hk : (kP (fun r : Bool × Ob × Ob × Ob × Ob × Ob × Ob × Ob × Ob × Ob × Ob × Ob × Ob × Ob × Int64 => (some (.int (b2i r.1)), mh sc rest r.2.1 r.2.2.1 r.2.2.2.1 r.2.2.2.2.1 r.2.2.2.2.2.1 r.2.2.2.2.2.2.1 r.2.2.2.2.2.2.2.1 r.2.2.2.2.2.2.2.2.1 r.2.2.2.2.2.2.2.2.2.1 r.2.2.2.2.2.2.2.2.2.2.1 r.2.2.2.2.2.2.2.2.2.2.2.1 r.2.2.2.2.2.2.2.2.2.2.2.2.1 r.2.2.2.2.2.2.2.2.2.2.2.2.2.1 r.2.2.2.2.2.2.2.2.2.2.2.2.2.2)) x) (Law_law_264 to fl ma tr mk cn nu de ru la tb tf ph cs sc)) : Ev mmPT tbL_law 264 [none, none, none, none, none, none, none, none, none, none, none, none, none] [] (mh sc rest to fl ma tr mk cn nu de ru la tb tf ph cs) x := by
  unfold Law_law_264 at hk
  refine q_ic 0 rfl rfl ?_
  exact Ev.zret rfl rfl (Or.inl rfl) hk
set_option maxRecDepth 100000 in
theorem e_Law_law_0_374 {v3 : Int32} {v4 : Int32} {v6 : Int32} {v7 : Int32} {v8 : Int32} {w0 : Bool} {x : Option Value × List mmC} (b45 : v4 < 2147483647) (b181 : v8 < 2147483647) (hk : (kK (fun a : Int32 × Int32 × Ob × Ob × Ob × Ob × Ob × Ob × Ob × Ob × Ob × Ob × Int64 => mu a.2.1) (mu v8) (fun a : Int32 × Int32 × Ob × Ob × Ob × Ob × Ob × Ob × Ob × Ob × Ob × Ob × Int64 => Ev mmPT tbL_law 181 [some (.ref 0), some (.ref 1), none, some (.int v3), some (.int v4), none, some (.int v6), some (.int a.1), some (.int a.2.1), none, none, none, none] [] (mh sc rest to fl a.2.2.1 a.2.2.2.1 mk a.2.2.2.2.1 a.2.2.2.2.2.1 a.2.2.2.2.2.2.1 a.2.2.2.2.2.2.2.1 a.2.2.2.2.2.2.2.2.1 a.2.2.2.2.2.2.2.2.2.1 a.2.2.2.2.2.2.2.2.2.2.1 a.2.2.2.2.2.2.2.2.2.2.2.1 a.2.2.2.2.2.2.2.2.2.2.2.2) x) (kK (fun a : Int32 × Ob × Ob × Ob × Ob × Ob × Ob × Ob × Ob × Ob × Ob × Ob × Ob × Ob × Int64 => mu a.1) (mu v4) (fun a : Int32 × Ob × Ob × Ob × Ob × Ob × Ob × Ob × Ob × Ob × Ob × Ob × Ob × Ob × Int64 => Ev mmPT tbL_law 45 [some (.ref 0), some (.ref 1), none, some (.int v3), some (.int a.1), none, none, none, none, none, none, none, none] [] (mh sc rest a.2.1 a.2.2.1 a.2.2.2.1 a.2.2.2.2.1 a.2.2.2.2.2.1 a.2.2.2.2.2.2.1 a.2.2.2.2.2.2.2.1 a.2.2.2.2.2.2.2.2.1 a.2.2.2.2.2.2.2.2.2.1 a.2.2.2.2.2.2.2.2.2.2.1 a.2.2.2.2.2.2.2.2.2.2.2.1 a.2.2.2.2.2.2.2.2.2.2.2.2.1 a.2.2.2.2.2.2.2.2.2.2.2.2.2.1 a.2.2.2.2.2.2.2.2.2.2.2.2.2.2) x) (kP (fun r : Bool × Ob × Ob × Ob × Ob × Ob × Ob × Ob × Ob × Ob × Ob × Ob × Ob × Ob × Int64 => (some (.int (b2i r.1)), mh sc rest r.2.1 r.2.2.1 r.2.2.2.1 r.2.2.2.2.1 r.2.2.2.2.2.1 r.2.2.2.2.2.2.1 r.2.2.2.2.2.2.2.1 r.2.2.2.2.2.2.2.2.1 r.2.2.2.2.2.2.2.2.2.1 r.2.2.2.2.2.2.2.2.2.2.1 r.2.2.2.2.2.2.2.2.2.2.2.1 r.2.2.2.2.2.2.2.2.2.2.2.2.1 r.2.2.2.2.2.2.2.2.2.2.2.2.2.1 r.2.2.2.2.2.2.2.2.2.2.2.2.2.2)) x))) (Law_law_374 to fl ma tr mk cn nu de ru la tb tf ph cs sc v3 v4 v6 v7 v8 w0)) : Ev mmPT tbL_law 374 [some (.ref 0), some (.ref 1), none, some (.int v3), some (.int v4), none, some (.int v6), some (.int v7), some (.int v8), none, none, none, none] [.int (b2i w0)] (mh sc rest to fl ma tr mk cn nu de ru la tb tf ph cs) x := by
  unfold Law_law_374 at hk
  refine q_bne rfl hk (fun c1 hk => ?_) (fun c1 hk => ?_)
  · refine q_inc 1 [some (.ref 0), some (.ref 1), none, some (.int v3), some (.int v4), none, some (.int v6), some (.int v7), some (.int (v8 + 1)), none, none, none, none] rfl rfl rfl rfl ?_
    refine Ev.goto rfl ?_
    replace hk := kK_l hk
    exact hk (mu_lt b181)
  · replace hk := kK_r hk
    replace hk := kK_r hk
    refine q_ic 0 rfl rfl ?_
    exact Ev.zret rfl rfl (Or.inl rfl) hk
set_option maxRecDepth 100000 in
theorem e_Law_law_0_368 {v3 : Int32} {v4 : Int32} {v6 : Int32} {v7 : Int32} {v8 : Int32} {v9 : Int32} {x : Option Value × List mmC} (b45 : v4 < 2147483647) (b181 : v8 < 2147483647) (hk : (kK (fun a : Int32 × Int32 × Ob × Ob × Ob × Ob × Ob × Ob × Ob × Ob × Ob × Ob × Int64 => mu a.2.1) (mu v8) (fun a : Int32 × Int32 × Ob × Ob × Ob × Ob × Ob × Ob × Ob × Ob × Ob × Ob × Int64 => Ev mmPT tbL_law 181 [some (.ref 0), some (.ref 1), none, some (.int v3), some (.int v4), none, some (.int v6), some (.int a.1), some (.int a.2.1), none, none, none, none] [] (mh sc rest to fl a.2.2.1 a.2.2.2.1 mk a.2.2.2.2.1 a.2.2.2.2.2.1 a.2.2.2.2.2.2.1 a.2.2.2.2.2.2.2.1 a.2.2.2.2.2.2.2.2.1 a.2.2.2.2.2.2.2.2.2.1 a.2.2.2.2.2.2.2.2.2.2.1 a.2.2.2.2.2.2.2.2.2.2.2.1 a.2.2.2.2.2.2.2.2.2.2.2.2) x) (kK (fun a : Int32 × Ob × Ob × Ob × Ob × Ob × Ob × Ob × Ob × Ob × Ob × Ob × Ob × Ob × Int64 => mu a.1) (mu v4) (fun a : Int32 × Ob × Ob × Ob × Ob × Ob × Ob × Ob × Ob × Ob × Ob × Ob × Ob × Ob × Int64 => Ev mmPT tbL_law 45 [some (.ref 0), some (.ref 1), none, some (.int v3), some (.int a.1), none, none, none, none, none, none, none, none] [] (mh sc rest a.2.1 a.2.2.1 a.2.2.2.1 a.2.2.2.2.1 a.2.2.2.2.2.1 a.2.2.2.2.2.2.1 a.2.2.2.2.2.2.2.1 a.2.2.2.2.2.2.2.2.1 a.2.2.2.2.2.2.2.2.2.1 a.2.2.2.2.2.2.2.2.2.2.1 a.2.2.2.2.2.2.2.2.2.2.2.1 a.2.2.2.2.2.2.2.2.2.2.2.2.1 a.2.2.2.2.2.2.2.2.2.2.2.2.2.1 a.2.2.2.2.2.2.2.2.2.2.2.2.2.2) x) (kP (fun r : Bool × Ob × Ob × Ob × Ob × Ob × Ob × Ob × Ob × Ob × Ob × Ob × Ob × Ob × Int64 => (some (.int (b2i r.1)), mh sc rest r.2.1 r.2.2.1 r.2.2.2.1 r.2.2.2.2.1 r.2.2.2.2.2.1 r.2.2.2.2.2.2.1 r.2.2.2.2.2.2.2.1 r.2.2.2.2.2.2.2.2.1 r.2.2.2.2.2.2.2.2.2.1 r.2.2.2.2.2.2.2.2.2.2.1 r.2.2.2.2.2.2.2.2.2.2.2.1 r.2.2.2.2.2.2.2.2.2.2.2.2.1 r.2.2.2.2.2.2.2.2.2.2.2.2.2.1 r.2.2.2.2.2.2.2.2.2.2.2.2.2.2)) x))) (Law_law_368 to fl ma tr mk cn nu de ru la tb tf ph cs sc v3 v4 v6 v7 v8 v9)) : Ev mmPT tbL_law 368 [some (.ref 0), some (.ref 1), none, some (.int v3), some (.int v4), none, some (.int v6), some (.int v7), some (.int v8), some (.int v9), none, none, none] [] (mh sc rest to fl ma tr mk cn nu de ru la tb tf ph cs) x := by
  unfold Law_law_368 at hk
  refine Ev.s (ins := .aload_n 1) (pc' := 369) rfl rfl ?_
  refine Ev.s (ins := .iload 9) (pc' := 371) rfl rfl ?_
  refine q_ob hk (fun hb => hb) (fun r371 hr371 hk => ?_)
  refine kc_L_isRunRight_2 rfl (Nat.le_of_ble_eq_true rfl) (e_Law_isRunRight hr371) ?_
  refine Ev.weak [some (.ref 0), some (.ref 1), none, some (.int v3), some (.int v4), none, some (.int v6), some (.int v7), some (.int v8), none, none, none, none] ⟨rfl, rfl, rfl, rfl, rfl, rfl, rfl, rfl, rfl, rfl, rfl, rfl, rfl, trivial⟩ ?_
  exact e_Law_law_0_374 b45 b181 hk
set_option maxRecDepth 100000 in
theorem e_Law_law_0_366 {x : Option Value × List mmC} (hk : (kP (fun r : Bool × Ob × Ob × Ob × Ob × Ob × Ob × Ob × Ob × Ob × Ob × Ob × Ob × Ob × Int64 => (some (.int (b2i r.1)), mh sc rest r.2.1 r.2.2.1 r.2.2.2.1 r.2.2.2.2.1 r.2.2.2.2.2.1 r.2.2.2.2.2.2.1 r.2.2.2.2.2.2.2.1 r.2.2.2.2.2.2.2.2.1 r.2.2.2.2.2.2.2.2.2.1 r.2.2.2.2.2.2.2.2.2.2.1 r.2.2.2.2.2.2.2.2.2.2.2.1 r.2.2.2.2.2.2.2.2.2.2.2.2.1 r.2.2.2.2.2.2.2.2.2.2.2.2.2.1 r.2.2.2.2.2.2.2.2.2.2.2.2.2.2)) x) (Law_law_366 to fl ma tr mk cn nu de ru la tb tf ph cs sc)) : Ev mmPT tbL_law 366 [none, none, none, none, none, none, none, none, none, none, none, none, none] [] (mh sc rest to fl ma tr mk cn nu de ru la tb tf ph cs) x := by
  unfold Law_law_366 at hk
  refine q_ic 0 rfl rfl ?_
  exact Ev.zret rfl rfl (Or.inl rfl) hk
set_option maxRecDepth 100000 in
theorem e_Law_law_0_363 {v3 : Int32} {v4 : Int32} {v6 : Int32} {v7 : Int32} {v8 : Int32} {v9 : Int32} {w0 : Bool} {x : Option Value × List mmC} (b45 : v4 < 2147483647) (b181 : v8 < 2147483647) (hk : (kK (fun a : Int32 × Int32 × Ob × Ob × Ob × Ob × Ob × Ob × Ob × Ob × Ob × Ob × Int64 => mu a.2.1) (mu v8) (fun a : Int32 × Int32 × Ob × Ob × Ob × Ob × Ob × Ob × Ob × Ob × Ob × Ob × Int64 => Ev mmPT tbL_law 181 [some (.ref 0), some (.ref 1), none, some (.int v3), some (.int v4), none, some (.int v6), some (.int a.1), some (.int a.2.1), none, none, none, none] [] (mh sc rest to fl a.2.2.1 a.2.2.2.1 mk a.2.2.2.2.1 a.2.2.2.2.2.1 a.2.2.2.2.2.2.1 a.2.2.2.2.2.2.2.1 a.2.2.2.2.2.2.2.2.1 a.2.2.2.2.2.2.2.2.2.1 a.2.2.2.2.2.2.2.2.2.2.1 a.2.2.2.2.2.2.2.2.2.2.2.1 a.2.2.2.2.2.2.2.2.2.2.2.2) x) (kK (fun a : Int32 × Ob × Ob × Ob × Ob × Ob × Ob × Ob × Ob × Ob × Ob × Ob × Ob × Ob × Int64 => mu a.1) (mu v4) (fun a : Int32 × Ob × Ob × Ob × Ob × Ob × Ob × Ob × Ob × Ob × Ob × Ob × Ob × Ob × Int64 => Ev mmPT tbL_law 45 [some (.ref 0), some (.ref 1), none, some (.int v3), some (.int a.1), none, none, none, none, none, none, none, none] [] (mh sc rest a.2.1 a.2.2.1 a.2.2.2.1 a.2.2.2.2.1 a.2.2.2.2.2.1 a.2.2.2.2.2.2.1 a.2.2.2.2.2.2.2.1 a.2.2.2.2.2.2.2.2.1 a.2.2.2.2.2.2.2.2.2.1 a.2.2.2.2.2.2.2.2.2.2.1 a.2.2.2.2.2.2.2.2.2.2.2.1 a.2.2.2.2.2.2.2.2.2.2.2.2.1 a.2.2.2.2.2.2.2.2.2.2.2.2.2.1 a.2.2.2.2.2.2.2.2.2.2.2.2.2.2) x) (kP (fun r : Bool × Ob × Ob × Ob × Ob × Ob × Ob × Ob × Ob × Ob × Ob × Ob × Ob × Ob × Int64 => (some (.int (b2i r.1)), mh sc rest r.2.1 r.2.2.1 r.2.2.2.1 r.2.2.2.2.1 r.2.2.2.2.2.1 r.2.2.2.2.2.2.1 r.2.2.2.2.2.2.2.1 r.2.2.2.2.2.2.2.2.1 r.2.2.2.2.2.2.2.2.2.1 r.2.2.2.2.2.2.2.2.2.2.1 r.2.2.2.2.2.2.2.2.2.2.2.1 r.2.2.2.2.2.2.2.2.2.2.2.2.1 r.2.2.2.2.2.2.2.2.2.2.2.2.2.1 r.2.2.2.2.2.2.2.2.2.2.2.2.2.2)) x))) (Law_law_363 to fl ma tr mk cn nu de ru la tb tf ph cs sc v3 v4 v6 v7 v8 v9 w0)) : Ev mmPT tbL_law 363 [some (.ref 0), some (.ref 1), none, some (.int v3), some (.int v4), none, some (.int v6), some (.int v7), some (.int v8), some (.int v9), none, none, none] [.int (b2i w0)] (mh sc rest to fl ma tr mk cn nu de ru la tb tf ph cs) x := by
  unfold Law_law_363 at hk
  refine q_bne rfl hk (fun c1 hk => ?_) (fun c1 hk => ?_)
  · exact e_Law_law_0_368 b45 b181 hk
  · replace hk := kK_r hk
    replace hk := kK_r hk
    refine Ev.weak [none, none, none, none, none, none, none, none, none, none, none, none, none] ⟨rfl, rfl, rfl, rfl, rfl, rfl, rfl, rfl, rfl, rfl, rfl, rfl, rfl, trivial⟩ ?_
    exact e_Law_law_0_366 hk
set_option maxRecDepth 100000 in
theorem e_Law_law_0_352 {v3 : Int32} {v4 : Int32} {v6 : Int32} {v7 : Int32} {v8 : Int32} {v9 : Int32} {v12 : Int32} {w0 : Int32} {x : Option Value × List mmC} (b45 : v4 < 2147483647) (b181 : v8 < 2147483647) (hk : (kK (fun a : Int32 × Int32 × Ob × Ob × Ob × Ob × Ob × Ob × Ob × Ob × Ob × Ob × Int64 => mu a.2.1) (mu v8) (fun a : Int32 × Int32 × Ob × Ob × Ob × Ob × Ob × Ob × Ob × Ob × Ob × Ob × Int64 => Ev mmPT tbL_law 181 [some (.ref 0), some (.ref 1), none, some (.int v3), some (.int v4), none, some (.int v6), some (.int a.1), some (.int a.2.1), none, none, none, none] [] (mh sc rest to fl a.2.2.1 a.2.2.2.1 mk a.2.2.2.2.1 a.2.2.2.2.2.1 a.2.2.2.2.2.2.1 a.2.2.2.2.2.2.2.1 a.2.2.2.2.2.2.2.2.1 a.2.2.2.2.2.2.2.2.2.1 a.2.2.2.2.2.2.2.2.2.2.1 a.2.2.2.2.2.2.2.2.2.2.2.1 a.2.2.2.2.2.2.2.2.2.2.2.2) x) (kK (fun a : Int32 × Ob × Ob × Ob × Ob × Ob × Ob × Ob × Ob × Ob × Ob × Ob × Ob × Ob × Int64 => mu a.1) (mu v4) (fun a : Int32 × Ob × Ob × Ob × Ob × Ob × Ob × Ob × Ob × Ob × Ob × Ob × Ob × Ob × Int64 => Ev mmPT tbL_law 45 [some (.ref 0), some (.ref 1), none, some (.int v3), some (.int a.1), none, none, none, none, none, none, none, none] [] (mh sc rest a.2.1 a.2.2.1 a.2.2.2.1 a.2.2.2.2.1 a.2.2.2.2.2.1 a.2.2.2.2.2.2.1 a.2.2.2.2.2.2.2.1 a.2.2.2.2.2.2.2.2.1 a.2.2.2.2.2.2.2.2.2.1 a.2.2.2.2.2.2.2.2.2.2.1 a.2.2.2.2.2.2.2.2.2.2.2.1 a.2.2.2.2.2.2.2.2.2.2.2.2.1 a.2.2.2.2.2.2.2.2.2.2.2.2.2.1 a.2.2.2.2.2.2.2.2.2.2.2.2.2.2) x) (kP (fun r : Bool × Ob × Ob × Ob × Ob × Ob × Ob × Ob × Ob × Ob × Ob × Ob × Ob × Ob × Int64 => (some (.int (b2i r.1)), mh sc rest r.2.1 r.2.2.1 r.2.2.2.1 r.2.2.2.2.1 r.2.2.2.2.2.1 r.2.2.2.2.2.2.1 r.2.2.2.2.2.2.2.1 r.2.2.2.2.2.2.2.2.1 r.2.2.2.2.2.2.2.2.2.1 r.2.2.2.2.2.2.2.2.2.2.1 r.2.2.2.2.2.2.2.2.2.2.2.1 r.2.2.2.2.2.2.2.2.2.2.2.2.1 r.2.2.2.2.2.2.2.2.2.2.2.2.2.1 r.2.2.2.2.2.2.2.2.2.2.2.2.2.2)) x))) (Law_law_352 to fl ma tr mk cn nu de ru la tb tf ph cs sc v3 v4 v6 v7 v8 v9 v12 w0)) : Ev mmPT tbL_law 352 [some (.ref 0), some (.ref 1), none, some (.int v3), some (.int v4), none, some (.int v6), some (.int v7), some (.int v8), some (.int v9), none, none, some (.int v12)] [.int w0] (mh sc rest to fl ma tr mk cn nu de ru la tb tf ph cs) x := by
  unfold Law_law_352 at hk
  refine Ev.s (ins := .iload 12) (pc' := 354) rfl rfl ?_
  refine q_cle rfl hk (fun c1 hk => ?_) (fun c1 hk => ?_)
  · refine Ev.s (ins := .aload_n 1) (pc' := 358) rfl rfl ?_
    refine Ev.s (ins := .iload 9) (pc' := 360) rfl rfl ?_
    refine kc_L_isCut_2 rfl (Nat.le_of_ble_eq_true rfl) (e_Law_isCut) ?_
    refine Ev.weak [some (.ref 0), some (.ref 1), none, some (.int v3), some (.int v4), none, some (.int v6), some (.int v7), some (.int v8), some (.int v9), none, none, none] ⟨rfl, rfl, rfl, rfl, rfl, rfl, rfl, rfl, rfl, rfl, rfl, rfl, rfl, trivial⟩ ?_
    exact e_Law_law_0_363 b45 b181 hk
  · refine Ev.weak [some (.ref 0), some (.ref 1), none, some (.int v3), some (.int v4), none, some (.int v6), some (.int v7), some (.int v8), some (.int v9), none, none, none] ⟨rfl, rfl, rfl, rfl, rfl, rfl, rfl, rfl, rfl, rfl, rfl, rfl, rfl, trivial⟩ ?_
    exact e_Law_law_0_368 b45 b181 hk
set_option maxRecDepth 100000 in
theorem e_Law_law_0_254 {v3 : Int32} {v4 : Int32} {v6 : Int32} {v7 : Int32} {v8 : Int32} {v9 : Int32} {v11 : Int32} {v12 : Int32} {w0 : Int32} {x : Option Value × List mmC} (b45 : v4 < 2147483647) (b181 : v8 < 2147483647) (hk : (kK (fun a : Int32 × Int32 × Ob × Ob × Ob × Ob × Ob × Ob × Ob × Ob × Ob × Ob × Int64 => mu a.2.1) (mu v8) (fun a : Int32 × Int32 × Ob × Ob × Ob × Ob × Ob × Ob × Ob × Ob × Ob × Ob × Int64 => Ev mmPT tbL_law 181 [some (.ref 0), some (.ref 1), none, some (.int v3), some (.int v4), none, some (.int v6), some (.int a.1), some (.int a.2.1), none, none, none, none] [] (mh sc rest to fl a.2.2.1 a.2.2.2.1 mk a.2.2.2.2.1 a.2.2.2.2.2.1 a.2.2.2.2.2.2.1 a.2.2.2.2.2.2.2.1 a.2.2.2.2.2.2.2.2.1 a.2.2.2.2.2.2.2.2.2.1 a.2.2.2.2.2.2.2.2.2.2.1 a.2.2.2.2.2.2.2.2.2.2.2.1 a.2.2.2.2.2.2.2.2.2.2.2.2) x) (kK (fun a : Int32 × Ob × Ob × Ob × Ob × Ob × Ob × Ob × Ob × Ob × Ob × Ob × Ob × Ob × Int64 => mu a.1) (mu v4) (fun a : Int32 × Ob × Ob × Ob × Ob × Ob × Ob × Ob × Ob × Ob × Ob × Ob × Ob × Ob × Int64 => Ev mmPT tbL_law 45 [some (.ref 0), some (.ref 1), none, some (.int v3), some (.int a.1), none, none, none, none, none, none, none, none] [] (mh sc rest a.2.1 a.2.2.1 a.2.2.2.1 a.2.2.2.2.1 a.2.2.2.2.2.1 a.2.2.2.2.2.2.1 a.2.2.2.2.2.2.2.1 a.2.2.2.2.2.2.2.2.1 a.2.2.2.2.2.2.2.2.2.1 a.2.2.2.2.2.2.2.2.2.2.1 a.2.2.2.2.2.2.2.2.2.2.2.1 a.2.2.2.2.2.2.2.2.2.2.2.2.1 a.2.2.2.2.2.2.2.2.2.2.2.2.2.1 a.2.2.2.2.2.2.2.2.2.2.2.2.2.2) x) (kP (fun r : Bool × Ob × Ob × Ob × Ob × Ob × Ob × Ob × Ob × Ob × Ob × Ob × Ob × Ob × Int64 => (some (.int (b2i r.1)), mh sc rest r.2.1 r.2.2.1 r.2.2.2.1 r.2.2.2.2.1 r.2.2.2.2.2.1 r.2.2.2.2.2.2.1 r.2.2.2.2.2.2.2.1 r.2.2.2.2.2.2.2.2.1 r.2.2.2.2.2.2.2.2.2.1 r.2.2.2.2.2.2.2.2.2.2.1 r.2.2.2.2.2.2.2.2.2.2.2.1 r.2.2.2.2.2.2.2.2.2.2.2.2.1 r.2.2.2.2.2.2.2.2.2.2.2.2.2.1 r.2.2.2.2.2.2.2.2.2.2.2.2.2.2)) x))) (Law_law_254 to fl ma tr mk cn nu de ru la tb tf ph cs sc v3 v4 v6 v7 v8 v9 v11 v12 w0)) : Ev mmPT tbL_law 254 [some (.ref 0), some (.ref 1), none, some (.int v3), some (.int v4), none, some (.int v6), some (.int v7), some (.int v8), some (.int v9), none, some (.int v11), some (.int v12)] [.int w0] (mh sc rest to fl ma tr mk cn nu de ru la tb tf ph cs) x := by
  unfold Law_law_254 at hk
  refine Ev.s (ins := .iload 11) (pc' := 256) rfl rfl ?_
  refine q_cne rfl hk (fun c1 hk => ?_) (fun c1 hk => ?_)
  · refine Ev.s (ins := .iload 11) (pc' := 261) rfl rfl ?_
    refine q_ge rfl hk (fun c2 hk => ?_) (fun c2 hk => ?_)
    · replace hk := kK_r hk
      replace hk := kK_r hk
      refine Ev.weak [none, none, none, none, none, none, none, none, none, none, none, none, none] ⟨rfl, rfl, rfl, rfl, rfl, rfl, rfl, rfl, rfl, rfl, rfl, rfl, rfl, trivial⟩ ?_
      exact e_Law_law_0_264 hk
    · refine Ev.s (ins := .iload 7) (pc' := 268) rfl rfl ?_
      refine Ev.s (ins := .iload 11) (pc' := 270) rfl rfl ?_
      refine Ev.s (ins := .iadd) (pc' := 271) rfl rfl ?_
      refine Ev.s (ins := .istore 7) (pc' := 273) (lv' := [some (.ref 0), some (.ref 1), none, some (.int v3), some (.int v4), none, some (.int v6), some (.int (v7 + v11)), some (.int v8), some (.int v9), none, some (.int v11), some (.int v12)]) rfl rfl ?_
      refine Ev.s (ins := .aload_n 1) (pc' := 274) rfl rfl ?_
      refine q_bi 10 rfl rfl ?_
      refine q_ob hk (fun hb => hb) (fun r276 hr276 hk => ?_)
      refine kc_X11_many_0 rfl oi_1 rfl (Nat.le_of_ble_eq_true rfl) (e_Ph_many hr276) ?_
      refine Ev.s (ins := .iload 7) (pc' := 281) rfl rfl ?_
      refine q_cne rfl hk (fun c3 hk => ?_) (fun c3 hk => ?_)
      · refine Ev.s (ins := .aload_n 1) (pc' := 285) rfl rfl ?_
        refine q_bi 9 rfl rfl ?_
        refine q_ob hk (fun hb => hb) (fun r287 hr287 hk => ?_)
        refine kc_X11_many_0 rfl oi_1 rfl (Nat.le_of_ble_eq_true rfl) (e_Ph_many hr287) ?_
        refine Ev.s (ins := .iload 8) (pc' := 292) rfl rfl ?_
        refine q_ic 1 rfl rfl ?_
        refine Ev.s (ins := .iadd) (pc' := 294) rfl rfl ?_
        refine q_cne rfl hk (fun c4 hk => ?_) (fun c4 hk => ?_)
        · refine Ev.s (ins := .aload_n 1) (pc' := 298) rfl rfl ?_
          refine q_ic 5 rfl rfl ?_
          refine q_ob hk (fun hb => hb) (fun r299 hr299 hk => ?_)
          refine kc_X11_many_0 rfl oi_1 rfl (Nat.le_of_ble_eq_true rfl) (e_Ph_many hr299) ?_
          refine Ev.s (ins := .aload_n 1) (pc' := 303) rfl rfl ?_
          refine q_bi 7 rfl rfl ?_
          refine q_ob hk (fun hb => hb) (fun r305 hr305 hk => ?_)
          refine kc_X11_many_0 rfl oi_1 rfl (Nat.le_of_ble_eq_true rfl) (e_Ph_many hr305) ?_
          refine Ev.s (ins := .iadd) (pc' := 309) rfl rfl ?_
          refine Ev.s (ins := .iload 6) (pc' := 311) rfl rfl ?_
          refine q_bi 6 rfl rfl ?_
          refine Ev.s (ins := .isub) (pc' := 314) rfl rfl ?_
          refine Ev.s (ins := .aload_n 1) (pc' := 315) rfl rfl ?_
          refine q_ic 1 rfl rfl ?_
          refine q_ob hk (fun hb => hb) (fun r316 hr316 hk => ?_)
          refine kc_X11_many_0 rfl oi_1 rfl (Nat.le_of_ble_eq_true rfl) (e_Ph_many hr316) ?_
          refine Ev.s (ins := .iadd) (pc' := 320) rfl rfl ?_
          refine Ev.s (ins := .iload 7) (pc' := 322) rfl rfl ?_
          refine Ev.s (ins := .isub) (pc' := 323) rfl rfl ?_
          refine q_cne rfl hk (fun c5 hk => ?_) (fun c5 hk => ?_)
          · refine Ev.s (ins := .aload_n 1) (pc' := 327) rfl rfl ?_
            refine q_ic 0 rfl rfl ?_
            refine Ev.s (ins := .iload 9) (pc' := 330) rfl rfl ?_
            refine q_ic 3 rfl rfl ?_
            refine Ev.s (ins := .ishr) (pc' := 332) rfl rfl ?_
            refine q_bi 20 rfl rfl ?_
            refine kc_L_below_2 rfl (Nat.le_of_ble_eq_true rfl) (e_Law_below_20) ?_
            refine q_ic 5 rfl rfl ?_
            refine Ev.s (ins := .isub) (pc' := 339) rfl rfl ?_
            refine Ev.s (ins := .iload 9) (pc' := 341) rfl rfl ?_
            refine q_bi 6 rfl rfl ?_
            refine Ev.s (ins := .ishr) (pc' := 344) rfl rfl ?_
            refine q_bi 9 rfl rfl ?_
            refine kc_L_below_2 rfl (Nat.le_of_ble_eq_true rfl) (e_Law_below_9) ?_
            refine q_ob hk (fun hb => hb) (fun r349 hr349 hk => ?_)
            refine kc_X11_wouldCost_0 rfl oi_1 rfl (Nat.le_of_ble_eq_true rfl) (e_Ph_wouldCost hr349) ?_
            refine Ev.weak [some (.ref 0), some (.ref 1), none, some (.int v3), some (.int v4), none, some (.int v6), some (.int (v7 + v11)), some (.int v8), some (.int v9), none, none, some (.int v12)] ⟨rfl, rfl, rfl, rfl, rfl, rfl, rfl, rfl, rfl, rfl, rfl, rfl, rfl, trivial⟩ ?_
            exact e_Law_law_0_352 b45 b181 hk
          · replace hk := kK_r hk
            replace hk := kK_r hk
            refine Ev.weak [none, none, none, none, none, none, none, none, none, none, none, none, none] ⟨rfl, rfl, rfl, rfl, rfl, rfl, rfl, rfl, rfl, rfl, rfl, rfl, rfl, trivial⟩ ?_
            exact e_Law_law_0_366 hk
        · replace hk := kK_r hk
          replace hk := kK_r hk
          refine Ev.weak [none, none, none, none, none, none, none, none, none, none, none, none, none] ⟨rfl, rfl, rfl, rfl, rfl, rfl, rfl, rfl, rfl, rfl, rfl, rfl, rfl, trivial⟩ ?_
          exact e_Law_law_0_366 hk
      · replace hk := kK_r hk
        replace hk := kK_r hk
        refine Ev.weak [none, none, none, none, none, none, none, none, none, none, none, none, none] ⟨rfl, rfl, rfl, rfl, rfl, rfl, rfl, rfl, rfl, rfl, rfl, rfl, rfl, trivial⟩ ?_
        exact e_Law_law_0_366 hk
  · replace hk := kK_r hk
    replace hk := kK_r hk
    refine Ev.weak [none, none, none, none, none, none, none, none, none, none, none, none, none] ⟨rfl, rfl, rfl, rfl, rfl, rfl, rfl, rfl, rfl, rfl, rfl, rfl, rfl, trivial⟩ ?_
    exact e_Law_law_0_264 hk
set_option maxRecDepth 100000 in
theorem e_Law_law_0_246 {v3 : Int32} {v4 : Int32} {v6 : Int32} {v7 : Int32} {v8 : Int32} {v9 : Int32} {v10 : Int32} {v11 : Int32} {w0 : Int32} {x : Option Value × List mmC} (b45 : v4 < 2147483647) (b181 : v8 < 2147483647) (hk : (kK (fun a : Int32 × Int32 × Ob × Ob × Ob × Ob × Ob × Ob × Ob × Ob × Ob × Ob × Int64 => mu a.2.1) (mu v8) (fun a : Int32 × Int32 × Ob × Ob × Ob × Ob × Ob × Ob × Ob × Ob × Ob × Ob × Int64 => Ev mmPT tbL_law 181 [some (.ref 0), some (.ref 1), none, some (.int v3), some (.int v4), none, some (.int v6), some (.int a.1), some (.int a.2.1), none, none, none, none] [] (mh sc rest to fl a.2.2.1 a.2.2.2.1 mk a.2.2.2.2.1 a.2.2.2.2.2.1 a.2.2.2.2.2.2.1 a.2.2.2.2.2.2.2.1 a.2.2.2.2.2.2.2.2.1 a.2.2.2.2.2.2.2.2.2.1 a.2.2.2.2.2.2.2.2.2.2.1 a.2.2.2.2.2.2.2.2.2.2.2.1 a.2.2.2.2.2.2.2.2.2.2.2.2) x) (kK (fun a : Int32 × Ob × Ob × Ob × Ob × Ob × Ob × Ob × Ob × Ob × Ob × Ob × Ob × Ob × Int64 => mu a.1) (mu v4) (fun a : Int32 × Ob × Ob × Ob × Ob × Ob × Ob × Ob × Ob × Ob × Ob × Ob × Ob × Ob × Int64 => Ev mmPT tbL_law 45 [some (.ref 0), some (.ref 1), none, some (.int v3), some (.int a.1), none, none, none, none, none, none, none, none] [] (mh sc rest a.2.1 a.2.2.1 a.2.2.2.1 a.2.2.2.2.1 a.2.2.2.2.2.1 a.2.2.2.2.2.2.1 a.2.2.2.2.2.2.2.1 a.2.2.2.2.2.2.2.2.1 a.2.2.2.2.2.2.2.2.2.1 a.2.2.2.2.2.2.2.2.2.2.1 a.2.2.2.2.2.2.2.2.2.2.2.1 a.2.2.2.2.2.2.2.2.2.2.2.2.1 a.2.2.2.2.2.2.2.2.2.2.2.2.2.1 a.2.2.2.2.2.2.2.2.2.2.2.2.2.2) x) (kP (fun r : Bool × Ob × Ob × Ob × Ob × Ob × Ob × Ob × Ob × Ob × Ob × Ob × Ob × Ob × Int64 => (some (.int (b2i r.1)), mh sc rest r.2.1 r.2.2.1 r.2.2.2.1 r.2.2.2.2.1 r.2.2.2.2.2.1 r.2.2.2.2.2.2.1 r.2.2.2.2.2.2.2.1 r.2.2.2.2.2.2.2.2.1 r.2.2.2.2.2.2.2.2.2.1 r.2.2.2.2.2.2.2.2.2.2.1 r.2.2.2.2.2.2.2.2.2.2.2.1 r.2.2.2.2.2.2.2.2.2.2.2.2.1 r.2.2.2.2.2.2.2.2.2.2.2.2.2.1 r.2.2.2.2.2.2.2.2.2.2.2.2.2.2)) x))) (Law_law_246 to fl ma tr mk cn nu de ru la tb tf ph cs sc v3 v4 v6 v7 v8 v9 v10 v11 w0)) : Ev mmPT tbL_law 246 [some (.ref 0), some (.ref 1), none, some (.int v3), some (.int v4), none, some (.int v6), some (.int v7), some (.int v8), some (.int v9), some (.int v10), some (.int v11), none] [.int w0] (mh sc rest to fl ma tr mk cn nu de ru la tb tf ph cs) x := by
  unfold Law_law_246 at hk
  refine Ev.s (ins := .istore 12) (pc' := 248) (lv' := [some (.ref 0), some (.ref 1), none, some (.int v3), some (.int v4), none, some (.int v6), some (.int v7), some (.int v8), some (.int v9), some (.int v10), some (.int v11), some (.int w0)]) rfl rfl ?_
  refine Ev.s (ins := .aload_n 1) (pc' := 249) rfl rfl ?_
  refine Ev.s (ins := .iload 10) (pc' := 251) rfl rfl ?_
  refine q_ob hk (fun hb => hb) (fun r251 hr251 hk => ?_)
  refine kc_X11_pass_0 rfl oi_1 rfl (Nat.le_of_ble_eq_true rfl) (e_Ph_pass hr251) ?_
  refine Ev.weak [some (.ref 0), some (.ref 1), none, some (.int v3), some (.int v4), none, some (.int v6), some (.int v7), some (.int v8), some (.int v9), none, some (.int v11), some (.int w0)] ⟨rfl, rfl, rfl, rfl, rfl, rfl, rfl, rfl, rfl, rfl, rfl, rfl, rfl, trivial⟩ ?_
  exact e_Law_law_0_254 b45 b181 hk
set_option maxRecDepth 100000 in
theorem e_Law_law_0_218 {v3 : Int32} {v4 : Int32} {v6 : Int32} {v7 : Int32} {v8 : Int32} {v9 : Int32} {v10 : Int32} {w0 : Int32} {x : Option Value × List mmC} (b45 : v4 < 2147483647) (b181 : v8 < 2147483647) (hk : (kK (fun a : Int32 × Int32 × Ob × Ob × Ob × Ob × Ob × Ob × Ob × Ob × Ob × Ob × Int64 => mu a.2.1) (mu v8) (fun a : Int32 × Int32 × Ob × Ob × Ob × Ob × Ob × Ob × Ob × Ob × Ob × Ob × Int64 => Ev mmPT tbL_law 181 [some (.ref 0), some (.ref 1), none, some (.int v3), some (.int v4), none, some (.int v6), some (.int a.1), some (.int a.2.1), none, none, none, none] [] (mh sc rest to fl a.2.2.1 a.2.2.2.1 mk a.2.2.2.2.1 a.2.2.2.2.2.1 a.2.2.2.2.2.2.1 a.2.2.2.2.2.2.2.1 a.2.2.2.2.2.2.2.2.1 a.2.2.2.2.2.2.2.2.2.1 a.2.2.2.2.2.2.2.2.2.2.1 a.2.2.2.2.2.2.2.2.2.2.2.1 a.2.2.2.2.2.2.2.2.2.2.2.2) x) (kK (fun a : Int32 × Ob × Ob × Ob × Ob × Ob × Ob × Ob × Ob × Ob × Ob × Ob × Ob × Ob × Int64 => mu a.1) (mu v4) (fun a : Int32 × Ob × Ob × Ob × Ob × Ob × Ob × Ob × Ob × Ob × Ob × Ob × Ob × Ob × Int64 => Ev mmPT tbL_law 45 [some (.ref 0), some (.ref 1), none, some (.int v3), some (.int a.1), none, none, none, none, none, none, none, none] [] (mh sc rest a.2.1 a.2.2.1 a.2.2.2.1 a.2.2.2.2.1 a.2.2.2.2.2.1 a.2.2.2.2.2.2.1 a.2.2.2.2.2.2.2.1 a.2.2.2.2.2.2.2.2.1 a.2.2.2.2.2.2.2.2.2.1 a.2.2.2.2.2.2.2.2.2.2.1 a.2.2.2.2.2.2.2.2.2.2.2.1 a.2.2.2.2.2.2.2.2.2.2.2.2.1 a.2.2.2.2.2.2.2.2.2.2.2.2.2.1 a.2.2.2.2.2.2.2.2.2.2.2.2.2.2) x) (kP (fun r : Bool × Ob × Ob × Ob × Ob × Ob × Ob × Ob × Ob × Ob × Ob × Ob × Ob × Ob × Int64 => (some (.int (b2i r.1)), mh sc rest r.2.1 r.2.2.1 r.2.2.2.1 r.2.2.2.2.1 r.2.2.2.2.2.1 r.2.2.2.2.2.2.1 r.2.2.2.2.2.2.2.1 r.2.2.2.2.2.2.2.2.1 r.2.2.2.2.2.2.2.2.2.1 r.2.2.2.2.2.2.2.2.2.2.1 r.2.2.2.2.2.2.2.2.2.2.2.1 r.2.2.2.2.2.2.2.2.2.2.2.2.1 r.2.2.2.2.2.2.2.2.2.2.2.2.2.1 r.2.2.2.2.2.2.2.2.2.2.2.2.2.2)) x))) (Law_law_218 to fl ma tr mk cn nu de ru la tb tf ph cs sc v3 v4 v6 v7 v8 v9 v10 w0)) : Ev mmPT tbL_law 218 [some (.ref 0), some (.ref 1), none, some (.int v3), some (.int v4), none, some (.int v6), some (.int v7), some (.int v8), some (.int v9), some (.int v10), none, none] [.int w0] (mh sc rest to fl ma tr mk cn nu de ru la tb tf ph cs) x := by
  unfold Law_law_218 at hk
  refine Ev.s (ins := .istore 11) (pc' := 220) (lv' := [some (.ref 0), some (.ref 1), none, some (.int v3), some (.int v4), none, some (.int v6), some (.int v7), some (.int v8), some (.int v9), some (.int v10), some (.int w0), none]) rfl rfl ?_
  refine Ev.s (ins := .aload_n 1) (pc' := 221) rfl rfl ?_
  refine q_ic 0 rfl rfl ?_
  refine Ev.s (ins := .iload 9) (pc' := 224) rfl rfl ?_
  refine q_ic 3 rfl rfl ?_
  refine Ev.s (ins := .ishr) (pc' := 226) rfl rfl ?_
  refine q_bi 20 rfl rfl ?_
  refine kc_L_below_2 rfl (Nat.le_of_ble_eq_true rfl) (e_Law_below_20) ?_
  refine q_ic 5 rfl rfl ?_
  refine Ev.s (ins := .isub) (pc' := 233) rfl rfl ?_
  refine Ev.s (ins := .iload 9) (pc' := 235) rfl rfl ?_
  refine q_bi 6 rfl rfl ?_
  refine Ev.s (ins := .ishr) (pc' := 238) rfl rfl ?_
  refine q_bi 9 rfl rfl ?_
  refine kc_L_below_2 rfl (Nat.le_of_ble_eq_true rfl) (e_Law_below_9) ?_
  refine q_ob hk (fun hb => hb) (fun r243 hr243 hk => ?_)
  refine kc_X11_wouldCost_0 rfl oi_1 rfl (Nat.le_of_ble_eq_true rfl) (e_Ph_wouldCost hr243) ?_
  exact e_Law_law_0_246 b45 b181 hk
set_option maxRecDepth 100000 in
theorem e_Law_law_0_390 {v3 : Int32} {v4 : Int32} {w0 : Bool} {x : Option Value × List mmC} (b45 : v4 < 2147483647) (hk : (kK (fun a : Int32 × Ob × Ob × Ob × Ob × Ob × Ob × Ob × Ob × Ob × Ob × Ob × Ob × Ob × Int64 => mu a.1) (mu v4) (fun a : Int32 × Ob × Ob × Ob × Ob × Ob × Ob × Ob × Ob × Ob × Ob × Ob × Ob × Ob × Int64 => Ev mmPT tbL_law 45 [some (.ref 0), some (.ref 1), none, some (.int v3), some (.int a.1), none, none, none, none, none, none, none, none] [] (mh sc rest a.2.1 a.2.2.1 a.2.2.2.1 a.2.2.2.2.1 a.2.2.2.2.2.1 a.2.2.2.2.2.2.1 a.2.2.2.2.2.2.2.1 a.2.2.2.2.2.2.2.2.1 a.2.2.2.2.2.2.2.2.2.1 a.2.2.2.2.2.2.2.2.2.2.1 a.2.2.2.2.2.2.2.2.2.2.2.1 a.2.2.2.2.2.2.2.2.2.2.2.2.1 a.2.2.2.2.2.2.2.2.2.2.2.2.2.1 a.2.2.2.2.2.2.2.2.2.2.2.2.2.2) x) (kP (fun r : Bool × Ob × Ob × Ob × Ob × Ob × Ob × Ob × Ob × Ob × Ob × Ob × Ob × Ob × Int64 => (some (.int (b2i r.1)), mh sc rest r.2.1 r.2.2.1 r.2.2.2.1 r.2.2.2.2.1 r.2.2.2.2.2.1 r.2.2.2.2.2.2.1 r.2.2.2.2.2.2.2.1 r.2.2.2.2.2.2.2.2.1 r.2.2.2.2.2.2.2.2.2.1 r.2.2.2.2.2.2.2.2.2.2.1 r.2.2.2.2.2.2.2.2.2.2.2.1 r.2.2.2.2.2.2.2.2.2.2.2.2.1 r.2.2.2.2.2.2.2.2.2.2.2.2.2.1 r.2.2.2.2.2.2.2.2.2.2.2.2.2.2)) x)) (Law_law_390 to fl ma tr mk cn nu de ru la tb tf ph cs sc v3 v4 w0)) : Ev mmPT tbL_law 390 [some (.ref 0), some (.ref 1), none, some (.int v3), some (.int v4), none, none, none, none, none, none, none, none] [.int (b2i w0)] (mh sc rest to fl ma tr mk cn nu de ru la tb tf ph cs) x := by
  unfold Law_law_390 at hk
  refine q_bne rfl hk (fun c1 hk => ?_) (fun c1 hk => ?_)
  · refine q_inc 1 [some (.ref 0), some (.ref 1), none, some (.int v3), some (.int (v4 + 1)), none, none, none, none, none, none, none, none] rfl rfl rfl rfl ?_
    refine Ev.goto rfl ?_
    replace hk := kK_l hk
    exact hk (mu_lt b45)
  · replace hk := kK_r hk
    refine q_ic 0 rfl rfl ?_
    exact Ev.zret rfl rfl (Or.inl rfl) hk
set_option maxRecDepth 100000 in
theorem e_Law_law_0_L181b {v3 : Int32} {v4 : Int32} {v6 : Int32} {v7 : Int32} {v8 : Int32} {x : Option Value × List mmC} (b45 : v4 < 2147483647) (hk : (kK (fun a : Int32 × Int32 × Ob × Ob × Ob × Ob × Ob × Ob × Ob × Ob × Ob × Ob × Int64 => mu a.2.1) (mu v8) (fun a : Int32 × Int32 × Ob × Ob × Ob × Ob × Ob × Ob × Ob × Ob × Ob × Ob × Int64 => Ev mmPT tbL_law 181 [some (.ref 0), some (.ref 1), none, some (.int v3), some (.int v4), none, some (.int v6), some (.int a.1), some (.int a.2.1), none, none, none, none] [] (mh sc rest to fl a.2.2.1 a.2.2.2.1 mk a.2.2.2.2.1 a.2.2.2.2.2.1 a.2.2.2.2.2.2.1 a.2.2.2.2.2.2.2.1 a.2.2.2.2.2.2.2.2.1 a.2.2.2.2.2.2.2.2.2.1 a.2.2.2.2.2.2.2.2.2.2.1 a.2.2.2.2.2.2.2.2.2.2.2.1 a.2.2.2.2.2.2.2.2.2.2.2.2) x) (kK (fun a : Int32 × Ob × Ob × Ob × Ob × Ob × Ob × Ob × Ob × Ob × Ob × Ob × Ob × Ob × Int64 => mu a.1) (mu v4) (fun a : Int32 × Ob × Ob × Ob × Ob × Ob × Ob × Ob × Ob × Ob × Ob × Ob × Ob × Ob × Int64 => Ev mmPT tbL_law 45 [some (.ref 0), some (.ref 1), none, some (.int v3), some (.int a.1), none, none, none, none, none, none, none, none] [] (mh sc rest a.2.1 a.2.2.1 a.2.2.2.1 a.2.2.2.2.1 a.2.2.2.2.2.1 a.2.2.2.2.2.2.1 a.2.2.2.2.2.2.2.1 a.2.2.2.2.2.2.2.2.1 a.2.2.2.2.2.2.2.2.2.1 a.2.2.2.2.2.2.2.2.2.2.1 a.2.2.2.2.2.2.2.2.2.2.2.1 a.2.2.2.2.2.2.2.2.2.2.2.2.1 a.2.2.2.2.2.2.2.2.2.2.2.2.2.1 a.2.2.2.2.2.2.2.2.2.2.2.2.2.2) x) (kP (fun r : Bool × Ob × Ob × Ob × Ob × Ob × Ob × Ob × Ob × Ob × Ob × Ob × Ob × Ob × Int64 => (some (.int (b2i r.1)), mh sc rest r.2.1 r.2.2.1 r.2.2.2.1 r.2.2.2.2.1 r.2.2.2.2.2.1 r.2.2.2.2.2.2.1 r.2.2.2.2.2.2.2.1 r.2.2.2.2.2.2.2.2.1 r.2.2.2.2.2.2.2.2.2.1 r.2.2.2.2.2.2.2.2.2.2.1 r.2.2.2.2.2.2.2.2.2.2.2.1 r.2.2.2.2.2.2.2.2.2.2.2.2.1 r.2.2.2.2.2.2.2.2.2.2.2.2.2.1 r.2.2.2.2.2.2.2.2.2.2.2.2.2.2)) x))) (Law_law_L181b to fl ma tr mk cn nu de ru la tb tf ph cs sc v3 v4 v6 v7 v8)) : Ev mmPT tbL_law 181 [some (.ref 0), some (.ref 1), none, some (.int v3), some (.int v4), none, some (.int v6), some (.int v7), some (.int v8), none, none, none, none] [] (mh sc rest to fl ma tr mk cn nu de ru la tb tf ph cs) x := by
  unfold Law_law_L181b at hk
  refine Ev.s (ins := .iload 8) (pc' := 183) rfl rfl ?_
  refine q_bi 7 rfl rfl ?_
  refine q_cge rfl hk (fun c1 hk => ?_) (fun c1 hk => ?_)
  · refine Ev.s (ins := .aload_n 0) (pc' := 189) rfl rfl ?_
    refine Ev.s (ins := .iload 8) (pc' := 191) rfl rfl ?_
    refine q_bi 7 rfl rfl ?_
    refine Ev.s (ins := .iload 4) (pc' := 195) rfl rfl ?_
    refine Ev.s (ins := .imul) (pc' := 196) rfl rfl ?_
    refine Ev.s (ins := .iadd) (pc' := 197) rfl rfl ?_
    refine q_ob hk (fun hb => hb) (fun r197 hr197 hk => ?_)
    refine kc_L_cell_2 rfl (Nat.le_of_ble_eq_true rfl) (e_Law_cellv hr197) ?_
    refine Ev.s (ins := .istore 9) (pc' := 202) (lv' := [some (.ref 0), some (.ref 1), none, some (.int v3), some (.int v4), none, some (.int v6), some (.int v7), some (.int v8), some (.int r197), none, none, none]) rfl rfl ?_
    refine q_ic 1 rfl rfl ?_
    refine Ev.s (ins := .iload 9) (pc' := 205) rfl rfl ?_
    refine q_ic 4 rfl rfl ?_
    refine kc_L_below_2 rfl (Nat.le_of_ble_eq_true rfl) (e_Law_below_4) ?_
    refine Ev.s (ins := .iadd) (pc' := 210) rfl rfl ?_
    refine Ev.s (ins := .istore 10) (pc' := 212) (lv' := [some (.ref 0), some (.ref 1), none, some (.int v3), some (.int v4), none, some (.int v6), some (.int v7), some (.int v8), some (.int r197), some (.int ((1 : Int32) + (Law_below_4 r197))), none, none]) rfl rfl ?_
    refine Ev.s (ins := .aload_n 1) (pc' := 213) rfl rfl ?_
    refine Ev.s (ins := .iload 10) (pc' := 215) rfl rfl ?_
    refine q_ob hk (fun hb => hb) (fun r215 hr215 hk => ?_)
    refine kc_X11_wouldGo_0 rfl oi_1 rfl (Nat.le_of_ble_eq_true rfl) (e_Ph_wouldGo hr215) ?_
    exact e_Law_law_0_218 b45 (lt31 c1) hk
  · replace hk := kK_r hk
    refine Ev.s (ins := .aload_n 1) (pc' := 386) rfl rfl ?_
    refine Ev.s (ins := .iload_n 3) (pc' := 387) rfl rfl ?_
    refine q_ob hk (fun hb => hb) (fun r387 hr387 hk => ?_)
    refine kc_L_isFormRight_2 rfl (Nat.le_of_ble_eq_true rfl) (e_Law_isFormRight hr387) ?_
    refine Ev.weak [some (.ref 0), some (.ref 1), none, some (.int v3), some (.int v4), none, none, none, none, none, none, none, none] ⟨rfl, rfl, rfl, rfl, rfl, rfl, rfl, rfl, rfl, rfl, rfl, rfl, rfl, trivial⟩ ?_
    exact e_Law_law_0_390 b45 hk
set_option maxRecDepth 100000 in
theorem e_Law_law_0_L181 {v3 : Int32} {v4 : Int32} {v6 : Int32} {v7 : Int32} {v8 : Int32} {x : Option Value × List mmC} (b45 : v4 < 2147483647) (hk : (kK (fun a : Int32 × Ob × Ob × Ob × Ob × Ob × Ob × Ob × Ob × Ob × Ob × Ob × Ob × Ob × Int64 => mu a.1) (mu v4) (fun a : Int32 × Ob × Ob × Ob × Ob × Ob × Ob × Ob × Ob × Ob × Ob × Ob × Ob × Ob × Int64 => Ev mmPT tbL_law 45 [some (.ref 0), some (.ref 1), none, some (.int v3), some (.int a.1), none, none, none, none, none, none, none, none] [] (mh sc rest a.2.1 a.2.2.1 a.2.2.2.1 a.2.2.2.2.1 a.2.2.2.2.2.1 a.2.2.2.2.2.2.1 a.2.2.2.2.2.2.2.1 a.2.2.2.2.2.2.2.2.1 a.2.2.2.2.2.2.2.2.2.1 a.2.2.2.2.2.2.2.2.2.2.1 a.2.2.2.2.2.2.2.2.2.2.2.1 a.2.2.2.2.2.2.2.2.2.2.2.2.1 a.2.2.2.2.2.2.2.2.2.2.2.2.2.1 a.2.2.2.2.2.2.2.2.2.2.2.2.2.2) x) (kP (fun r : Bool × Ob × Ob × Ob × Ob × Ob × Ob × Ob × Ob × Ob × Ob × Ob × Ob × Ob × Int64 => (some (.int (b2i r.1)), mh sc rest r.2.1 r.2.2.1 r.2.2.2.1 r.2.2.2.2.1 r.2.2.2.2.2.1 r.2.2.2.2.2.2.1 r.2.2.2.2.2.2.2.1 r.2.2.2.2.2.2.2.2.1 r.2.2.2.2.2.2.2.2.2.1 r.2.2.2.2.2.2.2.2.2.2.1 r.2.2.2.2.2.2.2.2.2.2.2.1 r.2.2.2.2.2.2.2.2.2.2.2.2.1 r.2.2.2.2.2.2.2.2.2.2.2.2.2.1 r.2.2.2.2.2.2.2.2.2.2.2.2.2.2)) x)) (Law_law_L181 to fl ma tr mk cn nu de ru la tb tf ph cs sc v3 v4 v6 v7 v8)) : Ev mmPT tbL_law 181 [some (.ref 0), some (.ref 1), none, some (.int v3), some (.int v4), none, some (.int v6), some (.int v7), some (.int v8), none, none, none, none] [] (mh sc rest to fl ma tr mk cn nu de ru la tb tf ph cs) x :=
  k_loop (B := (fun a : Int32 × Int32 × Ob × Ob × Ob × Ob × Ob × Ob × Ob × Ob × Ob × Ob × Int64 => Law_law_L181b to fl a.2.2.1 a.2.2.2.1 mk a.2.2.2.2.1 a.2.2.2.2.2.1 a.2.2.2.2.2.2.1 a.2.2.2.2.2.2.2.1 a.2.2.2.2.2.2.2.2.1 a.2.2.2.2.2.2.2.2.2.1 a.2.2.2.2.2.2.2.2.2.2.1 a.2.2.2.2.2.2.2.2.2.2.2.1 a.2.2.2.2.2.2.2.2.2.2.2.2 sc v3 v4 v6 a.1 a.2.1)) (μ := fun a : Int32 × Int32 × Ob × Ob × Ob × Ob × Ob × Ob × Ob × Ob × Ob × Ob × Int64 => mu a.2.1) (E := fun a : Int32 × Int32 × Ob × Ob × Ob × Ob × Ob × Ob × Ob × Ob × Ob × Ob × Int64 => Ev mmPT tbL_law 181 [some (.ref 0), some (.ref 1), none, some (.int v3), some (.int v4), none, some (.int v6), some (.int a.1), some (.int a.2.1), none, none, none, none] [] (mh sc rest to fl a.2.2.1 a.2.2.2.1 mk a.2.2.2.2.1 a.2.2.2.2.2.1 a.2.2.2.2.2.2.1 a.2.2.2.2.2.2.2.1 a.2.2.2.2.2.2.2.2.1 a.2.2.2.2.2.2.2.2.2.1 a.2.2.2.2.2.2.2.2.2.2.1 a.2.2.2.2.2.2.2.2.2.2.2.1 a.2.2.2.2.2.2.2.2.2.2.2.2) x) (X := (kK (fun a : Int32 × Ob × Ob × Ob × Ob × Ob × Ob × Ob × Ob × Ob × Ob × Ob × Ob × Ob × Int64 => mu a.1) (mu v4) (fun a : Int32 × Ob × Ob × Ob × Ob × Ob × Ob × Ob × Ob × Ob × Ob × Ob × Ob × Ob × Int64 => Ev mmPT tbL_law 45 [some (.ref 0), some (.ref 1), none, some (.int v3), some (.int a.1), none, none, none, none, none, none, none, none] [] (mh sc rest a.2.1 a.2.2.1 a.2.2.2.1 a.2.2.2.2.1 a.2.2.2.2.2.1 a.2.2.2.2.2.2.1 a.2.2.2.2.2.2.2.1 a.2.2.2.2.2.2.2.2.1 a.2.2.2.2.2.2.2.2.2.1 a.2.2.2.2.2.2.2.2.2.2.1 a.2.2.2.2.2.2.2.2.2.2.2.1 a.2.2.2.2.2.2.2.2.2.2.2.2.1 a.2.2.2.2.2.2.2.2.2.2.2.2.2.1 a.2.2.2.2.2.2.2.2.2.2.2.2.2.2) x) (kP (fun r : Bool × Ob × Ob × Ob × Ob × Ob × Ob × Ob × Ob × Ob × Ob × Ob × Ob × Ob × Int64 => (some (.int (b2i r.1)), mh sc rest r.2.1 r.2.2.1 r.2.2.2.1 r.2.2.2.2.1 r.2.2.2.2.2.1 r.2.2.2.2.2.2.1 r.2.2.2.2.2.2.2.1 r.2.2.2.2.2.2.2.2.1 r.2.2.2.2.2.2.2.2.2.1 r.2.2.2.2.2.2.2.2.2.2.1 r.2.2.2.2.2.2.2.2.2.2.2.1 r.2.2.2.2.2.2.2.2.2.2.2.2.1 r.2.2.2.2.2.2.2.2.2.2.2.2.2.1 r.2.2.2.2.2.2.2.2.2.2.2.2.2.2)) x))) (fun a hk => e_Law_law_0_L181b b45 hk) (v7, v8, ma, tr, cn, nu, de, ru, la, tb, tf, ph, cs) hk
set_option maxRecDepth 100000 in
theorem e_Law_law_0_176 {x : Option Value × List mmC} (hk : (kP (fun r : Bool × Ob × Ob × Ob × Ob × Ob × Ob × Ob × Ob × Ob × Ob × Ob × Ob × Ob × Int64 => (some (.int (b2i r.1)), mh sc rest r.2.1 r.2.2.1 r.2.2.2.1 r.2.2.2.2.1 r.2.2.2.2.2.1 r.2.2.2.2.2.2.1 r.2.2.2.2.2.2.2.1 r.2.2.2.2.2.2.2.2.1 r.2.2.2.2.2.2.2.2.2.1 r.2.2.2.2.2.2.2.2.2.2.1 r.2.2.2.2.2.2.2.2.2.2.2.1 r.2.2.2.2.2.2.2.2.2.2.2.2.1 r.2.2.2.2.2.2.2.2.2.2.2.2.2.1 r.2.2.2.2.2.2.2.2.2.2.2.2.2.2)) x) (Law_law_176 to fl ma tr mk cn nu de ru la tb tf ph cs sc)) : Ev mmPT tbL_law 176 [none, none, none, none, none, none, none, none, none, none, none, none, none] [] (mh sc rest to fl ma tr mk cn nu de ru la tb tf ph cs) x := by
  unfold Law_law_176 at hk
  refine q_ic 0 rfl rfl ?_
  exact Ev.zret rfl rfl (Or.inl rfl) hk
set_option maxRecDepth 100000 in
theorem e_Law_law_0_121 {v3 : Int32} {v4 : Int32} {w0 : Int32} {x : Option Value × List mmC} (b45 : v4 < 2147483647) (hk : (kK (fun a : Int32 × Ob × Ob × Ob × Ob × Ob × Ob × Ob × Ob × Ob × Ob × Ob × Ob × Ob × Int64 => mu a.1) (mu v4) (fun a : Int32 × Ob × Ob × Ob × Ob × Ob × Ob × Ob × Ob × Ob × Ob × Ob × Ob × Ob × Int64 => Ev mmPT tbL_law 45 [some (.ref 0), some (.ref 1), none, some (.int v3), some (.int a.1), none, none, none, none, none, none, none, none] [] (mh sc rest a.2.1 a.2.2.1 a.2.2.2.1 a.2.2.2.2.1 a.2.2.2.2.2.1 a.2.2.2.2.2.2.1 a.2.2.2.2.2.2.2.1 a.2.2.2.2.2.2.2.2.1 a.2.2.2.2.2.2.2.2.2.1 a.2.2.2.2.2.2.2.2.2.2.1 a.2.2.2.2.2.2.2.2.2.2.2.1 a.2.2.2.2.2.2.2.2.2.2.2.2.1 a.2.2.2.2.2.2.2.2.2.2.2.2.2.1 a.2.2.2.2.2.2.2.2.2.2.2.2.2.2) x) (kP (fun r : Bool × Ob × Ob × Ob × Ob × Ob × Ob × Ob × Ob × Ob × Ob × Ob × Ob × Ob × Int64 => (some (.int (b2i r.1)), mh sc rest r.2.1 r.2.2.1 r.2.2.2.1 r.2.2.2.2.1 r.2.2.2.2.2.1 r.2.2.2.2.2.2.1 r.2.2.2.2.2.2.2.1 r.2.2.2.2.2.2.2.2.1 r.2.2.2.2.2.2.2.2.2.1 r.2.2.2.2.2.2.2.2.2.2.1 r.2.2.2.2.2.2.2.2.2.2.2.1 r.2.2.2.2.2.2.2.2.2.2.2.2.1 r.2.2.2.2.2.2.2.2.2.2.2.2.2.1 r.2.2.2.2.2.2.2.2.2.2.2.2.2.2)) x)) (Law_law_121 to fl ma tr mk cn nu de ru la tb tf ph cs sc v3 v4 w0)) : Ev mmPT tbL_law 121 [some (.ref 0), some (.ref 1), none, some (.int v3), some (.int v4), none, none, none, none, none, none, none, none] [.int w0] (mh sc rest to fl ma tr mk cn nu de ru la tb tf ph cs) x := by
  unfold Law_law_121 at hk
  refine Ev.s (ins := .istore 6) (pc' := 123) (lv' := [some (.ref 0), some (.ref 1), none, some (.int v3), some (.int v4), none, some (.int w0), none, none, none, none, none, none]) rfl rfl ?_
  refine q_ic 0 rfl rfl ?_
  refine Ev.s (ins := .istore 7) (pc' := 126) (lv' := [some (.ref 0), some (.ref 1), none, some (.int v3), some (.int v4), none, some (.int w0), some (.int 0), none, none, none, none, none]) rfl rfl ?_
  refine Ev.s (ins := .aload_n 1) (pc' := 127) rfl rfl ?_
  refine q_ic 4 rfl rfl ?_
  refine q_ob hk (fun hb => hb) (fun r128 hr128 hk => ?_)
  refine kc_X11_many_0 rfl oi_1 rfl (Nat.le_of_ble_eq_true rfl) (e_Ph_many hr128) ?_
  refine Ev.s (ins := .iload 6) (pc' := 133) rfl rfl ?_
  refine q_cne rfl hk (fun c1 hk => ?_) (fun c1 hk => ?_)
  · refine Ev.s (ins := .aload_n 1) (pc' := 137) rfl rfl ?_
    refine q_bi 9 rfl rfl ?_
    refine q_ob hk (fun hb => hb) (fun r139 hr139 hk => ?_)
    refine kc_X11_many_0 rfl oi_1 rfl (Nat.le_of_ble_eq_true rfl) (e_Ph_many hr139) ?_
    refine q_ne rfl hk (fun c2 hk => ?_) (fun c2 hk => ?_)
    · refine Ev.s (ins := .aload_n 1) (pc' := 146) rfl rfl ?_
      refine q_bi 10 rfl rfl ?_
      refine q_ob hk (fun hb => hb) (fun r148 hr148 hk => ?_)
      refine kc_X11_many_0 rfl oi_1 rfl (Nat.le_of_ble_eq_true rfl) (e_Ph_many hr148) ?_
      refine q_ne rfl hk (fun c3 hk => ?_) (fun c3 hk => ?_)
      · refine Ev.s (ins := .aload_n 1) (pc' := 155) rfl rfl ?_
        refine q_bi 7 rfl rfl ?_
        refine q_ob hk (fun hb => hb) (fun r157 hr157 hk => ?_)
        refine kc_X11_many_0 rfl oi_1 rfl (Nat.le_of_ble_eq_true rfl) (e_Ph_many hr157) ?_
        refine Ev.s (ins := .aload_n 1) (pc' := 161) rfl rfl ?_
        refine q_ic 1 rfl rfl ?_
        refine q_ob hk (fun hb => hb) (fun r162 hr162 hk => ?_)
        refine kc_X11_many_0 rfl oi_1 rfl (Nat.le_of_ble_eq_true rfl) (e_Ph_many hr162) ?_
        refine q_cne rfl hk (fun c4 hk => ?_) (fun c4 hk => ?_)
        · refine Ev.s (ins := .aload_n 1) (pc' := 169) rfl rfl ?_
          refine Ev.s (ins := .iload_n 3) (pc' := 170) rfl rfl ?_
          refine q_ob hk (fun hb => hb) (fun r170 hr170 hk => ?_)
          refine kc_L_areBlocksRight_2 rfl (Nat.le_of_ble_eq_true rfl) (e_Law_areBlocksRight hr170) ?_
          refine q_bne rfl hk (fun c5 hk => ?_) (fun c5 hk => ?_)
          · refine q_ic 0 rfl rfl ?_
            refine Ev.s (ins := .istore 8) (pc' := 181) (lv' := [some (.ref 0), some (.ref 1), none, some (.int v3), some (.int v4), none, some (.int w0), some (.int 0), some (.int 0), none, none, none, none]) rfl rfl ?_
            exact e_Law_law_0_L181 b45 hk
          · replace hk := kK_r hk
            refine Ev.weak [none, none, none, none, none, none, none, none, none, none, none, none, none] ⟨rfl, rfl, rfl, rfl, rfl, rfl, rfl, rfl, rfl, rfl, rfl, rfl, rfl, trivial⟩ ?_
            exact e_Law_law_0_176 hk
        · replace hk := kK_r hk
          refine Ev.weak [none, none, none, none, none, none, none, none, none, none, none, none, none] ⟨rfl, rfl, rfl, rfl, rfl, rfl, rfl, rfl, rfl, rfl, rfl, rfl, rfl, trivial⟩ ?_
          exact e_Law_law_0_176 hk
      · replace hk := kK_r hk
        refine Ev.weak [none, none, none, none, none, none, none, none, none, none, none, none, none] ⟨rfl, rfl, rfl, rfl, rfl, rfl, rfl, rfl, rfl, rfl, rfl, rfl, rfl, trivial⟩ ?_
        exact e_Law_law_0_176 hk
    · replace hk := kK_r hk
      refine Ev.weak [none, none, none, none, none, none, none, none, none, none, none, none, none] ⟨rfl, rfl, rfl, rfl, rfl, rfl, rfl, rfl, rfl, rfl, rfl, rfl, rfl, trivial⟩ ?_
      exact e_Law_law_0_176 hk
  · replace hk := kK_r hk
    refine Ev.weak [none, none, none, none, none, none, none, none, none, none, none, none, none] ⟨rfl, rfl, rfl, rfl, rfl, rfl, rfl, rfl, rfl, rfl, rfl, rfl, rfl, trivial⟩ ?_
    exact e_Law_law_0_176 hk
set_option maxRecDepth 100000 in
theorem e_Law_law_0_117 {v3 : Int32} {v4 : Int32} {x : Option Value × List mmC} (b45 : v4 < 2147483647) (hk : (kK (fun a : Int32 × Ob × Ob × Ob × Ob × Ob × Ob × Ob × Ob × Ob × Ob × Ob × Ob × Ob × Int64 => mu a.1) (mu v4) (fun a : Int32 × Ob × Ob × Ob × Ob × Ob × Ob × Ob × Ob × Ob × Ob × Ob × Ob × Ob × Int64 => Ev mmPT tbL_law 45 [some (.ref 0), some (.ref 1), none, some (.int v3), some (.int a.1), none, none, none, none, none, none, none, none] [] (mh sc rest a.2.1 a.2.2.1 a.2.2.2.1 a.2.2.2.2.1 a.2.2.2.2.2.1 a.2.2.2.2.2.2.1 a.2.2.2.2.2.2.2.1 a.2.2.2.2.2.2.2.2.1 a.2.2.2.2.2.2.2.2.2.1 a.2.2.2.2.2.2.2.2.2.2.1 a.2.2.2.2.2.2.2.2.2.2.2.1 a.2.2.2.2.2.2.2.2.2.2.2.2.1 a.2.2.2.2.2.2.2.2.2.2.2.2.2.1 a.2.2.2.2.2.2.2.2.2.2.2.2.2.2) x) (kP (fun r : Bool × Ob × Ob × Ob × Ob × Ob × Ob × Ob × Ob × Ob × Ob × Ob × Ob × Ob × Int64 => (some (.int (b2i r.1)), mh sc rest r.2.1 r.2.2.1 r.2.2.2.1 r.2.2.2.2.1 r.2.2.2.2.2.1 r.2.2.2.2.2.2.1 r.2.2.2.2.2.2.2.1 r.2.2.2.2.2.2.2.2.1 r.2.2.2.2.2.2.2.2.2.1 r.2.2.2.2.2.2.2.2.2.2.1 r.2.2.2.2.2.2.2.2.2.2.2.1 r.2.2.2.2.2.2.2.2.2.2.2.2.1 r.2.2.2.2.2.2.2.2.2.2.2.2.2.1 r.2.2.2.2.2.2.2.2.2.2.2.2.2.2)) x)) (Law_law_117 to fl ma tr mk cn nu de ru la tb tf ph cs sc v3 v4)) : Ev mmPT tbL_law 117 [some (.ref 0), some (.ref 1), none, some (.int v3), some (.int v4), none, none, none, none, none, none, none, none] [] (mh sc rest to fl ma tr mk cn nu de ru la tb tf ph cs) x := by
  unfold Law_law_117 at hk
  refine Ev.s (ins := .aload_n 1) (pc' := 118) rfl rfl ?_
  refine kc_X11_form_0 rfl oi_1 rfl (Nat.le_of_ble_eq_true rfl) (e_Ph_form) ?_
  exact e_Law_law_0_121 b45 hk
set_option maxRecDepth 100000 in
theorem e_Law_law_0_116 {v3 : Int32} {v4 : Int32} {w0 : Int32} {x : Option Value × List mmC} (b45 : v4 < 2147483647) (hk : (kK (fun a : Int32 × Ob × Ob × Ob × Ob × Ob × Ob × Ob × Ob × Ob × Ob × Ob × Ob × Ob × Int64 => mu a.1) (mu v4) (fun a : Int32 × Ob × Ob × Ob × Ob × Ob × Ob × Ob × Ob × Ob × Ob × Ob × Ob × Ob × Int64 => Ev mmPT tbL_law 45 [some (.ref 0), some (.ref 1), none, some (.int v3), some (.int a.1), none, none, none, none, none, none, none, none] [] (mh sc rest a.2.1 a.2.2.1 a.2.2.2.1 a.2.2.2.2.1 a.2.2.2.2.2.1 a.2.2.2.2.2.2.1 a.2.2.2.2.2.2.2.1 a.2.2.2.2.2.2.2.2.1 a.2.2.2.2.2.2.2.2.2.1 a.2.2.2.2.2.2.2.2.2.2.1 a.2.2.2.2.2.2.2.2.2.2.2.1 a.2.2.2.2.2.2.2.2.2.2.2.2.1 a.2.2.2.2.2.2.2.2.2.2.2.2.2.1 a.2.2.2.2.2.2.2.2.2.2.2.2.2.2) x) (kP (fun r : Bool × Ob × Ob × Ob × Ob × Ob × Ob × Ob × Ob × Ob × Ob × Ob × Ob × Ob × Int64 => (some (.int (b2i r.1)), mh sc rest r.2.1 r.2.2.1 r.2.2.2.1 r.2.2.2.2.1 r.2.2.2.2.2.1 r.2.2.2.2.2.2.1 r.2.2.2.2.2.2.2.1 r.2.2.2.2.2.2.2.2.1 r.2.2.2.2.2.2.2.2.2.1 r.2.2.2.2.2.2.2.2.2.2.1 r.2.2.2.2.2.2.2.2.2.2.2.1 r.2.2.2.2.2.2.2.2.2.2.2.2.1 r.2.2.2.2.2.2.2.2.2.2.2.2.2.1 r.2.2.2.2.2.2.2.2.2.2.2.2.2.2)) x)) (Law_law_116 to fl ma tr mk cn nu de ru la tb tf ph cs sc v3 v4 w0)) : Ev mmPT tbL_law 116 [some (.ref 0), some (.ref 1), none, some (.int v3), some (.int v4), none, none, none, none, none, none, none, none] [.int w0] (mh sc rest to fl ma tr mk cn nu de ru la tb tf ph cs) x := by
  unfold Law_law_116 at hk
  refine Ev.s (ins := .pop) (pc' := 117) rfl rfl ?_
  exact e_Law_law_0_117 b45 hk
set_option maxRecDepth 100000 in
theorem e_Law_law_0_88 {v3 : Int32} {v4 : Int32} {v5 : Int32} {x : Option Value × List mmC} (b45 : v4 < 2147483647) (hk : (kK (fun a : Int32 × Ob × Ob × Ob × Ob × Ob × Ob × Ob × Ob × Ob × Ob × Ob × Ob × Ob × Int64 => mu a.1) (mu v4) (fun a : Int32 × Ob × Ob × Ob × Ob × Ob × Ob × Ob × Ob × Ob × Ob × Ob × Ob × Ob × Int64 => Ev mmPT tbL_law 45 [some (.ref 0), some (.ref 1), none, some (.int v3), some (.int a.1), none, none, none, none, none, none, none, none] [] (mh sc rest a.2.1 a.2.2.1 a.2.2.2.1 a.2.2.2.2.1 a.2.2.2.2.2.1 a.2.2.2.2.2.2.1 a.2.2.2.2.2.2.2.1 a.2.2.2.2.2.2.2.2.1 a.2.2.2.2.2.2.2.2.2.1 a.2.2.2.2.2.2.2.2.2.2.1 a.2.2.2.2.2.2.2.2.2.2.2.1 a.2.2.2.2.2.2.2.2.2.2.2.2.1 a.2.2.2.2.2.2.2.2.2.2.2.2.2.1 a.2.2.2.2.2.2.2.2.2.2.2.2.2.2) x) (kP (fun r : Bool × Ob × Ob × Ob × Ob × Ob × Ob × Ob × Ob × Ob × Ob × Ob × Ob × Ob × Int64 => (some (.int (b2i r.1)), mh sc rest r.2.1 r.2.2.1 r.2.2.2.1 r.2.2.2.2.1 r.2.2.2.2.2.1 r.2.2.2.2.2.2.1 r.2.2.2.2.2.2.2.1 r.2.2.2.2.2.2.2.2.1 r.2.2.2.2.2.2.2.2.2.1 r.2.2.2.2.2.2.2.2.2.2.1 r.2.2.2.2.2.2.2.2.2.2.2.1 r.2.2.2.2.2.2.2.2.2.2.2.2.1 r.2.2.2.2.2.2.2.2.2.2.2.2.2.1 r.2.2.2.2.2.2.2.2.2.2.2.2.2.2)) x)) (Law_law_88 to fl ma tr mk cn nu de ru la tb tf ph cs sc v3 v4 v5)) : Ev mmPT tbL_law 88 [some (.ref 0), some (.ref 1), none, some (.int v3), some (.int v4), some (.int v5), none, none, none, none, none, none, none] [] (mh sc rest to fl ma tr mk cn nu de ru la tb tf ph cs) x := by
  unfold Law_law_88 at hk
  refine Ev.s (ins := .iload 4) (pc' := 90) rfl rfl ?_
  refine q_ic 2 rfl rfl ?_
  refine q_cne rfl hk (fun c1 hk => ?_) (fun c1 hk => ?_)
  · refine Ev.s (ins := .aload_n 1) (pc' := 95) rfl rfl ?_
    refine Ev.s (ins := .iload 5) (pc' := 97) rfl rfl ?_
    refine q_ic 1 rfl rfl ?_
    refine Ev.s (ins := .aload_n 0) (pc' := 99) rfl rfl ?_
    refine q_bi 9 rfl rfl ?_
    refine q_ob hk (fun hb => hb) (fun r101 hr101 hk => ?_)
    refine kc_L_cell_2 rfl (Nat.le_of_ble_eq_true rfl) (e_Law_cellv hr101) ?_
    refine q_bi 6 rfl rfl ?_
    refine kc_L_below_2 rfl (Nat.le_of_ble_eq_true rfl) (e_Law_below_6) ?_
    refine q_bi 100 rfl rfl ?_
    refine q_bi 101 rfl rfl ?_
    refine q_ob hk (fun hb => hb) (fun r113 hr113 hk => ?_)
    refine kc_X11_line_0 rfl oi_1 rfl (Nat.le_of_ble_eq_true rfl) (e_Ph_line hr113) ?_
    refine Ev.weak [some (.ref 0), some (.ref 1), none, some (.int v3), some (.int v4), none, none, none, none, none, none, none, none] ⟨rfl, rfl, rfl, rfl, rfl, rfl, rfl, rfl, rfl, rfl, rfl, rfl, rfl, trivial⟩ ?_
    exact e_Law_law_0_116 b45 hk
  · refine Ev.weak [some (.ref 0), some (.ref 1), none, some (.int v3), some (.int v4), none, none, none, none, none, none, none, none] ⟨rfl, rfl, rfl, rfl, rfl, rfl, rfl, rfl, rfl, rfl, rfl, rfl, rfl, trivial⟩ ?_
    exact e_Law_law_0_117 b45 hk
set_option maxRecDepth 100000 in
theorem e_Law_law_0_87 {v3 : Int32} {v4 : Int32} {v5 : Int32} {w0 : Int32} {x : Option Value × List mmC} (b45 : v4 < 2147483647) (hk : (kK (fun a : Int32 × Ob × Ob × Ob × Ob × Ob × Ob × Ob × Ob × Ob × Ob × Ob × Ob × Ob × Int64 => mu a.1) (mu v4) (fun a : Int32 × Ob × Ob × Ob × Ob × Ob × Ob × Ob × Ob × Ob × Ob × Ob × Ob × Ob × Int64 => Ev mmPT tbL_law 45 [some (.ref 0), some (.ref 1), none, some (.int v3), some (.int a.1), none, none, none, none, none, none, none, none] [] (mh sc rest a.2.1 a.2.2.1 a.2.2.2.1 a.2.2.2.2.1 a.2.2.2.2.2.1 a.2.2.2.2.2.2.1 a.2.2.2.2.2.2.2.1 a.2.2.2.2.2.2.2.2.1 a.2.2.2.2.2.2.2.2.2.1 a.2.2.2.2.2.2.2.2.2.2.1 a.2.2.2.2.2.2.2.2.2.2.2.1 a.2.2.2.2.2.2.2.2.2.2.2.2.1 a.2.2.2.2.2.2.2.2.2.2.2.2.2.1 a.2.2.2.2.2.2.2.2.2.2.2.2.2.2) x) (kP (fun r : Bool × Ob × Ob × Ob × Ob × Ob × Ob × Ob × Ob × Ob × Ob × Ob × Ob × Ob × Int64 => (some (.int (b2i r.1)), mh sc rest r.2.1 r.2.2.1 r.2.2.2.1 r.2.2.2.2.1 r.2.2.2.2.2.1 r.2.2.2.2.2.2.1 r.2.2.2.2.2.2.2.1 r.2.2.2.2.2.2.2.2.1 r.2.2.2.2.2.2.2.2.2.1 r.2.2.2.2.2.2.2.2.2.2.1 r.2.2.2.2.2.2.2.2.2.2.2.1 r.2.2.2.2.2.2.2.2.2.2.2.2.1 r.2.2.2.2.2.2.2.2.2.2.2.2.2.1 r.2.2.2.2.2.2.2.2.2.2.2.2.2.2)) x)) (Law_law_87 to fl ma tr mk cn nu de ru la tb tf ph cs sc v3 v4 v5 w0)) : Ev mmPT tbL_law 87 [some (.ref 0), some (.ref 1), none, some (.int v3), some (.int v4), some (.int v5), none, none, none, none, none, none, none] [.int w0] (mh sc rest to fl ma tr mk cn nu de ru la tb tf ph cs) x := by
  unfold Law_law_87 at hk
  refine Ev.s (ins := .pop) (pc' := 88) rfl rfl ?_
  exact e_Law_law_0_88 b45 hk
set_option maxRecDepth 100000 in
theorem e_Law_law_0_L45b {v3 : Int32} {v4 : Int32} {x : Option Value × List mmC} (hk : (kK (fun a : Int32 × Ob × Ob × Ob × Ob × Ob × Ob × Ob × Ob × Ob × Ob × Ob × Ob × Ob × Int64 => mu a.1) (mu v4) (fun a : Int32 × Ob × Ob × Ob × Ob × Ob × Ob × Ob × Ob × Ob × Ob × Ob × Ob × Ob × Int64 => Ev mmPT tbL_law 45 [some (.ref 0), some (.ref 1), none, some (.int v3), some (.int a.1), none, none, none, none, none, none, none, none] [] (mh sc rest a.2.1 a.2.2.1 a.2.2.2.1 a.2.2.2.2.1 a.2.2.2.2.2.1 a.2.2.2.2.2.2.1 a.2.2.2.2.2.2.2.1 a.2.2.2.2.2.2.2.2.1 a.2.2.2.2.2.2.2.2.2.1 a.2.2.2.2.2.2.2.2.2.2.1 a.2.2.2.2.2.2.2.2.2.2.2.1 a.2.2.2.2.2.2.2.2.2.2.2.2.1 a.2.2.2.2.2.2.2.2.2.2.2.2.2.1 a.2.2.2.2.2.2.2.2.2.2.2.2.2.2) x) (kP (fun r : Bool × Ob × Ob × Ob × Ob × Ob × Ob × Ob × Ob × Ob × Ob × Ob × Ob × Ob × Int64 => (some (.int (b2i r.1)), mh sc rest r.2.1 r.2.2.1 r.2.2.2.1 r.2.2.2.2.1 r.2.2.2.2.2.1 r.2.2.2.2.2.2.1 r.2.2.2.2.2.2.2.1 r.2.2.2.2.2.2.2.2.1 r.2.2.2.2.2.2.2.2.2.1 r.2.2.2.2.2.2.2.2.2.2.1 r.2.2.2.2.2.2.2.2.2.2.2.1 r.2.2.2.2.2.2.2.2.2.2.2.2.1 r.2.2.2.2.2.2.2.2.2.2.2.2.2.1 r.2.2.2.2.2.2.2.2.2.2.2.2.2.2)) x)) (Law_law_L45b to fl ma tr mk cn nu de ru la tb tf ph cs sc v3 v4)) : Ev mmPT tbL_law 45 [some (.ref 0), some (.ref 1), none, some (.int v3), some (.int v4), none, none, none, none, none, none, none, none] [] (mh sc rest to fl ma tr mk cn nu de ru la tb tf ph cs) x := by
  unfold Law_law_L45b at hk
  refine Ev.s (ins := .iload 4) (pc' := 47) rfl rfl ?_
  refine q_ic 3 rfl rfl ?_
  refine q_cge rfl hk (fun c1 hk => ?_) (fun c1 hk => ?_)
  · refine Ev.s (ins := .aload_n 0) (pc' := 52) rfl rfl ?_
    refine q_bi 20 rfl rfl ?_
    refine Ev.s (ins := .iload 4) (pc' := 56) rfl rfl ?_
    refine Ev.s (ins := .iadd) (pc' := 57) rfl rfl ?_
    refine q_ob hk (fun hb => hb) (fun r57 hr57 hk => ?_)
    refine kc_L_cell_2 rfl (Nat.le_of_ble_eq_true rfl) (e_Law_cellv hr57) ?_
    refine Ev.s (ins := .iload_n 3) (pc' := 61) rfl rfl ?_
    refine q_ob hk (fun hb => hb) (fun r61 hr61 hk => ?_)
    refine kc_L_below_2 rfl (Nat.le_of_ble_eq_true rfl) (e_Law_below hr61) ?_
    refine Ev.s (ins := .istore 5) (pc' := 66) (lv' := [some (.ref 0), some (.ref 1), none, some (.int v3), some (.int v4), some (.int r61), none, none, none, none, none, none, none]) rfl rfl ?_
    refine Ev.s (ins := .iload 4) (pc' := 68) rfl rfl ?_
    refine q_le rfl hk (fun c2 hk => ?_) (fun c2 hk => ?_)
    · refine Ev.s (ins := .aload_n 1) (pc' := 72) rfl rfl ?_
      refine Ev.s (ins := .iload 5) (pc' := 74) rfl rfl ?_
      refine q_ic 0 rfl rfl ?_
      refine q_ob hk (fun hb => hb) (fun r75 hr75 hk => ?_)
      refine kc_X11_ofBlock_0 rfl oi_1 rfl (Nat.le_of_ble_eq_true rfl) (e_Ph_ofBlock hr75) ?_
      refine q_le rfl hk (fun c3 hk => ?_) (fun c3 hk => ?_)
      · refine Ev.s (ins := .aload_n 1) (pc' := 82) rfl rfl ?_
        refine Ev.s (ins := .iload 5) (pc' := 84) rfl rfl ?_
        refine q_ob hk (fun hb => hb) (fun r84 hr84 hk => ?_)
        refine kc_X11_cut_0 rfl oi_1 rfl (Nat.le_of_ble_eq_true rfl) (e_Ph_cut hr84) ?_
        exact e_Law_law_0_87 (lt31 c1) hk
      · exact e_Law_law_0_88 (lt31 c1) hk
    · exact e_Law_law_0_88 (lt31 c1) hk
  · replace hk := kK_r hk
    refine q_ic 1 rfl rfl ?_
    exact Ev.zret rfl rfl (Or.inr rfl) hk
set_option maxRecDepth 100000 in
theorem e_Law_law_0_L45 {v3 : Int32} {v4 : Int32} {x : Option Value × List mmC} (hk : (kP (fun r : Bool × Ob × Ob × Ob × Ob × Ob × Ob × Ob × Ob × Ob × Ob × Ob × Ob × Ob × Int64 => (some (.int (b2i r.1)), mh sc rest r.2.1 r.2.2.1 r.2.2.2.1 r.2.2.2.2.1 r.2.2.2.2.2.1 r.2.2.2.2.2.2.1 r.2.2.2.2.2.2.2.1 r.2.2.2.2.2.2.2.2.1 r.2.2.2.2.2.2.2.2.2.1 r.2.2.2.2.2.2.2.2.2.2.1 r.2.2.2.2.2.2.2.2.2.2.2.1 r.2.2.2.2.2.2.2.2.2.2.2.2.1 r.2.2.2.2.2.2.2.2.2.2.2.2.2.1 r.2.2.2.2.2.2.2.2.2.2.2.2.2.2)) x) (Law_law_L45 to fl ma tr mk cn nu de ru la tb tf ph cs sc v3 v4)) : Ev mmPT tbL_law 45 [some (.ref 0), some (.ref 1), none, some (.int v3), some (.int v4), none, none, none, none, none, none, none, none] [] (mh sc rest to fl ma tr mk cn nu de ru la tb tf ph cs) x :=
  k_loop (B := (fun a : Int32 × Ob × Ob × Ob × Ob × Ob × Ob × Ob × Ob × Ob × Ob × Ob × Ob × Ob × Int64 => Law_law_L45b a.2.1 a.2.2.1 a.2.2.2.1 a.2.2.2.2.1 a.2.2.2.2.2.1 a.2.2.2.2.2.2.1 a.2.2.2.2.2.2.2.1 a.2.2.2.2.2.2.2.2.1 a.2.2.2.2.2.2.2.2.2.1 a.2.2.2.2.2.2.2.2.2.2.1 a.2.2.2.2.2.2.2.2.2.2.2.1 a.2.2.2.2.2.2.2.2.2.2.2.2.1 a.2.2.2.2.2.2.2.2.2.2.2.2.2.1 a.2.2.2.2.2.2.2.2.2.2.2.2.2.2 sc v3 a.1)) (μ := fun a : Int32 × Ob × Ob × Ob × Ob × Ob × Ob × Ob × Ob × Ob × Ob × Ob × Ob × Ob × Int64 => mu a.1) (E := fun a : Int32 × Ob × Ob × Ob × Ob × Ob × Ob × Ob × Ob × Ob × Ob × Ob × Ob × Ob × Int64 => Ev mmPT tbL_law 45 [some (.ref 0), some (.ref 1), none, some (.int v3), some (.int a.1), none, none, none, none, none, none, none, none] [] (mh sc rest a.2.1 a.2.2.1 a.2.2.2.1 a.2.2.2.2.1 a.2.2.2.2.2.1 a.2.2.2.2.2.2.1 a.2.2.2.2.2.2.2.1 a.2.2.2.2.2.2.2.2.1 a.2.2.2.2.2.2.2.2.2.1 a.2.2.2.2.2.2.2.2.2.2.1 a.2.2.2.2.2.2.2.2.2.2.2.1 a.2.2.2.2.2.2.2.2.2.2.2.2.1 a.2.2.2.2.2.2.2.2.2.2.2.2.2.1 a.2.2.2.2.2.2.2.2.2.2.2.2.2.2) x) (X := (kP (fun r : Bool × Ob × Ob × Ob × Ob × Ob × Ob × Ob × Ob × Ob × Ob × Ob × Ob × Ob × Int64 => (some (.int (b2i r.1)), mh sc rest r.2.1 r.2.2.1 r.2.2.2.1 r.2.2.2.2.1 r.2.2.2.2.2.1 r.2.2.2.2.2.2.1 r.2.2.2.2.2.2.2.1 r.2.2.2.2.2.2.2.2.1 r.2.2.2.2.2.2.2.2.2.1 r.2.2.2.2.2.2.2.2.2.2.1 r.2.2.2.2.2.2.2.2.2.2.2.1 r.2.2.2.2.2.2.2.2.2.2.2.2.1 r.2.2.2.2.2.2.2.2.2.2.2.2.2.1 r.2.2.2.2.2.2.2.2.2.2.2.2.2.2)) x)) (fun a hk => e_Law_law_0_L45b hk) (v4, to, fl, ma, tr, mk, cn, nu, de, ru, la, tb, tf, ph, cs) hk
set_option maxRecDepth 100000 in
theorem e_Law_law_0_0 {v3 : Int32} {x : Option Value × List mmC} (hk : (kP (fun r : Bool × Ob × Ob × Ob × Ob × Ob × Ob × Ob × Ob × Ob × Ob × Ob × Ob × Ob × Int64 => (some (.int (b2i r.1)), mh sc rest r.2.1 r.2.2.1 r.2.2.2.1 r.2.2.2.2.1 r.2.2.2.2.2.1 r.2.2.2.2.2.2.1 r.2.2.2.2.2.2.2.1 r.2.2.2.2.2.2.2.2.1 r.2.2.2.2.2.2.2.2.2.1 r.2.2.2.2.2.2.2.2.2.2.1 r.2.2.2.2.2.2.2.2.2.2.2.1 r.2.2.2.2.2.2.2.2.2.2.2.2.1 r.2.2.2.2.2.2.2.2.2.2.2.2.2.1 r.2.2.2.2.2.2.2.2.2.2.2.2.2.2)) x) (Law_law to fl ma tr mk cn nu de ru la tb tf ph cs sc v3)) : Ev mmPT tbL_law 42 [some (.ref 0), some (.ref 1), none, some (.int v3), none, none, none, none, none, none, none, none, none] [] (mh sc rest to fl ma tr mk cn nu de ru la tb tf ph cs) x := by
  unfold Law_law at hk
  refine q_ic 0 rfl rfl ?_
  refine Ev.s (ins := .istore 4) (pc' := 45) (lv' := [some (.ref 0), some (.ref 1), none, some (.int v3), some (.int 0), none, none, none, none, none, none, none, none]) rfl rfl ?_
  exact e_Law_law_0_L45 hk
set_option maxRecDepth 100000 in
theorem e_Law_law_0 {v3 : Int32} {r : Bool × Ob × Ob × Ob × Ob × Ob × Ob × Ob × Ob × Ob × Ob × Ob × Ob × Ob × Int64} (hr : (Law_law to fl ma tr mk cn nu de ru la tb tf ph cs sc v3) = some r) : Ev mmPT tbL_law 42 [some (.ref 0), some (.ref 1), none, some (.int v3), none, none, none, none, none, none, none, none, none] [] (mh sc rest to fl ma tr mk cn nu de ru la tb tf ph cs) ((fun r : Bool × Ob × Ob × Ob × Ob × Ob × Ob × Ob × Ob × Ob × Ob × Ob × Ob × Ob × Int64 => (some (.int (b2i r.1)), mh sc rest r.2.1 r.2.2.1 r.2.2.2.1 r.2.2.2.2.1 r.2.2.2.2.2.1 r.2.2.2.2.2.2.1 r.2.2.2.2.2.2.2.1 r.2.2.2.2.2.2.2.2.1 r.2.2.2.2.2.2.2.2.2.1 r.2.2.2.2.2.2.2.2.2.2.1 r.2.2.2.2.2.2.2.2.2.2.2.1 r.2.2.2.2.2.2.2.2.2.2.2.2.1 r.2.2.2.2.2.2.2.2.2.2.2.2.2.1 r.2.2.2.2.2.2.2.2.2.2.2.2.2.2)) r) := e_Law_law_0_0 (by rw [hr]; exact rfl)
end RFL
