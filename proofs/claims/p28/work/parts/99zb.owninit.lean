/-! THE OBJECT Own: what holds of its cells; its constructor -/
/-- the object; its lines, row by row; how many lines; its ends -/
def OI (rest : List mmC) (to : Ob) : Prop := (∃ bl, rest[0]? = some (12, [.ref 137, .ref 148, .ref 149, .int bl])) ∧ rest[1]? = some (1002, (List.range 10).map fun i => .ref (138 + i)) ∧ (∀ b, b < 10 → ∃ L : List Value, L.length = 8 ∧ rest[2 + b]? = some (1001, L)) ∧ rest[12]? = some (1000, mmIR (to.1 0) 10) ∧
  ∃ E : List Value, E.length = 10 ∧ rest[13]? = some (1001, E) ∧ ∀ b, b < 10 → ∃ (x : Nat) (t : List Value), E[b]? = some (.ref (136 + x)) ∧ 14 ≤ x ∧ rest[x]? = some (1000, .int (to.1 5 b) :: t)
/-- how much room it has taken -/
def OB (rest : List mmC) (q : Nat) : Prop := rest.length ≤ 24 + q ∧ mmSl rest ≤ 154 + 4 * q
def oR7 : List mmC := ((((((([(12, [.null, .null, .null, .int 0])] : List mmC) ++ mmMulti 1002 137 10 8).set 0 (12, [.ref 137, .null, .null, .int 0])) ++ ([(1000, List.replicate 10 (Value.int 0))] : List mmC)).set 0 (12, [.ref 137, .ref 148, .null, .int 0])) ++ mmMulti 1001 149 10 4).set 0 (12, [.ref 137, .ref 148, .ref 149, .int 0])).set 0 (12, [.ref 137, .ref 148, .ref 149, .int 1])
section OWNI
variable {sc : mmC} {rest : List mmC} {to fl ma tr mk cn nu de ru la tb tf ph : Ob} {cs : Int64}
theorem rgs0 (c : mmC) : (mh sc rest to fl ma tr mk cn nu de ru la tb tf ph cs).set 136 c = mh sc (rest.set 0 c) to fl ma tr mk cn nu de ru la tb tf ph cs := rgs 0 c
theorem rgs12 (c : mmC) : (mh sc rest to fl ma tr mk cn nu de ru la tb tf ph cs).set 148 c = mh sc (rest.set 12 c) to fl ma tr mk cn nu de ru la tb tf ph cs := rgs 12 c
theorem rgs13 (c : mmC) : (mh sc rest to fl ma tr mk cn nu de ru la tb tf ph cs).set 149 c = mh sc (rest.set 13 c) to fl ma tr mk cn nu de ru la tb tf ph cs := rgs 13 c
theorem rgsb (b : Nat) (c : mmC) : (mh sc rest to fl ma tr mk cn nu de ru la tb tf ph cs).set (138 + b) c = mh sc (rest.set (2 + b) c) to fl ma tr mk cn nu de ru la tb tf ph cs := by
  rw [show 138 + b = 136 + (2 + b) by omega]
  exact rgs (2 + b) c
set_option maxRecDepth 100000 in
theorem e_Own_init : Ev mmPT tbX12_init 0 [some (.ref 136)] [] (mh sc [(12, [.null, .null, .null, .int 0])] to fl ma tr mk cn nu de ru la tb tf ph cs) (none, mh sc oR7 to fl ma tr mk cn nu de ru la tb tf ph cs) := by
  refine Ev.s (ins := .aload_n 0) (pc' := 1) rfl rfl ?_
  refine Ev.obj rfl rfl (Nat.le_of_ble_eq_true rfl) ?_
  refine Ev.s (ins := .aload_n 0) (pc' := 5) rfl rfl ?_
  refine q_bi 10 rfl rfl ?_
  refine q_bi 8 rfl rfl ?_
  refine Ev.s (pc' := 13) rfl (mmS_mult (tg := 1002) (by decide)) ?_
  rw [rlen, rapp]
  refine Ev.s (pc' := 16) rfl (mmS_put (rg 0) ⟨rfl, by decide, Nat.le_of_ble_eq_true rfl, rfl, by decide⟩) ?_
  rw [rgs0]
  refine Ev.s (ins := .aload_n 0) (pc' := 17) rfl rfl ?_
  refine q_bi 10 rfl rfl ?_
  refine Ev.s (pc' := 21) rfl (mmS_newa (by decide)) ?_
  rw [rlen, rapp]
  refine Ev.s (pc' := 24) rfl (mmS_put (rg 0) ⟨rfl, by decide, Nat.le_of_ble_eq_true rfl, rfl, by decide⟩) ?_
  rw [rgs0]
  refine Ev.s (ins := .aload_n 0) (pc' := 25) rfl rfl ?_
  refine q_bi 10 rfl rfl ?_
  refine q_ic 4 rfl rfl ?_
  refine Ev.s (pc' := 32) rfl (mmS_mult (tg := 1001) (by decide)) ?_
  rw [rlen, rapp]
  refine Ev.s (pc' := 35) rfl (mmS_put (rg 0) ⟨rfl, by decide, Nat.le_of_ble_eq_true rfl, rfl, by decide⟩) ?_
  rw [rgs0]
  refine Ev.s (ins := .aload_n 0) (pc' := 36) rfl rfl ?_
  refine q_ic 1 rfl rfl ?_
  refine Ev.s (pc' := 40) rfl (mmS_put (rg 0) ⟨rfl, by decide, Nat.le_of_ble_eq_true rfl, rfl, by decide⟩) ?_
  rw [rgs0]
  exact Ev.vret rfl rfl rfl
end OWNI
set_option maxRecDepth 100000 in
theorem OI_0 {to : Ob} (h0 : to.1 0 = fun _ => 0) (h5 : to.1 5 = fun _ => 0) : OI oR7 to ∧ OB oR7 0 := by
  refine ⟨⟨⟨1, rfl⟩, rfl, fun b hb => ⟨List.replicate 8 .null, rfl, ?_⟩, by rw [h0]; rfl, (List.range 10).map (fun i => .ref (149 + 1 + i)), rfl, rfl, fun b hb => ⟨14 + b, [.int 0, .int 0, .int 0], ?_, by omega, ?_⟩⟩, by decide, by decide +kernel⟩
  · have : b = 0 ∨ b = 1 ∨ b = 2 ∨ b = 3 ∨ b = 4 ∨ b = 5 ∨ b = 6 ∨ b = 7 ∨ b = 8 ∨ b = 9 := by omega
    rcases this with rfl | rfl | rfl | rfl | rfl | rfl | rfl | rfl | rfl | rfl <;> rfl
  · have : b = 0 ∨ b = 1 ∨ b = 2 ∨ b = 3 ∨ b = 4 ∨ b = 5 ∨ b = 6 ∨ b = 7 ∨ b = 8 ∨ b = 9 := by omega
    rcases this with rfl | rfl | rfl | rfl | rfl | rfl | rfl | rfl | rfl | rfl <;> rfl
  · rw [h5]
    have : b = 0 ∨ b = 1 ∨ b = 2 ∨ b = 3 ∨ b = 4 ∨ b = 5 ∨ b = 6 ∨ b = 7 ∨ b = 8 ∨ b = 9 := by omega
    rcases this with rfl | rfl | rfl | rfl | rfl | rfl | rfl | rfl | rfl | rfl <;> rfl
