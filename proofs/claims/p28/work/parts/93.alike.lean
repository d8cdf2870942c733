/-! ALIKE IN THE HEAP: what the machine comes to tells that a pass does not depend on what lay about -/
theorem ev_det {PT : List mmM} {t : List mmI} {pc : Nat} {lv : List (Option Value)} {st : List Value} {h : List mmC} {x y : Option Value × List mmC} (h1 : Ev PT t pc lv st h x) (h2 : Ev PT t pc lv st h y) : x = y := by
  obtain ⟨n, a⟩ := h1
  obtain ⟨m, b⟩ := h2
  exact Option.some.inj ((mx_more (Nat.le_max_left n m) a).symm.trans (mx_more (Nat.le_max_right n m) b))
/-- two forms that are alike in the heap -/
def feq (f g : Ob) : Prop := (f.2.1 0 = g.2.1 0 ∧ f.2.1 1 = g.2.1 1 ∧ f.2.1 2 = g.2.1 2 ∧ f.2.1 3 = g.2.1 3 ∧ f.2.1 4 = g.2.1 4 ∧ f.2.1 5 = g.2.1 5) ∧ mmIR (f.1 0) 140 = mmIR (g.1 0) 140 ∧ mmIR (f.1 1) 140 = mmIR (g.1 1) 140 ∧ mmIR (f.1 2) 140 = mmIR (g.1 2) 140 ∧ mmIR (f.1 3) 150 = mmIR (g.1 3) 150 ∧ mmIR (f.1 4) 150 = mmIR (g.1 4) 150 ∧ mmIR (f.1 5) 290 = mmIR (g.1 5) 290 ∧ mmIR (f.1 6) 290 = mmIR (g.1 6) 290 ∧ mmIR (f.1 7) 10 = mmIR (g.1 7) 10 ∧ mmIR (f.1 8) 1400 = mmIR (g.1 8) 1400 ∧ mmIR (f.1 9) 10 = mmIR (g.1 9) 10 ∧ mmIR (f.1 10) 200 = mmIR (g.1 10) 200 ∧ mmIR (f.1 11) 10 = mmIR (g.1 11) 10 ∧ mmIR (f.1 12) 20 = mmIR (g.1 12) 20
theorem feq.rf (f : Ob) : feq f f := ⟨⟨rfl, rfl, rfl, rfl, rfl, rfl⟩, rfl, rfl, rfl, rfl, rfl, rfl, rfl, rfl, rfl, rfl, rfl, rfl, rfl⟩
section ALIKE
variable {sc : mmC} {rest : List mmC} {to fl f g tr mk cn nu de ru la tb tf ph cn' nu' de' : Ob} {cs : Int64}
theorem mh_feq (h : feq f g) : mh sc rest to fl f tr mk cn nu de ru la tb tf ph cs = mh sc rest to fl g tr mk cn nu de ru la tb tf ph cs := by
  obtain ⟨⟨i0, i1, i2, i3, i4, i5⟩, r0, r1, r2, r3, r4, r5, r6, r7, r8, r9, r10, r11, r12⟩ := h
  unfold mh hp
  rw [i0, i1, i2, i3, i4, i5, r0, r1, r2, r3, r4, r5, r6, r7, r8, r9, r10, r11, r12]
theorem heap_f (h : mh sc rest to fl f tr mk cn nu de ru la tb tf ph cs = mh sc rest to fl g tr mk cn' nu' de' ru la tb tf ph cs) : feq f g := by
  have c : ∀ (k : Nat) (x y : mmC), (mh sc rest to fl f tr mk cn nu de ru la tb tf ph cs)[k]? = some x → (mh sc rest to fl g tr mk cn' nu' de' ru la tb tf ph cs)[k]? = some y → x = y := fun k x y hx hy => by
    rw [h] at hx
    exact Option.some.inj (hx.symm.trans hy)
  have i : ∀ (k : Nat) (x y : Int32) (l l' : List Value), l = l' → l[k]? = some (.int x) → l'[k]? = some (.int y) → x = y := fun k x y l l' e hx hy => by
    rw [e] at hx
    exact Value.int.inj (Option.some.inj (hx.symm.trans hy))
  have o := congrArg Prod.snd (c 34 _ _ (ob_34 _ _ _ _ _ _ _ _ _ _ _ _ _ _ _ _) (ob_34 _ _ _ _ _ _ _ _ _ _ _ _ _ _ _ _))
  exact ⟨⟨i 13 _ _ _ _ o rfl rfl, i 14 _ _ _ _ o rfl rfl, i 15 _ _ _ _ o rfl rfl, i 16 _ _ _ _ o rfl rfl, i 17 _ _ _ _ o rfl rfl, i 18 _ _ _ _ o rfl rfl⟩, (Prod.mk.inj (c 36 _ _ (ra_35 _ _ _ _ _ _ _ _ _ _ _ _ _ _ _ _) (ra_35 _ _ _ _ _ _ _ _ _ _ _ _ _ _ _ _))).2, (Prod.mk.inj (c 38 _ _ (ra_37 _ _ _ _ _ _ _ _ _ _ _ _ _ _ _ _) (ra_37 _ _ _ _ _ _ _ _ _ _ _ _ _ _ _ _))).2, (Prod.mk.inj (c 40 _ _ (ra_39 _ _ _ _ _ _ _ _ _ _ _ _ _ _ _ _) (ra_39 _ _ _ _ _ _ _ _ _ _ _ _ _ _ _ _))).2, (Prod.mk.inj (c 42 _ _ (ra_41 _ _ _ _ _ _ _ _ _ _ _ _ _ _ _ _) (ra_41 _ _ _ _ _ _ _ _ _ _ _ _ _ _ _ _))).2, (Prod.mk.inj (c 44 _ _ (ra_43 _ _ _ _ _ _ _ _ _ _ _ _ _ _ _ _) (ra_43 _ _ _ _ _ _ _ _ _ _ _ _ _ _ _ _))).2, (Prod.mk.inj (c 46 _ _ (ra_45 _ _ _ _ _ _ _ _ _ _ _ _ _ _ _ _) (ra_45 _ _ _ _ _ _ _ _ _ _ _ _ _ _ _ _))).2, (Prod.mk.inj (c 48 _ _ (ra_47 _ _ _ _ _ _ _ _ _ _ _ _ _ _ _ _) (ra_47 _ _ _ _ _ _ _ _ _ _ _ _ _ _ _ _))).2, (Prod.mk.inj (c 50 _ _ (ra_49 _ _ _ _ _ _ _ _ _ _ _ _ _ _ _ _) (ra_49 _ _ _ _ _ _ _ _ _ _ _ _ _ _ _ _))).2, (Prod.mk.inj (c 52 _ _ (ra_51 _ _ _ _ _ _ _ _ _ _ _ _ _ _ _ _) (ra_51 _ _ _ _ _ _ _ _ _ _ _ _ _ _ _ _))).2, (Prod.mk.inj (c 54 _ _ (ra_53 _ _ _ _ _ _ _ _ _ _ _ _ _ _ _ _) (ra_53 _ _ _ _ _ _ _ _ _ _ _ _ _ _ _ _))).2, (Prod.mk.inj (c 56 _ _ (ra_55 _ _ _ _ _ _ _ _ _ _ _ _ _ _ _ _) (ra_55 _ _ _ _ _ _ _ _ _ _ _ _ _ _ _ _))).2, (Prod.mk.inj (c 58 _ _ (ra_57 _ _ _ _ _ _ _ _ _ _ _ _ _ _ _ _) (ra_57 _ _ _ _ _ _ _ _ _ _ _ _ _ _ _ _))).2, (Prod.mk.inj (c 60 _ _ (ra_59 _ _ _ _ _ _ _ _ _ _ _ _ _ _ _ _) (ra_59 _ _ _ _ _ _ _ _ _ _ _ _ _ _ _ _))).2⟩
theorem sweep_alike (h : feq f g) : feq (Form_sweep f) (Form_sweep g) := by
  have a := e_Form_sweep_34 (sc := (0, [])) (rest := []) (to := f) (fl := f) (ma := f) (tr := f) (mk := f) (cn := f) (nu := f) (de := f) (ru := f) (la := f) (tb := f) (tf := f) (ph := f) (cs := 0)
  have b := e_Form_sweep_34 (sc := (0, [])) (rest := []) (to := f) (fl := f) (ma := g) (tr := f) (mk := f) (cn := f) (nu := f) (de := f) (ru := f) (la := f) (tb := f) (tf := f) (ph := f) (cs := 0)
  rw [← mh_feq h] at b
  exact heap_f (congrArg Prod.snd (ev_det a b))
theorem joiner_alike (h : feq f g) : feq (Joiner_goOver f) (Joiner_goOver g) := by
  have a := e_Joiner_goOver_113_34 (sc := (0, [])) (rest := []) (to := f) (fl := f) (ma := f) (tr := f) (mk := f) (cn := f) (nu := f) (de := f) (ru := f) (la := f) (tb := f) (tf := f) (ph := f) (cs := 0)
  have b := e_Joiner_goOver_113_34 (sc := (0, [])) (rest := []) (to := f) (fl := f) (ma := g) (tr := f) (mk := f) (cn := f) (nu := f) (de := f) (ru := f) (la := f) (tb := f) (tf := f) (ph := f) (cs := 0)
  rw [← mh_feq h] at b
  exact heap_f (congrArg Prod.snd (ev_det a b))
theorem numbers_alike (h : feq f g) (nu : Ob) : feq (Numbers_goOver f nu).1 (Numbers_goOver g nu).1 := by
  have a := e_Numbers_goOver_100_34 (sc := (0, [])) (rest := []) (to := f) (fl := f) (ma := f) (tr := f) (mk := f) (cn := f) (nu := nu) (de := f) (ru := f) (la := f) (tb := f) (tf := f) (ph := f) (cs := 0)
  have b := e_Numbers_goOver_100_34 (sc := (0, [])) (rest := []) (to := f) (fl := f) (ma := g) (tr := f) (mk := f) (cn := f) (nu := nu) (de := f) (ru := f) (la := f) (tb := f) (tf := f) (ph := f) (cs := 0)
  rw [← mh_feq h] at b
  exact heap_f (congrArg Prod.snd (ev_det a b))
theorem dead_alike (h : feq f g) (de : Ob) : feq (Dead_goOver f de).1 (Dead_goOver g de).1 := by
  have a := e_Dead_goOver_110_34 (sc := (0, [])) (rest := []) (to := f) (fl := f) (ma := f) (tr := f) (mk := f) (cn := f) (nu := f) (de := de) (ru := f) (la := f) (tb := f) (tf := f) (ph := f) (cs := 0)
  have b := e_Dead_goOver_110_34 (sc := (0, [])) (rest := []) (to := f) (fl := f) (ma := g) (tr := f) (mk := f) (cn := f) (nu := f) (de := de) (ru := f) (la := f) (tb := f) (tf := f) (ph := f) (cs := 0)
  rw [← mh_feq h] at b
  exact heap_f (congrArg Prod.snd (ev_det a b))
theorem begin_key (cn : Ob) : (fun g : Ob => (∀ v, v < 140 → g.1 0 v = if v < 2 then 2 else if v < 6 then 1 else 0) ∧ (∀ v, g.1 1 v = 0) ∧ g.2.1 0 = Ph_bit 0 ∧ g.2.1 1 = 0 ∧ g.2.2 0 = true) (Constants_begin cn) := by
  unfold Constants_begin Constants_begin_L18
  refine loop_cnt (B := fun a : Int32 × Ob => Constants_begin_L18b a.2 a.1) (mk := fun i (s : Ob) => (nI i, s)) (n := 6) (I := fun k s => (∀ v, v < 140 → s.1 0 v = if v < k then (if v < 2 then 2 else 1) else 0) ∧ ∀ v, s.1 1 v = 0)
    (P := fun g : Ob => (∀ v, v < 140 → g.1 0 v = if v < 2 then 2 else if v < 6 then 1 else 0) ∧ (∀ v, g.1 1 v = 0) ∧ g.2.1 0 = Ph_bit 0 ∧ g.2.1 1 = 0 ∧ g.2.2 0 = true) (fun k s hk hI => ?_) (fun s hI => ?_) 6 0 _ rfl ⟨fun v _ => ?_, fun v => ?_⟩
  · obtain ⟨i1, i2⟩ := hI
    refine ⟨rs s 0 k (if k < 2 then 2 else 1), ?_, fun v hv => ?_, fun v => by rw [rs_r _ _ _ _ (show 1 ≠ 0 by decide)]; exact i2 v⟩
    · show Constants_begin_L18b s (nI k) = _
      unfold Constants_begin_L18b Constants_begin_39
      rw [if_pos (show nI k < 6 from nI_lt (a := k) (b := 6) hk (by decide)), oput_rs (show k < 140 by omega) (by decide), oput_rs (show k < 140 by omega) (by decide), nI_1]
      by_cases q : k < 2
      · rw [if_pos (show nI k < 2 from nI_lt (a := k) (b := 2) q (by decide)), if_pos q]
      · rw [if_neg (show ¬ nI k < 2 from nI_nlt (a := k) (b := 2) (by omega) (by omega)), if_neg q]
    · rw [rs_i]
      by_cases z : v = k
      · rw [if_pos z, if_pos (show v < k + 1 by omega), z]
      · rw [if_neg z, i1 v hv]
        by_cases y : v < k
        · rw [if_pos y, if_pos (show v < k + 1 by omega)]
        · rw [if_neg y, if_neg (show ¬ v < k + 1 by omega)]
  · obtain ⟨i1, i2⟩ := hI
    refine ⟨oB (oG (oG s 0 (Ph_bit 0)) 1 0) 0 true, ?_, fun v hv => ?_, fun v => i2 v, ?_, ?_, ?_⟩
    · show Constants_begin_L18b s (nI 6) = _
      unfold Constants_begin_L18b
      rw [if_neg (by decide)]
    · show s.1 0 v = _
      rw [i1 v hv]
      by_cases y : v < 2
      · rw [if_pos (by omega), if_pos y, if_pos y]
      · rw [if_neg y, if_neg y]
    · rw [oB_i, oG_i, if_neg (by decide), oG_i, if_pos rfl]
    · rw [oB_i, oG_i, if_pos rfl]
    · rw [oB_b, if_pos rfl]
  · rw [if_neg (by omega)]
    unfold ofil
    rw [oR_1, if_neg (by decide), oR_1, if_pos rfl]
  · unfold ofil
    rw [oR_1, if_pos rfl]
theorem mmIR_eq {f g : Nat → Int32} {n : Nat} (h : ∀ k, k < n → f k = g k) : mmIR f n = mmIR g n :=
  List.map_congr_left fun k hk => by rw [h k (List.mem_range.mp hk)]
theorem mmIR_at {f g : Nat → Int32} {n k : Nat} (h : mmIR f n = mmIR g n) (hk : k < n) : f k = g k := by
  have a := mmIR_get (f := f) hk
  rw [h, mmIR_get hk] at a
  exact (Value.int.inj (Option.some.inj a)).symm
theorem constants_alike (h : feq f g) (cn cn' : Ob) : feq (Constants_goOver f cn).1 (Constants_goOver g cn').1 := by
  unfold Constants_goOver
  obtain ⟨a1, a2, a3, a4, a5⟩ := begin_key cn
  obtain ⟨b1, b2, b3, b4, b5⟩ := begin_key cn'
  generalize Constants_begin cn = c at a1 a2 a3 a4 a5
  generalize Constants_begin cn' = d at b1 b2 b3 b4 b5
  have a := e_Constants_goOver_95_34_L6 (sc := (0, [])) (rest := []) (to := f) (fl := f) (ma := f) (tr := f) (mk := f) (cn := c) (nu := f) (de := f) (ru := f) (la := f) (tb := f) (tf := f) (ph := f) (cs := 0) (v2 := 0) (x := _) (by exact rfl)
  have b := e_Constants_goOver_95_34_L6 (sc := (0, [])) (rest := []) (to := f) (fl := f) (ma := g) (tr := f) (mk := f) (cn := d) (nu := f) (de := f) (ru := f) (la := f) (tb := f) (tf := f) (ph := f) (cs := 0) (v2 := 0) (x := _) (by exact rfl)
  have e : mh (0, []) [] f f g f f d f f f f f f f 0 = mh (0, []) [] f f f f f c f f f f f f f 0 := by
    rw [← mh_feq h]
    unfold mh hp
    rw [a3, a4, a5, b3, b4, b5, mmIR_eq (f := d.1 0) (g := c.1 0) (fun k hk => by rw [a1 k hk, b1 k hk]), mmIR_eq (f := d.1 1) (g := c.1 1) (fun k _ => by rw [a2, b2])]
  rw [e] at b
  exact heap_f (congrArg Prod.snd (ev_det a b))
end ALIKE
