/-! THE OBJECT Own: operands, a line that is drawn -/
theorem bel_l (x : Int32) {m : Nat} {y : Int32} (hy : nI m = y) (h0 : 0 < m) (hm : m < 2 ^ 31) : ∃ j, j < m ∧ Law_below x y = some (nI j) := by
  subst hy
  exact bel_m x h0 hm
section OWND
variable {sc : mmC} {rest : List mmC} {to fl ma tr mk cn nu de ru la tb tf ph : Ob} {cs : Int64} {nb q : Nat}
theorem own_operand (x : Int32) : ∃ r, opR r ∧ ∀ (sc : mmC) (rest : List mmC) (to fl ma tr mk cn nu de ru la tb tf ph : Ob) (cs : Int64), Ev mmPT tbX12_operand 0 [some (.int x)] [] (mh sc rest to fl ma tr mk cn nu de ru la tb tf ph cs) (some (.int r), mh sc rest to fl ma tr mk cn nu de ru la tb tf ph cs) := by
  obtain ⟨j, hj, ej⟩ := bel_l x (m := 3) (y := 3) rfl (by decide) (by decide)
  by_cases z : j = 0
  · obtain ⟨k, hk, ek⟩ := bel_l (x >>> ((2 : Int32) &&& 31)) (m := 9) (y := 9) rfl (by decide) (by decide)
    refine ⟨nI k - 3, Or.inl ⟨k, hk, rfl⟩, fun sc rest to fl ma tr mk cn nu de ru la tb tf ph cs => ?_⟩
    refine Ev.s (ins := .iload_n 0) (pc' := 1) rfl rfl ?_
    refine q_ic 3 rfl rfl ?_
    refine kc_L_below_3 rfl (Nat.le_of_ble_eq_true rfl) (e_Law_below ej) ?_
    refine Ev.if1 rfl rfl (fun e => absurd e (by rw [z]; decide)) (fun _ => ?_)
    refine Ev.s (ins := .iload_n 0) (pc' := 9) rfl rfl ?_
    refine q_ic 2 rfl rfl ?_
    refine Ev.s (ins := .ishr) (pc' := 11) rfl rfl ?_
    refine q_bi 9 rfl rfl ?_
    refine kc_L_below_3 rfl (Nat.le_of_ble_eq_true rfl) (e_Law_below ek) ?_
    refine q_ic 3 rfl rfl ?_
    refine Ev.s (ins := .isub) (pc' := 18) rfl rfl ?_
    refine Ev.goto rfl ?_
    exact Ev.iret rfl rfl rfl
  · obtain ⟨k, hk, ek⟩ := bel_l (x >>> ((2 : Int32) &&& 31)) (m := 6) (y := 6) rfl (by decide) (by decide)
    refine ⟨(100 : Int32) + nI k, Or.inr ⟨k, hk, rfl⟩, fun sc rest to fl ma tr mk cn nu de ru la tb tf ph cs => ?_⟩
    have hne : mmIf .ne (nI j) = true := by
      unfold mmIf
      exact decide_eq_true (nI_ne0 (by omega) (by omega))
    refine Ev.s (ins := .iload_n 0) (pc' := 1) rfl rfl ?_
    refine q_ic 3 rfl rfl ?_
    refine kc_L_below_3 rfl (Nat.le_of_ble_eq_true rfl) (e_Law_below ej) ?_
    refine Ev.if1 rfl rfl (fun _ => ?_) (fun e => absurd (hne.symm.trans e) (by decide))
    refine q_bi 100 rfl rfl ?_
    refine Ev.s (ins := .iload_n 0) (pc' := 24) rfl rfl ?_
    refine q_ic 2 rfl rfl ?_
    refine Ev.s (ins := .ishr) (pc' := 26) rfl rfl ?_
    refine q_bi 6 rfl rfl ?_
    refine kc_L_below_3 rfl (Nat.le_of_ble_eq_true rfl) (e_Law_below ek) ?_
    refine Ev.s (ins := .iadd) (pc' := 32) rfl rfl ?_
    exact Ev.iret rfl rfl rfl
theorem own_drawn (hO : OI rest to) (hB : OB rest q) (hTI : TI to fl nb) {b : Nat} (hb : b < nb) (x : Int32) : ∃ rest' to' fl', Ev mmPT tbX12_isDrawn 0 [some (.ref 136), some (.ref 1), some (.int (nI b)), some (.int x), none, none, none, none] [] (mh sc rest to fl ma tr mk cn nu de ru la tb tf ph cs) (some (.int 1), mh sc rest' to' fl' ma tr mk cn nu de ru la tb tf ph cs) ∧ OI rest' to' ∧ TI to' fl' nb ∧ OB rest' (q + 1) := by
  obtain ⟨⟨bl, h0⟩, -⟩ := id hO
  obtain ⟨k, hk, ek⟩ := bel_l x (m := 12) (y := 12) rfl (by decide) (by decide)
  obtain ⟨d, hd, ed⟩ := bel_l (x >>> ((4 : Int32) &&& 31)) (m := 6) (y := 6) rfl (by decide) (by decide)
  obtain ⟨p, hp, ep⟩ := own_operand (x >>> ((6 : Int32) &&& 31))
  obtain ⟨r, hr, er⟩ := own_operand (x >>> ((9 : Int32) &&& 31))
  have key : ∀ {rest' : List mmC} {to' fl' : Ob}, Ev mmPT tbX12_isDrawn 36 [some (.ref 136), some (.ref 1), some (.int (nI b)), some (.int x), some (.int (nI k)), some (.int (nI d)), some (.int p), some (.int r)] [] (mh sc rest to fl ma tr mk cn nu de ru la tb tf ph cs) (some (.int 1), mh sc rest' to' fl' ma tr mk cn nu de ru la tb tf ph cs) → Ev mmPT tbX12_isDrawn 0 [some (.ref 136), some (.ref 1), some (.int (nI b)), some (.int x), none, none, none, none] [] (mh sc rest to fl ma tr mk cn nu de ru la tb tf ph cs) (some (.int 1), mh sc rest' to' fl' ma tr mk cn nu de ru la tb tf ph cs) := fun K => by
    refine Ev.s (ins := .iload_n 3) (pc' := 1) rfl rfl ?_
    refine q_bi 12 rfl rfl ?_
    refine kc_L_below_3 rfl (Nat.le_of_ble_eq_true rfl) (e_Law_below ek) ?_
    refine Ev.s (ins := .istore 4) (pc' := 8) (lv' := [some (.ref 136), some (.ref 1), some (.int (nI b)), some (.int x), some (.int (nI k)), none, none, none]) rfl rfl ?_
    refine Ev.s (ins := .iload_n 3) (pc' := 9) rfl rfl ?_
    refine q_ic 4 rfl rfl ?_
    refine Ev.s (ins := .ishr) (pc' := 11) rfl rfl ?_
    refine q_bi 6 rfl rfl ?_
    refine kc_L_below_3 rfl (Nat.le_of_ble_eq_true rfl) (e_Law_below ed) ?_
    refine Ev.s (ins := .istore 5) (pc' := 18) (lv' := [some (.ref 136), some (.ref 1), some (.int (nI b)), some (.int x), some (.int (nI k)), some (.int (nI d)), none, none]) rfl rfl ?_
    refine Ev.s (ins := .iload_n 3) (pc' := 19) rfl rfl ?_
    refine q_bi 6 rfl rfl ?_
    refine Ev.s (ins := .ishr) (pc' := 22) rfl rfl ?_
    refine kc_X12_operand_2 rfl (Nat.le_of_ble_eq_true rfl) (ep _ _ _ _ _ _ _ _ _ _ _ _ _ _ _ _) ?_
    refine Ev.s (ins := .istore 6) (pc' := 27) (lv' := [some (.ref 136), some (.ref 1), some (.int (nI b)), some (.int x), some (.int (nI k)), some (.int (nI d)), some (.int p), none]) rfl rfl ?_
    refine Ev.s (ins := .iload_n 3) (pc' := 28) rfl rfl ?_
    refine q_bi 9 rfl rfl ?_
    refine Ev.s (ins := .ishr) (pc' := 31) rfl rfl ?_
    refine kc_X12_operand_2 rfl (Nat.le_of_ble_eq_true rfl) (er _ _ _ _ _ _ _ _ _ _ _ _ _ _ _ _) ?_
    refine Ev.s (ins := .istore 7) (pc' := 36) (lv' := [some (.ref 136), some (.ref 1), some (.int (nI b)), some (.int x), some (.int (nI k)), some (.int (nI d)), some (.int p), some (.int r)]) rfl rfl ?_
    exact K
  have hk12 : k = 0 ∨ k = 1 ∨ k = 2 ∨ k = 3 ∨ k = 4 ∨ k = 5 ∨ k = 6 ∨ k = 7 ∨ k = 8 ∨ k = 9 ∨ k = 10 ∨ k = 11 := by omega
  rcases hk12 with rfl | rfl | rfl | rfl | rfl | rfl | rfl | rfl | rfl | rfl | rfl | rfl
  · obtain ⟨rest', to', fl', K, g1, g2, g3⟩ := own_line (sc := sc) (ma := ma) (tr := tr) (mk := mk) (cn := cn) (nu := nu) (de := de) (ru := ru) (la := la) (tb := tb) (tf := tf) (ph := ph) (cs := cs) (kk := 0) (j := d) (p := p) (r := 0) hO hB hTI hb (by decide) hd (fun z => absurd z (by decide)) hp opR_0 (fun _ => rfl)
    refine ⟨rest', to', fl', key ?_, g1, g2, g3⟩
    refine Ev.s (ins := .iload 4) (pc' := 38) rfl rfl ?_
    refine Ev.if1 rfl rfl (fun _ => ?_) (fun e => absurd e (by decide))
    refine Ev.s (ins := .iload 4) (pc' := 50) rfl rfl ?_
    refine q_bi 9 rfl rfl ?_
    refine Ev.if2 rfl rfl (fun _ => ?_) (fun e => absurd e (by decide))
    refine Ev.s (ins := .aload_n 0) (pc' := 72) rfl rfl ?_
    refine Ev.s (ins := .aload_n 1) (pc' := 73) rfl rfl ?_
    refine Ev.s (ins := .iload_n 2) (pc' := 74) rfl rfl ?_
    refine q_ic 0 rfl rfl ?_
    refine Ev.s (ins := .iload 5) (pc' := 77) rfl rfl ?_
    refine Ev.s (ins := .iload 6) (pc' := 79) rfl rfl ?_
    refine q_ic 0 rfl rfl ?_
    refine kc_X12_isLine_0 rfl ((rg 0).trans h0) rfl (Nat.le_of_ble_eq_true rfl) K ?_
    exact Ev.zret rfl rfl (Or.inr rfl) rfl
  · obtain ⟨rest', to', fl', K, g1, g2, g3⟩ := own_line (sc := sc) (ma := ma) (tr := tr) (mk := mk) (cn := cn) (nu := nu) (de := de) (ru := ru) (la := la) (tb := tb) (tf := tf) (ph := ph) (cs := cs) (kk := 1) (j := d) (p := p) (r := r) hO hB hTI hb (by decide) hd (fun z => absurd z (by decide)) hp hr (fun z => absurd z (by decide))
    refine ⟨rest', to', fl', key ?_, g1, g2, g3⟩
    refine Ev.s (ins := .iload 4) (pc' := 38) rfl rfl ?_
    refine Ev.if1 rfl rfl (fun e => absurd e (by decide)) (fun _ => ?_)
    refine Ev.s (ins := .iload 4) (pc' := 43) rfl rfl ?_
    refine q_bi 8 rfl rfl ?_
    refine Ev.if2 rfl rfl (fun _ => ?_) (fun e => absurd e (by decide))
    refine Ev.s (ins := .iload 4) (pc' := 86) rfl rfl ?_
    refine q_bi 6 rfl rfl ?_
    refine Ev.if2 rfl rfl (fun e => absurd e (by decide)) (fun _ => ?_)
    refine Ev.s (ins := .aload_n 0) (pc' := 92) rfl rfl ?_
    refine Ev.s (ins := .aload_n 1) (pc' := 93) rfl rfl ?_
    refine Ev.s (ins := .iload_n 2) (pc' := 94) rfl rfl ?_
    refine Ev.s (ins := .iload 4) (pc' := 96) rfl rfl ?_
    refine Ev.s (ins := .iload 5) (pc' := 98) rfl rfl ?_
    refine Ev.s (ins := .iload 6) (pc' := 100) rfl rfl ?_
    refine Ev.s (ins := .iload 7) (pc' := 102) rfl rfl ?_
    refine kc_X12_isLine_0 rfl ((rg 0).trans h0) rfl (Nat.le_of_ble_eq_true rfl) K ?_
    exact Ev.zret rfl rfl (Or.inr rfl) rfl
  · obtain ⟨rest', to', fl', K, g1, g2, g3⟩ := own_line (sc := sc) (ma := ma) (tr := tr) (mk := mk) (cn := cn) (nu := nu) (de := de) (ru := ru) (la := la) (tb := tb) (tf := tf) (ph := ph) (cs := cs) (kk := 2) (j := d) (p := p) (r := r) hO hB hTI hb (by decide) hd (fun z => absurd z (by decide)) hp hr (fun z => absurd z (by decide))
    refine ⟨rest', to', fl', key ?_, g1, g2, g3⟩
    refine Ev.s (ins := .iload 4) (pc' := 38) rfl rfl ?_
    refine Ev.if1 rfl rfl (fun e => absurd e (by decide)) (fun _ => ?_)
    refine Ev.s (ins := .iload 4) (pc' := 43) rfl rfl ?_
    refine q_bi 8 rfl rfl ?_
    refine Ev.if2 rfl rfl (fun _ => ?_) (fun e => absurd e (by decide))
    refine Ev.s (ins := .iload 4) (pc' := 86) rfl rfl ?_
    refine q_bi 6 rfl rfl ?_
    refine Ev.if2 rfl rfl (fun e => absurd e (by decide)) (fun _ => ?_)
    refine Ev.s (ins := .aload_n 0) (pc' := 92) rfl rfl ?_
    refine Ev.s (ins := .aload_n 1) (pc' := 93) rfl rfl ?_
    refine Ev.s (ins := .iload_n 2) (pc' := 94) rfl rfl ?_
    refine Ev.s (ins := .iload 4) (pc' := 96) rfl rfl ?_
    refine Ev.s (ins := .iload 5) (pc' := 98) rfl rfl ?_
    refine Ev.s (ins := .iload 6) (pc' := 100) rfl rfl ?_
    refine Ev.s (ins := .iload 7) (pc' := 102) rfl rfl ?_
    refine kc_X12_isLine_0 rfl ((rg 0).trans h0) rfl (Nat.le_of_ble_eq_true rfl) K ?_
    exact Ev.zret rfl rfl (Or.inr rfl) rfl
  · obtain ⟨rest', to', fl', K, g1, g2, g3⟩ := own_line (sc := sc) (ma := ma) (tr := tr) (mk := mk) (cn := cn) (nu := nu) (de := de) (ru := ru) (la := la) (tb := tb) (tf := tf) (ph := ph) (cs := cs) (kk := 3) (j := d) (p := p) (r := r) hO hB hTI hb (by decide) hd (fun z => absurd z (by decide)) hp hr (fun z => absurd z (by decide))
    refine ⟨rest', to', fl', key ?_, g1, g2, g3⟩
    refine Ev.s (ins := .iload 4) (pc' := 38) rfl rfl ?_
    refine Ev.if1 rfl rfl (fun e => absurd e (by decide)) (fun _ => ?_)
    refine Ev.s (ins := .iload 4) (pc' := 43) rfl rfl ?_
    refine q_bi 8 rfl rfl ?_
    refine Ev.if2 rfl rfl (fun _ => ?_) (fun e => absurd e (by decide))
    refine Ev.s (ins := .iload 4) (pc' := 86) rfl rfl ?_
    refine q_bi 6 rfl rfl ?_
    refine Ev.if2 rfl rfl (fun e => absurd e (by decide)) (fun _ => ?_)
    refine Ev.s (ins := .aload_n 0) (pc' := 92) rfl rfl ?_
    refine Ev.s (ins := .aload_n 1) (pc' := 93) rfl rfl ?_
    refine Ev.s (ins := .iload_n 2) (pc' := 94) rfl rfl ?_
    refine Ev.s (ins := .iload 4) (pc' := 96) rfl rfl ?_
    refine Ev.s (ins := .iload 5) (pc' := 98) rfl rfl ?_
    refine Ev.s (ins := .iload 6) (pc' := 100) rfl rfl ?_
    refine Ev.s (ins := .iload 7) (pc' := 102) rfl rfl ?_
    refine kc_X12_isLine_0 rfl ((rg 0).trans h0) rfl (Nat.le_of_ble_eq_true rfl) K ?_
    exact Ev.zret rfl rfl (Or.inr rfl) rfl
  · obtain ⟨rest', to', fl', K, g1, g2, g3⟩ := own_line (sc := sc) (ma := ma) (tr := tr) (mk := mk) (cn := cn) (nu := nu) (de := de) (ru := ru) (la := la) (tb := tb) (tf := tf) (ph := ph) (cs := cs) (kk := 4) (j := d) (p := p) (r := r) hO hB hTI hb (by decide) hd (fun z => absurd z (by decide)) hp hr (fun z => absurd z (by decide))
    refine ⟨rest', to', fl', key ?_, g1, g2, g3⟩
    refine Ev.s (ins := .iload 4) (pc' := 38) rfl rfl ?_
    refine Ev.if1 rfl rfl (fun e => absurd e (by decide)) (fun _ => ?_)
    refine Ev.s (ins := .iload 4) (pc' := 43) rfl rfl ?_
    refine q_bi 8 rfl rfl ?_
    refine Ev.if2 rfl rfl (fun _ => ?_) (fun e => absurd e (by decide))
    refine Ev.s (ins := .iload 4) (pc' := 86) rfl rfl ?_
    refine q_bi 6 rfl rfl ?_
    refine Ev.if2 rfl rfl (fun e => absurd e (by decide)) (fun _ => ?_)
    refine Ev.s (ins := .aload_n 0) (pc' := 92) rfl rfl ?_
    refine Ev.s (ins := .aload_n 1) (pc' := 93) rfl rfl ?_
    refine Ev.s (ins := .iload_n 2) (pc' := 94) rfl rfl ?_
    refine Ev.s (ins := .iload 4) (pc' := 96) rfl rfl ?_
    refine Ev.s (ins := .iload 5) (pc' := 98) rfl rfl ?_
    refine Ev.s (ins := .iload 6) (pc' := 100) rfl rfl ?_
    refine Ev.s (ins := .iload 7) (pc' := 102) rfl rfl ?_
    refine kc_X12_isLine_0 rfl ((rg 0).trans h0) rfl (Nat.le_of_ble_eq_true rfl) K ?_
    exact Ev.zret rfl rfl (Or.inr rfl) rfl
  · obtain ⟨rest', to', fl', K, g1, g2, g3⟩ := own_line (sc := sc) (ma := ma) (tr := tr) (mk := mk) (cn := cn) (nu := nu) (de := de) (ru := ru) (la := la) (tb := tb) (tf := tf) (ph := ph) (cs := cs) (kk := 5) (j := d) (p := p) (r := r) hO hB hTI hb (by decide) hd (fun z => absurd z (by decide)) hp hr (fun z => absurd z (by decide))
    refine ⟨rest', to', fl', key ?_, g1, g2, g3⟩
    refine Ev.s (ins := .iload 4) (pc' := 38) rfl rfl ?_
    refine Ev.if1 rfl rfl (fun e => absurd e (by decide)) (fun _ => ?_)
    refine Ev.s (ins := .iload 4) (pc' := 43) rfl rfl ?_
    refine q_bi 8 rfl rfl ?_
    refine Ev.if2 rfl rfl (fun _ => ?_) (fun e => absurd e (by decide))
    refine Ev.s (ins := .iload 4) (pc' := 86) rfl rfl ?_
    refine q_bi 6 rfl rfl ?_
    refine Ev.if2 rfl rfl (fun e => absurd e (by decide)) (fun _ => ?_)
    refine Ev.s (ins := .aload_n 0) (pc' := 92) rfl rfl ?_
    refine Ev.s (ins := .aload_n 1) (pc' := 93) rfl rfl ?_
    refine Ev.s (ins := .iload_n 2) (pc' := 94) rfl rfl ?_
    refine Ev.s (ins := .iload 4) (pc' := 96) rfl rfl ?_
    refine Ev.s (ins := .iload 5) (pc' := 98) rfl rfl ?_
    refine Ev.s (ins := .iload 6) (pc' := 100) rfl rfl ?_
    refine Ev.s (ins := .iload 7) (pc' := 102) rfl rfl ?_
    refine kc_X12_isLine_0 rfl ((rg 0).trans h0) rfl (Nat.le_of_ble_eq_true rfl) K ?_
    exact Ev.zret rfl rfl (Or.inr rfl) rfl
  · obtain ⟨rest', to', fl', K, g1, g2, g3⟩ := own_line (sc := sc) (ma := ma) (tr := tr) (mk := mk) (cn := cn) (nu := nu) (de := de) (ru := ru) (la := la) (tb := tb) (tf := tf) (ph := ph) (cs := cs) (kk := 6) (j := d) (p := p) (r := 0) hO hB hTI hb (by decide) hd (fun z => absurd z (by decide)) hp opR_0 (fun _ => rfl)
    refine ⟨rest', to', fl', key ?_, g1, g2, g3⟩
    refine Ev.s (ins := .iload 4) (pc' := 38) rfl rfl ?_
    refine Ev.if1 rfl rfl (fun e => absurd e (by decide)) (fun _ => ?_)
    refine Ev.s (ins := .iload 4) (pc' := 43) rfl rfl ?_
    refine q_bi 8 rfl rfl ?_
    refine Ev.if2 rfl rfl (fun _ => ?_) (fun e => absurd e (by decide))
    refine Ev.s (ins := .iload 4) (pc' := 86) rfl rfl ?_
    refine q_bi 6 rfl rfl ?_
    refine Ev.if2 rfl rfl (fun _ => ?_) (fun e => absurd e (by decide))
    refine Ev.s (ins := .iload 4) (pc' := 108) rfl rfl ?_
    refine q_bi 6 rfl rfl ?_
    refine Ev.if2 rfl rfl (fun e => absurd e (by decide)) (fun _ => ?_)
    refine Ev.s (ins := .aload_n 0) (pc' := 114) rfl rfl ?_
    refine Ev.s (ins := .aload_n 1) (pc' := 115) rfl rfl ?_
    refine Ev.s (ins := .iload_n 2) (pc' := 116) rfl rfl ?_
    refine q_bi 6 rfl rfl ?_
    refine Ev.s (ins := .iload 5) (pc' := 120) rfl rfl ?_
    refine Ev.s (ins := .iload 6) (pc' := 122) rfl rfl ?_
    refine q_ic 0 rfl rfl ?_
    refine kc_X12_isLine_0 rfl ((rg 0).trans h0) rfl (Nat.le_of_ble_eq_true rfl) K ?_
    refine Ev.goto rfl ?_
    exact Ev.zret rfl rfl (Or.inr rfl) rfl
  · obtain ⟨rest', to', fl', K, g1, g2, g3⟩ := own_line (sc := sc) (ma := ma) (tr := tr) (mk := mk) (cn := cn) (nu := nu) (de := de) (ru := ru) (la := la) (tb := tb) (tf := tf) (ph := ph) (cs := cs) (kk := 7) (j := 0) (p := p) (r := r) hO hB hTI hb (by decide) (by decide) (fun _ => rfl) hp hr (fun z => absurd z (by decide))
    refine ⟨rest', to', fl', key ?_, g1, g2, g3⟩
    refine Ev.s (ins := .iload 4) (pc' := 38) rfl rfl ?_
    refine Ev.if1 rfl rfl (fun e => absurd e (by decide)) (fun _ => ?_)
    refine Ev.s (ins := .iload 4) (pc' := 43) rfl rfl ?_
    refine q_bi 8 rfl rfl ?_
    refine Ev.if2 rfl rfl (fun _ => ?_) (fun e => absurd e (by decide))
    refine Ev.s (ins := .iload 4) (pc' := 86) rfl rfl ?_
    refine q_bi 6 rfl rfl ?_
    refine Ev.if2 rfl rfl (fun _ => ?_) (fun e => absurd e (by decide))
    refine Ev.s (ins := .iload 4) (pc' := 108) rfl rfl ?_
    refine q_bi 6 rfl rfl ?_
    refine Ev.if2 rfl rfl (fun _ => ?_) (fun e => absurd e (by decide))
    refine Ev.s (ins := .iload 4) (pc' := 131) rfl rfl ?_
    refine q_bi 7 rfl rfl ?_
    refine Ev.if2 rfl rfl (fun e => absurd e (by decide)) (fun _ => ?_)
    refine Ev.s (ins := .aload_n 0) (pc' := 137) rfl rfl ?_
    refine Ev.s (ins := .aload_n 1) (pc' := 138) rfl rfl ?_
    refine Ev.s (ins := .iload_n 2) (pc' := 139) rfl rfl ?_
    refine q_bi 7 rfl rfl ?_
    refine q_ic 0 rfl rfl ?_
    refine Ev.s (ins := .iload 6) (pc' := 144) rfl rfl ?_
    refine Ev.s (ins := .iload 7) (pc' := 146) rfl rfl ?_
    refine kc_X12_isLine_0 rfl ((rg 0).trans h0) rfl (Nat.le_of_ble_eq_true rfl) K ?_
    refine Ev.goto rfl ?_
    exact Ev.zret rfl rfl (Or.inr rfl) rfl
  · obtain ⟨rest', to', fl', K, g1, g2, g3⟩ := own_line (sc := sc) (ma := ma) (tr := tr) (mk := mk) (cn := cn) (nu := nu) (de := de) (ru := ru) (la := la) (tb := tb) (tf := tf) (ph := ph) (cs := cs) (kk := 8) (j := 0) (p := p) (r := 0) hO hB hTI hb (by decide) (by decide) (fun _ => rfl) hp opR_0 (fun _ => rfl)
    refine ⟨rest', to', fl', key ?_, g1, g2, g3⟩
    refine Ev.s (ins := .iload 4) (pc' := 38) rfl rfl ?_
    refine Ev.if1 rfl rfl (fun e => absurd e (by decide)) (fun _ => ?_)
    refine Ev.s (ins := .iload 4) (pc' := 43) rfl rfl ?_
    refine q_bi 8 rfl rfl ?_
    refine Ev.if2 rfl rfl (fun _ => ?_) (fun e => absurd e (by decide))
    refine Ev.s (ins := .iload 4) (pc' := 86) rfl rfl ?_
    refine q_bi 6 rfl rfl ?_
    refine Ev.if2 rfl rfl (fun _ => ?_) (fun e => absurd e (by decide))
    refine Ev.s (ins := .iload 4) (pc' := 108) rfl rfl ?_
    refine q_bi 6 rfl rfl ?_
    refine Ev.if2 rfl rfl (fun _ => ?_) (fun e => absurd e (by decide))
    refine Ev.s (ins := .iload 4) (pc' := 131) rfl rfl ?_
    refine q_bi 7 rfl rfl ?_
    refine Ev.if2 rfl rfl (fun _ => ?_) (fun e => absurd e (by decide))
    refine Ev.s (ins := .aload_n 0) (pc' := 153) rfl rfl ?_
    refine Ev.s (ins := .aload_n 1) (pc' := 154) rfl rfl ?_
    refine Ev.s (ins := .iload_n 2) (pc' := 155) rfl rfl ?_
    refine q_bi 8 rfl rfl ?_
    refine q_ic 0 rfl rfl ?_
    refine Ev.s (ins := .iload 6) (pc' := 160) rfl rfl ?_
    refine q_ic 0 rfl rfl ?_
    refine kc_X12_isLine_0 rfl ((rg 0).trans h0) rfl (Nat.le_of_ble_eq_true rfl) K ?_
    exact Ev.zret rfl rfl (Or.inr rfl) rfl
  · obtain ⟨rest', to', fl', K, g1, g2, g3⟩ := own_line (sc := sc) (ma := ma) (tr := tr) (mk := mk) (cn := cn) (nu := nu) (de := de) (ru := ru) (la := la) (tb := tb) (tf := tf) (ph := ph) (cs := cs) (kk := 0) (j := d) (p := p) (r := 0) hO hB hTI hb (by decide) hd (fun z => absurd z (by decide)) hp opR_0 (fun _ => rfl)
    refine ⟨rest', to', fl', key ?_, g1, g2, g3⟩
    refine Ev.s (ins := .iload 4) (pc' := 38) rfl rfl ?_
    refine Ev.if1 rfl rfl (fun e => absurd e (by decide)) (fun _ => ?_)
    refine Ev.s (ins := .iload 4) (pc' := 43) rfl rfl ?_
    refine q_bi 8 rfl rfl ?_
    refine Ev.if2 rfl rfl (fun e => absurd e (by decide)) (fun _ => ?_)
    refine Ev.s (ins := .iload 4) (pc' := 50) rfl rfl ?_
    refine q_bi 9 rfl rfl ?_
    refine Ev.if2 rfl rfl (fun _ => ?_) (fun e => absurd e (by decide))
    refine Ev.s (ins := .aload_n 0) (pc' := 72) rfl rfl ?_
    refine Ev.s (ins := .aload_n 1) (pc' := 73) rfl rfl ?_
    refine Ev.s (ins := .iload_n 2) (pc' := 74) rfl rfl ?_
    refine q_ic 0 rfl rfl ?_
    refine Ev.s (ins := .iload 5) (pc' := 77) rfl rfl ?_
    refine Ev.s (ins := .iload 6) (pc' := 79) rfl rfl ?_
    refine q_ic 0 rfl rfl ?_
    refine kc_X12_isLine_0 rfl ((rg 0).trans h0) rfl (Nat.le_of_ble_eq_true rfl) K ?_
    exact Ev.zret rfl rfl (Or.inr rfl) rfl
  · obtain ⟨rest', to', fl', K, g1, g2, g3⟩ := own_line (sc := sc) (ma := ma) (tr := tr) (mk := mk) (cn := cn) (nu := nu) (de := de) (ru := ru) (la := la) (tb := tb) (tf := tf) (ph := ph) (cs := cs) (kk := 1) (j := d) (p := p) (r := r) hO hB hTI hb (by decide) hd (fun z => absurd z (by decide)) hp hr (fun z => absurd z (by decide))
    refine ⟨rest', to', fl', key ?_, g1, g2, g3⟩
    refine Ev.s (ins := .iload 4) (pc' := 38) rfl rfl ?_
    refine Ev.if1 rfl rfl (fun e => absurd e (by decide)) (fun _ => ?_)
    refine Ev.s (ins := .iload 4) (pc' := 43) rfl rfl ?_
    refine q_bi 8 rfl rfl ?_
    refine Ev.if2 rfl rfl (fun e => absurd e (by decide)) (fun _ => ?_)
    refine Ev.s (ins := .iload 4) (pc' := 50) rfl rfl ?_
    refine q_bi 9 rfl rfl ?_
    refine Ev.if2 rfl rfl (fun e => absurd e (by decide)) (fun _ => ?_)
    refine Ev.s (ins := .aload_n 0) (pc' := 56) rfl rfl ?_
    refine Ev.s (ins := .aload_n 1) (pc' := 57) rfl rfl ?_
    refine Ev.s (ins := .iload_n 2) (pc' := 58) rfl rfl ?_
    refine q_ic 1 rfl rfl ?_
    refine Ev.s (ins := .iload 5) (pc' := 61) rfl rfl ?_
    refine Ev.s (ins := .iload 6) (pc' := 63) rfl rfl ?_
    refine Ev.s (ins := .iload 7) (pc' := 65) rfl rfl ?_
    refine kc_X12_isLine_0 rfl ((rg 0).trans h0) rfl (Nat.le_of_ble_eq_true rfl) K ?_
    refine Ev.goto rfl ?_
    exact Ev.zret rfl rfl (Or.inr rfl) rfl
  · obtain ⟨rest', to', fl', K, g1, g2, g3⟩ := own_line (sc := sc) (ma := ma) (tr := tr) (mk := mk) (cn := cn) (nu := nu) (de := de) (ru := ru) (la := la) (tb := tb) (tf := tf) (ph := ph) (cs := cs) (kk := 1) (j := d) (p := p) (r := r) hO hB hTI hb (by decide) hd (fun z => absurd z (by decide)) hp hr (fun z => absurd z (by decide))
    refine ⟨rest', to', fl', key ?_, g1, g2, g3⟩
    refine Ev.s (ins := .iload 4) (pc' := 38) rfl rfl ?_
    refine Ev.if1 rfl rfl (fun e => absurd e (by decide)) (fun _ => ?_)
    refine Ev.s (ins := .iload 4) (pc' := 43) rfl rfl ?_
    refine q_bi 8 rfl rfl ?_
    refine Ev.if2 rfl rfl (fun e => absurd e (by decide)) (fun _ => ?_)
    refine Ev.s (ins := .iload 4) (pc' := 50) rfl rfl ?_
    refine q_bi 9 rfl rfl ?_
    refine Ev.if2 rfl rfl (fun e => absurd e (by decide)) (fun _ => ?_)
    refine Ev.s (ins := .aload_n 0) (pc' := 56) rfl rfl ?_
    refine Ev.s (ins := .aload_n 1) (pc' := 57) rfl rfl ?_
    refine Ev.s (ins := .iload_n 2) (pc' := 58) rfl rfl ?_
    refine q_ic 1 rfl rfl ?_
    refine Ev.s (ins := .iload 5) (pc' := 61) rfl rfl ?_
    refine Ev.s (ins := .iload 6) (pc' := 63) rfl rfl ?_
    refine Ev.s (ins := .iload 7) (pc' := 65) rfl rfl ?_
    refine kc_X12_isLine_0 rfl ((rg 0).trans h0) rfl (Nat.le_of_ble_eq_true rfl) K ?_
    refine Ev.goto rfl ?_
    exact Ev.zret rfl rfl (Or.inr rfl) rfl
end OWND
