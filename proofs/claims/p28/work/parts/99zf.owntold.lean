/-! THE OBJECT Own: all blocks are told -/
section OWNT
variable {sc : mmC} {rest : List mmC} {to fl ma tr mk cn nu de ru la tb tf ph : Ob} {cs : Int64} {n q : Nat}
theorem ic_ne {a b : Nat} (ha : a < 2 ^ 31) (hb : b < 2 ^ 31) (h : a ≠ b) {y : Int32} (hy : nI b = y) : mmIc .ne (nI a) y = true := by
  subst hy
  unfold mmIc
  exact decide_eq_true (fun z => h (nI_inj ha hb z))
theorem ic_nne {a b : Nat} (h : a = b) {y : Int32} (hy : nI b = y) : mmIc .ne (nI a) y = false := by
  subst hy
  subst h
  exact ne_self _
theorem ic_ge {a b : Nat} (ha : a < 2 ^ 31) (h : b ≤ a) : mmIc .ge (nI a) (nI b) = true := by
  unfold mmIc
  exact decide_eq_true (nI_le h ha)
theorem ic_nge {a b : Nat} (hb : b < 2 ^ 31) (h : a < b) : mmIc .ge (nI a) (nI b) = false := by
  unfold mmIc
  exact decide_eq_false (nI_ge h hb)
theorem told_kind (h1 : 1 ≤ n) (h8 : n ≤ 8) {k : Nat} (hk : k < n) (y l : Int32) : ∃ e, e ≤ 2 ∧ (n = 1 → e = 0) ∧ ∀ x : Option Value × List mmC, Ev mmPT tbX12_isTold 152 [some (.ref 136), some (.ref 1), some (.ref 0), some (.int (nI n)), some (.int (nI k)), some (.int y), some (.int (nI e)), none, none] [] (mh sc rest to fl ma tr mk cn nu de ru la tb tf ph cs) x → Ev mmPT tbX12_isTold 110 [some (.ref 136), some (.ref 1), some (.ref 0), some (.int (nI n)), some (.int (nI k)), some (.int y), some (.int l), none, none] [] (mh sc rest to fl ma tr mk cn nu de ru la tb tf ph cs) x := by
  by_cases a : n = 1
  · refine ⟨0, by decide, fun _ => rfl, fun x K => ?_⟩
    refine Ev.s (ins := .iload_n 3) (pc' := 111) rfl rfl ?_
    refine q_ic 1 rfl rfl ?_
    refine Ev.if2 rfl rfl (fun e => absurd ((ic_nne (b := 1) a rfl).symm.trans e) (by decide)) (fun _ => ?_)
    refine q_ic 0 rfl rfl ?_
    refine Ev.goto rfl ?_
    refine Ev.s (ins := .istore 6) (pc' := 152) (lv' := [some (.ref 136), some (.ref 1), some (.ref 0), some (.int (nI n)), some (.int (nI k)), some (.int y), some (.int (nI 0)), none, none]) rfl rfl ?_
    exact K
  · by_cases b : k + 1 = n
    · obtain ⟨e, he, ee⟩ := bel_l (y >>> ((4 : Int32) &&& 31)) (m := 2) (y := 2) rfl (by decide) (by decide)
      refine ⟨e, by omega, fun z => absurd z a, fun x K => ?_⟩
      refine Ev.s (ins := .iload_n 3) (pc' := 111) rfl rfl ?_
      refine q_ic 1 rfl rfl ?_
      refine Ev.if2 rfl rfl (fun _ => ?_) (fun e => absurd ((ic_ne (b := 1) (by omega) (by decide) a rfl).symm.trans e) (by decide))
      refine Ev.s (ins := .iload 4) (pc' := 121) rfl rfl ?_
      refine q_ic 1 rfl rfl ?_
      refine Ev.s (ins := .iadd) (pc' := 123) rfl rfl ?_
      rw [nI_1]
      refine Ev.s (ins := .iload_n 3) (pc' := 124) rfl rfl ?_
      refine Ev.if2 rfl rfl (fun e => absurd ((ic_nne b rfl).symm.trans e) (by decide)) (fun _ => ?_)
      refine Ev.s (ins := .iload 5) (pc' := 129) rfl rfl ?_
      refine q_ic 4 rfl rfl ?_
      refine Ev.s (ins := .ishr) (pc' := 131) rfl rfl ?_
      refine q_ic 2 rfl rfl ?_
      refine kc_L_below_3 rfl (Nat.le_of_ble_eq_true rfl) (e_Law_below ee) ?_
      refine Ev.goto rfl ?_
      refine Ev.s (ins := .istore 6) (pc' := 152) (lv' := [some (.ref 136), some (.ref 1), some (.ref 0), some (.int (nI n)), some (.int (nI k)), some (.int y), some (.int (nI e)), none, none]) rfl rfl ?_
      exact K
    · obtain ⟨e, he, ee⟩ := bel_l (y >>> ((4 : Int32) &&& 31)) (m := 3) (y := 3) rfl (by decide) (by decide)
      have hv : (1 : Int32) + (nI e - nI e / 2 * 2) = nI (1 + e % 2) := by
        have : e = 0 ∨ e = 1 ∨ e = 2 := by omega
        rcases this with rfl | rfl | rfl <;> decide
      refine ⟨1 + e % 2, by omega, fun z => absurd z a, fun x K => ?_⟩
      refine Ev.s (ins := .iload_n 3) (pc' := 111) rfl rfl ?_
      refine q_ic 1 rfl rfl ?_
      refine Ev.if2 rfl rfl (fun _ => ?_) (fun e => absurd ((ic_ne (b := 1) (by omega) (by decide) a rfl).symm.trans e) (by decide))
      refine Ev.s (ins := .iload 4) (pc' := 121) rfl rfl ?_
      refine q_ic 1 rfl rfl ?_
      refine Ev.s (ins := .iadd) (pc' := 123) rfl rfl ?_
      rw [nI_1]
      refine Ev.s (ins := .iload_n 3) (pc' := 124) rfl rfl ?_
      refine Ev.if2 rfl rfl (fun _ => ?_) (fun e => absurd ((ic_ne (by omega) (by omega) b rfl).symm.trans e) (by decide))
      refine q_ic 1 rfl rfl ?_
      refine Ev.s (ins := .iload 5) (pc' := 141) rfl rfl ?_
      refine q_ic 4 rfl rfl ?_
      refine Ev.s (ins := .ishr) (pc' := 143) rfl rfl ?_
      refine q_ic 3 rfl rfl ?_
      refine kc_L_below_3 rfl (Nat.le_of_ble_eq_true rfl) (e_Law_below ee) ?_
      refine q_ic 2 rfl rfl ?_
      refine q_rem rfl (by decide) ?_
      refine Ev.s (ins := .iadd) (pc' := 150) rfl rfl ?_
      rw [hv]
      refine Ev.s (ins := .istore 6) (pc' := 152) (lv' := [some (.ref 136), some (.ref 1), some (.ref 0), some (.int (nI n)), some (.int (nI k)), some (.int y), some (.int (nI (1 + e % 2))), none, none]) rfl rfl ?_
      exact K
theorem told_way1 (h1 : 1 ≤ n) (h8 : n ≤ 8) {k e : Nat} (y : Int32) : ∃ t : Int32, (n = 1 → t = 0) ∧ (2 ≤ n → ∃ c, 1 ≤ c ∧ c < n ∧ t = nI c) ∧ ∀ x : Option Value × List mmC, Ev mmPT tbX12_isTold 176 [some (.ref 136), some (.ref 1), some (.ref 0), some (.int (nI n)), some (.int (nI k)), some (.int y), some (.int (nI e)), some (.int t), none] [] (mh sc rest to fl ma tr mk cn nu de ru la tb tf ph cs) x → Ev mmPT tbX12_isTold 152 [some (.ref 136), some (.ref 1), some (.ref 0), some (.int (nI n)), some (.int (nI k)), some (.int y), some (.int (nI e)), none, none] [] (mh sc rest to fl ma tr mk cn nu de ru la tb tf ph cs) x := by
  by_cases a : n = 1
  · refine ⟨0, fun _ => rfl, fun z => by omega, fun x K => ?_⟩
    refine Ev.s (ins := .iload_n 3) (pc' := 153) rfl rfl ?_
    refine q_ic 1 rfl rfl ?_
    refine Ev.if2 rfl rfl (fun e => absurd ((ic_nne (b := 1) a rfl).symm.trans e) (by decide)) (fun _ => ?_)
    refine q_ic 0 rfl rfl ?_
    refine Ev.goto rfl ?_
    refine Ev.s (ins := .istore 7) (pc' := 176) (lv' := [some (.ref 136), some (.ref 1), some (.ref 0), some (.int (nI n)), some (.int (nI k)), some (.int y), some (.int (nI e)), some (.int 0), none]) rfl rfl ?_
    exact K
  · obtain ⟨e1, he1, ee1⟩ := bel_m (y >>> ((6 : Int32) &&& 31)) (m := n - 1) (by omega) (by omega)
    refine ⟨nI (1 + e1), fun z => absurd z a, fun _ => ⟨1 + e1, by omega, by omega, rfl⟩, fun x K => ?_⟩
    refine Ev.s (ins := .iload_n 3) (pc' := 153) rfl rfl ?_
    refine q_ic 1 rfl rfl ?_
    refine Ev.if2 rfl rfl (fun _ => ?_) (fun e => absurd ((ic_ne (b := 1) (by omega) (by decide) a rfl).symm.trans e) (by decide))
    refine q_ic 1 rfl rfl ?_
    refine Ev.s (ins := .iload 5) (pc' := 164) rfl rfl ?_
    refine q_bi 6 rfl rfl ?_
    refine Ev.s (ins := .ishr) (pc' := 167) rfl rfl ?_
    refine Ev.s (ins := .iload_n 3) (pc' := 168) rfl rfl ?_
    refine q_ic 1 rfl rfl ?_
    refine Ev.s (ins := .isub) (pc' := 170) rfl rfl ?_
    rw [show nI n - 1 = nI (n - 1) from pk_sub (b := 1) h1]
    refine kc_L_below_3 rfl (Nat.le_of_ble_eq_true rfl) (e_Law_below ee1) ?_
    refine Ev.s (ins := .iadd) (pc' := 174) rfl rfl ?_
    rw [show (1 : Int32) + nI e1 = nI (1 + e1) from nI_add 1 e1]
    refine Ev.s (ins := .istore 7) (pc' := 176) (lv' := [some (.ref 136), some (.ref 1), some (.ref 0), some (.int (nI n)), some (.int (nI k)), some (.int y), some (.int (nI e)), some (.int (nI (1 + e1))), none]) rfl rfl ?_
    exact K
theorem told_way2 (h1 : 1 ≤ n) (h8 : n ≤ 8) {k e : Nat} (y u : Int32) : ∃ t : Int32, (n = 1 → t = 0) ∧ (2 ≤ n → ∃ c, 1 ≤ c ∧ c < n ∧ t = nI c) ∧ ∀ x : Option Value × List mmC, Ev mmPT tbX12_isTold 200 [some (.ref 136), some (.ref 1), some (.ref 0), some (.int (nI n)), some (.int (nI k)), some (.int y), some (.int (nI e)), some (.int u), some (.int t)] [] (mh sc rest to fl ma tr mk cn nu de ru la tb tf ph cs) x → Ev mmPT tbX12_isTold 176 [some (.ref 136), some (.ref 1), some (.ref 0), some (.int (nI n)), some (.int (nI k)), some (.int y), some (.int (nI e)), some (.int u), none] [] (mh sc rest to fl ma tr mk cn nu de ru la tb tf ph cs) x := by
  by_cases a : n = 1
  · refine ⟨0, fun _ => rfl, fun z => by omega, fun x K => ?_⟩
    refine Ev.s (ins := .iload_n 3) (pc' := 177) rfl rfl ?_
    refine q_ic 1 rfl rfl ?_
    refine Ev.if2 rfl rfl (fun e => absurd ((ic_nne (b := 1) a rfl).symm.trans e) (by decide)) (fun _ => ?_)
    refine q_ic 0 rfl rfl ?_
    refine Ev.goto rfl ?_
    refine Ev.s (ins := .istore 8) (pc' := 200) (lv' := [some (.ref 136), some (.ref 1), some (.ref 0), some (.int (nI n)), some (.int (nI k)), some (.int y), some (.int (nI e)), some (.int u), some (.int 0)]) rfl rfl ?_
    exact K
  · obtain ⟨e1, he1, ee1⟩ := bel_m (y >>> ((8 : Int32) &&& 31)) (m := n - 1) (by omega) (by omega)
    refine ⟨nI (1 + e1), fun z => absurd z a, fun _ => ⟨1 + e1, by omega, by omega, rfl⟩, fun x K => ?_⟩
    refine Ev.s (ins := .iload_n 3) (pc' := 177) rfl rfl ?_
    refine q_ic 1 rfl rfl ?_
    refine Ev.if2 rfl rfl (fun _ => ?_) (fun e => absurd ((ic_ne (b := 1) (by omega) (by decide) a rfl).symm.trans e) (by decide))
    refine q_ic 1 rfl rfl ?_
    refine Ev.s (ins := .iload 5) (pc' := 188) rfl rfl ?_
    refine q_bi 8 rfl rfl ?_
    refine Ev.s (ins := .ishr) (pc' := 191) rfl rfl ?_
    refine Ev.s (ins := .iload_n 3) (pc' := 192) rfl rfl ?_
    refine q_ic 1 rfl rfl ?_
    refine Ev.s (ins := .isub) (pc' := 194) rfl rfl ?_
    rw [show nI n - 1 = nI (n - 1) from pk_sub (b := 1) h1]
    refine kc_L_below_3 rfl (Nat.le_of_ble_eq_true rfl) (e_Law_below ee1) ?_
    refine Ev.s (ins := .iadd) (pc' := 198) rfl rfl ?_
    rw [show (1 : Int32) + nI e1 = nI (1 + e1) from nI_add 1 e1]
    refine Ev.s (ins := .istore 8) (pc' := 200) (lv' := [some (.ref 136), some (.ref 1), some (.ref 0), some (.int (nI n)), some (.int (nI k)), some (.int y), some (.int (nI e)), some (.int u), some (.int (nI (1 + e1)))]) rfl rfl ?_
    exact K
theorem told_end (hO : OI rest to) {Q : Nat} (hB : OB rest Q) (hTI : TI to fl n) {k e : Nat} (hk : k < n) (he : e ≤ 2) (he1 : n = 1 → e = 0) (y t u : Int32) (ht : 2 ≤ n → ∃ c, 1 ≤ c ∧ c < n ∧ t = nI c) (hu : 2 ≤ n → ∃ c, 1 ≤ c ∧ c < n ∧ u = nI c) (hK : ∀ (rest : List mmC) (to fl : Ob), OI rest to → TI to fl n → OB rest (Q + 1) → ∃ rest' to' fl', Ev mmPT tbX12_isTold 39 [some (.ref 136), some (.ref 1), some (.ref 0), some (.int (nI n)), some (.int (nI (k + 1))), none, none, none, none] [] (mh sc rest to fl ma tr mk cn nu de ru la tb tf ph cs) (some (.int 1), mh sc rest' to' fl' ma tr mk cn nu de ru la tb tf ph cs) ∧ OI rest' to' ∧ TI to' fl' n ∧ OB rest' (5 * n)) : ∃ rest' to' fl', Ev mmPT tbX12_isTold 200 [some (.ref 136), some (.ref 1), some (.ref 0), some (.int (nI n)), some (.int (nI k)), some (.int y), some (.int (nI e)), some (.int t), some (.int u)] [] (mh sc rest to fl ma tr mk cn nu de ru la tb tf ph cs) (some (.int 1), mh sc rest' to' fl' ma tr mk cn nu de ru la tb tf ph cs) ∧ OI rest' to' ∧ TI to' fl' n ∧ OB rest' (5 * n) := by
  obtain ⟨⟨bl, h0⟩, -⟩ := id hO
  obtain ⟨p, hp, ep⟩ := own_operand (y >>> ((5 : Int32) &&& 31))
  have he3 : e = 0 ∨ e = 1 ∨ e = 2 := by omega
  rcases he3 with rfl | rfl | rfl
  · obtain ⟨rest1, to1, fl1, K, g1, g2, g3⟩ := own_end (sc := sc) (ma := ma) (tr := tr) (mk := mk) (cn := cn) (nu := nu) (de := de) (ru := ru) (la := la) (tb := tb) (tf := tf) (ph := ph) (cs := cs) (e := 0) (p := p) (t := 0) (o := 0) hO hB hTI hk (by decide) hp (fun z => absurd z (by decide)) (fun _ => rfl) (fun _ => rfl) (fun z => absurd z (by decide)) (fun z => absurd z (by decide))
    obtain ⟨rest', to', fl', K2, f1, f2, f3⟩ := hK rest1 to1 fl1 g1 g2 g3
    refine ⟨rest', to', fl', ?_, f1, f2, f3⟩
    refine Ev.s (ins := .aload_n 0) (pc' := 201) rfl rfl ?_
    refine Ev.s (ins := .aload_n 1) (pc' := 202) rfl rfl ?_
    refine Ev.s (ins := .iload 4) (pc' := 204) rfl rfl ?_
    refine Ev.s (ins := .iload 6) (pc' := 206) rfl rfl ?_
    refine Ev.s (ins := .iload 6) (pc' := 208) rfl rfl ?_
    refine q_ic 1 rfl rfl ?_
    refine Ev.if2 rfl rfl (fun _ => ?_) (fun e => absurd e (by decide))
    refine Ev.s (ins := .iload 5) (pc' := 218) rfl rfl ?_
    refine q_ic 5 rfl rfl ?_
    refine Ev.s (ins := .ishr) (pc' := 220) rfl rfl ?_
    refine kc_X12_operand_2 rfl (Nat.le_of_ble_eq_true rfl) (ep _ _ _ _ _ _ _ _ _ _ _ _ _ _ _ _) ?_
    refine Ev.s (ins := .iload 6) (pc' := 225) rfl rfl ?_
    refine Ev.if1 rfl rfl (fun e => absurd e (by decide)) (fun _ => ?_)
    refine q_ic 0 rfl rfl ?_
    refine Ev.goto rfl ?_
    refine Ev.s (ins := .iload 6) (pc' := 236) rfl rfl ?_
    refine q_ic 2 rfl rfl ?_
    refine Ev.if2 rfl rfl (fun _ => ?_) (fun e => absurd e (by decide))
    refine q_ic 0 rfl rfl ?_
    refine kc_X12_isEnd_0 rfl ((rg 0).trans h0) rfl (Nat.le_of_ble_eq_true rfl) K ?_
    refine Ev.if1 rfl rfl (fun _ => ?_) (fun e => absurd e (by decide))
    refine q_inc 1 [some (.ref 136), some (.ref 1), some (.ref 0), some (.int (nI n)), some (.int (nI k + 1)), some (.int y), some (.int (nI 0)), some (.int t), some (.int u)] rfl rfl rfl rfl ?_
    rw [nI_1]
    refine Ev.goto rfl ?_
    refine Ev.weak [some (.ref 136), some (.ref 1), some (.ref 0), some (.int (nI n)), some (.int (nI (k + 1))), none, none, none, none] ⟨rfl, rfl, rfl, rfl, rfl, rfl, rfl, rfl, rfl, trivial⟩ ?_
    exact K2
  · obtain ⟨rest1, to1, fl1, K, g1, g2, g3⟩ := own_end (sc := sc) (ma := ma) (tr := tr) (mk := mk) (cn := cn) (nu := nu) (de := de) (ru := ru) (la := la) (tb := tb) (tf := tf) (ph := ph) (cs := cs) (e := 1) (p := 0) (t := t) (o := 0) hO hB hTI hk (by decide) opR_0 (fun _ => rfl) (fun z => absurd z (by decide)) (fun _ => rfl) (fun _ => ht (by have := hTI.1.1.2.1; omega)) (fun z => absurd z (by decide))
    obtain ⟨rest', to', fl', K2, f1, f2, f3⟩ := hK rest1 to1 fl1 g1 g2 g3
    refine ⟨rest', to', fl', ?_, f1, f2, f3⟩
    refine Ev.s (ins := .aload_n 0) (pc' := 201) rfl rfl ?_
    refine Ev.s (ins := .aload_n 1) (pc' := 202) rfl rfl ?_
    refine Ev.s (ins := .iload 4) (pc' := 204) rfl rfl ?_
    refine Ev.s (ins := .iload 6) (pc' := 206) rfl rfl ?_
    refine Ev.s (ins := .iload 6) (pc' := 208) rfl rfl ?_
    refine q_ic 1 rfl rfl ?_
    refine Ev.if2 rfl rfl (fun e => absurd e (by decide)) (fun _ => ?_)
    refine q_ic 0 rfl rfl ?_
    refine Ev.goto rfl ?_
    refine Ev.s (ins := .iload 6) (pc' := 225) rfl rfl ?_
    refine Ev.if1 rfl rfl (fun _ => ?_) (fun e => absurd e (by decide))
    refine Ev.s (ins := .iload 7) (pc' := 234) rfl rfl ?_
    refine Ev.s (ins := .iload 6) (pc' := 236) rfl rfl ?_
    refine q_ic 2 rfl rfl ?_
    refine Ev.if2 rfl rfl (fun _ => ?_) (fun e => absurd e (by decide))
    refine q_ic 0 rfl rfl ?_
    refine kc_X12_isEnd_0 rfl ((rg 0).trans h0) rfl (Nat.le_of_ble_eq_true rfl) K ?_
    refine Ev.if1 rfl rfl (fun _ => ?_) (fun e => absurd e (by decide))
    refine q_inc 1 [some (.ref 136), some (.ref 1), some (.ref 0), some (.int (nI n)), some (.int (nI k + 1)), some (.int y), some (.int (nI 1)), some (.int t), some (.int u)] rfl rfl rfl rfl ?_
    rw [nI_1]
    refine Ev.goto rfl ?_
    refine Ev.weak [some (.ref 136), some (.ref 1), some (.ref 0), some (.int (nI n)), some (.int (nI (k + 1))), none, none, none, none] ⟨rfl, rfl, rfl, rfl, rfl, rfl, rfl, rfl, rfl, trivial⟩ ?_
    exact K2
  · obtain ⟨rest1, to1, fl1, K, g1, g2, g3⟩ := own_end (sc := sc) (ma := ma) (tr := tr) (mk := mk) (cn := cn) (nu := nu) (de := de) (ru := ru) (la := la) (tb := tb) (tf := tf) (ph := ph) (cs := cs) (e := 2) (p := p) (t := t) (o := u) hO hB hTI hk (by decide) hp (fun z => absurd z (by decide)) (fun z => absurd z (by decide)) (fun z => absurd z (by decide)) (fun _ => ht (by have := hTI.1.1.2.1; omega)) (fun _ => hu (by have := hTI.1.1.2.1; omega))
    obtain ⟨rest', to', fl', K2, f1, f2, f3⟩ := hK rest1 to1 fl1 g1 g2 g3
    refine ⟨rest', to', fl', ?_, f1, f2, f3⟩
    refine Ev.s (ins := .aload_n 0) (pc' := 201) rfl rfl ?_
    refine Ev.s (ins := .aload_n 1) (pc' := 202) rfl rfl ?_
    refine Ev.s (ins := .iload 4) (pc' := 204) rfl rfl ?_
    refine Ev.s (ins := .iload 6) (pc' := 206) rfl rfl ?_
    refine Ev.s (ins := .iload 6) (pc' := 208) rfl rfl ?_
    refine q_ic 1 rfl rfl ?_
    refine Ev.if2 rfl rfl (fun _ => ?_) (fun e => absurd e (by decide))
    refine Ev.s (ins := .iload 5) (pc' := 218) rfl rfl ?_
    refine q_ic 5 rfl rfl ?_
    refine Ev.s (ins := .ishr) (pc' := 220) rfl rfl ?_
    refine kc_X12_operand_2 rfl (Nat.le_of_ble_eq_true rfl) (ep _ _ _ _ _ _ _ _ _ _ _ _ _ _ _ _) ?_
    refine Ev.s (ins := .iload 6) (pc' := 225) rfl rfl ?_
    refine Ev.if1 rfl rfl (fun _ => ?_) (fun e => absurd e (by decide))
    refine Ev.s (ins := .iload 7) (pc' := 234) rfl rfl ?_
    refine Ev.s (ins := .iload 6) (pc' := 236) rfl rfl ?_
    refine q_ic 2 rfl rfl ?_
    refine Ev.if2 rfl rfl (fun e => absurd e (by decide)) (fun _ => ?_)
    refine Ev.s (ins := .iload 8) (pc' := 242) rfl rfl ?_
    refine Ev.goto rfl ?_
    refine kc_X12_isEnd_0 rfl ((rg 0).trans h0) rfl (Nat.le_of_ble_eq_true rfl) K ?_
    refine Ev.if1 rfl rfl (fun _ => ?_) (fun e => absurd e (by decide))
    refine q_inc 1 [some (.ref 136), some (.ref 1), some (.ref 0), some (.int (nI n)), some (.int (nI k + 1)), some (.int y), some (.int (nI 2)), some (.int t), some (.int u)] rfl rfl rfl rfl ?_
    rw [nI_1]
    refine Ev.goto rfl ?_
    refine Ev.weak [some (.ref 136), some (.ref 1), some (.ref 0), some (.int (nI n)), some (.int (nI (k + 1))), none, none, none, none] ⟨rfl, rfl, rfl, rfl, rfl, rfl, rfl, rfl, rfl, trivial⟩ ?_
    exact K2
theorem told_lines (hs : scOk sc) {k : Nat} (hk : k < n) (y : Int32) {w : Nat} (hw : w < 5) (ew : Law_below y 5 = some (nI w)) {Q : Nat} (hK : ∀ (rest : List mmC) (to fl : Ob), OI rest to → TI to fl n → OB rest (Q + w) → ∃ rest' to' fl', Ev mmPT tbX12_isTold 110 [some (.ref 136), some (.ref 1), some (.ref 0), some (.int (nI n)), some (.int (nI k)), some (.int y), some (.int (nI w)), none, none] [] (mh sc rest to fl ma tr mk cn nu de ru la tb tf ph cs) (some (.int 1), mh sc rest' to' fl' ma tr mk cn nu de ru la tb tf ph cs) ∧ OI rest' to' ∧ TI to' fl' n ∧ OB rest' (5 * n)) : ∀ (d l : Nat), l + d = w → ∀ (rest : List mmC) (to fl : Ob), OI rest to → TI to fl n → OB rest (Q + l) → ∃ rest' to' fl', Ev mmPT tbX12_isTold 56 [some (.ref 136), some (.ref 1), some (.ref 0), some (.int (nI n)), some (.int (nI k)), some (.int y), some (.int (nI l)), none, none] [] (mh sc rest to fl ma tr mk cn nu de ru la tb tf ph cs) (some (.int 1), mh sc rest' to' fl' ma tr mk cn nu de ru la tb tf ph cs) ∧ OI rest' to' ∧ TI to' fl' n ∧ OB rest' (5 * n) := by
  intro d
  induction d with
  | zero =>
    intro l hl rest to fl hO hTI hB
    have : l = w := by omega
    subst this
    obtain ⟨rest', to', fl', K2, f1, f2, f3⟩ := hK rest to fl hO hTI hB
    refine ⟨rest', to', fl', ?_, f1, f2, f3⟩
    refine Ev.s (ins := .iload 6) (pc' := 58) rfl rfl ?_
    refine Ev.s (ins := .iload 5) (pc' := 60) rfl rfl ?_
    refine q_ic 5 rfl rfl ?_
    refine kc_L_below_3 rfl (Nat.le_of_ble_eq_true rfl) (e_Law_below ew) ?_
    refine Ev.if2 rfl rfl (fun _ => ?_) (fun e => absurd ((ic_ge (by omega) (Nat.le_refl _)).symm.trans e) (by decide))
    exact K2
  | succ d ih =>
    intro l hl rest to fl hO hTI hB
    obtain ⟨⟨bl, h0⟩, -⟩ := id hO
    have hn8 := hTI.2.2.1.2.1
    obtain ⟨z, hz⟩ := cell_S hs (show 8 + (k * 4 + l) % 20 < 2 ^ 31 by omega)
    have ei : (8 : Int32) + (nI (k * 4 + l) - nI (k * 4 + l) / 20 * 20) = nI (8 + (k * 4 + l) % 20) := by
      have hdm := Nat.div_add_mod (k * 4 + l) 20
      rw [show nI (k * 4 + l) / 20 = nI ((k * 4 + l) / 20) from pk_div (d := 20) (by omega) (by decide) (by decide), show nI ((k * 4 + l) / 20) * 20 = nI ((k * 4 + l) / 20 * 20) from nI_mul _ 20, pk_sub (by omega), show (8 : Int32) + nI (k * 4 + l - (k * 4 + l) / 20 * 20) = nI (8 + (k * 4 + l - (k * 4 + l) / 20 * 20)) from nI_add 8 _]
      exact congrArg nI (by omega)
    obtain ⟨rest1, to1, fl1, K, g1, g2, g3⟩ := own_drawn (sc := sc) (ma := ma) (tr := tr) (mk := mk) (cn := cn) (nu := nu) (de := de) (ru := ru) (la := la) (tb := tb) (tf := tf) (ph := ph) (cs := cs) hO hB hTI hk (z >>> ((nI (k + l) - nI (k + l) / 5 * 5) &&& 31))
    obtain ⟨rest', to', fl', K2, f1, f2, f3⟩ := ih (l + 1) (by omega) rest1 to1 fl1 g1 g2 g3
    refine ⟨rest', to', fl', ?_, f1, f2, f3⟩
    refine Ev.s (ins := .iload 6) (pc' := 58) rfl rfl ?_
    refine Ev.s (ins := .iload 5) (pc' := 60) rfl rfl ?_
    refine q_ic 5 rfl rfl ?_
    refine kc_L_below_3 rfl (Nat.le_of_ble_eq_true rfl) (e_Law_below ew) ?_
    refine Ev.if2 rfl rfl (fun e => absurd ((ic_nge (by omega) (by omega)).symm.trans e) (by decide)) (fun _ => ?_)
    refine Ev.s (ins := .aload_n 0) (pc' := 68) rfl rfl ?_
    refine Ev.s (ins := .aload_n 1) (pc' := 69) rfl rfl ?_
    refine Ev.s (ins := .iload 4) (pc' := 71) rfl rfl ?_
    refine Ev.s (ins := .aload_n 2) (pc' := 72) rfl rfl ?_
    refine q_bi 8 rfl rfl ?_
    refine Ev.s (ins := .iload 4) (pc' := 76) rfl rfl ?_
    refine q_ic 4 rfl rfl ?_
    refine Ev.s (ins := .imul) (pc' := 78) rfl rfl ?_
    refine Ev.s (ins := .iload 6) (pc' := 80) rfl rfl ?_
    refine Ev.s (ins := .iadd) (pc' := 81) rfl rfl ?_
    rw [show nI k * 4 = nI (k * 4) from nI_mul k 4, nI_add]
    refine q_bi 20 rfl rfl ?_
    refine q_rem rfl (by decide) ?_
    refine Ev.s (ins := .iadd) (pc' := 85) rfl rfl ?_
    rw [ei]
    refine kc_L_cell_3 rfl (Nat.le_of_ble_eq_true rfl) (e_Law_cellv hz) ?_
    refine Ev.s (ins := .iload 4) (pc' := 90) rfl rfl ?_
    refine Ev.s (ins := .iload 6) (pc' := 92) rfl rfl ?_
    refine Ev.s (ins := .iadd) (pc' := 93) rfl rfl ?_
    rw [nI_add]
    refine q_ic 5 rfl rfl ?_
    refine q_rem rfl (by decide) ?_
    refine Ev.s (ins := .ishr) (pc' := 96) rfl rfl ?_
    refine kc_X12_isDrawn_0 rfl ((rg 0).trans h0) rfl (Nat.le_of_ble_eq_true rfl) K ?_
    refine Ev.if1 rfl rfl (fun _ => ?_) (fun e => absurd e (by decide))
    refine q_inc 1 [some (.ref 136), some (.ref 1), some (.ref 0), some (.int (nI n)), some (.int (nI k)), some (.int y), some (.int (nI l + 1)), none, none] rfl rfl rfl rfl ?_
    rw [nI_1]
    refine Ev.goto rfl ?_
    exact K2
theorem told_all (hs : scOk sc) (h1 : 1 ≤ n) (h8 : n ≤ 8) : ∀ (d k : Nat), k + d = n → ∀ (rest : List mmC) (to fl : Ob), OI rest to → TI to fl n → OB rest (5 * k) → ∃ rest' to' fl', Ev mmPT tbX12_isTold 39 [some (.ref 136), some (.ref 1), some (.ref 0), some (.int (nI n)), some (.int (nI k)), none, none, none, none] [] (mh sc rest to fl ma tr mk cn nu de ru la tb tf ph cs) (some (.int 1), mh sc rest' to' fl' ma tr mk cn nu de ru la tb tf ph cs) ∧ OI rest' to' ∧ TI to' fl' n ∧ OB rest' (5 * n) := by
  intro d
  induction d with
  | zero =>
    intro k hk rest to fl hO hTI hB
    have : k = n := by omega
    subst this
    refine ⟨rest, to, fl, ?_, hO, hTI, hB⟩
    refine Ev.s (ins := .iload 4) (pc' := 41) rfl rfl ?_
    refine Ev.s (ins := .iload_n 3) (pc' := 42) rfl rfl ?_
    refine Ev.if2 rfl rfl (fun _ => ?_) (fun e => absurd ((ic_ge (by omega) (Nat.le_refl _)).symm.trans e) (by decide))
    refine q_ic 1 rfl rfl ?_
    exact Ev.zret rfl rfl (Or.inr rfl) rfl
  | succ d ih =>
    intro k hk rest to fl hO hTI hB
    obtain ⟨y, hy⟩ := cell_S hs (show k < 2 ^ 31 by omega)
    obtain ⟨w, hw, ew⟩ := bel_l y (m := 5) (y := 5) rfl (by decide) (by decide)
    have hK : ∀ (rest : List mmC) (to fl : Ob), OI rest to → TI to fl n → OB rest (5 * k + w) → ∃ rest' to' fl', Ev mmPT tbX12_isTold 110 [some (.ref 136), some (.ref 1), some (.ref 0), some (.int (nI n)), some (.int (nI k)), some (.int y), some (.int (nI w)), none, none] [] (mh sc rest to fl ma tr mk cn nu de ru la tb tf ph cs) (some (.int 1), mh sc rest' to' fl' ma tr mk cn nu de ru la tb tf ph cs) ∧ OI rest' to' ∧ TI to' fl' n ∧ OB rest' (5 * n) := fun rest to fl hO hTI hB => by
      obtain ⟨e, he, he1, KA⟩ := told_kind (sc := sc) (rest := rest) (to := to) (fl := fl) (ma := ma) (tr := tr) (mk := mk) (cn := cn) (nu := nu) (de := de) (ru := ru) (la := la) (tb := tb) (tf := tf) (ph := ph) (cs := cs) h1 h8 (show k < n by omega) y (nI w)
      obtain ⟨t, ht0, ht, KB⟩ := told_way1 (sc := sc) (rest := rest) (to := to) (fl := fl) (ma := ma) (tr := tr) (mk := mk) (cn := cn) (nu := nu) (de := de) (ru := ru) (la := la) (tb := tb) (tf := tf) (ph := ph) (cs := cs) h1 h8 (k := k) (e := e) y
      obtain ⟨u, hu0, hu, KC⟩ := told_way2 (sc := sc) (rest := rest) (to := to) (fl := fl) (ma := ma) (tr := tr) (mk := mk) (cn := cn) (nu := nu) (de := de) (ru := ru) (la := la) (tb := tb) (tf := tf) (ph := ph) (cs := cs) h1 h8 (k := k) (e := e) y t
      obtain ⟨rest', to', fl', KD, f1, f2, f3⟩ := told_end (sc := sc) (ma := ma) (tr := tr) (mk := mk) (cn := cn) (nu := nu) (de := de) (ru := ru) (la := la) (tb := tb) (tf := tf) (ph := ph) (cs := cs) hO hB hTI (show k < n by omega) he he1 y t u ht hu (fun rest to fl g1 g2 g3 => ih (k + 1) (by omega) rest to fl g1 g2 (by unfold OB at g3 ⊢; omega))
      exact ⟨rest', to', fl', KA _ (KB _ (KC _ KD)), f1, f2, f3⟩
    obtain ⟨rest', to', fl', K2, f1, f2, f3⟩ := told_lines (sc := sc) (ma := ma) (tr := tr) (mk := mk) (cn := cn) (nu := nu) (de := de) (ru := ru) (la := la) (tb := tb) (tf := tf) (ph := ph) (cs := cs) (n := n) hs (show k < n by omega) y hw ew (Q := 5 * k) hK w 0 (by omega) rest to fl hO hTI hB
    refine ⟨rest', to', fl', ?_, f1, f2, f3⟩
    refine Ev.s (ins := .iload 4) (pc' := 41) rfl rfl ?_
    refine Ev.s (ins := .iload_n 3) (pc' := 42) rfl rfl ?_
    refine Ev.if2 rfl rfl (fun e => absurd ((ic_nge (by omega) (by omega)).symm.trans e) (by decide)) (fun _ => ?_)
    refine Ev.s (ins := .aload_n 2) (pc' := 46) rfl rfl ?_
    refine Ev.s (ins := .iload 4) (pc' := 48) rfl rfl ?_
    refine kc_L_cell_3 rfl (Nat.le_of_ble_eq_true rfl) (e_Law_cellv hy) ?_
    refine Ev.s (ins := .istore 5) (pc' := 53) (lv' := [some (.ref 136), some (.ref 1), some (.ref 0), some (.int (nI n)), some (.int (nI k)), some (.int y), none, none, none]) rfl rfl ?_
    refine q_ic 0 rfl rfl ?_
    refine Ev.s (ins := .istore 6) (pc' := 56) (lv' := [some (.ref 136), some (.ref 1), some (.ref 0), some (.int (nI n)), some (.int (nI k)), some (.int y), some (.int (nI 0)), none, none]) rfl rfl ?_
    exact K2
theorem OI.setB {rest : List mmC} {to to' : Ob} (h : OI rest to) (h0 : to'.1 0 = to.1 0) (h5 : to'.1 5 = to.1 5) (bl : Int32) : OI (rest.set 0 (12, [.ref 137, .ref 148, .ref 149, .int bl])) to' := by
  obtain ⟨⟨b0, k0⟩, h1, h2, h12, E, e1, e2, e3⟩ := h
  refine ⟨⟨bl, get_self k0⟩, get_set h1 (by omega), fun c hc => ?_, by rw [h0]; exact get_set h12 (by omega), E, e1, get_set e2 (by omega), fun c hc => ?_⟩
  · obtain ⟨M, m1, m2⟩ := h2 c hc
    exact ⟨M, m1, get_set m2 (by omega)⟩
  · obtain ⟨x, t', x1, x2, x3⟩ := e3 c hc
    rw [h5]
    exact ⟨x, t', x1, x2, get_set x3 (by omega)⟩
theorem told_blocks (h1 : 1 ≤ n) (h8 : n ≤ 8) {Q : Nat} (hK : ∀ (rest : List mmC) (to fl : Ob), OI rest to → TI to fl n → OB rest Q → ∃ rest' to' fl', Ev mmPT tbX12_isTold 36 [some (.ref 136), some (.ref 1), some (.ref 0), some (.int (nI n)), some (.int (nI n)), none, none, none, none] [] (mh sc rest to fl ma tr mk cn nu de ru la tb tf ph cs) (some (.int 1), mh sc rest' to' fl' ma tr mk cn nu de ru la tb tf ph cs) ∧ OI rest' to' ∧ TI to' fl' n ∧ OB rest' (5 * n)) : ∀ (d k : Nat), k + d = n → 1 ≤ k → ∀ (rest : List mmC) (to fl : Ob), OI rest to → TI to fl k → OB rest Q → ∃ rest' to' fl', Ev mmPT tbX12_isTold 3 [some (.ref 136), some (.ref 1), some (.ref 0), some (.int (nI n)), some (.int (nI k)), none, none, none, none] [] (mh sc rest to fl ma tr mk cn nu de ru la tb tf ph cs) (some (.int 1), mh sc rest' to' fl' ma tr mk cn nu de ru la tb tf ph cs) ∧ OI rest' to' ∧ TI to' fl' n ∧ OB rest' (5 * n) := by
  intro d
  induction d with
  | zero =>
    intro k hk hk1 rest to fl hO hTI hB
    have : k = n := by omega
    subst this
    obtain ⟨rest', to', fl', K2, f1, f2, f3⟩ := hK rest to fl hO hTI hB
    refine ⟨rest', to', fl', ?_, f1, f2, f3⟩
    refine Ev.s (ins := .iload 4) (pc' := 5) rfl rfl ?_
    refine Ev.s (ins := .iload_n 3) (pc' := 6) rfl rfl ?_
    refine Ev.if2 rfl rfl (fun _ => ?_) (fun e => absurd ((ic_ge (by omega) (Nat.le_refl _)).symm.trans e) (by decide))
    exact K2
  | succ d ih =>
    intro k hk hk1 rest to fl hO hTI hB
    obtain ⟨to1, fl1, er, hTI1, hr1⟩ := block_TI hTI (show k < 10 by omega)
    obtain ⟨⟨bl, h0⟩, -⟩ := id hO
    have hO1 := hO.setB (hr1 0 (by decide) (by decide) (by decide)) (hr1 5 (by decide) (by decide) (by decide)) (bl + 1)
    obtain ⟨rest', to', fl', K2, f1, f2, f3⟩ := ih (k + 1) (by omega) (by omega) _ to1 fl1 hO1 hTI1 (by unfold OB at hB ⊢; rw [List.length_set, mmSl_set (c' := (12, [.ref 137, .ref 148, .ref 149, .int (bl + 1)])) h0 rfl]; exact hB)
    refine ⟨rest', to', fl', ?_, f1, f2, f3⟩
    refine Ev.s (ins := .iload 4) (pc' := 5) rfl rfl ?_
    refine Ev.s (ins := .iload_n 3) (pc' := 6) rfl rfl ?_
    refine Ev.if2 rfl rfl (fun e => absurd ((ic_nge (by omega) (by omega)).symm.trans e) (by decide)) (fun _ => ?_)
    refine Ev.s (ins := .aload_n 0) (pc' := 10) rfl rfl ?_
    refine Ev.s (ins := .dup) (pc' := 11) rfl rfl ?_
    refine Ev.s (pc' := 14) rfl (mmS_get ((rg 0).trans h0) ⟨rfl, by decide⟩ rfl) ?_
    refine q_ic 1 rfl rfl ?_
    refine Ev.s (ins := .iadd) (pc' := 16) rfl rfl ?_
    refine Ev.s (pc' := 19) rfl (mmS_put ((rg 0).trans h0) ⟨rfl, by decide, (show (3 : Nat) < 4 by decide), rfl, by decide⟩) ?_
    rw [rgs0]
    refine Ev.s (ins := .aload_n 1) (pc' := 20) rfl rfl ?_
    refine kc_X11_block_0 rfl oi_1 rfl (Nat.le_of_ble_eq_true rfl) (e_Ph_block er) ?_
    refine Ev.s (ins := .iload 4) (pc' := 25) rfl rfl ?_
    refine Ev.if2 rfl rfl (fun _ => ?_) (fun e => absurd ((show mmIc .eq (nI k) (nI k) = true by unfold mmIc; exact decide_eq_true rfl).symm.trans e) (by decide))
    refine q_inc 1 [some (.ref 136), some (.ref 1), some (.ref 0), some (.int (nI n)), some (.int (nI k + 1)), none, none, none, none] rfl rfl rfl rfl ?_
    rw [nI_1]
    refine Ev.goto rfl ?_
    exact K2
theorem own_told (hs : scOk sc) (hO : OI rest to) (hB : OB rest 0) (hTI : TI to fl 1) (h1 : 1 ≤ n) (h8 : n ≤ 8) : ∃ rest' to' fl', Ev mmPT tbX12_isTold 0 [some (.ref 136), some (.ref 1), some (.ref 0), some (.int (nI n)), none, none, none, none, none] [] (mh sc rest to fl ma tr mk cn nu de ru la tb tf ph cs) (some (.int 1), mh sc rest' to' fl' ma tr mk cn nu de ru la tb tf ph cs) ∧ OI rest' to' ∧ TI to' fl' n ∧ OB rest' (5 * n) := by
  obtain ⟨rest', to', fl', K2, f1, f2, f3⟩ := told_blocks (sc := sc) (ma := ma) (tr := tr) (mk := mk) (cn := cn) (nu := nu) (de := de) (ru := ru) (la := la) (tb := tb) (tf := tf) (ph := ph) (cs := cs) (n := n) h1 h8 (Q := 0) (fun rest to fl g1 g2 g3 => by
    obtain ⟨rest', to', fl', K, e1, e2, e3⟩ := told_all (sc := sc) (ma := ma) (tr := tr) (mk := mk) (cn := cn) (nu := nu) (de := de) (ru := ru) (la := la) (tb := tb) (tf := tf) (ph := ph) (cs := cs) hs h1 h8 n 0 (by omega) rest to fl g1 g2 g3
    refine ⟨rest', to', fl', ?_, e1, e2, e3⟩
    refine q_ic 0 rfl rfl ?_
    refine Ev.s (ins := .istore 4) (pc' := 39) (lv' := [some (.ref 136), some (.ref 1), some (.ref 0), some (.int (nI n)), some (.int (nI 0)), none, none, none, none]) rfl rfl ?_
    exact K) (n - 1) 1 (by omega) (by omega) rest to fl hO hTI hB
  refine ⟨rest', to', fl', ?_, f1, f2, f3⟩
  refine q_ic 1 rfl rfl ?_
  refine Ev.s (ins := .istore 4) (pc' := 3) (lv' := [some (.ref 136), some (.ref 1), some (.ref 0), some (.int (nI n)), some (.int (nI 1)), none, none, none, none]) rfl rfl ?_
  exact K2
end OWNT
