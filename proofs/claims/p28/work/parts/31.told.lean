/-! WHAT IS TOLD: the rows of the blocks, and what is reckoned from them -/
theorem bit_any {y : Int32} {x : Nat} (hx : x < 20) : bt (Ph_bit y) x = true ↔ y = nI x := by
  by_cases h0 : y < 0
  · rw [bit_not (Or.inl h0), b_0]
    constructor
    · intro h; cases h
    · intro h
      subst h
      exact absurd h0 (nI_pos (by omega))
  · by_cases h1 : y < 20
    · obtain ⟨j, hj, rfl⟩ := nI_of h0
      have hj2 : j < 20 := by
        rcases Nat.lt_or_ge j 20 with h | h
        · exact h
        · exact absurd h1 (nI_nlt (a := j) (b := 20) h hj)
      rw [bit_nI hj2 (by omega), decide_eq_true_eq]
      constructor
      · intro h; rw [h]
      · intro h; exact (nI_inj (by omega) (by omega) h).symm
    · rw [bit_not (Or.inr h1), b_0]
      constructor
      · intro h; cases h
      · intro h
        subst h
        exact absurd (nI_lt (a := x) (b := 20) hx (by decide)) h1
theorem bit_hi (y : Int32) {x : Nat} (h : 20 ≤ x) (hx : x < 32) : bt (Ph_bit y) x = false := by
  by_cases h0 : y < 0
  · rw [bit_not (Or.inl h0), b_0]
  · by_cases h1 : y < 20
    · obtain ⟨j, hj, rfl⟩ := nI_of h0
      have hj2 : j < 20 := by
        rcases Nat.lt_or_ge j 20 with h | h
        · exact h
        · exact absurd h1 (nI_nlt (a := j) (b := 20) h hj)
      rw [bit_nI hj2 hx]
      exact decide_eq_false (by omega)
    · rw [bit_not (Or.inr h1), b_0]
def setsAt (to : Ob) (b k x : Nat) : Prop := Ph_sets (to.1 1 (b * 8 + k)) = true ∧ to.1 2 (b * 8 + k) = nI x
def readsAt (to : Ob) (b k x : Nat) : Prop := Ph_variableOf (to.1 3 (b * 8 + k)) = nI x ∨ Ph_variableOf (to.1 4 (b * 8 + k)) = nI x
def rlInv (to : Ob) (b k : Nat) (q : Int32 × Int32) : Prop := (∀ x, x < 20 → (bt q.2 x = true ↔ ∃ j, j < k ∧ setsAt to b j x)) ∧ ∀ x, x < 20 → (bt q.1 x = true ↔ ∃ j, j < k ∧ readsAt to b j x ∧ ∀ i, i < j → ¬ setsAt to b i x)
theorem rl_step {to : Ob} {b k : Nat} {q : Int32 × Int32} (hI : rlInv to b k q) : rlInv to b (k + 1) (q.1 ||| ((q.2 ^^^ (-1)) &&& ((Ph_bit (Ph_variableOf (to.1 3 (b * 8 + k)))) ||| (Ph_bit (Ph_variableOf (to.1 4 (b * 8 + k)))))), if Ph_sets (to.1 1 (b * 8 + k)) = true then q.2 ||| Ph_bit (to.1 2 (b * 8 + k)) else q.2) := by
  obtain ⟨h1, h2⟩ := hI
  refine ⟨fun x hx => ?_, fun x hx => ?_⟩
  · have e : bt (if Ph_sets (to.1 1 (b * 8 + k)) = true then q.2 ||| Ph_bit (to.1 2 (b * 8 + k)) else q.2) x = true ↔ bt q.2 x = true ∨ setsAt to b k x := by
      by_cases hs : Ph_sets (to.1 1 (b * 8 + k)) = true
      · rw [if_pos hs, b_or, Bool.or_eq_true, bit_any hx]
        exact ⟨fun h => h.elim Or.inl (fun h => Or.inr ⟨hs, h⟩), fun h => h.elim Or.inl (fun h => Or.inr h.2)⟩
      · rw [if_neg hs]
        exact ⟨Or.inl, fun h => h.elim id (fun h => absurd h.1 hs)⟩
    rw [e, h1 x hx]
    constructor
    · rintro (⟨j, hj, hs⟩ | hs)
      · exact ⟨j, by omega, hs⟩
      · exact ⟨k, by omega, hs⟩
    · rintro ⟨j, hj, hs⟩
      by_cases hjk : j = k
      · subst hjk; exact Or.inr hs
      · exact Or.inl ⟨j, by omega, hs⟩
  · show bt (q.1 ||| ((q.2 ^^^ (-1)) &&& ((Ph_bit (Ph_variableOf (to.1 3 (b * 8 + k)))) ||| (Ph_bit (Ph_variableOf (to.1 4 (b * 8 + k))))))) x = true ↔ _
    rw [b_or, b_and, b_or, bt_not (by omega), Bool.or_eq_true, Bool.and_eq_true, Bool.or_eq_true, bit_any hx, bit_any hx, h2 x hx, Bool.not_eq_true']
    have hset : bt q.2 x = false ↔ ∀ i, i < k → ¬ setsAt to b i x := by
      constructor
      · intro h i hi hs
        have := (h1 x hx).mpr ⟨i, hi, hs⟩
        rw [h] at this
        cases this
      · intro h
        cases hq : bt q.2 x with
        | false => rfl
        | true =>
          obtain ⟨i, hi, hs⟩ := (h1 x hx).mp hq
          exact absurd hs (h i hi)
    rw [hset]
    constructor
    · rintro (⟨j, hj, g1, g2⟩ | ⟨g1, g2⟩)
      · exact ⟨j, by omega, g1, g2⟩
      · exact ⟨k, by omega, g2, g1⟩
    · rintro ⟨j, hj, g1, g2⟩
      by_cases hjk : j = k
      · subst hjk; exact Or.inr ⟨g2, g1⟩
      · exact Or.inl ⟨j, by omega, g1, g2⟩
theorem readLines_eq {to : Ob} {b l : Nat} (hb : b < 10) (hl : to.1 0 b = nI l) (hl8 : l ≤ 8) : ∃ used set : Int32, Told_readLines to (nI b) = rs (rs to 8 b (used ||| ((set ^^^ (-1)) &&& (Ph_bit (Ph_variableOf (to.1 6 b)))))) 9 b set ∧ rlInv to b l (used, set) := by
  unfold Told_readLines Told_readLines_L7
  refine loop_cnt (B := fun a : Int32 × Int32 × Int32 => Told_readLines_L7b to (nI b) a.1 a.2.1 a.2.2) (mk := fun i (q : Int32 × Int32) => (q.1, q.2, nI i)) (n := l) (I := fun k q => rlInv to b k q)
    (P := fun g => ∃ used set : Int32, g = rs (rs to 8 b (used ||| ((set ^^^ (-1)) &&& (Ph_bit (Ph_variableOf (to.1 6 b)))))) 9 b set ∧ rlInv to b l (used, set)) (fun k q hk hI => ?_) (fun q hI => ?_) l 0 (0, 0) (by omega) ⟨fun x hx => ?_, fun x hx => ?_⟩
  · refine ⟨_, ?_, rl_step hI⟩
    show Told_readLines_L7b to (nI b) q.1 q.2 (nI k) = _
    unfold Told_readLines_L7b Told_readLines_97
    rw [oat_rs hb (by decide), hl, if_pos (show nI k < nI l from nI_lt hk (by omega)), ix8, oat_rs (by omega) (by decide), oat_rs (by omega) (by decide), oat_rs (by omega) (by decide), oat_rs (by omega) (by decide), nI_1]
    by_cases hs : Ph_sets (to.1 1 (b * 8 + k)) = true
    · rw [if_pos hs, if_pos hs]
    · rw [if_neg hs, if_neg hs]
  · refine ⟨_, ?_, q.1, q.2, rfl, hI⟩
    show Told_readLines_L7b to (nI b) q.1 q.2 (nI l) = _
    unfold Told_readLines_L7b
    rw [oat_rs hb (by decide), hl, if_neg (show ¬ nI l < nI l from nI_nlt (Nat.le_refl _) (by omega)), oat_rs hb (by decide), oput_rs hb (by decide), oput_rs hb (by decide)]
  · show bt 0 x = true ↔ _
    rw [b_0]
    exact ⟨(fun h => by cases h), fun ⟨j, hj, _⟩ => by omega⟩
  · show bt 0 x = true ↔ _
    rw [b_0]
    exact ⟨(fun h => by cases h), fun ⟨j, hj, _⟩ => by omega⟩
theorem rs_self (f : Ob) (i k : Nat) : rs f i k (f.1 i k) = f := by
  refine Prod.ext (funext fun j => funext fun m => ?_) rfl
  rw [rs_1]
  by_cases h : j = i ∧ m = k
  · rw [if_pos h, h.1, h.2]
  · rw [if_neg h]
theorem rs_rs (f : Ob) (i k : Nat) (y z : Int32) : rs (rs f i k y) i k z = rs f i k z := by
  refine Prod.ext (funext fun j => funext fun m => ?_) rfl
  rw [rs_1, rs_1, rs_1]
  by_cases h : j = i ∧ m = k
  · rw [if_pos h, if_pos h]
  · rw [if_neg h, if_neg h, if_neg h]
/-- the ways of a block -/
def waysOf (to : Ob) (b e c : Nat) : Prop := ∃ k, k < e ∧ to.1 7 (b * 2 + k) = nI c
theorem lead_eq {fl : Ob} {b : Nat} (t : Int32) (hb : b < 10) : Flow_lead fl (nI b) t = rs fl 0 b (fl.1 0 b ||| Ph_bit t) := by
  unfold Flow_lead
  rw [oat_rs hb (by decide), oput_rs hb (by decide)]
theorem leads_eq {to fl : Ob} {b e : Nat} (hb : b < 10) (he : to.1 5 b = nI e) (he2 : e ≤ 2) : ∃ w : Int32, Told_reckon_L19 to fl (nI b) 0 = .inl (nI (b + 1), Told_readLines to (nI b), rs fl 0 b w) ∧ (∀ c, c < 20 → (bt w c = true ↔ bt (fl.1 0 b) c = true ∨ waysOf to b e c)) ∧ ∀ c, 20 ≤ c → c < 32 → bt w c = bt (fl.1 0 b) c := by
  have h0 : Told_reckon_L19 to fl (nI b) 0 = loopW (fun a : Int32 × Ob => Told_reckon_L19b to a.2 (nI b) a.1) (nI 0, rs fl 0 b (fl.1 0 b)) := by
    rw [rs_self]
    rfl
  rw [h0]
  refine loop_cnt (B := fun a : Int32 × Ob => Told_reckon_L19b to a.2 (nI b) a.1) (mk := fun i (w : Int32) => (nI i, rs fl 0 b w)) (n := e) (I := fun k w => (∀ c, c < 20 → (bt w c = true ↔ bt (fl.1 0 b) c = true ∨ waysOf to b k c)) ∧ ∀ c, 20 ≤ c → c < 32 → bt w c = bt (fl.1 0 b) c)
    (P := fun r => ∃ w : Int32, r = .inl (nI (b + 1), Told_readLines to (nI b), rs fl 0 b w) ∧ (∀ c, c < 20 → (bt w c = true ↔ bt (fl.1 0 b) c = true ∨ waysOf to b e c)) ∧ ∀ c, 20 ≤ c → c < 32 → bt w c = bt (fl.1 0 b) c) (fun k w hk hI => ?_) (fun w hI => ?_) e 0 (fl.1 0 b) (by omega) ⟨fun c hc => ?_, fun _ _ _ => rfl⟩
  · refine ⟨w ||| Ph_bit (to.1 7 (b * 2 + k)), ?_, fun c hc => ?_, fun c hc hc2 => by rw [b_or, bit_hi _ hc hc2, Bool.or_false]; exact hI.2 c hc hc2⟩
    · show Told_reckon_L19b to (rs fl 0 b w) (nI b) (nI k) = _
      unfold Told_reckon_L19b
      rw [oat_rs hb (by decide), he, if_pos (show nI k < nI e from nI_lt hk (by omega)), ix2, oat_rs (by omega) (by decide), nI_1, lead_eq _ hb, rs_rs, rs_i, if_pos rfl]
    · rw [b_or, Bool.or_eq_true, bit_any hc, hI.1 c hc]
      constructor
      · rintro ((h | ⟨j, hj, h⟩) | h)
        · exact Or.inl h
        · exact Or.inr ⟨j, by omega, h⟩
        · exact Or.inr ⟨k, by omega, h⟩
      · rintro (h | ⟨j, hj, h⟩)
        · exact Or.inl (Or.inl h)
        · by_cases hjk : j = k
          · subst hjk; exact Or.inr h
          · exact Or.inl (Or.inr ⟨j, by omega, h⟩)
  · refine ⟨_, ?_, w, rfl, hI⟩
    show Told_reckon_L19b to (rs fl 0 b w) (nI b) (nI e) = _
    unfold Told_reckon_L19b
    rw [oat_rs hb (by decide), he, if_neg (show ¬ nI e < nI e from nI_nlt (Nat.le_refl _) (by omega)), nI_1]
  · constructor
    · intro h; exact Or.inl h
    · rintro (h | ⟨j, hj, -⟩)
      · exact h
      · omega
/-- what is told, with what is reckoned of it but what is wanted -/
def tRows (to : Ob) (nb : Nat) : Prop := to.2.1 0 = nI nb ∧ 1 ≤ nb ∧ nb ≤ 10 ∧ ∀ b, b < nb → (∃ l, l ≤ 8 ∧ to.1 0 b = nI l) ∧ (∃ e, e ≤ 2 ∧ to.1 5 b = nI e ∧ ∀ k, k < e → ∃ c, 1 ≤ c ∧ c < nb ∧ to.1 7 (b * 2 + k) = nI c)
def usedAt (to : Ob) (b l x : Nat) : Prop := (∃ j, j < l ∧ readsAt to b j x ∧ ∀ i, i < j → ¬ setsAt to b i x) ∨ Ph_variableOf (to.1 6 b) = nI x ∧ ∀ i, i < l → ¬ setsAt to b i x
def tSets (to : Ob) (b l : Nat) : Prop := (∀ x, x < 20 → (bt (to.1 9 b) x = true ↔ ∃ j, j < l ∧ setsAt to b j x)) ∧ ∀ x, x < 20 → (bt (to.1 8 b) x = true ↔ usedAt to b l x)
theorem setsAt_congr {f g : Ob} (h1 : f.1 1 = g.1 1) (h2 : f.1 2 = g.1 2) : setsAt f = setsAt g := by
  funext b k x
  unfold setsAt
  rw [h1, h2]
theorem readsAt_congr {f g : Ob} (h1 : f.1 3 = g.1 3) (h2 : f.1 4 = g.1 4) : readsAt f = readsAt g := by
  funext b k x
  unfold readsAt
  rw [h1, h2]
theorem usedAt_congr {f g : Ob} (h1 : f.1 1 = g.1 1) (h2 : f.1 2 = g.1 2) (h3 : f.1 3 = g.1 3) (h4 : f.1 4 = g.1 4) (h6 : f.1 6 = g.1 6) : usedAt f = usedAt g := by
  funext b l x
  unfold usedAt
  rw [setsAt_congr h1 h2, readsAt_congr h3 h4, h6]
theorem readLines_spec {to : Ob} {b l : Nat} (hb : b < 10) (hl : to.1 0 b = nI l) (hl8 : l ≤ 8) : ∃ u v : Int32, Told_readLines to (nI b) = rs (rs to 8 b u) 9 b v ∧ (∀ x, x < 20 → (bt v x = true ↔ ∃ j, j < l ∧ setsAt to b j x)) ∧ ∀ x, x < 20 → (bt u x = true ↔ usedAt to b l x) := by
  obtain ⟨used, set, h1, h2, h3⟩ := readLines_eq hb hl hl8
  refine ⟨_, _, h1, h2, fun x hx => ?_⟩
  rw [b_or, b_and, bt_not (by omega), Bool.or_eq_true, Bool.and_eq_true, bit_any hx, h3 x hx, Bool.not_eq_true']
  unfold usedAt
  have hset : bt set x = false ↔ ∀ i, i < l → ¬ setsAt to b i x := by
    constructor
    · intro h i hi hs
      have := (h2 x hx).mpr ⟨i, hi, hs⟩
      rw [show ((used, set) : Int32 × Int32).2 = set from rfl, h] at this
      cases this
    · intro h
      cases hq : bt set x with
      | false => rfl
      | true =>
        obtain ⟨i, hi, hs⟩ := (h2 x hx).mp hq
        exact absurd hs (h i hi)
  rw [hset]
  constructor
  · rintro (h | ⟨g1, g2⟩)
    · exact Or.inl h
    · exact Or.inr ⟨g2, g1⟩
  · rintro (h | ⟨g1, g2⟩)
    · exact Or.inl h
    · exact Or.inr ⟨g2, g1⟩
/-- the loop over the blocks -/
def trInv (to fl : Ob) (n : Nat) (q : Ob × Ob) : Prop := (∀ i, i ≠ 8 → i ≠ 9 → q.1.1 i = to.1 i) ∧ q.1.2 = to.2 ∧ (∀ b, b < n → ∀ l, l ≤ 8 → to.1 0 b = nI l → tSets q.1 b l) ∧ (∀ i, i ≠ 0 → q.2.1 i = fl.1 i) ∧ q.2.2 = fl.2 ∧ (∀ b, b < n → ∀ e, e ≤ 2 → to.1 5 b = nI e → ∀ c, c < 20 → (bt (q.2.1 0 b) c = true ↔ waysOf to b e c)) ∧ (∀ b, n ≤ b → q.2.1 0 b = 0) ∧ ∀ b c, 20 ≤ c → c < 32 → bt (q.2.1 0 b) c = false
theorem told_step {to fl : Ob} {nb n : Nat} (hT : tRows to nb) (hn : n < nb) {q : Ob × Ob} (hI : trInv to fl n q) : ∃ q' : Ob × Ob, Told_reckon_L9b q.1 q.2 (nI n) = .inl (nI (n + 1), q') ∧ trInv to fl (n + 1) q' := by
  obtain ⟨h1, h2, h3, h4, h5, h6, h7, h8⟩ := hI
  obtain ⟨t1, t2, t3, t4⟩ := hT
  obtain ⟨⟨l, hl8, hl⟩, e, he2, he, hways⟩ := t4 n hn
  have hn10 : n < 10 := by omega
  have hl' : q.1.1 0 n = nI l := by rw [h1 0 (by decide) (by decide)]; exact hl
  have he' : q.1.1 5 n = nI e := by rw [h1 5 (by decide) (by decide)]; exact he
  obtain ⟨w, g1, g2, g3⟩ := leads_eq (to := q.1) (fl := q.2) hn10 he' he2
  obtain ⟨u, v, k1, k2, k3⟩ := readLines_spec (to := q.1) hn10 hl' hl8
  have hw7 : waysOf q.1 = waysOf to := by
    funext b e c
    unfold waysOf
    rw [h1 7 (by decide) (by decide)]
  have hsa : setsAt q.1 = setsAt to := setsAt_congr (h1 1 (by decide) (by decide)) (h1 2 (by decide) (by decide))
  have hua : usedAt q.1 = usedAt to := usedAt_congr (h1 1 (by decide) (by decide)) (h1 2 (by decide) (by decide)) (h1 3 (by decide) (by decide)) (h1 4 (by decide) (by decide)) (h1 6 (by decide) (by decide))
  have hrow : ∀ i, i ≠ 8 → i ≠ 9 → (rs (rs q.1 8 n u) 9 n v).1 i = q.1.1 i := fun i q1 q2 => by rw [rs_r _ _ _ _ q2, rs_r _ _ _ _ q1]
  have hsa2 : setsAt (rs (rs q.1 8 n u) 9 n v) = setsAt to := (setsAt_congr (hrow 1 (by decide) (by decide)) (hrow 2 (by decide) (by decide))).trans hsa
  have hua2 : usedAt (rs (rs q.1 8 n u) 9 n v) = usedAt to := (usedAt_congr (hrow 1 (by decide) (by decide)) (hrow 2 (by decide) (by decide)) (hrow 3 (by decide) (by decide)) (hrow 4 (by decide) (by decide)) (hrow 6 (by decide) (by decide))).trans hua
  refine ⟨(rs (rs q.1 8 n u) 9 n v, rs q.2 0 n w), ?_, fun i q1 q2 => by rw [hrow i q1 q2]; exact h1 i q1 q2, h2, fun b hb l' hl1 hl2 => ?_, fun i hi => by rw [rs_r _ _ _ _ hi]; exact h4 i hi, h5, fun b hb e' he1 he3 c hc => ?_, fun b hb => ?_, fun b c hc hc2 => ?_⟩
  · unfold Told_reckon_L9b
    have hnb : q.1.2.1 0 = nI nb := by rw [h2]; exact t1
    rw [hnb, if_pos (show nI n < nI nb from nI_lt hn (by omega)), g1, k1]
  · refine ⟨fun x hx => ?_, fun x hx => ?_⟩
    · rw [rs_i, hsa2]
      by_cases hbn : b = n
      · subst hbn
        have hll : l' = l := nI_inj (by omega) (by omega) (hl2.symm.trans hl)
        subst hll
        rw [if_pos rfl, k2 x hx, hsa]
      · rw [if_neg hbn, rs_r _ _ _ _ (show 9 ≠ 8 by decide), (h3 b (by omega) l' hl1 hl2).1 x hx, hsa]
    · rw [rs_r _ _ _ _ (show 8 ≠ 9 by decide), rs_i, hua2]
      by_cases hbn : b = n
      · subst hbn
        have hll : l' = l := nI_inj (by omega) (by omega) (hl2.symm.trans hl)
        subst hll
        rw [if_pos rfl, k3 x hx, hua]
      · rw [if_neg hbn, (h3 b (by omega) l' hl1 hl2).2 x hx, hua]
  · show bt ((rs q.2 0 n w).1 0 b) c = true ↔ _
    rw [rs_i]
    by_cases hbn : b = n
    · subst hbn
      have hee : e' = e := nI_inj (by omega) (by omega) (he3.symm.trans he)
      subst hee
      rw [if_pos rfl, g2 c hc, h7 b (Nat.le_refl _), b_0, hw7]
      exact ⟨fun h => h.elim (fun h => by cases h) id, Or.inr⟩
    · rw [if_neg hbn]
      exact h6 b (by omega) e' he1 he3 c hc
  · show (rs q.2 0 n w).1 0 b = 0
    rw [rs_i, if_neg (by omega)]
    exact h7 b (by omega)
  · show bt ((rs q.2 0 n w).1 0 b) c = false
    rw [rs_i]
    by_cases hbn : b = n
    · subst hbn
      rw [if_pos rfl, g3 c hc hc2]
      exact h8 b c hc hc2
    · rw [if_neg hbn]
      exact h8 b c hc hc2
/-- what is wanted grows till it stands still -/
def wStep (U S : Nat → Bool) (tB : Nat → List Nat) (b : Nat) (T : Nat → Bool) : Nat → Bool := fun i => if i = b then U b || ((tB b).any T && !S b) else T i
def wRound (U S : Nat → Bool) (tB : Nat → List Nat) (n : Nat) (T : Nat → Bool) : Nat → Bool := itr (wStep U S tB) 0 n T
theorem any_mono {l : List Nat} {T T' : Nat → Bool} (h : ∀ c ∈ l, T c = true → T' c = true) (ha : l.any T = true) : l.any T' = true := by
  rw [List.any_eq_true] at ha ⊢
  obtain ⟨c, hc, ht⟩ := ha
  exact ⟨c, hc, h c hc ht⟩
theorem wRound_mono {U S : Nat → Bool} {tB : Nat → List Nat} {n : Nat} (htB : ∀ b, b < n → ∀ c ∈ tB b, c < n) {T T' : Nat → Bool} (h : ∀ i, i < n → T i = true → T' i = true) : ∀ i, i < n → wRound U S tB n T i = true → wRound U S tB n T' i = true := by
  have key : ∀ (d j : Nat) (T T' : Nat → Bool), j + d = n → (∀ i, i < n → T i = true → T' i = true) → ∀ i, i < n → itr (wStep U S tB) j d T i = true → itr (wStep U S tB) j d T' i = true := by
    intro d
    induction d with
    | zero => intro j T T' _ h i hi; exact h i hi
    | succ d ih =>
      intro j T T' hj h i hi
      refine ih (j + 1) _ _ (by omega) (fun m hm => ?_) i hi
      unfold wStep
      by_cases hmj : m = j
      · rw [if_pos hmj, if_pos hmj, Bool.or_eq_true, Bool.or_eq_true, Bool.and_eq_true, Bool.and_eq_true]
        rintro (q | ⟨q1, q2⟩)
        · exact Or.inl q
        · exact Or.inr ⟨any_mono (fun c hc => h c (htB j (by omega) c hc)) q1, q2⟩
      · rw [if_neg hmj, if_neg hmj]
        exact h m hm
  exact key n 0 T T' (by omega) h
theorem bool_eq {a b : Bool} (h1 : a = true → b = true) (h2 : b = true → a = true) : a = b := by
  cases a <;> cases b <;> simp_all
theorem wRound_ext {U S : Nat → Bool} {tB : Nat → List Nat} {n : Nat} (htB : ∀ b, b < n → ∀ c ∈ tB b, c < n) {T T' : Nat → Bool} (h : ∀ i, i < n → T i = T' i) : ∀ i, i < n → wRound U S tB n T i = wRound U S tB n T' i := fun i hi =>
  bool_eq (wRound_mono htB (fun j hj q => by rw [← h j hj]; exact q) i hi) (wRound_mono htB (fun j hj q => by rw [h j hj]; exact q) i hi)
/-- where a round changes nothing, it is closed -/
theorem wRound_fix {U S : Nat → Bool} {tB : Nat → List Nat} {n : Nat} (htB : ∀ b, b < n → ∀ c ∈ tB b, c < n) {T : Nat → Bool} (h : ∀ i, i < n → wRound U S tB n T i = T i) : ∀ b, b < n → T b = (U b || ((tB b).any T && !S b)) := by
  have same : ∀ (d j : Nat) (T' : Nat → Bool) (i : Nat), i < j → itr (wStep U S tB) j d T' i = T' i := by
    intro d
    induction d with
    | zero => intro j T' i _; rfl
    | succ d ih =>
      intro j T' i hi
      show itr (wStep U S tB) (j + 1) d (wStep U S tB j T') i = T' i
      rw [ih (j + 1) _ i (by omega)]
      unfold wStep
      rw [if_neg (by omega)]
  have key : ∀ (d j : Nat) (T' : Nat → Bool), j + d = n → (∀ i, i < n → T' i = T i) → (∀ i, i < n → itr (wStep U S tB) j d T' i = T i) → ∀ b, j ≤ b → b < n → T b = (U b || ((tB b).any T && !S b)) := by
    intro d
    induction d with
    | zero => intro j T' hj _ _ b h1 h2; omega
    | succ d ih =>
      intro j T' hj hT hR b h1 h2
      have hany : (tB j).any T' = (tB j).any T := bool_eq (any_mono fun c hc q => by rw [← hT c (htB j (by omega) c hc)]; exact q) (any_mono fun c hc q => by rw [hT c (htB j (by omega) c hc)]; exact q)
      have hj' : T j = (U j || ((tB j).any T && !S j)) := by
        have h3 := hR j (by omega)
        have h4 : itr (wStep U S tB) j (d + 1) T' j = wStep U S tB j T' j := same d (j + 1) (wStep U S tB j T') j (by omega)
        rw [h4] at h3
        unfold wStep at h3
        rw [if_pos rfl, hany] at h3
        exact h3.symm
      by_cases hbj : b = j
      · subst hbj; exact hj'
      · refine ih (j + 1) (wStep U S tB j T') (by omega) (fun i hi => ?_) hR b (by omega) h2
        unfold wStep
        by_cases hij : i = j
        · subst hij
          rw [if_pos rfl, hany]
          exact hj'.symm
        · rw [if_neg hij]
          exact hT i hi
  exact fun b hb => key n 0 T (by omega) (fun _ _ => rfl) h b (Nat.zero_le _) hb
theorem wRound_self {U S : Nat → Bool} {tB : Nat → List Nat} {n : Nat} {T : Nat → Bool} : ∀ i, i < n → U i = true → wRound U S tB n T i = true := by
  have key : ∀ (d j : Nat) (T : Nat → Bool) (i : Nat), (i < j + d) → U i = true → (j ≤ i ∨ T i = true) → itr (wStep U S tB) j d T i = true := by
    intro d
    induction d with
    | zero => intro j T i h1 hu h2; exact h2.elim (fun h => by omega) id
    | succ d ih =>
      intro j T i h1 hu h2
      refine ih (j + 1) _ i (by omega) hu ?_
      by_cases hij : i = j
      · right
        subst hij
        unfold wStep
        rw [if_pos rfl, hu]
        rfl
      · rcases h2 with h2 | h2
        · left; omega
        · right
          unfold wStep
          rw [if_neg hij]
          exact h2
  exact fun i hi hu => key n 0 T i (by omega) hu (Or.inl (Nat.zero_le _))
theorem wanted_still {U S : Nat → Bool} {tB : Nat → List Nat} {n : Nat} (htB : ∀ b, b < n → ∀ c ∈ tB b, c < n) (hn : n ≤ 10) : ∀ i, i < n → wRound U S tB n (itr (fun _ => wRound U S tB n) 0 10 U) i = itr (fun _ => wRound U S tB n) 0 10 U i := by
  have hl : ∀ k, itr (fun _ => wRound U S tB n) 0 (k + 1) U = wRound U S tB n (itr (fun _ => wRound U S tB n) 0 k U) := fun k => itr_last _ _ _ _
  have mono : ∀ k i, i < n → itr (fun _ => wRound U S tB n) 0 k U i = true → itr (fun _ => wRound U S tB n) 0 (k + 1) U i = true := by
    intro k
    induction k with
    | zero => intro i hi h; rw [hl]; exact wRound_self i hi h
    | succ k ih =>
      intro i hi h
      rw [hl (k + 1)]
      rw [hl k] at h
      exact wRound_mono htB ih i hi h
  have key : ∀ k, (∀ i, i < n → itr (fun _ => wRound U S tB n) 0 (k + 1) U i = itr (fun _ => wRound U S tB n) 0 k U i) ∨ k + 1 ≤ cnt (itr (fun _ => wRound U S tB n) 0 k U) n := by
    intro k
    induction k with
    | zero =>
      by_cases h : ∃ i, i < n ∧ U i = true
      · right
        obtain ⟨i, hi, hs⟩ := h
        have := cnt_lt (S := fun _ => false) (T := U) n (fun _ _ e => by cases e) ⟨i, hi, rfl, hs⟩
        show 1 ≤ cnt U n
        omega
      · left
        have h0 : ∀ i, i < n → U i = false := fun i hi => by
          cases hs : U i with
          | false => rfl
          | true => exact absurd ⟨i, hi, hs⟩ h
        intro i hi
        rw [hl]
        show wRound U S tB n U i = U i
        rw [h0 i hi]
        have none : ∀ (d j : Nat) (T : Nat → Bool), j + d = n → (∀ i, i < n → T i = false) → ∀ i, i < n → itr (wStep U S tB) j d T i = false := by
          intro d
          induction d with
          | zero => intro j T _ hT i hi; exact hT i hi
          | succ d ih =>
            intro j T hj hT i hi
            refine ih (j + 1) _ (by omega) (fun m hm => ?_) i hi
            unfold wStep
            by_cases hmj : m = j
            · rw [if_pos hmj, h0 j (by omega)]
              have : (tB j).any T = false := by
                rw [List.any_eq_false]
                intro c hc
                rw [hT c (htB j (by omega) c hc)]
                decide
              rw [this]
              rfl
            · rw [if_neg hmj]; exact hT m hm
        exact none n 0 U (by omega) h0 i hi
    | succ k ih =>
      rcases ih with ih | ih
      · left
        intro i hi
        rw [hl (k + 1)]
        have h3 := wRound_ext (U := U) (S := S) htB ih i hi
        rw [h3, ← hl k]
      · by_cases h : ∃ i, i < n ∧ itr (fun _ => wRound U S tB n) 0 k U i = false ∧ itr (fun _ => wRound U S tB n) 0 (k + 1) U i = true
        · right
          have h1 := cnt_lt (S := itr (fun _ => wRound U S tB n) 0 k U) (T := itr (fun _ => wRound U S tB n) 0 (k + 1) U) n (mono k) h
          omega
        · left
          have heq : ∀ i, i < n → itr (fun _ => wRound U S tB n) 0 (k + 1) U i = itr (fun _ => wRound U S tB n) 0 k U i := fun i hi => by
            refine bool_eq (fun q => ?_) (mono k i hi)
            cases h1 : itr (fun _ => wRound U S tB n) 0 k U i with
            | true => rfl
            | false => exact absurd ⟨i, hi, h1, q⟩ h
          intro i hi
          rw [hl (k + 1)]
          have h3 := wRound_ext (U := U) (S := S) htB heq i hi
          rw [h3, ← hl k]
  rcases key 10 with h | h
  · intro i hi
    rw [← hl]
    exact h i hi
  · have := cnt_le (itr (fun _ => wRound U S tB n) 0 10 U) n
    omega
def tTg (to : Ob) (b : Nat) : List Nat := (List.range (tn (to.1 5 b))).map fun k => tn (to.1 7 (b * 2 + k))
theorem ahead_eq {to : Ob} {b e nb : Nat} (v1 : Int32) (hb : b < 10) (hnb : nb ≤ 10) (he : to.1 5 b = nI e) (he2 : e ≤ 2) (ht : ∀ k, k < e → ∃ c, c < nb ∧ to.1 7 (b * 2 + k) = nI c) : ∃ a : Int32, Told_reckonWanted_L34 to v1 (nI b) 0 0 = .inl (nI (b + 1), rs to 10 b (to.1 8 b ||| (a &&& ((to.1 9 b) ^^^ (-1))))) ∧ ∀ x, x < 20 → bt a x = (tTg to b).any fun c => bt (to.1 10 c) x := by
  have htg : tTg to b = (List.range e).map fun k => tn (to.1 7 (b * 2 + k)) := by
    unfold tTg
    rw [he, tn_nI (by omega)]
  rw [htg]
  unfold Told_reckonWanted_L34
  refine loop_cnt (B := fun a : Int32 × Int32 => Told_reckonWanted_L34b to v1 (nI b) a.1 a.2) (mk := fun i (a : Int32) => (a, nI i)) (n := e) (I := fun k a => ∀ x, x < 20 → bt a x = ((List.range k).map fun k => tn (to.1 7 (b * 2 + k))).any fun c => bt (to.1 10 c) x)
    (P := fun r => ∃ a : Int32, r = .inl (nI (b + 1), rs to 10 b (to.1 8 b ||| (a &&& ((to.1 9 b) ^^^ (-1))))) ∧ ∀ x, x < 20 → bt a x = ((List.range e).map fun k => tn (to.1 7 (b * 2 + k))).any fun c => bt (to.1 10 c) x) (fun k a hk hI => ?_) (fun a hI => ?_) e 0 0 (by omega) (fun x _ => by rw [b_0]; rfl)
  · obtain ⟨c, hc, hck⟩ := ht k hk
    refine ⟨a ||| to.1 10 c, ?_, fun x hx => ?_⟩
    · show Told_reckonWanted_L34b to v1 (nI b) a (nI k) = _
      unfold Told_reckonWanted_L34b
      rw [oat_rs hb (by decide), he, if_pos (show nI k < nI e from nI_lt hk (by omega)), ix2, oat_rs (n := 20) (by omega) (by decide), hck, oat_rs (by omega) (by decide), nI_1]
    · rw [b_or, hI x hx, List.range_succ, List.map_append, List.any_append]
      simp only [List.map_cons, List.map_nil, List.any_cons, List.any_nil, Bool.or_false]
      rw [hck, tn_nI (by omega)]
  · refine ⟨_, ?_, a, rfl, hI⟩
    show Told_reckonWanted_L34b to v1 (nI b) a (nI e) = _
    unfold Told_reckonWanted_L34b
    rw [oat_rs hb (by decide), he, if_neg (show ¬ nI e < nI e from nI_nlt (Nat.le_refl _) (by omega)), oat_rs hb (by decide), oat_rs hb (by decide), oput_rs hb (by decide), nI_1]
/-- a told program's ways go to blocks -/
def tWays (to : Ob) (nb : Nat) : Prop := to.2.1 0 = nI nb ∧ nb ≤ 10 ∧ ∀ b, b < nb → ∃ e, e ≤ 2 ∧ to.1 5 b = nI e ∧ ∀ k, k < e → ∃ c, c < nb ∧ to.1 7 (b * 2 + k) = nI c
theorem tTg_lt {to : Ob} {nb : Nat} (hT : tWays to nb) : ∀ b, b < nb → ∀ c ∈ tTg to b, c < nb := by
  intro b hb c hc
  obtain ⟨-, h10, h⟩ := hT
  obtain ⟨e, he2, he, ht⟩ := h b hb
  unfold tTg at hc
  rw [he, tn_nI (by omega)] at hc
  obtain ⟨k, hk, rfl⟩ := List.mem_map.mp hc
  obtain ⟨c, hc, hck⟩ := ht k (List.mem_range.mp hk)
  rw [hck, tn_nI (by omega)]
  exact hc
def rwInv (to : Ob) (n : Nat) (T : Nat → Nat → Bool) (s : Ob) : Prop := (∀ i, i ≠ 10 → s.1 i = to.1 i) ∧ s.2 = to.2 ∧ ∀ x, x < 20 → ∀ b, bt (s.1 10 b) x = itr (wStep (fun b => bt (to.1 8 b) x) (fun b => bt (to.1 9 b) x) (tTg to)) 0 n (T x) b
theorem wanted_round {to : Ob} {nb : Nat} (hT : tWays to nb) (v1 : Int32) {s : Ob} (h1 : ∀ i, i ≠ 10 → s.1 i = to.1 i) (h2 : s.2 = to.2) : ∃ g, Told_reckonWanted_L21 s v1 0 = .inl (v1 + 1, g) ∧ rwInv to nb (fun x b => bt (s.1 10 b) x) g := by
  obtain ⟨t1, t2, t3⟩ := hT
  unfold Told_reckonWanted_L21
  refine loop_cnt (B := fun a : Int32 × Ob => Told_reckonWanted_L21b a.2 v1 a.1) (mk := fun i (g : Ob) => (nI i, g)) (n := nb) (I := fun n g => rwInv to n (fun x b => bt (s.1 10 b) x) g) (P := fun r => ∃ g, r = .inl (v1 + 1, g) ∧ rwInv to nb (fun x b => bt (s.1 10 b) x) g) (fun n g hn hI => ?_) (fun g hI => ?_) nb 0 s (by omega) ⟨h1, h2, fun x hx b => rfl⟩
  · obtain ⟨g1, g2, g3⟩ := hI
    obtain ⟨e, he2, he, ht⟩ := t3 n hn
    have hge : g.1 5 n = nI e := by rw [g1 5 (by decide)]; exact he
    have hg7 : ∀ k, k < e → ∃ c, c < nb ∧ g.1 7 (n * 2 + k) = nI c := fun k hk => by rw [g1 7 (by decide)]; exact ht k hk
    obtain ⟨a, a1, a2⟩ := ahead_eq (to := g) v1 (show n < 10 by omega) t2 hge he2 hg7
    have htg : tTg g n = tTg to n := by
      unfold tTg
      rw [g1 5 (by decide), g1 7 (by decide)]
    refine ⟨rs g 10 n (g.1 8 n ||| (a &&& ((g.1 9 n) ^^^ (-1)))), ?_, fun i hi => by rw [rs_r _ _ _ _ hi]; exact g1 i hi, g2, fun x hx b => ?_⟩
    · show Told_reckonWanted_L21b g v1 (nI n) = _
      unfold Told_reckonWanted_L21b
      have hnb : g.2.1 0 = nI nb := by rw [g2]; exact t1
      rw [hnb, if_pos (show nI n < nI nb from nI_lt hn (by omega)), a1]
    · rw [itr_last, Nat.zero_add, rs_i]
      unfold wStep
      by_cases hbn : b = n
      · rw [if_pos hbn, if_pos hbn, b_or, b_and, bt_not (by omega), a2 x hx, htg, g1 8 (by decide), g1 9 (by decide)]
        have hfun : (fun c => bt (g.1 10 c) x) = itr (wStep (fun b => bt (to.1 8 b) x) (fun b => bt (to.1 9 b) x) (tTg to)) 0 n (fun b => bt (s.1 10 b) x) := funext fun c => g3 x hx c
        rw [hfun]
        rfl
      · rw [if_neg hbn, if_neg hbn]
        exact g3 x hx b
  · refine ⟨_, ?_, g, rfl, hI⟩
    show Told_reckonWanted_L21b g v1 (nI nb) = _
    unfold Told_reckonWanted_L21b
    have hnb : g.2.1 0 = nI nb := by rw [hI.2.1]; exact t1
    rw [hnb, if_neg (show ¬ nI nb < nI nb from nI_nlt (Nat.le_refl _) (by omega))]
/-- what is wanted: what is used first, and what is wanted behind and not set -/
theorem wanted_spec {to : Ob} {nb : Nat} (hT : tWays to nb) : (∀ i, i ≠ 10 → (Told_reckonWanted to).1 i = to.1 i) ∧ (Told_reckonWanted to).2 = to.2 ∧ ∀ x, x < 20 → ∀ b, b < nb → bt ((Told_reckonWanted to).1 10 b) x = (bt (to.1 8 b) x || (((tTg to b).any fun c => bt ((Told_reckonWanted to).1 10 c) x) && !bt (to.1 9 b) x)) := by
  have hall : (∀ i, i ≠ 10 → (Told_reckonWanted to).1 i = to.1 i) ∧ (Told_reckonWanted to).2 = to.2 ∧ ∀ x, x < 20 → ∀ b, bt ((Told_reckonWanted to).1 10 b) x = itr (fun _ => wRound (fun b => bt (to.1 8 b) x) (fun b => bt (to.1 9 b) x) (tTg to) nb) 0 10 (fun b => bt (to.1 8 b) x) b := by
    unfold Told_reckonWanted Told_reckonWanted_L13
    refine loop_cnt (B := fun a : Int32 × Ob => Told_reckonWanted_L13b a.2 a.1) (mk := fun i (g : Ob) => (nI i, g)) (n := 10)
      (I := fun n g => (∀ i, i ≠ 10 → g.1 i = to.1 i) ∧ g.2 = to.2 ∧ ∀ x, x < 20 → ∀ b, bt (g.1 10 b) x = itr (fun _ => wRound (fun b => bt (to.1 8 b) x) (fun b => bt (to.1 9 b) x) (tTg to) nb) 0 n (fun b => bt (to.1 8 b) x) b)
      (P := fun g => (∀ i, i ≠ 10 → g.1 i = to.1 i) ∧ g.2 = to.2 ∧ ∀ x, x < 20 → ∀ b, bt (g.1 10 b) x = itr (fun _ => wRound (fun b => bt (to.1 8 b) x) (fun b => bt (to.1 9 b) x) (tTg to) nb) 0 10 (fun b => bt (to.1 8 b) x) b) (fun n g hn hI => ?_) (fun g hI => ?_) 10 0 _ rfl ⟨fun i hi => by rw [oR_1, if_neg hi], rfl, fun x hx b => by rw [oR_1, if_pos rfl]; rfl⟩
    · obtain ⟨g1, g2, g3⟩ := hI
      obtain ⟨h, k1, k2, k3, k4⟩ := wanted_round hT (nI n) g1 g2
      refine ⟨h, ?_, k2, k3, fun x hx b => ?_⟩
      · show Told_reckonWanted_L13b g (nI n) = _
        unfold Told_reckonWanted_L13b
        rw [if_pos (lt10 hn), k1, nI_1]
      · rw [k4 x hx b, itr_last]
        have hfun : (fun b => bt (g.1 10 b) x) = itr (fun _ => wRound (fun b => bt (to.1 8 b) x) (fun b => bt (to.1 9 b) x) (tTg to) nb) 0 n (fun b => bt (to.1 8 b) x) := funext fun b => g3 x hx b
        rw [← hfun]
        rfl
    · refine ⟨g, ?_, hI⟩
      show Told_reckonWanted_L13b g (nI 10) = _
      unfold Told_reckonWanted_L13b
      rw [if_neg nlt10]
  refine ⟨hall.1, hall.2.1, fun x hx b hb => ?_⟩
  have hst := wanted_still (U := fun b => bt (to.1 8 b) x) (S := fun b => bt (to.1 9 b) x) (tTg_lt hT) hT.2.1
  have hfun : (fun c => bt ((Told_reckonWanted to).1 10 c) x) = itr (fun _ => wRound (fun b => bt (to.1 8 b) x) (fun b => bt (to.1 9 b) x) (tTg to) nb) 0 10 (fun b => bt (to.1 8 b) x) := funext fun c => hall.2.2 x hx c
  rw [hall.2.2 x hx b, hfun]
  exact wRound_fix (tTg_lt hT) hst b hb
/-- what a told program has reckoned -/
def tGood (to fl : Ob) (nb : Nat) : Prop := tRows to nb ∧ (∀ b, b < nb → ∀ l, l ≤ 8 → to.1 0 b = nI l → tSets to b l) ∧ (∀ x, x < 20 → ∀ b, b < nb → bt (to.1 10 b) x = (bt (to.1 8 b) x || (((tTg to b).any fun c => bt (to.1 10 c) x) && !bt (to.1 9 b) x))) ∧ fR fl ∧ ∀ a c, fE fl a c ↔ a < nb ∧ c ∈ tTg to a
theorem tRows.ways {to : Ob} {nb : Nat} (h : tRows to nb) : tWays to nb := by
  obtain ⟨h1, -, h3, h4⟩ := h
  refine ⟨h1, h3, fun b hb => ?_⟩
  obtain ⟨-, e, he2, he, ht⟩ := h4 b hb
  exact ⟨e, he2, he, fun k hk => by obtain ⟨c, -, hc, hck⟩ := ht k hk; exact ⟨c, hc, hck⟩⟩
theorem told_reckon {to fl : Ob} {nb : Nat} (hT : tRows to nb) : tGood (Told_reckon to fl).1 (Told_reckon to fl).2 nb ∧ (∀ i, i ≠ 8 → i ≠ 9 → i ≠ 10 → (Told_reckon to fl).1.1 i = to.1 i) ∧ (Told_reckon to fl).1.2 = to.2 := by
  unfold Told_reckon Told_reckon_L9
  refine loop_cnt (B := fun a : Int32 × Ob × Ob => Told_reckon_L9b a.2.1 a.2.2 a.1) (mk := fun i (q : Ob × Ob) => (nI i, q)) (n := nb) (I := fun n q => trInv to (Flow_forget fl) n q)
    (P := fun q => tGood q.1 q.2 nb ∧ (∀ i, i ≠ 8 → i ≠ 9 → i ≠ 10 → q.1.1 i = to.1 i) ∧ q.1.2 = to.2) (fun n q hn hI => told_step hT hn hI) (fun q hI => ?_) nb 0 (to, Flow_forget fl) (by omega) ⟨fun _ _ _ => rfl, rfl, fun b hb => by omega, fun _ _ => rfl, rfl, fun b hb => by omega, fun b _ => ?_, fun b c _ _ => ?_⟩
  · obtain ⟨h1, h2, h3, h4, h5, h6, h7, h8⟩ := hI
    obtain ⟨t1, t2, t3, t4⟩ := hT
    have hrows : tRows q.1 nb := by
      refine ⟨by rw [h2]; exact t1, t2, t3, fun b hb => ?_⟩
      rw [h1 0 (by decide) (by decide), h1 5 (by decide) (by decide), h1 7 (by decide) (by decide)]
      exact t4 b hb
    obtain ⟨w1, w2, w3⟩ := wanted_spec hrows.ways
    have hNq : fN q.2 := by
      intro a ha i hi hi2
      rcases Nat.lt_or_ge i 20 with h20 | h20
      · rcases Nat.lt_or_ge a nb with han | han
        · obtain ⟨-, e, he2, he, ht⟩ := t4 a han
          cases hq : bt (q.2.1 0 a) i with
          | false => rfl
          | true =>
            obtain ⟨k, hk, hki⟩ := (h6 a han e he2 he i h20).mp hq
            obtain ⟨c, -, hc, hck⟩ := ht k hk
            have := nI_inj (by omega) (by omega) (hck.symm.trans hki)
            omega
        · rw [h7 a han, b_0]
      · exact h8 a i h20 hi2
    obtain ⟨r1, r2⟩ := flow_reckon hNq
    refine ⟨(Told_reckonWanted q.1, Flow_reckon q.2), ?_, ⟨?_, fun b hb l hl1 hl2 => ?_, fun x hx b hb => ?_, r1, fun a c => ?_⟩, fun i q1 q2 q3 => by rw [w1 i q3]; exact h1 i q1 q2, by rw [w2]; exact h2⟩
    · show Told_reckon_L9b q.1 q.2 (nI nb) = _
      unfold Told_reckon_L9b
      have hnb : q.1.2.1 0 = nI nb := by rw [h2]; exact t1
      rw [hnb, if_neg (show ¬ nI nb < nI nb from nI_nlt (Nat.le_refl _) (by omega))]
    · refine ⟨by rw [w2]; exact hrows.1, t2, t3, fun b hb => ?_⟩
      rw [w1 0 (by decide), w1 5 (by decide), w1 7 (by decide)]
      exact hrows.2.2.2 b hb
    · have hq0 : to.1 0 b = nI l := by
        rw [w1 0 (by decide), h1 0 (by decide) (by decide)] at hl2
        exact hl2
      obtain ⟨s1, s2⟩ := h3 b hb l hl1 hq0
      have e1 : setsAt (Told_reckonWanted q.1) = setsAt q.1 := setsAt_congr (w1 1 (by decide)) (w1 2 (by decide))
      have e2 : usedAt (Told_reckonWanted q.1) = usedAt q.1 := usedAt_congr (w1 1 (by decide)) (w1 2 (by decide)) (w1 3 (by decide)) (w1 4 (by decide)) (w1 6 (by decide))
      refine ⟨fun x hx => ?_, fun x hx => ?_⟩
      · rw [w1 9 (by decide), e1]; exact s1 x hx
      · rw [w1 8 (by decide), e2]; exact s2 x hx
    · have htg : tTg (Told_reckonWanted q.1) = tTg q.1 := by
        funext b
        unfold tTg
        rw [w1 5 (by decide), w1 7 (by decide)]
      rw [w1 8 (by decide), w1 9 (by decide), htg]
      exact w3 x hx b hb
    · have hEq : fE (Flow_reckon q.2) = fE q.2 := fE_congr r2
      have htg : tTg (Told_reckonWanted q.1) = tTg to := by
        funext b
        unfold tTg
        rw [w1 5 (by decide), w1 7 (by decide), h1 5 (by decide) (by decide), h1 7 (by decide) (by decide)]
      show fE (Flow_reckon q.2) a c ↔ a < nb ∧ c ∈ tTg (Told_reckonWanted q.1) a
      rw [hEq, htg]
      unfold fE
      constructor
      · rintro ⟨ha, hc, hbit⟩
        rcases Nat.lt_or_ge a nb with han | han
        · obtain ⟨-, e, he2, he, ht⟩ := t4 a han
          obtain ⟨k, hk, hki⟩ := (h6 a han e he2 he c (by omega)).mp hbit
          refine ⟨han, ?_⟩
          unfold tTg
          rw [he, tn_nI (by omega)]
          exact List.mem_map.mpr ⟨k, List.mem_range.mpr hk, by rw [hki, tn_nI (by omega)]⟩
        · rw [h7 a han, b_0] at hbit
          cases hbit
      · rintro ⟨han, hc⟩
        have hc10 := tTg_lt (tRows.ways ⟨t1, t2, t3, t4⟩) a han c hc
        refine ⟨by omega, by omega, ?_⟩
        obtain ⟨-, e, he2, he, ht⟩ := t4 a han
        rw [h6 a han e he2 he c (by omega)]
        unfold tTg at hc
        rw [he, tn_nI (by omega)] at hc
        obtain ⟨k, hk, hkc⟩ := List.mem_map.mp hc
        have hk' := List.mem_range.mp hk
        obtain ⟨c', -, hc', hck⟩ := ht k hk'
        rw [hck, tn_nI (by omega)] at hkc
        exact ⟨k, hk', by rw [hck, hkc]⟩
  · unfold Flow_forget ofil
    rw [oR_1, if_pos rfl]
  · show bt ((Flow_forget fl).1 0 b) c = false
    unfold Flow_forget ofil
    rw [oR_1, if_pos rfl, b_0]
