/-! RUNS, as they are told of: of blocks with lines, and of a form -/
abbrev Ag : Type := Nat ⊕ Int32
abbrev Hd : Type := Nat → Int32
abbrev Me : Type := (Nat → Int32) × List Int32
/-- what comes of a run: none, if it is cut; else whether it is trapped, what is returned, what is left, what it costs, how many ends -/
abbrev Oc : Type := Option (Bool × Int32 × Me × Nat × Nat)
/-- a form: the kinds, the arguments of values (below 140) and ends (from there on), the values and the edges of blocks, the kinds of ends, where ways go -/
abbrev AF : Type := (Nat → Nat) × (Nat → List Ag) × (Nat → List Nat) × (Nat → List Nat) × (Nat → Nat) × (Nat → Option Nat)
def aKd (A : AF) : Nat → Nat := A.1
def aAg (A : AF) : Nat → List Ag := A.2.1
def aLs (A : AF) : Nat → List Nat := A.2.2.1
def aEd (A : AF) : Nat → List Nat := A.2.2.2.1
def aEk (A : AF) : Nat → Nat := A.2.2.2.2.1
def aTg (A : AF) : Nat → Option Nat := A.2.2.2.2.2
def uH (H : Hd) (v : Nat) (x : Int32) : Hd := fun j => if j = v then x else H j
def evA (H : Hd) : Ag → Int32
  | .inl v => H v
  | .inr n => n
def evK (A : AF) (H : Hd) (u k : Nat) : Int32 := match (aAg A u)[k]? with
  | some a => evA H a
  | none => 0
def evE (A : AF) (H : Hd) (v : Nat) : Option Nat → Int32
  | some k => evK A H v k
  | none => 0
def phA (A : AF) (b : Nat) (e : Option Nat) (H : Hd) : Hd := fun v => if v ∈ aLs A b ∧ aKd A v = 9 then evE A H v e else H v
noncomputable def fmo8 (p : Int32) : Nat := tn (J_floorMod_8 p)
noncomputable def actM (k : Nat) (p q : Int32) (m : Me) : Int32 × Me × Bool :=
  if k = 0 then (p, m, false)
  else if k = 6 then (m.1 (fmo8 p), m, false)
  else if k = 7 then (0, (uH m.1 (fmo8 p) q, m.2), false)
  else if k = 8 then (0, (m.1, m.2 ++ [p]), false)
  else (Ph_reckoned (nI k) p q, m, decide (k = 4 ∧ q = 0))
noncomputable def coN (k : Nat) : Nat := tn (Ph_costOf (nI k))
noncomputable def vaA (A : AF) : List Nat → Hd → Me → Nat → Hd × Me × Nat × Bool
  | [], H, m, c => (H, m, c, false)
  | v :: r, H, m, c =>
    if aKd A v = 9 then vaA A r H m c
    else if (actM (aKd A v) (evK A H v 0) (evK A H v 1) m).2.2 = true then (uH H v (actM (aKd A v) (evK A H v 0) (evK A H v 1) m).1, (actM (aKd A v) (evK A H v 0) (evK A H v 1) m).2.1, c + coN (aKd A v), true)
    else vaA A r (uH H v (actM (aKd A v) (evK A H v 0) (evK A H v 1) m).1) (actM (aKd A v) (evK A H v 0) (evK A H v 1) m).2.1 (c + coN (aKd A v))
/-- which way an end goes on by -/
def wyN (k : Nat) (x : Int32) : Nat := if k = 2 ∧ ¬ 0 < x then 1 else 0
def edI (A : AF) (t w : Nat) : Option Nat := (aEd A t).findIdx? fun z => z == w
noncomputable def ruA (A : AF) : Nat → Nat → Option Nat → Hd → Me → Nat → Nat → Oc
  | 0, b, e, H, m, c, n =>
    if (vaA A (aLs A b) (phA A b e H) m c).2.2.2 = true then some (true, 0, (vaA A (aLs A b) (phA A b e H) m c).2.1, (vaA A (aLs A b) (phA A b e H) m c).2.2.1, n) else none
  | d + 1, b, e, H, m, c, n =>
    if (vaA A (aLs A b) (phA A b e H) m c).2.2.2 = true then some (true, 0, (vaA A (aLs A b) (phA A b e H) m c).2.1, (vaA A (aLs A b) (phA A b e H) m c).2.2.1, n)
    else if aEk A b = 0 then some (false, evK A (vaA A (aLs A b) (phA A b e H) m c).1 (140 + b) 0, (vaA A (aLs A b) (phA A b e H) m c).2.1, (vaA A (aLs A b) (phA A b e H) m c).2.2.1, n + 1)
    else match aTg A (b * 2 + wyN (aEk A b) (evK A (vaA A (aLs A b) (phA A b e H) m c).1 (140 + b) 0)) with
      | none => none
      | some t => ruA A d t (edI A t (b * 2 + wyN (aEk A b) (evK A (vaA A (aLs A b) (phA A b e H) m c).1 (140 + b) 0))) (vaA A (aLs A b) (phA A b e H) m c).1 (vaA A (aLs A b) (phA A b e H) m c).2.1 ((vaA A (aLs A b) (phA A b e H) m c).2.2.1 + (if aEk A b = 2 then 2 else 1)) (n + 1)
def H0 (a b : Int32) : Hd := uH (uH (fun _ => 0) 0 a) 1 b
def m0 : Me := (fun _ => 0, [])
/-- a run of a form, and of the blocks -/
noncomputable def runA (A : AF) (a b : Int32) : Oc := ruA A 300 0 none (H0 a b) m0 0 0
def opT (V : Hd) (x : Int32) : Int32 := if x < 100 then x else V (tn (x - 100))
noncomputable def lnT (to : Ob) (b : Nat) : List Nat → Hd → Me → Nat → Hd × Me × Nat × Bool
  | [], V, m, c => (V, m, c, false)
  | k :: r, V, m, c =>
    if (actM (tn (to.1 1 (b * 8 + k))) (opT V (to.1 3 (b * 8 + k))) (opT V (to.1 4 (b * 8 + k))) m).2.2 = true then (V, (actM (tn (to.1 1 (b * 8 + k))) (opT V (to.1 3 (b * 8 + k))) (opT V (to.1 4 (b * 8 + k))) m).2.1, c + coN (tn (to.1 1 (b * 8 + k))), true)
    else lnT to b r (if tn (to.1 1 (b * 8 + k)) ≤ 6 then uH V (tn (to.1 2 (b * 8 + k))) (actM (tn (to.1 1 (b * 8 + k))) (opT V (to.1 3 (b * 8 + k))) (opT V (to.1 4 (b * 8 + k))) m).1 else V) (actM (tn (to.1 1 (b * 8 + k))) (opT V (to.1 3 (b * 8 + k))) (opT V (to.1 4 (b * 8 + k))) m).2.1 (c + coN (tn (to.1 1 (b * 8 + k))))
def tLn (to : Ob) (b : Nat) : List Nat := List.range (tn (to.1 0 b))
def tEk (to : Ob) (b : Nat) : Nat := tn (to.1 5 b)
noncomputable def ruT (to : Ob) : Nat → Nat → Hd → Me → Nat → Nat → Oc
  | 0, b, V, m, c, n =>
    if (lnT to b (tLn to b) V m c).2.2.2 = true then some (true, 0, (lnT to b (tLn to b) V m c).2.1, (lnT to b (tLn to b) V m c).2.2.1, n) else none
  | d + 1, b, V, m, c, n =>
    if (lnT to b (tLn to b) V m c).2.2.2 = true then some (true, 0, (lnT to b (tLn to b) V m c).2.1, (lnT to b (tLn to b) V m c).2.2.1, n)
    else if tEk to b = 0 then some (false, opT (lnT to b (tLn to b) V m c).1 (to.1 6 b), (lnT to b (tLn to b) V m c).2.1, (lnT to b (tLn to b) V m c).2.2.1, n + 1)
    else ruT to d (tn (to.1 7 (b * 2 + wyN (tEk to b) (opT (lnT to b (tLn to b) V m c).1 (to.1 6 b))))) (lnT to b (tLn to b) V m c).1 (lnT to b (tLn to b) V m c).2.1 ((lnT to b (tLn to b) V m c).2.2.1 + (if tEk to b = 2 then 2 else 1)) (n + 1)
noncomputable def runT (to : Ob) (a b : Int32) : Oc := ruT to 300 0 (H0 a b) m0 0 0
theorem neg_bt (x : Int32) : x < 0 ↔ bt x 31 = true := by
  have h1 : x.toBitVec.msb = decide (x.toBitVec.toInt < 0) := BitVec.msb_eq_toInt
  have h2 : x.toBitVec.msb = bt x 31 := by
    rw [BitVec.msb_eq_getLsbD_last]
    rfl
  rw [← h2, h1, decide_eq_true_eq]
  exact Int32.lt_iff_toInt_lt
theorem i32_nI {x : Int32} {n : Nat} (h : x.toInt = (n : Int)) (hn : n < 2147483648) : x = nI n := by
  apply Int32.toInt_inj.mp
  rw [h, nI_toInt hn]
/-- the remainder by eight lies from 0 to 7 -/
theorem fmo8_lt (p : Int32) : J_floorMod_8 p = nI (fmo8 p) ∧ fmo8 p < 8 := by
  have key : ∃ k, k < 8 ∧ J_floorMod_8 p = nI k := by
    have hr : (p - p / 8 * 8).toInt = p.toInt.tmod 8 := rem_toInt p 8
    have hb := tmod_bounds (a := p.toInt) (M := 8) (by decide)
    have hs : (p ^^^ 8) < 0 ↔ p < 0 := by
      rw [neg_bt, neg_bt, b_xor]
      have : bt 8 31 = false := by decide
      rw [this, Bool.xor_false]
    unfold J_floorMod_8 J_floorMod_8_18
    by_cases hneg : p < 0
    · rw [if_pos (hs.mpr hneg)]
      have hp : p.toInt < 0 := Int32.lt_iff_toInt_lt.mp hneg
      have hle : p.toInt.tmod 8 ≤ 0 := by
        have : p.toInt.tmod 8 = -((-p.toInt).tmod 8) := by rw [Int.neg_tmod, Int.neg_neg]
        rw [this, Int.tmod_eq_emod_of_nonneg (by omega)]
        omega
      by_cases h0 : p - p / 8 * 8 = 0
      · rw [if_pos h0]
        exact ⟨0, by decide, h0⟩
      · rw [if_neg h0]
        have hne : p.toInt.tmod 8 ≠ 0 := fun e => h0 (Int32.toInt_inj.mp (by rw [hr, e]; rfl))
        refine ⟨(p.toInt.tmod 8 + 8).toNat, by omega, i32_nI ?_ (by omega)⟩
        rw [Int32.toInt_add, hr]
        have e8 : (8 : Int32).toInt = 8 := by decide
        rw [e8]
        show Int.bmod _ 4294967296 = _
        rw [Int.bmod_eq_of_le (by omega) (by omega)]
        omega
    · rw [if_neg (fun h => hneg (hs.mp h))]
      have hp : 0 ≤ p.toInt := by
        have := Int32.not_lt.mp hneg
        exact Int32.le_iff_toInt_le.mp this
      have hge : 0 ≤ p.toInt.tmod 8 := by
        rw [Int.tmod_eq_emod_of_nonneg hp]
        omega
      exact ⟨(p.toInt.tmod 8).toNat, by omega, i32_nI (by rw [hr]; omega) (by omega)⟩
  obtain ⟨k, hk, hk2⟩ := key
  have hf : fmo8 p = k := by
    unfold fmo8
    rw [hk2, tn_nI (by omega)]
  rw [hf]
  exact ⟨hk2, hk⟩
theorem co_nI (k : Nat) : Ph_costOf (nI k) = nI (coN k) ∧ coN k ≤ 8 := by
  have key : ∃ c, c ≤ 8 ∧ Ph_costOf (nI k) = nI c := by
    unfold Ph_costOf
    repeat' split
    · exact ⟨1, by decide, rfl⟩
    · exact ⟨1, by decide, rfl⟩
    · exact ⟨3, by decide, rfl⟩
    · exact ⟨8, by decide, rfl⟩
    · exact ⟨1, by decide, rfl⟩
    · exact ⟨4, by decide, rfl⟩
    · exact ⟨4, by decide, rfl⟩
    · exact ⟨1, by decide, rfl⟩
    · exact ⟨0, by decide, rfl⟩
  obtain ⟨c, hc, hk2⟩ := key
  have hf : coN k = c := by
    unfold coN
    rw [hk2, tn_nI (by omega)]
  rw [hf]
  exact ⟨hk2, hc⟩
/-- a tape, as a run has left it so far: whether it is on, how it ended, what is returned, cells, how many numbers, cost, ends; K: how many numbers it keeps -/
def tpAt (t : Ob) (on : Bool) (how : Nat) (ret : Int32) (m : Me) (c n : Nat) : Prop := t.2.2 0 = on ∧ (∀ i, i < 8 → t.1 0 i = m.1 i) ∧ t.2.1 0 = nI how ∧ t.2.1 1 = ret ∧ t.2.1 2 = nI m.2.length ∧ t.2.1 3 = nI c ∧ t.2.1 4 = nI n
def tpKept (K : Nat) (t : Ob) (m : Me) : Prop := ∀ i, i < m.2.length → i < K → t.1 1 i = m.2.getD i 0
theorem getD_app (l : List Int32) (p : Int32) (i : Nat) : (l ++ [p]).getD i 0 = if i < l.length then l.getD i 0 else if i = l.length then p else 0 := by
  rw [List.getD_eq_getElem?_getD, List.getD_eq_getElem?_getD]
  by_cases h : i < l.length
  · rw [if_pos h, List.getElem?_append_left h]
  · rw [if_neg h, List.getElem?_append_right (by omega)]
    by_cases h2 : i = l.length
    · rw [if_pos h2, h2, Nat.sub_self]; rfl
    · rw [if_neg h2, List.getElem?_eq_none (by simp; omega)]; rfl
theorem oput_out {f : Ob} {i n k : Nat} {y : Int32} (hk : n ≤ k) (hn : k < 2147483648) : oput f i n (nI k) y = oR f i (f.1 i) := by
  unfold oput
  rw [rput_out hk hn]
theorem oR_self (f : Ob) (i : Nat) : oR f i (f.1 i) = f := by
  refine Prod.ext (funext fun j => ?_) rfl
  rw [oR_1]
  by_cases h : j = i
  · rw [if_pos h, h]
  · rw [if_neg h]
theorem act_spec {t : Ob} {m : Me} {c n k : Nat} {p q : Int32} (h : tpAt t true 0 0 m c n) (hK : tpKept 60 t m) (hk : k < 9) (hl : m.2.length < 1000000) :
    (Tape_act t (nI k) p q).1 = (actM k p q m).1 ∧ tpAt (Tape_act t (nI k) p q).2 (!(actM k p q m).2.2) (if (actM k p q m).2.2 = true then 1 else 0) 0 (actM k p q m).2.1 (c + coN k) n ∧ tpKept 60 (Tape_act t (nI k) p q).2 (actM k p q m).2.1 := by
  obtain ⟨h1, h2, h3, h4, h5, h6, h7⟩ := h
  have hc : t.2.1 3 + Ph_costOf (nI k) = nI (c + coN k) := by rw [h6, (co_nI k).1, nI_add]
  obtain ⟨f1, f2⟩ := fmo8_lt p
  have hne : ∀ j : Nat, j < 9 → k ≠ j → ¬ nI k = nI j := fun j hj hkj e => hkj (nI_inj (by omega) (by omega) e)
  unfold Tape_act Tape_act_134 actM
  rw [hc]
  by_cases k0 : k = 0
  · subst k0
    rw [if_pos (show nI 0 = 0 from rfl), if_pos rfl]
    exact ⟨rfl, ⟨h1, h2, h3, h4, h5, rfl, h7⟩, hK⟩
  rw [if_neg (show ¬ nI k = 0 from hne 0 (by decide) k0), if_neg k0]
  by_cases k6 : k = 6
  · subst k6
    rw [if_pos (show nI 6 = 6 from rfl), if_pos rfl]
    exact ⟨by rw [f1, oat_rs f2 (by decide)]; exact h2 _ f2, ⟨h1, h2, h3, h4, h5, rfl, h7⟩, hK⟩
  rw [if_neg (show ¬ nI k = 6 from hne 6 (by decide) k6), if_neg k6]
  by_cases k7 : k = 7
  · subst k7
    rw [if_pos (show nI 7 = 7 from rfl), if_pos rfl]
    refine ⟨rfl, ⟨?_, fun i hi => ?_, ?_, ?_, ?_, ?_, ?_⟩, fun i hi hi2 => ?_⟩
    · rw [f1, oput_rs f2 (by decide)]; exact h1
    · show (oput (oG t 3 (nI (c + coN 7))) 0 8 (J_floorMod_8 p) q).1 0 i = uH m.1 (fmo8 p) q i
      rw [f1, oput_rs f2 (by decide), rs_i]
      unfold uH
      by_cases hi2 : i = fmo8 p
      · rw [if_pos hi2, if_pos hi2]
      · rw [if_neg hi2, if_neg hi2]; exact h2 i hi
    · rw [f1, oput_rs f2 (by decide)]; exact h3
    · rw [f1, oput_rs f2 (by decide)]; exact h4
    · rw [f1, oput_rs f2 (by decide)]; exact h5
    · rw [f1, oput_rs f2 (by decide)]; rfl
    · rw [f1, oput_rs f2 (by decide)]; exact h7
    · show (oput (oG t 3 (nI (c + coN 7))) 0 8 (J_floorMod_8 p) q).1 1 i = m.2.getD i 0
      rw [f1, oput_rs f2 (by decide), rs_r _ _ _ _ (show 1 ≠ 0 by decide)]
      exact hK i hi hi2
  rw [if_neg (show ¬ nI k = 7 from hne 7 (by decide) k7), if_neg k7]
  by_cases k8 : k = 8
  · subst k8
    rw [if_pos (show nI 8 = 8 from rfl), if_pos rfl]
    have hrow : ∀ i, (oput (oG t 3 (nI (c + coN 8))) 1 60 (t.2.1 2) p).1 1 i = if i = m.2.length ∧ i < 60 then p else t.1 1 i := fun i => by
      rw [h5]
      rcases Nat.lt_or_ge m.2.length 60 with hlt | hge
      · rw [oput_rs hlt (by decide), rs_i]
        by_cases hi : i = m.2.length
        · rw [if_pos hi, if_pos ⟨hi, by omega⟩]
        · rw [if_neg hi, if_neg (fun z => hi z.1)]; rfl
      · rw [oput_out hge (by omega), oR_self, if_neg (by omega)]; rfl
    have hoth : ∀ j, j ≠ 1 → (oput (oG t 3 (nI (c + coN 8))) 1 60 (t.2.1 2) p).1 j = t.1 j := fun j hj => by
      rw [h5]
      rcases Nat.lt_or_ge m.2.length 60 with hlt | hge
      · rw [oput_rs hlt (by decide), rs_r _ _ _ _ hj]; rfl
      · rw [oput_out hge (by omega), oR_self]; rfl
    refine ⟨rfl, ⟨h1, fun i hi => ?_, h3, h4, ?_, rfl, h7⟩, fun i hi hi2 => ?_⟩
    · show (oput (oG t 3 (nI (c + coN 8))) 1 60 (t.2.1 2) p).1 0 i = m.1 i
      rw [hoth 0 (by decide)]; exact h2 i hi
    · show t.2.1 2 + 1 = nI (m.2 ++ [p]).length
      rw [h5, nI_1, List.length_append]; rfl
    · show (oput (oG t 3 (nI (c + coN 8))) 1 60 (t.2.1 2) p).1 1 i = (m.2 ++ [p]).getD i 0
      rw [hrow, getD_app]
      have hi' : i < m.2.length + 1 := by simpa using hi
      by_cases hlt : i < m.2.length
      · rw [if_pos hlt, if_neg (by omega)]; exact hK i hlt hi2
      · rw [if_neg hlt, if_pos (by omega), if_pos (by omega)]
  rw [if_neg (show ¬ nI k = 8 from hne 8 (by decide) k8), if_neg k8]
  by_cases k4 : k = 4
  · subst k4
    rw [if_pos (show nI 4 = 4 from rfl)]
    by_cases hq : q = 0
    · rw [if_pos hq]
      have hd : decide ((4 : Nat) = 4 ∧ q = 0) = true := by simp [hq]
      rw [hd]
      refine ⟨rfl, ⟨rfl, h2, rfl, h4, h5, rfl, h7⟩, hK⟩
    · rw [if_neg hq]
      have hd : decide ((4 : Nat) = 4 ∧ q = 0) = false := by simp [hq]
      rw [hd]
      exact ⟨rfl, ⟨h1, h2, h3, h4, h5, rfl, h7⟩, hK⟩
  · rw [if_neg (show ¬ nI k = 4 from hne 4 (by decide) k4)]
    have hd : decide (k = 4 ∧ q = 0) = false := by simp [k4]
    rw [hd]
    exact ⟨rfl, ⟨h1, h2, h3, h4, h5, rfl, h7⟩, hK⟩
theorem act_spec_k {t : Ob} {m : Me} {c n k : Nat} {p q : Int32} (h : tpAt t true 0 0 m c n) (hK : tpKept 2408 t m) (hk : k < 9) (hl : m.2.length < 1000000) :
    (Tape_act_k t (nI k) p q).1 = (actM k p q m).1 ∧ tpAt (Tape_act_k t (nI k) p q).2 (!(actM k p q m).2.2) (if (actM k p q m).2.2 = true then 1 else 0) 0 (actM k p q m).2.1 (c + coN k) n ∧ tpKept 2408 (Tape_act_k t (nI k) p q).2 (actM k p q m).2.1 := by
  obtain ⟨h1, h2, h3, h4, h5, h6, h7⟩ := h
  have hc : t.2.1 3 + Ph_costOf (nI k) = nI (c + coN k) := by rw [h6, (co_nI k).1, nI_add]
  obtain ⟨f1, f2⟩ := fmo8_lt p
  have hne : ∀ j : Nat, j < 9 → k ≠ j → ¬ nI k = nI j := fun j hj hkj e => hkj (nI_inj (by omega) (by omega) e)
  unfold Tape_act_k Tape_act_k_134 actM
  rw [hc]
  by_cases k0 : k = 0
  · subst k0
    rw [if_pos (show nI 0 = 0 from rfl), if_pos rfl]
    exact ⟨rfl, ⟨h1, h2, h3, h4, h5, rfl, h7⟩, hK⟩
  rw [if_neg (show ¬ nI k = 0 from hne 0 (by decide) k0), if_neg k0]
  by_cases k6 : k = 6
  · subst k6
    rw [if_pos (show nI 6 = 6 from rfl), if_pos rfl]
    exact ⟨by rw [f1, oat_rs f2 (by decide)]; exact h2 _ f2, ⟨h1, h2, h3, h4, h5, rfl, h7⟩, hK⟩
  rw [if_neg (show ¬ nI k = 6 from hne 6 (by decide) k6), if_neg k6]
  by_cases k7 : k = 7
  · subst k7
    rw [if_pos (show nI 7 = 7 from rfl), if_pos rfl]
    refine ⟨rfl, ⟨?_, fun i hi => ?_, ?_, ?_, ?_, ?_, ?_⟩, fun i hi hi2 => ?_⟩
    · rw [f1, oput_rs f2 (by decide)]; exact h1
    · show (oput (oG t 3 (nI (c + coN 7))) 0 8 (J_floorMod_8 p) q).1 0 i = uH m.1 (fmo8 p) q i
      rw [f1, oput_rs f2 (by decide), rs_i]
      unfold uH
      by_cases hi2 : i = fmo8 p
      · rw [if_pos hi2, if_pos hi2]
      · rw [if_neg hi2, if_neg hi2]; exact h2 i hi
    · rw [f1, oput_rs f2 (by decide)]; exact h3
    · rw [f1, oput_rs f2 (by decide)]; exact h4
    · rw [f1, oput_rs f2 (by decide)]; exact h5
    · rw [f1, oput_rs f2 (by decide)]; rfl
    · rw [f1, oput_rs f2 (by decide)]; exact h7
    · show (oput (oG t 3 (nI (c + coN 7))) 0 8 (J_floorMod_8 p) q).1 1 i = m.2.getD i 0
      rw [f1, oput_rs f2 (by decide), rs_r _ _ _ _ (show 1 ≠ 0 by decide)]
      exact hK i hi hi2
  rw [if_neg (show ¬ nI k = 7 from hne 7 (by decide) k7), if_neg k7]
  by_cases k8 : k = 8
  · subst k8
    rw [if_pos (show nI 8 = 8 from rfl), if_pos rfl]
    have hrow : ∀ i, (oput (oG t 3 (nI (c + coN 8))) 1 2408 (t.2.1 2) p).1 1 i = if i = m.2.length ∧ i < 2408 then p else t.1 1 i := fun i => by
      rw [h5]
      rcases Nat.lt_or_ge m.2.length 2408 with hlt | hge
      · rw [oput_rs hlt (by decide), rs_i]
        by_cases hi : i = m.2.length
        · rw [if_pos hi, if_pos ⟨hi, by omega⟩]
        · rw [if_neg hi, if_neg (fun z => hi z.1)]; rfl
      · rw [oput_out hge (by omega), oR_self, if_neg (by omega)]; rfl
    have hoth : ∀ j, j ≠ 1 → (oput (oG t 3 (nI (c + coN 8))) 1 2408 (t.2.1 2) p).1 j = t.1 j := fun j hj => by
      rw [h5]
      rcases Nat.lt_or_ge m.2.length 2408 with hlt | hge
      · rw [oput_rs hlt (by decide), rs_r _ _ _ _ hj]; rfl
      · rw [oput_out hge (by omega), oR_self]; rfl
    refine ⟨rfl, ⟨h1, fun i hi => ?_, h3, h4, ?_, rfl, h7⟩, fun i hi hi2 => ?_⟩
    · show (oput (oG t 3 (nI (c + coN 8))) 1 2408 (t.2.1 2) p).1 0 i = m.1 i
      rw [hoth 0 (by decide)]; exact h2 i hi
    · show t.2.1 2 + 1 = nI (m.2 ++ [p]).length
      rw [h5, nI_1, List.length_append]; rfl
    · show (oput (oG t 3 (nI (c + coN 8))) 1 2408 (t.2.1 2) p).1 1 i = (m.2 ++ [p]).getD i 0
      rw [hrow, getD_app]
      have hi' : i < m.2.length + 1 := by simpa using hi
      by_cases hlt : i < m.2.length
      · rw [if_pos hlt, if_neg (by omega)]; exact hK i hlt hi2
      · rw [if_neg hlt, if_pos (by omega), if_pos (by omega)]
  rw [if_neg (show ¬ nI k = 8 from hne 8 (by decide) k8), if_neg k8]
  by_cases k4 : k = 4
  · subst k4
    rw [if_pos (show nI 4 = 4 from rfl)]
    by_cases hq : q = 0
    · rw [if_pos hq]
      have hd : decide ((4 : Nat) = 4 ∧ q = 0) = true := by simp [hq]
      rw [hd]
      refine ⟨rfl, ⟨rfl, h2, rfl, h4, h5, rfl, h7⟩, hK⟩
    · rw [if_neg hq]
      have hd : decide ((4 : Nat) = 4 ∧ q = 0) = false := by simp [hq]
      rw [hd]
      exact ⟨rfl, ⟨h1, h2, h3, h4, h5, rfl, h7⟩, hK⟩
  · rw [if_neg (show ¬ nI k = 4 from hne 4 (by decide) k4)]
    have hd : decide (k = 4 ∧ q = 0) = false := by simp [k4]
    rw [hd]
    exact ⟨rfl, ⟨h1, h2, h3, h4, h5, rfl, h7⟩, hK⟩
theorem leave_spec {t : Ob} {m : Me} {c n k : Nat} {x : Int32} (h : tpAt t true 0 0 m c n) (hk : k < 3) (hn : n ≤ 300) :
    (Tape_leaveBy t (nI k) x).2.1 = t.1 ∧ (n = 300 → tpAt (Tape_leaveBy t (nI k) x).2 false 2 0 m c n) ∧ (n < 300 → k = 0 → tpAt (Tape_leaveBy t (nI k) x).2 false 0 x m c (n + 1)) ∧ (n < 300 → k ≠ 0 → (Tape_leaveBy t (nI k) x).1 = nI (wyN k x) ∧ tpAt (Tape_leaveBy t (nI k) x).2 true 0 0 m (c + (if k = 2 then 2 else 1)) (n + 1)) := by
  obtain ⟨h1, h2, h3, h4, h5, h6, h7⟩ := h
  unfold Tape_leaveBy
  rw [if_pos h1, h7]
  rcases Nat.lt_or_ge n 300 with hlt | hge
  · rw [if_pos (show nI n < 300 from nI_lt (a := n) (b := 300) hlt (by decide)), nI_1]
    by_cases k0 : k = 0
    · subst k0
      rw [if_pos (show nI 0 = 0 from rfl)]
      exact ⟨rfl, fun e => by omega, fun _ _ => ⟨rfl, h2, rfl, rfl, h5, h6, rfl⟩, fun _ e => absurd rfl e⟩
    · rw [if_neg (show ¬ nI k = 0 from nI_ne0 (by omega) (by omega))]
      by_cases k2 : k = 2
      · subst k2
        rw [if_pos (show nI 2 = 2 from rfl)]
        unfold Tape_leaveBy_67 Tape_leaveBy_84
        have hc : t.2.1 3 + 2 = nI (c + 2) := by rw [h6]; exact nI_add c 2
        rw [if_pos (show nI 2 = 2 from rfl), hc]
        by_cases hx : 0 < x
        · rw [if_pos hx]
          refine ⟨rfl, fun e => by omega, fun _ e => absurd e (by decide), fun _ _ => ⟨?_, ⟨h1, h2, h3, h4, h5, rfl, rfl⟩⟩⟩
          have : wyN 2 x = 0 := by unfold wyN; rw [if_neg (fun z => z.2 hx)]
          rw [this]; rfl
        · rw [if_neg hx]
          refine ⟨rfl, fun e => by omega, fun _ e => absurd e (by decide), fun _ _ => ⟨?_, ⟨h1, h2, h3, h4, h5, rfl, rfl⟩⟩⟩
          have : wyN 2 x = 1 := by unfold wyN; rw [if_pos ⟨rfl, hx⟩]
          rw [this]; rfl
      · have k1 : k = 1 := by omega
        subst k1
        rw [if_neg (show ¬ nI 1 = 2 by decide)]
        unfold Tape_leaveBy_67 Tape_leaveBy_84
        have hc : t.2.1 3 + 1 = nI (c + 1) := by rw [h6]; exact nI_add c 1
        rw [if_neg (show ¬ nI 1 = 2 by decide), hc]
        exact ⟨rfl, fun e => by omega, fun _ e => absurd e (by decide), fun _ _ => ⟨rfl, ⟨h1, h2, h3, h4, h5, rfl, rfl⟩⟩⟩
  · have : n = 300 := by omega
    subst this
    rw [if_neg (show ¬ nI 300 < 300 by decide)]
    exact ⟨rfl, fun _ => ⟨rfl, h2, rfl, h4, h5, h6, h7⟩, fun e => by omega, fun e => by omega⟩
theorem begin_spec (t : Ob) : tpAt (Tape_begin t) true 0 0 m0 0 0 ∧ ∀ K, tpKept K (Tape_begin t) m0 := by
  refine ⟨⟨rfl, fun i _ => ?_, rfl, rfl, rfl, rfl, rfl⟩, fun K i hi => by simp [m0] at hi⟩
  show (ofil t 0 0).1 0 i = 0
  unfold ofil
  rw [oR_1, if_pos rfl]
theorem leave_spec_k {t : Ob} {m : Me} {c n k : Nat} {x : Int32} (h : tpAt t true 0 0 m c n) (hk : k < 3) (hn : n ≤ 300) :
    (Tape_leaveBy_k t (nI k) x).2.1 = t.1 ∧ (n = 300 → tpAt (Tape_leaveBy_k t (nI k) x).2 false 2 0 m c n) ∧ (n < 300 → k = 0 → tpAt (Tape_leaveBy_k t (nI k) x).2 false 0 x m c (n + 1)) ∧ (n < 300 → k ≠ 0 → (Tape_leaveBy_k t (nI k) x).1 = nI (wyN k x) ∧ tpAt (Tape_leaveBy_k t (nI k) x).2 true 0 0 m (c + (if k = 2 then 2 else 1)) (n + 1)) := by
  obtain ⟨h1, h2, h3, h4, h5, h6, h7⟩ := h
  unfold Tape_leaveBy_k
  rw [if_pos h1, h7]
  rcases Nat.lt_or_ge n 300 with hlt | hge
  · rw [if_pos (show nI n < 300 from nI_lt (a := n) (b := 300) hlt (by decide)), nI_1]
    by_cases k0 : k = 0
    · subst k0
      rw [if_pos (show nI 0 = 0 from rfl)]
      exact ⟨rfl, fun e => by omega, fun _ _ => ⟨rfl, h2, rfl, rfl, h5, h6, rfl⟩, fun _ e => absurd rfl e⟩
    · rw [if_neg (show ¬ nI k = 0 from nI_ne0 (by omega) (by omega))]
      by_cases k2 : k = 2
      · subst k2
        rw [if_pos (show nI 2 = 2 from rfl)]
        unfold Tape_leaveBy_k_67 Tape_leaveBy_k_84
        have hc : t.2.1 3 + 2 = nI (c + 2) := by rw [h6]; exact nI_add c 2
        rw [if_pos (show nI 2 = 2 from rfl), hc]
        by_cases hx : 0 < x
        · rw [if_pos hx]
          refine ⟨rfl, fun e => by omega, fun _ e => absurd e (by decide), fun _ _ => ⟨?_, ⟨h1, h2, h3, h4, h5, rfl, rfl⟩⟩⟩
          have : wyN 2 x = 0 := by unfold wyN; rw [if_neg (fun z => z.2 hx)]
          rw [this]; rfl
        · rw [if_neg hx]
          refine ⟨rfl, fun e => by omega, fun _ e => absurd e (by decide), fun _ _ => ⟨?_, ⟨h1, h2, h3, h4, h5, rfl, rfl⟩⟩⟩
          have : wyN 2 x = 1 := by unfold wyN; rw [if_pos ⟨rfl, hx⟩]
          rw [this]; rfl
      · have k1 : k = 1 := by omega
        subst k1
        rw [if_neg (show ¬ nI 1 = 2 by decide)]
        unfold Tape_leaveBy_k_67 Tape_leaveBy_k_84
        have hc : t.2.1 3 + 1 = nI (c + 1) := by rw [h6]; exact nI_add c 1
        rw [if_neg (show ¬ nI 1 = 2 by decide), hc]
        exact ⟨rfl, fun e => by omega, fun _ e => absurd e (by decide), fun _ _ => ⟨rfl, ⟨h1, h2, h3, h4, h5, rfl, rfl⟩⟩⟩
  · have : n = 300 := by omega
    subst this
    rw [if_neg (show ¬ nI 300 < 300 by decide)]
    exact ⟨rfl, fun _ => ⟨rfl, h2, rfl, h4, h5, h6, h7⟩, fun e => by omega, fun e => by omega⟩
theorem begin_spec_k (t : Ob) : tpAt (Tape_begin_k t) true 0 0 m0 0 0 ∧ ∀ K, tpKept K (Tape_begin_k t) m0 := by
  refine ⟨⟨rfl, fun i _ => ?_, rfl, rfl, rfl, rfl, rfl⟩, fun K i hi => by simp [m0] at hi⟩
  show (ofil t 0 0).1 0 i = 0
  unfold ofil
  rw [oR_1, if_pos rfl]
