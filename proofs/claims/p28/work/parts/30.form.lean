/-! FORMS: what their methods do to the rows, at places that are within -/
def tn (x : Int32) : Nat := x.toNatClampNeg
def isN (x : Int32) (m : Nat) : Prop := x = nI (tn x) ∧ tn x < m
theorem tn_nI {k : Nat} (h : k < 2147483648) : tn (nI k) = k := nI_clamp h
theorem isN_nI {k m : Nat} (h : k < m) (hm : m ≤ 2147483648) : isN (nI k) m := by
  have h1 : tn (nI k) = k := tn_nI (by omega)
  exact ⟨by rw [h1], by rw [h1]; exact h⟩
theorem isN.mono {x : Int32} {m n : Nat} (h : isN x m) (hmn : m ≤ n) : isN x n := ⟨h.1, Nat.lt_of_lt_of_le h.2 hmn⟩
theorem isN.ne {x : Int32} {m : Nat} (h : isN x m) (hm : m ≤ 2147483648) : x ≠ -1 := by
  rw [h.1]
  exact nI_m1 (by have := h.2; omega)
theorem nI_mul (a b : Nat) : nI a * nI b = nI (a * b) := (Int32.ofNat_mul a b).symm
theorem ix140 (b k : Nat) : nI b * 140 + nI k = nI (b * 140 + k) := by
  have h : nI b * 140 = nI (b * 140) := nI_mul b 140
  rw [h, nI_add]
theorem ix20 (b k : Nat) : nI b * 20 + nI k = nI (b * 20 + k) := by
  have h : nI b * 20 = nI (b * 20) := nI_mul b 20
  rw [h, nI_add]
theorem ix8 (b k : Nat) : nI b * 8 + nI k = nI (b * 8 + k) := by
  have h : nI b * 8 = nI (b * 8) := nI_mul b 8
  rw [h, nI_add]
theorem ix6 (b k : Nat) : nI b * 6 + nI k = nI (b * 6 + k) := by
  have h : nI b * 6 = nI (b * 6) := nI_mul b 6
  rw [h, nI_add]
theorem ix2 (b k : Nat) : nI b * 2 + nI k = nI (b * 2 + k) := by
  have h : nI b * 2 = nI (b * 2) := nI_mul b 2
  rw [h, nI_add]
theorem ix2_0 (b : Nat) : nI b * 2 = nI (b * 2) := nI_mul b 2
theorem ix140u (b : Nat) : (140 : Int32) + nI b = nI (140 + b) := nI_add 140 b
/-- one place of one row -/
def rs (f : Ob) (i k : Nat) (y : Int32) : Ob := oR f i (ru (f.1 i) k y)
theorem rs_1 (f : Ob) (i k : Nat) (y : Int32) (j m : Nat) : (rs f i k y).1 j m = if j = i ∧ m = k then y else f.1 j m := by
  unfold rs
  rw [oR_1]
  by_cases h : j = i
  · subst h
    rw [if_pos rfl, ru_at]
    by_cases h2 : m = k
    · simp [h2]
    · simp [h2]
  · rw [if_neg h, if_neg (fun q => h q.1)]
theorem rs_r (f : Ob) (i k : Nat) (y : Int32) {j : Nat} (h : j ≠ i) : (rs f i k y).1 j = f.1 j := by
  funext m
  rw [rs_1, if_neg (fun q => h q.1)]
theorem rs_i (f : Ob) (i k : Nat) (y : Int32) (m : Nat) : (rs f i k y).1 i m = if m = k then y else f.1 i m := by
  rw [rs_1]
  by_cases h : m = k
  · rw [if_pos ⟨rfl, h⟩, if_pos h]
  · rw [if_neg (fun q => h q.2), if_neg h]
theorem rs_2 (f : Ob) (i k : Nat) (y : Int32) : (rs f i k y).2 = f.2 := rfl
theorem oput_rs {f : Ob} {i n k : Nat} {y : Int32} (hk : k < n) (hn : n ≤ 100000) : oput f i n (nI k) y = rs f i k y := oput_nI hk (by omega)
theorem oat_rs {f : Ob} {i n k : Nat} (hk : k < n) (hn : n ≤ 100000) : oat f i n (nI k) = f.1 i k := oat_nI hk (by omega)
theorem putInto_eq {f : Ob} {v b s : Nat} (hv : v < 140) (hb : b < 10) (hs : f.1 7 b = nI s) (hs1 : s < 140) : Form_putInto f (nI v) (nI b) = rs (rs (rs f 1 v (nI b)) 8 (b * 140 + s) (nI v)) 7 b (nI (s + 1)) := by
  unfold Form_putInto
  rw [oat_rs hb (by decide), hs, ix140, nI_1, oput_rs hv (by decide), oput_rs hb (by decide), oput_rs (by omega) (by decide)]
theorem addEdge_eq {f : Ob} {w t e : Nat} (hw : w < 20) (ht : t < 10) (he : f.1 9 t = nI e) (he1 : e < 20) : Form_addEdge f (nI w) (nI t) = rs (rs (rs f 12 w (nI t)) 10 (t * 20 + e) (nI w)) 9 t (nI (e + 1)) := by
  unfold Form_addEdge
  rw [oat_rs ht (by decide), he, ix20, nI_1, oput_rs hw (by decide), oput_rs ht (by decide), oput_rs (by omega) (by decide)]
theorem addArgument_eq {f : Ob} {u c g : Nat} {v x : Int32} (hu : u < 150) (hc : f.1 3 u = nI c) (hc1 : c < 290) (hg : f.2.1 3 = nI g) (hg1 : g < 290) : Form_addArgument f (nI u) v x = oG (rs (rs (rs (if c = 0 then rs f 4 u (nI g) else f) 5 g v) 6 g x) 3 u (nI (c + 1))) 3 (nI (g + 1)) := by
  unfold Form_addArgument Form_addArgument_27
  rw [oat_rs hu (by decide), hc]
  by_cases h : c = 0
  · subst h
    have e4 : oput f 4 150 (nI u) (nI g) = rs f 4 u (nI g) := oput_rs hu (by decide)
    rw [if_pos (show nI 0 = 0 from nI_0), if_pos rfl, hg, e4]
    have h2 : (rs f 4 u (nI g)).2.1 3 = nI g := hg
    rw [h2, nI_1, nI_1, oput_rs hg1 (by decide), oput_rs hg1 (by decide), oput_rs hu (by decide)]
  · rw [if_neg (show ¬ nI c = 0 from nI_ne0 (by omega) (by omega)), if_neg h, hg, nI_1, nI_1, oput_rs hg1 (by decide), oput_rs hg1 (by decide), oput_rs hu (by decide)]
theorem addValue_eq {f : Ob} {n b s : Nat} {k x : Int32} (hn : f.2.1 2 = nI n) (hn1 : n < 140) (hb : b < 10) (hs : f.1 7 b = nI s) (hs1 : s < 140) : Form_addValue f (nI b) k x = oG (rs (rs (rs (rs (rs (rs f 0 n k) 2 n x) 1 n (-1)) 1 n (nI b)) 8 (b * 140 + s) (nI n)) 7 b (nI (s + 1))) 2 (nI (n + 1)) := by
  unfold Form_addValue Form_addValue_50
  rw [if_neg (nI_m1 (by omega)), hn, oput_rs hn1 (by decide), oput_rs hn1 (by decide), oput_rs hn1 (by decide)]
  have h7 : (rs (rs (rs f 0 n k) 2 n x) 1 n (-1)).1 7 b = nI s := by
    rw [rs_r _ _ _ _ (by decide), rs_r _ _ _ _ (by decide), rs_r _ _ _ _ (by decide)]
    exact hs
  rw [putInto_eq hn1 hb h7 hs1]
  have h2 : (rs (rs (rs (rs (rs (rs f 0 n k) 2 n x) 1 n (-1)) 1 n (nI b)) 8 (b * 140 + s) (nI n)) 7 b (nI (s + 1))).2.1 2 = nI n := hn
  rw [h2, nI_1]
theorem addValue0_eq {f : Ob} {n : Nat} {k x : Int32} (hn : f.2.1 2 = nI n) (hn1 : n < 140) : Form_addValue f (-1) k x = oG (rs (rs (rs f 0 n k) 2 n x) 1 n (-1)) 2 (nI (n + 1)) := by
  unfold Form_addValue Form_addValue_50
  rw [if_pos rfl, hn, oput_rs hn1 (by decide), oput_rs hn1 (by decide), oput_rs hn1 (by decide)]
  have h2 : (rs (rs (rs f 0 n k) 2 n x) 1 n (-1)).2.1 2 = nI n := hn
  rw [h2, nI_1]
theorem lose_eq {f : Ob} {v : Nat} (hv : v < 140) : Form_lose f (nI v) = if f.1 1 v = -1 then f else oG (rs (rs f 1 v (-1)) 3 v 0) 5 (f.2.1 5 + 1) := by
  unfold Form_lose
  rw [oat_rs hv (by decide)]
  by_cases h : f.1 1 v = -1
  · rw [if_pos h, if_pos h]
  · rw [if_neg h, if_neg h, oput_rs hv (by decide), oput_rs (by omega) (by decide)]
theorem valueIn_eq {f : Ob} {b k : Nat} (h : b * 140 + k < 1400) : Form_valueIn f (nI b) (nI k) = f.1 8 (b * 140 + k) := by
  unfold Form_valueIn
  rw [ix140, oat_rs h (by decide)]
theorem wayTo_eq {f : Ob} {b k : Nat} (h : b * 20 + k < 200) : Form_wayTo f (nI b) (nI k) = f.1 10 (b * 20 + k) := by
  unfold Form_wayTo
  rw [ix20, oat_rs h (by decide)]
theorem valueOf_eq {f : Ob} {u k c a : Nat} (hu : u < 150) (hk : k < 100000) (hc : f.1 3 u = nI c) (hc1 : c < 291) (ha : f.1 4 u = nI a) (hac : k < c → a + k < 290) : Form_valueOf f (nI u) (nI k) = if k < c then f.1 5 (a + k) else -1 := by
  unfold Form_valueOf Form_valueOf_36
  rw [if_neg (nI_pos (by omega)), oat_rs hu (by decide), hc, oat_rs hu (by decide), ha]
  by_cases h : k < c
  · rw [if_pos (show nI k < nI c from nI_lt h (by omega)), if_pos h, nI_add, oat_rs (hac h) (by decide)]
  · rw [if_neg (show ¬ nI k < nI c from nI_nlt (by omega) (by omega)), if_neg h]
theorem numberOf_eq {f : Ob} {u k c a : Nat} (hu : u < 150) (hk : k < 100000) (hc : f.1 3 u = nI c) (hc1 : c < 291) (ha : f.1 4 u = nI a) (hac : k < c → a + k < 290) : Form_numberOf f (nI u) (nI k) = if k < c then f.1 6 (a + k) else 0 := by
  unfold Form_numberOf Form_numberOf_36
  rw [if_neg (nI_pos (by omega)), oat_rs hu (by decide), hc, oat_rs hu (by decide), ha]
  by_cases h : k < c
  · rw [if_pos (show nI k < nI c from nI_lt h (by omega)), if_pos h, nI_add, oat_rs (hac h) (by decide)]
  · rw [if_neg (show ¬ nI k < nI c from nI_nlt (by omega) (by omega)), if_neg h]
theorem valueOf_m1 {f : Ob} {u : Int32} : Form_valueOf f u (-1) = -1 := by
  unfold Form_valueOf Form_valueOf_36
  rw [if_pos (by decide)]
theorem numberOf_m1 {f : Ob} {u : Int32} : Form_numberOf f u (-1) = 0 := by
  unfold Form_numberOf Form_numberOf_36
  rw [if_pos (by decide)]
theorem takeEnd_eq {f : Ob} {b o : Nat} (hb : b < 10) (ho : o < 10) (hne : b ≠ o) : Form_takeEnd f (nI b) (nI o) = rs (rs (rs (rs f 11 b (f.1 11 o)) 4 (140 + b) (f.1 4 (140 + o))) 3 (140 + b) (f.1 3 (140 + o))) 3 (140 + o) 0 := by
  unfold Form_takeEnd
  rw [ix140u, ix140u, oat_rs ho (by decide), oat_rs (by omega) (by decide), oat_rs (by omega) (by decide), oput_rs hb (by decide), oput_rs (by omega) (by decide), oput_rs (by omega) (by decide), oput_rs (by omega) (by decide)]
/-- where the edge of a way stands among those to a block -/
theorem edgeOf_eq {f : Ob} {b e : Nat} (w : Int32) (hb : b < 10) (he : f.1 9 b = nI e) (he1 : e ≤ 20) : (∃ k, k < e ∧ f.1 10 (b * 20 + k) = w ∧ (∀ j, j < k → f.1 10 (b * 20 + j) ≠ w) ∧ Form_edgeOf f (nI b) w = nI k) ∨ (Form_edgeOf f (nI b) w = -1 ∧ ∀ j, j < e → f.1 10 (b * 20 + j) ≠ w) := by
  unfold Form_edgeOf Form_edgeOf_L2
  refine loop_brk (B := fun a : Int32 => Form_edgeOf_L2b f (nI b) w a) (mk := fun i (_ : Unit) => nI i) (n := e) (I := fun k _ => ∀ j, j < k → f.1 10 (b * 20 + j) ≠ w) (P := fun r => (∃ k, k < e ∧ f.1 10 (b * 20 + k) = w ∧ (∀ j, j < k → f.1 10 (b * 20 + j) ≠ w) ∧ r = nI k) ∨ (r = -1 ∧ ∀ j, j < e → f.1 10 (b * 20 + j) ≠ w)) (fun i s hi hI => ?_) (fun s hI => ?_) e 0 () (by omega) (fun j hj => by omega)
  · have hB : Form_edgeOf_L2b f (nI b) w (nI i) = if f.1 10 (b * 20 + i) = w then .inr (nI i) else .inl (nI (i + 1)) := by
      unfold Form_edgeOf_L2b
      rw [oat_rs hb (by decide), he, if_pos (show nI i < nI e from nI_lt hi (by omega)), ix20, oat_rs (by omega) (by decide), nI_1]
    by_cases h : f.1 10 (b * 20 + i) = w
    · right
      exact ⟨nI i, by show Form_edgeOf_L2b f (nI b) w (nI i) = _; rw [hB, if_pos h], Or.inl ⟨i, hi, h, hI, rfl⟩⟩
    · left
      refine ⟨(), by show Form_edgeOf_L2b f (nI b) w (nI i) = _; rw [hB, if_neg h], fun j hj => ?_⟩
      by_cases hji : j = i
      · subst hji; exact h
      · exact hI j (by omega)
  · refine ⟨-1, ?_, Or.inr ⟨rfl, hI⟩⟩
    show Form_edgeOf_L2b f (nI b) w (nI e) = _
    unfold Form_edgeOf_L2b
    rw [oat_rs hb (by decide), he, if_neg (show ¬ nI e < nI e from nI_nlt (Nat.le_refl _) (by omega))]
/-- what is kept of a form whose rows are those of another one but for some -/
def sameBut (f g : Ob) (R : List Nat) : Prop := ∀ i, i ∉ R → f.1 i = g.1 i
/-- all arguments that are a value become another one -/
abbrev inSeg (f : Ob) (u i : Nat) : Prop := tn (f.1 4 u) ≤ i ∧ i < tn (f.1 4 u) + tn (f.1 3 u)
def segs (f : Ob) (n i : Nat) : Bool := (List.range n).any fun u => decide (inSeg f u i)
theorem segs_iff {f : Ob} {n i : Nat} : segs f n i = true ↔ ∃ u, u < n ∧ inSeg f u i := by
  unfold segs
  rw [List.any_eq_true]
  constructor
  · rintro ⟨u, hu, h⟩; exact ⟨u, List.mem_range.mp hu, of_decide_eq_true h⟩
  · rintro ⟨u, hu, h⟩; exact ⟨u, List.mem_range.mpr hu, decide_eq_true h⟩
theorem segs_0 {f : Ob} {i : Nat} : ¬ segs f 0 i = true := by
  rw [segs_iff]
  rintro ⟨u, hu, -⟩
  omega
theorem segs_s {f : Ob} {n i : Nat} : segs f (n + 1) i = true ↔ segs f n i = true ∨ inSeg f n i := by
  rw [segs_iff, segs_iff]
  constructor
  · rintro ⟨u, hu, h⟩
    by_cases hun : u = n
    · subst hun; exact Or.inr h
    · exact Or.inl ⟨u, by omega, h⟩
  · rintro (⟨u, hu, h⟩ | h)
    · exact ⟨u, by omega, h⟩
    · exact ⟨n, by omega, h⟩
def segOk (f : Ob) : Prop := ∀ u, u < 150 → isN (f.1 3 u) 291 ∧ isN (f.1 4 u) 291 ∧ (tn (f.1 3 u) ≠ 0 → tn (f.1 4 u) + tn (f.1 3 u) ≤ 290)
theorem redirect_in {f : Ob} {v x y : Int32} {u a c : Nat} (w4 : Int32) (hxv : x ≠ v) (hac : c ≠ 0 → a + c ≤ 290) (hc1 : c ≤ 290) (ha1 : a ≤ 290) (hu : u < 150) (hc : f.1 3 u = nI c) (hw : w4 = nI u) :
    ∃ g, Form_redirect_L26 f v x y w4 (nI a) (nI a) = .inl (nI (u + 1), g) ∧ g.2 = f.2 ∧ (∀ i, i ≠ 5 → i ≠ 6 → g.1 i = f.1 i) ∧ (∀ i, g.1 5 i = if (a ≤ i ∧ i < a + c) ∧ f.1 5 i = v then x else f.1 5 i) ∧ (∀ i, g.1 6 i = if (a ≤ i ∧ i < a + c) ∧ f.1 5 i = v then y else f.1 6 i) := by
  subst hw
  unfold Form_redirect_L26
  refine loop_cnt (B := fun q : Int32 × Ob => Form_redirect_L26b q.2 v x y (nI u) (nI a) q.1) (mk := fun i (s : Ob) => (nI (a + i), s)) (n := c)
    (I := fun n s => s.2 = f.2 ∧ (∀ i, i ≠ 5 → i ≠ 6 → s.1 i = f.1 i) ∧ (∀ i, s.1 5 i = if (a ≤ i ∧ i < a + n) ∧ f.1 5 i = v then x else f.1 5 i) ∧ (∀ i, s.1 6 i = if (a ≤ i ∧ i < a + n) ∧ f.1 5 i = v then y else f.1 6 i))
    (P := fun r => ∃ g, r = .inl (nI (u + 1), g) ∧ g.2 = f.2 ∧ (∀ i, i ≠ 5 → i ≠ 6 → g.1 i = f.1 i) ∧ (∀ i, g.1 5 i = if (a ≤ i ∧ i < a + c) ∧ f.1 5 i = v then x else f.1 5 i) ∧ (∀ i, g.1 6 i = if (a ≤ i ∧ i < a + c) ∧ f.1 5 i = v then y else f.1 6 i))
    (fun n s hn hI => ?_) (fun s hI => ?_) c 0 f (by omega) ⟨rfl, fun _ _ _ => rfl, fun i => by rw [if_neg (by omega)], fun i => by rw [if_neg (by omega)]⟩
  · obtain ⟨h1, h2, h3, h4⟩ := hI
    have hlt : a + n < 290 := by omega
    have h53 : s.1 3 u = nI c := by rw [h2 3 (by decide) (by decide)]; exact hc
    have h5n : s.1 5 (a + n) = f.1 5 (a + n) := by rw [h3, if_neg (by omega)]
    have hB : Form_redirect_L26b s v x y (nI u) (nI a) (nI (a + n)) = if f.1 5 (a + n) = v then .inl (nI (a + (n + 1)), rs (rs s 5 (a + n) x) 6 (a + n) y) else .inl (nI (a + (n + 1)), s) := by
      unfold Form_redirect_L26b Form_redirect_76
      rw [oat_rs hu (by decide), h53, nI_add, if_pos (show nI (a + n) < nI (a + c) from nI_lt (by omega) (by omega)), oat_rs hlt (by decide), h5n, nI_1, oput_rs hlt (by decide), oput_rs hlt (by decide)]
      rfl
    by_cases h : f.1 5 (a + n) = v
    · refine ⟨rs (rs s 5 (a + n) x) 6 (a + n) y, by show Form_redirect_L26b s v x y (nI u) (nI a) (nI (a + n)) = _; rw [hB, if_pos h], h1, fun i q1 q2 => ?_, fun i => ?_, fun i => ?_⟩
      · rw [rs_r _ _ _ _ q2, rs_r _ _ _ _ q1]
        exact h2 i q1 q2
      · rw [rs_r _ _ _ _ (show 5 ≠ 6 by decide), rs_i]
        by_cases hi : i = a + n
        · rw [if_pos hi, if_pos ⟨by omega, by rw [hi]; exact h⟩]
        · rw [if_neg hi, h3]
          by_cases hq : (a ≤ i ∧ i < a + n) ∧ f.1 5 i = v
          · rw [if_pos hq, if_pos ⟨by omega, hq.2⟩]
          · rw [if_neg hq, if_neg (fun z => hq ⟨by omega, z.2⟩)]
      · rw [rs_i, rs_r _ _ _ _ (show 6 ≠ 5 by decide)]
        by_cases hi : i = a + n
        · rw [if_pos hi, if_pos ⟨by omega, by rw [hi]; exact h⟩]
        · rw [if_neg hi, h4]
          by_cases hq : (a ≤ i ∧ i < a + n) ∧ f.1 5 i = v
          · rw [if_pos hq, if_pos ⟨by omega, hq.2⟩]
          · rw [if_neg hq, if_neg (fun z => hq ⟨by omega, z.2⟩)]
    · refine ⟨s, by show Form_redirect_L26b s v x y (nI u) (nI a) (nI (a + n)) = _; rw [hB, if_neg h], h1, h2, fun i => ?_, fun i => ?_⟩
      · rw [h3]
        by_cases hi : i = a + n
        · subst hi
          rw [if_neg (by omega), if_neg (fun z => h z.2)]
        · by_cases hq : (a ≤ i ∧ i < a + n) ∧ f.1 5 i = v
          · rw [if_pos hq, if_pos ⟨by omega, hq.2⟩]
          · rw [if_neg hq, if_neg (fun z => hq ⟨by omega, z.2⟩)]
      · rw [h4]
        by_cases hi : i = a + n
        · subst hi
          rw [if_neg (by omega), if_neg (fun z => h z.2)]
        · by_cases hq : (a ≤ i ∧ i < a + n) ∧ f.1 5 i = v
          · rw [if_pos hq, if_pos ⟨by omega, hq.2⟩]
          · rw [if_neg hq, if_neg (fun z => hq ⟨by omega, z.2⟩)]
  · refine ⟨.inl (nI (u + 1), s), ?_, s, rfl, hI⟩
    show Form_redirect_L26b s v x y (nI u) (nI a) (nI (a + c)) = _
    unfold Form_redirect_L26b
    have h53 : s.1 3 u = nI c := by rw [hI.2.1 3 (by decide) (by decide)]; exact hc
    rw [oat_rs hu (by decide), h53, nI_add, if_neg (show ¬ nI (a + c) < nI (a + c) from nI_nlt (Nat.le_refl _) (by omega)), nI_1]
theorem lt150 {i : Nat} (h : i < 150) : nI i < 150 := nI_lt (a := i) (b := 150) h (by decide)
theorem lt140 {i : Nat} (h : i < 140) : nI i < 140 := nI_lt (a := i) (b := 140) h (by decide)
theorem redirect_eq {f : Ob} {v x y : Int32} (hxv : x ≠ v) (hs : segOk f) : (Form_redirect f v x y).2 = f.2 ∧ (∀ i, i ≠ 5 → i ≠ 6 → (Form_redirect f v x y).1 i = f.1 i) ∧ (∀ i, (Form_redirect f v x y).1 5 i = if segs f 150 i = true ∧ f.1 5 i = v then x else f.1 5 i) ∧ (∀ i, (Form_redirect f v x y).1 6 i = if segs f 150 i = true ∧ f.1 5 i = v then y else f.1 6 i) := by
  unfold Form_redirect Form_redirect_L3
  refine loop_cnt (B := fun q : Int32 × Ob => Form_redirect_L3b q.2 v x y q.1) (mk := fun i (s : Ob) => (nI i, s)) (n := 150)
    (I := fun n s => s.2 = f.2 ∧ (∀ i, i ≠ 5 → i ≠ 6 → s.1 i = f.1 i) ∧ (∀ i, s.1 5 i = if segs f n i = true ∧ f.1 5 i = v then x else f.1 5 i) ∧ (∀ i, s.1 6 i = if segs f n i = true ∧ f.1 5 i = v then y else f.1 6 i))
    (P := fun g => g.2 = f.2 ∧ (∀ i, i ≠ 5 → i ≠ 6 → g.1 i = f.1 i) ∧ (∀ i, g.1 5 i = if segs f 150 i = true ∧ f.1 5 i = v then x else f.1 5 i) ∧ (∀ i, g.1 6 i = if segs f 150 i = true ∧ f.1 5 i = v then y else f.1 6 i))
    (fun n s hn hI => ?_) (fun s hI => ?_) 150 0 f rfl ⟨rfl, fun _ _ _ => rfl, fun i => by rw [if_neg (fun q => segs_0 q.1)], fun i => by rw [if_neg (fun q => segs_0 q.1)]⟩
  · obtain ⟨h1, h2, h3, h4⟩ := hI
    obtain ⟨g1, g2, g3⟩ := hs n hn
    have e3 : s.1 3 n = nI (tn (f.1 3 n)) := by rw [h2 3 (by decide) (by decide)]; exact g1.1
    have e4 : oat s 4 150 (nI n) = nI (tn (f.1 4 n)) := by rw [oat_rs hn (by decide), h2 4 (by decide) (by decide)]; exact g2.1
    obtain ⟨g, k1, k2, k3, k4, k5⟩ := redirect_in (f := s) (v := v) (x := x) (y := y) (nI n) hxv g3 (by have := g1.2; omega) (by have := g2.2; omega) hn e3 rfl
    have hseg : ∀ {i : Nat}, (tn (f.1 4 n) ≤ i ∧ i < tn (f.1 4 n) + tn (f.1 3 n)) ↔ inSeg f n i := Iff.rfl
    refine ⟨g, ?_, k2.trans h1, fun i q1 q2 => by rw [k3 i q1 q2]; exact h2 i q1 q2, fun i => ?_, fun i => ?_⟩
    · show Form_redirect_L3b s v x y (nI n) = _
      unfold Form_redirect_L3b
      rw [if_pos (lt150 hn), e4]
      exact k1
    · rw [k4]
      by_cases hv : f.1 5 i = v
      · by_cases hE : segs f n i = true
        · have e5 : s.1 5 i = x := by rw [h3, if_pos ⟨hE, hv⟩]
          rw [e5, if_neg (fun q => hxv q.2), if_pos ⟨segs_s.mpr (Or.inl hE), hv⟩]
        · have e5 : s.1 5 i = f.1 5 i := by rw [h3, if_neg (fun q => hE q.1)]
          rw [e5]
          by_cases hq : inSeg f n i
          · rw [if_pos ⟨hseg.mpr hq, hv⟩, if_pos ⟨segs_s.mpr (Or.inr hq), hv⟩]
          · rw [if_neg (fun q => hq (hseg.mp q.1)), if_neg (fun q => (segs_s.mp q.1).elim hE hq)]
      · have e5 : s.1 5 i = f.1 5 i := by rw [h3, if_neg (fun q => hv q.2)]
        rw [e5, if_neg (fun q => hv q.2), if_neg (fun q => hv q.2)]
    · rw [k5]
      by_cases hv : f.1 5 i = v
      · by_cases hE : segs f n i = true
        · have e5 : s.1 5 i = x := by rw [h3, if_pos ⟨hE, hv⟩]
          have e6 : s.1 6 i = y := by rw [h4, if_pos ⟨hE, hv⟩]
          rw [e5, if_neg (fun q => hxv q.2), e6, if_pos ⟨segs_s.mpr (Or.inl hE), hv⟩]
        · have e5 : s.1 5 i = f.1 5 i := by rw [h3, if_neg (fun q => hE q.1)]
          have e6 : s.1 6 i = f.1 6 i := by rw [h4, if_neg (fun q => hE q.1)]
          rw [e5, e6]
          by_cases hq : inSeg f n i
          · rw [if_pos ⟨hseg.mpr hq, hv⟩, if_pos ⟨segs_s.mpr (Or.inr hq), hv⟩]
          · rw [if_neg (fun q => hq (hseg.mp q.1)), if_neg (fun q => (segs_s.mp q.1).elim hE hq)]
      · have e5 : s.1 5 i = f.1 5 i := by rw [h3, if_neg (fun q => hv q.2)]
        have e6 : s.1 6 i = f.1 6 i := by rw [h4, if_neg (fun q => hv q.2)]
        rw [e5, e6, if_neg (fun q => hv q.2), if_neg (fun q => hv q.2)]
  · refine ⟨s, ?_, hI⟩
    show Form_redirect_L3b s v x y (nI 150) = _
    unfold Form_redirect_L3b
    rw [if_neg (by decide)]
/-- an argument is taken out of a user's: those behind it move up -/
theorem dropArgument_eq {f : Ob} {u k c a : Nat} (hu : u < 150) (hk : k < 290) (hc : f.1 3 u = nI c) (hc1 : c < 291) (ha : f.1 4 u = nI a) (hac : a + c ≤ 290) :
    (c ≤ k → Form_dropArgument f (nI u) (nI k) = f) ∧ (k < c → (Form_dropArgument f (nI u) (nI k)).2 = f.2 ∧ (∀ i, i ≠ 3 → i ≠ 5 → i ≠ 6 → (Form_dropArgument f (nI u) (nI k)).1 i = f.1 i) ∧ (∀ w, (Form_dropArgument f (nI u) (nI k)).1 3 w = if w = u then nI (c - 1) else f.1 3 w) ∧ (∀ i, (Form_dropArgument f (nI u) (nI k)).1 5 i = if a + k ≤ i ∧ i < a + c - 1 then f.1 5 (i + 1) else f.1 5 i) ∧ (∀ i, (Form_dropArgument f (nI u) (nI k)).1 6 i = if a + k ≤ i ∧ i < a + c - 1 then f.1 6 (i + 1) else f.1 6 i)) := by
  unfold Form_dropArgument
  rw [oat_rs hu (by decide), hc, oat_rs hu (by decide), ha]
  constructor
  · intro h
    have h1 : nI c - 1 < nI k := by
      cases c with
      | zero =>
        have e : nI 0 - 1 = -1 := by decide
        rw [e]
        refine Int32.lt_iff_toInt_lt.mpr ?_
        rw [nI_toInt (by omega)]
        have e2 : (-1 : Int32).toInt = -1 := by decide
        rw [e2]
        omega
      | succ c =>
        rw [nI_pred]
        exact nI_lt (by omega) (by omega)
    rw [if_pos h1]
  · intro h
    obtain ⟨c', rfl⟩ : ∃ c', c = c' + 1 := ⟨c - 1, by omega⟩
    rw [nI_pred, if_neg (show ¬ nI c' < nI k from nI_nlt (by omega) (by omega)), nI_add]
    show (fun g : Ob => g.2 = f.2 ∧ (∀ i, i ≠ 3 → i ≠ 5 → i ≠ 6 → g.1 i = f.1 i) ∧ (∀ w, g.1 3 w = if w = u then nI (c' + 1 - 1) else f.1 3 w) ∧ (∀ i, g.1 5 i = if a + k ≤ i ∧ i < a + (c' + 1) - 1 then f.1 5 (i + 1) else f.1 5 i) ∧ (∀ i, g.1 6 i = if a + k ≤ i ∧ i < a + (c' + 1) - 1 then f.1 6 (i + 1) else f.1 6 i)) (Form_dropArgument_L33 f (nI u) (nI a) (nI c') (nI (a + k)))
    unfold Form_dropArgument_L33
    refine loop_cnt (B := fun q : Int32 × Ob => Form_dropArgument_L33b q.2 (nI u) (nI a) (nI c') q.1) (mk := fun i (s : Ob) => (nI (a + k + i), s)) (n := c' - k)
      (I := fun n s => s.2 = f.2 ∧ (∀ i, i ≠ 5 → i ≠ 6 → s.1 i = f.1 i) ∧ (∀ i, s.1 5 i = if a + k ≤ i ∧ i < a + k + n then f.1 5 (i + 1) else f.1 5 i) ∧ (∀ i, s.1 6 i = if a + k ≤ i ∧ i < a + k + n then f.1 6 (i + 1) else f.1 6 i)) (P := fun g : Ob => g.2 = f.2 ∧ (∀ i, i ≠ 3 → i ≠ 5 → i ≠ 6 → g.1 i = f.1 i) ∧ (∀ w, g.1 3 w = if w = u then nI (c' + 1 - 1) else f.1 3 w) ∧ (∀ i, g.1 5 i = if a + k ≤ i ∧ i < a + (c' + 1) - 1 then f.1 5 (i + 1) else f.1 5 i) ∧ (∀ i, g.1 6 i = if a + k ≤ i ∧ i < a + (c' + 1) - 1 then f.1 6 (i + 1) else f.1 6 i)) (fun n s hn hI => ?_) (fun s hI => ?_) (c' - k) 0 f (by omega) ⟨rfl, fun _ _ _ => rfl, fun i => by rw [if_neg (by omega)], fun i => by rw [if_neg (by omega)]⟩
    · obtain ⟨h1, h2, h3, h4⟩ := hI
      have hlt : a + k + n + 1 < 290 := by omega
      refine ⟨rs (rs s 5 (a + k + n) (f.1 5 (a + k + n + 1))) 6 (a + k + n) (f.1 6 (a + k + n + 1)), ?_, h1, fun i q1 q2 => ?_, fun i => ?_, fun i => ?_⟩
      · show Form_dropArgument_L33b s (nI u) (nI a) (nI c') (nI (a + k + n)) = _
        unfold Form_dropArgument_L33b
        rw [nI_add, if_pos (show nI (a + k + n) < nI (a + c') from nI_lt (by omega) (by omega)), nI_1, oat_rs hlt (by decide), oat_rs hlt (by decide), oput_rs (by omega) (by decide), oput_rs (by omega) (by decide), h3, h4, if_neg (by omega), if_neg (by omega)]
        rfl
      · rw [rs_r _ _ _ _ q2, rs_r _ _ _ _ q1]
        exact h2 i q1 q2
      · rw [rs_r _ _ _ _ (show 5 ≠ 6 by decide), rs_i]
        by_cases hi : i = a + k + n
        · rw [if_pos hi, if_pos (by omega), hi]
        · rw [if_neg hi, h3]
          by_cases hq : a + k ≤ i ∧ i < a + k + n
          · rw [if_pos hq, if_pos (by omega)]
          · rw [if_neg hq, if_neg (by omega)]
      · rw [rs_i, rs_r _ _ _ _ (show 6 ≠ 5 by decide)]
        by_cases hi : i = a + k + n
        · rw [if_pos hi, if_pos (by omega), hi]
        · rw [if_neg hi, h4]
          by_cases hq : a + k ≤ i ∧ i < a + k + n
          · rw [if_pos hq, if_pos (by omega)]
          · rw [if_neg hq, if_neg (by omega)]
    · obtain ⟨h1, h2, h3, h4⟩ := hI
      refine ⟨rs s 3 u (nI c'), ?_, h1, fun i q1 q2 q3 => ?_, fun w => ?_, fun i => ?_, fun i => ?_⟩
      · show Form_dropArgument_L33b s (nI u) (nI a) (nI c') (nI (a + k + (c' - k))) = _
        unfold Form_dropArgument_L33b
        rw [nI_add, if_neg (show ¬ nI (a + k + (c' - k)) < nI (a + c') from nI_nlt (by omega) (by omega)), oput_rs hu (by decide)]
      · rw [rs_r _ _ _ _ q1]
        exact h2 i q2 q3
      · rw [rs_i, h2 3 (by decide) (by decide)]
        rfl
      · rw [rs_r _ _ _ _ (show 5 ≠ 3 by decide), h3]
        by_cases hq : a + k ≤ i ∧ i < a + k + (c' - k)
        · rw [if_pos hq, if_pos (by omega)]
        · rw [if_neg hq, if_neg (by omega)]
      · rw [rs_r _ _ _ _ (show 6 ≠ 3 by decide), h4]
        by_cases hq : a + k ≤ i ∧ i < a + k + (c' - k)
        · rw [if_pos hq, if_pos (by omega)]
        · rw [if_neg hq, if_neg (by omega)]
