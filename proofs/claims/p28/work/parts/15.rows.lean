/-! THE ROWS: what the methods of a row do -/
section ROWS
variable {t : List mmI} {pc len : Nat} {lv : List (Option Value)} {st : List Value} {h : List mmC}
theorem mmS_get {i ci k a : Nat} {ax : List Nat} {c : mmC} {v : Value} (ha : h[a]? = some c) (hc : c.1 = ci ∧ ci < 1000) (hv : c.2[k]? = some v) : mmS (.getfield i) (ci :: k :: ax) pc lv (.ref a :: st) h = some (pc + 3, lv, v :: st, h) := by
  simp only [mmS, ha, if_pos hc, hv, Option.map_some]
theorem mmS_put {i ci k tc a : Nat} {ax : List Nat} {c : mmC} {v : Value} (ha : h[a]? = some c) (hc : c.1 = ci ∧ ci < 1000 ∧ k < c.2.length ∧ mmFit tc v = true ∧ mmRo ≤ a) : mmS (.putfield i) (ci :: k :: tc :: ax) pc lv (v :: .ref a :: st) h = some (pc + 3, lv, st, h.set a (ci, c.2.set k v)) := by
  simp only [mmS, ha, if_pos hc]
theorem mmS_iald {a : Nat} {ax : List Nat} {c : mmC} {j x : Int32} (ha : h[a]? = some c) (hc : (c.1 = 1000 ∨ c.1 = 1999) ∧ ¬ j < 0) (hv : c.2[j.toNatClampNeg]? = some (.int x)) : mmS .iaload ax pc lv (.int j :: .ref a :: st) h = some (pc + 1, lv, .int x :: st, h) := by
  simp only [mmS, ha, if_pos hc, hv]
theorem mmS_iast {a : Nat} {ax : List Nat} {c : mmC} {j x : Int32} (ha : h[a]? = some c) (hc : c.1 = 1000 ∧ ¬ j < 0 ∧ j.toNatClampNeg < c.2.length ∧ mmRo ≤ a) : mmS .iastore ax pc lv (.int x :: .int j :: .ref a :: st) h = some (pc + 1, lv, st, h.set a (1000, c.2.set j.toNatClampNeg (.int x))) := by
  simp only [mmS, ha, if_pos hc]
theorem mmS_alen {a : Nat} {ax : List Nat} {c : mmC} (ha : h[a]? = some c) (hc : c.1 = 1000 ∨ c.1 = 1999) : mmS .arraylength ax pc lv (.ref a :: st) h = some (pc + 1, lv, .int (nI c.2.length) :: st, h) := by
  simp only [mmS, ha, if_pos hc]
end ROWS
def mmIR (f : Nat → Int32) (n : Nat) : List Value := (List.range n).map fun k => .int (f k)
def ru (f : Nat → Int32) (k : Nat) (x : Int32) : Nat → Int32 := fun j => if j = k then x else f j
theorem mmIR_len (f : Nat → Int32) (n : Nat) : (mmIR f n).length = n := by simp [mmIR]
theorem mmIR_get {f : Nat → Int32} {n k : Nat} (hk : k < n) : (mmIR f n)[k]? = some (.int (f k)) := by simp [mmIR, hk]
theorem mmIR_set {f : Nat → Int32} {n k : Nat} (hk : k < n) (x : Int32) : (mmIR f n).set k (.int x) = mmIR (ru f k x) n := by
  apply List.ext_getElem?
  intro j
  by_cases hj : j < n
  · rw [mmIR_get hj, List.getElem?_set]
    by_cases hjk : k = j
    · subst hjk
      simp [mmIR_len, hk, ru]
    · rw [if_neg hjk, mmIR_get hj]
      simp [ru, Ne.symm hjk]
  · rw [List.getElem?_eq_none (by simp [mmIR_len]; omega), List.getElem?_eq_none (by simp [mmIR_len]; omega)]
/-- a row asked at a place: 0 outside -/
def rat (n : Nat) (f : Nat → Int32) (k : Int32) : Int32 := if k < 0 then 0 else if nI n ≤ k then 0 else f k.toNatClampNeg
def rput (n : Nat) (f : Nat → Int32) (k x : Int32) : Nat → Int32 := if k < 0 then f else if nI n ≤ k then f else ru f k.toNatClampNeg x
theorem nI_lt_of {k : Int32} {n : Nat} (hn : n < 2 ^ 31) (h0 : ¬ k < 0) (h1 : ¬ nI n ≤ k) : k.toNatClampNeg < n := by
  obtain ⟨j, hj, rfl⟩ := nI_of h0
  rw [nI_clamp hj]
  rcases Nat.lt_or_ge j n with h | h
  · exact h
  · exact absurd (nI_le h hj) h1
theorem Ev_at {h : List mmC} {o a n : Nat} {f : Nat → Int32} {k : Int32} (ho : h[o]? = some (7, [.ref a])) (ha : h[a]? = some (1000, mmIR f n)) (hn : n < 2 ^ 31) : Ev mmPT tbX7_at 0 [some (.ref o), some (.int k)] [] h (some (.int (rat n f k)), h) := by
  refine Ev.s (ins := .iload_n 1) rfl rfl ?_
  refine Ev.if1 rfl rfl (fun c1 => ?_) (fun c1 => ?_)
  · have hk : k < 0 := by simpa [mmIf] using c1
    refine Ev.s (ins := .iconst 0) rfl rfl ?_
    refine Ev.iret rfl rfl ?_
    rw [rat, if_pos hk]
    rfl
  · have hk : ¬ k < 0 := by simpa [mmIf] using c1
    refine Ev.s (ins := .iload_n 1) rfl rfl ?_
    refine Ev.s (ins := .aload_n 0) rfl rfl ?_
    refine Ev.s rfl (mmS_get ho ⟨rfl, by decide⟩ rfl) ?_
    refine Ev.s rfl (mmS_alen ha (Or.inl rfl)) ?_
    rw [mmIR_len]
    refine Ev.if2 rfl rfl (fun c2 => ?_) (fun c2 => ?_)
    · have hk2 : nI n ≤ k := by simpa [mmIc] using c2
      refine Ev.s (ins := .iconst 0) rfl rfl ?_
      refine Ev.iret rfl rfl ?_
      rw [rat, if_neg hk, if_pos hk2]
      rfl
    · have hk2 : ¬ nI n ≤ k := by simpa [mmIc] using c2
      have hlt := nI_lt_of hn hk hk2
      refine Ev.s (ins := .aload_n 0) rfl rfl ?_
      refine Ev.s rfl (mmS_get ho ⟨rfl, by decide⟩ rfl) ?_
      refine Ev.s (ins := .iload_n 1) rfl rfl ?_
      refine Ev.s rfl (mmS_iald ha ⟨Or.inl rfl, hk⟩ (mmIR_get hlt)) ?_
      refine Ev.goto rfl ?_
      refine Ev.iret rfl rfl ?_
      rw [rat, if_neg hk, if_neg hk2]
theorem Ev_put {h : List mmC} {o a n : Nat} {f : Nat → Int32} {k x : Int32} (ho : h[o]? = some (7, [.ref a])) (ha : h[a]? = some (1000, mmIR f n)) (hn : n < 2 ^ 31) (hro : mmRo ≤ a) : Ev mmPT tbX7_put 0 [some (.ref o), some (.int k), some (.int x)] [] h (none, h.set a (1000, mmIR (rput n f k x) n)) := by
  have hself : h.set a (1000, mmIR f n) = h := by
    obtain ⟨hl, he⟩ := List.getElem?_eq_some_iff.mp ha
    rw [← he, List.set_getElem_self]
  refine Ev.s (ins := .iload_n 1) rfl rfl ?_
  refine Ev.if1 rfl rfl (fun c1 => ?_) (fun c1 => ?_)
  · have hk : k < 0 := by simpa [mmIf] using c1
    refine Ev.vret rfl rfl ?_
    rw [rput, if_pos hk, hself]
  · have hk : ¬ k < 0 := by simpa [mmIf] using c1
    refine Ev.s (ins := .iload_n 1) rfl rfl ?_
    refine Ev.s (ins := .aload_n 0) rfl rfl ?_
    refine Ev.s rfl (mmS_get ho ⟨rfl, by decide⟩ rfl) ?_
    refine Ev.s rfl (mmS_alen ha (Or.inl rfl)) ?_
    rw [mmIR_len]
    refine Ev.if2 rfl rfl (fun c2 => ?_) (fun c2 => ?_)
    · have hk2 : nI n ≤ k := by simpa [mmIc] using c2
      refine Ev.vret rfl rfl ?_
      rw [rput, if_neg hk, if_pos hk2, hself]
    · have hk2 : ¬ nI n ≤ k := by simpa [mmIc] using c2
      have hlt := nI_lt_of hn hk hk2
      refine Ev.s (ins := .aload_n 0) rfl rfl ?_
      refine Ev.s rfl (mmS_get ho ⟨rfl, by decide⟩ rfl) ?_
      refine Ev.s (ins := .iload_n 1) rfl rfl ?_
      refine Ev.s (ins := .iload_n 2) rfl rfl ?_
      refine Ev.s rfl (mmS_iast ha ⟨rfl, hk, by rw [mmIR_len]; exact hlt, hro⟩) ?_
      refine Ev.vret rfl rfl ?_
      rw [rput, if_neg hk, if_neg hk2, mmIR_set hlt]
