/-! TREES: what is still to come of a method, as a value; a run comes to x, if x is what that value says -/
def kO {ρ : Type} (out : ρ → Option Value × List mmC) (x : Option Value × List mmC) (r : ρ) : Prop := x = out r
def kP {ρ : Type} (out : ρ → Option Value × List mmC) (x : Option Value × List mmC) : Option ρ → Prop
  | none => False
  | some r => x = out r
def kK {α ω : Type} (μ : α → Nat) (m : Nat) (E : α → Prop) (X : ω → Prop) : α ⊕ ω → Prop
  | .inl a => μ a < m → E a
  | .inr w => X w
/-- what comes of a value that a call may not have -/
def obn {σ ρ : Type} (bad : ρ) (m : Option σ) (f : σ → ρ) : ρ := match m with
  | none => bad
  | some r => f r
theorem k_loop {α ω : Type} [Nonempty ω] (B : α → α ⊕ ω) (μ : α → Nat) (E : α → Prop) (X : ω → Prop) (step : ∀ a, kK μ (μ a) E X (B a) → E a) (a : α) (h : X (loopW B a)) : E a := by
  refine Ev_loop B μ E X (fun a hk => step a ?_) a h
  cases hB : B a with
  | inl a' => rw [hB] at hk; exact hk
  | inr w => rw [hB] at hk; exact hk
theorem kK_r {α ω : Type} {μ : α → Nat} {m : Nat} {E : α → Prop} {X : ω → Prop} {w : ω} (h : kK μ m E X (.inr w)) : X w := h
theorem kK_l {α ω : Type} {μ : α → Nat} {m : Nat} {E : α → Prop} {X : ω → Prop} {a : α} (h : kK μ m E X (.inl a)) : μ a < m → E a := h
theorem lt31 {i n : Int32} (h : i < n) : i < 2147483647 := lt_max (Int32.not_le.mpr h)
theorem le31 {i n : Int32} (hn : n < 2147483647) (h : ¬ n < i) : i < 2147483647 := by
  have h1 := Int32.not_lt.mp h
  have h2 := Int32.le_iff_toInt_le.mp h1
  have h3 := Int32.lt_iff_toInt_lt.mp hn
  exact Int32.lt_iff_toInt_lt.mpr (Int.lt_of_le_of_lt h2 h3)
theorem b2i_eq {b : Bool} : b2i b = 0 ↔ b = false := by cases b <;> decide
section KR
variable {PT : List mmM} {t : List mmI} {pc len : Nat} {lv : List (Option Value)} {st : List Value} {h : List mmC} {x : Option Value × List mmC} {ax : List Nat} {off : Int} {tg : Nat} {ρ : Type} {K : ρ → Prop} {p q : ρ} {y z : Int32} {b : Bool}
theorem q_ob {σ : Type} {m : Option σ} {bad : ρ} {f : σ → ρ} {G : Prop} (hk : K (obn bad m f)) (hb : K bad → False) (k : ∀ r, m = some r → K (f r) → G) : G := by
  cases m with
  | none => exact (hb hk).elim
  | some r => exact k r rfl hk
theorem q_eq (hf : mmFetch t pc = some (.ifCond .eq off, len, tg :: ax)) (hk : K (if y = 0 then p else q)) (kt : y = 0 → K p → Ev PT t tg lv st h x) (kf : ¬ y = 0 → K q → Ev PT t (pc + 3) lv st h x) : Ev PT t pc lv (.int y :: st) h x := by
  by_cases c : y = 0
  · rw [if_pos c] at hk
    exact Ev.if1 hf rfl (fun _ => kt c hk) (fun e => absurd c (by simpa [mmIf] using e))
  · rw [if_neg c] at hk
    exact Ev.if1 hf rfl (fun e => absurd (by simpa [mmIf] using e) c) (fun _ => kf c hk)
theorem q_ne (hf : mmFetch t pc = some (.ifCond .ne off, len, tg :: ax)) (hk : K (if y = 0 then p else q)) (kt : y = 0 → K p → Ev PT t (pc + 3) lv st h x) (kf : ¬ y = 0 → K q → Ev PT t tg lv st h x) : Ev PT t pc lv (.int y :: st) h x := by
  by_cases c : y = 0
  · rw [if_pos c] at hk
    exact Ev.if1 hf rfl (fun e => absurd c (by simpa [mmIf] using e)) (fun _ => kt c hk)
  · rw [if_neg c] at hk
    exact Ev.if1 hf rfl (fun _ => kf c hk) (fun e => absurd (by simpa [mmIf] using e) c)
theorem q_lt (hf : mmFetch t pc = some (.ifCond .lt off, len, tg :: ax)) (hk : K (if y < 0 then p else q)) (kt : y < 0 → K p → Ev PT t tg lv st h x) (kf : ¬ y < 0 → K q → Ev PT t (pc + 3) lv st h x) : Ev PT t pc lv (.int y :: st) h x := by
  by_cases c : y < 0
  · rw [if_pos c] at hk
    exact Ev.if1 hf rfl (fun _ => kt c hk) (fun e => absurd c (by simpa [mmIf] using e))
  · rw [if_neg c] at hk
    exact Ev.if1 hf rfl (fun e => absurd (by simpa [mmIf] using e) c) (fun _ => kf c hk)
theorem q_ge (hf : mmFetch t pc = some (.ifCond .ge off, len, tg :: ax)) (hk : K (if y < 0 then p else q)) (kt : y < 0 → K p → Ev PT t (pc + 3) lv st h x) (kf : ¬ y < 0 → K q → Ev PT t tg lv st h x) : Ev PT t pc lv (.int y :: st) h x := by
  by_cases c : y < 0
  · rw [if_pos c] at hk
    exact Ev.if1 hf rfl (fun e => absurd c (Int32.not_lt.mpr (by simpa [mmIf] using e))) (fun _ => kt c hk)
  · rw [if_neg c] at hk
    exact Ev.if1 hf rfl (fun _ => kf c hk) (fun e => absurd (Int32.not_lt.mp c) (by simpa [mmIf] using e))
theorem q_gt (hf : mmFetch t pc = some (.ifCond .gt off, len, tg :: ax)) (hk : K (if 0 < y then p else q)) (kt : 0 < y → K p → Ev PT t tg lv st h x) (kf : ¬ 0 < y → K q → Ev PT t (pc + 3) lv st h x) : Ev PT t pc lv (.int y :: st) h x := by
  by_cases c : 0 < y
  · rw [if_pos c] at hk
    exact Ev.if1 hf rfl (fun _ => kt c hk) (fun e => absurd c (by simpa [mmIf] using e))
  · rw [if_neg c] at hk
    exact Ev.if1 hf rfl (fun e => absurd (by simpa [mmIf] using e) c) (fun _ => kf c hk)
theorem q_le (hf : mmFetch t pc = some (.ifCond .le off, len, tg :: ax)) (hk : K (if 0 < y then p else q)) (kt : 0 < y → K p → Ev PT t (pc + 3) lv st h x) (kf : ¬ 0 < y → K q → Ev PT t tg lv st h x) : Ev PT t pc lv (.int y :: st) h x := by
  by_cases c : 0 < y
  · rw [if_pos c] at hk
    exact Ev.if1 hf rfl (fun e => absurd c (Int32.not_lt.mpr (by simpa [mmIf] using e))) (fun _ => kt c hk)
  · rw [if_neg c] at hk
    exact Ev.if1 hf rfl (fun _ => kf c hk) (fun e => absurd (Int32.not_lt.mp c) (by simpa [mmIf] using e))
theorem q_beq (hf : mmFetch t pc = some (.ifCond .eq off, len, tg :: ax)) (hk : K (if b = true then p else q)) (kt : b = true → K p → Ev PT t (pc + 3) lv st h x) (kf : b = false → K q → Ev PT t tg lv st h x) : Ev PT t pc lv (.int (b2i b) :: st) h x := by
  cases b with
  | true => exact Ev.if1 hf rfl (fun e => absurd e (by decide)) (fun _ => kt rfl hk)
  | false => exact Ev.if1 hf rfl (fun _ => kf rfl hk) (fun e => absurd e (by decide))
theorem q_bne (hf : mmFetch t pc = some (.ifCond .ne off, len, tg :: ax)) (hk : K (if b = true then p else q)) (kt : b = true → K p → Ev PT t tg lv st h x) (kf : b = false → K q → Ev PT t (pc + 3) lv st h x) : Ev PT t pc lv (.int (b2i b) :: st) h x := by
  cases b with
  | true => exact Ev.if1 hf rfl (fun _ => kt rfl hk) (fun e => absurd e (by decide))
  | false => exact Ev.if1 hf rfl (fun e => absurd e (by decide)) (fun _ => kf rfl hk)
theorem q_ceq (hf : mmFetch t pc = some (.if_icmp .eq off, len, tg :: ax)) (hk : K (if y = z then p else q)) (kt : y = z → K p → Ev PT t tg lv st h x) (kf : ¬ y = z → K q → Ev PT t (pc + 3) lv st h x) : Ev PT t pc lv (.int z :: .int y :: st) h x := by
  by_cases c : y = z
  · rw [if_pos c] at hk
    exact Ev.if2 hf rfl (fun _ => kt c hk) (fun e => absurd c (by simpa [mmIc] using e))
  · rw [if_neg c] at hk
    exact Ev.if2 hf rfl (fun e => absurd (by simpa [mmIc] using e) c) (fun _ => kf c hk)
theorem q_cne (hf : mmFetch t pc = some (.if_icmp .ne off, len, tg :: ax)) (hk : K (if y = z then p else q)) (kt : y = z → K p → Ev PT t (pc + 3) lv st h x) (kf : ¬ y = z → K q → Ev PT t tg lv st h x) : Ev PT t pc lv (.int z :: .int y :: st) h x := by
  by_cases c : y = z
  · rw [if_pos c] at hk
    exact Ev.if2 hf rfl (fun e => absurd c (by simpa [mmIc] using e)) (fun _ => kt c hk)
  · rw [if_neg c] at hk
    exact Ev.if2 hf rfl (fun _ => kf c hk) (fun e => absurd (by simpa [mmIc] using e) c)
theorem q_clt (hf : mmFetch t pc = some (.if_icmp .lt off, len, tg :: ax)) (hk : K (if y < z then p else q)) (kt : y < z → K p → Ev PT t tg lv st h x) (kf : ¬ y < z → K q → Ev PT t (pc + 3) lv st h x) : Ev PT t pc lv (.int z :: .int y :: st) h x := by
  by_cases c : y < z
  · rw [if_pos c] at hk
    exact Ev.if2 hf rfl (fun _ => kt c hk) (fun e => absurd c (by simpa [mmIc] using e))
  · rw [if_neg c] at hk
    exact Ev.if2 hf rfl (fun e => absurd (by simpa [mmIc] using e) c) (fun _ => kf c hk)
theorem q_cge (hf : mmFetch t pc = some (.if_icmp .ge off, len, tg :: ax)) (hk : K (if y < z then p else q)) (kt : y < z → K p → Ev PT t (pc + 3) lv st h x) (kf : ¬ y < z → K q → Ev PT t tg lv st h x) : Ev PT t pc lv (.int z :: .int y :: st) h x := by
  by_cases c : y < z
  · rw [if_pos c] at hk
    exact Ev.if2 hf rfl (fun e => absurd c (Int32.not_lt.mpr (by simpa [mmIc] using e))) (fun _ => kt c hk)
  · rw [if_neg c] at hk
    exact Ev.if2 hf rfl (fun _ => kf c hk) (fun e => absurd (Int32.not_lt.mp c) (by simpa [mmIc] using e))
theorem q_cgt (hf : mmFetch t pc = some (.if_icmp .gt off, len, tg :: ax)) (hk : K (if z < y then p else q)) (kt : z < y → K p → Ev PT t tg lv st h x) (kf : ¬ z < y → K q → Ev PT t (pc + 3) lv st h x) : Ev PT t pc lv (.int z :: .int y :: st) h x := by
  by_cases c : z < y
  · rw [if_pos c] at hk
    exact Ev.if2 hf rfl (fun _ => kt c hk) (fun e => absurd c (by simpa [mmIc] using e))
  · rw [if_neg c] at hk
    exact Ev.if2 hf rfl (fun e => absurd (by simpa [mmIc] using e) c) (fun _ => kf c hk)
theorem q_cle (hf : mmFetch t pc = some (.if_icmp .le off, len, tg :: ax)) (hk : K (if z < y then p else q)) (kt : z < y → K p → Ev PT t (pc + 3) lv st h x) (kf : ¬ z < y → K q → Ev PT t tg lv st h x) : Ev PT t pc lv (.int z :: .int y :: st) h x := by
  by_cases c : z < y
  · rw [if_pos c] at hk
    exact Ev.if2 hf rfl (fun e => absurd c (Int32.not_lt.mpr (by simpa [mmIc] using e))) (fun _ => kt c hk)
  · rw [if_neg c] at hk
    exact Ev.if2 hf rfl (fun _ => kf c hk) (fun e => absurd (Int32.not_lt.mp c) (by simpa [mmIc] using e))
/-- a constant on the stack -/
theorem q_ic {k : Int} (c : Int32) (hf : mmFetch t pc = some (.iconst k, len, ax)) (hc : Int32.ofInt k = c) (kk : Ev PT t (pc + 1) lv (.int c :: st) h x) : Ev PT t pc lv st h x := by
  subst hc
  exact Ev.s hf rfl kk
theorem q_bi {k : Int} (c : Int32) (hf : mmFetch t pc = some (.bipush k, len, ax)) (hc : (Int8.ofInt k).toInt32 = c) (kk : Ev PT t (pc + 2) lv (.int c :: st) h x) : Ev PT t pc lv st h x := by
  subst hc
  exact Ev.s hf rfl kk
theorem q_si {k : Int} (c : Int32) (hf : mmFetch t pc = some (.sipush k, len, ax)) (hc : (Int16.ofInt k).toInt32 = c) (kk : Ev PT t (pc + 3) lv (.int c :: st) h x) : Ev PT t pc lv st h x := by
  subst hc
  exact Ev.s hf rfl kk
theorem q_ld {i v : Nat} (c : Int32) (hf : mmFetch t pc = some (.ldc i, len, v :: ax)) (hc : Int32.ofNat v = c) (kk : Ev PT t (pc + 2) lv (.int c :: st) h x) : Ev PT t pc lv st h x := by
  subst hc
  exact Ev.s hf rfl kk
theorem q_lw {i v : Nat} (c : Int32) (hf : mmFetch t pc = some (.ldc_w i, len, v :: ax)) (hc : Int32.ofNat v = c) (kk : Ev PT t (pc + 3) lv (.int c :: st) h x) : Ev PT t pc lv st h x := by
  subst hc
  exact Ev.s hf rfl kk
theorem q_l2 {i v : Nat} (c : Int64) (hf : mmFetch t pc = some (.ldc2_w i, len, v :: ax)) (hc : Int64.ofNat v = c) (kk : Ev PT t (pc + 3) lv (.long c :: st) h x) : Ev PT t pc lv st h x := by
  subst hc
  exact Ev.s hf rfl kk
theorem q_inc {k : Nat} {n : Int} (c : Int32) (lv' : List (Option Value)) (hf : mmFetch t pc = some (.iinc k n, len, ax)) (hg : mmGet lv k = some (.int y)) (hc : Int32.ofInt n = c) (hs : mmSet1 lv k (.int (y + c)) = some lv') (kk : Ev PT t (pc + 3) lv' st h x) : Ev PT t pc lv st h x := by
  subst hc
  exact Ev.s hf (by simp only [mmS, hg, hs, Option.map_some]) kk
theorem q_div (hf : mmFetch t pc = some (.idiv, len, ax)) (hz : ¬ z = 0) (kk : Ev PT t (pc + 1) lv (.int (y / z) :: st) h x) : Ev PT t pc lv (.int z :: .int y :: st) h x :=
  Ev.s hf (by simp only [mmS, if_neg hz]) kk
theorem q_rem (hf : mmFetch t pc = some (.irem, len, ax)) (hz : ¬ z = 0) (kk : Ev PT t (pc + 1) lv (.int (y - y / z * z) :: st) h x) : Ev PT t pc lv (.int z :: .int y :: st) h x :=
  Ev.s hf (by simp only [mmS, if_neg hz]) kk
theorem swg {lo hi : Int} {y : Int32} {tgs : List Nat} {df : Nat} (h0 : -2147483648 ≤ lo) (h1 : hi < 2147483648) (h : ∀ k : Nat, lo + k ≤ hi → y = Int32.ofInt (lo + k) → tgs[k]? = some df) : (if y.toInt < lo ∨ hi < y.toInt then some df else tgs[(y.toInt - lo).toNat]?) = some df := by
  by_cases c : y.toInt < lo ∨ hi < y.toInt
  · exact if_pos c
  · rw [if_neg c]
    refine h (y.toInt - lo).toNat (by omega) ?_
    apply Int32.toInt_inj.mp
    have e : lo + ((y.toInt - lo).toNat : Int) = y.toInt := by omega
    rw [e, Int32.toInt_ofInt]
    show y.toInt = Int.bmod y.toInt 4294967296
    exact (Int.bmod_eq_of_le (by have := Int32.le_toInt y; omega) (by have := Int32.toInt_lt y; omega)).symm
end KR
theorem q_if {ρ : Type} {K : ρ → Prop} {p q : ρ} {G c : Prop} [Decidable c] (hk : K (if c then p else q)) (kt : c → K p → G) (kf : ¬ c → K q → G) : G := by
  by_cases h : c
  · rw [if_pos h] at hk; exact kt h hk
  · rw [if_neg h] at hk; exact kf h hk
theorem b2i_01 (b : Bool) : b2i b = 0 ∨ b2i b = 1 := by cases b <;> decide
theorem len4 {a b c d : Nat} {l : List Nat} : (a :: b :: c :: d :: l).length ≠ 3 := by
  simp only [List.length_cons]
  omega
