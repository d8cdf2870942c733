/-! BASICS: bits (out of the kit's to-paste texts), loops, rows at a place -/
def bt (x : Int32) (i : Nat) : Bool := x.toBitVec.getLsbD i
theorem b_ext {x y : Int32} (h : ∀ i, i < 32 → bt x i = bt y i) : x = y := Int32.toBitVec_inj.mp (BitVec.eq_of_getLsbD_eq (fun i hi => h i hi))
theorem b_or (x y : Int32) (i : Nat) : bt (x ||| y) i = (bt x i || bt y i) := by unfold bt; rw [Int32.toBitVec_or, BitVec.getLsbD_or]
theorem b_and (x y : Int32) (i : Nat) : bt (x &&& y) i = (bt x i && bt y i) := by unfold bt; rw [Int32.toBitVec_and, BitVec.getLsbD_and]
theorem b_xor (x y : Int32) (i : Nat) : bt (x ^^^ y) i = (bt x i ^^ bt y i) := by unfold bt; rw [Int32.toBitVec_xor, BitVec.getLsbD_xor]
theorem b_big {x : Int32} {i : Nat} (h : 32 ≤ i) : bt x i = false := BitVec.getLsbD_of_ge _ _ h
theorem b_m1 : ∀ i, i < 32 → bt (-1) i = true := by decide +kernel
theorem b_0 (i : Nat) : bt 0 i = false := BitVec.getLsbD_zero
theorem s_l : ∀ n, n < 32 → ((nI n &&& 31).toBitVec.smod 32).toNat = n := by decide +kernel
theorem s_u : ∀ n, n < 32 → (((nI n).toUInt32 &&& Int32.toUInt32 31).toBitVec % 32).toNat = n := by decide +kernel
theorem b_shl (n : Nat) (hn : n < 32) (x : Int32) {i : Nat} (hi : i < 32) : bt (x <<< (nI n &&& 31)) i = (decide (n ≤ i) && bt x (i - n)) := by
  unfold bt
  rw [Int32.toBitVec_shiftLeft]
  show (x.toBitVec <<< ((nI n &&& 31).toBitVec.smod 32).toNat).getLsbD i = _
  rw [s_l n hn, BitVec.getLsbD_shiftLeft]
  rcases Nat.lt_or_ge i n with h | h
  · simp [h, Nat.not_le.mpr h]
  · simp [hi, h, Nat.not_lt.mpr h]
theorem b_ushr (n : Nat) (hn : n < 32) (x : Int32) (i : Nat) : bt ((x.toUInt32 >>> ((nI n).toUInt32 &&& Int32.toUInt32 31)).toInt32) i = bt x (n + i) := by
  show (x.toUInt32 >>> ((nI n).toUInt32 &&& Int32.toUInt32 31)).toBitVec.getLsbD i = x.toUInt32.toBitVec.getLsbD (n + i)
  rw [UInt32.toBitVec_shiftRight]
  show (x.toUInt32.toBitVec >>> (((nI n).toUInt32 &&& Int32.toUInt32 31).toBitVec % 32).toNat).getLsbD i = _
  rw [s_u n hn, BitVec.getLsbD_ushiftRight]
theorem b_sshr (n : Nat) (hn : n < 32) (x : Int32) {i : Nat} (hi : i < 32) : bt (x >>> (nI n &&& 31)) i = if n + i < 32 then bt x (n + i) else bt x 31 := by
  unfold bt
  rw [Int32.toBitVec_shiftRight]
  show (x.toBitVec.sshiftRight ((nI n &&& 31).toBitVec.smod 32).toNat).getLsbD i = _
  rw [s_l n hn, BitVec.getLsbD_sshiftRight, BitVec.msb_eq_getLsbD_last]
  simp [hi]
theorem loopW_inv {α ω : Type} [Nonempty ω] (B : α → α ⊕ ω) (μ : α → Nat) (I : α → Prop) (P : ω → Prop) (step : ∀ a, I a → (∀ a', B a = .inl a' → I a' ∧ μ a' < μ a) ∧ (∀ w, B a = .inr w → P w)) : ∀ a, I a → P (loopW B a) := by
  have key : ∀ (n : Nat) (a : α), μ a ≤ n → I a → P (loopW B a) := by
    intro n
    induction n with
    | zero =>
      intro a ha hi
      rw [loopW_eq]
      cases hB : B a with
      | inl a' =>
        have h := ((step a hi).1 a' hB).2
        omega
      | inr w => exact (step a hi).2 w hB
    | succ n ih =>
      intro a ha hi
      rw [loopW_eq]
      cases hB : B a with
      | inl a' =>
        have h := (step a hi).1 a' hB
        exact ih a' (by omega) h.1
      | inr w => exact (step a hi).2 w hB
  intro a
  exact key (μ a) a (Nat.le_refl _)
/-- a loop that counts up: what its body does, from i on, d times -/
def itr {β : Type} (f : Nat → β → β) : Nat → Nat → β → β
  | _, 0, s => s
  | i, d + 1, s => itr f (i + 1) d (f i s)
theorem loop_itr {α β ω : Type} [Nonempty ω] (B : α → α ⊕ ω) (mk : Nat → β → α) (f : Nat → β → β) (e : β → ω) (I : Nat → β → Prop) (n : Nat) (h1 : ∀ i s, i < n → I i s → B (mk i s) = .inl (mk (i + 1) (f i s)) ∧ I (i + 1) (f i s)) (h2 : ∀ s, I n s → B (mk n s) = .inr (e s)) : ∀ (d i : Nat) (s : β), i + d = n → I i s → loopW B (mk i s) = e (itr f i d s) ∧ I n (itr f i d s) := by
  intro d
  induction d with
  | zero =>
    intro i s hi hI
    have : i = n := by omega
    subst this
    rw [loopW_eq, h2 s hI]
    exact ⟨rfl, hI⟩
  | succ d ih =>
    intro i s hi hI
    obtain ⟨g1, g2⟩ := h1 i s (by omega) hI
    rw [loopW_eq, g1]
    exact ih (i + 1) (f i s) (by omega) g2
theorem loop_it {α β ω : Type} [Nonempty ω] (B : α → α ⊕ ω) (mk : Nat → β → α) (f : Nat → β → β) (e : β → ω) (n : Nat) (h1 : ∀ i s, i < n → B (mk i s) = .inl (mk (i + 1) (f i s))) (h2 : ∀ s, B (mk n s) = .inr (e s)) (s : β) : loopW B (mk 0 s) = e (itr f 0 n s) :=
  (loop_itr B mk f e (fun _ _ => True) n (fun i s hi _ => ⟨h1 i s hi, trivial⟩) (fun s _ => h2 s) n 0 s (by omega) trivial).1
theorem itr_inv {β : Type} {f : Nat → β → β} {n : Nat} (I : Nat → β → Prop) (h : ∀ i s, i < n → I i s → I (i + 1) (f i s)) : ∀ (d i : Nat) (s : β), i + d = n → I i s → I n (itr f i d s) := by
  intro d
  induction d with
  | zero =>
    intro i s hi hI
    have : i = n := by omega
    subst this
    exact hI
  | succ d ih =>
    intro i s hi hI
    exact ih (i + 1) (f i s) (by omega) (h i s (by omega) hI)
theorem itr_last {β : Type} (f : Nat → β → β) : ∀ (d i : Nat) (s : β), itr f i (d + 1) s = f (i + d) (itr f i d s) := by
  intro d
  induction d with
  | zero => intro i s; rfl
  | succ d ih =>
    intro i s
    show itr f (i + 1) (d + 1) (f i s) = f (i + (d + 1)) (itr f (i + 1) d (f i s))
    rw [ih, show i + 1 + d = i + (d + 1) by omega]
/-- sets -/
theorem has_nI {x : Int32} {k : Nat} (hk : k < 20) : Ph_has x (nI k) = bt x k := by
  have h0 : ¬ nI k < 0 := nI_pos (by omega)
  have h1 : nI k < 20 := nI_lt (a := k) (b := 20) hk (by decide)
  unfold Ph_has Ph_has_23
  rw [if_neg h0, if_pos h1]
  have hb : bt (x >>> (nI k &&& 31)) 0 = bt x k := by
    rw [b_sshr k (by omega) x (by decide), if_pos (by omega)]
    rfl
  have h2 : bt ((x >>> (nI k &&& 31)) &&& 1) 0 = bt x k := by
    rw [b_and, hb]
    have : bt 1 0 = true := by decide
    rw [this, Bool.and_true]
  have h3 : ∀ i, 0 < i → bt ((x >>> (nI k &&& 31)) &&& 1) i = false := by
    intro i hi
    rw [b_and]
    by_cases h32 : 32 ≤ i
    · rw [b_big (x := 1) h32, Bool.and_false]
    · have : ∀ j : Nat, j < 32 → 0 < j → bt 1 j = false := by decide +kernel
      rw [this i (by omega) hi, Bool.and_false]
  cases hx : bt x k with
  | true =>
    rw [hx] at h2
    rw [if_pos]
    refine b_ext fun i hi => ?_
    by_cases h : i = 0
    · subst h
      rw [h2]
      decide
    · rw [h3 i (by omega)]
      have : ∀ j : Nat, j < 32 → 0 < j → bt 1 j = false := by decide +kernel
      rw [this i hi (by omega)]
  | false =>
    rw [hx] at h2
    rw [if_neg]
    intro e
    rw [e] at h2
    revert h2
    decide
theorem has_not {x k : Int32} (h : k < 0 ∨ ¬ k < 20) : Ph_has x k = false := by
  unfold Ph_has Ph_has_23
  rcases h with h | h
  · rw [if_pos h]
  · split
    · rfl
    · first | rw [if_neg h] | rfl
theorem bit_nI {k i : Nat} (hk : k < 20) (hi : i < 32) : bt (Ph_bit (nI k)) i = decide (i = k) := by
  have h0 : ¬ nI k < 0 := nI_pos (by omega)
  have h1 : nI k < 20 := nI_lt (a := k) (b := 20) hk (by decide)
  unfold Ph_bit
  rw [if_neg h0, if_pos h1, b_shl k (by omega) 1 hi]
  by_cases h : i = k
  · subst h
    rw [Nat.sub_self]
    have : bt 1 0 = true := by decide
    simp [this]
  · by_cases h2 : k ≤ i
    · have : ∀ j : Nat, j < 32 → 0 < j → bt 1 j = false := by decide +kernel
      rw [this (i - k) (by omega) (by omega)]
      simp [h]
    · simp [h, h2]
theorem bit_not {k : Int32} (h : k < 0 ∨ ¬ k < 20) : Ph_bit k = 0 := by
  unfold Ph_bit Ph_bit_16
  rcases h with h | h
  · rw [if_pos h]
  · split
    · rfl
    · first | rw [if_neg h] | rfl
theorem bt_not {x : Int32} {i : Nat} (hi : i < 32) : bt (x ^^^ (-1)) i = !bt x i := by
  rw [b_xor, b_m1 i hi, Bool.xor_true]
theorem has_m1 {x : Int32} : Ph_has x (-1) = false := has_not (Or.inl (by decide))
theorem bit_m1 : Ph_bit (-1) = 0 := bit_not (Or.inl (by decide))
/-- rows at a place -/
theorem rat_nI {n k : Nat} {f : Nat → Int32} (hk : k < n) (hn : n < 2 ^ 31) : rat n f (nI k) = f k := by
  unfold rat
  rw [if_neg (nI_pos (by omega)), if_neg (nI_ge hk hn), nI_clamp (by omega)]
theorem rat_out {n k : Nat} {f : Nat → Int32} (hk : n ≤ k) (hn : k < 2 ^ 31) : rat n f (nI k) = 0 := by
  unfold rat
  rw [if_neg (nI_pos hn), if_pos (nI_le hk hn)]
theorem rat_m1 {n : Nat} {f : Nat → Int32} : rat n f (-1) = 0 := by
  unfold rat
  rw [if_pos (by decide)]
theorem rput_nI {n k : Nat} {f : Nat → Int32} {y : Int32} (hk : k < n) (hn : n < 2 ^ 31) : rput n f (nI k) y = ru f k y := by
  unfold rput
  rw [if_neg (nI_pos (by omega)), if_neg (nI_ge hk hn), nI_clamp (by omega)]
theorem rput_out {n k : Nat} {f : Nat → Int32} {y : Int32} (hk : n ≤ k) (hn : k < 2 ^ 31) : rput n f (nI k) y = f := by
  unfold rput
  rw [if_neg (nI_pos hn), if_pos (nI_le hk hn)]
theorem oat_nI {f : Ob} {i n k : Nat} (hk : k < n) (hn : n < 2 ^ 31) : oat f i n (nI k) = f.1 i k := rat_nI hk hn
theorem oput_nI {f : Ob} {i n k : Nat} {y : Int32} (hk : k < n) (hn : n < 2 ^ 31) : oput f i n (nI k) y = oR f i (ru (f.1 i) k y) := by
  unfold oput
  rw [rput_nI hk hn]
theorem oR_1 (f : Ob) (i : Nat) (g : Nat → Int32) (j : Nat) : (oR f i g).1 j = if j = i then g else f.1 j := rfl
theorem oR_2 (f : Ob) (i : Nat) (g : Nat → Int32) : (oR f i g).2 = f.2 := rfl
theorem oG_1 (f : Ob) (i : Nat) (y : Int32) : (oG f i y).1 = f.1 := rfl
theorem oG_i (f : Ob) (i : Nat) (y : Int32) (j : Nat) : (oG f i y).2.1 j = if j = i then y else f.2.1 j := rfl
theorem oG_b (f : Ob) (i : Nat) (y : Int32) : (oG f i y).2.2 = f.2.2 := rfl
theorem oB_1 (f : Ob) (i : Nat) (y : Bool) : (oB f i y).1 = f.1 := rfl
theorem oB_i (f : Ob) (i : Nat) (y : Bool) : (oB f i y).2.1 = f.2.1 := rfl
theorem oB_b (f : Ob) (i : Nat) (y : Bool) (j : Nat) : (oB f i y).2.2 j = if j = i then y else f.2.2 j := rfl
theorem ru_at (f : Nat → Int32) (k : Nat) (y : Int32) (j : Nat) : ru f k y j = if j = k then y else f j := rfl
theorem loop_cnt {α β ω : Type} [Nonempty ω] (B : α → α ⊕ ω) (mk : Nat → β → α) (n : Nat) (I : Nat → β → Prop) (P : ω → Prop) (h1 : ∀ i s, i < n → I i s → ∃ s', B (mk i s) = .inl (mk (i + 1) s') ∧ I (i + 1) s') (h2 : ∀ s, I n s → ∃ w, B (mk n s) = .inr w ∧ P w) : ∀ (d i : Nat) (s : β), i + d = n → I i s → P (loopW B (mk i s)) := by
  intro d
  induction d with
  | zero =>
    intro i s hi hI
    have : i = n := by omega
    subst this
    obtain ⟨w, g1, g2⟩ := h2 s hI
    rw [loopW_eq, g1]
    exact g2
  | succ d ih =>
    intro i s hi hI
    obtain ⟨s', g1, g2⟩ := h1 i s (by omega) hI
    rw [loopW_eq, g1]
    exact ih (i + 1) s' (by omega) g2
/-- with an end ahead of time -/
theorem loop_brk {α β ω : Type} [Nonempty ω] (B : α → α ⊕ ω) (mk : Nat → β → α) (n : Nat) (I : Nat → β → Prop) (P : ω → Prop) (h1 : ∀ i s, i < n → I i s → (∃ s', B (mk i s) = .inl (mk (i + 1) s') ∧ I (i + 1) s') ∨ ∃ w, B (mk i s) = .inr w ∧ P w) (h2 : ∀ s, I n s → ∃ w, B (mk n s) = .inr w ∧ P w) : ∀ (d i : Nat) (s : β), i + d = n → I i s → P (loopW B (mk i s)) := by
  intro d
  induction d with
  | zero =>
    intro i s hi hI
    have : i = n := by omega
    subst this
    obtain ⟨w, g1, g2⟩ := h2 s hI
    rw [loopW_eq, g1]
    exact g2
  | succ d ih =>
    intro i s hi hI
    rcases h1 i s (by omega) hI with ⟨s', g1, g2⟩ | ⟨w, g1, g2⟩
    · rw [loopW_eq, g1]
      exact ih (i + 1) s' (by omega) g2
    · rw [loopW_eq, g1]
      exact g2
