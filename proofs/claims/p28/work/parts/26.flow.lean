/-! THE FLOW: what its functions say of reaching and dominating -/
def fE (fl : Ob) (a b : Nat) : Prop := a < 10 ∧ b < 10 ∧ bt (fl.1 0 a) b = true
def fN (fl : Ob) : Prop := ∀ a, a < 10 → ∀ i, 10 ≤ i → i < 32 → bt (fl.1 0 a) i = false
def stepS (nx : Nat → Nat → Bool) (o : Option Nat) (S : Nat → Bool) (c : Nat) : Bool := S c || (!decide (o = some c) && (List.range 10).any fun i => S i && nx i c)
theorem stepS_of {nx : Nat → Nat → Bool} {o : Option Nat} {S : Nat → Bool} {c : Nat} (h : S c = true) : stepS nx o S c = true := by
  unfold stepS
  rw [h]
  rfl
theorem stepS_add {nx : Nat → Nat → Bool} {o : Option Nat} {S : Nat → Bool} {a b : Nat} (ha : a < 10) (h : S a = true) (hn : nx a b = true) (hb : o ≠ some b) : stepS nx o S b = true := by
  unfold stepS
  rw [Bool.or_eq_true]
  right
  rw [Bool.and_eq_true, List.any_eq_true]
  exact ⟨by simpa using hb, a, List.mem_range.mpr ha, by rw [h, hn]; rfl⟩
def oI (o : Option Nat) : Int32 := match o with
  | none => -1
  | some k => nI k
def oOk (o : Option Nat) : Prop := ∀ k, o = some k → k < 10
theorem bit_oI {o : Option Nat} (ho : oOk o) {c : Nat} (hc : c < 32) : bt (Ph_bit (oI o)) c = decide (o = some c) := by
  cases o with
  | none =>
    show bt (Ph_bit (-1)) c = _
    rw [bit_m1, b_0]
    simp
  | some k =>
    show bt (Ph_bit (nI k)) c = _
    rw [bit_nI (by have := ho k rfl; omega) hc]
    by_cases h : c = k
    · subst h; simp
    · simp [h, Ne.symm h]
noncomputable def rwI (fl : Ob) (m : Int32) (v : Int32) : Int32 := itr (fun i q => if bt m i = true then q ||| fl.1 0 i else q) 0 10 v
noncomputable def rwS (fl : Ob) (x m : Int32) : Int32 := rwI fl m m &&& ((Ph_bit x) ^^^ (-1))
theorem lt10 {i : Nat} (h : i < 10) : nI i < 10 := nI_lt (a := i) (b := 10) h (by decide)
theorem nlt10 : ¬ nI 10 < 10 := by decide
theorem rw_in (fl : Ob) (v1 v2 v3 v4 : Int32) : Flow_reachedWithout_L26 fl v1 v2 v3 v4 0 = .inl (rwI fl v2 v4 &&& ((Ph_bit v1) ^^^ (-1)), v3 + 1) := by
  refine loop_it (B := fun a : Int32 × Int32 => Flow_reachedWithout_L26b fl v1 v2 v3 a.1 a.2) (mk := fun i s => (s, nI i)) (f := fun i q => if bt v2 i = true then q ||| fl.1 0 i else q) (e := fun m => Sum.inl (m &&& ((Ph_bit v1) ^^^ (-1)), v3 + 1)) 10 (fun i s hi => ?_) (fun s => ?_) v4
  · show Flow_reachedWithout_L26b fl v1 v2 v3 s (nI i) = _
    unfold Flow_reachedWithout_L26b
    rw [if_pos (lt10 hi), has_nI (by omega), oat_nI hi (by decide)]
    by_cases h : bt v2 i = true
    · rw [if_pos h, if_pos h]
      unfold Flow_reachedWithout_56
      rw [nI_1]
    · rw [if_neg h, if_neg h]
      unfold Flow_reachedWithout_56
      rw [nI_1]
  · show Flow_reachedWithout_L26b fl v1 v2 v3 s (nI 10) = _
    unfold Flow_reachedWithout_L26b
    rw [if_neg nlt10]
theorem rw_out (fl : Ob) (x : Int32) : Flow_reachedWithout fl x = itr (fun _ => rwS fl x) 0 10 ((Ph_bit 0) &&& ((Ph_bit x) ^^^ (-1))) := by
  unfold Flow_reachedWithout
  refine loop_it (B := fun a : Int32 × Int32 => Flow_reachedWithout_L14b fl x a.1 a.2) (mk := fun i s => (s, nI i)) (f := fun _ => rwS fl x) (e := fun m => m) 10 (fun i s hi => ?_) (fun s => ?_) _
  · show Flow_reachedWithout_L14b fl x s (nI i) = _
    unfold Flow_reachedWithout_L14b
    rw [if_pos (lt10 hi), rw_in, nI_1]
    rfl
  · show Flow_reachedWithout_L14b fl x s (nI 10) = _
    unfold Flow_reachedWithout_L14b
    rw [if_neg nlt10]
theorem orb (F : Nat → Int32) (m v : Int32) (c : Nat) : ∀ n, bt (itr (fun i q => if bt m i = true then q ||| F i else q) 0 n v) c = (bt v c || (List.range n).any fun i => bt m i && bt (F i) c) := by
  intro n
  induction n with
  | zero => simp [itr]
  | succ n ih =>
    rw [itr_last, List.range_succ, List.any_append, ← Bool.or_assoc, ← ih, Nat.zero_add]
    by_cases h : bt m n = true
    · rw [if_pos h, b_or]
      simp [h]
    · rw [if_neg h]
      simp [h]
theorem rw_bits (fl : Ob) (hN : fN fl) {o : Option Nat} (ho : oOk o) : ∀ k, (∀ c, c < 32 → bt (itr (fun _ => rwS fl (oI o)) 0 k ((Ph_bit 0) &&& ((Ph_bit (oI o)) ^^^ (-1)))) c = (decide (c < 10) && itr (fun _ => stepS (fun i c => bt (fl.1 0 i) c) o) 0 k (fun c => decide (c = 0) && !decide (o = some 0)) c)) ∧ ∀ c, o = some c → itr (fun _ => stepS (fun i c => bt (fl.1 0 i) c) o) 0 k (fun c => decide (c = 0) && !decide (o = some 0)) c = false := by
  intro k
  induction k with
  | zero =>
    refine ⟨fun c hc => ?_, fun c hc => ?_⟩
    · show bt ((Ph_bit 0) &&& ((Ph_bit (oI o)) ^^^ (-1))) c = (decide (c < 10) && (decide (c = 0) && !decide (o = some 0)))
      rw [b_and, bt_not hc, bit_oI ho hc]
      have h0 : bt (Ph_bit 0) c = decide (c = 0) := bit_nI (k := 0) (by decide) hc
      rw [h0]
      by_cases h : c = 0
      · subst h; simp
      · simp [h]
    · show (decide (c = 0) && !decide (o = some 0)) = false
      by_cases h : c = 0
      · subst h; simp [hc]
      · simp [h]
  | succ k ih =>
    obtain ⟨ih1, ih2⟩ := ih
    rw [itr_last, itr_last]
    generalize itr (fun _ => rwS fl (oI o)) 0 k ((Ph_bit 0) &&& ((Ph_bit (oI o)) ^^^ (-1))) = m at ih1 ⊢
    generalize itr (fun _ => stepS (fun i c => bt (fl.1 0 i) c) o) 0 k (fun c => decide (c = 0) && !decide (o = some 0)) = T at ih1 ih2 ⊢
    have hany : ∀ c, ((List.range 10).any fun i => bt m i && bt (fl.1 0 i) c) = ((List.range 10).any fun i => T i && bt (fl.1 0 i) c) := by
      intro c
      rw [Bool.eq_iff_iff, List.any_eq_true, List.any_eq_true]
      constructor
      · rintro ⟨i, hi, h⟩
        have hi' := List.mem_range.mp hi
        rw [ih1 i (by omega)] at h
        exact ⟨i, hi, by simpa [hi'] using h⟩
      · rintro ⟨i, hi, h⟩
        have hi' := List.mem_range.mp hi
        exact ⟨i, hi, by rw [ih1 i (by omega)]; simpa [hi'] using h⟩
    refine ⟨fun c hc => ?_, fun c hc => ?_⟩
    · unfold rwS rwI
      rw [b_and, bt_not hc, bit_oI ho hc, orb, hany, ih1 c hc]
      unfold stepS
      by_cases h : c < 10
      · by_cases h2 : o = some c
        · simp [h, h2, ih2 c h2]
        · simp [h, h2]
      · have : ((List.range 10).any fun i => T i && bt (fl.1 0 i) c) = false := by
          rw [List.any_eq_false]
          intro i hi
          rw [hN i (List.mem_range.mp hi) c (by omega) hc]
          simp
        simp [h, this]
    · unfold stepS
      simp [hc, ih2 c hc]
theorem reached_spec (fl : Ob) (hN : fN fl) {o : Option Nat} (ho : oOk o) {c : Nat} (hc : c < 32) : bt (Flow_reachedWithout fl (oI o)) c = true ↔ RW (fE fl) o c := by
  have hb := (rw_bits fl hN ho 10).1 c hc
  rw [← rw_out] at hb
  rw [hb]
  have hst := grow_still (n := 10) (stepS (fun i c => bt (fl.1 0 i) c) o) (fun S i _ h => by simp [stepS, h]) (fun S T h i hi => by
    unfold stepS
    rw [h i hi]
    congr 2
    rw [Bool.eq_iff_iff, List.any_eq_true, List.any_eq_true]
    constructor
    · rintro ⟨j, hj, q⟩; exact ⟨j, hj, by rw [← h j (List.mem_range.mp hj)]; exact q⟩
    · rintro ⟨j, hj, q⟩; exact ⟨j, hj, by rw [h j (List.mem_range.mp hj)]; exact q⟩) (fun S h i hi => by
    unfold stepS
    rw [h i hi]
    have : ((List.range 10).any fun j => S j && bt (fl.1 0 j) i) = false := by
      rw [List.any_eq_false]
      intro j hj
      rw [h j (List.mem_range.mp hj)]
      simp
    simp [this]) (fun c => decide (c = 0) && !decide (o = some 0)) 10
  have hstill : ∀ i, i < 10 → itr (fun _ => stepS (fun i c => bt (fl.1 0 i) c) o) 0 11 (fun c => decide (c = 0) && !decide (o = some 0)) i = itr (fun _ => stepS (fun i c => bt (fl.1 0 i) c) o) 0 10 (fun c => decide (c = 0) && !decide (o = some 0)) i := by
    rcases hst with h | h
    · exact h
    · have := cnt_le (itr (fun _ => stepS (fun i c => bt (fl.1 0 i) c) o) 0 10 (fun c => decide (c = 0) && !decide (o = some 0))) 10
      omega
  constructor
  · intro h
    have key : ∀ k, ∀ c, c < 10 → itr (fun _ => stepS (fun i c => bt (fl.1 0 i) c) o) 0 k (fun c => decide (c = 0) && !decide (o = some 0)) c = true → RW (fE fl) o c := by
      intro k
      induction k with
      | zero =>
        intro c _ h
        have h' : (decide (c = 0) && !decide (o = some 0)) = true := h
        simp at h'
        obtain ⟨rfl, h2⟩ := h'
        exact RW_base h2
      | succ k ih =>
        intro c hc h
        rw [itr_last] at h
        unfold stepS at h
        rw [Bool.or_eq_true, Bool.and_eq_true, List.any_eq_true] at h
        rcases h with h | ⟨h1, i, hi, h2⟩
        · exact ih c hc h
        · rw [Bool.and_eq_true] at h2
          have hi' := List.mem_range.mp hi
          refine RW_step (ih i hi' h2.1) ⟨hi', hc, h2.2⟩ ?_
          simpa using h1
    rw [Bool.and_eq_true, decide_eq_true_eq] at h
    exact key 10 c h.1 h.2
  · intro h
    have h0 : ∀ k, o ≠ some 0 → itr (fun _ => stepS (fun i c => bt (fl.1 0 i) c) o) 0 k (fun c => decide (c = 0) && !decide (o = some 0)) 0 = true := by
      intro k hne
      induction k with
      | zero => show (decide (0 = 0) && !decide (o = some 0)) = true; simp [hne]
      | succ k ih => rw [itr_last]; exact stepS_of ih
    have key := RW_ind (E := fE fl) (P := fun v => v < 10 ∧ itr (fun _ => stepS (fun i c => bt (fl.1 0 i) c) o) 0 10 (fun c => decide (c = 0) && !decide (o = some 0)) v = true) (fun q => ⟨by decide, h0 10 q⟩) (fun a b _ ih he hb _ => ⟨he.2.1, ?_⟩) h
    · rw [key.2]
      simp [key.1]
    · rw [← hstill b he.2.1, itr_last]
      exact stepS_add he.1 ih.2 he.2.2 hb
