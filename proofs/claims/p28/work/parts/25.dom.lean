/-! WAYS: what is reached, and reached without something; what dominates what -/
def RW (E : Nat → Nat → Prop) (o : Option Nat) (v : Nat) : Prop := ∀ S : Nat → Prop, (o ≠ some 0 → S 0) → (∀ a b, S a → E a b → o ≠ some b → S b) → S v
def Dm (E : Nat → Nat → Prop) (b c : Nat) : Prop := RW E none c ∧ ¬ RW E (some b) c
section DOM
variable {E : Nat → Nat → Prop}
theorem RW_base {o : Option Nat} (h : o ≠ some 0) : RW E o 0 := fun _ h0 _ => h0 h
theorem RW_step {o : Option Nat} {a b : Nat} (h : RW E o a) (he : E a b) (hb : o ≠ some b) : RW E o b := fun S h0 hs => hs a b (h S h0 hs) he hb
theorem RW_ind {o : Option Nat} (P : Nat → Prop) (h0 : o ≠ some 0 → P 0) (hs : ∀ a b, RW E o a → P a → E a b → o ≠ some b → RW E o b → P b) {v : Nat} (h : RW E o v) : P v :=
  (h (fun v => RW E o v ∧ P v) (fun q => ⟨RW_base q, h0 q⟩) (fun a b ha he hb => ⟨RW_step ha.1 he hb, hs a b ha.1 ha.2 he hb (RW_step ha.1 he hb)⟩)).2
theorem RW_ne {o : Option Nat} {v : Nat} (h : RW E o v) : o ≠ some v := h (fun v => o ≠ some v) (fun q => q) (fun _ _ _ _ q => q)
theorem RW_all {o : Option Nat} {v : Nat} (h : RW E o v) : RW E none v := RW_ind (P := fun v => RW E none v) (fun _ => RW_base (by simp)) (fun _ _ _ ih he _ _ => RW_step ih he (by simp)) h
theorem RW_mono {E' : Nat → Nat → Prop} (hE : ∀ a b, E a b → E' a b) {o : Option Nat} {v : Nat} (h : RW E o v) : RW E' o v := RW_ind (P := fun v => RW E' o v) (fun q => RW_base q) (fun _ _ _ ih he q _ => RW_step ih (hE _ _ he) q) h
theorem RW_root {v : Nat} : ¬ RW E (some 0) v := fun h => h (fun _ => False) (fun q => q rfl) (fun _ _ q _ _ => q)
theorem Dm_root {v : Nat} (h : RW E none v) : Dm E 0 v := ⟨h, RW_root⟩
theorem Dm_refl {b : Nat} (h : RW E none b) : Dm E b b := ⟨h, fun q => RW_ne q rfl⟩
theorem Dm_left {b c : Nat} (h : Dm E b c) : RW E none b := by
  refine Classical.byContradiction fun hb => h.2 ?_
  refine RW_ind (E := E) (P := fun v => RW E (some b) v) (fun _ => RW_base fun e => hb ?_) (fun a v _ ih he _ hv => RW_step ih he fun e => hb ?_) h.1
  · cases e
    exact RW_base (by simp)
  · cases e
    exact hv
theorem Dm_trans {a b c : Nat} (h1 : Dm E a b) (h2 : Dm E b c) : Dm E a c := by
  refine ⟨h2.1, fun hc => h2.2 ?_⟩
  refine RW_ind (E := E) (P := fun v => RW E (some b) v) (fun h0 => RW_base fun e => ?_) (fun u v hu ih he hv hv2 => RW_step ih he fun e => ?_) hc
  · cases e
    exact h1.2 (RW_base h0)
  · cases e
    exact h1.2 hv2
theorem Dm_anti {b c : Nat} (h1 : Dm E b c) (h2 : Dm E c b) : b = c := by
  refine Classical.byContradiction fun hne => ?_
  have key : RW E (some b) b ∧ RW E (some c) b := by
    refine RW_ind (E := E) (o := none) (P := fun v => RW E (some b) v ∧ RW E (some c) v) (fun _ => ⟨?_, ?_⟩) (fun u v _ ih he _ _ => ⟨?_, ?_⟩) h2.1
    · refine RW_base fun e => ?_
      cases e
      exact h2.2 (RW_base fun e => hne (Option.some.inj e).symm)
    · refine RW_base fun e => ?_
      cases e
      exact h1.2 (RW_base fun e => hne (Option.some.inj e))
    · refine RW_step ih.1 he fun e => ?_
      cases e
      exact h2.2 (RW_step ih.2 he fun e => hne (Option.some.inj e).symm)
    · refine RW_step ih.2 he fun e => ?_
      cases e
      exact h1.2 (RW_step ih.1 he fun e => hne (Option.some.inj e))
  exact RW_ne key.1 rfl
theorem Dm_total {a b c : Nat} (h1 : Dm E a c) (h2 : Dm E b c) : Dm E a b ∨ Dm E b a := by
  refine Classical.byContradiction fun hn => ?_
  have ha : RW E none a := Dm_left h1
  have hb : RW E none b := Dm_left h2
  have n1 : RW E (some a) b := Classical.byContradiction fun q => hn (Or.inl ⟨hb, q⟩)
  have n2 : RW E (some b) a := Classical.byContradiction fun q => hn (Or.inr ⟨ha, q⟩)
  have hab : a ≠ b := fun e => RW_ne n1 (by rw [e])
  have key : RW E (some a) c ∨ RW E (some b) c := by
    refine RW_ind (E := E) (o := none) (P := fun v => RW E (some a) v ∨ RW E (some b) v) (fun _ => ?_) (fun u v _ ih he _ _ => ?_) h1.1
    · by_cases h : a = 0
      · exact Or.inr (RW_base fun e => hab (by rw [h]; exact (Option.some.inj e).symm))
      · exact Or.inl (RW_base fun e => h (Option.some.inj e))
    · rcases ih with ih | ih
      · by_cases h : a = v
        · subst h
          exact Or.inr n2
        · exact Or.inl (RW_step ih he fun e => h (Option.some.inj e))
      · by_cases h : b = v
        · subst h
          exact Or.inl n1
        · exact Or.inr (RW_step ih he fun e => h (Option.some.inj e))
  rcases key with q | q
  · exact h1.2 q
  · exact h2.2 q
theorem Dm_pred {d p c : Nat} (h : Dm E d c) (hne : d ≠ c) (hp : RW E none p) (he : E p c) : Dm E d p :=
  ⟨hp, fun q => h.2 (RW_step q he fun e => hne (Option.some.inj e))⟩
theorem Dm_step {d p c : Nat} (hp : Dm E d p) (he : E p c) (hc : ∀ q, RW E none q → E q c → Dm E d q) (h0 : c ≠ 0) : Dm E d c := by
  refine ⟨RW_step hp.1 he (by simp), fun hq => ?_⟩
  have : ∀ v, RW E (some d) v → v = c → False := by
    intro v hv
    refine RW_ind (E := E) (P := fun v => v = c → False) (fun _ e => h0 e.symm) (fun a b ha _ hab _ _ e => ?_) hv
    subst e
    exact (hc a (RW_all ha) hab).2 ha
  exact this c hq rfl
end DOM
/-! how many there are in a set below n -/
def cnt (S : Nat → Bool) : Nat → Nat
  | 0 => 0
  | n + 1 => cnt S n + (if S n = true then 1 else 0)
theorem cnt_le (S : Nat → Bool) : ∀ n, cnt S n ≤ n := by
  intro n
  induction n with
  | zero => exact Nat.le_refl _
  | succ n ih =>
    unfold cnt
    split <;> omega
theorem cnt_mono {S T : Nat → Bool} : ∀ n, (∀ i, i < n → S i = true → T i = true) → cnt S n ≤ cnt T n := by
  intro n
  induction n with
  | zero => intro _; exact Nat.le_refl _
  | succ n ih =>
    intro h
    have h1 := ih fun i hi => h i (by omega)
    have h2 := h n (by omega)
    unfold cnt
    by_cases hs : S n = true
    · rw [if_pos hs, if_pos (h2 hs)]; omega
    · rw [if_neg hs]; split <;> omega
theorem cnt_lt {S T : Nat → Bool} : ∀ n, (∀ i, i < n → S i = true → T i = true) → (∃ i, i < n ∧ S i = false ∧ T i = true) → cnt S n < cnt T n := by
  intro n
  induction n with
  | zero => rintro _ ⟨i, hi, -⟩; omega
  | succ n ih =>
    intro h ⟨i, hi, hs, ht⟩
    have h2 := h n (by omega)
    by_cases hin : i = n
    · subst hin
      have h1 := cnt_mono i fun j hj => h j (by omega)
      unfold cnt
      rw [if_neg (by rw [hs]; decide), if_pos ht]
      omega
    · have h1 := ih (fun j hj => h j (by omega)) ⟨i, by omega, hs, ht⟩
      unfold cnt
      by_cases hs2 : S n = true
      · rw [if_pos hs2, if_pos (h2 hs2)]; omega
      · rw [if_neg hs2]; split <;> omega
theorem cnt_ext {S T : Nat → Bool} : ∀ n, (∀ i, i < n → S i = T i) → cnt S n = cnt T n := by
  intro n h
  refine Nat.le_antisymm (cnt_mono n fun i hi e => by rw [← h i hi]; exact e) (cnt_mono n fun i hi e => by rw [h i hi]; exact e)
/-- what grows n times below n, and has something to begin with or never anything, stands still -/
theorem grow_still {n : Nat} (g : (Nat → Bool) → Nat → Bool) (hg : ∀ S i, i < n → S i = true → g S i = true) (hx : ∀ S T, (∀ i, i < n → S i = T i) → ∀ i, i < n → g S i = g T i) (he : ∀ S, (∀ i, i < n → S i = false) → ∀ i, i < n → g S i = false) (S : Nat → Bool) :
    ∀ k, (∀ i, i < n → itr (fun _ => g) 0 (k + 1) S i = itr (fun _ => g) 0 k S i) ∨ k + 1 ≤ cnt (itr (fun _ => g) 0 k S) n := by
  have itr_sh : ∀ (d i j : Nat) (s : Nat → Bool), itr (fun _ => g) i d s = itr (fun _ => g) j d s := by
    intro d
    induction d with
    | zero => intro i j s; rfl
    | succ d ih => intro i j s; exact ih _ _ _
  have hl : ∀ k, itr (fun _ => g) 0 (k + 1) S = g (itr (fun _ => g) 0 k S) := fun k => itr_last _ _ _ _
  intro k
  induction k with
  | zero =>
    by_cases h : ∃ i, i < n ∧ S i = true
    · right
      obtain ⟨i, hi, hs⟩ := h
      have := cnt_lt (S := fun _ => false) (T := S) n (fun _ _ e => by cases e) ⟨i, hi, rfl, hs⟩
      show 1 ≤ cnt S n
      omega
    · left
      have h0 : ∀ i, i < n → S i = false := fun i hi => by
        cases hs : S i with
        | false => rfl
        | true => exact absurd ⟨i, hi, hs⟩ h
      intro i hi
      rw [hl]
      show g S i = S i
      rw [he S h0 i hi, h0 i hi]
  | succ k ih =>
    rcases ih with ih | ih
    · left
      intro i hi
      rw [hl (k + 1), hl k]
      rw [hl k] at ih
      exact hx _ _ ih i hi
    · by_cases h : ∃ i, i < n ∧ itr (fun _ => g) 0 k S i = false ∧ itr (fun _ => g) 0 (k + 1) S i = true
      · right
        have h1 := cnt_lt (S := itr (fun _ => g) 0 k S) (T := itr (fun _ => g) 0 (k + 1) S) n (fun i hi e => by rw [hl]; exact hg _ i hi e) h
        omega
      · left
        have heq : ∀ i, i < n → itr (fun _ => g) 0 (k + 1) S i = itr (fun _ => g) 0 k S i := by
          intro i hi
          cases h1 : itr (fun _ => g) 0 k S i with
          | true => rw [hl]; exact hg _ i hi h1
          | false =>
            cases h2 : itr (fun _ => g) 0 (k + 1) S i with
            | false => rfl
            | true => exact absurd ⟨i, hi, h1, h2⟩ h
        intro i hi
        rw [hl (k + 1)]
        have h3 := hx _ _ heq i hi
        rw [← hl k] at h3
        exact h3
