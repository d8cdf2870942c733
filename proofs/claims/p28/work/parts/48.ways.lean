/-! WAYS AND EDGES are dropped, and change their names -/
theorem er_zip {α β : Type} {l : List α} {m : List β} {k : Nat} {a : α} {b : β} : (a, b) ∈ (l.eraseIdx k).zip (m.eraseIdx k) ↔ ∃ j, j ≠ k ∧ l[j]? = some a ∧ m[j]? = some b := by
  constructor
  · intro h
    obtain ⟨i, h1, h2⟩ := zip_idx _ _ _ _ h
    rw [List.getElem?_eraseIdx] at h1 h2
    by_cases hi : i < k
    · rw [if_pos hi] at h1 h2
      exact ⟨i, by omega, h1, h2⟩
    · rw [if_neg hi] at h1 h2
      exact ⟨i + 1, by omega, h1, h2⟩
  · rintro ⟨j, hj, h1, h2⟩
    rcases Nat.lt_or_ge j k with h | h
    · refine idx_zip _ _ j _ _ ?_ ?_
      · rw [List.getElem?_eraseIdx, if_pos h]; exact h1
      · rw [List.getElem?_eraseIdx, if_pos h]; exact h2
    · refine idx_zip _ _ (j - 1) _ _ ?_ ?_
      · rw [List.getElem?_eraseIdx, if_neg (by omega), show j - 1 + 1 = j by omega]; exact h1
      · rw [List.getElem?_eraseIdx, if_neg (by omega), show j - 1 + 1 = j by omega]; exact h2
theorem nodup_idx {α : Type} {l : List α} (hn : l.Nodup) : ∀ {i j : Nat} {x : α}, l[i]? = some x → l[j]? = some x → i = j := by
  induction l with
  | nil => intro i j x h; cases h
  | cons y r ih =>
    rw [List.nodup_cons] at hn
    intro i j x h1 h2
    cases i with
    | zero =>
      cases j with
      | zero => rfl
      | succ j =>
        cases h1
        exact absurd (List.mem_of_getElem? (l := r) (i := j) h2) hn.1
    | succ i =>
      cases j with
      | zero =>
        cases h2
        exact absurd (List.mem_of_getElem? (l := r) (i := i) h1) hn.1
      | succ j => rw [ih hn.2 (i := i) (j := j) h1 h2]
theorem nodup_set {l : List Nat} : ∀ {k w : Nat}, l.Nodup → w ∉ l → (l.set k w).Nodup := by
  induction l with
  | nil => intro k w h _; exact h
  | cons x r ih =>
    intro k w hn hw
    rw [List.nodup_cons] at hn
    rw [List.mem_cons, not_or] at hw
    cases k with
    | zero =>
      show (w :: r).Nodup
      rw [List.nodup_cons]
      exact ⟨hw.2, hn.2⟩
    | succ k =>
      show (x :: r.set k w).Nodup
      rw [List.nodup_cons]
      refine ⟨fun h => ?_, ih hn.2 hw.2⟩
      rcases List.mem_or_eq_of_mem_set h with h | h
      · exact hn.1 h
      · exact hw.1 h.symm
/-- the edge of a way is taken, and the arguments for it -/
def aDrop (A : AF) (w : Nat) : AF := match aTg A w with
  | none => A
  | some t => match edI A t w with
    | none => A
    | some k => (aKd A, fun u => if u ∈ aLs A t ∧ aKd A u = 9 then (aAg A u).eraseIdx k else aAg A u, aLs A, fun b => if b = t then (aEd A t).eraseIdx k else aEd A b, aEk A, fun x => if x = w then none else aTg A x)
/-- the edge of a way becomes that of another one -/
def aChg (A : AF) (w w' : Nat) : AF := match aTg A w with
  | none => A
  | some t => match edI A t w with
    | none => A
    | some k => if w = w' then A else (aKd A, aAg A, aLs A, fun b => if b = t then (aEd A t).set k w' else aEd A b, aEk A, fun x => if x = w then none else if x = w' then some t else aTg A x)
section WAYS
variable {A : AF} {pl : Pl} {C : Nat → Prop}
/-- lists tell where values are, and what the edges of C's blocks are -/
def gW (A : AF) (pl : Pl) (C : Nat → Prop) : Prop := (∀ b v, v ∈ aLs A b → pl v = some b ∧ v < 140) ∧ (∀ t, C t → (aEd A t).Nodup) ∧ (∀ t u, C t → u ∈ aLs A t → aKd A u = 9 → (aAg A u).length = (aEd A t).length) ∧ ∀ t w, C t → w ∈ aEd A t → aTg A w = some t
theorem drop_same (A : AF) (w : Nat) : aKd (aDrop A w) = aKd A ∧ aLs (aDrop A w) = aLs A ∧ aEk (aDrop A w) = aEk A := by
  unfold aDrop
  split
  · exact ⟨rfl, rfl, rfl⟩
  · split <;> exact ⟨rfl, rfl, rfl⟩
theorem drop_tg (A : AF) (w x : Nat) (h : x ≠ w) : aTg (aDrop A w) x = aTg A x := by
  unfold aDrop
  split
  · rfl
  · split
    · rfl
    · exact if_neg h
theorem drop_ag (A : AF) (w u : Nat) (h : ∀ t, u ∈ aLs A t → aKd A u ≠ 9) : aAg (aDrop A w) u = aAg A u := by
  unfold aDrop
  split
  · rfl
  · split
    · rfl
    · exact if_neg fun q => h _ q.1 q.2
theorem drop_nil (A : AF) (w u : Nat) (h : aAg A u = []) : aAg (aDrop A w) u = [] := by
  unfold aDrop
  split
  · exact h
  · split
    · exact h
    · show (if _ then (aAg A u).eraseIdx _ else aAg A u) = []
      rw [h]
      split <;> rfl
theorem drop_ed (hW : gW A pl C) (w : Nat) {t : Nat} (ht : C t) (x : Nat) : x ∈ aEd (aDrop A w) t ↔ x ∈ aEd A t ∧ x ≠ w := by
  obtain ⟨-, h2, -, h4⟩ := hW
  have no : (∀ s, aTg A w = some s → edI A s w = none) → ¬ (w ∈ aEd A t) := fun h q => by
    obtain ⟨k, hk⟩ := edI_mem q
    rw [h t (h4 t w ht q)] at hk
    cases hk
  have plain : (∀ s, aTg A w = some s → edI A s w = none) → (x ∈ aEd A t ↔ x ∈ aEd A t ∧ x ≠ w) := fun h =>
    ⟨fun q => ⟨q, fun e => no h (by rw [← e]; exact q)⟩, fun q => q.1⟩
  unfold aDrop
  split
  · rename_i h
    exact plain fun s hs => by rw [h] at hs; cases hs
  · rename_i s h
    split
    · rename_i hI
      exact plain fun s' hs => by rw [h] at hs; cases hs; exact hI
    · rename_i k hI
      show x ∈ (if t = s then (aEd A s).eraseIdx k else aEd A t) ↔ _
      by_cases hts : t = s
      · subst hts
        rw [if_pos rfl, List.mem_eraseIdx_iff_getElem?]
        have hw := edI_some hI
        constructor
        · rintro ⟨i, hi, hx⟩
          exact ⟨List.mem_of_getElem? hx, fun e => hi (nodup_idx (h2 t ht) (by rw [hx, e]) hw)⟩
        · rintro ⟨hx, hne⟩
          obtain ⟨i, hi⟩ := List.getElem?_of_mem hx
          exact ⟨i, fun e => hne (by rw [e, hw] at hi; exact (Option.some.inj hi).symm), hi⟩
      · rw [if_neg hts]
        refine ⟨fun q => ⟨q, fun e => hts ?_⟩, fun q => q.1⟩
        have := h4 t x ht q
        rw [e, h] at this
        exact (Option.some.inj this).symm
theorem drop_nodup (hW : gW A pl C) (w : Nat) {t : Nat} (ht : C t) : (aEd (aDrop A w) t).Nodup := by
  have h2 := hW.2.1 t ht
  unfold aDrop
  split
  · exact h2
  · rename_i s h
    split
    · exact h2
    · rename_i k hI
      show (if t = s then (aEd A s).eraseIdx k else aEd A t).Nodup
      by_cases hts : t = s
      · subst hts
        rw [if_pos rfl]
        exact h2.sublist (List.eraseIdx_sublist _ _)
      · rw [if_neg hts]
        exact h2
theorem drop_len (hW : gW A pl C) (w : Nat) {t u : Nat} (ht : C t) (hu : u ∈ aLs A t) (h9 : aKd A u = 9) : (aAg (aDrop A w) u).length = (aEd (aDrop A w) t).length := by
  have h3 := hW.2.2.1 t u ht hu h9
  unfold aDrop
  split
  · exact h3
  · rename_i s h
    split
    · exact h3
    · rename_i k hI
      show (if u ∈ aLs A s ∧ aKd A u = 9 then (aAg A u).eraseIdx k else aAg A u).length = (if t = s then (aEd A s).eraseIdx k else aEd A t).length
      by_cases hts : t = s
      · subst hts
        rw [if_pos ⟨hu, h9⟩, if_pos rfl, List.length_eraseIdx, List.length_eraseIdx, h3]
      · rw [if_neg hts, if_neg fun q => hts (Option.some.inj ((hW.1 t u hu).1.symm.trans (hW.1 s u q.1).1))]
        exact h3
theorem drop_zip (hW : gW A pl C) (w : Nat) {t u : Nat} (ht : C t) (hu : u ∈ aLs A t) (h9 : aKd A u = 9) (x : Nat) (a : Ag) : (x, a) ∈ (aEd (aDrop A w) t).zip (aAg (aDrop A w) u) ↔ (x, a) ∈ (aEd A t).zip (aAg A u) ∧ x ≠ w := by
  have hne : (x, a) ∈ (aEd (aDrop A w) t).zip (aAg (aDrop A w) u) → x ≠ w := fun h => ((drop_ed hW w ht x).mp (List.of_mem_zip h).1).2
  have eq : ∀ {p q : Prop}, (p → x ≠ w) → (p ↔ q ∧ x ≠ w) → (p ↔ q ∧ x ≠ w) := fun _ h => h
  have same : aEd (aDrop A w) t = aEd A t → aAg (aDrop A w) u = aAg A u → ((x, a) ∈ (aEd (aDrop A w) t).zip (aAg (aDrop A w) u) ↔ (x, a) ∈ (aEd A t).zip (aAg A u) ∧ x ≠ w) := fun e1 e2 => by
    refine ⟨fun h => ⟨?_, hne h⟩, fun h => ?_⟩
    · rw [e1, e2] at h; exact h
    · rw [e1, e2]; exact h.1
  cases hT : aTg A w with
  | none =>
    refine same ?_ ?_
    · unfold aDrop; rw [hT]
    · unfold aDrop; rw [hT]
  | some s =>
    cases hI : edI A s w with
    | none =>
      refine same ?_ ?_
      · unfold aDrop; rw [hT]; dsimp only; rw [hI]
      · unfold aDrop; rw [hT]; dsimp only; rw [hI]
    | some k =>
      have e1 : aEd (aDrop A w) t = if t = s then (aEd A s).eraseIdx k else aEd A t := by unfold aDrop; rw [hT]; dsimp only; rw [hI]; rfl
      have e2 : aAg (aDrop A w) u = if u ∈ aLs A s ∧ aKd A u = 9 then (aAg A u).eraseIdx k else aAg A u := by unfold aDrop; rw [hT]; dsimp only; rw [hI]; rfl
      by_cases hts : t = s
      · subst hts
        rw [if_pos rfl] at e1
        rw [if_pos ⟨hu, h9⟩] at e2
        rw [e1, e2, er_zip]
        have hw := edI_some hI
        constructor
        · rintro ⟨j, hj, h1, h2⟩
          exact ⟨idx_zip _ _ _ _ _ h1 h2, fun e => hj (nodup_idx (hW.2.1 t ht) (by rw [h1, e]) hw)⟩
        · rintro ⟨h, hx⟩
          obtain ⟨j, h1, h2⟩ := zip_idx _ _ _ _ h
          exact ⟨j, fun e => hx (by rw [e, hw] at h1; exact (Option.some.inj h1).symm), h1, h2⟩
      · rw [if_neg hts] at e1
        rw [if_neg fun q => hts (Option.some.inj ((hW.1 t u hu).1.symm.trans (hW.1 s u q.1).1))] at e2
        exact same e1 e2
theorem drop_W (hW : gW A pl C) (w : Nat) : gW (aDrop A w) pl C := by
  obtain ⟨e1, e2, e3⟩ := drop_same A w
  refine ⟨fun b v => by rw [e2]; exact hW.1 b v, fun t ht => drop_nodup hW w ht, fun t u ht hu h9 => ?_, fun t x ht hx => ?_⟩
  · rw [e2] at hu
    rw [e1] at h9
    exact drop_len hW w ht hu h9
  · obtain ⟨h1, h2⟩ := (drop_ed hW w ht x).mp hx
    rw [drop_tg A w x h2]
    exact hW.2.2.2 t x ht h1
/-- a way that has no other name -/
def chN (w w' x : Nat) : Nat := if x = w then w' else x
theorem chg_same (A : AF) (w w' : Nat) : aKd (aChg A w w') = aKd A ∧ aLs (aChg A w w') = aLs A ∧ aEk (aChg A w w') = aEk A ∧ aAg (aChg A w w') = aAg A := by
  unfold aChg
  split
  · exact ⟨rfl, rfl, rfl, rfl⟩
  · split
    · exact ⟨rfl, rfl, rfl, rfl⟩
    · split <;> exact ⟨rfl, rfl, rfl, rfl⟩
theorem chg_tg {w w' t : Nat} (h : aTg A w = some t) (hI : w ∈ aEd A t) (x : Nat) : aTg (aChg A w w') x = if x = w' then some t else if x = w then none else aTg A x := by
  obtain ⟨k, hk⟩ := edI_mem hI
  unfold aChg
  rw [h]
  dsimp only
  rw [hk]
  dsimp only
  by_cases hw : w = w'
  · rw [if_pos hw]
    by_cases hx : x = w'
    · rw [if_pos hx, hx, ← hw, h]
    · rw [if_neg hx, if_neg (by rw [hw]; exact hx)]
  · rw [if_neg hw]
    show (if x = w then none else if x = w' then some t else aTg A x) = _
    by_cases hx : x = w
    · rw [if_pos hx, if_neg (by rw [hx]; exact hw), if_pos hx]
    · rw [if_neg hx, if_neg hx]
theorem chg_get {w w' t s : Nat} (hW : gW A pl C) (h : aTg A w = some t) (hI : w ∈ aEd A t) (hs : C s) (hw' : w ≠ w' → w' ∉ aEd A t) (j : Nat) : (aEd (aChg A w w') s)[j]? = ((aEd A s)[j]?).map (chN w w') := by
  obtain ⟨k, hk⟩ := edI_mem hI
  have hid : ∀ o : Option Nat, (∀ x, o = some x → x ≠ w) → o = o.map (chN w w') := fun o ho => by
    cases o with
    | none => rfl
    | some x => show some x = some (if x = w then w' else x); rw [if_neg (ho x rfl)]
  unfold aChg
  rw [h]
  dsimp only
  rw [hk]
  dsimp only
  by_cases hw : w = w'
  · rw [if_pos hw]
    show (aEd A s)[j]? = _
    cases hx : (aEd A s)[j]? with
    | none => rfl
    | some x =>
      show some x = some (if x = w then w' else x)
      by_cases hxw : x = w
      · rw [if_pos hxw, hxw, hw]
      · rw [if_neg hxw]
  · rw [if_neg hw]
    show (if s = t then (aEd A t).set k w' else aEd A s)[j]? = _
    by_cases hst : s = t
    · subst hst
      rw [if_pos rfl, List.getElem?_set]
      have hkw := edI_some hk
      by_cases hjk : k = j
      · subst hjk
        rw [if_pos rfl, hkw, if_pos (List.getElem?_eq_some_iff.mp hkw).1]
        show some w' = some (if w = w then w' else w)
        rw [if_pos rfl]
      · rw [if_neg hjk]
        exact hid _ fun x hx e => hjk (nodup_idx (hW.2.1 s hs) hkw (by rw [hx, e]))
    · rw [if_neg hst]
      refine hid _ fun x hx e => hst ?_
      have := hW.2.2.2 s x hs (List.mem_of_getElem? hx)
      rw [e, h] at this
      exact (Option.some.inj this).symm
theorem chg_ed {w w' t s : Nat} (hW : gW A pl C) (h : aTg A w = some t) (hI : w ∈ aEd A t) (hs : C s) (hw' : w ≠ w' → w' ∉ aEd A t) (x : Nat) : x ∈ aEd (aChg A w w') s ↔ ∃ y, y ∈ aEd A s ∧ x = chN w w' y := by
  rw [List.mem_iff_getElem?]
  constructor
  · rintro ⟨j, hj⟩
    rw [chg_get hW h hI hs hw'] at hj
    cases hy : (aEd A s)[j]? with
    | none => rw [hy] at hj; cases hj
    | some y =>
      rw [hy] at hj
      exact ⟨y, List.mem_of_getElem? hy, (Option.some.inj hj).symm⟩
  · rintro ⟨y, hy, rfl⟩
    obtain ⟨j, hj⟩ := List.getElem?_of_mem hy
    exact ⟨j, by rw [chg_get hW h hI hs hw', hj]; rfl⟩
theorem chg_len {w w' t s : Nat} (hW : gW A pl C) (h : aTg A w = some t) (hI : w ∈ aEd A t) (hs : C s) (hw' : w ≠ w' → w' ∉ aEd A t) : (aEd (aChg A w w') s).length = (aEd A s).length := by
  have key : ∀ j, (aEd (aChg A w w') s).length ≤ j ↔ (aEd A s).length ≤ j := fun j => by
    rw [← List.getElem?_eq_none_iff, ← List.getElem?_eq_none_iff, chg_get hW h hI hs hw']
    cases (aEd A s)[j]? <;> simp
  have h1 := (key (aEd A s).length).mpr (Nat.le_refl _)
  have h2 := (key (aEd (aChg A w w') s).length).mp (Nat.le_refl _)
  omega
theorem chg_nodup {w w' t s : Nat} (hW : gW A pl C) (h : aTg A w = some t) (hI : w ∈ aEd A t) (hs : C s) (hw' : w ≠ w' → w' ∉ aEd A t) : (aEd (aChg A w w') s).Nodup := by
  have h2 := hW.2.1 s hs
  obtain ⟨k, hk⟩ := edI_mem hI
  unfold aChg
  rw [h]
  dsimp only
  rw [hk]
  dsimp only
  by_cases hw : w = w'
  · rw [if_pos hw]
    exact h2
  · rw [if_neg hw]
    show (if s = t then (aEd A t).set k w' else aEd A s).Nodup
    by_cases hst : s = t
    · subst hst
      rw [if_pos rfl]
      exact nodup_set h2 (hw' hw)
    · rw [if_neg hst]
      exact h2
theorem chg_zip {w w' t s u : Nat} (hW : gW A pl C) (h : aTg A w = some t) (hI : w ∈ aEd A t) (hs : C s) (hw' : w ≠ w' → w' ∉ aEd A t) (x : Nat) (a : Ag) : (x, a) ∈ (aEd (aChg A w w') s).zip (aAg (aChg A w w') u) ↔ ∃ y, (y, a) ∈ (aEd A s).zip (aAg A u) ∧ x = chN w w' y := by
  rw [(chg_same A w w').2.2.2]
  constructor
  · intro hz
    obtain ⟨j, h1, h2⟩ := zip_idx _ _ _ _ hz
    rw [chg_get hW h hI hs hw'] at h1
    cases hy : (aEd A s)[j]? with
    | none => rw [hy] at h1; cases h1
    | some y =>
      rw [hy] at h1
      exact ⟨y, idx_zip _ _ _ _ _ hy h2, (Option.some.inj h1).symm⟩
  · rintro ⟨y, hz, rfl⟩
    obtain ⟨j, h1, h2⟩ := zip_idx _ _ _ _ hz
    exact idx_zip _ _ j _ _ (by rw [chg_get hW h hI hs hw', h1]; rfl) h2
theorem chg_W {w w' t : Nat} (hW : gW A pl C) (h : aTg A w = some t) (hI : w ∈ aEd A t) (hw' : w ≠ w' → aTg A w' = none) : gW (aChg A w w') pl C := by
  obtain ⟨e1, e2, e3, e4⟩ := chg_same A w w'
  have hno : C t → w ≠ w' → w' ∉ aEd A t := fun ht q m => by
    have := hW.2.2.2 t w' ht m
    rw [hw' q] at this
    cases this
  have hno2 : ∀ s, C s → w ≠ w' → s ≠ t → (aEd (aChg A w w') s) = aEd A s := fun s _ q hst => by
    obtain ⟨k, hk⟩ := edI_mem hI
    unfold aChg
    rw [h]
    dsimp only
    rw [hk]
    dsimp only
    rw [if_neg q]
    exact if_neg hst
  by_cases hw : w = w'
  · have : aChg A w w' = A := by
      unfold aChg
      split
      · rfl
      · split
        · rfl
        · rw [if_pos hw]
    rw [this]
    exact hW
  · refine ⟨fun b v => by rw [e2]; exact hW.1 b v, fun s hs => ?_, fun s u hs hu h9 => ?_, fun s x hs hx => ?_⟩
    · by_cases hst : s = t
      · subst hst
        exact chg_nodup hW h hI hs (hno hs)
      · rw [hno2 s hs hw hst]
        exact hW.2.1 s hs
    · rw [e2] at hu
      rw [e1] at h9
      rw [e4, hW.2.2.1 s u hs hu h9]
      by_cases hst : s = t
      · subst hst
        exact (chg_len hW h hI hs (hno hs)).symm
      · rw [hno2 s hs hw hst]
    · rw [chg_tg h hI]
      by_cases hst : s = t
      · subst hst
        obtain ⟨y, hy, e⟩ := (chg_ed hW h hI hs (hno hs) x).mp hx
        unfold chN at e
        by_cases hyw : y = w
        · rw [if_pos hyw] at e
          rw [if_pos e]
        · rw [if_neg hyw] at e
          subst e
          rw [if_neg fun q => hno hs hw (by rw [← q]; exact hy), if_neg hyw]
          exact hW.2.2.2 s x hs hy
      · rw [hno2 s hs hw hst] at hx
        have := hW.2.2.2 s x hs hx
        have n1 : ¬ x = w' := fun q => by rw [q, hw' hw] at this; cases this
        have n2 : ¬ x = w := fun q => hst (by rw [q, h] at this; exact (Option.some.inj this).symm)
        rw [if_neg n1, if_neg n2]
        exact this
end WAYS
