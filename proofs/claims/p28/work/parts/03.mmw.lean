/-! THE MINI MACHINE, part 2: what its cells and locals are on the machine -/
def mmV (r : Nat → Nat) (xs : List Value) (k : Nat) : Value := mmv r (xs.getD k .null)
def mmAt (D : va_G) (cA : (Nat → ClassId) × Cell) (r : Nat → Nat) (H : Heap) (a : Nat) (c : mmC) : Prop :=
  (c.1 < 1000 → ∃ q : vw_C, vwCl[c.1]? = some q ∧ q.2.2 = c.2.length ∧ t_OB a (D.1 c.1) q.2.2 (D.2 c.1) H (mmV r c.2)) ∧
  (¬ c.1 < 1000 → c.1 ≠ 1999 → H[a]? = some (arrV (cA.1 c.1) c.2.length (mmV r c.2))) ∧
  (c.1 = 1999 → H[a]? = some cA.2 ∧ c.2.length = cA.2.slots.size ∧ ∀ j, j < c.2.length → cA.2.slots[j]? = some (mmV r c.2 j))
def mmW (D : va_G) (cA : (Nat → ClassId) × Cell) (r : Nat → Nat) (h : List mmC) (H : Heap) : Prop :=
  (∀ (i : Nat) (c : mmC), h[i]? = some c → mmAt D cA r H (r i) c) ∧ (∀ i j : Nat, i < h.length → j < h.length → r i = r j → i = j) ∧ ∀ j : Nat, h.length ≤ j → r j + h.length = H.size + j
/-- which cells a method may change: those that were there for it, and new ones -/
def mmA (r : Nat → Nat) (h : List mmC) : Nat → Prop := fun q => (∃ i : Nat, mmRo ≤ i ∧ i < h.length ∧ q = r i) ∨ r h.length ≤ q
def mmSl (h : List mmC) : Nat := (h.map fun c => c.2.length).sum
def mmLs (r : Nat → Nat) (ls : Array Slot) (lv : List (Option Value)) : Prop :=
  lv_wf ls ∧ ls.size = lv.length ∧ ∀ (i : Nat) (v : Value), mmGet lv i = some v → ls[i]? = some (.val (mmv r v))
theorem mmv_cat (r : Nat → Nat) (v : Value) : (mmv r v).category = v.category := by cases v <;> rfl
theorem mmAt.lt {D : va_G} {cA : (Nat → ClassId) × Cell} {r : Nat → Nat} {H : Heap} {a : Nat} {c : mmC} (h : mmAt D cA r H a c) : a < H.size := by
  by_cases hc : c.1 < 1000
  · obtain ⟨q, -, -, cell, h1, -⟩ := h.1 hc
    exact (Array.getElem?_eq_some_iff.mp h1).1
  · by_cases h9 : c.1 = 1999
    · exact (Array.getElem?_eq_some_iff.mp (h.2.2 h9).1).1
    · exact (Array.getElem?_eq_some_iff.mp (h.2.1 hc h9)).1
theorem mmAt.kept {D : va_G} {cA : (Nat → ClassId) × Cell} {r : Nat → Nat} {H H1 : Heap} {a : Nat} {c : mmC} (h : mmAt D cA r H a c) (hq : H1[a]? = H[a]?) : mmAt D cA r H1 a c :=
  ⟨fun hc => by obtain ⟨q, h1, h2, h3⟩ := h.1 hc; exact ⟨q, h1, h2, h3.kept hq⟩, fun hc h9 => by rw [hq]; exact h.2.1 hc h9, fun h9 => by rw [hq]; exact h.2.2 h9⟩
theorem mmW.base {D : va_G} {cA : (Nat → ClassId) × Cell} {r : Nat → Nat} {h : List mmC} {H : Heap} (w : mmW D cA r h H) : r h.length = H.size := by
  have := w.2.2 h.length (Nat.le_refl _)
  omega
theorem mmW.set {D : va_G} {cA : (Nat → ClassId) × Cell} {r : Nat → Nat} {h : List mmC} {H H1 : Heap} {i : Nat} {c' : mmC} (w : mmW D cA r h H) (hi : i < h.length) (z : H1.size = H.size) (oq : ∀ q : Nat, q ≠ r i → H1[q]? = H[q]?) (hc : mmAt D cA r H1 (r i) c') : mmW D cA r (h.set i c') H1 := by
  refine ⟨fun j c hj => ?_, fun a b ha hb => ?_, fun j hj => ?_⟩
  · by_cases hij : i = j
    · subst hij
      rw [List.getElem?_set_self hi] at hj
      cases hj
      exact hc
    · rw [List.getElem?_set_ne hij] at hj
      refine (w.1 j c hj).kept (oq _ fun e => ?_)
      exact hij (w.2.1 j i (List.getElem?_eq_some_iff.mp hj).1 hi e).symm
  · rw [List.length_set] at ha hb
    exact w.2.1 a b ha hb
  · rw [List.length_set] at hj ⊢
    rw [z]
    exact w.2.2 j hj
theorem mmW.push {D : va_G} {cA : (Nat → ClassId) × Cell} {r : Nat → Nat} {h : List mmC} {H H1 : Heap} {c : mmC} (w : mmW D cA r h H) (z : H1.size = H.size + 1) (oq : ∀ q : Nat, q < H.size → H1[q]? = H[q]?) (hc : mmAt D cA r H1 H.size c) : mmW D cA r (h ++ [c]) H1 := by
  have hb := w.base
  have hlt : ∀ i, i < h.length → r i < H.size := fun i hi => by
    obtain ⟨c0, h0⟩ : ∃ c0, h[i]? = some c0 := ⟨_, List.getElem?_eq_getElem hi⟩
    exact (w.1 i c0 h0).lt
  refine ⟨fun j c0 hj => ?_, fun a b ha hb2 e => ?_, fun j hj => ?_⟩
  · by_cases hjl : j < h.length
    · rw [List.getElem?_append_left hjl] at hj
      exact (w.1 j c0 hj).kept (oq _ (hlt j hjl))
    · have hlen := (List.getElem?_eq_some_iff.mp hj).1
      simp only [List.length_append, List.length_cons, List.length_nil] at hlen
      have hje : j = h.length := by omega
      subst hje
      rw [List.getElem?_append_right (Nat.le_refl _), Nat.sub_self] at hj
      cases hj
      rw [hb]
      exact hc
  · simp only [List.length_append, List.length_cons, List.length_nil] at ha hb2
    by_cases h1 : a < h.length <;> by_cases h2 : b < h.length
    · exact w.2.1 a b h1 h2 e
    · have : b = h.length := by omega
      subst this
      have := hlt a h1
      omega
    · have : a = h.length := by omega
      subst this
      have := hlt b h2
      omega
    · omega
  · simp only [List.length_append, List.length_cons, List.length_nil] at hj ⊢
    have := w.2.2 j (by omega)
    omega
theorem mmW.app {D : va_G} {cA : (Nat → ClassId) × Cell} {r : Nat → Nat} {h cs : List mmC} {H H1 : Heap} (w : mmW D cA r h H) (z : H1.size = H.size + cs.length) (oq : ∀ q : Nat, q < H.size → H1[q]? = H[q]?) (hc : ∀ (i : Nat) (c : mmC), cs[i]? = some c → mmAt D cA r H1 (H.size + i) c) : mmW D cA r (h ++ cs) H1 := by
  have hlt : ∀ i, i < h.length → r i < H.size := fun i hi => by
    obtain ⟨c0, h0⟩ : ∃ c0, h[i]? = some c0 := ⟨_, List.getElem?_eq_getElem hi⟩
    exact (w.1 i c0 h0).lt
  refine ⟨fun j c0 hj => ?_, fun a b ha hb2 e => ?_, fun j hj => ?_⟩
  · by_cases hjl : j < h.length
    · rw [List.getElem?_append_left hjl] at hj
      exact (w.1 j c0 hj).kept (oq _ (hlt j hjl))
    · rw [List.getElem?_append_right (by omega)] at hj
      have h1 := w.2.2 j (by omega)
      have h2 := hc (j - h.length) c0 hj
      rw [show H.size + (j - h.length) = r j by omega] at h2
      exact h2
  · by_cases h1 : a < h.length <;> by_cases h2 : b < h.length
    · exact w.2.1 a b h1 h2 e
    · have g1 := hlt a h1
      have g2 := w.2.2 b (by omega)
      omega
    · have g1 := hlt b h2
      have g2 := w.2.2 a (by omega)
      omega
    · have g1 := w.2.2 a (by omega)
      have g2 := w.2.2 b (by omega)
      omega
  · rw [List.length_append] at hj ⊢
    have := w.2.2 j (by omega)
    omega
theorem mmA.of {r : Nat → Nat} {h0 : List mmC} {n : Nat} (hb : ∀ j : Nat, h0.length ≤ j → r j + h0.length = n + j) {i : Nat} (ho : mmRo ≤ i) : mmA r h0 (r i) := by
  by_cases hi : i < h0.length
  · exact Or.inl ⟨i, ho, hi, rfl⟩
  · have h1 := hb i (by omega)
    have h2 := hb h0.length (Nat.le_refl _)
    exact Or.inr (by omega)
theorem mmSl_set {h : List mmC} {i : Nat} {c c' : mmC} (hi : h[i]? = some c) (hl : c'.2.length = c.2.length) : mmSl (h.set i c') = mmSl h := by
  induction h generalizing i with
  | nil => simp at hi
  | cons a t ih =>
    cases i with
    | zero =>
      simp at hi
      subst hi
      simp [mmSl, hl]
    | succ i =>
      simp at hi
      have := ih hi
      simp only [mmSl, List.set_cons_succ, List.map_cons, List.sum_cons] at this ⊢
      omega
theorem mmSl_push (h : List mmC) (c : mmC) : mmSl (h ++ [c]) = mmSl h + c.2.length := by simp [mmSl]
theorem mmGet_lt {lv : List (Option Value)} {i : Nat} {v : Value} (h : mmGet lv i = some v) : i < lv.length := by
  unfold mmGet at h
  by_cases hi : i < lv.length
  · exact hi
  · rw [List.getElem?_eq_none (by omega)] at h
    cases h
theorem mmGet_set {lv : List (Option Value)} {i j : Nat} {o : Option Value} : mmGet (lv.set i o) j = if i = j ∧ i < lv.length then o else mmGet lv j := by
  unfold mmGet
  rw [List.getElem?_set]
  by_cases hij : i = j
  · subst hij
    by_cases hl : i < lv.length
    · simp [hl]
    · simp [hl, List.getElem?_eq_none (Nat.not_lt.mp hl)]
  · simp [hij]
/-- the locals as the kit has them -/
def mmKit (r : Nat → Nat) (lv : List (Option Value)) : List (Nat × Value) := (List.range lv.length).filterMap fun i => (mmGet lv i).map fun v => (i, mmv r v)
theorem mmKit_mem {r : Nat → Nat} {lv : List (Option Value)} {q : Nat × Value} : q ∈ mmKit r lv ↔ ∃ v, mmGet lv q.1 = some v ∧ q.2 = mmv r v := by
  unfold mmKit
  rw [List.mem_filterMap]
  constructor
  · rintro ⟨i, -, hi⟩
    cases hv : mmGet lv i with
    | none => rw [hv] at hi; cases hi
    | some v =>
      rw [hv] at hi
      cases hi
      exact ⟨v, hv, rfl⟩
  · rintro ⟨v, h1, h2⟩
    refine ⟨q.1, List.mem_range.mpr (mmGet_lt h1), ?_⟩
    rw [h1]
    exact congrArg some (Prod.ext rfl h2.symm)
theorem mmLs.kit {r : Nat → Nat} {ls : Array Slot} {lv : List (Option Value)} (h : mmLs r ls lv) : lv_has ls lv.length (mmKit r lv) := by
  refine ⟨h.2.1, h.1, fun q hq => ?_⟩
  obtain ⟨v, h1, h2⟩ := mmKit_mem.mp hq
  rw [h2]
  exact h.2.2 _ _ h1
theorem mmLs.at {r : Nat → Nat} {ls : Array Slot} {lv : List (Option Value)} (h : mmLs r ls lv) {i : Nat} {v : Value} (hv : mmGet lv i = some v) : ls[i]? = some (.val (mmv r v)) := h.2.2 i v hv
theorem mmLs.set1 {r : Nat → Nat} {ls : Array Slot} {lv lv' : List (Option Value)} {i : Nat} {v : Value} (hs : mmSet1 lv i v = some lv')
    (h : lv_has ls lv.length ((i, mmv r v) :: (mmKit r lv).filter (fun q => !(q.1 == i) && !(q.1 + 1 == i && q.2.category == 2)))) : mmLs r ls lv' := by
  unfold mmSet1 at hs
  split at hs
  · rename_i hc
    cases hs
    rw [Bool.and_eq_true, decide_eq_true_eq] at hc
    refine ⟨h.2.1, by rw [List.length_set]; exact h.1, fun j w hw => ?_⟩
    rw [mmGet_set] at hw
    split at hw
    · rename_i hij
      cases hw
      rw [← hij.1]
      exact h.2.2 (i, mmv r v) List.mem_cons_self
    · rename_i hij
      have hne : j ≠ i := fun e => hij ⟨e.symm, hc.1⟩
      refine h.2.2 (j, mmv r w) (List.mem_cons_of_mem _ (List.mem_filter.mpr ⟨mmKit_mem.mpr ⟨w, hw, rfl⟩, ?_⟩))
      have h1 : (j == i) = false := by simp [hne]
      have h2 : (j + 1 == i && (mmv r w).category == 2) = false := by
        by_cases hj : j + 1 = i
        · subst hj
          have h3 := hc.2
          simp only [mmOk, hw] at h3
          rw [mmv_cat]
          cases w <;> simp_all [mmWide, Value.category]
        · simp [hj]
      simp [h1, h2]
  · cases hs
theorem mmLs.set2 {r : Nat → Nat} {ls : Array Slot} {lv lv' : List (Option Value)} {i : Nat} {v : Value} (hs : mmSet2 lv i v = some lv')
    (h : lv_has ls lv.length ((i, mmv r v) :: (mmKit r lv).filter (fun q => !(q.1 == i) && (!(q.1 == i + 1) && !(q.1 + 1 == i && q.2.category == 2))))) : mmLs r ls lv' := by
  unfold mmSet2 at hs
  split at hs
  · rename_i hc
    cases hs
    rw [Bool.and_eq_true, decide_eq_true_eq] at hc
    refine ⟨h.2.1, by rw [List.length_set, List.length_set]; exact h.1, fun j w hw => ?_⟩
    rw [mmGet_set] at hw
    split at hw
    · cases hw
    rename_i hij1
    have hne1 : j ≠ i + 1 := fun e => hij1 ⟨e.symm, by rw [List.length_set]; exact hc.1⟩
    rw [mmGet_set] at hw
    split at hw
    · rename_i hij
      cases hw
      rw [← hij.1]
      exact h.2.2 (i, mmv r v) List.mem_cons_self
    · rename_i hij
      have hne : j ≠ i := fun e => hij ⟨e.symm, by omega⟩
      refine h.2.2 (j, mmv r w) (List.mem_cons_of_mem _ (List.mem_filter.mpr ⟨mmKit_mem.mpr ⟨w, hw, rfl⟩, ?_⟩))
      have h1 : (j == i) = false := by simp [hne]
      have h2 : (j == i + 1) = false := by simp [hne1]
      have h3 : (j + 1 == i && (mmv r w).category == 2) = false := by
        by_cases hj : j + 1 = i
        · subst hj
          have h3 := hc.2
          simp only [mmOk, hw] at h3
          rw [mmv_cat]
          cases w <;> simp_all [mmWide, Value.category]
        · simp [hj]
      simp [h1, h2, h3]
  · cases hs
theorem mmSet1_lt {lv lv' : List (Option Value)} {i : Nat} {v : Value} (hs : mmSet1 lv i v = some lv') : i < lv.length := by
  unfold mmSet1 at hs
  split at hs
  · rename_i hc
    rw [Bool.and_eq_true, decide_eq_true_eq] at hc
    exact hc.1
  · cases hs
theorem mmSet2_lt {lv lv' : List (Option Value)} {i : Nat} {v : Value} (hs : mmSet2 lv i v = some lv') : i + 1 < lv.length := by
  unfold mmSet2 at hs
  split at hs
  · rename_i hc
    rw [Bool.and_eq_true, decide_eq_true_eq] at hc
    exact hc.1
  · cases hs
/-- the locals at a method's entry -/
theorem mmSlots_mem (vs : List Value) : ∀ (b i : Nat) (v : Value), mmGet (mmSlots vs) i = some v → (b + i, v) ∈ lv_args b vs := by
  induction vs with
  | nil => intro b i v h; simp [mmSlots, mmGet] at h
  | cons a t ih =>
    intro b i v h
    unfold mmSlots at h
    unfold lv_args
    split at h
    · rename_i hc
      rw [if_pos hc]
      match i, h with
      | 0, h => simp [mmGet] at h; rw [h]; exact List.mem_cons_self
      | 1, h => simp [mmGet] at h
      | i + 2, h =>
        have := ih (b + 2) i v (by simpa [mmGet] using h)
        refine List.mem_cons_of_mem _ ?_
        rwa [show b + (i + 2) = b + 2 + i by omega]
    · rename_i hc
      rw [if_neg hc]
      match i, h with
      | 0, h => simp [mmGet] at h; rw [h]; exact List.mem_cons_self
      | i + 1, h =>
        have := ih (b + 1) i v (by simpa [mmGet] using h)
        refine List.mem_cons_of_mem _ ?_
        rwa [show b + (i + 1) = b + 1 + i by omega]
theorem mmSlots_map (r : Nat → Nat) (vs : List Value) : mmSlots (vs.map (mmv r)) = (mmSlots vs).map (Option.map (mmv r)) := by
  induction vs with
  | nil => rfl
  | cons a t ih =>
    rw [List.map_cons]
    unfold mmSlots
    rw [mmv_cat]
    split
    · simp [ih]
    · simp [ih]
theorem mmSlots_len (vs : List Value) : (mmSlots vs).length = (lg_sl vs).length := by
  induction vs with
  | nil => rfl
  | cons a t ih =>
    unfold mmSlots lg_sl
    rw [List.flatMap_cons]
    split
    · simp [ih, lg_sl]
    · simp [ih, lg_sl]
theorem mmEntry_ls (r : Nat → Nat) {n : Nat} {vs : List Value} (hn : (mmSlots vs).length ≤ n) :
    mmLs r ((lg_sl (vs.map (mmv r)) ++ List.replicate (n - (lg_sl (vs.map (mmv r))).length) Slot.unset).toArray) (mmEntry n vs) := by
  have hl : (lg_sl (vs.map (mmv r))).length = (mmSlots vs).length := by rw [← mmSlots_len, mmSlots_map, List.length_map]
  have he := lv_entry (vs.map (mmv r)) (n := n) (by rw [hl]; exact hn)
  refine ⟨he.2.1, by rw [he.1]; simp [mmEntry]; omega, fun i v hv => ?_⟩
  have h1 : mmGet (mmSlots vs) i = some v := by
    unfold mmEntry mmGet at hv
    unfold mmGet
    by_cases hi : i < (mmSlots vs).length
    · rwa [List.getElem?_append_left hi] at hv
    · rw [List.getElem?_append_right (by omega), List.getElem?_replicate] at hv
      split at hv <;> cases hv
  have h2 : mmGet (mmSlots (vs.map (mmv r))) i = some (mmv r v) := by
    rw [mmSlots_map]
    unfold mmGet at h1 ⊢
    rw [List.getElem?_map]
    cases hg : (mmSlots vs)[i]? with
    | none => rw [hg] at h1; cases h1
    | some o => rw [hg] at h1; simp at h1; rw [h1]; rfl
  have h3 := mmSlots_mem (vs.map (mmv r)) 0 i _ h2
  rw [Nat.zero_add] at h3
  exact he.2.2 _ h3
