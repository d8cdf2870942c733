/-! FORMS AS THEY ARE TOLD OF: what is made ahead of what, and what holds at each point of a run -/
abbrev Pl : Type := Nat → Option Nat
def aE (A : AF) (C : Nat → Prop) (a b : Nat) : Prop := C a ∧ ∃ j, j < aEk A a ∧ aTg A (a * 2 + j) = some b
/-- a value is there, in a block behind the values of l -/
def avl (A : AF) (pl : Pl) (C : Nat → Prop) (b : Nat) (l : List Nat) (v : Nat) : Prop := v < 6 ∨ (pl v = some b ∧ (aKd A v = 9 ∨ v ∈ l)) ∨ ∃ p, pl v = some p ∧ p ≠ b ∧ ¬ RW (aE A C) (some p) b
/-- a value that may be used -/
def usb (A : AF) (v : Nat) : Prop := v < 6 ∨ aKd A v ≤ 6 ∨ aKd A v = 9
/-- lists and places -/
def gL (A : AF) (pl : Pl) (C : Nat → Prop) : Prop := (∀ b, C b → ∀ v, v ∈ aLs A b ↔ pl v = some b) ∧ (∀ b, C b → (aLs A b).Nodup) ∧ (∀ v p, pl v = some p → 6 ≤ v ∧ v < 140 ∧ 1 ≤ aKd A v ∧ aKd A v ≤ 9) ∧ (∀ v, v ∈ aLs A 0 → aKd A v ≠ 9) ∧ ∀ b l1 u l2, C b → aLs A b = l1 ++ u :: l2 → aKd A u = 9 → ∀ z, z ∈ l1 → aKd A z = 9
/-- edges and ways -/
def gE (A : AF) (C : Nat → Prop) : Prop := C 0 ∧ (∀ b, C b → RW (fun a c => aE A C a c ∧ C c) none b) ∧ (∀ b, C b → (aEd A b).Nodup) ∧ (∀ b s j, C b → C s → j < aEk A s → aTg A (s * 2 + j) = some b → s * 2 + j ∈ aEd A b) ∧ (∀ b w, C b → w ∈ aEd A b → C (w / 2) → w % 2 < aEk A (w / 2) ∧ aTg A w = some b) ∧ aEd A 0 = [] ∧ ∀ b, C b → aEk A b ≤ 2
/-- how many arguments -/
def gN (A : AF) (C : Nat → Prop) : Prop := (∀ b u, C b → u ∈ aLs A b → (aKd A u = 9 → (aAg A u).length = (aEd A b).length) ∧ (aKd A u ≤ 5 ∨ aKd A u = 7 → (aAg A u).length = 2) ∧ (aKd A u = 6 ∨ aKd A u = 8 → (aAg A u).length = 1)) ∧ ∀ b, C b → (aEk A b = 1 → aAg A (140 + b) = []) ∧ (aEk A b ≠ 1 → (aAg A (140 + b)).length = 1)
/-- what is used is there -/
def gD (A : AF) (pl : Pl) (C : Nat → Prop) : Prop := (∀ b l1 u l2, C b → aLs A b = l1 ++ u :: l2 → aKd A u ≠ 9 → ∀ v, Sum.inl v ∈ aAg A u → usb A v ∧ avl A pl C b l1 v) ∧ (∀ b v, C b → Sum.inl v ∈ aAg A (140 + b) → usb A v ∧ avl A pl C b (aLs A b) v) ∧ ∀ b u w v, C b → u ∈ aLs A b → aKd A u = 9 → (w, Sum.inl v) ∈ (aEd A b).zip (aAg A u) → C (w / 2) → usb A v ∧ avl A pl C (w / 2) (aLs A (w / 2)) v
def gd (A : AF) (pl : Pl) (C : Nat → Prop) : Prop := gL A pl C ∧ gE A C ∧ gN A C ∧ gD A pl C
/-- all ways lead to blocks of C -/
def clo (A : AF) (C : Nat → Prop) : Prop := ∀ b j, C b → j < aEk A b → ∃ t, aTg A (b * 2 + j) = some t ∧ C t
section AV
variable {A : AF} {pl : Pl} {C : Nat → Prop}
theorem gd.reach (hg : gd A pl C) {b : Nat} (hb : C b) : RW (aE A C) none b := RW_mono (fun _ _ h => h.1) (hg.2.1.2.1 b hb)
/-- what dominates a block of C is one of C -/
theorem dom_C (hg : gd A pl C) {b p : Nat} (hb : C b) (h : ¬ RW (aE A C) (some p) b) : C p := by
  refine Classical.byContradiction fun hp => h ?_
  exact RW_ind (P := fun v => RW (aE A C) (some p) v) (fun _ => RW_base fun e => hp (by rw [Option.some.inj e]; exact hg.2.1.1)) (fun a c _ ih he _ _ => RW_step ih he.1 fun e => hp (by rw [Option.some.inj e]; exact he.2)) (hg.2.1.2.1 b hb)
theorem avl.place (hg : gd A pl C) {b v : Nat} {l : List Nat} (hb : C b) (h : avl A pl C b l v) (h6 : 6 ≤ v) : ∃ p, pl v = some p ∧ C p := by
  rcases h with h | ⟨h1, -⟩ | ⟨p, h1, -, h3⟩
  · omega
  · exact ⟨b, h1, hb⟩
  · exact ⟨p, h1, dom_C hg hb h3⟩
theorem avl.mono {b : Nat} {l l' : List Nat} {v : Nat} (h : avl A pl C b l v) (hl : ∀ z, z ∈ l → z ∈ l') : avl A pl C b l' v := by
  rcases h with h | ⟨h1, h2⟩ | h
  · exact Or.inl h
  · exact Or.inr (Or.inl ⟨h1, h2.imp id (hl _)⟩)
  · exact Or.inr (Or.inr h)
/-- over an edge -/
theorem avl.edge (hg : gd A pl C) {b t v : Nat} (he : aE A C b t) (h : avl A pl C t [] v) : (pl v = some t ∧ aKd A v = 9) ∨ (pl v ≠ some t ∧ avl A pl C b (aLs A b) v) := by
  rcases h with h | ⟨h1, h2⟩ | ⟨p, h1, h2, h3⟩
  · refine Or.inr ⟨fun q => ?_, Or.inl h⟩
    have := (hg.1.2.2.1 v t q).1
    omega
  · rcases h2 with h2 | h2
    · exact Or.inl ⟨h1, h2⟩
    · cases h2
  · refine Or.inr ⟨fun q => h2 (Option.some.inj (h1.symm.trans q)), ?_⟩
    by_cases hp : p = b
    · subst hp
      exact Or.inr (Or.inl ⟨h1, Or.inr ((hg.1.1 p he.1 v).mpr h1)⟩)
    · exact Or.inr (Or.inr ⟨p, h1, hp, fun q => h3 (RW_step q he fun e => h2 (Option.some.inj e))⟩)
theorem phA_out {b v : Nat} {e : Option Nat} {H : Hd} (h : v ∈ aLs A b → aKd A v ≠ 9) : phA A b e H v = H v := by
  unfold phA
  rw [if_neg (fun q => h q.1 q.2)]
theorem avl.app {b u v : Nat} {l : List Nat} (h : avl A pl C b (l ++ [u]) v) : v = u ∨ avl A pl C b l v := by
  rcases h with h | ⟨h1, h2⟩ | h
  · exact Or.inr (Or.inl h)
  · rcases h2 with h2 | h2
    · exact Or.inr (Or.inr (Or.inl ⟨h1, Or.inl h2⟩))
    · rcases List.mem_append.mp h2 with h2 | h2
      · exact Or.inr (Or.inr (Or.inl ⟨h1, Or.inr h2⟩))
      · exact Or.inl (by simpa using h2)
  · exact Or.inr (Or.inr (Or.inr h))
theorem dom_anti {E : Nat → Nat → Prop} {p b : Nat} (hb : RW E none b) (h1 : ¬ RW E (some p) b) (h2 : ¬ RW E (some b) p) : p = b := by
  have hpb : Dm E p b := ⟨hb, h1⟩
  exact Dm_anti hpb ⟨Dm_left hpb, h2⟩
theorem dom_trans {E : Nat → Nat → Prop} {q p b : Nat} (hb : RW E none b) (h1 : ¬ RW E (some q) p) (h2 : ¬ RW E (some p) b) : ¬ RW E (some q) b := by
  have hpb : Dm E p b := ⟨hb, h2⟩
  exact (Dm_trans (⟨Dm_left hpb, h1⟩ : Dm E q p) hpb).2
/-- w is there where v is made -/
def prc (A : AF) (pl : Pl) (C : Nat → Prop) (w v : Nat) : Prop := ∃ p l1 l2, pl v = some p ∧ aLs A p = l1 ++ v :: l2 ∧ avl A pl C p (if aKd A v = 9 then [] else l1) w
theorem nodup_split {l1 l2 m1 m2 : List Nat} {v : Nat} (hn : (l1 ++ v :: l2).Nodup) (h : l1 ++ v :: l2 = m1 ++ v :: m2) : l1 = m1 := by
  induction l1 generalizing m1 with
  | nil =>
    cases m1 with
    | nil => rfl
    | cons a r =>
      rw [List.nil_append, List.cons_append] at h
      have ha : v = a := (List.cons.inj h).1
      have hb : l2 = r ++ v :: m2 := (List.cons.inj h).2
      rw [List.nil_append, List.nodup_cons, hb] at hn
      exact absurd (List.mem_append_right _ List.mem_cons_self) hn.1
  | cons a r ih =>
    cases m1 with
    | nil =>
      rw [List.nil_append, List.cons_append] at h
      have ha : a = v := (List.cons.inj h).1
      rw [List.cons_append, List.nodup_cons, ha] at hn
      exact absurd (List.mem_append_right _ List.mem_cons_self) hn.1
    | cons c s =>
      rw [List.cons_append, List.cons_append] at h
      rw [List.cons_append, List.nodup_cons] at hn
      rw [(List.cons.inj h).1, ih hn.2 (List.cons.inj h).2]
/-- in a list without twins, what stands before a member of a beginning stands in that beginning -/
theorem pre_sub {l l' l1 l2 : List Nat} {v : Nat} (hn : (l ++ l').Nodup) (h : l ++ l' = l1 ++ v :: l2) (hv : v ∈ l) : ∀ z, z ∈ l1 → z ∈ l := by
  obtain ⟨m1, m2, rfl⟩ := List.append_of_mem hv
  have e : m1 ++ v :: (m2 ++ l') = l1 ++ v :: l2 := by rw [← h]; simp
  have hn2 : (m1 ++ v :: (m2 ++ l')).Nodup := by
    rw [show m1 ++ v :: (m2 ++ l') = m1 ++ v :: m2 ++ l' by simp]
    exact hn
  rw [← nodup_split hn2 e]
  exact fun z hz => List.mem_append_left _ hz
theorem prc.trans (hg : gd A pl C) {b v w : Nat} {l l' : List Nat} (hb : C b) (hl : aLs A b = l ++ l') (hv : avl A pl C b l v) (h : prc A pl C w v) : avl A pl C b l w := by
  obtain ⟨p, l1, l2, h1, h2, h3⟩ := h
  have hr := gd.reach hg hb
  rcases hv with hv | ⟨g1, g2⟩ | ⟨q, g1, g2, g3⟩
  · have := (hg.1.2.2.1 v p h1).1
    omega
  · have hpb : p = b := Option.some.inj (h1.symm.trans g1)
    subst hpb
    refine h3.mono fun z hz => ?_
    by_cases h9 : aKd A v = 9
    · rw [if_pos h9] at hz
      cases hz
    · rw [if_neg h9] at hz
      have hn := hg.1.2.1 p hb
      rw [hl] at hn h2
      exact pre_sub hn h2 (g2.resolve_left h9) z hz
  · have hqp : p = q := Option.some.inj (h1.symm.trans g1)
    subst hqp
    rcases h3 with h3 | ⟨k1, k2⟩ | ⟨r, k1, k2, k3⟩
    · exact Or.inl h3
    · exact Or.inr (Or.inr ⟨p, k1, g2, g3⟩)
    · by_cases hrb : r = b
      · subst hrb
        exact absurd (dom_anti hr g3 k3) g2
      · exact Or.inr (Or.inr ⟨r, k1, hrb, dom_trans hr k3 g3⟩)
/-- where w is made anew, v is not yet there -/
theorem prc.keep (hg : gd A pl C) {b v w : Nat} {l1 l2 : List Nat} (hb : C b) (hl : aLs A b = l1 ++ w :: l2) (hw9 : aKd A w ≠ 9) (h : prc A pl C w v) : ¬ avl A pl C b l1 v := by
  intro hv
  have hn := hg.1.2.1 b hb
  have hw := prc.trans hg (l' := w :: l2) hb hl hv h
  have hpw : pl w = some b := (hg.1.1 b hb w).mp (by rw [hl]; exact List.mem_append_right _ List.mem_cons_self)
  rw [hl] at hn
  have hnot : w ∉ l1 := fun q => (List.nodup_append.mp hn).2.2 w q w List.mem_cons_self rfl
  rcases hw with hw | ⟨k1, k2⟩ | ⟨r, k1, k2, k3⟩
  · have := (hg.1.2.2.1 w b hpw).1
    omega
  · rcases k2 with k2 | k2
    · exact hw9 k2
    · exact hnot k2
  · exact k2 (Option.some.inj (k1.symm.trans hpw))
/-- where w is made anew ahead of all others of a block, a value of another block is not yet there -/
theorem prc.keep9 (hg : gd A pl C) {t v w : Nat} (ht : C t) (hw : pl w = some t) (hvt : pl v ≠ some t) (h : prc A pl C w v) : ¬ avl A pl C t [] v := by
  intro hv
  obtain ⟨p, l1, l2, h1, h2, h3⟩ := h
  have hr := gd.reach hg ht
  rcases hv with hv | ⟨g1, g2⟩ | ⟨q, g1, g2, g3⟩
  · have := (hg.1.2.2.1 v p h1).1
    omega
  · exact hvt g1
  · have hqp : p = q := Option.some.inj (h1.symm.trans g1)
    subst hqp
    rcases h3 with h3 | ⟨k1, k2⟩ | ⟨r, k1, k2, k3⟩
    · have := (hg.1.2.2.1 w t hw).1
      omega
    · exact hvt (by rw [h1, ← hw, k1])
    · have hrt : r = t := Option.some.inj (k1.symm.trans hw)
      subst hrt
      exact g2 (dom_anti hr g3 k3)
/-- arguments stand ahead of what uses them -/
theorem prc_arg (hg : gd A pl C) {b u v : Nat} (hb : C b) (hu : pl u = some b) (h9 : aKd A u ≠ 9) (hv : Sum.inl v ∈ aAg A u) : prc A pl C v u := by
  obtain ⟨l1, l2, hl⟩ := List.append_of_mem ((hg.1.1 b hb u).mpr hu)
  refine ⟨b, l1, l2, hu, hl, ?_⟩
  rw [if_neg h9]
  exact (hg.2.2.2.1 b l1 u l2 hb hl h9 v hv).2
/-- a way that is taken is an edge -/
theorem way_edge {b t : Nat} {x : Int32} (hb : C b) (h2 : aEk A b ≤ 2) (h0 : aEk A b ≠ 0) (ht : aTg A (b * 2 + wyN (aEk A b) x) = some t) : aE A C b t := by
  refine ⟨hb, wyN (aEk A b) x, ?_, ht⟩
  unfold wyN
  split
  · rename_i h
    rw [h.1]
    decide
  · omega
end AV
