/-! VALUES THAT NOBODY NEEDS may be left out -/
/-- a value that does nothing but give a number -/
def harmless (A : AF) (v : Nat) : Prop := aKd A v = 9 ∨ aKd A v = 1 ∨ aKd A v = 2 ∨ aKd A v = 3 ∨ aKd A v = 5 ∨ aKd A v = 6 ∨ (aKd A v = 4 ∧ ∃ n : Int32, n ≠ 0 ∧ (aAg A v)[1]? = some (.inr n))
/-- B is A without the values of D -/
def without (A B : AF) (D : Nat → Bool) : Prop :=
  (∀ v, D v = false → aKd B v = aKd A v) ∧ (∀ u, (u < 140 → D u = false) → aAg B u = aAg A u) ∧ (∀ b, aLs B b = (aLs A b).filter fun v => !D v) ∧ aEd B = aEd A ∧ aEk B = aEk A ∧ aTg B = aTg A
def closedD (A : AF) (D : Nat → Bool) : Prop :=
  (∀ b v, v ∈ aLs A b → v < 140) ∧ (∀ b v, v ∈ aLs A b → D v = true → harmless A v) ∧ (∀ b v, v ∈ aLs A b → D v = false → ∀ w, Sum.inl w ∈ aAg A v → D w = false) ∧ ∀ b w, Sum.inl w ∈ aAg A (140 + b) → D w = false
def agD (D : Nat → Bool) (H H' : Hd) : Prop := ∀ v, D v = false → H' v = H v
theorem evA_ag {D : Nat → Bool} {H H' : Hd} (h : agD D H H') {a : Ag} (ha : ∀ w, a = .inl w → D w = false) : evA H' a = evA H a := by
  cases a with
  | inl w => exact h w (ha w rfl)
  | inr n => rfl
theorem evK_ag {A B : AF} {D : Nat → Bool} {H H' : Hd} {u k : Nat} (h : agD D H H') (hu : aAg B u = aAg A u) (ha : ∀ w, Sum.inl w ∈ aAg A u → D w = false) : evK B H' u k = evK A H u k := by
  unfold evK
  rw [hu]
  cases hg : (aAg A u)[k]? with
  | none => rfl
  | some a => exact evA_ag h fun w hw => ha w (by rw [← hw]; exact List.mem_of_getElem? hg)
theorem harm_act {A : AF} {v : Nat} {H : Hd} {m : Me} (h : harmless A v) (h9 : aKd A v ≠ 9) : (actM (aKd A v) (evK A H v 0) (evK A H v 1) m).2 = (m, false) := by
  unfold harmless at h
  unfold actM
  rcases h with h | h | h | h | h | h | ⟨h, n, hn, ha⟩
  · exact absurd h h9
  · rw [h]; simp
  · rw [h]; simp
  · rw [h]; simp
  · rw [h]; simp
  · rw [h]; simp
  · have he : evK A H v 1 = n := by unfold evK; rw [ha]; rfl
    rw [h, he]
    simp [hn]
theorem va_dead {A B : AF} {D : Nat → Bool} (hW : without A B D) (hC : closedD A D) {b : Nat} : ∀ (l : List Nat) (H H' : Hd) (m : Me) (c c' : Nat), (∀ v ∈ l, v ∈ aLs A b) → agD D H H' → c' ≤ c →
    (vaA B (l.filter fun v => !D v) H' m c').2.1 = (vaA A l H m c).2.1 ∧ (vaA B (l.filter fun v => !D v) H' m c').2.2.1 ≤ (vaA A l H m c).2.2.1 ∧ (vaA B (l.filter fun v => !D v) H' m c').2.2.2 = (vaA A l H m c).2.2.2 ∧ agD D (vaA A l H m c).1 (vaA B (l.filter fun v => !D v) H' m c').1 := by
  obtain ⟨w1, w2, w3, w4, w5, w6⟩ := hW
  obtain ⟨c1, c2, c3, c4⟩ := hC
  intro l
  induction l with
  | nil => intro H H' m c c' _ hag hcc; exact ⟨rfl, hcc, rfl, hag⟩
  | cons v r ih =>
    intro H H' m c c' hl hag hcc
    have hv := hl v List.mem_cons_self
    have hr := fun z hz => hl z (List.mem_cons_of_mem _ hz)
    cases hD : D v with
    | true =>
      rw [List.filter_cons_of_neg (by simp [hD])]
      by_cases h9 : aKd A v = 9
      · have hA : vaA A (v :: r) H m c = vaA A r H m c := by
          conv => lhs; unfold vaA
          rw [if_pos h9]
        rw [hA]
        exact ih H H' m c c' hr hag hcc
      · have hact := harm_act (H := H) (m := m) (c2 b v hv hD) h9
        have e1 : (actM (aKd A v) (evK A H v 0) (evK A H v 1) m).2.1 = m := by rw [hact]
        have e2 : (actM (aKd A v) (evK A H v 0) (evK A H v 1) m).2.2 = false := by rw [hact]
        have hA : vaA A (v :: r) H m c = vaA A r (uH H v (actM (aKd A v) (evK A H v 0) (evK A H v 1) m).1) m (c + coN (aKd A v)) := by
          conv => lhs; unfold vaA
          rw [if_neg h9, if_neg (by rw [e2]; decide), e1]
        rw [hA]
        refine ih _ H' m _ c' hr (fun z hz => ?_) (by omega)
        unfold uH
        have hzv : z ≠ v := fun q => by rw [q, hD] at hz; cases hz
        rw [if_neg hzv]
        exact hag z hz
    | false =>
      rw [List.filter_cons_of_pos (by simp [hD])]
      have hk : aKd B v = aKd A v := w1 v hD
      have ha : aAg B v = aAg A v := w2 v fun _ => hD
      have p0 := evK_ag (k := 0) hag ha (c3 b v hv hD)
      have p1 := evK_ag (k := 1) hag ha (c3 b v hv hD)
      unfold vaA
      rw [hk, p0, p1]
      by_cases h9 : aKd A v = 9
      · rw [if_pos h9, if_pos h9]
        exact ih H H' m c c' hr hag hcc
      · rw [if_neg h9, if_neg h9]
        have hset : agD D (uH H v (actM (aKd A v) (evK A H v 0) (evK A H v 1) m).1) (uH H' v (actM (aKd A v) (evK A H v 0) (evK A H v 1) m).1) := fun z hz => by
          unfold uH
          by_cases hzv : z = v
          · rw [if_pos hzv, if_pos hzv]
          · rw [if_neg hzv, if_neg hzv]; exact hag z hz
        by_cases ht : (actM (aKd A v) (evK A H v 0) (evK A H v 1) m).2.2 = true
        · rw [if_pos ht, if_pos ht]
          exact ⟨rfl, Nat.add_le_add_right hcc _, rfl, hset⟩
        · rw [if_neg ht, if_neg ht]
          exact ih _ _ _ _ _ hr hset (Nat.add_le_add_right hcc _)
theorem ph_dead {A B : AF} {D : Nat → Bool} (hW : without A B D) (hC : closedD A D) (b : Nat) (e : Option Nat) {H H' : Hd} (h : agD D H H') : agD D (phA A b e H) (phA B b e H') := by
  obtain ⟨w1, w2, w3, w4, w5, w6⟩ := hW
  intro v hv
  unfold phA
  have hk : aKd B v = aKd A v := w1 v hv
  have hm : v ∈ aLs B b ↔ v ∈ aLs A b := by
    rw [w3 b, List.mem_filter]
    simp [hv]
  by_cases hq : v ∈ aLs A b ∧ aKd A v = 9
  · rw [if_pos hq, if_pos ⟨hm.mpr hq.1, by rw [hk]; exact hq.2⟩]
    cases e with
    | none => rfl
    | some k => exact evK_ag h (w2 v fun _ => hv) (hC.2.2.1 b v hq.1 hv)
  · rw [if_neg hq, if_neg (fun z => hq ⟨hm.mp z.1, by rw [← hk]; exact z.2⟩)]
    exact h v hv
/-- how two runs are the same, but that the second costs no more and ends no more -/
def noWorse : Oc → Oc → Prop
  | none, _ => True
  | some (t, x, m, c, n), r => ∃ c' n', c' ≤ c ∧ n' ≤ n ∧ r = some (t, x, m, c', n')
theorem ru_dead {A B : AF} {D : Nat → Bool} (hW : without A B D) (hC : closedD A D) : ∀ (d b : Nat) (e : Option Nat) (H H' : Hd) (m : Me) (c c' n : Nat), agD D H H' → c' ≤ c → noWorse (ruA A d b e H m c n) (ruA B d b e H' m c' n) := by
  obtain ⟨w1, w2, w3, w4, w5, w6⟩ := id hW
  intro d
  induction d with
  | zero =>
    intro b e H H' m c c' n hag hcc
    obtain ⟨g1, g2, g3, g4⟩ := va_dead hW hC (b := b) (aLs A b) (phA A b e H) (phA B b e H') m c c' (fun _ h => h) (ph_dead hW hC b e hag) hcc
    unfold ruA
    rw [w3 b, g3, g1]
    by_cases ht : (vaA A (aLs A b) (phA A b e H) m c).2.2.2 = true
    · rw [if_pos ht, if_pos ht]
      exact ⟨_, _, g2, Nat.le_refl _, rfl⟩
    · rw [if_neg ht, if_neg ht]
      trivial
  | succ d ih =>
    intro b e H H' m c c' n hag hcc
    obtain ⟨g1, g2, g3, g4⟩ := va_dead hW hC (b := b) (aLs A b) (phA A b e H) (phA B b e H') m c c' (fun _ h => h) (ph_dead hW hC b e hag) hcc
    have hev : evK B (vaA B ((aLs A b).filter fun v => !D v) (phA B b e H') m c').1 (140 + b) 0 = evK A (vaA A (aLs A b) (phA A b e H) m c).1 (140 + b) 0 := evK_ag g4 (w2 (140 + b) (fun h => by omega)) (hC.2.2.2 b)
    unfold ruA
    rw [w3 b, g3, g1, w5, w6, hev]
    by_cases ht : (vaA A (aLs A b) (phA A b e H) m c).2.2.2 = true
    · rw [if_pos ht, if_pos ht]
      exact ⟨_, _, g2, Nat.le_refl _, rfl⟩
    · rw [if_neg ht, if_neg ht]
      by_cases h0 : aEk A b = 0
      · rw [if_pos h0, if_pos h0]
        exact ⟨_, _, g2, Nat.le_refl _, rfl⟩
      · rw [if_neg h0, if_neg h0]
        cases hg : aTg A (b * 2 + wyN (aEk A b) (evK A (vaA A (aLs A b) (phA A b e H) m c).1 (140 + b) 0)) with
        | none => trivial
        | some t =>
          have hedI : edI B t = edI A t := by
            funext w
            unfold edI
            rw [w4]
          dsimp only
          rw [hedI]
          exact ih t _ _ _ _ _ _ _ g4 (Nat.add_le_add_right g2 _)
/-- a form without values that nobody needs runs as before, and costs no more -/
theorem run_dead {A B : AF} {D : Nat → Bool} (hW : without A B D) (hC : closedD A D) (x y : Int32) : noWorse (runA A x y) (runA B x y) := ru_dead hW hC 300 0 none _ _ _ _ _ _ (fun _ _ => rfl) (Nat.le_refl _)
