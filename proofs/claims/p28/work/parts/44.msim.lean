/-! what holds at each point of a run, and how a form that computes the same runs -/
section PINV
variable {A B : AF} {pl : Pl} {C : Nat → Prop}
/-- what is held behind a value -/
noncomputable def acH (A : AF) (u : Nat) (H : Hd) (m : Me) : Hd := uH H u (actM (aKd A u) (evK A H u 0) (evK A H u 1) m).1
/-- which way is taken -/
def wyA (A : AF) (b : Nat) (H : Hd) : Nat := b * 2 + wyN (aEk A b) (evK A H (140 + b) 0)
/-- P holds at each point of a run: b, the values behind which, what is held -/
def PInv (A : AF) (P : Nat → List Nat → Hd → Prop) : Prop := (∀ x y, P 0 [] (phA A 0 none (H0 x y))) ∧ (∀ b l1 u l2 H m, aLs A b = l1 ++ u :: l2 → P b l1 H → aKd A u ≠ 9 → (actM (aKd A u) (evK A H u 0) (evK A H u 1) m).2.2 = false → P b (l1 ++ [u]) (acH A u H m)) ∧ (∀ b l1 u l2 H, aLs A b = l1 ++ u :: l2 → P b l1 H → aKd A u = 9 → P b (l1 ++ [u]) H) ∧ ∀ b H t, P b (aLs A b) H → aEk A b ≠ 0 → aTg A (wyA A b H) = some t → P t [] (phA A t (edI A t (wyA A b H)) H)
theorem PInv.and {P Q : Nat → List Nat → Hd → Prop} (h1 : PInv A P) (h2 : PInv A Q) : PInv A (fun b l H => P b l H ∧ Q b l H) :=
  ⟨fun x y => ⟨h1.1 x y, h2.1 x y⟩, fun b l1 u l2 H m hl hp h9 hf => ⟨h1.2.1 b l1 u l2 H m hl hp.1 h9 hf, h2.2.1 b l1 u l2 H m hl hp.2 h9 hf⟩, fun b l1 u l2 H hl hp h9 => ⟨h1.2.2.1 b l1 u l2 H hl hp.1 h9, h2.2.2.1 b l1 u l2 H hl hp.2 h9⟩, fun b H t hp h0 ht => ⟨h1.2.2.2 b H t hp.1 h0 ht, h2.2.2.2 b H t hp.2 h0 ht⟩⟩
/-- a way that is taken, where all ways lead to C -/
theorem wyA_lt {b : Nat} {H : Hd} (h2 : aEk A b ≤ 2) (h0 : aEk A b ≠ 0) : ∃ j, j < aEk A b ∧ wyA A b H = b * 2 + j := by
  refine ⟨wyN (aEk A b) (evK A H (140 + b) 0), ?_, rfl⟩
  unfold wyN
  split
  · rename_i h
    rw [h.1]
    decide
  · omega
theorem wyA_edge (hg : gd A pl C) {b t : Nat} {H : Hd} (hb : C b) (h0 : aEk A b ≠ 0) (ht : aTg A (wyA A b H) = some t) : aE A C b t := by
  obtain ⟨j, hj, e⟩ := wyA_lt (H := H) (hg.2.1.2.2.2.2.2.2 b hb) h0
  exact ⟨hb, j, hj, by rw [← e]; exact ht⟩
theorem PInv_C (hg : gd A pl C) (hc : clo A C) : PInv A (fun b _ _ => C b) := by
  refine ⟨fun _ _ => hg.2.1.1, fun _ _ _ _ _ _ _ h _ _ => h, fun _ _ _ _ _ _ h _ => h, fun b H t hb h0 ht => ?_⟩
  obtain ⟨j, hj, e⟩ := wyA_lt (H := H) (hg.2.1.2.2.2.2.2.2 b hb) h0
  obtain ⟨t', h1, h2⟩ := hc b j hb hj
  rw [e, h1] at ht
  cases ht
  exact h2
/-- what a PHI gets over a way -/
theorem idx_zip {α β : Type} : ∀ (l : List α) (m : List β) (k : Nat) (a : α) (b : β), l[k]? = some a → m[k]? = some b → (a, b) ∈ l.zip m := by
  intro l
  induction l with
  | nil => intro m k a b h; cases h
  | cons x r ih =>
    intro m k a b h1 h2
    cases m with
    | nil => cases h2
    | cons y s =>
      cases k with
      | zero =>
        cases h1
        cases h2
        exact List.mem_cons_self
      | succ k => exact List.mem_cons_of_mem _ (ih s k a b h1 h2)
theorem zip_idx {α β : Type} : ∀ (l : List α) (m : List β) (a : α) (b : β), (a, b) ∈ l.zip m → ∃ k : Nat, l[k]? = some a ∧ m[k]? = some b := by
  intro l
  induction l with
  | nil => intro m a b h; cases h
  | cons x r ih =>
    intro m a b h
    cases m with
    | nil => cases h
    | cons y s =>
      rcases List.mem_cons.mp h with h | h
      · cases h
        exact ⟨0, rfl, rfl⟩
      · obtain ⟨k, h1, h2⟩ := ih s a b h
        exact ⟨k + 1, h1, h2⟩
theorem find_nodup : ∀ (l : List Nat) (k w : Nat), l.Nodup → l[k]? = some w → l.findIdx? (fun z => z == w) = some k := by
  intro l
  induction l with
  | nil => intro k w _ h; cases h
  | cons x r ih =>
    intro k w hn h
    rw [List.nodup_cons] at hn
    rw [List.findIdx?_cons]
    cases k with
    | zero =>
      cases h
      simp
    | succ k =>
      have hr : r[k]? = some w := h
      have hx : x ≠ w := fun e => hn.1 (by rw [e]; exact List.mem_of_getElem? hr)
      rw [if_neg (by simpa using hx), ih k w hn.2 hr]
      rfl
theorem edI_get {t w k : Nat} (hn : (aEd A t).Nodup) (h : (aEd A t)[k]? = some w) : edI A t w = some k := find_nodup _ _ _ hn h
theorem edI_some {t w k : Nat} (h : edI A t w = some k) : (aEd A t)[k]? = some w := by
  unfold edI at h
  rw [List.findIdx?_eq_some_iff_getElem] at h
  obtain ⟨hk, h1, -⟩ := h
  rw [List.getElem?_eq_getElem hk]
  simpa using h1
theorem edI_mem {t w : Nat} (h : w ∈ aEd A t) : ∃ k, edI A t w = some k := by
  cases hq : edI A t w with
  | some k => exact ⟨k, rfl⟩
  | none =>
    unfold edI at hq
    rw [List.findIdx?_eq_none_iff] at hq
    have := hq w h
    simp at this
/-- over a way to t, a PHI of t gets the argument that stands where the way stands among the edges -/
theorem evE_way {t u w : Nat} {H : Hd} (hw : w ∈ aEd A t) (hlen : (aAg A u).length = (aEd A t).length) : ∃ a, (w, a) ∈ (aEd A t).zip (aAg A u) ∧ evE A H u (edI A t w) = evA H a := by
  obtain ⟨k, hk⟩ := edI_mem hw
  have h1 := edI_some hk
  have hkl : k < (aEd A t).length := by
    obtain ⟨h, -⟩ := List.getElem?_eq_some_iff.mp h1
    exact h
  have h2 : (aAg A u)[k]? = some (aAg A u)[k] := List.getElem?_eq_getElem (by omega)
  refine ⟨_, idx_zip _ _ _ _ _ h1 h2, ?_⟩
  rw [hk]
  show evK A H u k = _
  unfold evK
  rw [h2]
theorem evE_zip {t u w : Nat} {a : Ag} {H : Hd} (hn : (aEd A t).Nodup) (h : (w, a) ∈ (aEd A t).zip (aAg A u)) : evE A H u (edI A t w) = evA H a := by
  obtain ⟨k, h1, h2⟩ := zip_idx _ _ _ _ h
  rw [edI_get hn h1]
  show evK A H u k = _
  unfold evK
  rw [h2]
/-- a visit of a block, value for value -/
theorem va_msim {T : Nat → List Nat → Hd → Hd → Prop} {lost : Nat → Bool} {b : Nat} (hkd : ∀ v, aKd B v = aKd A v)
    (hval : ∀ l1 u l2 H H' m, aLs A b = l1 ++ u :: l2 → T b l1 H H' → aKd A u ≠ 9 → lost u = false → evK B H' u 0 = evK A H u 0 ∧ evK B H' u 1 = evK A H u 1 ∧ ((actM (aKd A u) (evK A H u 0) (evK A H u 1) m).2.2 = false → T b (l1 ++ [u]) (acH A u H m) (uH H' u (actM (aKd A u) (evK A H u 0) (evK A H u 1) m).1)))
    (hlost : ∀ l1 u l2 H H' m, aLs A b = l1 ++ u :: l2 → T b l1 H H' → aKd A u ≠ 9 → lost u = true → (actM (aKd A u) (evK A H u 0) (evK A H u 1) m).2 = (m, false) ∧ T b (l1 ++ [u]) (acH A u H m) H')
    (hphi : ∀ l1 u l2 H H', aLs A b = l1 ++ u :: l2 → T b l1 H H' → aKd A u = 9 → T b (l1 ++ [u]) H H') :
    ∀ (l2 l1 : List Nat) (H H' : Hd) (m : Me) (c c' : Nat), aLs A b = l1 ++ l2 → T b l1 H H' → c' ≤ c →
      (vaA B (l2.filter fun v => !lost v) H' m c').2.1 = (vaA A l2 H m c).2.1 ∧ (vaA B (l2.filter fun v => !lost v) H' m c').2.2.1 ≤ (vaA A l2 H m c).2.2.1 ∧ (vaA B (l2.filter fun v => !lost v) H' m c').2.2.2 = (vaA A l2 H m c).2.2.2 ∧ ((vaA A l2 H m c).2.2.2 = false → T b (l1 ++ l2) (vaA A l2 H m c).1 (vaA B (l2.filter fun v => !lost v) H' m c').1) := by
  intro l2
  induction l2 with
  | nil =>
    intro l1 H H' m c c' _ hT hcc
    refine ⟨rfl, hcc, rfl, fun _ => ?_⟩
    rw [List.append_nil]
    exact hT
  | cons u r ih =>
    intro l1 H H' m c c' hl hT hcc
    have hl2 : aLs A b = (l1 ++ [u]) ++ r := by rw [hl]; simp
    have ep : l1 ++ u :: r = (l1 ++ [u]) ++ r := by simp
    rw [ep]
    by_cases h9 : aKd A u = 9
    · have hA : vaA A (u :: r) H m c = vaA A r H m c := by
        conv => lhs; unfold vaA
        rw [if_pos h9]
      rw [hA]
      have hT2 := hphi l1 u r H H' hl hT h9
      cases hlo : lost u with
      | true =>
        rw [List.filter_cons_of_neg (by simp [hlo])]
        exact ih _ H H' m c c' hl2 hT2 hcc
      | false =>
        rw [List.filter_cons_of_pos (by simp [hlo])]
        have hB : vaA B (u :: r.filter fun v => !lost v) H' m c' = vaA B (r.filter fun v => !lost v) H' m c' := by
          conv => lhs; unfold vaA
          rw [if_pos (by rw [hkd]; exact h9)]
        rw [hB]
        exact ih _ H H' m c c' hl2 hT2 hcc
    · cases hlo : lost u with
      | true =>
        rw [List.filter_cons_of_neg (by simp [hlo])]
        obtain ⟨g1, g2⟩ := hlost l1 u r H H' m hl hT h9 hlo
        have e1 : (actM (aKd A u) (evK A H u 0) (evK A H u 1) m).2.1 = m := by rw [g1]
        have e2 : (actM (aKd A u) (evK A H u 0) (evK A H u 1) m).2.2 = false := by rw [g1]
        have hA : vaA A (u :: r) H m c = vaA A r (acH A u H m) m (c + coN (aKd A u)) := by
          conv => lhs; unfold vaA
          rw [if_neg h9, if_neg (by rw [e2]; decide), e1]
          rfl
        rw [hA]
        exact ih _ _ H' m _ c' hl2 g2 (by omega)
      | false =>
        rw [List.filter_cons_of_pos (by simp [hlo])]
        obtain ⟨g1, g2, g3⟩ := hval l1 u r H H' m hl hT h9 hlo
        unfold vaA
        rw [hkd, g1, g2, if_neg h9, if_neg h9]
        by_cases ht : (actM (aKd A u) (evK A H u 0) (evK A H u 1) m).2.2 = true
        · rw [if_pos ht, if_pos ht]
          exact ⟨rfl, Nat.add_le_add_right hcc _, rfl, fun q => by cases q⟩
        · rw [if_neg ht, if_neg ht]
          exact ih _ _ _ _ _ _ hl2 (g3 (bool_f ht)) (Nat.add_le_add_right hcc _)
/-- two forms, value for value -/
theorem msim {T : Nat → List Nat → Hd → Hd → Prop} {lost : Nat → Bool} (hkd : ∀ v, aKd B v = aKd A v)
    (hls : ∀ b H H', T b [] H H' → aLs B b = (aLs A b).filter fun v => !lost v)
    (hval : ∀ b l1 u l2 H H' m, aLs A b = l1 ++ u :: l2 → T b l1 H H' → aKd A u ≠ 9 → lost u = false → evK B H' u 0 = evK A H u 0 ∧ evK B H' u 1 = evK A H u 1 ∧ ((actM (aKd A u) (evK A H u 0) (evK A H u 1) m).2.2 = false → T b (l1 ++ [u]) (acH A u H m) (uH H' u (actM (aKd A u) (evK A H u 0) (evK A H u 1) m).1)))
    (hlost : ∀ b l1 u l2 H H' m, aLs A b = l1 ++ u :: l2 → T b l1 H H' → aKd A u ≠ 9 → lost u = true → (actM (aKd A u) (evK A H u 0) (evK A H u 1) m).2 = (m, false) ∧ T b (l1 ++ [u]) (acH A u H m) H')
    (hphi : ∀ b l1 u l2 H H', aLs A b = l1 ++ u :: l2 → T b l1 H H' → aKd A u = 9 → T b (l1 ++ [u]) H H')
    (hret : ∀ b H H', T b (aLs A b) H H' → aEk A b = 0 → aEk B b = 0 ∧ evK B H' (140 + b) 0 = evK A H (140 + b) 0)
    (hgo : ∀ b H H' t, T b (aLs A b) H H' → aEk A b ≠ 0 → aTg A (wyA A b H) = some t → aEk B b ≠ 0 ∧ (aEk B b = 2 → aEk A b = 2) ∧ aTg B (wyA B b H') = some t ∧ T t [] (phA A t (edI A t (wyA A b H)) H) (phA B t (edI B t (wyA B b H')) H'))
    (x y : Int32) (h0 : T 0 [] (phA A 0 none (H0 x y)) (phA B 0 none (H0 x y))) : noWorse (runA A x y) (runA B x y) := by
  refine run_sim (R := fun b e e' H H' => T b [] (phA A b e H) (phA B b e' H')) (fun b e e' H H' m c c' hT hcc => ?_) x y h0
  obtain ⟨g1, g2, g3, g4⟩ := va_msim (b := b) hkd (fun l1 u l2 H H' m => hval b l1 u l2 H H' m) (fun l1 u l2 H H' m => hlost b l1 u l2 H H' m) (fun l1 u l2 H H' => hphi b l1 u l2 H H') (aLs A b) [] (phA A b e H) (phA B b e' H') m c c' rfl hT hcc
  rw [← hls b _ _ hT] at g1 g2 g3 g4
  refine ⟨g1, g2, g3, fun hf => ?_⟩
  have hT2 : T b (aLs A b) _ _ := g4 hf
  exact ⟨fun h => hret b _ _ hT2 h, fun h t ht => hgo b _ _ t hT2 h ht⟩
end PINV
