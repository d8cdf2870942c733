/-! THE PASS 1, in rows: what is known only ever rises -/
def kc (c : Ob) (v : Nat) : Nat := if v < 140 then tn (c.1 0 v) else 0
def nc (c : Ob) (v : Nat) : Int32 := c.1 1 v
def kA (c : Ob) (x : Ag) : Nat × Int32 := knA (kc c) (nc c) x
def cal (c : Ob) (w : Nat) : Prop := w < 20 ∧ bt (c.2.1 1) w = true
def cco (c : Ob) (b : Nat) : Prop := b < 10 ∧ bt (c.2.1 0) b = true
def leP (p p' : Nat × Int32) : Prop := p' = p ∨ p.1 < p'.1
def cMo (c c' : Ob) : Prop := (∀ v, v < 140 → leP (kc c v, nc c v) (kc c' v, nc c' v)) ∧ (∀ w, cal c w → cal c' w) ∧ ∀ b, cco c b → cco c' b
def cSm (c c' : Ob) : Prop := (∀ v, v < 140 → kc c' v = kc c v ∧ nc c' v = nc c v) ∧ (∀ w, cal c' w ↔ cal c w) ∧ ∀ b, cco c' b ↔ cco c b
def muC (c : Ob) : Nat := ((List.range 140).map (kc c)).sum + ((List.range 20).filter fun w => bt (c.2.1 1) w).length
def cR (c c' : Ob) : Prop := cMo c c' ∧ (cSm c c' ∧ c'.2.2 0 = c.2.2 0 ∨ muC c < muC c' ∧ c'.2.2 0 = true)
theorem leP.rf (p : Nat × Int32) : leP p p := Or.inl rfl
theorem leP.trans {p q r : Nat × Int32} (h1 : leP p q) (h2 : leP q r) : leP p r := by
  rcases h1 with h1 | h1
  · rw [h1] at h2; exact h2
  · rcases h2 with h2 | h2
    · rw [h2]; exact Or.inr h1
    · exact Or.inr (Nat.lt_trans h1 h2)
theorem leP.le {p q : Nat × Int32} (h : leP p q) : p.1 ≤ q.1 := by
  rcases h with h | h
  · rw [h]; exact Nat.le_refl _
  · exact Nat.le_of_lt h
theorem cMo.rf (c : Ob) : cMo c c := ⟨fun _ _ => leP.rf _, fun _ h => h, fun _ h => h⟩
theorem cMo.trans {a b c : Ob} (h1 : cMo a b) (h2 : cMo b c) : cMo a c := ⟨fun v hv => (h1.1 v hv).trans (h2.1 v hv), fun w h => h2.2.1 w (h1.2.1 w h), fun w h => h2.2.2 w (h1.2.2 w h)⟩
theorem cSm.rf (c : Ob) : cSm c c := ⟨fun _ _ => ⟨rfl, rfl⟩, fun _ => Iff.rfl, fun _ => Iff.rfl⟩
theorem cSm.symm {a b : Ob} (h : cSm a b) : cSm b a := ⟨fun v hv => ⟨(h.1 v hv).1.symm, (h.1 v hv).2.symm⟩, fun w => (h.2.1 w).symm, fun w => (h.2.2 w).symm⟩
theorem cSm.trans {a b c : Ob} (h1 : cSm a b) (h2 : cSm b c) : cSm a c := ⟨fun v hv => ⟨(h2.1 v hv).1.trans (h1.1 v hv).1, (h2.1 v hv).2.trans (h1.1 v hv).2⟩, fun w => (h2.2.1 w).trans (h1.2.1 w), fun w => (h2.2.2 w).trans (h1.2.2 w)⟩
theorem muC_congr {a b : Ob} (h : cSm a b) : muC b = muC a := by
  have e1 : (List.range 140).map (kc b) = (List.range 140).map (kc a) := List.map_congr_left fun v hv => (h.1 v (List.mem_range.mp hv)).1
  have e2 : ((List.range 20).filter fun w => bt (b.2.1 1) w) = (List.range 20).filter fun w => bt (a.2.1 1) w := by
    refine List.filter_congr fun w hw => ?_
    have := h.2.1 w
    unfold cal at this
    have hw' := List.mem_range.mp hw
    cases q : bt (b.2.1 1) w with
    | true => exact ((this.mp ⟨hw', q⟩).2).symm
    | false =>
      cases q2 : bt (a.2.1 1) w with
      | false => rfl
      | true =>
        have := (this.mpr ⟨hw', q2⟩).2
        rw [q] at this
        cases this
  unfold muC
  rw [e1, e2]
theorem sum_le {f g : Nat → Nat} : ∀ (l : List Nat), (∀ x, x ∈ l → f x ≤ g x) → (l.map f).sum ≤ (l.map g).sum := by
  intro l
  induction l with
  | nil => intro _; exact Nat.le_refl _
  | cons x r ih =>
    intro h
    rw [List.map_cons, List.map_cons, List.sum_cons, List.sum_cons]
    have h1 := h x List.mem_cons_self
    have h2 := ih fun y hy => h y (List.mem_cons_of_mem _ hy)
    omega
theorem sum_lt {f g : Nat → Nat} : ∀ (l : List Nat), (∀ x, x ∈ l → f x ≤ g x) → (∃ x, x ∈ l ∧ f x < g x) → (l.map f).sum < (l.map g).sum := by
  intro l
  induction l with
  | nil => intro _ h; obtain ⟨x, hx, -⟩ := h; cases hx
  | cons x r ih =>
    intro h he
    rw [List.map_cons, List.map_cons, List.sum_cons, List.sum_cons]
    have h1 := h x List.mem_cons_self
    have h2 := sum_le r fun y hy => h y (List.mem_cons_of_mem _ hy)
    obtain ⟨y, hy, hlt⟩ := he
    rcases List.mem_cons.mp hy with e | hy
    · rw [e] at hlt; omega
    · have := ih (fun y hy => h y (List.mem_cons_of_mem _ hy)) ⟨y, hy, hlt⟩
      omega
theorem filter_le {p q : Nat → Bool} : ∀ (l : List Nat), (∀ x, x ∈ l → p x = true → q x = true) → (l.filter p).length ≤ (l.filter q).length := by
  intro l
  induction l with
  | nil => intro _; exact Nat.le_refl _
  | cons x r ih =>
    intro h
    have h2 := ih fun y hy => h y (List.mem_cons_of_mem _ hy)
    by_cases hp : p x = true
    · rw [List.filter_cons_of_pos hp, List.filter_cons_of_pos (h x List.mem_cons_self hp), List.length_cons, List.length_cons]
      omega
    · rw [List.filter_cons_of_neg hp]
      by_cases hq : q x = true
      · rw [List.filter_cons_of_pos hq, List.length_cons]; omega
      · rw [List.filter_cons_of_neg hq]; exact h2
theorem muC_mono {a b : Ob} (h : cMo a b) : muC a ≤ muC b := by
  unfold muC
  refine Nat.add_le_add (sum_le _ fun v hv => (h.1 v (List.mem_range.mp hv)).le) (filter_le _ fun w hw hq => (h.2.1 w ⟨List.mem_range.mp hw, hq⟩).2)
theorem cR.rf (c : Ob) : cR c c := ⟨cMo.rf c, Or.inl ⟨cSm.rf c, rfl⟩⟩
theorem cR.trans {a b c : Ob} (h1 : cR a b) (h2 : cR b c) : cR a c := by
  refine ⟨h1.1.trans h2.1, ?_⟩
  have m1 := muC_mono h1.1
  have m2 := muC_mono h2.1
  rcases h1.2 with ⟨a1, a2⟩ | ⟨a1, a2⟩
  · rcases h2.2 with ⟨b1, b2⟩ | ⟨b1, b2⟩
    · exact Or.inl ⟨a1.trans b1, b2.trans a2⟩
    · exact Or.inr ⟨by omega, b2⟩
  · rcases h2.2 with ⟨b1, b2⟩ | ⟨b1, b2⟩
    · exact Or.inr ⟨by omega, b2.trans a2⟩
    · exact Or.inr ⟨by omega, b2⟩
/-- what is the same at the end was so all the time -/
theorem cR.sand {a b c : Ob} (h1 : cR a b) (h2 : cR b c) (h : cSm a c) : cSm a b ∧ cSm b c := by
  have m := muC_congr h
  have m1 := muC_mono h1.1
  have m2 := muC_mono h2.1
  have s1 : cSm a b := by
    rcases h1.2 with ⟨q, -⟩ | ⟨q, -⟩
    · exact q
    · omega
  exact ⟨s1, s1.symm.trans h⟩
theorem muC_le {c : Ob} (h : ∀ v, v < 140 → kc c v ≤ 2) : muC c ≤ 300 := by
  unfold muC
  have h1 : ((List.range 140).map (kc c)).sum ≤ ((List.range 140).map fun _ => 2).sum := sum_le _ fun v hv => h v (List.mem_range.mp hv)
  have h2 : ((List.range 140).map fun _ => 2).sum = 280 := by decide +kernel
  have h3 := List.length_filter_le (fun w => bt (c.2.1 1) w) (List.range 20)
  rw [List.length_range] at h3
  omega
theorem kA_mono {c c' : Ob} (h : cMo c c') (x : Ag) (hx : ∀ v, x = .inl v → v < 140) : leP (kA c x) (kA c' x) := by
  cases x with
  | inr n => exact leP.rf _
  | inl v => exact h.1 v (hx v rfl)
/-- a value rises -/
theorem rise_spec {c : Ob} {u to : Nat} {n : Int32} (hv : ∀ v, v < 140 → c.1 0 v = nI (kc c v) ∧ kc c v ≤ 2) (hu : u < 140) (hto : to ≤ 2) : cR c (Constants_rise c (nI u) (nI to) n) ∧ (∀ v, v < 140 → (Constants_rise c (nI u) (nI to) n).1 0 v = nI (kc (Constants_rise c (nI u) (nI to) n) v) ∧ kc (Constants_rise c (nI u) (nI to) n) v ≤ 2) ∧ (Constants_rise c (nI u) (nI to) n).2.1 = c.2.1 ∧ ((to ≤ kc c u ∧ Constants_rise c (nI u) (nI to) n = c) ∨ (kc c u < to ∧ ¬ cSm c (Constants_rise c (nI u) (nI to) n) ∧ ∀ v, v < 140 → (kc (Constants_rise c (nI u) (nI to) n) v, nc (Constants_rise c (nI u) (nI to) n) v) = if v = u then (to, n) else (kc c v, nc c v))) := by
  obtain ⟨h1, h2⟩ := hv u hu
  unfold Constants_rise
  rw [oat_rs hu (by decide), h1]
  by_cases q : kc c u < to
  · rw [if_pos (show nI (kc c u) < nI to from nI_lt q (by omega)), oput_rs hu (by decide), oput_rs hu (by decide)]
    generalize hr : oB (rs (rs c 0 u (nI to)) 1 u n) 0 true = r
    have r0 : ∀ v, r.1 0 v = if v = u then nI to else c.1 0 v := fun v => by rw [← hr, oB_1, rs_r _ _ _ _ (show 0 ≠ 1 by decide), rs_i]
    have r1 : ∀ v, r.1 1 v = if v = u then n else c.1 1 v := fun v => by rw [← hr, oB_1, rs_i, rs_r _ _ _ _ (show 1 ≠ 0 by decide)]
    have r2 : r.2.1 = c.2.1 := by rw [← hr, oB_i]; rfl
    have rb : r.2.2 0 = true := by rw [← hr, oB_b, if_pos rfl]
    have hk : ∀ v, v < 140 → kc r v = if v = u then to else kc c v := fun v hv' => by
      unfold kc
      rw [if_pos hv', if_pos hv', r0]
      by_cases z : v = u
      · rw [if_pos z, if_pos z, tn_nI (by omega)]
      · rw [if_neg z, if_neg z]
    have hp : ∀ v, v < 140 → (kc r v, nc r v) = if v = u then (to, n) else (kc c v, nc c v) := fun v hv' => by
      rw [hk v hv']
      unfold nc
      rw [r1]
      by_cases z : v = u
      · rw [if_pos z, if_pos z, if_pos z]
      · rw [if_neg z, if_neg z, if_neg z]
    have hmo : cMo c r := ⟨fun v hv' => by
      rw [hp v hv']
      by_cases z : v = u
      · rw [if_pos z, z]; exact Or.inr q
      · rw [if_neg z]; exact leP.rf _, fun w h => by unfold cal at h ⊢; rw [r2]; exact h, fun b h => by unfold cco at h ⊢; rw [r2]; exact h⟩
    have hlt : muC c < muC r := by
      unfold muC
      rw [r2]
      refine Nat.add_lt_add_right (sum_lt _ (fun v hv' => (hmo.1 v (List.mem_range.mp hv')).le) ⟨u, List.mem_range.mpr hu, ?_⟩) _
      rw [hk u hu, if_pos rfl]
      exact q
    refine ⟨⟨hmo, Or.inr ⟨hlt, rb⟩⟩, fun v hv' => ?_, r2, Or.inr ⟨q, fun hs => ?_, hp⟩⟩
    · rw [r0, hk v hv']
      by_cases z : v = u
      · rw [if_pos z, if_pos z]; exact ⟨rfl, hto⟩
      · rw [if_neg z, if_neg z]; exact hv v hv'
    · have := muC_congr hs
      omega
  · rw [if_neg (show ¬ nI (kc c u) < nI to from nI_nlt (by omega) (by omega))]
    exact ⟨cR.rf c, hv, rfl, Or.inl ⟨by omega, rfl⟩⟩
theorem rkK_mono {k : Nat} {p q p' q' : Nat × Int32} (h1 : leP p p') (h2 : leP q q') (hp : p.1 ≠ 0) (hq : q.1 ≠ 0) (hp2 : p'.1 ≤ 2) (hq2 : q'.1 ≤ 2) : rkK k p q = rkK k p' q' ∨ rkK k p' q' = (2, 0) := by
  have e2 : ∀ {a b : Nat × Int32}, (a.1 = 2 ∨ b.1 = 2 ∨ (k = 4 ∧ b.2 = 0)) → rkK k a b = (2, 0) := fun h => by unfold rkK; rw [if_pos h]
  rcases h1 with h1 | h1
  · rcases h2 with h2 | h2
    · rw [h1, h2]; exact Or.inl rfl
    · exact Or.inr (e2 (Or.inr (Or.inl (by omega))))
  · exact Or.inr (e2 (Or.inl (by omega)))
