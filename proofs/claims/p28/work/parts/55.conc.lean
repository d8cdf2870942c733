/-! FORMS IN ROWS: what is held of them; what they are told of -/
def fS (f : Ob) : AF := (fun v => tn (f.1 0 v), fun u => if u < 150 then fag f u else [], fun b => if b < 10 then (frw f b).filter (fun v => decide (f.1 1 v = nI b)) else [], fun b => if b < 10 then fed f b else [], fun b => tn (f.1 11 b), fun w => if w < 20 then ftg f w else none)
def fP (f : Ob) : Pl := fun v => if v < tn (f.2.1 2) ∧ f.1 1 v ≠ -1 then some (tn (f.1 1 v)) else none
def fC (f : Ob) (b : Nat) : Prop := b < 10 ∧ bt (f.2.1 1) b = true
def cA (f : Ob) (nv : Nat) : Prop := (∀ u, u < 150 → ∃ c a, f.1 3 u = nI c ∧ c < 291 ∧ f.1 4 u = nI a ∧ a < 291 ∧ (0 < c → a + c ≤ 290) ∧ ∀ k, k < c → f.1 5 (a + k) = -1 ∨ ∃ v, v < nv ∧ f.1 5 (a + k) = nI v) ∧ (∀ u u' i, u < 150 → u' < 150 → inSeg f u i → inSeg f u' i → u = u') ∧ ∀ u, u < 140 → (nv ≤ u ∨ f.1 1 u = -1) → f.1 3 u = 0
def cV (f : Ob) (nb nv : Nat) : Prop := ∀ v, v < nv → (∃ k, k ≤ 10 ∧ f.1 0 v = nI k) ∧ (f.1 1 v = -1 ∨ ∃ b, b < nb ∧ f.1 1 v = nI b) ∧ (v < 6 → f.1 1 v = -1 ∧ f.1 0 v = 10)
def cL1 (f : Ob) (nv b : Nat) : Prop := ∃ s, s ≤ 140 ∧ f.1 7 b = nI s ∧ (∀ k, k < s → ∃ v, v < nv ∧ f.1 8 (b * 140 + k) = nI v ∧ (f.1 0 v = 9 → f.1 1 v = nI b ∨ f.1 1 v = -1)) ∧ (∀ k k', k < s → k' < s → f.1 8 (b * 140 + k) = f.1 8 (b * 140 + k') → k = k') ∧ ∀ v, v < nv → f.1 1 v = nI b → ∃ k, k < s ∧ f.1 8 (b * 140 + k) = nI v
def cL (f : Ob) (nv : Nat) : Prop := ∀ b, b < 10 → cL1 f nv b
def cE (f : Ob) (nb : Nat) : Prop := (∀ b, b < 10 → eOk f b) ∧ (∀ w, w < 20 → f.1 12 w = -1 ∨ ∃ t, t < nb ∧ f.1 12 w = nI t) ∧ (∀ b, b < 10 → ∃ k, k ≤ 2 ∧ f.1 11 b = nI k) ∧ ∀ b, b < 32 → bt (f.2.1 1) b = true → b < nb
def CI (f : Ob) (nb nv : Nat) : Prop := (f.2.1 0 = nI nb ∧ 1 ≤ nb ∧ nb ≤ 10 ∧ f.2.1 2 = nI nv ∧ 6 ≤ nv ∧ nv ≤ 140) ∧ cA f nv ∧ cV f nb nv ∧ cL f nv ∧ cE f nb
/-- how many values have a place, and how many blocks are there -/
def cntV (f : Ob) (nv : Nat) : Nat := ((List.range nv).filter fun v => !decide (f.1 1 v = -1)).length
def thc (f : Ob) : Nat := ((List.range 10).filter fun b => bt (f.2.1 1) b).length
/-- what is gone and what is there are T in all (the thousands of T: how many are gone at least) -/
def KT (f : Ob) (nv T : Nat) : Prop := ∃ gn, f.2.1 5 = nI gn ∧ (gn + cntV f nv + thc f = T % 1000 ∧ T / 1000 ≤ gn)
section CONC
variable {f g : Ob} {nb nv : Nat}
theorem len_filter_one {p : Nat → Bool} {v : Nat} : ∀ (l : List Nat), l.Nodup → v ∈ l → p v = true → (l.filter fun w => p w && !decide (w = v)).length + 1 = (l.filter p).length := by
  intro l
  induction l with
  | nil => intro _ h; cases h
  | cons x r ih =>
    intro hn hv hp
    rw [List.nodup_cons] at hn
    by_cases hxv : x = v
    · subst hxv
      rw [List.filter_cons_of_neg (by simp), List.filter_cons_of_pos hp, List.length_cons]
      congr 2
      refine List.filter_congr fun w hw => ?_
      have : w ≠ x := fun e => hn.1 (by rw [← e]; exact hw)
      simp [this]
    · have hv' : v ∈ r := (List.mem_cons.mp hv).resolve_left fun e => hxv e.symm
      have := ih hn.2 hv' hp
      by_cases hpx : p x = true
      · rw [List.filter_cons_of_pos (by simp [hpx, hxv]), List.filter_cons_of_pos hpx, List.length_cons, List.length_cons, this]
      · rw [List.filter_cons_of_neg (by simp [hpx]), List.filter_cons_of_neg hpx]
        exact this
theorem cntV_congr (h : g.1 1 = f.1 1) : cntV g nv = cntV f nv := by
  unfold cntV
  rw [h]
theorem KT_congr (h1 : g.1 1 = f.1 1) (h2 : g.2.1 1 = f.2.1 1) (h3 : g.2.1 5 = f.2.1 5) {T : Nat} (h : KT f nv T) : KT g nv T := by
  obtain ⟨gn, q1, q2⟩ := h
  refine ⟨gn, by rw [h3]; exact q1, ?_⟩
  unfold thc
  rw [cntV_congr h1, h2]
  exact q2
theorem cntV_off {v : Nat} (hv : v < nv) (hp : f.1 1 v ≠ -1) (h : ∀ w, g.1 1 w = if w = v then -1 else f.1 1 w) : cntV g nv + 1 = cntV f nv := by
  unfold cntV
  rw [← len_filter_one (p := fun v => !decide (f.1 1 v = -1)) (v := v) (List.range nv) List.nodup_range (List.mem_range.mpr hv) (by simp [hp])]
  congr 2
  refine List.filter_congr fun w _ => ?_
  rw [h]
  by_cases q : w = v
  · simp [q]
  · simp [q]
theorem AF_ext {A B : AF} (h1 : ∀ v, aKd A v = aKd B v) (h2 : ∀ u, aAg A u = aAg B u) (h3 : ∀ b, aLs A b = aLs B b) (h4 : ∀ b, aEd A b = aEd B b) (h5 : ∀ b, aEk A b = aEk B b) (h6 : ∀ w, aTg A w = aTg B w) : A = B :=
  Prod.ext (funext h1) (Prod.ext (funext h2) (Prod.ext (funext h3) (Prod.ext (funext h4) (Prod.ext (funext h5) (funext h6)))))
theorem cA.uOk (h : cA f nv) (hnv : nv ≤ 140) : uOk f := fun u hu => by
  obtain ⟨c, a, h1, h2, h3, h4, h5, h6⟩ := h.1 u hu
  refine ⟨c, a, h1, h2, h3, h4, h5, fun k hk => (h6 k hk).imp id fun ⟨v, hv, e⟩ => ⟨v, by omega, e⟩⟩
theorem cA.segOk (h : cA f nv) : segOk f := fun u hu => by
  obtain ⟨c, a, h1, h2, h3, h4, h5, -⟩ := h.1 u hu
  rw [h1, h3, tn_nI (by omega), tn_nI (by omega)]
  exact ⟨isN_nI h2 (by decide), isN_nI h4 (by decide), fun q => h5 (by omega)⟩
theorem fag_congr {u : Nat} (h3 : g.1 3 u = f.1 3 u) (h4 : g.1 4 u = f.1 4 u) (h5 : ∀ i, inSeg f u i → g.1 5 i = f.1 5 i ∧ g.1 6 i = f.1 6 i) : fag g u = fag f u := by
  unfold fag
  rw [h3, h4]
  refine List.map_congr_left fun k hk => ?_
  have hk' := List.mem_range.mp hk
  obtain ⟨q1, q2⟩ := h5 (tn (f.1 4 u) + k) ⟨by omega, by omega⟩
  unfold ag1
  rw [q1, q2]
theorem fag_nil {u : Nat} (h : f.1 3 u = 0) : fag f u = [] := by
  unfold fag
  rw [h]
  rfl
theorem frw_congr {b : Nat} (h7 : g.1 7 b = f.1 7 b) (h8 : ∀ k, k < tn (f.1 7 b) → g.1 8 (b * 140 + k) = f.1 8 (b * 140 + k)) : frw g b = frw f b := by
  unfold frw
  rw [h7]
  exact List.map_congr_left fun k hk => by rw [h8 k (List.mem_range.mp hk)]
theorem fed_congr {b : Nat} (h9 : g.1 9 b = f.1 9 b) (h10 : ∀ k, k < tn (f.1 9 b) → g.1 10 (b * 20 + k) = f.1 10 (b * 20 + k)) : fed g b = fed f b := by
  unfold fed
  rw [h9]
  exact List.map_congr_left fun k hk => by rw [h10 k (List.mem_range.mp hk)]
theorem nbt (h : CI f nb nv) : tn (f.2.1 0) = nb := by
  rw [h.1.1, tn_nI (by have := h.1.2.2.1; omega)]
theorem fP_some (h : CI f nb nv) {v b : Nat} : fP f v = some b ↔ v < nv ∧ f.1 1 v = nI b ∧ b < nb := by
  obtain ⟨⟨-, hb1, hb2, h2, h3, h4⟩, -, hV, -, -⟩ := h
  unfold fP
  rw [h2, tn_nI (by omega)]
  constructor
  · intro q
    by_cases hq : v < nv ∧ f.1 1 v ≠ -1
    · rw [if_pos hq] at q
      obtain ⟨c, hc, e⟩ := (hV v hq.1).2.1.resolve_left hq.2
      rw [e, tn_nI (by omega)] at q
      cases q
      exact ⟨hq.1, e, hc⟩
    · rw [if_neg hq] at q; cases q
  · rintro ⟨q1, q2, q3⟩
    rw [if_pos ⟨q1, by rw [q2]; exact nI_m1 (by omega)⟩, q2, tn_nI (by omega)]
theorem fP_none (h : CI f nb nv) {v : Nat} : fP f v = none ↔ nv ≤ v ∨ f.1 1 v = -1 := by
  obtain ⟨⟨-, -, -, h2, h3, h4⟩, -, hV, -, -⟩ := h
  unfold fP
  rw [h2, tn_nI (by omega)]
  constructor
  · intro q
    by_cases hq : v < nv ∧ f.1 1 v ≠ -1
    · rw [if_pos hq] at q; cases q
    · by_cases hv : v < nv
      · exact Or.inr (Classical.byContradiction fun z => hq ⟨hv, z⟩)
      · exact Or.inl (by omega)
  · intro q
    rw [if_neg]
    rintro ⟨q1, q2⟩
    rcases q with q | q
    · omega
    · exact q2 q
theorem fS_ls_mem (h : CI f nb nv) {b v : Nat} : v ∈ aLs (fS f) b ↔ b < 10 ∧ v < nv ∧ f.1 1 v = nI b := by
  obtain ⟨⟨-, -, -, -, -, h4⟩, -, -, hL, -⟩ := h
  show v ∈ (if b < 10 then (frw f b).filter (fun v => decide (f.1 1 v = nI b)) else []) ↔ _
  by_cases hb : b < 10
  · rw [if_pos hb, List.mem_filter]
    obtain ⟨s, hs, hs7, q1, q2, q3⟩ := hL b hb
    rw [frw_mem hs7 hs]
    constructor
    · rintro ⟨⟨k, hk, e⟩, z⟩
      obtain ⟨w, hw, ew, -⟩ := q1 k hk
      rw [ew, tn_nI (by omega)] at e
      subst e
      exact ⟨hb, hw, of_decide_eq_true z⟩
    · rintro ⟨-, hv, z⟩
      obtain ⟨k, hk, e⟩ := q3 v hv z
      exact ⟨⟨k, hk, by rw [e, tn_nI (by omega)]⟩, decide_eq_true z⟩
  · rw [if_neg hb]
    constructor
    · intro q; cases q
    · intro q; exact absurd q.1 hb
theorem fS_ls_P (h : CI f nb nv) {b v : Nat} : v ∈ aLs (fS f) b ↔ fP f v = some b := by
  rw [fS_ls_mem h, fP_some h]
  have hb := h.1.2.2.1
  constructor
  · rintro ⟨q1, q2, q3⟩
    refine ⟨q2, q3, ?_⟩
    obtain ⟨c, hc, e⟩ := ((h.2.2.1 v q2).2.1).resolve_left (by rw [q3]; exact nI_m1 (by omega))
    have : b = c := nI_inj (by omega) (by omega) (q3.symm.trans e)
    omega
  · rintro ⟨q1, q2, q3⟩
    exact ⟨by omega, q1, q2⟩
/-! a value is lost -/
def aOff (A : AF) (v : Nat) : AF := (aKd A, fun u => if u = v then [] else aAg A u, fun b => (aLs A b).filter fun z => !decide (z = v), aEd A, aEk A, aTg A)
theorem segs_sub {u i : Nat} (h4 : g.1 4 u = f.1 4 u) (h3 : g.1 3 u = f.1 3 u ∨ g.1 3 u = 0) (h : inSeg g u i) : inSeg f u i := by
  unfold inSeg at h ⊢
  rw [h4] at h
  rcases h3 with e | e
  · rw [e] at h; exact h
  · rw [e] at h
    have : tn 0 = 0 := by decide
    omega
theorem lose_CI (h : CI f nb nv) {v : Nat} (hv : v < nv) (hv6 : 6 ≤ v) (hp : f.1 1 v ≠ -1) : CI (Form_lose f (nI v)) nb nv ∧ fS (Form_lose f (nI v)) = aOff (fS f) v ∧ fP (Form_lose f (nI v)) = plR (fP f) v ∧ (∀ i, i ≠ 1 → i ≠ 3 → (Form_lose f (nI v)).1 i = f.1 i) ∧ (∀ w, (Form_lose f (nI v)).1 1 w = if w = v then -1 else f.1 1 w) ∧ (∀ i, i ≠ 5 → (Form_lose f (nI v)).2.1 i = f.2.1 i) ∧ (Form_lose f (nI v)).2.1 5 = f.2.1 5 + 1 ∧ (Form_lose f (nI v)).2.2 = f.2.2 ∧ (∀ w, (Form_lose f (nI v)).1 3 w = if w = v then 0 else f.1 3 w) ∧ ∀ T, KT f nv T → KT (Form_lose f (nI v)) nv T := by
  obtain ⟨⟨i0, b1, b2, i2, n1, n2⟩, hA, hV, hL, hE⟩ := id h
  generalize hg : Form_lose f (nI v) = g
  rw [lose_eq (show v < 140 by omega), if_neg hp] at hg
  have r : ∀ i, i ≠ 1 → i ≠ 3 → g.1 i = f.1 i := fun i q1 q2 => by
    rw [← hg, oG_1, rs_r _ _ _ _ q2, rs_r _ _ _ _ q1]
  have r1 : ∀ w, g.1 1 w = if w = v then -1 else f.1 1 w := fun w => by
    rw [← hg, oG_1, rs_r _ _ _ _ (show 1 ≠ 3 by decide), rs_i]
  have r3 : ∀ w, g.1 3 w = if w = v then 0 else f.1 3 w := fun w => by
    rw [← hg, oG_1, rs_i, rs_r _ _ _ _ (show 3 ≠ 1 by decide)]
  have r2 : ∀ i, i ≠ 5 → g.2.1 i = f.2.1 i := fun i q => by
    rw [← hg, oG_i, if_neg q]
    rfl
  have r5 : g.2.1 5 = f.2.1 5 + 1 := by
    rw [← hg, oG_i, if_pos rfl]
  have rb : g.2.2 = f.2.2 := by rw [← hg, oG_b]; rfl
  have h3or : ∀ u, g.1 3 u = f.1 3 u ∨ g.1 3 u = 0 := fun u => by
    rw [r3]
    by_cases q : u = v
    · rw [if_pos q]; exact Or.inr rfl
    · rw [if_neg q]; exact Or.inl rfl
  have h4 := r 4 (by decide) (by decide)
  have hCI : CI g nb nv := by
    refine ⟨⟨by rw [r2 0 (by decide)]; exact i0, b1, b2, by rw [r2 2 (by decide)]; exact i2, n1, n2⟩, ⟨fun u hu => ?_, fun u u' i hu hu' q1 q2 => hA.2.1 u u' i hu hu' (segs_sub (by rw [h4]) (h3or u) q1) (segs_sub (by rw [h4]) (h3or u') q2), fun u hu q => ?_⟩, fun w hw => ?_, fun b hb => ?_, ?_⟩
    · obtain ⟨c, a, e1, e2, e3, e4, e5, e6⟩ := hA.1 u hu
      rw [r3, h4, r 5 (by decide) (by decide)]
      by_cases q : u = v
      · rw [if_pos q]
        exact ⟨0, a, nI_0.symm, by decide, e3, e4, fun z => by omega, fun k hk => by omega⟩
      · rw [if_neg q]
        exact ⟨c, a, e1, e2, e3, e4, e5, e6⟩
    · rw [r3]
      by_cases z : u = v
      · rw [if_pos z]
      · rw [if_neg z]
        refine hA.2.2 u hu (q.imp id fun e => ?_)
        rw [r1, if_neg z] at e
        exact e
    · obtain ⟨q1, q2, q3⟩ := hV w hw
      rw [r 0 (by decide) (by decide), r1]
      by_cases z : w = v
      · rw [if_pos z]
        exact ⟨q1, Or.inl rfl, fun q => by omega⟩
      · rw [if_neg z]
        exact ⟨q1, q2, q3⟩
    · obtain ⟨s, hs, hs7, q1, q2, q3⟩ := hL b hb
      refine ⟨s, hs, by rw [r 7 (by decide) (by decide)]; exact hs7, ?_⟩
      rw [r 8 (by decide) (by decide), r 0 (by decide) (by decide)]
      refine ⟨fun k hk => ?_, q2, fun w hw e => q3 w hw ?_⟩
      · obtain ⟨w, hw, ew, e9⟩ := q1 k hk
        refine ⟨w, hw, ew, fun z => ?_⟩
        rw [r1]
        by_cases y : w = v
        · rw [if_pos y]; exact Or.inr rfl
        · rw [if_neg y]; exact e9 z
      rw [r1] at e
      by_cases z : w = v
      · rw [if_pos z] at e
        exact absurd e.symm (nI_m1 (by omega))
      · rw [if_neg z] at e
        exact e
    · obtain ⟨q1, q2, q3, q4⟩ := hE
      refine ⟨fun b hb => ?_, ?_, ?_, ?_⟩
      · unfold eOk
        rw [r 9 (by decide) (by decide), r 10 (by decide) (by decide)]
        exact q1 b hb
      · rw [r 12 (by decide) (by decide)]; exact q2
      · rw [r 11 (by decide) (by decide)]; exact q3
      · rw [r2 1 (by decide)]; exact q4
  refine ⟨hCI, AF_ext (fun w => ?_) (fun u => ?_) (fun b => ?_) (fun b => ?_) (fun b => ?_) (fun w => ?_), ?_, r, r1, r2, r5, rb, r3, fun T ⟨gn, k1, k2⟩ => ⟨gn + 1, by rw [r5, k1, nI_1], ?_⟩⟩
  · show tn (g.1 0 w) = tn (f.1 0 w)
    rw [r 0 (by decide) (by decide)]
  · show (if u < 150 then fag g u else []) = if u = v then [] else if u < 150 then fag f u else []
    by_cases q : u = v
    · rw [if_pos q, if_pos (by omega), fag_nil (by rw [r3, if_pos q])]
    · rw [if_neg q, fag_congr (f := f) (g := g) (u := u) (by rw [r3, if_neg q]) (by rw [h4]) fun i _ => by rw [r 5 (by decide) (by decide), r 6 (by decide) (by decide)]; exact ⟨rfl, rfl⟩]
  · show (if b < 10 then (frw g b).filter (fun z => decide (g.1 1 z = nI b)) else []) = (if b < 10 then (frw f b).filter (fun z => decide (f.1 1 z = nI b)) else []).filter fun z => !decide (z = v)
    by_cases q : b < 10
    · rw [if_pos q, if_pos q, List.filter_filter, frw_congr (f := f) (by rw [r 7 (by decide) (by decide)]) fun k _ => by rw [r 8 (by decide) (by decide)]]
      refine List.filter_congr fun z _ => ?_
      rw [r1]
      by_cases zv : z = v
      · have hm : ¬ (-1 : Int32) = nI b := fun e => nI_m1 (a := b) (by omega) e.symm
        rw [if_pos zv, decide_eq_false hm]
        simp [zv]
      · rw [if_neg zv]
        simp [zv]
    · rw [if_neg q, if_neg q]; rfl
  · show (if b < 10 then fed g b else []) = if b < 10 then fed f b else []
    rw [fed_congr (f := f) (by rw [r 9 (by decide) (by decide)]) fun k _ => by rw [r 10 (by decide) (by decide)]]
  · show tn (g.1 11 b) = tn (f.1 11 b)
    rw [r 11 (by decide) (by decide)]
  · show (if w < 20 then ftg g w else none) = if w < 20 then ftg f w else none
    unfold ftg
    rw [r 12 (by decide) (by decide)]
  · funext w
    unfold plR
    by_cases q : w = v
    · rw [if_pos q]
      exact (fP_none hCI).mpr (Or.inr (by rw [r1, if_pos q]))
    · rw [if_neg q]
      unfold fP
      rw [r2 2 (by decide), r1, if_neg q]
  · have := cntV_off (g := g) hv hp r1
    have ht : thc g = thc f := by unfold thc; rw [r2 1 (by decide)]
    omega
end CONC
