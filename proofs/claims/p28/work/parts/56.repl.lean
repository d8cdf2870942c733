/-! A VALUE IS REPLACED, in rows -/
def agOf (x y : Int32) : Ag := if x = -1 then .inr y else .inl (tn x)
def aRed (A : AF) (v : Nat) (a : Ag) : AF := (aKd A, fun u => (aAg A u).map (sb v a), aLs A, aEd A, aEk A, aTg A)
section REPL
variable {f g : Ob} {nb nv : Nat}
theorem redirect_CI (h : CI f nb nv) {v : Nat} {x y : Int32} (hv : v < 140) (hx : x = -1 ∨ ∃ w, w < nv ∧ w ≠ v ∧ x = nI w) : CI (Form_redirect f (nI v) x y) nb nv ∧ fS (Form_redirect f (nI v) x y) = aRed (fS f) v (agOf x y) ∧ (Form_redirect f (nI v) x y).2 = f.2 ∧ ∀ i, i ≠ 5 → i ≠ 6 → (Form_redirect f (nI v) x y).1 i = f.1 i := by
  obtain ⟨hI, hA, hV, hL, hE⟩ := id h
  have hxv : x ≠ nI v := fun e => by
    rcases hx with q | ⟨w, hw, hwv, q⟩
    · rw [q] at e; exact nI_m1 (a := v) (by omega) e.symm
    · rw [q] at e; exact hwv (nI_inj (by have := hI; omega) (by omega) e)
  obtain ⟨r2, r, r5, r6⟩ := redirect_eq (y := y) hxv hA.segOk
  generalize hg : Form_redirect f (nI v) x y = g at r2 r r5 r6
  have r0 := r 0 (by decide) (by decide)
  have r1 := r 1 (by decide) (by decide)
  have r3 := r 3 (by decide) (by decide)
  have r4 := r 4 (by decide) (by decide)
  have r7 := r 7 (by decide) (by decide)
  have r8 := r 8 (by decide) (by decide)
  have r9 := r 9 (by decide) (by decide)
  have r10 := r 10 (by decide) (by decide)
  have r11 := r 11 (by decide) (by decide)
  have r12 := r 12 (by decide) (by decide)
  have hnv := hI.2.2.2.2.2
  refine ⟨⟨by rw [r2]; exact hI, ⟨fun u hu => ?_, fun u u' i hu hu' => ?_, fun u hu => ?_⟩, fun w hw => ?_, fun b hb => ?_, ?_⟩, AF_ext (fun w => ?_) (fun u => ?_) (fun b => ?_) (fun b => ?_) (fun b => ?_) (fun w => ?_), r2, r⟩
  · obtain ⟨c, a, e1, e2, e3, e4, e5, e6⟩ := hA.1 u hu
    refine ⟨c, a, by rw [r3]; exact e1, e2, by rw [r4]; exact e3, e4, e5, fun k hk => ?_⟩
    rw [r5]
    by_cases q : segs f 150 (a + k) = true ∧ f.1 5 (a + k) = nI v
    · rw [if_pos q]
      exact hx.imp id fun ⟨w, q1, _, q2⟩ => ⟨w, q1, q2⟩
    · rw [if_neg q]
      exact e6 k hk
  · unfold inSeg
    rw [r3, r4]
    exact hA.2.1 u u' i hu hu'
  · rw [r1, r3]
    exact hA.2.2 u hu
  · rw [r0, r1]
    exact hV w hw
  · have := hL b hb
    unfold cL1 at this ⊢
    rw [r0, r1, r7, r8]
    exact this
  · obtain ⟨q1, q2, q3, q4⟩ := hE
    refine ⟨fun b hb => ?_, by rw [r12]; exact q2, by rw [r11]; exact q3, by rw [r2]; exact q4⟩
    unfold eOk
    rw [r9, r10]
    exact q1 b hb
  · show tn (g.1 0 w) = tn (f.1 0 w)
    rw [r0]
  · show (if u < 150 then fag g u else []) = (if u < 150 then fag f u else []).map (sb v (agOf x y))
    by_cases hu : u < 150
    · rw [if_pos hu, if_pos hu]
      obtain ⟨c, a, e1, e2, e3, e4, e5, e6⟩ := hA.1 u hu
      unfold fag
      rw [r3, r4, List.map_map]
      refine List.map_congr_left fun k hk => ?_
      have hk' := List.mem_range.mp hk
      rw [e1, tn_nI (by omega)] at hk'
      rw [e3, tn_nI (by omega)]
      have hseg : segs f 150 (a + k) = true := segs_iff.mpr ⟨u, hu, by unfold inSeg; rw [e1, e3, tn_nI (by omega), tn_nI (by omega)]; omega⟩
      show ag1 g (a + k) = sb v (agOf x y) (ag1 f (a + k))
      unfold ag1
      rw [r5, r6]
      rcases e6 k hk' with q | ⟨w, hw, q⟩
      · have hn : ¬ (segs f 150 (a + k) = true ∧ f.1 5 (a + k) = nI v) := fun z => by
          rw [q] at z
          exact nI_m1 (a := v) (by omega) z.2.symm
        rw [if_neg hn, if_neg hn, q, if_pos rfl]
        unfold sb
        rw [if_neg (fun z => by cases z)]
      · rw [q, if_neg (nI_m1 (a := w) (by omega)), tn_nI (by omega)]
        unfold sb
        by_cases hwv : w = v
        · subst hwv
          have hx' : segs f 150 (a + k) = true ∧ nI w = nI w := ⟨hseg, rfl⟩
          rw [if_pos hx', if_pos hx', if_pos (show (Sum.inl w : Ag) = Sum.inl w from rfl)]
          rfl
        · have hn : ¬ (segs f 150 (a + k) = true ∧ nI w = nI v) := fun z => hwv (nI_inj (by omega) (by omega) z.2)
          rw [if_neg hn, if_neg hn, if_neg (nI_m1 (a := w) (by omega)), tn_nI (by omega), if_neg (fun z => hwv (Sum.inl.inj z))]
    · rw [if_neg hu, if_neg hu]
      rfl
  · show (if b < 10 then (frw g b).filter (fun z => decide (g.1 1 z = nI b)) else []) = if b < 10 then (frw f b).filter (fun z => decide (f.1 1 z = nI b)) else []
    rw [frw_congr (f := f) (by rw [r7]) fun k _ => by rw [r8], r1]
  · show (if b < 10 then fed g b else []) = if b < 10 then fed f b else []
    rw [fed_congr (f := f) (by rw [r9]) fun k _ => by rw [r10]]
  · show tn (g.1 11 b) = tn (f.1 11 b)
    rw [r11]
  · show (if w < 20 then ftg g w else none) = if w < 20 then ftg f w else none
    unfold ftg
    rw [r12]
theorem fP_congr (h1 : g.1 1 = f.1 1) (h2 : g.2.1 2 = f.2.1 2) : fP g = fP f := by
  unfold fP
  rw [h1, h2]
theorem fC_congr (h : g.2.1 1 = f.2.1 1) : fC g = fC f := by
  unfold fC
  rw [h]
/-- what stays, whatever is done to values: lists, edges, ends, blocks -/
def stay (f g : Ob) : Prop := (∀ i, i ≠ 1 → i ≠ 3 → i ≠ 5 → i ≠ 6 → g.1 i = f.1 i) ∧ (∀ i, i ≠ 5 → g.2.1 i = f.2.1 i) ∧ g.2.2 = f.2.2
theorem stay.rf (f : Ob) : stay f f := ⟨fun _ _ _ _ _ => rfl, fun _ _ => rfl, rfl⟩
theorem stay.trans {f g k : Ob} (h1 : stay f g) (h2 : stay g k) : stay f k := ⟨fun i a b c d => (h2.1 i a b c d).trans (h1.1 i a b c d), fun i a => (h2.2.1 i a).trans (h1.2.1 i a), h2.2.2.trans h1.2.2⟩
theorem replace_CI (h : CI f nb nv) {v : Nat} {x y : Int32} (hv : v < nv) (hv6 : 6 ≤ v) (hp : f.1 1 v ≠ -1) (hx : x = -1 ∨ ∃ w, w < nv ∧ w ≠ v ∧ x = nI w) : CI (Form_replace f (nI v) x y) nb nv ∧ fS (Form_replace f (nI v) x y) = aRep (fS f) v (agOf x y) ∧ fP (Form_replace f (nI v) x y) = plR (fP f) v ∧ stay f (Form_replace f (nI v) x y) ∧ (∀ w, (Form_replace f (nI v) x y).1 1 w = if w = v then -1 else f.1 1 w) ∧ ∀ T, KT f nv T → KT (Form_replace f (nI v) x y) nv T := by
  have hnv := h.1.2.2.2.2.2
  obtain ⟨h1, h2, h3, h4⟩ := redirect_CI (y := y) h (show v < 140 by omega) hx
  have e1 := h4 1 (by decide) (by decide)
  obtain ⟨k1, k2, k3, k4, k5, k6, k7, k8, k9, k10⟩ := lose_CI h1 hv hv6 (by rw [e1]; exact hp)
  show CI (Form_lose (Form_redirect f (nI v) x y) (nI v)) nb nv ∧ fS (Form_lose (Form_redirect f (nI v) x y) (nI v)) = _ ∧ fP (Form_lose (Form_redirect f (nI v) x y) (nI v)) = _ ∧ stay f (Form_lose (Form_redirect f (nI v) x y) (nI v)) ∧ (∀ w, (Form_lose (Form_redirect f (nI v) x y) (nI v)).1 1 w = if w = v then -1 else f.1 1 w) ∧ ∀ T, KT f nv T → KT (Form_lose (Form_redirect f (nI v) x y) (nI v)) nv T
  refine ⟨k1, ?_, ?_, ⟨fun i q1 q3 q5 q6 => by rw [k4 i q1 q3]; exact h4 i q5 q6, fun i q => by rw [k6 i q, h3], by rw [k8, h3]⟩, fun w => by rw [k5, e1], fun T hT => k10 T (KT_congr e1 (by rw [h3]) (by rw [h3]) hT)⟩
  · rw [k2, h2]
    rfl
  · rw [k3, fP_congr e1 (by rw [h3])]
/-- a value that has neither place nor arguments: of the first six -/
theorem redirect_low (h : CI f nb nv) {v : Nat} {x y : Int32} (hv6 : v < 6) (hx : x = -1 ∨ ∃ w, w < nv ∧ w ≠ v ∧ x = nI w) : CI (Form_redirect f (nI v) x y) nb nv ∧ fS (Form_redirect f (nI v) x y) = aRep (fS f) v (agOf x y) ∧ fP (Form_redirect f (nI v) x y) = plR (fP f) v ∧ stay f (Form_redirect f (nI v) x y) ∧ (∀ w, (Form_redirect f (nI v) x y).1 1 w = f.1 1 w) ∧ ∀ T, KT f nv T → KT (Form_redirect f (nI v) x y) nv T := by
  obtain ⟨h1, h2, h3, h4⟩ := redirect_CI (y := y) h (show v < 140 by omega) hx
  have e1 := h4 1 (by decide) (by decide)
  have hn6 := h.1.2.2.2.2.1
  have hpv := (((h.2.2.1 v (by omega)).2.2) hv6).1
  have hPv : fP f v = none := (fP_none h).mpr (Or.inr hpv)
  refine ⟨h1, ?_, ?_, ⟨fun i _ _ q5 q6 => h4 i q5 q6, fun i _ => by rw [h3], by rw [h3]⟩, fun w => by rw [e1], fun T hT => KT_congr e1 (by rw [h3]) (by rw [h3]) hT⟩
  · rw [h2]
    refine AF_ext (fun w => rfl) (fun u => ?_) (fun b => ?_) (fun b => rfl) (fun b => rfl) (fun w => rfl)
    · show (aAg (fS f) u).map (sb v (agOf x y)) = if u = v then [] else (aAg (fS f) u).map (sb v (agOf x y))
      by_cases q : u = v
      · rw [if_pos q, q]
        show (if v < 150 then fag f v else []).map (sb v (agOf x y)) = []
        rw [if_pos (by omega), fag_nil (h.2.1.2.2 v (by omega) (Or.inr hpv))]
        rfl
      · rw [if_neg q]
    · show aLs (fS f) b = (aLs (fS f) b).filter fun z => !decide (z = v)
      refine (List.filter_eq_self.mpr fun z hz => ?_).symm
      have : z ≠ v := fun e => by
        rw [e] at hz
        rw [(fS_ls_P h).mp hz] at hPv
        cases hPv
      simp [this]
  · rw [fP_congr e1 (by rw [h3])]
    funext z
    unfold plR
    by_cases q : z = v
    · rw [if_pos q, q, hPv]
    · rw [if_neg q]
end REPL
