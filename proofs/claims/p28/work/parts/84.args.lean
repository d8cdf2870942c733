/-! ARGUMENTS ARE GIVEN, in rows -/
def agE (nv : Nat) (v n : Int32) (x : Ag) : Prop := agOf v n = x ∧ (v = -1 ∨ ∃ w, w < nv ∧ v = nI w)
def AS (nv : Nat) (ma : Ob) (gv : Nat) (F : Nat → List Ag) : Prop := ma.2.1 3 = nI gv ∧ (∀ u, u < 150 → ∃ a, a < 291 ∧ ma.1 4 u = nI a ∧ ma.1 3 u = nI (F u).length ∧ (F u).length < 291 ∧ (F u ≠ [] → a + (F u).length ≤ gv) ∧ ∀ (i : Nat) (x : Ag), (F u)[i]? = some x → agE nv (ma.1 5 (a + i)) (ma.1 6 (a + i)) x) ∧ ∀ u u' i, u < 150 → u' < 150 → inSeg ma u i → inSeg ma u' i → u = u'
def updF (F : Nat → List Ag) (u : Nat) (l : List Ag) : Nat → List Ag := fun z => if z = u then l else F z
/-- the last one that was given some, or one that has none yet -/
def lastU (ma : Ob) (gv : Nat) (F : Nat → List Ag) (u : Nat) : Prop := F u = [] ∨ ma.1 4 u = nI (gv - (F u).length) ∧ (F u).length ≤ gv
/-- what stays when arguments are given -/
def ast (f g : Ob) : Prop := (∀ i, i ≠ 3 → i ≠ 4 → i ≠ 5 → i ≠ 6 → g.1 i = f.1 i) ∧ (∀ i, i ≠ 3 → g.2.1 i = f.2.1 i) ∧ g.2.2 = f.2.2
theorem ast.rf (f : Ob) : ast f f := ⟨fun _ _ _ _ _ => rfl, fun _ _ => rfl, rfl⟩
theorem ast.trans {f g k : Ob} (h1 : ast f g) (h2 : ast g k) : ast f k := ⟨fun i a b c d => (h2.1 i a b c d).trans (h1.1 i a b c d), fun i a => (h2.2.1 i a).trans (h1.2.1 i a), h2.2.2.trans h1.2.2⟩
section ARGS
variable {nv gv : Nat} {ma : Ob} {F : Nat → List Ag}
theorem giveA {u : Nat} {v n : Int32} {x : Ag} (h : AS nv ma gv F) (hu : u < 150) (hl : lastU ma gv F u) (hg : gv < 290) (hx : agE nv v n x) : AS nv (Form_addArgument ma (nI u) v n) (gv + 1) (updF F u (F u ++ [x])) ∧ lastU (Form_addArgument ma (nI u) v n) (gv + 1) (updF F u (F u ++ [x])) u ∧ ast ma (Form_addArgument ma (nI u) v n) := by
  obtain ⟨h3, hU, hD⟩ := h
  obtain ⟨a, ha, e4, e3, hlen, hle, hent⟩ := hU u hu
  have hc290 : (F u).length < 290 := by
    by_cases q : F u = []
    · rw [q]; decide
    · have := hle q; omega
  rw [addArgument_eq hu e3 hc290 h3 hg]
  generalize hr : oG (rs (rs (rs (if (F u).length = 0 then rs ma 4 u (nI gv) else ma) 5 gv v) 6 gv n) 3 u (nI ((F u).length + 1))) 3 (nI (gv + 1)) = r
  have q1 : ∀ i, i ≠ 4 → (if (F u).length = 0 then rs ma 4 u (nI gv) else ma).1 i = ma.1 i := fun i hi => by
    split
    · exact rs_r _ _ _ _ hi
    · rfl
  have r3 : ∀ w, r.1 3 w = if w = u then nI ((F u).length + 1) else ma.1 3 w := fun w => by rw [← hr, oG_1, rs_i, rs_r _ _ _ _ (show 3 ≠ 6 by decide), rs_r _ _ _ _ (show 3 ≠ 5 by decide), q1 3 (by decide)]
  have r4 : ∀ w, r.1 4 w = if w = u ∧ (F u).length = 0 then nI gv else ma.1 4 w := fun w => by
    rw [← hr, oG_1, rs_r _ _ _ _ (show 4 ≠ 3 by decide), rs_r _ _ _ _ (show 4 ≠ 6 by decide), rs_r _ _ _ _ (show 4 ≠ 5 by decide)]
    by_cases z : (F u).length = 0
    · rw [if_pos z, rs_i]
      by_cases y : w = u
      · rw [if_pos y, if_pos ⟨y, z⟩]
      · rw [if_neg y, if_neg fun q => y q.1]
    · rw [if_neg z, if_neg fun q => z q.2]
  have r5 : ∀ i, r.1 5 i = if i = gv then v else ma.1 5 i := fun i => by rw [← hr, oG_1, rs_r _ _ _ _ (show 5 ≠ 3 by decide), rs_r _ _ _ _ (show 5 ≠ 6 by decide), rs_i, q1 5 (by decide)]
  have r6 : ∀ i, r.1 6 i = if i = gv then n else ma.1 6 i := fun i => by rw [← hr, oG_1, rs_r _ _ _ _ (show 6 ≠ 3 by decide), rs_i, rs_r _ _ _ _ (show 6 ≠ 5 by decide), q1 6 (by decide)]
  have ro : ∀ i, i ≠ 3 → i ≠ 4 → i ≠ 5 → i ≠ 6 → r.1 i = ma.1 i := fun i a b c d => by rw [← hr, oG_1, rs_r _ _ _ _ a, rs_r _ _ _ _ d, rs_r _ _ _ _ c, q1 i b]
  have ri : ∀ i, r.2.1 i = if i = 3 then nI (gv + 1) else ma.2.1 i := fun i => by
    rw [← hr, oG_i]
    by_cases z : i = 3
    · rw [if_pos z, if_pos z]
    · rw [if_neg z, if_neg z]
      show (if (F u).length = 0 then rs ma 4 u (nI gv) else ma).2.1 i = _
      split <;> rfl
  have rb : r.2.2 = ma.2.2 := by
    rw [← hr]
    show (if (F u).length = 0 then rs ma 4 u (nI gv) else ma).2.2 = _
    split <;> rfl
  -- where u's begin
  have hau : ∃ a', a' + (F u).length = gv ∧ r.1 4 u = nI a' ∧ (F u ≠ [] → a' = a) := by
    by_cases z : F u = []
    · exact ⟨gv, by rw [z]; rfl, by rw [r4, if_pos ⟨rfl, by rw [z]; rfl⟩], fun q => absurd z q⟩
    · have z' : (F u).length ≠ 0 := fun q => z (List.length_eq_zero_iff.mp q)
      rcases hl with q | ⟨q, q2⟩
      · exact absurd q z
      · refine ⟨gv - (F u).length, by omega, by rw [r4, if_neg fun y => z' y.2]; exact q, fun _ => ?_⟩
        exact nI_inj (by omega) (by omega) (q.symm.trans e4)
  obtain ⟨a', ha', e4', hsame⟩ := hau
  have segU : ∀ i, inSeg r u i ↔ a' ≤ i ∧ i < gv + 1 := fun i => by
    unfold inSeg
    rw [e4', r3, if_pos rfl, tn_nI (by omega), tn_nI (by omega)]
    omega
  have segO : ∀ w i, w ≠ u → (inSeg r w i ↔ inSeg ma w i) := fun w i hw => by
    unfold inSeg
    rw [r3, if_neg hw, r4, if_neg fun q => hw q.1]
  have segB : ∀ w i, w < 150 → inSeg ma w i → i < gv := fun w i hw hi => by
    obtain ⟨aw, h1, h2, h3', h4, h5, -⟩ := hU w hw
    unfold inSeg at hi
    rw [h2, h3', tn_nI (by omega), tn_nI (by omega)] at hi
    have : F w ≠ [] := fun q => by rw [q] at hi; simp at hi; omega
    have := h5 this
    omega
  have segU2 : ∀ w i, w < 150 → w ≠ u → inSeg ma w i → ¬ (a' ≤ i ∧ i < gv + 1) := fun w i hw hwu hi q => by
    have hig := segB w i hw hi
    have hne : F u ≠ [] := fun z => by rw [z] at ha'; simp at ha'; omega
    refine hwu (hD w u i hw hu hi ?_)
    unfold inSeg
    rw [e4, e3, tn_nI (by omega), tn_nI (by omega)]
    have := hsame hne
    omega
  refine ⟨⟨by rw [ri, if_pos rfl], fun w hw => ?_, fun w w' i hw hw' h1 h2 => ?_⟩, ?_, ro, fun i hi => by rw [ri, if_neg hi], rb⟩
  · by_cases z : w = u
    · have hF : updF F u (F u ++ [x]) w = F u ++ [x] := if_pos z
      rw [hF, z]
      refine ⟨a', by omega, e4', by rw [r3, if_pos rfl, List.length_append]; rfl, ?_, fun _ => ?_, fun i y hy => ?_⟩
      · rw [List.length_append]
        show (F u).length + 1 < 291
        omega
      · rw [List.length_append]
        show a' + ((F u).length + 1) ≤ gv + 1
        omega
      · rw [r5, r6]
        by_cases q : i < (F u).length
        · rw [List.getElem?_append_left q] at hy
          have hne : F u ≠ [] := fun z => by rw [z] at q; exact absurd q (Nat.not_lt_zero _)
          rw [if_neg (by omega), if_neg (by omega), hsame hne]
          exact hent i y hy
        · have hi := (List.getElem?_eq_some_iff.mp hy).1
          rw [List.length_append] at hi
          have : ([x] : List Ag).length = 1 := rfl
          have hil : i = (F u).length := by omega
          rw [hil, List.getElem?_append_right (Nat.le_refl _), Nat.sub_self] at hy
          have hxy : x = y := Option.some.inj hy
          rw [if_pos (by omega), if_pos (by omega), ← hxy]
          exact hx
    · have hF : updF F u (F u ++ [x]) w = F w := if_neg z
      rw [hF]
      obtain ⟨aw, h1, h2, h3', h4, h5, h6⟩ := hU w hw
      refine ⟨aw, h1, by rw [r4, if_neg fun q => z q.1]; exact h2, by rw [r3, if_neg z]; exact h3', h4, fun q => by have := h5 q; omega, fun i y hy => ?_⟩
      have hi := (List.getElem?_eq_some_iff.mp hy).1
      have := h5 fun q => by rw [q] at hi; exact absurd hi (Nat.not_lt_zero _)
      rw [r5, r6, if_neg (by omega), if_neg (by omega)]
      exact h6 i y hy
  · by_cases z : w = u
    · by_cases z' : w' = u
      · rw [z, z']
      · rw [z] at h1
        exact absurd ((segU i).mp h1) (segU2 w' i hw' z' ((segO w' i z').mp h2))
    · by_cases z' : w' = u
      · rw [z'] at h2
        exact absurd ((segU i).mp h2) (segU2 w i hw z ((segO w i z).mp h1))
      · exact hD w w' i hw hw' ((segO w i z).mp h1) ((segO w' i z').mp h2)
  · right
    have hF : updF F u (F u ++ [x]) u = F u ++ [x] := if_pos rfl
    rw [hF, List.length_append]
    show r.1 4 u = nI (gv + 1 - ((F u).length + 1)) ∧ (F u).length + 1 ≤ gv + 1
    exact ⟨by rw [e4', show gv + 1 - ((F u).length + 1) = a' by omega], by omega⟩
theorem updF_F {u : Nat} {l l' : List Ag} : updF (updF F u l) u l' = updF F u l' := by
  funext z
  unfold updF
  by_cases q : z = u
  · rw [if_pos q, if_pos q]
  · rw [if_neg q, if_neg q, if_neg q]
theorem AS_fag (h : AS nv ma gv F) (hnv : nv ≤ 140) {u : Nat} (hu : u < 150) : fag ma u = F u := by
  obtain ⟨a, ha, e4, e3, hlen, hle, hent⟩ := h.2.1 u hu
  apply List.ext_getElem?
  intro i
  rw [fag_get e3 hlen e4 ha]
  by_cases q : i < (F u).length
  · rw [if_pos q]
    have hg := List.getElem?_eq_getElem q
    obtain ⟨h1, h2⟩ := hent i _ hg
    rw [hg, ← h1]
    unfold ag1 agOf
    rfl
  · rw [if_neg q, List.getElem?_eq_none (by omega)]
/-- what is held, and operands -/
def hdA (mk : Ob) (b x : Nat) : Ag := agOf (mk.1 0 (b * 6 + x)) (mk.1 1 (b * 6 + x))
def hdOk (nv : Nat) (mk : Ob) (b : Nat) : Prop := ∀ x, x < 6 → mk.1 0 (b * 6 + x) = -1 ∨ ∃ w, w < nv ∧ mk.1 0 (b * 6 + x) = nI w
theorem op_enc {mk : Ob} {b : Nat} {o : Int32} (hb : b < 10) (hH : hdOk nv mk b) (ho : opOk o) : agE nv (Maker_valueFor mk (nI b) o) (Maker_numberFor mk (nI b) o) (mkA (hdA mk b) o) := by
  unfold Maker_valueFor Maker_numberFor Ph_variableOf mkA
  by_cases q : o < 100
  · rw [if_pos q, if_pos rfl, if_pos rfl, if_pos q]
    exact ⟨rfl, Or.inl rfl⟩
  · obtain ⟨j, hj, ej⟩ := ho q
    rw [if_neg q, ej, if_neg (nI_m1 (by omega)), if_neg (nI_m1 (by omega)), if_neg q, tn_nI (by omega), ix6, oat_rs (show b * 6 + j < 60 by omega) (by decide), oat_rs (show b * 6 + j < 60 by omega) (by decide)]
    exact ⟨rfl, hH j hj⟩
theorem hold_eq {mk : Ob} {b x : Nat} {v n : Int32} (hb : b < 10) (hx : x < 6) : Maker_hold mk (nI b) (nI x) v n = rs (rs mk 0 (b * 6 + x) v) 1 (b * 6 + x) n := by
  unfold Maker_hold
  rw [ix6, oput_rs (show b * 6 + x < 60 by omega) (by decide), oput_rs (show b * 6 + x < 60 by omega) (by decide)]
theorem hold_at {mk : Ob} {b x : Nat} {v n : Int32} {y : Ag} (hx : x < 6) (he : agE nv v n y) : (∀ c z, z < 6 → hdA (rs (rs mk 0 (b * 6 + x) v) 1 (b * 6 + x) n) c z = if c = b ∧ z = x then y else hdA mk c z) ∧ (∀ c, (∀ z, z < 6 → (c = b ∧ z = x) ∨ (mk.1 0 (c * 6 + z) = -1 ∨ ∃ w, w < nv ∧ mk.1 0 (c * 6 + z) = nI w)) → hdOk nv (rs (rs mk 0 (b * 6 + x) v) 1 (b * 6 + x) n) c) ∧ (rs (rs mk 0 (b * 6 + x) v) 1 (b * 6 + x) n).1 2 = mk.1 2 ∧ (rs (rs mk 0 (b * 6 + x) v) 1 (b * 6 + x) n).2 = mk.2 := by
  have r0 : ∀ i, (rs (rs mk 0 (b * 6 + x) v) 1 (b * 6 + x) n).1 0 i = if i = b * 6 + x then v else mk.1 0 i := fun i => by rw [rs_r _ _ _ _ (show 0 ≠ 1 by decide), rs_i]
  have r1 : ∀ i, (rs (rs mk 0 (b * 6 + x) v) 1 (b * 6 + x) n).1 1 i = if i = b * 6 + x then n else mk.1 1 i := fun i => by rw [rs_i, rs_r _ _ _ _ (show 1 ≠ 0 by decide)]
  refine ⟨fun c z hz => ?_, fun c hc z hz => ?_, by rw [rs_r _ _ _ _ (by decide), rs_r _ _ _ _ (by decide)], rfl⟩
  · unfold hdA
    rw [r0, r1]
    by_cases q : c = b ∧ z = x
    · rw [if_pos (by rw [q.1, q.2]), if_pos (by rw [q.1, q.2]), if_pos q]
      exact he.1
    · rw [if_neg (by omega), if_neg (by omega), if_neg q]
  · rw [r0]
    by_cases q : c = b ∧ z = x
    · rw [if_pos (by rw [q.1, q.2])]; exact he.2
    · rw [if_neg (by omega)]
      exact (hc z hz).resolve_left q
end ARGS
