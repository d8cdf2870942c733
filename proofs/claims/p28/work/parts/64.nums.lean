/-! THE PASS 2, in rows: what it asks -/
theorem from_nI : ∀ w : Nat, w < 20 → (if nI w < 0 then (-1 : Int32) else nI w / 2) = nI (w / 2) := by decide +kernel
theorem fromOf_nI {w : Nat} (h : w < 20) : Ph_fromOf (nI w) = nI (w / 2) := from_nI w h
section NUMS
variable {f : Ob} {nb nv T : Nat}
/-- what leads where, as far as it was read -/
def reM (f : Ob) (n : Nat) (nu : Ob) : Prop := ∀ a, a < 10 → ∀ c, c < 32 → (bt (nu.1 0 a) c = true ↔ c < n ∧ ∃ w, w ∈ aEd (fS f) c ∧ w / 2 = a)
theorem readEdges_spec (h : CI f nb nv) (nu : Ob) : reM f nb (Numbers_readEdges f nu) := by
  obtain ⟨hI, -, -, -, E1, -⟩ := id h
  have hnb := hI.2.2.1
  unfold Numbers_readEdges Numbers_readEdges_L9
  refine loop_cnt (B := fun a : Int32 × Ob => Numbers_readEdges_L9b f a.2 a.1) (mk := fun i (s : Ob) => (nI i, s)) (n := nb) (I := fun n s => reM f n s) (P := fun s => reM f nb s) (fun n s hn hI2 => ?_) (fun s hI2 => ⟨s, ?_, hI2⟩) nb 0 _ (by omega) (fun a ha c hc => ?_)
  · obtain ⟨e, he1, he, hlist⟩ := E1 n (by omega)
    have hB : Numbers_readEdges_L9b f s (nI n) = Numbers_readEdges_L19 f s (nI n) 0 := by
      unfold Numbers_readEdges_L9b
      rw [hI.1, if_pos (show nI n < nI nb from nI_lt hn (by omega))]
    dsimp only
    rw [hB]
    have hmem : ∀ x, x ∈ aEd (fS f) n ↔ ∃ k, k < e ∧ tn (f.1 10 (n * 20 + k)) = x := fun x => by
      have : aEd (fS f) n = fed f n := if_pos (by omega)
      rw [this]
      unfold fed
      rw [he, tn_nI (by omega), List.mem_map]
      constructor
      · rintro ⟨k, hk, q⟩; exact ⟨k, List.mem_range.mp hk, q⟩
      · rintro ⟨k, hk, q⟩; exact ⟨k, List.mem_range.mpr hk, q⟩
    unfold Numbers_readEdges_L19
    refine loop_cnt (B := fun a : Int32 × Ob => Numbers_readEdges_L19b f a.2 (nI n) a.1) (mk := fun i (s : Ob) => (nI i, s)) (n := e) (I := fun k x => ∀ a, a < 10 → ∀ c, c < 32 → (bt (x.1 0 a) c = true ↔ bt (s.1 0 a) c = true ∨ (c = n ∧ ∃ j, j < k ∧ tn (f.1 10 (n * 20 + j)) / 2 = a)))
      (P := fun r => ∃ s', r = .inl (nI (n + 1), s') ∧ reM f (n + 1) s') (fun k x hk hx => ?_) (fun x hx => ?_) e 0 s (by omega) (fun a ha c hc => ⟨Or.inl, fun q => q.elim id fun ⟨_, j, hj, _⟩ => by omega⟩)
    · obtain ⟨w, hw, ew⟩ := hlist k hk
      refine ⟨rs x 0 (w / 2) (x.1 0 (w / 2) ||| Ph_bit (nI n)), ?_, fun a ha c hc => ?_⟩
      · show Numbers_readEdges_L19b f x (nI n) (nI k) = _
        unfold Numbers_readEdges_L19b
        rw [oat_rs (show n < 10 by omega) (by decide), he, if_pos (show nI k < nI e from nI_lt hk (by omega)), wayTo_eq (by omega), ew, fromOf_nI hw, lead_eq _ (by omega), nI_1]
      · rw [rs_i]
        by_cases z : a = w / 2
        · rw [if_pos z, b_or, bit_nI (show n < 20 by omega) hc, Bool.or_eq_true, decide_eq_true_eq, ← z, hx a ha c hc]
          constructor
          · rintro ((q | ⟨q, j, hj, ej⟩) | q)
            · exact Or.inl q
            · exact Or.inr ⟨q, j, by omega, ej⟩
            · exact Or.inr ⟨q, k, by omega, by rw [ew, tn_nI (by omega), z]⟩
          · rintro (q | ⟨q, j, hj, ej⟩)
            · exact Or.inl (Or.inl q)
            · exact Or.inr q
        · rw [if_neg z, hx a ha c hc]
          constructor
          · rintro (q | ⟨q, j, hj, ej⟩)
            · exact Or.inl q
            · exact Or.inr ⟨q, j, by omega, ej⟩
          · rintro (q | ⟨q, j, hj, ej⟩)
            · exact Or.inl q
            · refine Or.inr ⟨q, j, ?_, ej⟩
              have : j ≠ k := fun e' => by
                rw [e', ew, tn_nI (by omega)] at ej
                exact z ej.symm
              omega
    · refine ⟨.inl (nI (n + 1), x), ?_, x, rfl, fun a ha c hc => ?_⟩
      · show Numbers_readEdges_L19b f x (nI n) (nI e) = _
        unfold Numbers_readEdges_L19b
        rw [oat_rs (show n < 10 by omega) (by decide), he, if_neg (show ¬ nI e < nI e from nI_nlt (Nat.le_refl _) (by omega)), nI_1]
      · rw [hx a ha c hc, hI2 a ha c hc]
        constructor
        · rintro (⟨q1, q2⟩ | ⟨q1, j, hj, ej⟩)
          · exact ⟨by omega, q2⟩
          · rw [q1]
            exact ⟨by omega, _, (hmem _).mpr ⟨j, hj, rfl⟩, ej⟩
        · rintro ⟨q1, w, q2, q3⟩
          by_cases z : c = n
          · rw [z] at q2
            obtain ⟨j, hj, ej⟩ := (hmem w).mp q2
            exact Or.inr ⟨z, j, hj, by rw [ej]; exact q3⟩
          · exact Or.inl ⟨by omega, w, q2, q3⟩
  · show Numbers_readEdges_L9b f s (nI nb) = _
    unfold Numbers_readEdges_L9b
    rw [hI.1, if_neg (show ¬ nI nb < nI nb from nI_nlt (Nat.le_refl _) (by omega))]
  · unfold Flow_forget ofil
    rw [oR_1, if_pos rfl, b_0]
    constructor
    · intro q; cases q
    · rintro ⟨q, -⟩; omega
/-- the flow of a form is that of its blocks -/
theorem flow_form (hF : FG f nb nv T) {nu : Ob} (h : reM f nb nu) : fN nu ∧ ∀ a b, fE nu a b ↔ aE (fS f) (fC f) a b := by
  obtain ⟨h1, h2, h3, -⟩ := hF
  have hnb := h1.1.2.2.1
  obtain ⟨e1, e2, e3, e4, e5, e6, e7⟩ := h2.1.2.1
  refine ⟨fun a ha i hi1 hi2 => ?_, fun a b => ⟨fun ⟨q1, q2, q3⟩ => ?_, fun q => ?_⟩⟩
  · cases z : bt (nu.1 0 a) i with
    | false => rfl
    | true =>
      have := ((h a ha i hi2).mp z).1
      omega
  · obtain ⟨z1, w, z2, z3⟩ := (h a q1 b (by omega)).mp q3
    have hb : fC f b := Classical.byContradiction fun y => by
      rw [(h3 b y).2.1] at z2
      cases z2
    have hc := h2.2.2.2.1 b w hb z2
    obtain ⟨y1, y2⟩ := e5 b w hb z2 hc
    subst z3
    exact ⟨hc, w % 2, y1, by rw [show w / 2 * 2 + w % 2 = w by omega]; exact y2⟩
  · obtain ⟨q1, j, q2, q3⟩ := q
    obtain ⟨t, y1, y2⟩ := h2.2.2.1 a j q1 q2
    rw [q3] at y1
    cases y1
    have hj := e7 a q1
    have hm := e4 b a j y2 q1 q2 q3
    have hbn : b < nb := h1.2.2.2.2.2.2.2 b (by have := y2.1; omega) y2.2
    exact ⟨q1.1, y2.1, (h a q1.1 b (by omega)).mpr ⟨hbn, _, hm, by omega⟩⟩
/-- arguments are the same -/
theorem same_ag (h : CI f nb nv) {u o : Nat} (hu : u < 150) (ho : o < 150) (hs : Form_hasSameArguments f (nI u) (nI o) = true) : fag f u = fag f o := by
  obtain ⟨c, a, e1, e2, e3, e4, e5, e6⟩ := h.2.1.1 u hu
  obtain ⟨c', a', d1, d2, d3, d4, d5, d6⟩ := h.2.1.1 o ho
  have key : ∀ w0 : Bool, (w0 = true → c = c') → Form_hasSameArguments_46 f (nI c) (nI a) (nI a') w0 = true → c = c' ∧ ∀ k, k < c → f.1 5 (a + k) = f.1 5 (a' + k) ∧ f.1 6 (a + k) = f.1 6 (a' + k) := by
    intro w0 hw0
    unfold Form_hasSameArguments_46 Form_hasSameArguments_L51
    refine loop_cnt (B := fun q : Bool × Int32 => Form_hasSameArguments_L51b f (nI c) (nI a) (nI a') q.1 q.2) (mk := fun i (b : Bool) => (b, nI i)) (n := c) (I := fun n b => b = true → c = c' ∧ ∀ k, k < n → f.1 5 (a + k) = f.1 5 (a' + k) ∧ f.1 6 (a + k) = f.1 6 (a' + k)) (P := fun r => r = true → c = c' ∧ ∀ k, k < c → f.1 5 (a + k) = f.1 5 (a' + k) ∧ f.1 6 (a + k) = f.1 6 (a' + k)) (fun n b hn hI => ?_) (fun b hI => ⟨b, ?_, hI⟩) c 0 w0 (by omega) (fun q => ⟨hw0 q, fun k hk => by omega⟩)
    · dsimp only
      unfold Form_hasSameArguments_L51b Form_hasSameArguments_120 Form_hasSameArguments_121
      rw [if_pos (show nI n < nI c from nI_lt hn (by omega)), nI_1]
      by_cases hb : b = true
      · obtain ⟨g1, g2⟩ := hI hb
        rw [if_pos hb, nI_add, nI_add, oat_rs (show a + n < 290 by have := e5 (by omega); omega) (by decide), oat_rs (show a' + n < 290 by have := d5 (by omega); omega) (by decide), oat_rs (show a + n < 290 by have := e5 (by omega); omega) (by decide), oat_rs (show a' + n < 290 by have := d5 (by omega); omega) (by decide)]
        by_cases q1 : f.1 5 (a + n) = f.1 5 (a' + n)
        · rw [if_pos q1]
          by_cases q2 : f.1 6 (a + n) = f.1 6 (a' + n)
          · rw [if_pos q2]
            refine ⟨true, rfl, fun _ => ⟨g1, fun k hk => ?_⟩⟩
            by_cases z : k = n
            · rw [z]; exact ⟨q1, q2⟩
            · exact g2 k (by omega)
          · rw [if_neg q2]
            exact ⟨false, rfl, fun q => by cases q⟩
        · rw [if_neg q1]
          exact ⟨false, rfl, fun q => by cases q⟩
      · rw [if_neg hb]
        exact ⟨false, rfl, fun q => by cases q⟩
    · show Form_hasSameArguments_L51b f (nI c) (nI a) (nI a') b (nI c) = _
      unfold Form_hasSameArguments_L51b
      rw [if_neg (show ¬ nI c < nI c from nI_nlt (Nat.le_refl _) (by omega))]
  unfold Form_hasSameArguments at hs
  rw [oat_rs hu (by decide), oat_rs hu (by decide), oat_rs ho (by decide), oat_rs ho (by decide), e1, e3, d1, d3] at hs
  have fin : c = c' ∧ ∀ k, k < c → f.1 5 (a + k) = f.1 5 (a' + k) ∧ f.1 6 (a + k) = f.1 6 (a' + k) := by
    by_cases q : nI c = nI c'
    · rw [if_pos q] at hs
      exact key true (fun _ => nI_inj (by omega) (by omega) q) hs
    · rw [if_neg q] at hs
      exact key false (fun z => by cases z) hs
  obtain ⟨g1, g2⟩ := fin
  unfold fag
  rw [e1, d1, e3, d3, tn_nI (by omega), tn_nI (by omega), tn_nI (by omega), tn_nI (by omega), ← g1]
  refine List.map_congr_left fun k hk => ?_
  obtain ⟨y1, y2⟩ := g2 k (List.mem_range.mp hk)
  unfold ag1
  rw [y1, y2]
theorem crossed_ag (h : CI f nb nv) {u o : Nat} (hu : u < 150) (ho : o < 150) (hlu : (fag f u).length = 2) (hlo : (fag f o).length = 2) (hs : Form_hasCrossedArguments f (nI u) (nI o) = true) : ∃ x y, fag f u = [x, y] ∧ fag f o = [y, x] := by
  obtain ⟨c, a, e1, e2, e3, e4, e5, e6⟩ := h.2.1.1 u hu
  obtain ⟨c', a', d1, d2, d3, d4, d5, d6⟩ := h.2.1.1 o ho
  have l1 : (fag f u).length = c := by unfold fag; rw [List.length_map, List.length_range, e1, tn_nI (by omega)]
  have l2 : (fag f o).length = c' := by unfold fag; rw [List.length_map, List.length_range, d1, tn_nI (by omega)]
  have hc : c = 2 := by omega
  have hc' : c' = 2 := by omega
  subst hc
  subst hc'
  have b1 := e5 (by decide)
  have b2 := d5 (by decide)
  have fu : fag f u = [ag1 f a, ag1 f (a + 1)] := by
    unfold fag
    rw [e1, e3, tn_nI (by omega), tn_nI (by omega)]
    rfl
  have fo : fag f o = [ag1 f a', ag1 f (a' + 1)] := by
    unfold fag
    rw [d1, d3, tn_nI (by omega), tn_nI (by omega)]
    rfl
  unfold Form_hasCrossedArguments Form_hasCrossedArguments_111 at hs
  rw [oat_rs hu (by decide), oat_rs ho (by decide), e3, d3, nI_1, nI_1, oat_rs (show a < 290 by omega) (by decide), oat_rs (show a' < 290 by omega) (by decide), oat_rs (show a + 1 < 290 by omega) (by decide), oat_rs (show a' + 1 < 290 by omega) (by decide), oat_rs (show a < 290 by omega) (by decide), oat_rs (show a' < 290 by omega) (by decide), oat_rs (show a + 1 < 290 by omega) (by decide), oat_rs (show a' + 1 < 290 by omega) (by decide)] at hs
  by_cases q1 : f.1 5 a = f.1 5 (a' + 1)
  · rw [if_pos q1] at hs
    by_cases q2 : f.1 6 a = f.1 6 (a' + 1)
    · rw [if_pos q2] at hs
      by_cases q3 : f.1 5 (a + 1) = f.1 5 a'
      · rw [if_pos q3] at hs
        by_cases q4 : f.1 6 (a + 1) = f.1 6 a'
        · refine ⟨_, _, fu, ?_⟩
          rw [fo]
          unfold ag1
          rw [q1, q2, q3, q4]
        · rw [if_neg q4] at hs; cases hs
      · rw [if_neg q3] at hs; cases hs
    · rw [if_neg q2] at hs; cases hs
  · rw [if_neg q1] at hs; cases hs
/-- the one argument of a PHI -/
theorem sole_eq (h : CI f nb nv) {u : Nat} (hu : u < 140) : Form_soleArgument f (nI u) = -1 ∨ ∃ k a, k < 290 ∧ Form_soleArgument f (nI u) = nI k ∧ (aAg (fS f) u)[k]? = some a ∧ ∀ x, x ∈ aAg (fS f) u → x = a ∨ x = .inl u := by
  obtain ⟨c, a, e1, e2, e3, e4, e5, e6⟩ := h.2.1.1 u (by omega)
  have hnv := h.1.2.2.2.2.2
  have hfag : aAg (fS f) u = fag f u := if_pos (by omega)
  have hex : ∀ P : Nat → Prop, True := fun _ => trivial
  have key : (fun r : Int32 => r = -1 ∨ ∃ k, k < c ∧ r = nI k ∧ ∀ j, j < c → f.1 5 (a + j) = nI u ∨ (f.1 5 (a + j) = f.1 5 (a + k) ∧ f.1 6 (a + j) = f.1 6 (a + k))) (Form_soleArgument f (nI u)) := by
    unfold Form_soleArgument Form_soleArgument_L14
    rw [oat_rs (show u < 150 by omega) (by decide), e3]
    refine loop_brk (B := fun q : Int32 × Int32 => Form_soleArgument_L14b f (nI u) (nI a) q.1 q.2) (mk := fun i (b : Int32) => (b, nI i)) (n := c) (I := fun n b => (b = -1 ∧ ∀ j, j < n → f.1 5 (a + j) = nI u) ∨ ∃ k, k < n ∧ b = nI k ∧ ∀ j, j < n → f.1 5 (a + j) = nI u ∨ (f.1 5 (a + j) = f.1 5 (a + k) ∧ f.1 6 (a + j) = f.1 6 (a + k)))
      (P := fun r : Int32 => r = -1 ∨ ∃ k, k < c ∧ r = nI k ∧ ∀ j, j < c → f.1 5 (a + j) = nI u ∨ (f.1 5 (a + j) = f.1 5 (a + k) ∧ f.1 6 (a + j) = f.1 6 (a + k))) (fun n b hn hI => ?_) (fun b hI => ⟨b, ?_, ?_⟩) c 0 (-1) (by omega) (Or.inl ⟨rfl, fun j hj => by omega⟩)
    · have hb := e5 (by omega)
      have hB : Form_soleArgument_L14b f (nI u) (nI a) b (nI n) = if f.1 5 (a + n) = nI u then .inl (b, nI (n + 1)) else if b = -1 then .inl (nI n, nI (n + 1)) else if f.1 5 (a + n) = oat f 5 290 (nI a + b) then (if f.1 6 (a + n) = oat f 6 290 (nI a + b) then .inl (b, nI (n + 1)) else .inr (-1)) else .inr (-1) := by
        unfold Form_soleArgument_L14b Form_soleArgument_101 Form_soleArgument_99
        rw [oat_rs (show u < 150 by omega) (by decide), e1, if_pos (show nI n < nI c from nI_lt hn (by omega)), nI_add, oat_rs (show a + n < 290 by omega) (by decide), oat_rs (show a + n < 290 by omega) (by decide), nI_1]
      dsimp only
      rw [hB]
      by_cases q1 : f.1 5 (a + n) = nI u
      · rw [if_pos q1]
        refine Or.inl ⟨b, rfl, ?_⟩
        rcases hI with ⟨i1, i2⟩ | ⟨k, hk, i1, i2⟩
        · refine Or.inl ⟨i1, fun j hj => ?_⟩
          by_cases z : j = n
          · rw [z]; exact q1
          · exact i2 j (by omega)
        · refine Or.inr ⟨k, by omega, i1, fun j hj => ?_⟩
          by_cases z : j = n
          · rw [z]; exact Or.inl q1
          · exact i2 j (by omega)
      · rw [if_neg q1]
        rcases hI with ⟨i1, i2⟩ | ⟨k, hk, i1, i2⟩
        · rw [if_pos i1]
          refine Or.inl ⟨nI n, rfl, Or.inr ⟨n, by omega, rfl, fun j hj => ?_⟩⟩
          by_cases z : j = n
          · rw [z]; exact Or.inr ⟨rfl, rfl⟩
          · exact Or.inl (i2 j (by omega))
        · rw [i1, if_neg (nI_m1 (by omega)), nI_add, oat_rs (show a + k < 290 by omega) (by decide), oat_rs (show a + k < 290 by omega) (by decide)]
          by_cases q2 : f.1 5 (a + n) = f.1 5 (a + k)
          · rw [if_pos q2]
            by_cases q3 : f.1 6 (a + n) = f.1 6 (a + k)
            · rw [if_pos q3]
              refine Or.inl ⟨nI k, rfl, Or.inr ⟨k, by omega, rfl, fun j hj => ?_⟩⟩
              by_cases z : j = n
              · rw [z]; exact Or.inr ⟨q2, q3⟩
              · exact i2 j (by omega)
            · rw [if_neg q3]
              exact Or.inr ⟨-1, rfl, Or.inl rfl⟩
          · rw [if_neg q2]
            exact Or.inr ⟨-1, rfl, Or.inl rfl⟩
    · show Form_soleArgument_L14b f (nI u) (nI a) b (nI c) = _
      unfold Form_soleArgument_L14b
      rw [oat_rs (show u < 150 by omega) (by decide), e1, if_neg (show ¬ nI c < nI c from nI_nlt (Nat.le_refl _) (by omega))]
    · rcases hI with ⟨i1, i2⟩ | q
      · exact Or.inl i1
      · exact Or.inr q
  rcases key with q | ⟨k, hk, q1, q2⟩
  · exact Or.inl q
  · refine Or.inr ⟨k, ag1 f (a + k), by omega, q1, by rw [hfag, fag_get e1 e2 e3 e4, if_pos hk], fun x hx => ?_⟩
    rw [hfag] at hx
    obtain ⟨j, hj⟩ := List.getElem?_of_mem hx
    rw [fag_get e1 e2 e3 e4] at hj
    by_cases z : j < c
    · rw [if_pos z] at hj
      rw [← Option.some.inj hj]
      unfold ag1
      rcases q2 j z with y | ⟨y1, y2⟩
      · right
        rw [y, if_neg (nI_m1 (by omega)), tn_nI (by omega)]
      · left
        rw [y1, y2]
    · rw [if_neg z] at hj; cases hj
end NUMS
