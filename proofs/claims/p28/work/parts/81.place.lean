/-! PHIS ARE PLACED, in rows -/
section PLACE
variable {to fl : Ob} {nb : Nat}
theorem placePhis_spec (hnb : to.2.1 0 = nI nb) (hnb1 : nb ≤ 10) (mk : Ob) : (∀ b x, b < 10 → x < 32 → (bt ((Maker_placePhis to fl mk).1 2 b) x = true ↔ b < nb ∧ x < 6 ∧ bt (Maker_whereJoined to fl (nI x)) b = true ∧ bt (to.1 10 b) x = true)) ∧ (∀ i, i ≠ 2 → (Maker_placePhis to fl mk).1 i = mk.1 i) ∧ (Maker_placePhis to fl mk).2 = mk.2 := by
  unfold Maker_placePhis Maker_placePhis_L10
  refine loop_cnt (B := fun a : Int32 × Ob => Maker_placePhis_L10b to fl a.2 a.1) (mk := fun i (s : Ob) => (nI i, s)) (n := 6) (I := fun n g => (∀ b x, b < 10 → x < 32 → (bt (g.1 2 b) x = true ↔ b < nb ∧ x < n ∧ bt (Maker_whereJoined to fl (nI x)) b = true ∧ bt (to.1 10 b) x = true)) ∧ (∀ i, i ≠ 2 → g.1 i = mk.1 i) ∧ g.2 = mk.2)
    (P := fun g => (∀ b x, b < 10 → x < 32 → (bt (g.1 2 b) x = true ↔ b < nb ∧ x < 6 ∧ bt (Maker_whereJoined to fl (nI x)) b = true ∧ bt (to.1 10 b) x = true)) ∧ (∀ i, i ≠ 2 → g.1 i = mk.1 i) ∧ g.2 = mk.2) (fun n g hn hI => ?_) (fun g hI => ⟨g, ?_, hI⟩) 6 0 (ofil mk 2 0) rfl ⟨fun b x hb hx => ?_, fun i hi => ?_, rfl⟩
  · obtain ⟨i1, i2, i3⟩ := hI
    have hB : Maker_placePhis_L10b to fl g (nI n) = Maker_placePhis_L26 to fl g (nI n) (Maker_whereJoined to fl (nI n)) 0 := by
      unfold Maker_placePhis_L10b
      rw [if_pos (show nI n < 6 from nI_lt (a := n) (b := 6) hn (by decide))]
    dsimp only
    rw [hB]
    generalize hJ : Maker_whereJoined to fl (nI n) = J
    unfold Maker_placePhis_L26
    refine loop_cnt (B := fun a : Int32 × Ob => Maker_placePhis_L26b to fl a.2 (nI n) J a.1) (mk := fun i (s : Ob) => (nI i, s)) (n := nb) (I := fun k s => (∀ b x, b < 10 → x < 32 → (bt (s.1 2 b) x = true ↔ bt (g.1 2 b) x = true ∨ (b < k ∧ x = n ∧ bt J b = true ∧ bt (to.1 10 b) n = true))) ∧ (∀ i, i ≠ 2 → s.1 i = mk.1 i) ∧ s.2 = mk.2)
      (P := fun r => ∃ s', r = .inl (nI (n + 1), s') ∧ (∀ b x, b < 10 → x < 32 → (bt (s'.1 2 b) x = true ↔ b < nb ∧ x < n + 1 ∧ bt (Maker_whereJoined to fl (nI x)) b = true ∧ bt (to.1 10 b) x = true)) ∧ (∀ i, i ≠ 2 → s'.1 i = mk.1 i) ∧ s'.2 = mk.2) (fun k s hk hs => ?_) (fun s hs => ?_) nb 0 g (by omega) ⟨fun b x hb hx => ⟨Or.inl, fun q => q.elim id fun z => by omega⟩, i2, i3⟩
    · obtain ⟨s1, s2, s3⟩ := hs
      have hk10 : k < 10 := by omega
      have hB2 : Maker_placePhis_L26b to fl s (nI n) J (nI k) = if bt J k = true then (if bt (to.1 10 k) n = true then .inl (nI (k + 1), rs s 2 k (s.1 2 k ||| Ph_bit (nI n))) else .inl (nI (k + 1), s)) else .inl (nI (k + 1), s) := by
        unfold Maker_placePhis_L26b Maker_placePhis_83
        rw [hnb, if_pos (show nI k < nI nb from nI_lt hk (by omega)), has_nI (by omega), oat_rs hk10 (by decide), has_nI (by omega), oat_rs hk10 (by decide), oput_rs hk10 (by decide), nI_1]
      dsimp only
      rw [hB2]
      have skip : ¬ (bt J k = true ∧ bt (to.1 10 k) n = true) → ∀ b x, b < 10 → x < 32 → (bt (s.1 2 b) x = true ↔ bt (g.1 2 b) x = true ∨ (b < k + 1 ∧ x = n ∧ bt J b = true ∧ bt (to.1 10 b) n = true)) := fun q b x hb hx => by
        rw [s1 b x hb hx]
        constructor
        · rintro (h | ⟨h1, h2⟩)
          · exact Or.inl h
          · exact Or.inr ⟨by omega, h2⟩
        · rintro (h | ⟨h1, h2, h3, h4⟩)
          · exact Or.inl h
          · have : b ≠ k := fun z => q ⟨by rw [← z]; exact h3, by rw [← z]; exact h4⟩
            exact Or.inr ⟨by omega, h2, h3, h4⟩
      by_cases q1 : bt J k = true
      · rw [if_pos q1]
        by_cases q2 : bt (to.1 10 k) n = true
        · rw [if_pos q2]
          refine ⟨_, rfl, fun b x hb hx => ?_, fun i hi => by rw [rs_r _ _ _ _ hi]; exact s2 i hi, s3⟩
          rw [rs_i]
          by_cases z : b = k
          · rw [if_pos z, b_or, Bool.or_eq_true, bit_nI (by omega) hx, decide_eq_true_eq, ← z, s1 b x hb hx]
            constructor
            · rintro ((h | ⟨h1, h2⟩) | h)
              · exact Or.inl h
              · exact Or.inr ⟨by omega, h2⟩
              · exact Or.inr ⟨by omega, h, by rw [z]; exact q1, by rw [z]; exact q2⟩
            · rintro (h | ⟨h1, h2, h3⟩)
              · exact Or.inl (Or.inl h)
              · exact Or.inr h2
          · rw [if_neg z, s1 b x hb hx]
            constructor
            · rintro (h | ⟨h1, h2⟩)
              · exact Or.inl h
              · exact Or.inr ⟨by omega, h2⟩
            · rintro (h | ⟨h1, h2⟩)
              · exact Or.inl h
              · exact Or.inr ⟨by omega, h2⟩
        · rw [if_neg q2]
          exact ⟨s, rfl, skip fun z => q2 z.2, s2, s3⟩
      · rw [if_neg q1]
        exact ⟨s, rfl, skip fun z => q1 z.1, s2, s3⟩
    · obtain ⟨s1, s2, s3⟩ := hs
      refine ⟨.inl (nI (n + 1), s), ?_, s, rfl, fun b x hb hx => ?_, s2, s3⟩
      · show Maker_placePhis_L26b to fl s (nI n) J (nI nb) = _
        unfold Maker_placePhis_L26b
        rw [hnb, if_neg (show ¬ nI nb < nI nb from nI_nlt (Nat.le_refl _) (by omega)), nI_1]
      · rw [s1 b x hb hx, i1 b x hb hx]
        constructor
        · rintro (⟨h1, h2, h3⟩ | ⟨h1, h2, h3, h4⟩)
          · exact ⟨h1, by omega, h3⟩
          · rw [h2, hJ]; exact ⟨h1, by omega, h3, h4⟩
        · rintro ⟨h1, h2, h3, h4⟩
          by_cases z : x = n
          · rw [z] at h3 h4
            rw [hJ] at h3
            exact Or.inr ⟨h1, z, h3, h4⟩
          · exact Or.inl ⟨h1, by omega, h3, h4⟩
  · show Maker_placePhis_L10b to fl g (nI 6) = _
    unfold Maker_placePhis_L10b
    rw [if_neg (by decide)]
  · unfold ofil
    rw [oR_1, if_pos rfl, b_0]
    exact ⟨(fun q => by cases q), fun q => by omega⟩
  · unfold ofil
    rw [oR_1, if_neg hi]
end PLACE
/-! VALUES ARE MADE, in rows -/
def VD (g : Ob) (b s : Nat) (D : List (Nat × Int32)) : Prop := g.1 7 b = nI D.length ∧ ∀ (i : Nat) (d : Nat × Int32), D[i]? = some d → g.1 8 (b * 140 + i) = nI (s + i) ∧ g.1 0 (s + i) = nI d.1 ∧ g.1 1 (s + i) = nI b ∧ g.1 2 (s + i) = d.2
theorem VD_congr {f g : Ob} {b s : Nat} {D : List (Nat × Int32)} (h7 : g.1 7 b = f.1 7 b) (h8 : ∀ i, i < D.length → g.1 8 (b * 140 + i) = f.1 8 (b * 140 + i)) (h : ∀ v, s ≤ v → v < s + D.length → g.1 0 v = f.1 0 v ∧ g.1 1 v = f.1 1 v ∧ g.1 2 v = f.1 2 v) (hf : VD f b s D) : VD g b s D := by
  refine ⟨h7.trans hf.1, fun i d hd => ?_⟩
  have hi := (List.getElem?_eq_some_iff.mp hd).1
  obtain ⟨q1, q2, q3, q4⟩ := hf.2 i d hd
  obtain ⟨p1, p2, p3⟩ := h (s + i) (by omega) (by omega)
  exact ⟨by rw [h8 i hi]; exact q1, p1.trans q2, p2.trans q3, p3.trans q4⟩
/-- what stays when values are made: arguments, edges, ends, and what was made before n -/
def vst (n b : Nat) (f g : Ob) : Prop := (∀ i, i ≠ 0 → i ≠ 1 → i ≠ 2 → i ≠ 7 → i ≠ 8 → g.1 i = f.1 i) ∧ (∀ c, c ≠ b → g.1 7 c = f.1 7 c) ∧ (∀ c i, c < 10 → c ≠ b → i < 140 → g.1 8 (c * 140 + i) = f.1 8 (c * 140 + i)) ∧ (∀ v, v < n → g.1 0 v = f.1 0 v ∧ g.1 1 v = f.1 1 v ∧ g.1 2 v = f.1 2 v) ∧ (∀ i, i ≠ 2 → g.2.1 i = f.2.1 i) ∧ g.2.2 = f.2.2
theorem vst.rf (n b : Nat) (f : Ob) : vst n b f f := ⟨fun _ _ _ _ _ _ => rfl, fun _ _ => rfl, fun _ _ _ _ _ => rfl, fun _ _ => ⟨rfl, rfl, rfl⟩, fun _ _ => rfl, rfl⟩
theorem vst.trans {n m b : Nat} {f g k : Ob} (h1 : vst n b f g) (h2 : vst m b g k) (hnm : n ≤ m) : vst n b f k := by
  obtain ⟨a1, a2, a3, a4, a5, a6⟩ := h1
  obtain ⟨b1, b2, b3, b4, b5, b6⟩ := h2
  refine ⟨fun i p q r s t => (b1 i p q r s t).trans (a1 i p q r s t), fun c hc => (b2 c hc).trans (a2 c hc), fun c i p q r => (b3 c i p q r).trans (a3 c i p q r), fun v hv => ?_, fun i hi => (b5 i hi).trans (a5 i hi), b6.trans a6⟩
  obtain ⟨p1, p2, p3⟩ := b4 v (by omega)
  obtain ⟨q1, q2, q3⟩ := a4 v hv
  exact ⟨p1.trans q1, p2.trans q2, p3.trans q3⟩
theorem addV {f : Ob} {b s k : Nat} {D : List (Nat × Int32)} {x : Int32} (hn : f.2.1 2 = nI (s + D.length)) (hn1 : s + D.length < 140) (hb : b < 10) (hD : VD f b s D) : VD (Form_addValue f (nI b) (nI k) x) b s (D ++ [(k, x)]) ∧ vst (s + D.length) b f (Form_addValue f (nI b) (nI k) x) ∧ (Form_addValue f (nI b) (nI k) x).2.1 2 = nI (s + (D ++ [(k, x)]).length) := by
  rw [addValue_eq hn hn1 hb hD.1 (by omega)]
  generalize hr : oG (rs (rs (rs (rs (rs (rs f 0 (s + D.length) (nI k)) 2 (s + D.length) x) 1 (s + D.length) (-1)) 1 (s + D.length) (nI b)) 8 (b * 140 + D.length) (nI (s + D.length))) 7 b (nI (D.length + 1))) 2 (nI (s + D.length + 1)) = r
  have r0 : ∀ v, r.1 0 v = if v = s + D.length then nI k else f.1 0 v := fun v => by rw [← hr, oG_1, rs_r _ _ _ _ (show 0 ≠ 7 by decide), rs_r _ _ _ _ (show 0 ≠ 8 by decide), rs_r _ _ _ _ (show 0 ≠ 1 by decide), rs_r _ _ _ _ (show 0 ≠ 1 by decide), rs_r _ _ _ _ (show 0 ≠ 2 by decide), rs_i]
  have r1 : ∀ v, r.1 1 v = if v = s + D.length then nI b else f.1 1 v := fun v => by
    rw [← hr, oG_1, rs_r _ _ _ _ (show 1 ≠ 7 by decide), rs_r _ _ _ _ (show 1 ≠ 8 by decide), rs_i, rs_i, rs_r _ _ _ _ (show 1 ≠ 2 by decide), rs_r _ _ _ _ (show 1 ≠ 0 by decide)]
    by_cases q : v = s + D.length
    · rw [if_pos q, if_pos q]
    · rw [if_neg q, if_neg q, if_neg q]
  have r2 : ∀ v, r.1 2 v = if v = s + D.length then x else f.1 2 v := fun v => by rw [← hr, oG_1, rs_r _ _ _ _ (show 2 ≠ 7 by decide), rs_r _ _ _ _ (show 2 ≠ 8 by decide), rs_r _ _ _ _ (show 2 ≠ 1 by decide), rs_r _ _ _ _ (show 2 ≠ 1 by decide), rs_i, rs_r _ _ _ _ (show 2 ≠ 0 by decide)]
  have r7 : ∀ c, r.1 7 c = if c = b then nI (D.length + 1) else f.1 7 c := fun c => by rw [← hr, oG_1, rs_i, rs_r _ _ _ _ (show 7 ≠ 8 by decide), rs_r _ _ _ _ (show 7 ≠ 1 by decide), rs_r _ _ _ _ (show 7 ≠ 1 by decide), rs_r _ _ _ _ (show 7 ≠ 2 by decide), rs_r _ _ _ _ (show 7 ≠ 0 by decide)]
  have r8 : ∀ i, r.1 8 i = if i = b * 140 + D.length then nI (s + D.length) else f.1 8 i := fun i => by rw [← hr, oG_1, rs_r _ _ _ _ (show 8 ≠ 7 by decide), rs_i, rs_r _ _ _ _ (show 8 ≠ 1 by decide), rs_r _ _ _ _ (show 8 ≠ 1 by decide), rs_r _ _ _ _ (show 8 ≠ 2 by decide), rs_r _ _ _ _ (show 8 ≠ 0 by decide)]
  have ro : ∀ i, i ≠ 0 → i ≠ 1 → i ≠ 2 → i ≠ 7 → i ≠ 8 → r.1 i = f.1 i := fun i a b' c d e => by rw [← hr, oG_1, rs_r _ _ _ _ d, rs_r _ _ _ _ e, rs_r _ _ _ _ b', rs_r _ _ _ _ b', rs_r _ _ _ _ c, rs_r _ _ _ _ a]
  have ri : ∀ i, r.2.1 i = if i = 2 then nI (s + D.length + 1) else f.2.1 i := fun i => by rw [← hr, oG_i]; rfl
  have rb : r.2.2 = f.2.2 := by rw [← hr]; rfl
  refine ⟨⟨by rw [r7, if_pos rfl, List.length_append]; rfl, fun i d hd => ?_⟩, ⟨ro, fun c hc => by rw [r7, if_neg hc], fun c i hc hcb hi => by rw [r8, if_neg (by omega)], fun v hv => by rw [r0, r1, r2, if_neg (by omega), if_neg (by omega), if_neg (by omega)]; exact ⟨rfl, rfl, rfl⟩, fun i hi => by rw [ri, if_neg hi], rb⟩, by rw [ri, if_pos rfl, List.length_append]; rfl⟩
  by_cases q : i < D.length
  · rw [List.getElem?_append_left q] at hd
    obtain ⟨q1, q2, q3, q4⟩ := hD.2 i d hd
    rw [r8, r0, r1, r2, if_neg (by omega), if_neg (by omega), if_neg (by omega), if_neg (by omega)]
    exact ⟨q1, q2, q3, q4⟩
  · have hi := (List.getElem?_eq_some_iff.mp hd).1
    rw [List.length_append] at hi
    have hil : i = D.length := by
      have : [(k, x)].length = 1 := rfl
      omega
    rw [hil, List.getElem?_append_right (Nat.le_refl _), Nat.sub_self] at hd
    have hd' : d = (k, x) := (Option.some.inj hd).symm
    rw [hil, hd', r8, r0, r1, r2, if_pos rfl, if_pos rfl, if_pos rfl, if_pos rfl]
    exact ⟨rfl, rfl, rfl, rfl⟩
