/-! ALL BLOCKS are gone through, in rows -/
section BLOCKS
variable {to fl mk0 ma mk : Ob} {nb nv gv : Nat} {F : Nat → List Ag} {idm : Nat → Nat}
def argE (to fl mk0 : Ob) (idm : Nat → Nat) (H : Nat → Nat → Ag) (b : Nat) : List Ag := if tEk to b = 1 then [] else [mkA (hLf to fl mk0 idm H b (nl to b)) (to.1 6 b)]
theorem follow_spec {b : Nat} (hb : b < 10) (hl : to.1 0 b = nI (nl to b)) (hl8 : nl to b ≤ 8) (hok : ∀ k, k < nl to b → lineOk to b k) (he : to.1 5 b = nI (tEk to b)) (he2 : tEk to b ≤ 2) (hop : opOk (to.1 6 b)) (hmk : mk.1 2 = mk0.1 2) (h6 : ∀ i, 6 ≤ i → i < 32 → bt (mk0.1 2 b) i = false) (hVD : VD ma b (bsM to fl mk0 b) (dsc to mk0 b)) (hbs : bsM to fl mk0 b + (dsc to mk0 b).length ≤ nv) (hnv : nv ≤ 140) (hg : gv + 17 ≤ 290) (hA : AS nv ma gv F) (hH : hdOk nv mk b) (hF : ∀ j, j < nl to b → lk to b j ≠ 0 → F (lnN to fl mk0 b j) = []) (hFe : F (140 + b) = []) (h0 : ∀ x, x < 6 → hdA mk b x = hLf to fl mk0 idm (hdA mk) b 0 x) :
    (fun r : Ob × Ob => ∃ F' gv', ast ma r.1 ∧ AS nv r.1 gv' F' ∧ gv' ≤ gv + 17 ∧ outB b mk r.2 ∧ hdOk nv r.2 b ∧ (∀ x, x < 6 → hdA r.2 b x = hLf to fl mk0 idm (hdA mk) b (nl to b) x) ∧ (∀ j, j < nl to b → lk to b j ≠ 0 → F' (lnN to fl mk0 b j) = argsL to fl mk0 idm (hdA mk) b j) ∧ F' (140 + b) = argE to fl mk0 idm (hdA mk) b ∧ ∀ u, u ≠ 140 + b → (∀ j, j < nl to b → lk to b j ≠ 0 → u ≠ lnN to fl mk0 b j) → F' u = F u) (Maker_followLines to ma mk (nI b)) := by
  have hdl : (dsc to mk0 b).length = (pX mk0 b).length + (lX to b).length := by unfold dsc; rw [List.length_append, List.length_map, List.length_map]
  have hbit : J_bitCount (oat mk 2 10 (nI b)) = nI ((pX mk0 b).length + ((List.range 0).filter fun k => !decide (lk to b k = 0)).length) := by
    rw [oat_rs hb (by decide), hmk, cnt6 h6]
    rfl
  have hlnv : ∀ j, j < nl to b → lk to b j ≠ 0 → lnN to fl mk0 b j < 140 := fun j hj hj0 => by
    have hle : ((List.range (j + 1)).filter fun k => !decide (lk to b k = 0)).length ≤ (lX to b).length := filter_range_le (by omega)
    rw [filter_range_s, if_pos (by simp [hj0]), List.length_append] at hle
    have : ([j] : List Nat).length = 1 := rfl
    unfold lnN
    omega
  unfold Maker_followLines Maker_followLines_L16
  rw [hbit]
  refine loop_cnt (B := fun a : Int32 × Int32 × Ob × Ob => Maker_followLines_L16b to a.2.2.1 a.2.2.2 (nI b) a.1 a.2.1) (mk := fun i (s : Ob × Ob) => (nI ((pX mk0 b).length + ((List.range i).filter fun k => !decide (lk to b k = 0)).length), nI i, s.1, s.2)) (n := nl to b)
    (I := fun k s => foI to fl mk0 idm nv ma mk gv F b k s.1 s.2)
    (P := fun r : Ob × Ob => ∃ F' gv', ast ma r.1 ∧ AS nv r.1 gv' F' ∧ gv' ≤ gv + 17 ∧ outB b mk r.2 ∧ hdOk nv r.2 b ∧ (∀ x, x < 6 → hdA r.2 b x = hLf to fl mk0 idm (hdA mk) b (nl to b) x) ∧ (∀ j, j < nl to b → lk to b j ≠ 0 → F' (lnN to fl mk0 b j) = argsL to fl mk0 idm (hdA mk) b j) ∧ F' (140 + b) = argE to fl mk0 idm (hdA mk) b ∧ ∀ u, u ≠ 140 + b → (∀ j, j < nl to b → lk to b j ≠ 0 → u ≠ lnN to fl mk0 b j) → F' u = F u)
    (fun k s hk hI => ?_) (fun s hI => ?_) (nl to b) 0 (ma, mk) (by omega) ⟨F, gv, ast.rf ma, hA, by omega, outB.rf b mk, hH, h0, fun j hj => by omega, fun _ _ => rfl⟩
  · obtain ⟨m1, m2, e1, e2⟩ := follow_step hb hl hl8 (hok k hk) hk hVD hbs hnv hg hF hI
    exact ⟨(m1, m2), e1, e2⟩
  · obtain ⟨F', gv', g1, g2, g3, g4, g5, g6, g7, g8⟩ := hI
    obtain ⟨s1, s2⟩ := s
    dsimp only at g1 g2 g3 g4 g5 g6 g7 g8 ⊢
    have hend : Maker_followLines_L16b to s1 s2 (nI b) (nI ((pX mk0 b).length + ((List.range (nl to b)).filter fun k => !decide (lk to b k = 0)).length)) (nI (nl to b)) = .inr (if to.1 5 b = 1 then (s1, s2) else (Form_addArgument s1 (nI (140 + b)) (Maker_valueFor s2 (nI b) (to.1 6 b)) (Maker_numberFor s2 (nI b) (to.1 6 b)), s2)) := by
      unfold Maker_followLines_L16b Maker_give
      rw [oat_rs hb (by decide), hl, if_neg (show ¬ nI (nl to b) < nI (nl to b) from nI_nlt (Nat.le_refl _) (by omega)), oat_rs hb (by decide), oat_rs hb (by decide), ix140u]
    have hFe' : F' (140 + b) = [] := by
      rw [g8 (140 + b) fun j hj hj0 e => by have := hlnv j hj hj0; omega]
      exact hFe
    by_cases q : tEk to b = 1
    · have q' : to.1 5 b = 1 := by rw [he, q]; rfl
      rw [if_pos q'] at hend
      refine ⟨(s1, s2), hend, F', gv', g1, g2, by omega, g4, g5, g6, g7, ?_, fun u _ hu => g8 u hu⟩
      rw [hFe']
      unfold argE
      rw [if_pos q]
    · have q' : ¬ to.1 5 b = 1 := fun z => by
        rw [he] at z
        exact q (nI_inj (a := tEk to b) (b := 1) (by omega) (by omega) z)
      rw [if_neg q'] at hend
      have en := op_enc (nv := nv) hb g5 hop
      rw [mkA_congr hop g6] at en
      obtain ⟨a1, a2, a3⟩ := giveA g2 (show 140 + b < 150 by omega) (Or.inl hFe') (by omega) en
      rw [hFe', List.nil_append] at a1
      refine ⟨_, hend, _, _, g1.trans a3, a1, by omega, g4, g5, g6, fun j hj hj0 => ?_, ?_, fun u hu huj => ?_⟩
      · have := hlnv j hj hj0
        show updF F' (140 + b) _ _ = _
        unfold updF
        rw [if_neg (by omega)]
        exact g7 j hj hj0
      · show updF F' (140 + b) _ (140 + b) = _
        unfold updF argE
        rw [if_pos rfl, if_neg q]
      · show updF F' (140 + b) _ u = _
        unfold updF
        rw [if_neg hu]
        exact g8 u huj
theorem hLf_congr {H H' : Nat → Nat → Ag} {b : Nat} (hb : b = 0 ∨ ∀ x, x < 6 → H (idm b) x = H' (idm b) x) (hok : ∀ k, k < nl to b → opOk (to.1 3 (b * 8 + k))) : ∀ k, k ≤ nl to b → ∀ x, x < 6 → hLf to fl mk0 idm H b k x = hLf to fl mk0 idm H' b k x := by
  intro k
  induction k with
  | zero =>
    intro _ x hx
    show (if bt (mk0.1 2 b) x = true then _ else if b = 0 then _ else H (idm b) x) = if bt (mk0.1 2 b) x = true then _ else if b = 0 then _ else H' (idm b) x
    rcases hb with q | q
    · rw [if_pos q, if_pos q]
    · rw [q x hx]
  | succ k ih =>
    intro hk x hx
    show (if lk to b k = 0 then (if x = ld to b k then mkA (hLf to fl mk0 idm H b k) (to.1 3 (b * 8 + k)) else hLf to fl mk0 idm H b k x) else if lk to b k ≤ 6 ∧ x = ld to b k then .inl (lnN to fl mk0 b k) else hLf to fl mk0 idm H b k x) = (if lk to b k = 0 then (if x = ld to b k then mkA (hLf to fl mk0 idm H' b k) (to.1 3 (b * 8 + k)) else hLf to fl mk0 idm H' b k x) else if lk to b k ≤ 6 ∧ x = ld to b k then .inl (lnN to fl mk0 b k) else hLf to fl mk0 idm H' b k x)
    rw [ih (by omega) x hx, mkA_congr (hok k (by omega)) (ih (by omega))]
/-- which blocks were gone through -/
def dnB (fl : Ob) (p b : Nat) : Prop := ∃ j, j < p ∧ fl.1 3 j = nI b
def mkI (to fl mk0 : Ob) (idm : Nat → Nat) (nv : Nat) (g0 : Ob) (p : Nat) (ma mk : Ob) : Prop := ∃ F gv, ast g0 ma ∧ AS nv ma gv F ∧ gv ≤ 17 * p ∧ mk.1 2 = mk0.1 2 ∧ mk.2 = mk0.2 ∧ (∀ b, b < 10 → dnB fl p b → hdOk nv mk b ∧ (∀ x, x < 6 → hdA mk b x = hLf to fl mk0 idm (hdA mk) b (nl to b) x) ∧ (∀ j, j < nl to b → lk to b j ≠ 0 → F (lnN to fl mk0 b j) = argsL to fl mk0 idm (hdA mk) b j) ∧ F (140 + b) = argE to fl mk0 idm (hdA mk) b) ∧ ∀ u, u < 150 → (∀ b, b < 10 → dnB fl p b → u ≠ 140 + b ∧ ∀ j, j < nl to b → lk to b j ≠ 0 → u ≠ lnN to fl mk0 b j) → F u = []
theorem argsL_congr {H H' : Nat → Nat → Ag} {b : Nat} (hb : b = 0 ∨ ∀ x, x < 6 → H (idm b) x = H' (idm b) x) (hok : ∀ k, k < nl to b → opOk (to.1 3 (b * 8 + k)) ∧ opOk (to.1 4 (b * 8 + k))) (hope : opOk (to.1 6 b)) : (∀ j, j < nl to b → argsL to fl mk0 idm H b j = argsL to fl mk0 idm H' b j) ∧ argE to fl mk0 idm H b = argE to fl mk0 idm H' b := by
  have hc := hLf_congr (to := to) (fl := fl) (mk0 := mk0) (idm := idm) hb fun k hk => (hok k hk).1
  refine ⟨fun j hj => ?_, ?_⟩
  · unfold argsL
    rw [mkA_congr (hok j hj).1 (hc j (by omega)), mkA_congr (hok j hj).2 (hc j (by omega))]
  · unfold argE
    rw [mkA_congr hope (hc _ (Nat.le_refl _))]
/-- values of blocks that are not the same are not the same -/
theorem ln_range {b : Nat} {j : Nat} (hj : j < nl to b) (hj0 : lk to b j ≠ 0) : bsM to fl mk0 b ≤ lnN to fl mk0 b j ∧ lnN to fl mk0 b j < bsM to fl mk0 b + (dsc to mk0 b).length := by
  have hdl : (dsc to mk0 b).length = (pX mk0 b).length + (lX to b).length := by unfold dsc; rw [List.length_append, List.length_map, List.length_map]
  have hle : ((List.range (j + 1)).filter fun k => !decide (lk to b k = 0)).length ≤ (lX to b).length := filter_range_le (by omega)
  rw [filter_range_s, if_pos (by simp [hj0]), List.length_append] at hle
  have : ([j] : List Nat).length = 1 := rfl
  unfold lnN
  omega
theorem range_ne {b c v : Nat} (hbc : b ≠ c) (hb : bt (fl.2.1 0) b = true) (hc : bt (fl.2.1 0) c = true) (h1 : bsM to fl mk0 b ≤ v ∧ v < bsM to fl mk0 b + (dsc to mk0 b).length) (h2 : bsM to fl mk0 c ≤ v ∧ v < bsM to fl mk0 c + (dsc to mk0 c).length) : False := by
  have eb : bsM to fl mk0 (b + 1) = bsM to fl mk0 b + (dsc to mk0 b).length := by
    show bsM to fl mk0 b + _ = _
    rw [if_pos hb]
  have ec : bsM to fl mk0 (c + 1) = bsM to fl mk0 c + (dsc to mk0 c).length := by
    show bsM to fl mk0 c + _ = _
    rw [if_pos hc]
  rcases Nat.lt_or_ge b c with q | q
  · have := bsM_mono (to := to) (fl := fl) (mk := mk0) (a := b + 1) (b := c) q
    omega
  · have := bsM_mono (to := to) (fl := fl) (mk := mk0) (a := c + 1) (b := b) (by omega)
    omega
end BLOCKS
