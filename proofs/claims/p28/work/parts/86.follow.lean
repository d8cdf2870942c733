/-! LINES ARE FOLLOWED, in rows -/
section FOLLOW
variable {to fl mk0 ma mk : Ob} {nv gv : Nat} {F : Nat → List Ag}
theorem mkA_congr {h h' : Nat → Ag} {o : Int32} (ho : opOk o) (he : ∀ x, x < 6 → h x = h' x) : mkA h o = mkA h' o := by
  unfold mkA
  by_cases q : o < 100
  · rw [if_pos q, if_pos q]
  · rw [if_neg q, if_neg q]
    obtain ⟨j, hj, ej⟩ := ho q
    rw [ej, tn_nI (by omega)]
    exact he j hj
def argsL (to fl mk0 : Ob) (idm : Nat → Nat) (H : Nat → Nat → Ag) (b k : Nat) : List Ag := if lk to b k ≤ 5 ∨ lk to b k = 7 then [mkA (hLf to fl mk0 idm H b k) (to.1 3 (b * 8 + k)), mkA (hLf to fl mk0 idm H b k) (to.1 4 (b * 8 + k))] else [mkA (hLf to fl mk0 idm H b k) (to.1 3 (b * 8 + k))]
theorem lnN_lt {b j k : Nat} (hjk : j < k) (hj : lk to b j ≠ 0) : lnN to fl mk0 b j < lnN to fl mk0 b k := by
  unfold lnN
  have h1 := filter_range_le (p := fun k => !decide (lk to b k = 0)) (m := j + 1) (n := k) hjk
  rw [filter_range_s, if_pos (by simp [hj]), List.length_append] at h1
  have : ([j] : List Nat).length = 1 := rfl
  omega
theorem lnN_inj {b j k : Nat} (hj : lk to b j ≠ 0) (hk : lk to b k ≠ 0) (h : lnN to fl mk0 b j = lnN to fl mk0 b k) : j = k := by
  rcases Nat.lt_trichotomy j k with q | q | q
  · have := lnN_lt (to := to) (fl := fl) (mk0 := mk0) q hj; omega
  · exact q
  · have := lnN_lt (to := to) (fl := fl) (mk0 := mk0) q hk; omega
def foI (to fl mk0 : Ob) (idm : Nat → Nat) (nv : Nat) (ma mk : Ob) (gv : Nat) (F : Nat → List Ag) (b k : Nat) (ma' mk' : Ob) : Prop := ∃ F' gv', ast ma ma' ∧ AS nv ma' gv' F' ∧ gv' ≤ gv + 2 * k ∧ outB b mk mk' ∧ hdOk nv mk' b ∧ (∀ x, x < 6 → hdA mk' b x = hLf to fl mk0 idm (hdA mk) b k x) ∧ (∀ j, j < k → lk to b j ≠ 0 → F' (lnN to fl mk0 b j) = argsL to fl mk0 idm (hdA mk) b j) ∧ ∀ u, (∀ j, j < k → lk to b j ≠ 0 → u ≠ lnN to fl mk0 b j) → F' u = F u
theorem follow_step {idm : Nat → Nat} {b k : Nat} {ma' mk' : Ob} (hb : b < 10) (hl : to.1 0 b = nI (nl to b)) (hl8 : nl to b ≤ 8) (hok : lineOk to b k) (hk : k < nl to b) (hVD : VD ma b (bsM to fl mk0 b) (dsc to mk0 b)) (hbs : bsM to fl mk0 b + (dsc to mk0 b).length ≤ nv) (hnv : nv ≤ 140) (hg : gv + 17 ≤ 290) (hF : ∀ j, j < nl to b → lk to b j ≠ 0 → F (lnN to fl mk0 b j) = []) (h : foI to fl mk0 idm nv ma mk gv F b k ma' mk') :
    ∃ ma'' mk'', Maker_followLines_L16b to ma' mk' (nI b) (nI ((pX mk0 b).length + ((List.range k).filter fun k => !decide (lk to b k = 0)).length)) (nI k) = .inl (nI ((pX mk0 b).length + ((List.range (k + 1)).filter fun k => !decide (lk to b k = 0)).length), nI (k + 1), ma'', mk'') ∧ foI to fl mk0 idm nv ma mk gv F b (k + 1) ma'' mk'' := by
  obtain ⟨F', gv', h1, h2, h3, h4, h5, h6, h7, h8⟩ := h
  obtain ⟨kk, hkk, ekk, hd, o1, o2⟩ := hok
  have hlk : lk to b k = kk := by unfold lk; rw [ekk, tn_nI (by omega)]
  have hdl : (dsc to mk0 b).length = (pX mk0 b).length + (lX to b).length := by unfold dsc; rw [List.length_append, List.length_map, List.length_map]
  have hpl : (pX mk0 b).length ≤ 6 := by
    unfold pX
    refine Nat.le_trans (List.length_filter_le _ _) ?_
    rw [List.length_range]
    exact Nat.le_refl _
  have hll : (lX to b).length ≤ 8 := by
    unfold lX
    refine Nat.le_trans (List.length_filter_le _ _) ?_
    rw [List.length_range]
    exact hl8
  have en1 := op_enc (nv := nv) hb h5 o1
  have en2 := op_enc (nv := nv) hb h5 o2
  rw [mkA_congr o1 h6] at en1
  rw [mkA_congr o2 h6] at en2
  generalize hat : (pX mk0 b).length + ((List.range k).filter fun k => !decide (lk to b k = 0)).length = at0
  have hb8 : b * 8 + k < 80 := by omega
  have hne0 : ∀ n : Nat, n ≤ 10 → ((nI kk = nI n) ↔ kk = n) := fun n hn => ⟨fun q => nI_inj (by omega) (by omega) q, fun q => by rw [q]⟩
  by_cases h0 : kk = 0
  · -- PUT
    obtain ⟨d, hd6, ed⟩ := hd (by omega)
    have hld : ld to b k = d := by unfold ld; rw [ed, tn_nI (by omega)]
    obtain ⟨z1, z2, z3⟩ := hold1 (mk := mk') hb hd6 en1
    refine ⟨ma', Maker_hold mk' (nI b) (nI d) (Maker_valueFor mk' (nI b) (to.1 3 (b * 8 + k))) (Maker_numberFor mk' (nI b) (to.1 3 (b * 8 + k))), ?_, F', gv', h1, h2, by omega, h4.trans z1, fun x hx => z3 x hx (Or.inr (h5 x hx)), fun x hx => ?_, fun j hj hj0 => h7 j ?_ hj0, fun u hu => h8 u fun j hj hj0 => hu j (by omega) hj0⟩
    · unfold Maker_followLines_L16b Maker_followLines_122 Maker_followLines_183
      rw [oat_rs hb (by decide), hl, if_pos (show nI k < nI (nl to b) from nI_lt hk (by omega)), ix8, oat_rs hb8 (by decide), oat_rs hb8 (by decide), oat_rs hb8 (by decide), ekk, ed]
      have e0 : nI kk = 0 := by rw [h0]; rfl
      rw [if_pos e0, if_pos e0, nI_1, filter_range_s, if_neg (by simp [hlk, h0]), List.append_nil, hat]
    · rw [z2 x hx]
      show _ = if lk to b k = 0 then (if x = ld to b k then _ else _) else _
      rw [if_pos (show lk to b k = 0 by omega), hld]
      by_cases q : x = d
      · rw [if_pos q, if_pos q]
      · rw [if_neg q, if_neg q]; exact h6 x hx
    · have : j ≠ k := fun q => hj0 (by rw [q, hlk, h0])
      omega
  · have hn0 : ¬ nI kk = 0 := fun q => h0 ((hne0 0 (by decide)).mp q)
    have hlk0 : lk to b k ≠ 0 := by omega
    -- its value
    have hle : ((List.range (k + 1)).filter fun k => !decide (lk to b k = 0)).length ≤ (lX to b).length := filter_range_le (by omega)
    rw [filter_range_s, if_pos (by simp [hlk0]), List.length_append] at hle
    have h11 : ([k] : List Nat).length = 1 := rfl
    have hatl : at0 < (dsc to mk0 b).length := by omega
    obtain ⟨dd, hdd⟩ : ∃ d, (dsc to mk0 b)[at0]? = some d := ⟨_, List.getElem?_eq_getElem hatl⟩
    have h8v : ma'.1 8 (b * 140 + at0) = nI (lnN to fl mk0 b k) := by
      rw [h1.1 8 (by decide) (by decide) (by decide) (by decide), (hVD.2 at0 dd hdd).1]
      unfold lnN
      rw [← hat, Nat.add_assoc]
    have hln : lnN to fl mk0 b k < nv := by
      have : lnN to fl mk0 b k = bsM to fl mk0 b + at0 := by unfold lnN; omega
      omega
    have hFk : F' (lnN to fl mk0 b k) = [] := by
      rw [h8 _ fun j hj hj0 e => by have := lnN_lt (to := to) (fl := fl) (mk0 := mk0) hj hj0; omega]
      exact hF k hk hlk0
    have hlast : lastU ma' gv' F' (lnN to fl mk0 b k) := Or.inl hFk
    obtain ⟨a1, a2, a3⟩ := giveA h2 (show lnN to fl mk0 b k < 150 by omega) hlast (by omega) en1
    rw [hFk, List.nil_append] at a1 a2
    have hcnt : nI at0 + 1 = nI ((pX mk0 b).length + ((List.range (k + 1)).filter fun k => !decide (lk to b k = 0)).length) := by
      rw [nI_1, filter_range_s, if_pos (by simp [hlk0]), List.length_append, h11, ← hat, Nat.add_assoc]
    -- how the value is held
    have held : ∀ (g : Ob) (F'' : Nat → List Ag) (gv'' : Nat), ast ma g → AS nv g gv'' F'' → gv'' ≤ gv + 2 * (k + 1) → F'' (lnN to fl mk0 b k) = argsL to fl mk0 idm (hdA mk) b k → (∀ u, u ≠ lnN to fl mk0 b k → F'' u = F' u) →
        foI to fl mk0 idm nv ma mk gv F b (k + 1) g (if kk ≤ 6 then Maker_hold mk' (nI b) (to.1 2 (b * 8 + k)) (nI (lnN to fl mk0 b k)) 0 else mk') := fun g F'' gv'' g1 g2 g3 g4 g5 => by
      have hrest : (∀ j, j < k + 1 → lk to b j ≠ 0 → F'' (lnN to fl mk0 b j) = argsL to fl mk0 idm (hdA mk) b j) ∧ ∀ u, (∀ j, j < k + 1 → lk to b j ≠ 0 → u ≠ lnN to fl mk0 b j) → F'' u = F u := by
        refine ⟨fun j hj hj0 => ?_, fun u hu => ?_⟩
        · by_cases q : j = k
          · rw [q]; exact g4
          · have := lnN_lt (to := to) (fl := fl) (mk0 := mk0) (show j < k by omega) hj0
            rw [g5 _ (by omega)]
            exact h7 j (by omega) hj0
        · rw [g5 u (hu k (by omega) hlk0)]
          exact h8 u fun j hj hj0 => hu j (by omega) hj0
      by_cases q6 : kk ≤ 6
      · obtain ⟨d, hd6, ed⟩ := hd q6
        have hld : ld to b k = d := by unfold ld; rw [ed, tn_nI (by omega)]
        have henc : agE nv (nI (lnN to fl mk0 b k)) 0 (.inl (lnN to fl mk0 b k)) := by
          refine ⟨?_, Or.inr ⟨_, hln, rfl⟩⟩
          unfold agOf
          rw [if_neg (nI_m1 (by omega)), tn_nI (by omega)]
        rw [if_pos q6, ed]
        obtain ⟨z1, z2, z3⟩ := hold1 (mk := mk') hb hd6 henc
        refine ⟨F'', gv'', g1, g2, g3, h4.trans z1, fun x hx => z3 x hx (Or.inr (h5 x hx)), fun x hx => ?_, hrest⟩
        rw [z2 x hx]
        show _ = if lk to b k = 0 then _ else if lk to b k ≤ 6 ∧ x = ld to b k then _ else _
        rw [if_neg hlk0, hld]
        by_cases q : x = d
        · rw [if_pos q, if_pos ⟨by omega, q⟩]
        · rw [if_neg q, if_neg fun z => q z.2]; exact h6 x hx
      · rw [if_neg q6]
        refine ⟨F'', gv'', g1, g2, g3, h4, h5, fun x hx => ?_, hrest⟩
        show _ = if lk to b k = 0 then _ else if lk to b k ≤ 6 ∧ x = ld to b k then _ else _
        rw [if_neg hlk0, if_neg fun z => q6 (by omega)]
        exact h6 x hx
    have sets : ∀ g : Ob, Maker_followLines_122 to g mk' (nI b) (nI at0 + 1) (nI k) (nI (b * 8 + k)) (nI kk) (to.1 3 (b * 8 + k)) (nI (lnN to fl mk0 b k)) = .inl (nI ((pX mk0 b).length + ((List.range (k + 1)).filter fun k => !decide (lk to b k = 0)).length), nI (k + 1), g, if kk ≤ 6 then Maker_hold mk' (nI b) (to.1 2 (b * 8 + k)) (nI (lnN to fl mk0 b k)) 0 else mk') := fun g => by
      unfold Maker_followLines_122 Maker_followLines_183
      rw [if_neg hn0, sets_nI (by omega), oat_rs hb8 (by decide), hcnt, nI_1]
      by_cases q6 : kk ≤ 6
      · rw [if_pos (decide_eq_true q6), if_pos q6]
      · rw [if_neg (by simp [q6]), if_neg q6]
    by_cases h57 : kk ≤ 5 ∨ kk = 7
    · -- two arguments
      have hlast2 : lastU (Form_addArgument ma' (nI (lnN to fl mk0 b k)) (Maker_valueFor mk' (nI b) (to.1 3 (b * 8 + k))) (Maker_numberFor mk' (nI b) (to.1 3 (b * 8 + k)))) (gv' + 1) (updF F' (lnN to fl mk0 b k) [mkA (hLf to fl mk0 idm (hdA mk) b k) (to.1 3 (b * 8 + k))]) (lnN to fl mk0 b k) := a2
      obtain ⟨b1, b2, b3⟩ := giveA a1 (show lnN to fl mk0 b k < 150 by omega) hlast2 (by omega) en2
      have hup : updF F' (lnN to fl mk0 b k) [mkA (hLf to fl mk0 idm (hdA mk) b k) (to.1 3 (b * 8 + k))] (lnN to fl mk0 b k) = [mkA (hLf to fl mk0 idm (hdA mk) b k) (to.1 3 (b * 8 + k))] := if_pos rfl
      rw [hup, updF_F] at b1
      refine ⟨_, _, ?_, held (Form_addArgument (Form_addArgument ma' (nI (lnN to fl mk0 b k)) (Maker_valueFor mk' (nI b) (to.1 3 (b * 8 + k))) (Maker_numberFor mk' (nI b) (to.1 3 (b * 8 + k)))) (nI (lnN to fl mk0 b k)) (Maker_valueFor mk' (nI b) (to.1 4 (b * 8 + k))) (Maker_numberFor mk' (nI b) (to.1 4 (b * 8 + k)))) _ _ ((h1.trans a3).trans b3) b1 (by omega) ?_ fun u hu => if_neg hu⟩
      · have e105 : ∀ g : Ob, Maker_followLines_105 to g mk' (nI b) (nI at0 + 1) (nI k) (nI (b * 8 + k)) (nI kk) (to.1 3 (b * 8 + k)) (nI (lnN to fl mk0 b k)) = Maker_followLines_122 to (Form_addArgument g (nI (lnN to fl mk0 b k)) (Maker_valueFor mk' (nI b) (to.1 4 (b * 8 + k))) (Maker_numberFor mk' (nI b) (to.1 4 (b * 8 + k)))) mk' (nI b) (nI at0 + 1) (nI k) (nI (b * 8 + k)) (nI kk) (to.1 3 (b * 8 + k)) (nI (lnN to fl mk0 b k)) := fun g => by
          unfold Maker_followLines_105 Maker_give
          rw [oat_rs hb8 (by decide)]
        unfold Maker_followLines_L16b
        rw [oat_rs hb (by decide), hl, if_pos (show nI k < nI (nl to b) from nI_lt hk (by omega)), ix8, oat_rs hb8 (by decide), oat_rs hb8 (by decide), ekk, if_neg hn0, valueIn_eq (by omega), h8v]
        unfold Maker_give
        by_cases h5' : kk ≤ 5
        · rw [if_pos ((isReck_iff (by omega)).mpr ⟨by omega, h5'⟩), e105, sets]
        · rw [if_neg fun q => by have := (isReck_iff (by omega)).mp q; omega, if_pos (show nI kk = 7 from (hne0 7 (by decide)).mpr (by omega)), e105, sets]
      · show updF F' (lnN to fl mk0 b k) _ (lnN to fl mk0 b k) = _
        unfold updF argsL
        rw [if_pos rfl, if_pos (by omega)]
        rfl
    · refine ⟨_, _, ?_, held (Form_addArgument ma' (nI (lnN to fl mk0 b k)) (Maker_valueFor mk' (nI b) (to.1 3 (b * 8 + k))) (Maker_numberFor mk' (nI b) (to.1 3 (b * 8 + k)))) _ _ (h1.trans a3) a1 (by omega) ?_ fun u hu => if_neg hu⟩
      · unfold Maker_followLines_L16b
        rw [oat_rs hb (by decide), hl, if_pos (show nI k < nI (nl to b) from nI_lt hk (by omega)), ix8, oat_rs hb8 (by decide), oat_rs hb8 (by decide), ekk, if_neg hn0, valueIn_eq (by omega), h8v, if_neg fun q => by have := (isReck_iff (by omega)).mp q; omega, if_neg (show ¬ nI kk = 7 from fun q => by have := (hne0 7 (by decide)).mp q; omega)]
        unfold Maker_give
        rw [sets]
      · show updF F' (lnN to fl mk0 b k) _ (lnN to fl mk0 b k) = _
        unfold updF argsL
        rw [if_pos rfl, if_neg (by omega)]
end FOLLOW
