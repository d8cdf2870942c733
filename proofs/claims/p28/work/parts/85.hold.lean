/-! WHAT IS HELD at a block's beginning, in rows -/
def i6 (b0 b1 b2 b3 b4 b5 : Bool) : Int32 := nI (b0.toNat + 2 * b1.toNat + 4 * b2.toNat + 8 * b3.toNat + 16 * b4.toNat + 32 * b5.toNat)
theorem i6_bt : ∀ b0 b1 b2 b3 b4 b5 : Bool, ∀ i : Nat, i < 32 → bt (i6 b0 b1 b2 b3 b4 b5) i = (if i = 0 then b0 else if i = 1 then b1 else if i = 2 then b2 else if i = 3 then b3 else if i = 4 then b4 else if i = 5 then b5 else false) := by decide +kernel
theorem i6_cnt : ∀ b0 b1 b2 b3 b4 b5 : Bool, J_bitCount (i6 b0 b1 b2 b3 b4 b5) = nI ((List.range 6).filter fun x => bt (i6 b0 b1 b2 b3 b4 b5) x).length := by
  unfold J_bitCount
  decide +kernel
theorem bits6 {x : Int32} (h : ∀ i, 6 ≤ i → i < 32 → bt x i = false) : x = i6 (bt x 0) (bt x 1) (bt x 2) (bt x 3) (bt x 4) (bt x 5) := by
  refine b_ext fun i hi => ?_
  rw [i6_bt _ _ _ _ _ _ i hi]
  by_cases h0 : i = 0
  · rw [if_pos h0, h0]
  · rw [if_neg h0]
    by_cases h1 : i = 1
    · rw [if_pos h1, h1]
    · rw [if_neg h1]
      by_cases h2 : i = 2
      · rw [if_pos h2, h2]
      · rw [if_neg h2]
        by_cases h3 : i = 3
        · rw [if_pos h3, h3]
        · rw [if_neg h3]
          by_cases h4 : i = 4
          · rw [if_pos h4, h4]
          · rw [if_neg h4]
            by_cases h5 : i = 5
            · rw [if_pos h5, h5]
            · rw [if_neg h5]
              exact h i (by omega) hi
theorem cnt6 {x : Int32} (h : ∀ i, 6 ≤ i → i < 32 → bt x i = false) : J_bitCount x = nI ((List.range 6).filter fun i => bt x i).length := by
  rw [bits6 h]
  exact i6_cnt _ _ _ _ _ _
theorem idx_filter {p : Nat → Bool} : ∀ (n k x : Nat), ((List.range n).filter p)[k]? = some x → ((List.range x).filter p).length = k ∧ x < n ∧ p x = true := by
  intro n
  induction n with
  | zero => intro k x h; cases h
  | succ n ih =>
    intro k x h
    rw [filter_range_s] at h
    by_cases q : k < ((List.range n).filter p).length
    · rw [List.getElem?_append_left q] at h
      obtain ⟨h1, h2, h3⟩ := ih k x h
      exact ⟨h1, by omega, h3⟩
    · have hk := (List.getElem?_eq_some_iff.mp h).1
      rw [List.length_append] at hk
      by_cases hp : p n = true
      · rw [if_pos hp] at h hk
        have : ([n] : List Nat).length = 1 := rfl
        have e : k = ((List.range n).filter p).length := by omega
        rw [e, List.getElem?_append_right (Nat.le_refl _), Nat.sub_self] at h
        have hx : n = x := Option.some.inj h
        rw [← hx, e]
        exact ⟨rfl, by omega, hp⟩
      · rw [if_neg hp] at hk
        have : ([] : List Nat).length = 0 := rfl
        omega
theorem get_filter {p : Nat → Bool} {n x : Nat} (hx : x < n) (hp : p x = true) : ((List.range n).filter p)[((List.range x).filter p).length]? = some x := by
  obtain ⟨k, hk⟩ := List.getElem?_of_mem (List.mem_filter.mpr ⟨List.mem_range.mpr hx, hp⟩ : x ∈ (List.range n).filter p)
  rw [(idx_filter n k x hk).1]
  exact hk
def phN (to fl mk : Ob) (b x : Nat) : Nat := bsM to fl mk b + ((List.range x).filter fun x => bt (mk.1 2 b) x).length
def lnN (to fl mk : Ob) (b k : Nat) : Nat := bsM to fl mk b + (pX mk b).length + ((List.range k).filter fun k => !decide (lk to b k = 0)).length
def hLf (to fl mk : Ob) (idm : Nat → Nat) (H : Nat → Nat → Ag) (b : Nat) : Nat → Nat → Ag
  | 0, x => if bt (mk.1 2 b) x = true then .inl (phN to fl mk b x) else if b = 0 then .inl x else H (idm b) x
  | k + 1, x => if lk to b k = 0 then (if x = ld to b k then mkA (hLf to fl mk idm H b k) (to.1 3 (b * 8 + k)) else hLf to fl mk idm H b k x) else if lk to b k ≤ 6 ∧ x = ld to b k then .inl (lnN to fl mk b k) else hLf to fl mk idm H b k x
/-- out of one block's rows nothing changes -/
def outB (b : Nat) (m m' : Ob) : Prop := (∀ i, i < b * 6 ∨ b * 6 + 6 ≤ i → m'.1 0 i = m.1 0 i ∧ m'.1 1 i = m.1 1 i) ∧ m'.1 2 = m.1 2 ∧ m'.2 = m.2
theorem outB.rf (b : Nat) (m : Ob) : outB b m m := ⟨fun _ _ => ⟨rfl, rfl⟩, rfl, rfl⟩
theorem outB.trans {b : Nat} {m m' m'' : Ob} (h1 : outB b m m') (h2 : outB b m' m'') : outB b m m'' := ⟨fun i hi => ⟨((h2.1 i hi).1).trans (h1.1 i hi).1, ((h2.1 i hi).2).trans (h1.1 i hi).2⟩, h2.2.1.trans h1.2.1, h2.2.2.trans h1.2.2⟩
theorem outB.hd {b : Nat} {m m' : Ob} (h : outB b m m') {c x : Nat} (hc : c ≠ b) (hx : x < 6) : hdA m' c x = hdA m c x := by
  unfold hdA
  obtain ⟨q1, q2⟩ := h.1 (c * 6 + x) (by omega)
  rw [q1, q2]
theorem outB.ok {nv b : Nat} {m m' : Ob} (h : outB b m m') {c : Nat} (hc : c ≠ b) (ho : hdOk nv m c) : hdOk nv m' c := fun x hx => by
  rw [(h.1 (c * 6 + x) (by omega)).1]
  exact ho x hx
section HOLD
variable {to fl mk0 ma mk : Ob} {nv : Nat}
/-- one is held -/
theorem hold1 {b x : Nat} {v n : Int32} {y : Ag} (hb : b < 10) (hx : x < 6) (he : agE nv v n y) : outB b mk (Maker_hold mk (nI b) (nI x) v n) ∧ (∀ z, z < 6 → hdA (Maker_hold mk (nI b) (nI x) v n) b z = if z = x then y else hdA mk b z) ∧ (∀ z, z < 6 → (z = x ∨ (mk.1 0 (b * 6 + z) = -1 ∨ ∃ w, w < nv ∧ mk.1 0 (b * 6 + z) = nI w)) → ((Maker_hold mk (nI b) (nI x) v n).1 0 (b * 6 + z) = -1 ∨ ∃ w, w < nv ∧ (Maker_hold mk (nI b) (nI x) v n).1 0 (b * 6 + z) = nI w)) := by
  rw [hold_eq hb hx]
  have r0 : ∀ i, (rs (rs mk 0 (b * 6 + x) v) 1 (b * 6 + x) n).1 0 i = if i = b * 6 + x then v else mk.1 0 i := fun i => by rw [rs_r _ _ _ _ (show 0 ≠ 1 by decide), rs_i]
  have r1 : ∀ i, (rs (rs mk 0 (b * 6 + x) v) 1 (b * 6 + x) n).1 1 i = if i = b * 6 + x then n else mk.1 1 i := fun i => by rw [rs_i, rs_r _ _ _ _ (show 1 ≠ 0 by decide)]
  refine ⟨⟨fun i hi => ?_, by rw [rs_r _ _ _ _ (by decide), rs_r _ _ _ _ (by decide)], rfl⟩, fun z hz => ?_, fun z hz hq => ?_⟩
  · rw [r0, r1, if_neg (by omega), if_neg (by omega)]; exact ⟨rfl, rfl⟩
  · rw [(hold_at (b := b) hx he).1 b z hz]
    by_cases q : z = x
    · rw [if_pos ⟨rfl, q⟩, if_pos q]
    · rw [if_neg fun y => q y.2, if_neg q]
  · rw [r0]
    by_cases q : z = x
    · rw [if_pos (by rw [q])]; exact he.2
    · rw [if_neg (by omega)]; exact hq.resolve_left q
theorem holdAt_spec {idm : Nat → Nat} {b : Nat} (hb : b < 10) (hmk : mk.1 2 = mk0.1 2) (hVD : VD ma b (bsM to fl mk0 b) (dsc to mk0 b)) (hbs : bsM to fl mk0 b + (dsc to mk0 b).length ≤ nv) (hnv : nv ≤ 140) (hn6 : 6 ≤ nv) (hlk : ∀ k, k < nl to b → lk to b k < 9) (hnear : if b = 0 then Flow_nearestDominator fl (nI b) = -1 else (Flow_nearestDominator fl (nI b) = nI (idm b) ∧ idm b < 10 ∧ idm b ≠ b ∧ hdOk nv mk (idm b))) : outB b mk (Maker_holdAtBeginning fl ma mk (nI b)) ∧ hdOk nv (Maker_holdAtBeginning fl ma mk (nI b)) b ∧ ∀ x, x < 6 → hdA (Maker_holdAtBeginning fl ma mk (nI b)) b x = hLf to fl mk0 idm (hdA mk) b 0 x := by
  have hdl : (dsc to mk0 b).length = (pX mk0 b).length + (lX to b).length := by unfold dsc; rw [List.length_append, List.length_map, List.length_map]
  have hpx6 : (pX mk0 b).length ≤ 6 := by
    unfold pX
    refine Nat.le_trans (List.length_filter_le _ _) ?_
    rw [List.length_range]
    exact Nat.le_refl _
  -- PHIs
  have phis : ∀ m : Ob, outB b mk m → hdOk nv m b → (∀ x, x < 6 → hdA m b x = if b = 0 then .inl x else hdA mk (idm b) x) → (fun r : Ob => outB b mk r ∧ hdOk nv r b ∧ ∀ x, x < 6 → hdA r b x = hLf to fl mk0 idm (hdA mk) b 0 x) (Maker_holdAtBeginning_L85 fl ma m (nI b) 0) := by
    intro m m1 m2 m3
    unfold Maker_holdAtBeginning_L85
    refine loop_cnt (B := fun a : Int32 × Ob => Maker_holdAtBeginning_L85b fl ma a.2 (nI b) a.1) (mk := fun i (s : Ob) => (nI i, s)) (n := (dsc to mk0 b).length)
      (I := fun k s => outB b mk s ∧ hdOk nv s b ∧ ∀ x, x < 6 → hdA s b x = if x ∈ (pX mk0 b).take k then .inl (phN to fl mk0 b x) else if b = 0 then .inl x else hdA mk (idm b) x)
      (P := fun r : Ob => outB b mk r ∧ hdOk nv r b ∧ ∀ x, x < 6 → hdA r b x = hLf to fl mk0 idm (hdA mk) b 0 x) (fun k s hk hI => ?_) (fun s hI => ⟨s, ?_, hI.1, hI.2.1, fun x hx => ?_⟩) (dsc to mk0 b).length 0 m (by omega) ⟨m1, m2, fun x hx => by rw [List.take_zero, if_neg (by intro q; cases q)]; exact m3 x hx⟩
    · obtain ⟨i1, i2, i3⟩ := hI
      obtain ⟨d, hd⟩ : ∃ d, (dsc to mk0 b)[k]? = some d := ⟨_, List.getElem?_eq_getElem hk⟩
      obtain ⟨q1, q2, q3, q4⟩ := hVD.2 k d hd
      have hv140 : bsM to fl mk0 b + k < 140 := by omega
      have hB : Maker_holdAtBeginning_L85b fl ma s (nI b) (nI k) = if nI d.1 = 9 then .inl (nI (k + 1), Maker_hold s (nI b) d.2 (nI (bsM to fl mk0 b + k)) 0) else .inl (nI (k + 1), s) := by
        unfold Maker_holdAtBeginning_L85b Maker_holdAtBeginning_138
        rw [oat_rs hb (by decide), hVD.1, if_pos (show nI k < nI (dsc to mk0 b).length from nI_lt hk (by omega)), valueIn_eq (by omega), q1, oat_rs hv140 (by decide), q2, oat_rs hv140 (by decide), q4, nI_1]
      dsimp only
      rw [hB]
      by_cases hkp : k < (pX mk0 b).length
      · obtain ⟨x, hx⟩ : ∃ x, (pX mk0 b)[k]? = some x := ⟨_, List.getElem?_eq_getElem hkp⟩
        have hdx : d = (9, nI x) := by
          unfold dsc at hd
          rw [List.getElem?_append_left (by rw [List.length_map]; exact hkp), List.getElem?_map, hx] at hd
          exact (Option.some.inj hd).symm
        obtain ⟨f1, f2, f3⟩ := idx_filter 6 k x hx
        rw [hdx, if_pos (show nI 9 = 9 from rfl)]
        have hph : phN to fl mk0 b x = bsM to fl mk0 b + k := by unfold phN; rw [f1]
        have henc : agE nv (nI (bsM to fl mk0 b + k)) 0 (.inl (phN to fl mk0 b x)) := by
          refine ⟨?_, Or.inr ⟨bsM to fl mk0 b + k, by omega, rfl⟩⟩
          unfold agOf
          rw [if_neg (nI_m1 (by omega)), tn_nI (by omega), hph]
        obtain ⟨h1, h2, h3⟩ := hold1 (mk := s) hb f2 henc
        refine ⟨_, rfl, i1.trans h1, fun z hz => h3 z hz (Or.inr (i2 z hz)), fun z hz => ?_⟩
        show hdA (Maker_hold s (nI b) (nI x) (nI (bsM to fl mk0 b + k)) 0) b z = _
        rw [h2 z hz, List.take_succ, hx]
        by_cases zx : z = x
        · rw [if_pos zx, if_pos (by rw [zx]; exact List.mem_append_right _ (by simp)), zx]
        · rw [if_neg zx, i3 z hz]
          have : z ∈ List.take k (pX mk0 b) ++ (some x).toList ↔ z ∈ List.take k (pX mk0 b) := by
            rw [List.mem_append]
            simp [zx]
          by_cases y : z ∈ List.take k (pX mk0 b)
          · rw [if_pos y, if_pos (this.mpr y)]
          · rw [if_neg y, if_neg fun q => y (this.mp q)]
      · have hdk : d.1 < 9 := by
          unfold dsc at hd
          rw [List.getElem?_append_right (by rw [List.length_map]; omega), List.getElem?_map] at hd
          cases hl : (lX to b)[k - ((pX mk0 b).map fun x => ((9 : Nat), nI x)).length]? with
          | none => rw [hl] at hd; cases hd
          | some j =>
            rw [hl] at hd
            have := (idx_filter (nl to b) _ j hl).2.1
            rw [← Option.some.inj hd]
            exact hlk j this
        rw [if_neg (fun q => by have := nI_inj (a := d.1) (b := 9) (by omega) (by omega) q; omega)]
        refine ⟨s, rfl, i1, i2, fun z hz => ?_⟩
        rw [i3 z hz, List.take_of_length_le (by omega), List.take_of_length_le (by omega)]
    · show Maker_holdAtBeginning_L85b fl ma s (nI b) (nI (dsc to mk0 b).length) = _
      unfold Maker_holdAtBeginning_L85b
      rw [oat_rs hb (by decide), hVD.1, if_neg (show ¬ nI (dsc to mk0 b).length < nI (dsc to mk0 b).length from nI_nlt (Nat.le_refl _) (by omega))]
    · rw [hI.2.2 x hx, List.take_of_length_le (by omega)]
      show _ = if bt (mk0.1 2 b) x = true then .inl (phN to fl mk0 b x) else if b = 0 then .inl x else hdA mk (idm b) x
      have : x ∈ pX mk0 b ↔ bt (mk0.1 2 b) x = true := by
        unfold pX
        rw [List.mem_filter, List.mem_range]
        exact ⟨fun q => q.2, fun q => ⟨hx, q⟩⟩
      by_cases q : bt (mk0.1 2 b) x = true
      · rw [if_pos q, if_pos (this.mpr q)]
      · rw [if_neg q, if_neg fun z => q (this.mp z)]
  unfold Maker_holdAtBeginning Maker_holdAtBeginning_L13
  generalize hN : Flow_nearestDominator fl (nI b) = N at hnear
  refine loop_cnt (B := fun a : Int32 × Ob => Maker_holdAtBeginning_L13b fl ma a.2 (nI b) N a.1) (mk := fun i (s : Ob) => (nI i, s)) (n := 6)
    (I := fun k s => outB b mk s ∧ ∀ x, x < k → x < 6 → (hdA s b x = if b = 0 then .inl x else hdA mk (idm b) x) ∧ (s.1 0 (b * 6 + x) = -1 ∨ ∃ w, w < nv ∧ s.1 0 (b * 6 + x) = nI w))
    (P := fun r : Ob => outB b mk r ∧ hdOk nv r b ∧ ∀ x, x < 6 → hdA r b x = hLf to fl mk0 idm (hdA mk) b 0 x) (fun k s hk hI => ?_) (fun s hI => ⟨_, ?_, phis s hI.1 (fun x hx => (hI.2 x hx hx).2) fun x hx => (hI.2 x hx hx).1⟩) 6 0 mk rfl ⟨outB.rf b mk, fun x hx => by omega⟩
  · obtain ⟨i1, i2⟩ := hI
    have fin : ∀ (v n : Int32), agE nv v n (if b = 0 then .inl k else hdA mk (idm b) k) → ∃ s', (.inl (nI (k + 1), Maker_hold s (nI b) (nI k) v n) : (Int32 × Ob) ⊕ Ob) = .inl (nI (k + 1), s') ∧ outB b mk s' ∧ ∀ x, x < k + 1 → x < 6 → (hdA s' b x = if b = 0 then .inl x else hdA mk (idm b) x) ∧ (s'.1 0 (b * 6 + x) = -1 ∨ ∃ w, w < nv ∧ s'.1 0 (b * 6 + x) = nI w) := fun v n he => by
      obtain ⟨h1, h2, h3⟩ := hold1 (mk := s) hb hk he
      refine ⟨_, rfl, i1.trans h1, fun x hx hx6 => ?_⟩
      by_cases z : x = k
      · rw [h2 x hx6, if_pos z, z]
        exact ⟨rfl, h3 k hk (Or.inl rfl)⟩
      · obtain ⟨q1, q2⟩ := i2 x (by omega) hx6
        rw [h2 x hx6, if_neg z]
        exact ⟨q1, h3 x hx6 (Or.inr q2)⟩
    by_cases hb0 : b = 0
    · rw [if_pos hb0] at hnear
      have hB : Maker_holdAtBeginning_L13b fl ma s (nI b) N (nI k) = .inl (nI (k + 1), Maker_hold s (nI b) (nI k) (nI k) 0) := by
        unfold Maker_holdAtBeginning_L13b Maker_holdAtBeginning_54 Maker_holdAtBeginning_73
        rw [if_pos (show nI k < 6 from nI_lt (a := k) (b := 6) hk (by decide)), if_pos hnear, if_pos hnear, nI_1]
      dsimp only
      rw [hB]
      refine fin _ _ ⟨?_, Or.inr ⟨k, by omega, rfl⟩⟩
      unfold agOf
      rw [if_neg (nI_m1 (by omega)), tn_nI (by omega), if_pos hb0]
    · rw [if_neg hb0] at hnear
      obtain ⟨n1, n2, n3, n4⟩ := hnear
      have hm1 : ¬ N = -1 := by rw [n1]; exact nI_m1 (by omega)
      have hB : Maker_holdAtBeginning_L13b fl ma s (nI b) N (nI k) = .inl (nI (k + 1), Maker_hold s (nI b) (nI k) (mk.1 0 (idm b * 6 + k)) (mk.1 1 (idm b * 6 + k))) := by
        unfold Maker_holdAtBeginning_L13b Maker_holdAtBeginning_54 Maker_holdAtBeginning_73
        rw [if_pos (show nI k < 6 from nI_lt (a := k) (b := 6) hk (by decide)), if_neg hm1, if_neg hm1, n1, ix6, oat_rs (show idm b * 6 + k < 60 by omega) (by decide), oat_rs (show idm b * 6 + k < 60 by omega) (by decide), (i1.1 (idm b * 6 + k) (by omega)).1, (i1.1 (idm b * 6 + k) (by omega)).2, nI_1]
      dsimp only
      rw [hB]
      refine fin _ _ ⟨?_, n4 k hk⟩
      rw [if_neg hb0]
      rfl
  · show Maker_holdAtBeginning_L13b fl ma s (nI b) N (nI 6) = _
    unfold Maker_holdAtBeginning_L13b
    rw [if_neg (by decide)]
end HOLD
