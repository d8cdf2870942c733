/-! PHIS GET THEIR ARGUMENTS, in rows -/
section PHIS
variable {to fl mk0 g0 : Ob} {nb nv : Nat} {r4 : Nat → Int32}
theorem val_in : ∀ (B v : Nat), 6 ≤ v → v < bsM to fl mk0 B → ∃ b, b < B ∧ bt (fl.2.1 0) b = true ∧ bsM to fl mk0 b ≤ v ∧ v < bsM to fl mk0 b + (dsc to mk0 b).length := by
  intro B
  induction B with
  | zero =>
    intro v h1 h2
    have : bsM to fl mk0 0 = 6 := rfl
    omega
  | succ B ih =>
    intro v h1 h2
    by_cases q : v < bsM to fl mk0 B
    · obtain ⟨b, hb, h⟩ := ih v h1 q
      exact ⟨b, by omega, h⟩
    · have e : bsM to fl mk0 (B + 1) = bsM to fl mk0 B + if bt (fl.2.1 0) B = true then (dsc to mk0 B).length else 0 := rfl
      by_cases z : bt (fl.2.1 0) B = true
      · rw [if_pos z] at e
        exact ⟨B, by omega, z, by omega, by omega⟩
      · rw [if_neg z] at e
        omega
theorem ind_sum (t : Nat) : ∀ B, ((List.range B).map fun c => if t = c then 1 else 0).sum = if t < B then 1 else 0 := by
  intro B
  induction B with
  | zero => rfl
  | succ B ih =>
    rw [List.range_succ, List.map_append, List.sum_append, ih]
    show _ + ((if t = B then 1 else 0) + 0) = _
    split <;> split <;> split <;> omega
theorem sum_add {f g : Nat → Nat} : ∀ (l : List Nat), (l.map fun x => f x + g x).sum = (l.map f).sum + (l.map g).sum := by
  intro l
  induction l with
  | nil => rfl
  | cons x r ih =>
    rw [List.map_cons, List.map_cons, List.map_cons, List.sum_cons, List.sum_cons, List.sum_cons, ih]
    omega
theorem sum_eL (B : Nat) : ∀ W : List Nat, ((List.range B).map fun c => (eL to W c).length).sum ≤ W.length := by
  intro W
  induction W with
  | nil =>
    have : ∀ l : List Nat, (l.map fun c => (eL to [] c).length).sum = 0 := by
      intro l
      induction l with
      | nil => rfl
      | cons x r ih => rw [List.map_cons, List.sum_cons, ih]; rfl
    rw [this]
    exact Nat.zero_le _
  | cons w r ih =>
    have e : ∀ c, (eL to (w :: r) c).length = (if tgt to w = c then 1 else 0) + (eL to r c).length := fun c => by
      unfold eL
      by_cases q : tgt to w = c
      · rw [List.filter_cons_of_pos (by simp [q]), if_pos q, List.length_cons]; omega
      · rw [List.filter_cons_of_neg (by simp [q]), if_neg q]; omega
    have e2 : ((List.range B).map fun c => (eL to (w :: r) c).length) = (List.range B).map fun c => (if tgt to w = c then 1 else 0) + (eL to r c).length := List.map_congr_left fun c _ => e c
    rw [e2, sum_add, ind_sum, List.length_cons]
    split <;> omega
def pS (g : Ob) (n : Nat) : Nat := ((List.range n).map fun v => if g.1 0 v = 9 then tn (g.1 9 (tn (g.1 1 v))) else 0).sum
theorem pS_s (g : Ob) (n : Nat) : pS g (n + 1) = pS g n + if g.1 0 n = 9 then tn (g.1 9 (tn (g.1 1 n))) else 0 := by
  unfold pS
  rw [List.range_succ, List.map_append, List.sum_append]
  rfl
theorem pS_mono (g : Ob) {a b : Nat} (h : a ≤ b) : pS g a ≤ pS g b := by
  induction b with
  | zero => rw [show a = 0 by omega]; exact Nat.le_refl _
  | succ b ih =>
    by_cases q : a = b + 1
    · rw [q]; exact Nat.le_refl _
    · have := ih (by omega)
      rw [pS_s]
      omega
theorem px_le (mk : Ob) (b : Nat) : (pX mk b).length ≤ 6 := by
  unfold pX
  refine Nat.le_trans (List.length_filter_le _ _) ?_
  rw [List.length_range]
  exact Nat.le_refl _
/-- what stands at a place of a block -/
theorem dsc_at {b : Nat} (hlk : ∀ k, k < nl to b → lk to b k < 9) {i : Nat} {d : Nat × Int32} (hd : (dsc to mk0 b)[i]? = some d) : (i < (pX mk0 b).length ∧ ∃ x, (pX mk0 b)[i]? = some x ∧ d = (9, nI x)) ∨ ((pX mk0 b).length ≤ i ∧ d.1 < 9 ∧ d.1 ≠ 0 ∧ ∃ k, (lX to b)[i - (pX mk0 b).length]? = some k ∧ d = (lk to b k, -1)) := by
  unfold dsc at hd
  by_cases q : i < (pX mk0 b).length
  · left
    rw [List.getElem?_append_left (by rw [List.length_map]; exact q), List.getElem?_map] at hd
    cases hx : (pX mk0 b)[i]? with
    | none => rw [hx] at hd; cases hd
    | some x =>
      rw [hx] at hd
      exact ⟨q, x, rfl, (Option.some.inj hd).symm⟩
  · right
    rw [List.getElem?_append_right (by rw [List.length_map]; omega), List.getElem?_map, List.length_map] at hd
    cases hl : (lX to b)[i - (pX mk0 b).length]? with
    | none => rw [hl] at hd; cases hd
    | some k =>
      rw [hl] at hd
      obtain ⟨-, q2, q3⟩ := idx_filter (nl to b) _ k hl
      rw [← Option.some.inj hd]
      exact ⟨by omega, hlk k q2, by simpa using q3, k, rfl, rfl⟩
theorem pS_blk (hnb : nb ≤ 10) (hP : P1 to fl mk0 nb r4 nb g0) (h140 : bsM to fl mk0 nb ≤ 140) (hlk : ∀ b, b < nb → ∀ k, k < nl to b → lk to b k < 9) : ∀ B, B ≤ nb → pS g0 (bsM to fl mk0 B) ≤ 6 * ((List.range B).map fun c => (eL to (wB to fl nb) c).length).sum := by
  intro B
  induction B with
  | zero =>
    intro _
    have : ∀ n, n ≤ 6 → pS g0 n = 0 := by
      intro n
      induction n with
      | zero => intro _; rfl
      | succ n ih =>
        intro hn
        rw [pS_s, ih (by omega), (hP.2.2.2.2.1 n (by omega)).1, if_neg (by decide)]
    rw [show bsM to fl mk0 0 = 6 from rfl, this 6 (Nat.le_refl _)]
    exact Nat.zero_le _
  | succ B ih =>
    intro hB
    have h1 := ih (by omega)
    have es : ((List.range (B + 1)).map fun c => (eL to (wB to fl nb) c).length).sum = ((List.range B).map fun c => (eL to (wB to fl nb) c).length).sum + (eL to (wB to fl nb) B).length := by
      rw [List.range_succ, List.map_append, List.sum_append]
      simp
    rw [es]
    have e : bsM to fl mk0 (B + 1) = bsM to fl mk0 B + if bt (fl.2.1 0) B = true then (dsc to mk0 B).length else 0 := rfl
    by_cases z : bt (fl.2.1 0) B = true
    · rw [if_pos z] at e
      have hmono := bsM_mono (to := to) (fl := fl) (mk := mk0) (a := B + 1) (b := nb) hB
      have hVD := hP.2.2.1 B (by omega) z
      have h9 := (hP.2.2.2.2.2.1.1 B (by omega)).1
      have hWl : (eL to (wB to fl nb) B).length ≤ 20 := by
        refine Nat.le_trans (List.length_filter_le _ _) (nodup_len 20 _ (wB_nodup nb) fun x hx => ?_)
        have := ((wB_mem nb).mp hx).1
        omega
      have key : ∀ n, n ≤ (dsc to mk0 B).length → pS g0 (bsM to fl mk0 B + n) ≤ pS g0 (bsM to fl mk0 B) + (min n (pX mk0 B).length) * (eL to (wB to fl nb) B).length := by
        intro n
        induction n with
        | zero => intro _; simp
        | succ n ihn =>
          intro hn
          have := ihn (by omega)
          rw [show bsM to fl mk0 B + (n + 1) = bsM to fl mk0 B + n + 1 by omega, pS_s]
          obtain ⟨d, hd⟩ : ∃ d, (dsc to mk0 B)[n]? = some d := ⟨_, List.getElem?_eq_getElem (by omega)⟩
          obtain ⟨-, q2, q3, -⟩ := hVD.2 n d hd
          rw [q2, q3, tn_nI (by omega), h9, tn_nI (by omega)]
          rcases dsc_at (hlk B (by omega)) hd with ⟨p1, x, -, p2⟩ | ⟨p1, p2, -⟩
          · rw [p2, if_pos (show nI 9 = 9 from rfl), show min (n + 1) (pX mk0 B).length = min n (pX mk0 B).length + 1 by omega, Nat.succ_mul]
            omega
          · rw [if_neg fun q => by have := nI_inj (a := d.1) (b := 9) (by omega) (by omega) q; omega, show min (n + 1) (pX mk0 B).length = min n (pX mk0 B).length by omega]
            omega
      have hk := key _ (Nat.le_refl _)
      rw [e]
      have hpx := px_le mk0 B
      have hmul : (min (dsc to mk0 B).length (pX mk0 B).length) * (eL to (wB to fl nb) B).length ≤ 6 * (eL to (wB to fl nb) B).length := Nat.mul_le_mul_right _ (by omega)
      omega
    · rw [if_neg z] at e
      rw [e, Nat.add_zero]
      omega
theorem pS_120 (hnb : nb ≤ 10) (hP : P1 to fl mk0 nb r4 nb g0) (h140 : bsM to fl mk0 nb ≤ 140) (hlk : ∀ b, b < nb → ∀ k, k < nl to b → lk to b k < 9) : pS g0 (bsM to fl mk0 nb) ≤ 120 := by
  have h1 := pS_blk hnb hP h140 hlk nb (Nat.le_refl _)
  have h2 := sum_eL (to := to) nb (wB to fl nb)
  have h3 := nodup_len 20 _ (wB_nodup (to := to) (fl := fl) nb) fun x hx => by
    have := ((wB_mem nb).mp hx).1
    omega
  omega
def phiA (g0 mk : Ob) (v : Nat) : List Ag := (fed g0 (tn (g0.1 1 v))).map fun w => hdA mk (w / 2) (tn (g0.1 2 v))
theorem givePhis_spec {ma mk : Ob} (hT : tGood to fl nb) (hnv : nv = bsM to fl mk0 nb) (h140 : bsM to fl mk0 nb ≤ 140) (hP : P1 to fl mk0 nb r4 nb g0) (hlk : ∀ b, b < nb → ∀ k, k < nl to b → lk to b k < 9) {F : Nat → List Ag} {gv : Nat} (hast : ast g0 ma) (hA : AS nv ma gv F) (hg : gv ≤ 170) (hH : ∀ b, b < 10 → dnB fl 10 b → hdOk nv mk b) (hFp : ∀ v, v < nv → g0.1 0 v = 9 → F v = []) : ∃ F' gv', ast g0 (Maker_givePhisTheirs ma mk) ∧ AS nv (Maker_givePhisTheirs ma mk) gv' F' ∧ gv' ≤ 290 ∧ ∀ u, F' u = if u < nv ∧ g0.1 0 u = 9 then phiA g0 mk u else F u := by
  have hR := hT.2.2.2.1
  have hnb := hT.1.2.2.1
  have hS := pS_120 hnb hP h140 hlk
  unfold Maker_givePhisTheirs Maker_givePhisTheirs_L2
  refine loop_cnt (B := fun a : Int32 × Ob => Maker_givePhisTheirs_L2b a.2 mk a.1) (mk := fun i (s : Ob) => (nI i, s)) (n := nv) (I := fun v s => ∃ F' gv', ast g0 s ∧ AS nv s gv' F' ∧ gv' ≤ 170 + pS g0 v ∧ ∀ u, F' u = if u < v ∧ g0.1 0 u = 9 then phiA g0 mk u else F u)
    (P := fun r => ∃ F' gv', ast g0 r ∧ AS nv r gv' F' ∧ gv' ≤ 290 ∧ ∀ u, F' u = if u < nv ∧ g0.1 0 u = 9 then phiA g0 mk u else F u) (fun v s hv hI => ?_) (fun s ⟨F', gv', i1, i2, i3, i4⟩ => ⟨s, ?_, F', gv', i1, i2, by rw [hnv] at i3; omega, i4⟩) nv 0 ma (by omega) ⟨F, gv, hast, hA, by omega, fun u => by rw [if_neg (by omega)]⟩
  · obtain ⟨F', gv', i1, i2, i3, i4⟩ := hI
    have hv140 : v < 140 := by omega
    have e0 : s.1 0 = g0.1 0 := i1.1 0 (by decide) (by decide) (by decide) (by decide)
    have e1 : s.1 1 = g0.1 1 := i1.1 1 (by decide) (by decide) (by decide) (by decide)
    have e2 : s.1 2 = g0.1 2 := i1.1 2 (by decide) (by decide) (by decide) (by decide)
    have ei2 : s.2.1 2 = nI nv := by rw [i1.2.1 2 (by decide), hP.1.2.2.1, hnv]
    have hB : Maker_givePhisTheirs_L2b s mk (nI v) = if g0.1 0 v = 9 then .inl (nI (v + 1), Maker_givePhi s mk (nI v)) else .inl (nI (v + 1), s) := by
      unfold Maker_givePhisTheirs_L2b Maker_givePhisTheirs_29
      rw [ei2, if_pos (show nI v < nI nv from nI_lt hv (by omega)), oat_rs hv140 (by decide), e0, nI_1]
    dsimp only
    rw [hB]
    by_cases h9 : g0.1 0 v = 9
    · rw [if_pos h9]
      have hv6 : 6 ≤ v := Nat.le_of_not_lt fun q => by
        rw [(hP.2.2.2.2.1 v q).1] at h9
        exact absurd h9 (by decide)
      obtain ⟨b, hbn, hbr, hb1, hb2⟩ := val_in (to := to) (fl := fl) (mk0 := mk0) nb v hv6 (by omega)
      obtain ⟨d, hd⟩ : ∃ d, (dsc to mk0 b)[v - bsM to fl mk0 b]? = some d := ⟨_, List.getElem?_eq_getElem (by omega)⟩
      obtain ⟨-, q2, q3, q4⟩ := (hP.2.2.1 b hbn hbr).2 _ d hd
      rw [show bsM to fl mk0 b + (v - bsM to fl mk0 b) = v by omega] at q2 q3 q4
      have hdx : ∃ x, x < 6 ∧ d = (9, nI x) := by
        rcases dsc_at (hlk b hbn) hd with ⟨-, x, p1, p2⟩ | ⟨-, p2, -⟩
        · exact ⟨x, (idx_filter 6 _ x p1).2.1, p2⟩
        · rw [q2] at h9
          have := nI_inj (a := d.1) (b := 9) (by omega) (by omega) h9
          omega
      obtain ⟨x, hx, hdx⟩ := hdx
      rw [hdx] at q4
      obtain ⟨h9e, h10⟩ := hP.2.2.2.2.2.1.1 b (by omega)
      have hWl : (eL to (wB to fl nb) b).length ≤ 20 := by
        refine Nat.le_trans (List.length_filter_le _ _) (nodup_len 20 _ (wB_nodup nb) fun x hx => ?_)
        have := ((wB_mem nb).mp hx).1
        omega
      have hpl : tn (g0.1 1 v) = b := by rw [q3, tn_nI (by omega)]
      have hvar : tn (g0.1 2 v) = x := by rw [q4, tn_nI (by omega)]
      have hfed : fed g0 b = eL to (wB to fl nb) b := by
        apply List.ext_getElem?
        intro i
        rw [fed_get2 h9e hWl]
        by_cases q : i < (eL to (wB to fl nb) b).length
        · have hg := List.getElem?_eq_getElem q
          have hw20 : (eL to (wB to fl nb) b)[i] < 2147483648 := by
            have := ((wB_mem nb).mp (List.mem_filter.mp (List.getElem_mem q)).1).1
            omega
          rw [if_pos q, h10 i _ hg, hg, tn_nI hw20]
        · rw [if_neg q, List.getElem?_eq_none (by omega)]
      have hps := pS_s g0 v
      rw [if_pos h9, hpl, h9e, tn_nI (by omega)] at hps
      have hpm := pS_mono g0 (a := v + 1) (b := bsM to fl mk0 nb) (by omega)
      have hFv : F' v = [] := by rw [i4, if_neg (by omega)]; exact hFp v hv h9
      have hph : phiA g0 mk v = (eL to (wB to fl nb) b).map fun w => hdA mk (w / 2) x := by unfold phiA; rw [hpl, hvar, hfed]
      have key : (fun r : Ob => ∃ F'' gv'', ast g0 r ∧ AS nv r gv'' F'' ∧ gv'' ≤ 170 + pS g0 (v + 1) ∧ F'' v = phiA g0 mk v ∧ ∀ u, u ≠ v → F'' u = F' u) (Maker_givePhi s mk (nI v)) := by
        unfold Maker_givePhi Maker_givePhi_L12
        rw [oat_rs hv140 (by decide), e1, q3]
        refine loop_cnt (B := fun a : Int32 × Ob => Maker_givePhi_L12b a.2 mk (nI v) (nI b) a.1) (mk := fun i (s : Ob) => (nI i, s)) (n := (eL to (wB to fl nb) b).length) (I := fun k r => ∃ F'' gv'', ast g0 r ∧ AS nv r gv'' F'' ∧ gv'' ≤ gv' + k ∧ F'' v = ((eL to (wB to fl nb) b).take k).map (fun w => hdA mk (w / 2) x) ∧ (∀ u, u ≠ v → F'' u = F' u) ∧ lastU r gv'' F'' v)
          (P := fun r : Ob => ∃ F'' gv'', ast g0 r ∧ AS nv r gv'' F'' ∧ gv'' ≤ 170 + pS g0 (v + 1) ∧ F'' v = phiA g0 mk v ∧ ∀ u, u ≠ v → F'' u = F' u) (fun k r hk hr => ?_) (fun r hr => ⟨r, ?_, ?_⟩) (eL to (wB to fl nb) b).length 0 s (by omega) ⟨F', gv', i1, i2, by omega, by rw [hFv]; rfl, fun _ _ => rfl, Or.inl hFv⟩
        · obtain ⟨F'', gv'', r1, r2, r3, r5, r6, r7⟩ := hr
          obtain ⟨w, hw⟩ : ∃ w, (eL to (wB to fl nb) b)[k]? = some w := ⟨_, List.getElem?_eq_getElem hk⟩
          have hwm := (wB_mem nb).mp (List.mem_filter.mp (List.mem_of_getElem? hw)).1
          have hw20 : w < 20 := by omega
          have hdone : dnB fl 10 (w / 2) := by
            obtain ⟨j, hj, ej⟩ := hR.2.2 _ ((reach_bit hR (show w / 2 < 32 by omega)).mp hwm.2.1)
            exact ⟨j, hj, ej⟩
          have henc : agE nv (mk.1 0 (w / 2 * 6 + x)) (mk.1 1 (w / 2 * 6 + x)) (hdA mk (w / 2) x) := ⟨rfl, hH _ (by omega) hdone x hx⟩
          obtain ⟨a1, a2, a3⟩ := giveA r2 (show v < 150 by omega) r7 (by omega) henc
          refine ⟨Form_addArgument r (nI v) (mk.1 0 (w / 2 * 6 + x)) (mk.1 1 (w / 2 * 6 + x)), ?_, _, _, r1.trans a3, a1, by omega, ?_, fun u hu => by rw [← r6 u hu]; exact if_neg hu, a2⟩
          · show Maker_givePhi_L12b r mk (nI v) (nI b) (nI k) = _
            unfold Maker_givePhi_L12b
            rw [oat_rs (show b < 10 by omega) (by decide), r1.1 9 (by decide) (by decide) (by decide) (by decide), h9e, if_pos (show nI k < nI (eL to (wB to fl nb) b).length from nI_lt hk (by omega)), wayTo_eq (by omega), r1.1 10 (by decide) (by decide) (by decide) (by decide), h10 k w hw, fromOf_nI hw20, oat_rs hv140 (by decide), r1.1 2 (by decide) (by decide) (by decide) (by decide), q4, ix6, oat_rs (show w / 2 * 6 + x < 60 by omega) (by decide), oat_rs (show w / 2 * 6 + x < 60 by omega) (by decide), nI_1]
          · show updF F'' v (F'' v ++ [hdA mk (w / 2) x]) v = _
            unfold updF
            rw [if_pos rfl, r5, List.take_succ, hw, List.map_append]
            rfl
        · show Maker_givePhi_L12b r mk (nI v) (nI b) (nI (eL to (wB to fl nb) b).length) = _
          unfold Maker_givePhi_L12b
          obtain ⟨F'', gv'', r1, -⟩ := hr
          rw [oat_rs (show b < 10 by omega) (by decide), r1.1 9 (by decide) (by decide) (by decide) (by decide), h9e, if_neg (show ¬ nI (eL to (wB to fl nb) b).length < nI (eL to (wB to fl nb) b).length from nI_nlt (Nat.le_refl _) (by omega))]
        · obtain ⟨F'', gv'', r1, r2, r3, r5, r6, r7⟩ := hr
          exact ⟨F'', gv'', r1, r2, by omega, by rw [r5, hph, List.take_length], r6⟩
      obtain ⟨F'', gv'', k1, k2, k3, k4, k5⟩ := key
      refine ⟨_, rfl, F'', gv'', k1, k2, k3, fun u => ?_⟩
      by_cases q : u = v
      · rw [q, k4, if_pos ⟨by omega, h9⟩]
      · rw [k5 u q, i4]
        by_cases z : u < v ∧ g0.1 0 u = 9
        · rw [if_pos z, if_pos ⟨by omega, z.2⟩]
        · rw [if_neg z, if_neg fun y => z ⟨by omega, y.2⟩]
    · rw [if_neg h9]
      refine ⟨s, rfl, F', gv', i1, i2, ?_, fun u => ?_⟩
      · rw [pS_s]; omega
      · rw [i4]
        by_cases z : u < v ∧ g0.1 0 u = 9
        · rw [if_pos z, if_pos ⟨by omega, z.2⟩]
        · rw [if_neg z, if_neg]
          rintro ⟨y1, y2⟩
          by_cases q : u = v
          · rw [q] at y2; exact h9 y2
          · exact z ⟨by omega, y2⟩
  · have ei2 : s.2.1 2 = nI nv := by rw [i1.2.1 2 (by decide), hP.1.2.2.1, hnv]
    show Maker_givePhisTheirs_L2b s mk (nI nv) = _
    unfold Maker_givePhisTheirs_L2b
    rw [ei2, if_neg (show ¬ nI nv < nI nv from nI_nlt (Nat.le_refl _) (by omega))]
end PHIS
