/-! THE VALUES AND EDGES OF A FORM THAT IS MADE, in rows -/
def pX (mk : Ob) (b : Nat) : List Nat := (List.range 6).filter fun x => bt (mk.1 2 b) x
def lX (to : Ob) (b : Nat) : List Nat := (List.range (nl to b)).filter fun k => !decide (lk to b k = 0)
def dsc (to mk : Ob) (b : Nat) : List (Nat × Int32) := (pX mk b).map (fun x => (9, nI x)) ++ (lX to b).map fun k => (lk to b k, -1)
theorem filter_range_le {p : Nat → Bool} {m n : Nat} (h : m ≤ n) : ((List.range m).filter p).length ≤ ((List.range n).filter p).length := by
  rw [show n = m + (n - m) by omega, List.range_add, List.filter_append, List.length_append]
  omega
theorem filter_range_s (p : Nat → Bool) (n : Nat) : (List.range (n + 1)).filter p = (List.range n).filter p ++ (if p n = true then [n] else []) := by
  rw [List.range_succ, List.filter_append]
  congr 1
  by_cases h : p n = true
  · rw [if_pos h, List.filter_cons_of_pos h]; rfl
  · rw [if_neg h, List.filter_cons_of_neg h]; rfl
section VALS
variable {to mk f : Ob}
theorem addValues_spec {b s : Nat} (hb : b < 10) (hl : to.1 0 b = nI (nl to b)) (hl8 : nl to b ≤ 8) (hkd : ∀ k, k < nl to b → to.1 1 (b * 8 + k) = nI (lk to b k) ∧ lk to b k < 9) (hn : f.2.1 2 = nI s) (hs : s + (dsc to mk b).length ≤ 140) (h7 : f.1 7 b = 0) : VD (Maker_addValues to f mk (nI b)) b s (dsc to mk b) ∧ vst s b f (Maker_addValues to f mk (nI b)) ∧ (Maker_addValues to f mk (nI b)).2.1 2 = nI (s + (dsc to mk b).length) := by
  have hdl : (dsc to mk b).length = (pX mk b).length + (lX to b).length := by unfold dsc; rw [List.length_append, List.length_map, List.length_map]
  -- the lines
  have lines : ∀ g : Ob, VD g b s ((pX mk b).map fun x => (9, nI x)) → vst s b f g → g.2.1 2 = nI (s + (pX mk b).length) → (fun r : Ob => VD r b s (dsc to mk b) ∧ vst s b f r ∧ r.2.1 2 = nI (s + (dsc to mk b).length)) (Maker_addValues_L44 to g mk (nI b) 0) := by
    intro g g1 g2 g3
    unfold Maker_addValues_L44
    refine loop_cnt (B := fun a : Int32 × Ob => Maker_addValues_L44b to a.2 mk (nI b) a.1) (mk := fun i (x : Ob) => (nI i, x)) (n := nl to b)
      (I := fun k x => VD x b s ((pX mk b).map (fun x => (9, nI x)) ++ ((List.range k).filter fun k => !decide (lk to b k = 0)).map fun k => (lk to b k, -1)) ∧ vst s b f x ∧ x.2.1 2 = nI (s + ((pX mk b).map (fun x => ((9 : Nat), nI x)) ++ ((List.range k).filter fun k => !decide (lk to b k = 0)).map fun k => (lk to b k, (-1 : Int32))).length))
      (P := fun r : Ob => VD r b s (dsc to mk b) ∧ vst s b f r ∧ r.2.1 2 = nI (s + (dsc to mk b).length)) (fun k x hk hx => ?_) (fun x hx => ⟨x, ?_, hx⟩) (nl to b) 0 g (by omega) ⟨by simpa using g1, g2, by simpa using g3⟩
    · obtain ⟨x1, x2, x3⟩ := hx
      obtain ⟨e1, e2⟩ := hkd k hk
      have hB : Maker_addValues_L44b to x mk (nI b) (nI k) = if lk to b k = 0 then .inl (nI (k + 1), x) else .inl (nI (k + 1), Form_addValue x (nI b) (nI (lk to b k)) (-1)) := by
        unfold Maker_addValues_L44b Maker_addValues_86
        rw [oat_rs hb (by decide), hl, if_pos (show nI k < nI (nl to b) from nI_lt hk (by omega)), ix8, oat_rs (show b * 8 + k < 80 by omega) (by decide), e1, nI_1]
        by_cases q : lk to b k = 0
        · rw [if_pos (show nI (lk to b k) = 0 by rw [q]; rfl), if_pos q]
        · rw [if_neg (show ¬ nI (lk to b k) = 0 from nI_ne0 (by omega) (by omega)), if_neg q]
      dsimp only
      rw [hB, filter_range_s]
      by_cases q : lk to b k = 0
      · rw [if_pos q, if_neg (by simp [q]), List.append_nil]
        exact ⟨x, rfl, x1, x2, x3⟩
      · rw [if_neg q, if_pos (by simp [q]), List.map_append, ← List.append_assoc]
        have hle : ((List.range (k + 1)).filter fun k => !decide (lk to b k = 0)).length ≤ (lX to b).length := filter_range_le (by omega)
        rw [filter_range_s, if_pos (by simp [q]), List.length_append] at hle
        have hlt : s + ((pX mk b).map (fun x => ((9 : Nat), nI x)) ++ ((List.range k).filter fun k => !decide (lk to b k = 0)).map fun k => (lk to b k, (-1 : Int32))).length < 140 := by
          rw [List.length_append, List.length_map, List.length_map]
          have : ([k] : List Nat).length = 1 := rfl
          omega
        obtain ⟨z1, z2, z3⟩ := addV (k := lk to b k) (x := -1) x3 hlt hb x1
        exact ⟨_, rfl, z1, x2.trans z2 (by omega), z3⟩
    · show Maker_addValues_L44b to x mk (nI b) (nI (nl to b)) = _
      unfold Maker_addValues_L44b
      rw [oat_rs hb (by decide), hl, if_neg (show ¬ nI (nl to b) < nI (nl to b) from nI_nlt (Nat.le_refl _) (by omega))]
  unfold Maker_addValues Maker_addValues_L3
  refine loop_cnt (B := fun a : Int32 × Ob => Maker_addValues_L3b to a.2 mk (nI b) a.1) (mk := fun i (x : Ob) => (nI i, x)) (n := 6)
    (I := fun k x => VD x b s (((List.range k).filter fun x => bt (mk.1 2 b) x).map fun x => (9, nI x)) ∧ vst s b f x ∧ x.2.1 2 = nI (s + (((List.range k).filter fun x => bt (mk.1 2 b) x).map fun x => ((9 : Nat), nI x)).length))
    (P := fun r : Ob => VD r b s (dsc to mk b) ∧ vst s b f r ∧ r.2.1 2 = nI (s + (dsc to mk b).length)) (fun k x hk hx => ?_) (fun x hx => ⟨Maker_addValues_L44 to x mk (nI b) 0, ?_, lines x hx.1 hx.2.1 ?_⟩) 6 0 f rfl ⟨⟨by rw [h7]; rfl, fun i d hd => by cases hd⟩, vst.rf s b f, hn⟩
  · obtain ⟨x1, x2, x3⟩ := hx
    have hB : Maker_addValues_L3b to x mk (nI b) (nI k) = if bt (mk.1 2 b) k = true then .inl (nI (k + 1), Form_addValue x (nI b) (nI 9) (nI k)) else .inl (nI (k + 1), x) := by
      unfold Maker_addValues_L3b Maker_addValues_35
      rw [if_pos (show nI k < 6 from nI_lt (a := k) (b := 6) hk (by decide)), oat_rs hb (by decide), has_nI (by omega), nI_1]
      rfl
    dsimp only
    rw [hB, filter_range_s]
    by_cases q : bt (mk.1 2 b) k = true
    · rw [if_pos q, if_pos q, List.map_append]
      have hle : ((List.range (k + 1)).filter fun x => bt (mk.1 2 b) x).length ≤ (pX mk b).length := filter_range_le (by omega)
      rw [filter_range_s, if_pos q, List.length_append] at hle
      have hlt : s + (((List.range k).filter fun x => bt (mk.1 2 b) x).map fun x => ((9 : Nat), nI x)).length < 140 := by
        rw [List.length_map]
        have : ([k] : List Nat).length = 1 := rfl
        omega
      obtain ⟨z1, z2, z3⟩ := addV (k := 9) (x := nI k) x3 hlt hb x1
      exact ⟨_, rfl, z1, x2.trans z2 (by omega), z3⟩
    · rw [if_neg q, if_neg q, List.append_nil]
      exact ⟨x, rfl, x1, x2, x3⟩
  · show Maker_addValues_L3b to x mk (nI b) (nI 6) = _
    unfold Maker_addValues_L3b
    rw [if_neg (by decide)]
  · rw [hx.2.2, List.length_map]
    rfl
/-- edges, of the ways that were gone through -/
def tgt (to : Ob) (w : Nat) : Nat := tn (to.1 7 w)
def eL (to : Ob) (W : List Nat) (c : Nat) : List Nat := W.filter fun w => decide (tgt to w = c)
def EDs (to : Ob) (W : List Nat) (g : Ob) : Prop := (∀ c, c < 10 → g.1 9 c = nI (eL to W c).length ∧ ∀ (i w : Nat), (eL to W c)[i]? = some w → g.1 10 (c * 20 + i) = nI w) ∧ ∀ w, w < 20 → g.1 12 w = if w ∈ W then nI (tgt to w) else -1
theorem EDs_congr {W : List Nat} {g : Ob} (h9 : g.1 9 = f.1 9) (h10 : g.1 10 = f.1 10) (h12 : g.1 12 = f.1 12) (h : EDs to W f) : EDs to W g := by
  unfold EDs
  rw [h9, h10, h12]
  exact h
theorem addE {W : List Nat} {w : Nat} (hw : w < 20) (hW : (W ++ [w]).Nodup) (hW20 : ∀ x, x ∈ W ++ [w] → x < 20) (ht : to.1 7 w = nI (tgt to w)) (ht10 : tgt to w < 10) (h : EDs to W f) : EDs to (W ++ [w]) (Form_addEdge f (nI w) (to.1 7 w)) ∧ (∀ i, i ≠ 9 → i ≠ 10 → i ≠ 12 → (Form_addEdge f (nI w) (to.1 7 w)).1 i = f.1 i) ∧ (Form_addEdge f (nI w) (to.1 7 w)).2 = f.2 := by
  obtain ⟨h1, h2⟩ := h
  obtain ⟨q1, q2⟩ := h1 _ ht10
  have hlen := nodup_len 20 _ hW hW20
  rw [List.length_append] at hlen
  have : ([w] : List Nat).length = 1 := rfl
  have hel : (eL to W (tgt to w)).length ≤ W.length := List.length_filter_le _ _
  have hwn : w ∉ W := fun q => (List.nodup_append.mp hW).2.2 w q w List.mem_cons_self rfl
  rw [ht, addEdge_eq hw ht10 q1 (by omega)]
  have hE : ∀ c, eL to (W ++ [w]) c = if c = tgt to w then eL to W c ++ [w] else eL to W c := fun c => by
    unfold eL
    rw [List.filter_append]
    by_cases z : c = tgt to w
    · rw [if_pos z, List.filter_cons_of_pos (by simp [z])]; rfl
    · rw [if_neg z, List.filter_cons_of_neg (by simp [Ne.symm z])]; simp
  refine ⟨⟨fun c hc => ⟨?_, fun i x hx => ?_⟩, fun x hx => ?_⟩, fun i a b d => ?_, rfl⟩
  · rw [rs_i, rs_r _ _ _ _ (show 9 ≠ 10 by decide), rs_r _ _ _ _ (show 9 ≠ 12 by decide), hE]
    by_cases z : c = tgt to w
    · rw [if_pos z, if_pos z, z, List.length_append]
      rfl
    · rw [if_neg z, if_neg z]
      exact (h1 c hc).1
  · rw [rs_r _ _ _ _ (show 10 ≠ 9 by decide), rs_i, rs_r _ _ _ _ (show 10 ≠ 12 by decide)]
    rw [hE] at hx
    by_cases z : c = tgt to w
    · rw [if_pos z] at hx
      by_cases y : i < (eL to W c).length
      · rw [List.getElem?_append_left y] at hx
        rw [z] at y
        rw [if_neg (by omega)]
        exact (h1 c hc).2 i x hx
      · have hil := (List.getElem?_eq_some_iff.mp hx).1
        rw [List.length_append] at hil
        have hi : i = (eL to W c).length := by omega
        rw [hi, List.getElem?_append_right (Nat.le_refl _), Nat.sub_self] at hx
        have hx' : x = w := (Option.some.inj hx).symm
        rw [if_pos (by rw [hi, z]), hx']
    · rw [if_neg z] at hx
      have hil := (List.getElem?_eq_some_iff.mp hx).1
      have hlc : (eL to W c).length ≤ W.length := List.length_filter_le _ _
      rw [if_neg (by omega)]
      exact (h1 c hc).2 i x hx
  · rw [rs_r _ _ _ _ (show 12 ≠ 9 by decide), rs_r _ _ _ _ (show 12 ≠ 10 by decide), rs_i]
    by_cases z : x = w
    · rw [if_pos z, if_pos (by rw [z]; exact List.mem_append_right _ List.mem_cons_self), z]
    · rw [if_neg z, h2 x hx]
      by_cases y : x ∈ W
      · rw [if_pos y, if_pos (List.mem_append_left _ y)]
      · rw [if_neg y, if_neg fun q => (List.mem_append.mp q).elim y fun q => z (List.mem_singleton.mp q)]
  · rw [rs_r _ _ _ _ a, rs_r _ _ _ _ b, rs_r _ _ _ _ d]
/-- the edges of a block's ways -/
theorem addEdges_spec {b : Nat} {W : List Nat} (hb : b < 10) (he : to.1 5 b = nI (tEk to b)) (he2 : tEk to b ≤ 2) (htg : ∀ k, k < tEk to b → to.1 7 (b * 2 + k) = nI (tgt to (b * 2 + k)) ∧ tgt to (b * 2 + k) < 10) (hW : W.Nodup) (hW2 : ∀ x, x ∈ W → x < b * 2) (h : EDs to W f) : EDs to (W ++ (List.range (tEk to b)).map fun j => b * 2 + j) (Maker_addEdges to f (nI b)) ∧ (∀ c, (Maker_addEdges to f (nI b)).1 11 c = if c = b then nI (tEk to b) else f.1 11 c) ∧ (∀ i, i ≠ 9 → i ≠ 10 → i ≠ 11 → i ≠ 12 → (Maker_addEdges to f (nI b)).1 i = f.1 i) ∧ (Maker_addEdges to f (nI b)).2 = f.2 := by
  unfold Maker_addEdges Maker_addEdges_L23
  rw [oat_rs hb (by decide), he, oput_rs hb (by decide)]
  refine loop_cnt (B := fun a : Int32 × Ob => Maker_addEdges_L23b to a.2 (nI b) (nI (tEk to b)) a.1) (mk := fun i (x : Ob) => (nI i, x)) (n := tEk to b)
    (I := fun k x => EDs to (W ++ (List.range k).map fun j => b * 2 + j) x ∧ (∀ c, x.1 11 c = if c = b then nI (tEk to b) else f.1 11 c) ∧ (∀ i, i ≠ 9 → i ≠ 10 → i ≠ 11 → i ≠ 12 → x.1 i = f.1 i) ∧ x.2 = f.2)
    (P := fun r : Ob => EDs to (W ++ (List.range (tEk to b)).map fun j => b * 2 + j) r ∧ (∀ c, r.1 11 c = if c = b then nI (tEk to b) else f.1 11 c) ∧ (∀ i, i ≠ 9 → i ≠ 10 → i ≠ 11 → i ≠ 12 → r.1 i = f.1 i) ∧ r.2 = f.2) (fun k x hk hx => ?_) (fun x hx => ⟨x, ?_, hx⟩) (tEk to b) 0 _ (by omega) ⟨?_, fun c => by rw [rs_i], fun i _ _ c _ => by rw [rs_r _ _ _ _ c], rfl⟩
  · obtain ⟨x1, x2, x3, x4⟩ := hx
    obtain ⟨t1, t2⟩ := htg k hk
    have hmem : ∀ m y, y ∈ W ++ (List.range m).map (fun j => b * 2 + j) → y ∈ W ∨ ∃ j, j < m ∧ y = b * 2 + j := fun m y hy => by
      rcases List.mem_append.mp hy with q | q
      · exact Or.inl q
      · obtain ⟨j, hj, e⟩ := List.mem_map.mp q
        exact Or.inr ⟨j, List.mem_range.mp hj, e.symm⟩
    have hnd : ((W ++ (List.range k).map fun j => b * 2 + j) ++ [b * 2 + k]).Nodup := by
      rw [List.append_assoc]
      refine List.nodup_append.mpr ⟨hW, ?_, fun x hx y hy e => ?_⟩
      · have : (List.range k).map (fun j => b * 2 + j) ++ [b * 2 + k] = (List.range (k + 1)).map fun j => b * 2 + j := by rw [List.range_succ, List.map_append]; rfl
        rw [this]
        refine nodup_of fun i j x h1 h2 => ?_
        rw [List.getElem?_map] at h1 h2
        by_cases hi : i < k + 1
        · by_cases hj : j < k + 1
          · rw [List.getElem?_range hi] at h1
            rw [List.getElem?_range hj] at h2
            have a1 : b * 2 + i = x := Option.some.inj h1
            have a2 : b * 2 + j = x := Option.some.inj h2
            omega
          · rw [List.getElem?_eq_none (by rw [List.length_range]; omega)] at h2; cases h2
        · rw [List.getElem?_eq_none (by rw [List.length_range]; omega)] at h1; cases h1
      · have h1 := hW2 x hx
        rcases List.mem_append.mp hy with q | q
        · obtain ⟨j, hj, e'⟩ := List.mem_map.mp q
          omega
        · rw [List.mem_singleton] at q; omega
    obtain ⟨z1, z2, z3⟩ := addE (w := b * 2 + k) (show b * 2 + k < 20 by omega) hnd (fun y hy => by
      rcases List.mem_append.mp hy with q | q
      · rcases hmem k y q with q | ⟨j, hj, q⟩
        · have := hW2 y q; omega
        · omega
      · rw [List.mem_singleton] at q; omega) t1 t2 x1
    refine ⟨Form_addEdge x (nI (b * 2 + k)) (to.1 7 (b * 2 + k)), ?_, ?_, fun c => by rw [z2 11 (by decide) (by decide) (by decide)]; exact x2 c, fun i a b' c d => (z2 i a b' d).trans (x3 i a b' c d), z3.trans x4⟩
    · show Maker_addEdges_L23b to x (nI b) (nI (tEk to b)) (nI k) = _
      unfold Maker_addEdges_L23b
      rw [if_pos (show nI k < nI (tEk to b) from nI_lt hk (by omega)), ix2, oat_rs (show b * 2 + k < 20 by omega) (by decide), nI_1]
    · rw [List.range_succ, List.map_append, ← List.append_assoc]
      exact z1
  · show Maker_addEdges_L23b to x (nI b) (nI (tEk to b)) (nI (tEk to b)) = _
    unfold Maker_addEdges_L23b
    rw [if_neg (show ¬ nI (tEk to b) < nI (tEk to b) from nI_nlt (Nat.le_refl _) (by omega))]
  · rw [List.range_zero, List.map_nil, List.append_nil]
    exact EDs_congr (rs_r _ _ _ _ (by decide)) (rs_r _ _ _ _ (by decide)) (rs_r _ _ _ _ (by decide)) h
end VALS
