/-! WAYS, ENDS AND BLOCKS, in rows -/
section ENDS
variable {f g : Ob} {nb nv : Nat}
theorem changeWay_CI (h : CI f nb nv) {w w' : Nat} (hw : w < 20) (hw' : w' < 20) : CI (Form_changeWay f (nI w) (nI w')) nb nv ∧ fS (Form_changeWay f (nI w) (nI w')) = aChg (fS f) w w' ∧ estay f (Form_changeWay f (nI w) (nI w')) ∧ ∀ i, i ≠ 10 → i ≠ 12 → (Form_changeWay f (nI w) (nI w')).1 i = f.1 i := by
  obtain ⟨hI, hA, hV, hL, hE⟩ := id h
  obtain ⟨E1, E2, E3, E4⟩ := id hE
  have htg : aTg (fS f) w = ftg f w := if_pos hw
  have hnb := hI.2.2.1
  unfold Form_changeWay
  rw [oat_rs hw (by decide)]
  have idt : fS f = aChg (fS f) w w' → CI f nb nv ∧ fS f = aChg (fS f) w w' ∧ estay f f ∧ ∀ i, i ≠ 10 → i ≠ 12 → f.1 i = f.1 i := fun e => ⟨h, e, ⟨fun _ _ _ _ _ _ _ => rfl, rfl⟩, fun _ _ _ => rfl⟩
  rcases E2 w hw with hn | ⟨t, ht, hwt⟩
  · rw [hn, if_pos rfl]
    unfold Form_changeWay_24
    rw [if_pos rfl]
    refine idt ?_
    unfold aChg
    rw [htg]
    unfold ftg
    rw [hn, if_pos rfl]
  · have ht10 : t < 10 := by omega
    rw [hwt, if_neg (nI_m1 (by omega))]
    have htg2 : aTg (fS f) w = some t := by
      rw [htg]
      unfold ftg
      rw [hwt, if_neg (nI_m1 (by omega)), tn_nI (by omega)]
    obtain ⟨z1, z2⟩ := edge_eq (f := f) ht10 (E1 t ht10) hw
    rw [z1]
    unfold Form_changeWay_24
    cases hed : edI (fA f) t w with
    | none =>
      rw [if_pos (show eI none = -1 from rfl)]
      refine idt ?_
      unfold aChg
      rw [htg2]
      dsimp only
      rw [fS_edI ht10, hed]
    | some k =>
      obtain ⟨e, he1, he, hlist⟩ := E1 t ht10
      have hke : k < e := by
        have h2 : (fed f t)[k]? = some w := edI_some hed
        rw [fed_get2 he he1] at h2
        by_cases q : k < e
        · exact q
        · rw [if_neg q] at h2; cases h2
      rw [show eI (some k) = nI k from rfl, if_neg (nI_m1 (by omega))]
      by_cases hww : w = w'
      · rw [if_pos (show nI w = nI w' by rw [hww])]
        refine idt ?_
        unfold aChg
        rw [htg2]
        dsimp only
        rw [fS_edI ht10, hed]
        dsimp only
        rw [if_pos hww]
      · rw [if_neg (show ¬ nI w = nI w' from fun q => hww (nI_inj (by omega) (by omega) q)), ix20, oput_rs (i := 10) (n := 200) (show t * 20 + k < 200 by omega) (by decide), oput_rs hw' (by decide), oput_rs hw (by decide)]
        generalize hr : rs (rs (rs f 10 (t * 20 + k) (nI w')) 12 w' (nI t)) 12 w (-1) = r
        have o : ∀ i, i ≠ 10 → i ≠ 12 → r.1 i = f.1 i := fun i a b => by rw [← hr, rs_r _ _ _ _ b, rs_r _ _ _ _ b, rs_r _ _ _ _ a]
        have o2 : r.2 = f.2 := by rw [← hr]; rfl
        have o10 : ∀ i, r.1 10 i = if i = t * 20 + k then nI w' else f.1 10 i := fun i => by rw [← hr, rs_r _ _ _ _ (show 10 ≠ 12 by decide), rs_r _ _ _ _ (show 10 ≠ 12 by decide), rs_i]
        have o12 : ∀ x, r.1 12 x = if x = w then -1 else if x = w' then nI t else f.1 12 x := fun x => by rw [← hr, rs_i, rs_i, rs_r _ _ _ _ (show 12 ≠ 10 by decide)]
        have o0 := o 0 (by decide) (by decide)
        have o1 := o 1 (by decide) (by decide)
        have o3 := o 3 (by decide) (by decide)
        have o4 := o 4 (by decide) (by decide)
        have o5 := o 5 (by decide) (by decide)
        have o6 := o 6 (by decide) (by decide)
        have o7 := o 7 (by decide) (by decide)
        have o8 := o 8 (by decide) (by decide)
        have o9 := o 9 (by decide) (by decide)
        have o11 := o 11 (by decide) (by decide)
        refine ⟨⟨by rw [o2]; exact hI, ?_, ?_, fun b hb => ?_, fun b hb => ?_, fun x hx => ?_, by rw [o11]; exact E3, by rw [o2]; exact E4⟩, AF_ext (fun v => ?_) (fun u => ?_) (fun b => ?_) (fun b => ?_) (fun b => ?_) (fun x => ?_), ⟨fun i _ _ _ _ a b => o i a b, o2⟩, o⟩
        · unfold cA inSeg
          rw [o1, o3, o4, o5]
          exact hA
        · unfold cV
          rw [o0, o1]
          exact hV
        · have := hL b hb
          unfold cL1 at this ⊢
          rw [o0, o1, o7, o8]
          exact this
        · obtain ⟨e2, y1, y2, y3⟩ := E1 b hb
          refine ⟨e2, y1, by rw [o9]; exact y2, fun j hj => ?_⟩
          rw [o10]
          by_cases y : b * 20 + j = t * 20 + k
          · rw [if_pos y]; exact ⟨w', hw', rfl⟩
          · rw [if_neg y]; exact y3 j hj
        · rw [o12]
          by_cases y : x = w
          · rw [if_pos y]; exact Or.inl rfl
          · rw [if_neg y]
            by_cases y2 : x = w'
            · rw [if_pos y2]; exact Or.inr ⟨t, ht, rfl⟩
            · rw [if_neg y2]; exact E2 x hx
        all_goals unfold aChg
        all_goals rw [htg2]
        all_goals dsimp only
        all_goals rw [fS_edI ht10, hed]
        all_goals dsimp only
        all_goals rw [if_neg hww]
        · show tn (r.1 0 v) = tn (f.1 0 v)
          rw [o0]
        · show (if u < 150 then fag r u else []) = if u < 150 then fag f u else []
          rw [fag_congr (f := f) (g := r) (u := u) (by rw [o3]) (by rw [o4]) fun i _ => by rw [o5, o6]; exact ⟨rfl, rfl⟩]
        · show (if b < 10 then (frw r b).filter (fun z => decide (r.1 1 z = nI b)) else []) = if b < 10 then (frw f b).filter (fun z => decide (f.1 1 z = nI b)) else []
          rw [frw_congr (f := f) (by rw [o7]) fun k _ => by rw [o8], o1]
        · show (if b < 10 then fed r b else []) = if b = t then (if t < 10 then fed f t else []).set k w' else if b < 10 then fed f b else []
          by_cases hbt : b = t
          · rw [if_pos hbt, if_pos (by omega), if_pos ht10, hbt]
            apply List.ext_getElem?
            intro j
            have g9' : r.1 9 t = nI e := by rw [o9]; exact he
            have hlen : (fed f t).length = e := by
              unfold fed
              rw [he, tn_nI (by omega), List.length_map, List.length_range]
            rw [List.getElem?_set, fed_get2 g9' he1, fed_get2 he he1, o10, hlen]
            by_cases y : k = j
            · subst y
              rw [if_pos rfl, if_pos hke, if_pos hke, if_pos rfl, tn_nI (by omega)]
            · rw [if_neg y, if_neg (show ¬ t * 20 + j = t * 20 + k by omega)]
          · rw [if_neg hbt]
            by_cases hb : b < 10
            · rw [if_pos hb, if_pos hb]
              obtain ⟨e2, y1, y2, y3⟩ := E1 b hb
              refine fed_congr (by rw [o9]) fun j hj => ?_
              rw [y2, tn_nI (by omega)] at hj
              rw [o10, if_neg (by omega)]
            · rw [if_neg hb, if_neg hb]
        · show tn (r.1 11 b) = tn (f.1 11 b)
          rw [o11]
        · show (if x < 20 then ftg r x else none) = if x = w then none else if x = w' then some t else if x < 20 then ftg f x else none
          unfold ftg
          rw [o12]
          by_cases y : x = w
          · rw [if_pos y, if_pos y, if_pos (by omega), if_pos rfl]
          · rw [if_neg y, if_neg y]
            by_cases y2 : x = w'
            · rw [if_pos y2, if_pos y2, if_pos (by omega), if_neg (nI_m1 (by omega)), tn_nI (by omega)]
            · rw [if_neg y2, if_neg y2]
theorem jump_CI (h : CI f nb nv) {b : Nat} (hb : b < 10) : CI (rs (rs f 11 b 1) 3 (140 + b) 0) nb nv ∧ fS (rs (rs f 11 b 1) 3 (140 + b) 0) = aJmp (fS f) b := by
  obtain ⟨hI, hA, hV, hL, hE⟩ := id h
  obtain ⟨E1, E2, E3, E4⟩ := id hE
  generalize hr : rs (rs f 11 b 1) 3 (140 + b) 0 = r
  have o : ∀ i, i ≠ 3 → i ≠ 11 → r.1 i = f.1 i := fun i a b => by rw [← hr, rs_r _ _ _ _ a, rs_r _ _ _ _ b]
  have o2 : r.2 = f.2 := by rw [← hr]; rfl
  have o3 : ∀ u, r.1 3 u = if u = 140 + b then 0 else f.1 3 u := fun u => by rw [← hr, rs_i, rs_r _ _ _ _ (show 3 ≠ 11 by decide)]
  have o11 : ∀ c, r.1 11 c = if c = b then 1 else f.1 11 c := fun c => by rw [← hr, rs_r _ _ _ _ (show 11 ≠ 3 by decide), rs_i]
  have o0 := o 0 (by decide) (by decide)
  have o1 := o 1 (by decide) (by decide)
  have o4 := o 4 (by decide) (by decide)
  have o5 := o 5 (by decide) (by decide)
  have o6 := o 6 (by decide) (by decide)
  have o7 := o 7 (by decide) (by decide)
  have o8 := o 8 (by decide) (by decide)
  have o9 := o 9 (by decide) (by decide)
  have o10 := o 10 (by decide) (by decide)
  have o12 := o 12 (by decide) (by decide)
  have h3or : ∀ u, r.1 3 u = f.1 3 u ∨ r.1 3 u = 0 := fun u => by
    rw [o3]
    by_cases q : u = 140 + b
    · rw [if_pos q]; exact Or.inr rfl
    · rw [if_neg q]; exact Or.inl rfl
  refine ⟨⟨by rw [o2]; exact hI, ⟨fun u hu => ?_, fun u u' i hu hu' q1 q2 => hA.2.1 u u' i hu hu' (segs_sub (by rw [o4]) (h3or u) q1) (segs_sub (by rw [o4]) (h3or u') q2), fun u hu q => ?_⟩, ?_, fun c hc => ?_, fun c hc => ?_, by rw [o12]; exact E2, fun c hc => ?_, by rw [o2]; exact E4⟩, AF_ext (fun v => ?_) (fun u => ?_) (fun c => ?_) (fun c => ?_) (fun c => ?_) (fun x => ?_)⟩
  · obtain ⟨c, a, e1, e2, e3, e4, e5, e6⟩ := hA.1 u hu
    rw [o3, o4, o5]
    by_cases q : u = 140 + b
    · rw [if_pos q]
      exact ⟨0, a, nI_0.symm, by decide, e3, e4, fun z => by omega, fun k hk => by omega⟩
    · rw [if_neg q]
      exact ⟨c, a, e1, e2, e3, e4, e5, e6⟩
  · rw [o1] at q
    rw [o3, if_neg (by omega)]
    exact hA.2.2 u hu q
  · unfold cV
    rw [o0, o1]
    exact hV
  · have := hL c hc
    unfold cL1 at this ⊢
    rw [o0, o1, o7, o8]
    exact this
  · unfold eOk
    rw [o9, o10]
    exact E1 c hc
  · rw [o11]
    by_cases q : c = b
    · rw [if_pos q]; exact ⟨1, by decide, rfl⟩
    · rw [if_neg q]; exact E3 c hc
  · show tn (r.1 0 v) = tn (f.1 0 v)
    rw [o0]
  · show (if u < 150 then fag r u else []) = if u = 140 + b then [] else if u < 150 then fag f u else []
    by_cases q : u = 140 + b
    · rw [if_pos q, if_pos (by omega), fag_nil (by rw [o3, if_pos q])]
    · rw [if_neg q, fag_congr (f := f) (g := r) (u := u) (by rw [o3, if_neg q]) (by rw [o4]) fun i _ => by rw [o5, o6]; exact ⟨rfl, rfl⟩]
  · show (if c < 10 then (frw r c).filter (fun z => decide (r.1 1 z = nI c)) else []) = if c < 10 then (frw f c).filter (fun z => decide (f.1 1 z = nI c)) else []
    rw [frw_congr (f := f) (by rw [o7]) fun k _ => by rw [o8], o1]
  · show (if c < 10 then fed r c else []) = if c < 10 then fed f c else []
    rw [fed_congr (f := f) (by rw [o9]) fun k _ => by rw [o10]]
  · show tn (r.1 11 c) = if c = b then 1 else tn (f.1 11 c)
    rw [o11]
    by_cases q : c = b
    · rw [if_pos q, if_pos q]; rfl
    · rw [if_neg q, if_neg q]
  · show (if x < 20 then ftg r x else none) = if x < 20 then ftg f x else none
    unfold ftg
    rw [o12]
/-- a block gets the end of another one -/
theorem takeEnd_CI (h : CI f nb nv) {b n : Nat} (hb : b < 10) (hn : n < 10) (hne : b ≠ n) : CI (Form_takeEnd f (nI b) (nI n)) nb nv ∧ fS (Form_takeEnd f (nI b) (nI n)) = aTake (fS f) b n ∧ (∀ i, i ≠ 3 → i ≠ 4 → i ≠ 11 → (Form_takeEnd f (nI b) (nI n)).1 i = f.1 i) ∧ (Form_takeEnd f (nI b) (nI n)).2 = f.2 := by
  obtain ⟨hI, hA, hV, hL, hE⟩ := id h
  obtain ⟨E1, E2, E3, E4⟩ := id hE
  generalize hr : Form_takeEnd f (nI b) (nI n) = r
  rw [takeEnd_eq hb hn hne] at hr
  have o : ∀ i, i ≠ 3 → i ≠ 4 → i ≠ 11 → r.1 i = f.1 i := fun i a b c => by rw [← hr, rs_r _ _ _ _ a, rs_r _ _ _ _ a, rs_r _ _ _ _ b, rs_r _ _ _ _ c]
  have o2 : r.2 = f.2 := by rw [← hr]; rfl
  have o3 : ∀ u, r.1 3 u = if u = 140 + n then 0 else if u = 140 + b then f.1 3 (140 + n) else f.1 3 u := fun u => by rw [← hr, rs_i, rs_i, rs_r _ _ _ _ (show 3 ≠ 4 by decide), rs_r _ _ _ _ (show 3 ≠ 11 by decide)]
  have o4 : ∀ u, r.1 4 u = if u = 140 + b then f.1 4 (140 + n) else f.1 4 u := fun u => by rw [← hr, rs_r _ _ _ _ (show 4 ≠ 3 by decide), rs_r _ _ _ _ (show 4 ≠ 3 by decide), rs_i, rs_r _ _ _ _ (show 4 ≠ 11 by decide)]
  have o11 : ∀ c, r.1 11 c = if c = b then f.1 11 n else f.1 11 c := fun c => by rw [← hr, rs_r _ _ _ _ (show 11 ≠ 3 by decide), rs_r _ _ _ _ (show 11 ≠ 3 by decide), rs_r _ _ _ _ (show 11 ≠ 4 by decide), rs_i]
  have o0 := o 0 (by decide) (by decide) (by decide)
  have o1 := o 1 (by decide) (by decide) (by decide)
  have o5 := o 5 (by decide) (by decide) (by decide)
  have o6 := o 6 (by decide) (by decide) (by decide)
  have o7 := o 7 (by decide) (by decide) (by decide)
  have o8 := o 8 (by decide) (by decide) (by decide)
  have o9 := o 9 (by decide) (by decide) (by decide)
  have o10 := o 10 (by decide) (by decide) (by decide)
  have o12 := o 12 (by decide) (by decide) (by decide)
  have hseg : ∀ u i, inSeg r u i → u ≠ 140 + n ∧ inSeg f (if u = 140 + b then 140 + n else u) i := fun u i q => by
    unfold inSeg at q
    rw [o3, o4] at q
    by_cases q1 : u = 140 + n
    · rw [if_pos q1] at q
      have : tn 0 = 0 := by decide
      omega
    · rw [if_neg q1] at q
      refine ⟨q1, ?_⟩
      by_cases q2 : u = 140 + b
      · rw [if_pos q2] at q ⊢
        rw [if_pos q2] at q
        exact q
      · rw [if_neg q2] at q ⊢
        rw [if_neg q2] at q
        exact q
  refine ⟨⟨by rw [o2]; exact hI, ⟨fun u hu => ?_, fun u u' i hu hu' q1 q2 => ?_, fun u hu q => ?_⟩, ?_, fun c hc => ?_, fun c hc => ?_, by rw [o12]; exact E2, fun c hc => ?_, by rw [o2]; exact E4⟩, AF_ext (fun v => ?_) (fun u => ?_) (fun c => ?_) (fun c => ?_) (fun c => ?_) (fun x => ?_), o, o2⟩
  · obtain ⟨c, a, e1, e2, e3, e4, e5, e6⟩ := hA.1 u hu
    rw [o3, o4, o5]
    by_cases q : u = 140 + n
    · rw [if_pos q, if_neg (by omega)]
      exact ⟨0, a, nI_0.symm, by decide, e3, e4, fun z => by omega, fun k hk => by omega⟩
    · rw [if_neg q]
      by_cases q2 : u = 140 + b
      · rw [if_pos q2, if_pos q2]
        exact hA.1 (140 + n) (by omega)
      · rw [if_neg q2, if_neg q2]
        exact ⟨c, a, e1, e2, e3, e4, e5, e6⟩
  · obtain ⟨y1, y2⟩ := hseg u i q1
    obtain ⟨y3, y4⟩ := hseg u' i q2
    have := hA.2.1 _ _ i (by split <;> omega) (by split <;> omega) y2 y4
    by_cases z1 : u = 140 + b
    · rw [if_pos z1] at this
      by_cases z2 : u' = 140 + b
      · omega
      · rw [if_neg z2] at this
        omega
    · rw [if_neg z1] at this
      by_cases z2 : u' = 140 + b
      · rw [if_pos z2] at this
        omega
      · rw [if_neg z2] at this
        exact this
  · rw [o1] at q
    rw [o3, if_neg (by omega), if_neg (by omega)]
    exact hA.2.2 u hu q
  · unfold cV
    rw [o0, o1]
    exact hV
  · have := hL c hc
    unfold cL1 at this ⊢
    rw [o0, o1, o7, o8]
    exact this
  · unfold eOk
    rw [o9, o10]
    exact E1 c hc
  · rw [o11]
    by_cases q : c = b
    · rw [if_pos q]; exact E3 n hn
    · rw [if_neg q]; exact E3 c hc
  · show tn (r.1 0 v) = tn (f.1 0 v)
    rw [o0]
  · show (if u < 150 then fag r u else []) = if u = 140 + n then [] else if u = 140 + b then (if 140 + n < 150 then fag f (140 + n) else []) else if u < 150 then fag f u else []
    by_cases q : u = 140 + n
    · rw [if_pos q, if_pos (by omega), fag_nil (by rw [o3, if_pos q])]
    · rw [if_neg q]
      by_cases q2 : u = 140 + b
      · rw [if_pos q2, if_pos (show u < 150 by omega), if_pos (show 140 + n < 150 by omega)]
        unfold fag ag1
        rw [o3, if_neg q, if_pos q2, o4, if_pos q2, o5, o6]
      · rw [if_neg q2, fag_congr (f := f) (g := r) (u := u) (by rw [o3, if_neg q, if_neg q2]) (by rw [o4, if_neg q2]) fun i _ => by rw [o5, o6]; exact ⟨rfl, rfl⟩]
  · show (if c < 10 then (frw r c).filter (fun z => decide (r.1 1 z = nI c)) else []) = if c < 10 then (frw f c).filter (fun z => decide (f.1 1 z = nI c)) else []
    rw [frw_congr (f := f) (by rw [o7]) fun k _ => by rw [o8], o1]
  · show (if c < 10 then fed r c else []) = if c < 10 then fed f c else []
    rw [fed_congr (f := f) (by rw [o9]) fun k _ => by rw [o10]]
  · show tn (r.1 11 c) = if c = b then tn (f.1 11 n) else tn (f.1 11 c)
    rw [o11]
    split <;> rfl
  · show (if x < 20 then ftg r x else none) = if x < 20 then ftg f x else none
    unfold ftg
    rw [o12]
end ENDS
