/-! A PASS OVER A FORM, in rows -/
theorem nodup_of {l : List Nat} (h : ∀ (i j x : Nat), l[i]? = some x → l[j]? = some x → i = j) : l.Nodup := by
  induction l with
  | nil => exact List.nodup_nil
  | cons y r ih =>
    rw [List.nodup_cons]
    refine ⟨fun hy => ?_, ih fun i j x h1 h2 => ?_⟩
    · obtain ⟨i, hi⟩ := List.getElem?_of_mem hy
      have := h 0 (i + 1) y rfl hi
      omega
    · have := h (i + 1) (j + 1) x h1 h2
      omega
section PASS
variable {f g : Ob} {nb nv T : Nat}
theorem sweep_CI (h : CI g nb nv) : CI (Form_sweep g) nb nv ∧ fS (Form_sweep g) = fS g ∧ (Form_sweep g).2 = g.2 ∧ (Form_sweep g).1 1 = g.1 1 ∧ tidy (Form_sweep g) := by
  obtain ⟨hI, hA, hV, hL, hE⟩ := id h
  have hnb := hI.2.2.1
  have hnv := hI.2.2.2.2.2
  have hsok : ∀ b, b < nb → sOk g b := fun b hb => by
    obtain ⟨s, hs, hs7, q1, -, -⟩ := hL b (by omega)
    exact ⟨s, hs, hs7, fun k hk => by
      obtain ⟨v, hv, ev, -⟩ := q1 k hk
      exact ⟨v, by omega, ev⟩⟩
  have hsw := sweep_eq hI.1 hnb hsok
  generalize Form_sweep g = s at hsw
  have hfrw := fun b hb => frw_sweep (g := s) hsw hb (hsok b hb)
  obtain ⟨r2, r, rl, r7, r8⟩ := hsw
  have o0 := r 0 (by decide) (by decide)
  have o1 := r 1 (by decide) (by decide)
  have o3 := r 3 (by decide) (by decide)
  have o4 := r 4 (by decide) (by decide)
  have o5 := r 5 (by decide) (by decide)
  have o6 := r 6 (by decide) (by decide)
  have o9 := r 9 (by decide) (by decide)
  have o10 := r 10 (by decide) (by decide)
  have o11 := r 11 (by decide) (by decide)
  have o12 := r 12 (by decide) (by decide)
  have hU : ∀ b, lsU g b (tn (g.1 7 b)) = (frw g b).filter fun v => decide (g.1 1 v = nI b) := fun b => rfl
  have hls : ∀ b, b < nb → aLs (fS g) b = lsU g b (tn (g.1 7 b)) := fun b hb => by
    rw [hU]
    exact if_pos (by omega)
  have hlen : ∀ b, b < nb → (lsU g b (tn (g.1 7 b))).length ≤ 140 := fun b hb => by
    obtain ⟨n, hn, hn7, -⟩ := hL b (by omega)
    refine Nat.le_trans (lsU_len g b _) ?_
    rw [hn7, tn_nI (by omega)]
    exact hn
  have hnd : ∀ b, b < nb → (lsU g b (tn (g.1 7 b))).Nodup := fun b hb => by
    rw [hU]
    have hnn : (frw g b).Nodup := by
      refine nodup_of fun i j x h1 h2 => ?_
      obtain ⟨n, hn, hn7, q1, q2, -⟩ := hL b (by omega)
      rw [frw_get hn7 hn] at h1 h2
      by_cases hi : i < n
      · by_cases hj : j < n
        · rw [if_pos hi] at h1
          rw [if_pos hj] at h2
          obtain ⟨v, hv, ev, -⟩ := q1 i hi
          obtain ⟨w, hw, ew, -⟩ := q1 j hj
          rw [ev, tn_nI (by omega)] at h1
          rw [ew, tn_nI (by omega)] at h2
          exact q2 i j hi hj (by rw [ev, ew, Option.some.inj h1, Option.some.inj h2])
        · rw [if_neg hj] at h2; cases h2
      · rw [if_neg hi] at h1; cases h1
    exact hnn.filter _
  have ent : ∀ b j, b < nb → j < (lsU g b (tn (g.1 7 b))).length → ∃ v, (lsU g b (tn (g.1 7 b)))[j]? = some v ∧ v < nv ∧ s.1 8 (b * 140 + j) = nI v ∧ g.1 1 v = nI b := fun b j hb hj => by
    obtain ⟨x, hg⟩ : ∃ x, (lsU g b (tn (g.1 7 b)))[j]? = some x := ⟨_, List.getElem?_eq_getElem hj⟩
    have hm : x ∈ aLs (fS g) b := by rw [hls b hb]; exact List.mem_of_getElem? hg
    have e := (rl b hb).2 j hj
    rw [List.getD_eq_getElem?_getD, hg] at e
    obtain ⟨-, q2, q3⟩ := (fS_ls_mem h).mp hm
    exact ⟨_, hg, q2, e, q3⟩
  have hCI : CI s nb nv := by
    refine ⟨by rw [r2]; exact hI, ?_, ?_, fun b hb => ?_, fun b hb => ?_, by rw [o12]; exact hE.2.1, by rw [o11]; exact hE.2.2.1, by rw [r2]; exact hE.2.2.2⟩
    · unfold cA inSeg
      rw [o1, o3, o4, o5]
      exact hA
    · unfold cV
      rw [o0, o1]
      exact hV
    · by_cases hbn : b < nb
      · refine ⟨_, hlen b hbn, (rl b hbn).1, fun k hk => ?_, fun k k' hk hk' e => ?_, fun v hv e => ?_⟩
        · obtain ⟨v, -, q2, q3, q4⟩ := ent b k hbn hk
          exact ⟨v, q2, q3, fun _ => Or.inl (by rw [o1]; exact q4)⟩
        · obtain ⟨v, z1, q2, q3, -⟩ := ent b k hbn hk
          obtain ⟨w, y1, y2, y3, -⟩ := ent b k' hbn hk'
          rw [q3, y3] at e
          have : v = w := nI_inj (by omega) (by omega) e
          exact nodup_idx (hnd b hbn) z1 (by rw [this]; exact y1)
        · rw [o1] at e
          have hm := (fS_ls_mem h).mpr ⟨hb, hv, e⟩
          rw [hls b hbn] at hm
          obtain ⟨k, hk⟩ := List.getElem?_of_mem hm
          have hkl := (List.getElem?_eq_some_iff.mp hk).1
          obtain ⟨w, y1, -, y3, -⟩ := ent b k hbn hkl
          rw [hk] at y1
          exact ⟨k, hkl, by rw [y3, Option.some.inj y1]⟩
      · have := hL b hb
        obtain ⟨n, hn, hn7, q1, q2, q3⟩ := this
        refine ⟨n, hn, by rw [r7 b (by omega)]; exact hn7, fun k hk => ?_, fun k k' hk hk' e => q2 k k' hk hk' (by rw [r8 _ (by omega), r8 _ (by omega)] at e; exact e), fun v hv e => ?_⟩
        · rw [r8 _ (by omega), o0, o1]
          exact q1 k hk
        · rw [o1] at e
          obtain ⟨k, hk, ek⟩ := q3 v hv e
          exact ⟨k, hk, by rw [r8 _ (by omega)]; exact ek⟩
    · unfold eOk
      rw [o9, o10]
      exact hE.1 b hb
  refine ⟨hCI, AF_ext (fun v => ?_) (fun u => ?_) (fun b => ?_) (fun b => ?_) (fun b => ?_) (fun x => ?_), r2, o1, fun b n k hb hn hn1 hk => ?_⟩
  · show tn (s.1 0 v) = tn (g.1 0 v)
    rw [o0]
  · show (if u < 150 then fag s u else []) = if u < 150 then fag g u else []
    rw [fag_congr (f := g) (g := s) (u := u) (by rw [o3]) (by rw [o4]) fun i _ => by rw [o5, o6]; exact ⟨rfl, rfl⟩]
  · show (if b < 10 then (frw s b).filter (fun z => decide (s.1 1 z = nI b)) else []) = if b < 10 then (frw g b).filter (fun z => decide (g.1 1 z = nI b)) else []
    by_cases hb : b < 10
    · rw [if_pos hb, if_pos hb, o1]
      by_cases hbn : b < nb
      · rw [hfrw b hbn, List.filter_filter]
        exact List.filter_congr fun z _ => by rw [Bool.and_self]
      · obtain ⟨n, hn, hn7, -⟩ := hL b hb
        rw [frw_congr (f := g) (r7 b (by omega)) fun k hk => r8 _ (by omega)]
    · rw [if_neg hb, if_neg hb]
  · show (if b < 10 then fed s b else []) = if b < 10 then fed g b else []
    rw [fed_congr (f := g) (by rw [o9]) fun k _ => by rw [o10]]
  · show tn (s.1 11 b) = tn (g.1 11 b)
    rw [o11]
  · show (if x < 20 then ftg s x else none) = if x < 20 then ftg g x else none
    unfold ftg
    rw [o12]
  · rw [nbt hCI] at hb
    have e : (lsU g b (tn (g.1 7 b))).length = n := nI_inj (by have := hlen b hb; omega) (by omega) ((rl b hb).1.symm.trans hn)
    obtain ⟨v, -, q2, q3, q4⟩ := ent b k hb (by omega)
    rw [q3, tn_nI (by omega), o1]
    exact q4
/-- what comes of a pass -/
def passQ (f : Ob) (nb nv T : Nat) (r : Int32 × Ob) : Prop := FG r.2 nb nv T ∧ tidy r.2 ∧ nwF f r.2 ∧ r.1 = r.2.2.1 5 - f.2.1 5 ∧ (∀ i, i ≠ 1 → i ≠ 4 → i ≠ 5 → r.2.2.1 i = f.2.1 i) ∧ r.2.2.1 4 = f.2.1 4 + 1 ∧ r.2.2.2 = f.2.2
theorem pass_end (hP : passP f g nb nv T) : passQ f nb nv T (((oG (Form_sweep g) 4 ((Form_sweep g).2.1 4 + 1)).2.1 5 - f.2.1 5), oG (Form_sweep g) 4 ((Form_sweep g).2.1 4 + 1)) := by
  obtain ⟨⟨h1, h2, h3, h4⟩, h5, h6⟩ := hP
  obtain ⟨s1, s2, s3, s4, s5⟩ := sweep_CI h1
  generalize Form_sweep g = s at s1 s2 s3 s4 s5
  generalize hr : oG s 4 (s.2.1 4 + 1) = r
  have e1 : r.1 = s.1 := by rw [← hr]; rfl
  have ei : ∀ i, i ≠ 4 → r.2.1 i = s.2.1 i := fun i hi => by rw [← hr, oG_i, if_neg hi]
  have e4 : r.2.1 4 = s.2.1 4 + 1 := by rw [← hr, oG_i, if_pos rfl]
  have eb : r.2.2 = s.2.2 := by rw [← hr]; rfl
  have hfS : fS r = fS g := by rw [← s2]; unfold fS fag ag1 frw fed ftg; rw [e1]
  have hfP : fP r = fP g := fP_congr (by rw [e1, s4]) (by rw [ei 2 (by decide), s3])
  have hfC : fC r = fC g := fC_congr (by rw [ei 1 (by decide), s3])
  have hCI : CI r nb nv := by
    obtain ⟨i1, i2, i3, i4, i5⟩ := s1
    refine ⟨by rw [ei 0 (by decide), ei 2 (by decide)]; exact i1, ?_, ?_, ?_, ?_, by rw [e1]; exact i5.2.1, by rw [e1]; exact i5.2.2.1, by rw [ei 1 (by decide)]; exact i5.2.2.2⟩
    · unfold cA inSeg; rw [e1]; exact i2
    · unfold cV; rw [e1]; exact i3
    · intro b hb
      have := i4 b hb
      unfold cL1 at this ⊢
      rw [e1]
      exact this
    · intro b hb
      unfold eOk
      rw [e1]
      exact i5.1 b hb
  refine ⟨⟨hCI, by rw [hfS, hfP, hfC]; exact h2, by rw [hfS, hfC]; exact h3, KT_congr (by rw [e1, s4]) (by rw [ei 1 (by decide), s3]) (by rw [ei 5 (by decide), s3]) h4⟩, ?_, fun a b => by rw [hfS]; exact h5 a b, rfl, fun i a b c => ?_, ?_, by rw [eb, s3]; exact h6.2⟩
  · unfold tidy
    show ∀ b s_1 k, b < tn (r.2.1 0) → r.1 7 b = nI s_1 → s_1 ≤ 140 → k < s_1 → r.1 1 (tn (r.1 8 (b * 140 + k))) = nI b
    rw [ei 0 (by decide), e1]
    exact s5
  · show r.2.1 i = _
    rw [ei i b, s3]
    exact h6.1 i a c
  · show r.2.1 4 = _
    rw [e4, s3, h6.1 4 (by decide) (by decide)]
theorem passOver_spec (hF : FG f nb nv T) (ht : tidy f) (cn nu de : Ob) {p : Int32} (hp : p = 1 ∨ p = 2 ∨ p = 3 ∨ p = 4) : passQ f nb nv T ((Ph_passOver f cn nu de p).1, (Ph_passOver f cn nu de p).2.1) := by
  unfold Ph_passOver Ph_passOver_44 Ph_passOver_55 Ph_passOver_66 Ph_passOver_80 Ph_passOver_86
  have e5 : ∀ s : Ob, s.2.1 5 = (oG s 4 (s.2.1 4 + 1)).2.1 5 := fun s => by rw [oG_i, if_neg (by decide)]
  rcases hp with e | e | e | e
  · rw [if_pos e]
    dsimp only
    rw [e5]
    exact pass_end (constants_spec hF ht cn)
  · rw [if_neg (by rw [e]; decide), if_pos e]
    dsimp only
    rw [e5]
    exact pass_end (numbers_spec hF ht nu)
  · rw [if_neg (by rw [e]; decide), if_neg (by rw [e]; decide), if_pos e]
    dsimp only
    rw [e5]
    exact pass_end (dead_spec hF de)
  · rw [if_neg (by rw [e]; decide), if_neg (by rw [e]; decide), if_neg (by rw [e]; decide), if_pos e]
    dsimp only
    rw [e5]
    exact pass_end (joiner_spec hF ht).1
end PASS
