/-! THE LAW: runs are right, all of it -/
section LAWRUNB
variable {to ma tr cn nu de ru la tb tf ph : Ob} {cs : Int64}
theorem of_0 : Ph_ofRun la ph 0 = some (la.2.1 0) := by unfold Ph_ofRun; rw [if_pos rfl]
theorem of_1 : Ph_ofRun la ph 1 = some (la.2.1 1) := by unfold Ph_ofRun; rw [if_neg (show ¬ (1 : Int32) = 0 by decide), if_pos rfl]
theorem of_2 : Ph_ofRun la ph 2 = some (la.2.1 2) := by unfold Ph_ofRun; rw [if_neg (show ¬ (2 : Int32) = 0 by decide), if_neg (show ¬ (2 : Int32) = 1 by decide), if_pos rfl]
theorem of_3 : Ph_ofRun la ph 3 = some (la.2.1 3) := by unfold Ph_ofRun; rw [if_neg (show ¬ (3 : Int32) = 0 by decide), if_neg (show ¬ (3 : Int32) = 1 by decide), if_neg (show ¬ (3 : Int32) = 2 by decide), if_pos rfl]
theorem of_5 : Ph_ofRun la ph 5 = some (ph.2.1 0) := by unfold Ph_ofRun; rw [if_neg (show ¬ (5 : Int32) = 0 by decide), if_neg (show ¬ (5 : Int32) = 1 by decide), if_neg (show ¬ (5 : Int32) = 2 by decide), if_neg (show ¬ (5 : Int32) = 3 by decide), if_neg (show ¬ (5 : Int32) = 4 by decide), if_pos rfl]
theorem cost_0 (hph : ph.2.2 0 = true) (x y : Int32) : ∃ tr' cn' nu' de' ru' tf', Ph_wouldCost ma tr cn nu de ru tf ph 0 x y = some ((Runner_walkForm_k ma ru tf x y).2.2.1 3, tr', cn', nu', de', ru', tf') := by
  unfold Ph_wouldCost
  rw [if_neg (show ¬ (0 : Int32) < 0 by decide), if_neg (show ¬ (5 : Int32) < 0 by decide), if_pos hph]
  unfold Ph_wouldCost_L51
  rw [loopW_eq]
  have hB : Ph_wouldCost_L51b ma (Form_take ma tr) cn nu de ru tf ph 0 x y 0 = .inr (some ((Runner_walkForm_k (Form_take ma tr) ru tf x y).2.2.1 3, Form_take ma tr, cn, nu, de, (Runner_walkForm_k (Form_take ma tr) ru tf x y).1, (Runner_walkForm_k (Form_take ma tr) ru tf x y).2)) := by
    unfold Ph_wouldCost_L51b Ph_wouldCost_96
    rw [if_neg (show ¬ (0 : Int32) < 0 * 4 by decide)]
  dsimp only
  rw [hB, cost_ind (take_alike ma tr) ru tf ru tf x y]
  exact ⟨_, _, _, _, _, _, rfl⟩
theorem run_303 {c : Nat} (hph : ph.2.2 0 = true) (v2 v3 v4 v9 v10 : Int32) (h5 : ph.2.1 0 = v4 + 2) (h3 : la.2.1 3 = nI c) (hk : (Runner_walkForm_k ma ru tf v2 v3).2.2.1 3 = nI c) (hs : hsC la v10 = v9) : LR (Law_isRunRight_L303 to ma tr cn nu de ru la tb tf ph cs v2 v3 v4 v9 v10 0) := by
  obtain ⟨tr', cn', nu', de', ru', tf', e⟩ := cost_0 (ma := ma) (tr := tr) (cn := cn) (nu := nu) (de := de) (ru := ru) (tf := tf) hph v2 v3
  have hl := (loop_itr (fun a : Int32 × Int32 => Law_isRunRight_L303b to ma tr cn nu de ru la tb tf ph cs v2 v3 v4 v9 a.1 a.2) (fun i (s : Int32) => (s, nI i)) (fun i s => s * 31 + la.1 0 i) (fun s => if s = v9 then some (true, tr', cn', nu', de', ru', la, tb, tf', ph, cs) else (Law_isRunRight_368 to ma tr cn nu de ru la tb tf ph cs)) (fun _ _ => True) 8 (fun i s hi _ => ⟨?_, trivial⟩) (fun s _ => ?_) 8 0 v10 rfl trivial).1
  · unfold Law_isRunRight_L303
    refine ⟨tr', cn', nu', de', ru', la, tb, tf', ph, cs, ?_, hph⟩
    exact hl.trans (if_pos hs)
  · show Law_isRunRight_L303b to ma tr cn nu de ru la tb tf ph cs v2 v3 v4 v9 s (nI i) = _
    unfold Law_isRunRight_L303b
    rw [if_pos (show nI i < 8 from nI_lt (a := i) (b := 8) hi (by decide)), cell_at hi, obn_some, nI_1]
  · show Law_isRunRight_L303b to ma tr cn nu de ru la tb tf ph cs v2 v3 v4 v9 s (nI 8) = _
    unfold Law_isRunRight_L303b Law_isRunRight_361
    rw [if_neg (show ¬ nI 8 < 8 by decide), of_5, obn_some, if_pos h5, of_3, obn_some, e, obn_some, h3, hk, if_pos rfl]
theorem run_268 {L c : Nat} (h2 : la.2.1 2 = nI L) (hL : L < 2 ^ 31) (hph : ph.2.2 0 = true) (v2 v3 v4 v9 : Int32) (h5 : ph.2.1 0 = v4 + 2) (h3 : la.2.1 3 = nI c) (hk : (Runner_walkForm_k ma ru tf v2 v3).2.2.1 3 = nI c) (hs : hsC la (hsP la (min 60 L)) = v9) : LR (Law_isRunRight_L268 to ma tr cn nu de ru la tb tf ph cs v2 v3 v4 (nI L) v9 0 0) := by
  unfold Law_isRunRight_L268
  have hl := (loop_itr (fun a : Int32 × Int32 => Law_isRunRight_L268b to ma tr cn nu de ru la tb tf ph cs v2 v3 v4 (nI L) v9 a.1 a.2) (fun i (s : Int32) => (s, nI i)) (fun i s => s * 31 + la.1 1 i) (fun s => Law_isRunRight_L303 to ma tr cn nu de ru la tb tf ph cs v2 v3 v4 v9 s 0) (fun _ _ => True) (min 60 L) (fun i s hi _ => ⟨?_, trivial⟩) (fun s _ => ?_) (min 60 L) 0 0 (by omega) trivial).1
  · have hl' : loopW (fun a : Int32 × Int32 => Law_isRunRight_L268b to ma tr cn nu de ru la tb tf ph cs v2 v3 v4 (nI L) v9 a.1 a.2) (0, 0) = Law_isRunRight_L303 to ma tr cn nu de ru la tb tf ph cs v2 v3 v4 v9 (hsP la (min 60 L)) 0 := hl
    rw [hl']
    exact run_303 hph v2 v3 v4 v9 _ h5 h3 hk hs
  · show Law_isRunRight_L268b to ma tr cn nu de ru la tb tf ph cs v2 v3 v4 (nI L) v9 s (nI i) = _
    unfold Law_isRunRight_L268b
    rw [min_60 hL, if_pos (nI_lt hi (by omega)), printed_at h2 hL hi, obn_some, nI_1]
  · show Law_isRunRight_L268b to ma tr cn nu de ru la tb tf ph cs v2 v3 v4 (nI L) v9 s (nI (min 60 L)) = _
    unfold Law_isRunRight_L268b
    rw [min_60 hL, if_neg (nI_nlt (Nat.le_refl _) (by omega))]
theorem run_63n (v2 v3 v4 v5 v6 v7 v8 : Int32) (h2 : la.2.1 2 = v7) : ∃ s, Law_isRunRight_L63 to ma tr cn nu de ru la tb tf ph cs v2 v3 v4 v5 v6 v7 v8 0 0 = Law_isRunRight_L98 to ma tr cn nu de ru la tb tf ph cs v2 v3 v4 v5 v6 v7 v8 s 0 := by
  by_cases q : v7 < 0
  · refine ⟨0, ?_⟩
    unfold Law_isRunRight_L63
    rw [loopW_eq]
    have hB : Law_isRunRight_L63b to ma tr cn nu de ru la tb tf ph cs v2 v3 v4 v5 v6 v7 v8 0 0 = .inr (Law_isRunRight_L98 to ma tr cn nu de ru la tb tf ph cs v2 v3 v4 v5 v6 v7 v8 0 0) := by
      unfold Law_isRunRight_L63b J_min
      have h60 : v7 < 60 := by
        rw [Int32.lt_iff_toInt_lt] at q ⊢
        have a : (0 : Int32).toInt = 0 := rfl
        have b : (60 : Int32).toInt = 60 := rfl
        omega
      have h0 : ¬ (0 : Int32) < v7 := by
        rw [Int32.lt_iff_toInt_lt] at q ⊢
        have a : (0 : Int32).toInt = 0 := rfl
        omega
      rw [if_pos h60, if_neg h0]
    dsimp only
    rw [hB]
  · obtain ⟨L, hL, e⟩ := nI_of q
    rw [e] at h2 ⊢
    exact ⟨_, run_63 h2 hL v2 v3 v4 v5 v6 v8⟩
theorem law_run {nb nv T nb' : Nat} (hF : FG ma nb' nv T) (ht : tidy ma) (hok : tOk to nb) (h8 : ∀ b, nl to b ≤ 8) (hph : ph.2.2 0 = true) (hnw : ∀ x y, noWorse (runT to x y) (runA (fS ma) x y)) (z : Int32) : LR (Law_isRunRight to ma tr cn nu de ru la tb tf ph cs z) := by
  unfold Law_isRunRight
  rw [of_5, obn_some]
  generalize Law_below_20 (z >>> (3 &&& 31)) - 5 = x
  generalize Law_below_9 (z >>> (6 &&& 31)) = y
  unfold Ph_run Ph_run_17 Ph_run_21 Ph_countRun
  dsimp only
  have w1 := (walkBlocks_spec (ru := ru) (t := la) hok x y).1
  generalize hw : Runner_walkBlocks to ru la x y = w at w1
  obtain ⟨ru1, t1⟩ := w
  dsimp only at w1 ⊢
  have hn := hnw x y
  generalize hp1 : oG ph 0 (ph.2.1 0 + 1) = ph1
  have p1 : ph1.2.1 0 = ph.2.1 0 + 1 := by rw [← hp1]; rfl
  have p1b : ph1.2.2 0 = true := by rw [← hp1]; exact hph
  generalize cs + (t1.2.1 3).toInt64 = cs1
  unfold Law_isRunRight_34
  rw [of_1, obn_some, of_2, obn_some, of_3, obn_some]
  cases hr : runT to x y with
  | none =>
    rw [hr] at w1
    obtain ⟨m, c, ⟨-, a1, a2, a3, a4, a5, a6⟩, k1⟩ := w1
    obtain ⟨s, e⟩ := run_63n (to := to) (ma := ma) (tr := tr) (cn := cn) (nu := nu) (de := de) (ru := ru1) (la := t1) (tb := tb) (tf := tf) (ph := ph1) (cs := cs1) x y (ph.2.1 0) (t1.2.1 0) (t1.2.1 1) (t1.2.1 2) (t1.2.1 3) rfl
    rw [e, a2, run_98 (how := 2) (by decide) _ _ _ _ _ _ _ (Or.inr a3), run_146 (how := 2) (n := 300) (by decide) a2 a6 (by decide) (fun _ => rfl)]
    unfold Law_isRunRight_186
    rw [if_pos (show nI 2 = 2 by decide), of_5, obn_some, if_pos p1]
    exact ⟨_, _, _, _, _, _, _, _, _, _, rfl, p1b⟩
  | some r =>
    obtain ⟨trp, ret, m, c, n⟩ := r
    obtain ⟨f1, f2, f3, f4⟩ := runT_facts h8 hr
    rw [hr] at w1 hn
    obtain ⟨c', n', hc', hn', hA⟩ := hn
    obtain ⟨t1A, t1K⟩ := w1
    obtain ⟨-, a1, a2, a3, a4, a5, a6⟩ := id t1A
    generalize hhow : (if trp = true then 1 else 0) = how at t1A a2
    have hh1 : how ≤ 1 := by rw [← hhow]; split <;> decide
    have hret : how = 0 ∨ t1.2.1 1 = 0 := by
      by_cases q : trp = true
      · exact Or.inr (by rw [a3, f1 q])
      · exact Or.inl (by rw [← hhow, if_neg q])
    rw [a2, a4, run_63 a4 (by omega), run_98 (how := how) (by omega) _ _ _ _ _ _ _ hret, run_146 (how := how) (n := n) (by omega) a2 a6 f3 (fun q => by omega)]
    unfold Law_isRunRight_186
    rw [if_neg (show ¬ nI how = 2 from fun q => by have := nI_inj (a := how) (b := 2) (by omega) (by decide) q; omega)]
    unfold Ph_isAlike Ph_isAlike_34 Ph_isAlike_51
    rw [if_pos p1b]
    have k1 := (walkBlocks_spec_k (ru := ru1) (t := tb) hok x y).1
    rw [hr] at k1
    generalize Runner_walkBlocks_k to ru1 tb x y = w2 at k1
    obtain ⟨ru2, tb2⟩ := w2
    have k2 := (walk_spec_k hF ht ru2 tf x y).1
    rw [hA] at k2
    dsimp only
    generalize Runner_walkForm_k ma ru2 tf x y = w3 at k2
    obtain ⟨ru3, tf3⟩ := w3
    dsimp only at k1 k2 ⊢
    obtain ⟨k1A, k1K⟩ := k1
    obtain ⟨k2A, k2K⟩ := k2
    obtain ⟨e1, e2, e3⟩ := tp_eq k1A k2A k1K k2K
    rw [obn_some]
    dsimp only
    rw [like_k e1 e2 f4 (fun i hi => e3 i hi (by omega))]
    unfold Law_isRunRight_216
    rw [if_pos rfl]
    unfold Ph_runForm Ph_runForm_34 Ph_runForm_38 Ph_countRun
    rw [if_pos p1b]
    have k3 := (walk_spec hF ht ru3 t1 x y).1
    rw [hA] at k3
    dsimp only
    generalize Runner_walkForm ma ru3 t1 x y = w4 at k3
    obtain ⟨ru4, t4⟩ := w4
    dsimp only at k3 ⊢
    obtain ⟨k3A, k3K⟩ := k3
    rw [obn_some]
    dsimp only
    rw [hhow] at k3A
    obtain ⟨g1, g2, g3⟩ := tp_eq t1A k3A t1K k3K
    obtain ⟨-, b1, b2, b3, b4, b5, b6⟩ := id k3A
    unfold Law_isRunRight_225
    rw [b2, if_pos rfl, of_1, obn_some, if_pos g1.2.2.1.symm, of_2, obn_some, if_pos b4, of_3, obn_some, b5, a5, if_neg (show ¬ nI c < nI c' from nI_nlt hc' (by omega))]
    have k4 := (walk_spec_k hF ht ru4 tf3 x y).1
    rw [hA] at k4
    obtain ⟨⟨-, -, -, -, -, d5, -⟩, -⟩ := k4
    refine run_268 b4 (by omega) ?_ x y _ _ ?_ b5 d5 ?_
    · exact p1b
    · show ph1.2.1 0 + 1 = ph.2.1 0 + 2
      rw [p1, Int32.add_assoc]
      rfl
    · have q1 : hsP t4 (min 60 m.2.length) = hsP t1 (min 60 m.2.length) := itr_same _ _ _ fun k s _ hk => by rw [g3 k (by omega) (by omega)]
      have q2 : ∀ s, hsC t4 s = hsC t1 s := fun s => itr_same _ _ _ fun k s _ hk => by rw [g1.1 k (by omega)]
      rw [q1, q2]
end LAWRUNB
