section JOINER2
variable {f g : Ob} {nb nv T : Nat}
theorem joinStep_spec (hF : FG f nb nv T) (ht : tidy f) {b n : Nat} (hb : fC f b) (hk1 : f.1 11 b = 1) (htg : f.1 12 (b * 2) = nI n) (hnb : n < nb) (hnn : n ≠ b) (hed : f.1 9 n = 1) : FG (Form_loseBlock (Joiner_moveEnd (Joiner_moveValues f (nI b) (nI n)) (nI b) (nI n)) (nI n)) nb nv T ∧ tidy (Form_loseBlock (Joiner_moveEnd (Joiner_moveValues f (nI b) (nI n)) (nI b) (nI n)) (nI n)) ∧ nwF f (Form_loseBlock (Joiner_moveEnd (Joiner_moveValues f (nI b) (nI n)) (nI b) (nI n)) (nI n)) ∧ ist f (Form_loseBlock (Joiner_moveEnd (Joiner_moveValues f (nI b) (nI n)) (nI b) (nI n)) (nI n)) := by
  obtain ⟨f1, F1, nw1, hj, e1, m1, m2, m3, m4, m5, m6, m7⟩ := moveValues_spec hF ht hb hk1 htg hnb hnn hed
  have hn10 : n < 10 := by have := hF.1.1.2.2.1; omega
  have hb10 := hb.1
  have hCn := (join_facts F1.2.1 hj).1
  have hC1 : fC f1 = fC f := fC_congr e1
  generalize Joiner_moveValues f (nI b) (nI n) = g1 at m1 m2 m3 m4 m5 m6 m7
  have hme : Joiner_moveEnd g1 (nI b) (nI n) = Form_takeEnd (Form_changeWay (Form_changeWay (Form_dropEdge g1 (nI (b * 2))) (nI (n * 2)) (nI (b * 2))) (nI (n * 2 + 1)) (nI (b * 2 + 1))) (nI b) (nI n) := by
    unfold Joiner_moveEnd Joiner_moveEnd_L9
    rw [ix2_0 b, loopW_eq]
    unfold Joiner_moveEnd_L9b
    rw [if_pos (show (0 : Int32) < 2 by decide)]
    dsimp only
    rw [loopW_eq, if_pos (show (0 : Int32) + 1 < 2 by decide)]
    dsimp only
    rw [loopW_eq, if_neg (show ¬ (0 : Int32) + 1 + 1 < 2 by decide)]
    dsimp only
    have a0 : ∀ c : Nat, nI c * 2 + 0 = nI (c * 2) := fun c => ix2 c 0
    have a1 : ∀ c : Nat, nI c * 2 + (0 + 1) = nI (c * 2 + 1) := fun c => ix2 c 1
    rw [a0, a0, a1, a1]
  rw [hme]
  obtain ⟨c1, c2, c3, c4⟩ := dropEdge_CI m1 (show b * 2 < 20 by omega)
  generalize Form_dropEdge g1 (nI (b * 2)) = g2 at c1 c2 c3 c4
  obtain ⟨d1, d2, d3, d4⟩ := changeWay_CI c1 (show n * 2 < 20 by omega) (show b * 2 < 20 by omega)
  generalize Form_changeWay g2 (nI (n * 2)) (nI (b * 2)) = g3 at d1 d2 d3 d4
  obtain ⟨k1, k2, k3, k4⟩ := changeWay_CI d1 (show n * 2 + 1 < 20 by omega) (show b * 2 + 1 < 20 by omega)
  generalize Form_changeWay g3 (nI (n * 2 + 1)) (nI (b * 2 + 1)) = g4 at k1 k2 k3 k4
  obtain ⟨l1, l2, l3, l4⟩ := takeEnd_CI k1 hb10 hn10 hnn.symm
  generalize Form_takeEnd g4 (nI b) (nI n) = g5 at l1 l2 l3 l4
  have i5 : g5.2 = g1.2 := l4.trans (k3.2.trans (d3.2.trans c4))
  have r5 : ∀ i, i = 1 ∨ i = 7 ∨ i = 8 → g5.1 i = g1.1 i := fun i hi => by
    rw [l3 i (by omega) (by omega) (by omega), k4 i (by omega) (by omega), d4 i (by omega) (by omega), c3 i (by omega) (by omega) (by omega) (by omega) (by omega) (by omega)]
  have hbit : bt (g5.2.1 1) n = true := by
    rw [i5, m5 1 (by decide)]
    rw [hC1] at hCn
    exact hCn.2
  obtain ⟨z1, z2, z3, z4, z5, z6, z7, z8, z9, z10, z11⟩ := loseBlock_CI l1 hn10 hbit
  generalize Form_loseBlock g5 (nI n) = g6 at z1 z2 z3 z4 z5 z6 z7 z8 z9 z10 z11
  have hS : fS g6 = aJoin (fS f1) b n := by
    rw [z2, l2, k2, d2, c2, m2]
    rfl
  have hP5 : fP g5 = plJ (fP f1) b n := by
    rw [fP_congr (f := g1) (r5 1 (Or.inl rfl)) (by rw [i5]), m3]
  have hP : fP g6 = plJ (fP f1) b n := by
    rw [z3, hP5]
    funext v
    unfold plL
    rw [if_neg]
    unfold plJ
    by_cases q : fP f1 v = some n
    · rw [if_pos q]
      exact fun e => hnn (Option.some.inj e).symm
    · rw [if_neg q]
      exact q
  have hC : fC g6 = fun c => fC f1 c ∧ c ≠ n := by
    funext c
    unfold fC
    refine propext ⟨fun q => ?_, fun q => ?_⟩
    · have hc := q.1
      rw [z4 c (by omega), i5, m5 1 (by decide), ← e1] at q
      have q2 := q.2
      revert q2
      cases hq : bt (f1.2.1 1) c
      · simp
      · intro q2
        exact ⟨⟨hc, rfl⟩, by simpa using q2⟩
    · refine ⟨q.1.1, ?_⟩
      rw [z4 c (by have := q.1.1; omega), i5, m5 1 (by decide), ← e1, q.1.2]
      simp [q.2]
  obtain ⟨j1, j2⟩ := join_ok F1.2.1 hj
  have KT5 : KT g5 nv T := KT_congr (r5 1 (Or.inl rfl)) (by rw [i5]) (by rw [i5]) m4
  refine ⟨⟨z1, by rw [hS, hP, hC]; exact j1, by rw [hS, hC]; exact EA_join F1.2.1 F1.2.2.1 hj, z11 T KT5⟩, fun c s k hc hs hs1 hk => ?_, nw1.trans fun x y => by rw [hS]; exact j2 x y, ⟨fun i a b => by rw [z6 i a b, i5]; exact m5 i b, by rw [z7, i5]; exact m6⟩⟩
  have hcnb : c < nb := by rw [nbt z1] at hc; exact hc
  have hnb10 := hF.1.1.2.2.1
  rw [z9] at hs
  by_cases hcn : c = n
  · rw [if_pos hcn] at hs
    have : 0 = s := nI_inj (by omega) (by omega) (nI_0.trans hs)
    omega
  · rw [if_neg hcn, r5 7 (Or.inr (Or.inl rfl))] at hs
    have hp := m7 c s k hcnb hcn hs hs1 hk
    obtain ⟨s', hs', hs7', y1, -, -⟩ := m1.2.2.2.1 c (by have := hF.1.1.2.2.1; omega)
    have : s' = s := nI_inj (by omega) (by omega) (hs7'.symm.trans hs)
    subst this
    obtain ⟨v, hv, ev, -⟩ := y1 k hk
    have hnv := hF.1.1.2.2.2.2.2
    rw [ev, tn_nI (by omega)] at hp
    rw [z5 8 (by decide) (by decide) (by decide) (by decide), r5 8 (Or.inr (Or.inr rfl)), ev, tn_nI (by omega), z8 v hv, r5 1 (Or.inl rfl), hp, if_neg]
    exact fun e => hcn (nI_inj (by omega) (by omega) e)
/-- which block is joined -/
theorem firstToJoin_spec (h : CI f nb nv) : Joiner_firstToJoin f = -1 ∨ ∃ b n, fC f b ∧ f.1 11 b = 1 ∧ f.1 12 (b * 2) = nI n ∧ n < nb ∧ n ≠ b ∧ f.1 9 n = 1 ∧ Joiner_firstToJoin f = nI b := by
  obtain ⟨hI, hA, hV, hL, hE⟩ := id h
  have hnb := hI.2.2.1
  unfold Joiner_firstToJoin Joiner_firstToJoin_L2
  refine loop_brk (B := fun a : Int32 => Joiner_firstToJoin_L2b f a) (mk := fun i (_ : Unit) => nI i) (n := nb) (I := fun _ _ => True)
    (P := fun r => r = -1 ∨ ∃ b n, fC f b ∧ f.1 11 b = 1 ∧ f.1 12 (b * 2) = nI n ∧ n < nb ∧ n ≠ b ∧ f.1 9 n = 1 ∧ r = nI b) (fun i s hi _ => ?_) (fun s _ => ⟨-1, ?_, Or.inl rfl⟩) nb 0 () (by omega) trivial
  · have hB : Joiner_firstToJoin_L2b f (nI i) = if bt (f.2.1 1) i = true then (if f.1 11 i = 1 then (if f.1 12 (i * 2) = nI i then .inl (nI (i + 1)) else if oat f 9 10 (f.1 12 (i * 2)) = 1 then .inr (nI i) else .inl (nI (i + 1))) else .inl (nI (i + 1))) else .inl (nI (i + 1)) := by
      unfold Joiner_firstToJoin_L2b Joiner_firstToJoin_63
      rw [hI.1, if_pos (show nI i < nI nb from nI_lt hi (by omega)), has_nI (by omega), oat_rs (show i < 10 by omega) (by decide), ix2_0, oat_rs (show i * 2 < 20 by omega) (by decide), nI_1]
    rw [hB]
    by_cases q1 : bt (f.2.1 1) i = true
    · rw [if_pos q1]
      by_cases q2 : f.1 11 i = 1
      · rw [if_pos q2]
        by_cases q3 : f.1 12 (i * 2) = nI i
        · rw [if_pos q3]
          exact Or.inl ⟨(), rfl, trivial⟩
        · rw [if_neg q3]
          by_cases q4 : oat f 9 10 (f.1 12 (i * 2)) = 1
          · rw [if_pos q4]
            refine Or.inr ⟨nI i, rfl, Or.inr ?_⟩
            rcases hE.2.1 (i * 2) (by omega) with e | ⟨t, ht, e⟩
            · rw [e] at q4
              have : oat f 9 10 (-1) = 0 := rat_m1
              rw [this] at q4
              exact absurd q4 (by decide)
            · rw [e, oat_rs (show t < 10 by omega) (by decide)] at q4
              exact ⟨i, t, ⟨by omega, q1⟩, q2, e, ht, fun z => q3 (by rw [e, z]), q4, rfl⟩
          · rw [if_neg q4]
            exact Or.inl ⟨(), rfl, trivial⟩
      · rw [if_neg q2]
        exact Or.inl ⟨(), rfl, trivial⟩
    · rw [if_neg q1]
      exact Or.inl ⟨(), rfl, trivial⟩
  · show Joiner_firstToJoin_L2b f (nI nb) = _
    unfold Joiner_firstToJoin_L2b
    rw [hI.1, if_neg (show ¬ nI nb < nI nb from nI_nlt (Nat.le_refl _) (by omega))]
/-- what a pass over a form does -/
def passP (f g : Ob) (nb nv T : Nat) : Prop := FG g nb nv T ∧ nwF f g ∧ ist f g
theorem joiner_spec (hF : FG f nb nv T) (ht : tidy f) : passP f (Joiner_goOver f) nb nv T ∧ tidy (Joiner_goOver f) := by
  unfold Joiner_goOver Joiner_goOver_L2
  refine loop_brk (B := fun a : Int32 × Ob => Joiner_goOver_L2b a.2 a.1) (mk := fun i (s : Ob) => (nI i, s)) (n := 10) (I := fun _ s => passP f s nb nv T ∧ tidy s) (P := fun s => passP f s nb nv T ∧ tidy s) (fun i s hi hI => ?_) (fun s hI => ⟨s, ?_, hI⟩) 10 0 f rfl ⟨⟨hF, nwF.rf f, ist.rf f⟩, ht⟩
  · obtain ⟨⟨s1, s2, s3⟩, s4⟩ := id hI
    dsimp only
    unfold Joiner_goOver_L2b
    rw [if_pos (show nI i < 10 from nI_lt (a := i) (b := 10) hi (by decide))]
    rcases firstToJoin_spec s1.1 with e | ⟨b, n, q1, q2, q3, q4, q5, q6, e⟩
    · rw [e, if_pos rfl]
      exact Or.inr ⟨s, rfl, hI⟩
    · have hb10 := q1.1
      rw [e, if_neg (nI_m1 (by omega)), ix2_0, oat_rs (show b * 2 < 20 by omega) (by decide), q3, nI_1]
      obtain ⟨z1, z2, z3, z4⟩ := joinStep_spec s1 s4 q1 q2 q3 q4 q5 q6
      exact Or.inl ⟨_, rfl, ⟨⟨z1, s2.trans z3, s3.trans z4⟩, z2⟩⟩
  · show Joiner_goOver_L2b s (nI 10) = _
    unfold Joiner_goOver_L2b
    rw [if_neg (by decide)]
end JOINER2
