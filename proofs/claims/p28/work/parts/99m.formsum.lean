/-! THE LAW: uses are arguments -/
section FORMSUM
variable {to fl f tr cn nu de ru la tf ph : Ob} {nb nv T : Nat}
theorem law_126 (hph : ph.2.2 0 = true) (hC : CI f nb nv) (v1 : Int32) (v2 : Int64) (v4 v5 v6 v7 : Int32) : Law_isFormRight_L126 to fl f tr cn nu de ru la tf ph v1 v2 v4 v5 v6 v7 0 0 0 = Law_isFormRight_L199 to fl f tr cn nu de ru la tf ph v1 v2 v4 v5 v6 v7 (nI ((List.range nv).map fun v => ((List.range 150).map fun u => uN f v u).sum).sum) (nI ((List.range nv).map fun v => eN f v).sum) 0 := by
  have hnv := hC.1.2.2.2.2.2
  have hm : Ph_many to fl f ph 4 = some (nI nv) := by rw [many_4 hph, hC.1.2.2.2.1]
  unfold Law_isFormRight_L126
  refine loop_cnt (B := fun a : Int32 × Int32 × Int32 => Law_isFormRight_L126b to fl f tr cn nu de ru la tf ph v1 v2 v4 v5 v6 v7 a.1 a.2.1 a.2.2) (mk := fun i (z : Int32 × Int32) => (z.1, z.2, nI i)) (n := nv) (I := fun k z => z.1 = nI ((List.range k).map fun v => ((List.range 150).map fun u => uN f v u).sum).sum ∧ z.2 = nI ((List.range k).map fun v => eN f v).sum) (P := fun r => r = Law_isFormRight_L199 to fl f tr cn nu de ru la tf ph v1 v2 v4 v5 v6 v7 (nI ((List.range nv).map fun v => ((List.range 150).map fun u => uN f v u).sum).sum) (nI ((List.range nv).map fun v => eN f v).sum) 0) (fun k z hk hz => ⟨(z.1 + nI ((List.range 150).map fun u => uN f k u).sum, z.2 + nI (eN f k)), ?_, ?_⟩) (fun z hz => ⟨_, ?_, rfl⟩) nv 0 (0, 0) (by omega) ⟨rfl, rfl⟩
  · show Law_isFormRight_L126b to fl f tr cn nu de ru la tf ph v1 v2 v4 v5 v6 v7 z.1 z.2 (nI k) = _
    unfold Law_isFormRight_L126b
    rw [hm, obn_some, if_pos (nI_lt hk (by omega)), ov_4 hph hC hk, obn_some, law_151 hph hC hk]
  · show z.1 + nI _ = nI _ ∧ z.2 + nI _ = nI _
    rw [hz.1, hz.2, nI_add, nI_add, sum_range_s (fun v => ((List.range 150).map fun u => uN f v u).sum), sum_range_s (fun v => eN f v)]
    exact ⟨rfl, rfl⟩
  · show Law_isFormRight_L126b to fl f tr cn nu de ru la tf ph v1 v2 v4 v5 v6 v7 z.1 z.2 (nI nv) = _
    unfold Law_isFormRight_L126b
    rw [hm, obn_some, if_neg (nI_nlt (Nat.le_refl _) (by omega)), hz.1, hz.2]
theorem end_arg (hph : ph.2.2 0 = true) (hF : FG f nb nv T) {k : Nat} (hk : k < nb) : (bt (f.2.1 1) k = true → Ph_ofPlace f ph (nI k) 6 = some (Form_valueOf f (nI (140 + k)) 0) ∧ eN f (140 + k) = if Form_valueOf f (nI (140 + k)) 0 < 0 then 0 else 1) ∧ (¬ bt (f.2.1 1) k = true → eN f (140 + k) = 0) := by
  obtain ⟨hC, hG, hE, -⟩ := hF
  have h10 := hC.1.2.2.1
  have hl : (aAg (fS f) (140 + k)).length = alN f (140 + k) := by
    show (if 140 + k < 150 then fag f (140 + k) else []).length = _
    rw [if_pos (by omega)]
    unfold fag alN
    rw [List.length_map, List.length_range]
  constructor
  · intro q
    constructor
    · unfold Ph_ofPlace
      rw [if_pos hph, if_neg (nI_pos (by omega)), hC.1.1, if_pos (nI_lt hk (by omega)), if_neg (show ¬ (6 : Int32) = 0 by decide), if_neg (show ¬ (6 : Int32) = 1 by decide), if_neg (show ¬ (6 : Int32) = 2 by decide), if_neg (show ¬ (6 : Int32) = 3 by decide), if_neg (show ¬ (6 : Int32) = 4 by decide), if_neg (show ¬ (6 : Int32) = 5 by decide), if_pos rfl, has_nI (by omega), if_pos q, show (140 : Int32) + nI k = nI (140 + k) from nI_add 140 k]
    · have hgN := hG.1.2.2.1.2 k ⟨by omega, q⟩
      have hle : alN f (140 + k) ≤ 1 := by
        rw [← hl]
        by_cases z : aEk (fS f) k = 1
        · rw [hgN.1 z]; exact Nat.zero_le _
        · exact Nat.le_of_eq (hgN.2 z)
      rcases Nat.eq_zero_or_pos (alN f (140 + k)) with z | z
      · have hv : Form_valueOf f (nI (140 + k)) 0 = -1 := by
          unfold Form_valueOf Form_valueOf_36
          rw [if_neg (by decide), oat_rs (show 140 + k < 150 by omega) (by decide), (al_at hC (show 140 + k < 150 by omega)).1, z, if_neg (show ¬ (0 : Int32) < nI 0 by decide)]
        rw [eN_0 z, hv, if_pos (by decide)]
      · have z1 : alN f (140 + k) = 1 := by omega
        obtain ⟨v1, v2⟩ := val_at hC (show 140 + k < 150 by omega) (i := 0) (by omega)
        have v1' : Form_valueOf f (nI (140 + k)) 0 = aE5 f (140 + k) 0 := v1
        rw [v1']
        unfold eN
        rw [z1]
        by_cases y : aE5 f (140 + k) 0 = -1
        · rw [if_pos (v2.mpr y)]
          simp [List.range_succ, y]
        · rw [if_neg fun x => y (v2.mp x)]
          simp [List.range_succ, y]
  · intro q
    apply eN_0
    rw [← hl, (hE k fun z => q z.2).2.2]
    rfl
end FORMSUM
