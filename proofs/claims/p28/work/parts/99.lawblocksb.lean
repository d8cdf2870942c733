/-! THE LAW: what is told of the blocks is right, all of it -/
section LAWBLOCKSB
variable {to fl ma ph : Ob} {nb : Nat}
theorem obn_some {σ ρ : Type} (bad : ρ) (x : σ) (k : σ → ρ) : obn bad (some x) k = k x := rfl
def cntR (fl : Ob) (k : Nat) : Nat := ((List.range k).filter fun i => bt (fl.2.1 0) i).length
theorem cntR_s (fl : Ob) (k : Nat) : cntR fl (k + 1) = cntR fl k + if bt (fl.2.1 0) k = true then 1 else 0 := by
  unfold cntR
  rw [filter_range_s, List.length_append]
  split <;> rfl
theorem cntR_10 (hT : tGood to fl nb) : cntR fl nb = cntR fl 10 := by
  have h10 := hT.1.2.2.1
  have key : ∀ d, nb + d ≤ 10 → cntR fl (nb + d) = cntR fl nb := by
    intro d
    induction d with
    | zero => intro _; rfl
    | succ d ih =>
      intro h
      have hf : ¬ bt (fl.2.1 0) (nb + d) = true := fun q => by
        have := reach_nb hT ((reach_bit hT.2.2.2.1 (by omega)).mp q)
        omega
      rw [show nb + (d + 1) = nb + d + 1 by omega, cntR_s, ih (by omega), if_neg hf, Nat.add_zero]
  have := key (10 - nb) (by omega)
  rw [show nb + (10 - nb) = 10 by omega] at this
  exact this.symm
theorem cntR_le (fl : Ob) (k : Nat) : cntR fl k ≤ k := by
  unfold cntR
  refine Nat.le_trans (List.length_filter_le _ _) ?_
  rw [List.length_range]
  exact Nat.le_refl _
theorem many_1 (hT : tGood to fl nb) : Ph_many to fl ma ph 1 = some (nI (cntR fl nb)) := by
  unfold Ph_many
  rw [if_neg (show ¬ (1 : Int32) < 0 by decide), if_neg (show ¬ (10 : Int32) < 1 by decide), if_neg (show ¬ (1 : Int32) = 0 by decide), if_pos rfl, cntR_10 hT, bc10 (x := fl.2.1 0)]
  · rfl
  · intro i hi hi32
    rw [← Bool.not_eq_true]
    intro q
    have := reach_nb hT ((reach_bit hT.2.2.2.1 hi32).mp q)
    have := hT.1.2.2.1
    omega
theorem law_blocks (hT : tGood to fl nb) : Law_areBlocksRight to fl ma ph (nI nb) = some true := by
  have hR := hT.2.2.2.1
  have h10 := hT.1.2.2.1
  have hnb1 := hT.1.2.1
  have hnb := hT.1.1
  unfold Law_areBlocksRight Law_areBlocksRight_L4
  refine loop_cnt (B := fun a : Int32 × Int32 => Law_areBlocksRight_L4b to fl ma ph (nI nb) a.1 a.2) (mk := fun i (s : Int32) => (s, nI i)) (n := nb) (I := fun k s => s = nI (cntR fl k)) (P := fun r => r = some true) (fun k s hk hI => ⟨nI (cntR fl (k + 1)), ?_, rfl⟩) (fun s hI => ⟨_, ?_, rfl⟩) nb 0 0 (by omega) rfl
  · show Law_areBlocksRight_L4b to fl ma ph (nI nb) s (nI k) = .inl (nI (cntR fl (k + 1)), nI (k + 1))
    have hc := cntR_le fl k
    have h72 : ∀ v2, Law_areBlocksRight_72 to fl ma ph (nI nb) v2 (nI k) (mine fl k) = .inl (v2, nI (k + 1)) := fun v2 => law_75 hT hk v2
    unfold Law_areBlocksRight_L4b Law_areBlocksRight_70
    rw [if_pos (nI_lt hk (by omega)), obk_2 hnb h10 hk, obk_3 hnb h10 hk, obk_4 hnb h10 hk]
    simp only [obn_some]
    rw [hI, cntR_s]
    by_cases q : bt (fl.2.1 0) k = true
    · rw [if_pos q, if_pos q, if_neg (show ¬ (1 : Int32) = 0 by decide)]
      have hm : ((mine fl k >>> (nI k &&& 31)) &&& 1) = 1 := (sh_bt (by omega)).mpr ((mine_bt hR (by omega) (by omega)).mpr (Dm_refl ((hR.1.2.1 k (by omega)).mp q)))
      rw [if_neg (show ¬ ((mine fl k >>> (nI k &&& 31)) &&& 1) = 0 by rw [hm]; decide), h72, nI_1]
    · have hmk : mine fl k = 0 := by unfold mine; rw [if_neg q]
      have hfk : frnt fl k = 0 := by unfold frnt; rw [if_neg q]
      rw [if_neg q, if_neg q, if_pos rfl, if_pos hmk, if_pos hfk, obk_5 hnb h10 hk q]
      simp only [obn_some]
      rw [if_pos trivial, h72, Int32.add_zero]
      rfl
  · show Law_areBlocksRight_L4b to fl ma ph (nI nb) s (nI nb) = _
    unfold Law_areBlocksRight_L4b
    rw [if_neg (nI_nlt (Nat.le_refl _) (by omega)), many_1 hT]
    simp only [obn_some]
    have h3 : Ph_ofBlock to fl 0 3 = some (mine fl 0) := obk_3 (k := 0) hnb h10 (by omega)
    rw [if_pos hI.symm, h3, law_reached hT]
    simp only [obn_some]
    rw [if_pos trivial]
end LAWBLOCKSB
