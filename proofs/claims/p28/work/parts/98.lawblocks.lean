/-! THE LAW: what is told of the blocks is right -/
theorem bc10_all : ∀ n, n < 1024 → J_bitCount (nI n) = nI ((List.range 10).filter fun i => bt (nI n) i).length := by
  unfold J_bitCount
  decide +kernel
theorem bc10 {x : Int32} (h : ∀ i, 10 ≤ i → i < 32 → bt x i = false) : J_bitCount x = nI ((List.range 10).filter fun i => bt x i).length := by
  have hn : x.toBitVec.toNat < 2 ^ 10 := by
    refine Nat.lt_pow_two_of_testBit _ fun i hi => ?_
    by_cases q : i < 32
    · exact h i hi q
    · exact b_big (x := x) (by omega)
  have e : x = nI x.toBitVec.toNat := by
    apply b_ext
    intro i hi
    unfold bt nI
    rw [Int32.toBitVec_ofNat']
    simp [BitVec.getLsbD, hi]
  have := bc10_all _ hn
  rw [← e] at this
  exact this
theorem sh_bt {x : Int32} {k : Nat} (hk : k < 20) : ((x >>> (nI k &&& 31)) &&& 1) = 1 ↔ bt x k = true := by
  have h := has_nI (x := x) hk
  unfold Ph_has Ph_has_23 at h
  rw [if_neg (show ¬ nI k < 0 from nI_nlt (a := k) (b := 0) (by omega) (by omega)), if_pos (show nI k < 20 from nI_lt (a := k) (b := 20) hk (by decide))] at h
  by_cases q : ((x >>> (nI k &&& 31)) &&& 1) = 1
  · rw [if_pos q] at h
    exact ⟨fun _ => h.symm, fun _ => q⟩
  · rw [if_neg q] at h
    exact ⟨fun z => absurd z q, fun z => by rw [z] at h; cases h⟩
section LAWBLOCKS
variable {to fl ma ph : Ob} {nb : Nat}
def mine (fl : Ob) (k : Nat) : Int32 := if bt (fl.2.1 0) k = true then fl.1 1 k else 0
noncomputable def frnt (fl : Ob) (k : Nat) : Int32 := if bt (fl.2.1 0) k = true then Flow_frontier fl (nI k) else 0
theorem told_k (hnb : to.2.1 0 = nI nb) (h10 : nb ≤ 10) {k : Nat} (hk : k < nb) : Ph_isTold to (nI k) = true := by
  unfold Ph_isTold
  rw [if_neg (show ¬ nI k < 0 from nI_nlt (a := k) (b := 0) (by omega) (by omega)), hnb, if_pos (nI_lt hk (by omega))]
theorem obk_2 (hnb : to.2.1 0 = nI nb) (h10 : nb ≤ 10) {k : Nat} (hk : k < nb) : Ph_ofBlock to fl (nI k) 2 = some (if bt (fl.2.1 0) k = true then 1 else 0) := by
  unfold Ph_ofBlock
  rw [if_pos (told_k hnb h10 hk), if_neg (show ¬ (2 : Int32) = 0 by decide), if_neg (show ¬ (2 : Int32) = 1 by decide), if_pos rfl, has_nI (by omega)]
  split <;> rfl
theorem obk_3 (hnb : to.2.1 0 = nI nb) (h10 : nb ≤ 10) {k : Nat} (hk : k < nb) : Ph_ofBlock to fl (nI k) 3 = some (mine fl k) := by
  unfold Ph_ofBlock mine
  rw [if_pos (told_k hnb h10 hk), if_neg (show ¬ (3 : Int32) = 0 by decide), if_neg (show ¬ (3 : Int32) = 1 by decide), if_neg (show ¬ (3 : Int32) = 2 by decide), if_pos rfl, has_nI (by omega), oat_rs (show k < 10 by omega) (by decide)]
  split <;> rfl
theorem obk_4 (hnb : to.2.1 0 = nI nb) (h10 : nb ≤ 10) {k : Nat} (hk : k < nb) : Ph_ofBlock to fl (nI k) 4 = some (frnt fl k) := by
  unfold Ph_ofBlock frnt
  rw [if_pos (told_k hnb h10 hk), if_neg (show ¬ (4 : Int32) = 0 by decide), if_neg (show ¬ (4 : Int32) = 1 by decide), if_neg (show ¬ (4 : Int32) = 2 by decide), if_neg (show ¬ (4 : Int32) = 3 by decide), if_pos rfl, has_nI (by omega)]
  split <;> rfl
theorem obk_5 (hnb : to.2.1 0 = nI nb) (h10 : nb ≤ 10) {k : Nat} (hk : k < nb) (hr : ¬ bt (fl.2.1 0) k = true) : Ph_ofBlock to fl (nI k) 5 = some 0 := by
  unfold Ph_ofBlock
  rw [if_pos (told_k hnb h10 hk), if_neg (show ¬ (5 : Int32) = 0 by decide), if_neg (show ¬ (5 : Int32) = 1 by decide), if_neg (show ¬ (5 : Int32) = 2 by decide), if_neg (show ¬ (5 : Int32) = 3 by decide), if_neg (show ¬ (5 : Int32) = 4 by decide), if_pos rfl, has_nI (by omega), if_neg hr]
theorem mine_bt (hR : fR fl) {k c : Nat} (hk : k < 10) (hc : c < 32) : bt (mine fl k) c = true ↔ Dm (fE fl) k c := by
  unfold mine
  by_cases q : bt (fl.2.1 0) k = true
  · rw [if_pos q]
    exact hR.1.2.2.1 k hk c hc
  · rw [if_neg q, b_0]
    exact ⟨(fun z => by cases z), fun z => absurd ((hR.1.2.1 k (by omega)).mpr (Dm_left z)) q⟩
theorem frnt_bt (hR : fR fl) {k c : Nat} (hk : k < 10) (hc : c < 32) (h : bt (frnt fl k) c = true) : (∃ o, fE fl o c) ∧ ¬ (Dm (fE fl) k c ∧ k ≠ c) := by
  unfold frnt at h
  by_cases q : bt (fl.2.1 0) k = true
  · rw [if_pos q] at h
    obtain ⟨⟨o, -, ho⟩, hn⟩ := (front_spec hR hk hc).mp h
    exact ⟨⟨o, ho⟩, hn⟩
  · rw [if_neg q, b_0] at h
    cases h
theorem law_75 (hT : tGood to fl nb) {k : Nat} (hk : k < nb) (v2 : Int32) : Law_areBlocksRight_L75 to fl ma ph (nI nb) v2 (nI k) (mine fl k) 0 = .inl (v2, nI (k + 1)) := by
  have hR := hT.2.2.2.1
  have h10 := hT.1.2.2.1
  have hnb := hT.1.1
  unfold Law_areBlocksRight_L75
  refine loop_cnt (B := fun a : Int32 => Law_areBlocksRight_L75b to fl ma ph (nI nb) v2 (nI k) (mine fl k) a) (mk := fun i (_ : Unit) => nI i) (n := nb) (I := fun _ _ => True) (P := fun r => r = .inl (v2, nI (k + 1))) (fun o _ ho _ => ⟨(), ?_, trivial⟩) (fun _ _ => ⟨_, ?_, rfl⟩) nb 0 () (by omega) trivial
  · show Law_areBlocksRight_L75b to fl ma ph (nI nb) v2 (nI k) (mine fl k) (nI o) = .inl (nI (o + 1))
    have h107 : Law_areBlocksRight_107 to fl ma ph (nI nb) v2 (nI k) (mine fl k) (nI o) = .inl (nI (o + 1)) := by
      unfold Law_areBlocksRight_107 Law_areBlocksRight_141
      rw [nI_1]
      by_cases q : o = k
      · rw [q, if_pos rfl]
      · rw [if_neg fun z => q (nI_inj (by omega) (by omega) z)]
        by_cases z : ((mine fl k >>> (nI o &&& 31)) &&& 1) = 1
        · rw [if_pos z, obk_3 hnb h10 ho]
          show (if ((mine fl o >>> (nI k &&& 31)) &&& 1) = 1 then _ else _) = _
          rw [if_neg fun y => q (Dm_anti ((mine_bt hR (by omega) (by omega)).mp ((sh_bt (by omega)).mp y)) ((mine_bt hR (by omega) (by omega)).mp ((sh_bt (by omega)).mp z)))]
        · rw [if_neg z]
    unfold Law_areBlocksRight_L75b
    rw [if_pos (nI_lt ho (by omega)), h107]
    by_cases z : ((mine fl k >>> (nI o &&& 31)) &&& 1) = 1
    · rw [if_pos z, obk_3 hnb h10 ho]
      show (if (mine fl o &&& (mine fl k ^^^ (-1))) = 0 then _ else _) = _
      rw [if_pos]
      apply b_ext
      intro i hi
      rw [b_and, bt_not hi, b_0]
      by_cases y : bt (mine fl o) i = true
      · rw [(mine_bt hR (show k < 10 by omega) hi).mpr (Dm_trans ((mine_bt hR (by omega) (by omega)).mp ((sh_bt (by omega)).mp z)) ((mine_bt hR (by omega) hi).mp y))]
        simp
      · rw [bool_f y]
        rfl
    · rw [if_neg z]
  · show Law_areBlocksRight_L75b to fl ma ph (nI nb) v2 (nI k) (mine fl k) (nI nb) = _
    unfold Law_areBlocksRight_L75b
    rw [if_neg (nI_nlt (Nat.le_refl _) (by omega)), obk_4 hnb h10 hk]
    show Sum.inr (if ((frnt fl k &&& mine fl k) &&& (((1 : Int32) <<< (nI k &&& 31)) ^^^ (-1))) = 0 then (obn (Sum.inr none) (some (frnt fl k)) (fun r168 => (if (r168 &&& 1) = 1 then (Sum.inr (Law_areBlocksRight_177 to fl ma ph)) else (Sum.inl (v2, (nI k + 1)))))) else _) = _
    rw [if_pos]
    · show Sum.inr (if (frnt fl k &&& 1) = 1 then _ else _) = _
      rw [if_neg fun q => ?_, nI_1]
      have hb : bt (frnt fl k) 0 = true := by
        have : bt (frnt fl k &&& 1) 0 = true := by rw [q]; decide
        rw [b_and] at this
        exact (Bool.and_eq_true_iff.mp this).1
      obtain ⟨⟨o, ho⟩, -⟩ := frnt_bt hR (by omega) (by decide) hb
      obtain ⟨ho1, ho2⟩ := (hT.2.2.2.2 o 0).mp ho
      obtain ⟨j, hj, ej⟩ := List.mem_map.mp ho2
      obtain ⟨-, e, he, he5, hw⟩ := hT.1.2.2.2 o ho1
      have hj' := List.mem_range.mp hj
      rw [he5, tn_nI (by omega)] at hj'
      obtain ⟨c, hc1, hc2, hc⟩ := hw j hj'
      rw [hc, tn_nI (by omega)] at ej
      omega
    · apply b_ext
      intro i hi
      rw [b_and, b_and, bt_not hi, b_shl k (by omega) 1 hi, b_0]
      by_cases y : bt (frnt fl k) i = true
      · by_cases z : bt (mine fl k) i = true
        · have hki : k = i := Classical.byContradiction fun q => (frnt_bt hR (by omega) hi y).2 ⟨(mine_bt hR (by omega) hi).mp z, q⟩
          subst hki
          rw [Nat.sub_self]
          have : bt 1 0 = true := by decide
          rw [this]
          simp
        · rw [bool_f z]; simp
      · rw [bool_f y]; simp
theorem law_reached (hT : tGood to fl nb) : Law_reachedSet to fl (nI nb) = some (mine fl 0) := by
  have hR := hT.2.2.2.1
  have h10 := hT.1.2.2.1
  have hnb := hT.1.1
  unfold Law_reachedSet Law_reachedSet_L4
  refine loop_cnt (B := fun a : Int32 × Int32 => Law_reachedSet_L4b to fl (nI nb) a.1 a.2) (mk := fun i (s : Int32) => (s, nI i)) (n := nb) (I := fun k s => ∀ i, i < 32 → (bt s i = true ↔ i < k ∧ bt (fl.2.1 0) i = true)) (P := fun r => r = some (mine fl 0)) (fun k s hk hI => ⟨s ||| ((if bt (fl.2.1 0) k = true then (1 : Int32) else 0) <<< (nI k &&& 31)), ?_, fun i hi => ?_⟩) (fun s hI => ⟨_, ?_, rfl⟩) nb 0 0 (by omega) (fun i _ => by rw [b_0]; exact ⟨(fun q => by cases q), fun q => absurd q.1 (by omega)⟩)
  · show Law_reachedSet_L4b to fl (nI nb) s (nI k) = _
    unfold Law_reachedSet_L4b
    rw [if_pos (nI_lt hk (by omega)), obk_2 hnb h10 hk, ← nI_1]
    rfl
  · rw [b_or, b_shl k (by omega) _ hi]
    have hone : ∀ m, m < 32 → bt 1 m = decide (m = 0) := by decide
    by_cases q : bt (fl.2.1 0) k = true
    · rw [if_pos q, hone _ (by omega), Bool.or_eq_true, hI i hi, Bool.and_eq_true, decide_eq_true_iff, decide_eq_true_iff]
      constructor
      · rintro (⟨z1, z2⟩ | ⟨z1, z2⟩)
        · exact ⟨by omega, z2⟩
        · have : i = k := by omega
          rw [this]
          exact ⟨by omega, q⟩
      · rintro ⟨z1, z2⟩
        by_cases y : i < k
        · exact Or.inl ⟨y, z2⟩
        · exact Or.inr ⟨by omega, by omega⟩
    · rw [if_neg q, b_0, Bool.and_false, Bool.or_false, hI i hi]
      constructor
      · rintro ⟨z1, z2⟩
        exact ⟨by omega, z2⟩
      · rintro ⟨z1, z2⟩
        refine ⟨Nat.lt_of_le_of_ne (by omega) fun e => q (by rw [← e]; exact z2), z2⟩
  · show Law_reachedSet_L4b to fl (nI nb) s (nI nb) = _
    unfold Law_reachedSet_L4b
    rw [if_neg (nI_nlt (Nat.le_refl _) (by omega))]
    have : s = mine fl 0 := by
      apply b_ext
      intro i hi
      rw [Bool.eq_iff_iff, hI i hi, mine_bt hR (by decide) hi]
      constructor
      · rintro ⟨-, z⟩
        exact Dm_root ((hR.1.2.1 i hi).mp z)
      · intro z
        exact ⟨reach_nb hT z.1, (hR.1.2.1 i hi).mpr z.1⟩
    rw [this]
end LAWBLOCKS
