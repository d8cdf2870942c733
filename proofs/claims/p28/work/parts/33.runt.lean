/-! RUNS of the blocks: what the runner does is what is told of -/
theorem sub_s {k l : Nat} (h : k < l) : l - k = (l - (k + 1)) + 1 := by omega
theorem len_step {x y l k N : Nat} (h1 : x ≤ y + 1) (h2 : y + (l - k) < N) (h3 : k < l) : x + (l - (k + 1)) < N := by omega
def opOk (x : Int32) : Prop := ¬ x < 100 → ∃ j, j < 6 ∧ x - 100 = nI j
def lineOk (to : Ob) (b k : Nat) : Prop := ∃ kk, kk < 9 ∧ to.1 1 (b * 8 + k) = nI kk ∧ (kk ≤ 6 → ∃ d, d < 6 ∧ to.1 2 (b * 8 + k) = nI d) ∧ opOk (to.1 3 (b * 8 + k)) ∧ opOk (to.1 4 (b * 8 + k))
theorem sets_nI {k : Nat} (hk : k < 1000) : Ph_sets (nI k) = decide (k ≤ 6) := by
  unfold Ph_sets Ph_sets_14
  rw [if_neg (nI_pos (by omega))]
  by_cases h : k ≤ 6
  · rw [if_neg (show ¬ (6 : Int32) < nI k from nI_nlt (a := 6) (b := k) h (by omega))]
    simp [h]
  · rw [if_pos (show (6 : Int32) < nI k from nI_lt (a := 6) (b := k) (by omega) (by omega))]
    simp [h]
theorem read_eq {ru : Ob} {V : Hd} (hV : ∀ i, i < 6 → ru.1 0 i = V i) {x : Int32} (hx : opOk x) : Runner_read ru x = opT V x := by
  unfold Runner_read Ph_variableOf opT
  by_cases h : x < 100
  · rw [if_pos h, if_pos rfl, if_pos h]
  · obtain ⟨j, hj, e⟩ := hx h
    rw [if_neg h, e, if_neg (nI_m1 (by omega)), if_neg h, tn_nI (by omega), oat_rs hj (by decide)]
    exact hV j hj
def vOk (ru : Ob) (V : Hd) : Prop := ∀ i, i < 6 → ru.1 0 i = V i
theorem vOk.set {ru : Ob} {V : Hd} (h : vOk ru V) {d : Nat} (hd : d < 6) (x : Int32) : vOk (oput ru 0 6 (nI d) x) (uH V d x) := by
  intro i hi
  rw [oput_rs hd (by decide), rs_i]
  unfold uH
  by_cases hid : i = d
  · rw [if_pos hid, if_pos hid]
  · rw [if_neg hid, if_neg hid]; exact h i hi
def lnInv (to : Ob) (b l n : Nat) (q : Hd × Me × Nat × Bool) (a : Int32 × Ob × Ob) : Prop := ∃ k, k ≤ l ∧ a.1 = nI k ∧ ((∃ V m c, tpAt a.2.2 true 0 0 m c n ∧ tpKept 60 a.2.2 m ∧ vOk a.2.1 V ∧ m.2.length + (l - k) < 1000000 ∧ lnT to b (List.range' k (l - k)) V m c = q) ∨ (tpAt a.2.2 false 1 0 q.2.1 q.2.2.1 n ∧ tpKept 60 a.2.2 q.2.1 ∧ q.2.2.2 = true))
theorem doLines_spec {to ru t : Ob} {b l n c : Nat} {V : Hd} {m : Me} (hb : b < 10) (hl : to.1 0 b = nI l) (hl8 : l ≤ 8) (hok : ∀ k, k < l → lineOk to b k) (ht : tpAt t true 0 0 m c n) (hK : tpKept 60 t m) (hV : vOk ru V) (hm : m.2.length + l < 1000000) :
    (fun r : Ob × Ob => (fun q : Hd × Me × Nat × Bool => tpAt r.2 (!q.2.2.2) (if q.2.2.2 = true then 1 else 0) 0 q.2.1 q.2.2.1 n ∧ tpKept 60 r.2 q.2.1 ∧ (q.2.2.2 = false → vOk r.1 q.1)) (lnT to b (tLn to b) V m c)) (Runner_doLines to ru t (nI b)) := by
  have htl : tLn to b = List.range' 0 (l - 0) := by
    unfold tLn
    rw [hl, tn_nI (by omega), List.range_eq_range']
    rfl
  rw [htl]
  generalize hq : lnT to b (List.range' 0 (l - 0)) V m c = q
  unfold Runner_doLines Runner_doLines_L3
  refine loopW_inv (fun a : Int32 × Ob × Ob => Runner_doLines_L3b to a.2.1 a.2.2 (nI b) a.1) (fun a => l + 1 - tn a.1) (lnInv to b l n q) (fun r => (fun q : Hd × Me × Nat × Bool => tpAt r.2 (!q.2.2.2) (if q.2.2.2 = true then 1 else 0) 0 q.2.1 q.2.2.1 n ∧ tpKept 60 r.2 q.2.1 ∧ (q.2.2.2 = false → vOk r.1 q.1)) q) (fun a hI => ?_) (0, ru, t) ⟨0, Nat.zero_le _, rfl, Or.inl ⟨V, m, c, ht, hK, hV, by omega, hq⟩⟩
  obtain ⟨k, hkl, hak, hcase⟩ := hI
  obtain ⟨a1, ru1, t1⟩ := a
  dsimp only at hak hcase ⊢
  subst hak
  rcases hcase with ⟨V1, m1, c1, h1, h2, h3, h4, h5⟩ | ⟨h1, h2, h3⟩
  · rcases Nat.lt_or_ge k l with hlt | hge
    · obtain ⟨kk, g1, g2, g3, g4, g5⟩ := hok k hlt
      have hlist : List.range' k (l - k) = k :: List.range' (k + 1) (l - (k + 1)) := by
        rw [sub_s hlt, List.range'_succ]
      rw [hlist] at h5
      obtain ⟨s1, s2, s3⟩ := act_spec (p := opT V1 (to.1 3 (b * 8 + k))) (q := opT V1 (to.1 4 (b * 8 + k))) h1 h2 g1 (by omega)
      have hB : Runner_doLines_L3b to ru1 t1 (nI b) (nI k) = .inl (nI (k + 1), (if kk ≤ 6 then oput ru1 0 6 (to.1 2 (b * 8 + k)) (Tape_act t1 (nI kk) (opT V1 (to.1 3 (b * 8 + k))) (opT V1 (to.1 4 (b * 8 + k)))).1 else ru1), (Tape_act t1 (nI kk) (opT V1 (to.1 3 (b * 8 + k))) (opT V1 (to.1 4 (b * 8 + k)))).2) := by
        unfold Runner_doLines_L3b Runner_doLines_75 Runner_doLines_103
        rw [if_pos h1.1, oat_rs hb (by decide), hl, if_pos (show nI k < nI l from nI_lt hlt (by omega)), ix8, oat_rs (n := 80) (by omega) (by decide), oat_rs (n := 80) (by omega) (by decide), oat_rs (n := 80) (by omega) (by decide), oat_rs (n := 80) (by omega) (by decide), g2, read_eq h3 g4, read_eq h3 g5, sets_nI (by omega), nI_1]
        by_cases h6 : kk ≤ 6
        · rw [if_pos (decide_eq_true h6), if_pos h6]
        · rw [if_neg (fun z => h6 (of_decide_eq_true z)), if_neg h6]
      refine ⟨fun a' ha' => ?_, fun w hw => by rw [hB] at hw; cases hw⟩
      rw [hB] at ha'
      cases ha'
      have hmu : l + 1 - tn (nI (k + 1)) < l + 1 - tn (nI k) := by rw [tn_nI (by omega), tn_nI (by omega)]; omega
      refine ⟨⟨k + 1, by omega, rfl, ?_⟩, hmu⟩
      have htn : tn (to.1 1 (b * 8 + k)) = kk := by rw [g2, tn_nI (by omega)]
      have hlen : (actM kk (opT V1 (to.1 3 (b * 8 + k))) (opT V1 (to.1 4 (b * 8 + k))) m1).2.1.2.length ≤ m1.2.length + 1 := by
        unfold actM
        repeat' split
        all_goals first | exact Nat.le_succ _ | (simp; done) | (rw [List.length_append]; exact Nat.le_refl _)
      unfold lnT at h5
      rw [htn] at h5
      have hvar : vOk (if kk ≤ 6 then oput ru1 0 6 (to.1 2 (b * 8 + k)) (Tape_act t1 (nI kk) (opT V1 (to.1 3 (b * 8 + k))) (opT V1 (to.1 4 (b * 8 + k)))).1 else ru1) (if kk ≤ 6 then uH V1 (tn (to.1 2 (b * 8 + k))) (actM kk (opT V1 (to.1 3 (b * 8 + k))) (opT V1 (to.1 4 (b * 8 + k))) m1).1 else V1) := by
        by_cases h6 : kk ≤ 6
        · obtain ⟨d, hd, e⟩ := g3 h6
          rw [if_pos h6, if_pos h6, s1, e, tn_nI (by omega)]
          exact vOk.set h3 hd _
        · rw [if_neg h6, if_neg h6]; exact h3
      by_cases htr : (actM kk (opT V1 (to.1 3 (b * 8 + k))) (opT V1 (to.1 4 (b * 8 + k))) m1).2.2 = true
      · right
        rw [if_pos htr] at h5
        subst h5
        rw [htr] at s2
        exact ⟨s2, s3, rfl⟩
      · left
        rw [if_neg htr] at h5
        have hf : (actM kk (opT V1 (to.1 3 (b * 8 + k))) (opT V1 (to.1 4 (b * 8 + k))) m1).2.2 = false := by
          cases hz : (actM kk (opT V1 (to.1 3 (b * 8 + k))) (opT V1 (to.1 4 (b * 8 + k))) m1).2.2 with
          | false => rfl
          | true => exact absurd hz htr
        rw [hf] at s2
        exact ⟨_, _, _, s2, s3, hvar, len_step hlen h4 hlt, h5⟩
    · have hkl2 : k = l := by omega
      subst hkl2
      rw [Nat.sub_self] at h5
      have hB : Runner_doLines_L3b to ru1 t1 (nI b) (nI k) = .inr (ru1, t1) := by
        unfold Runner_doLines_L3b
        rw [if_pos h1.1, oat_rs hb (by decide), hl, if_neg (show ¬ nI k < nI k from nI_nlt (Nat.le_refl _) (by omega))]
      refine ⟨(fun a' ha' => by rw [hB] at ha'; cases ha'), fun w hw => ?_⟩
      rw [hB] at hw
      cases hw
      have h6 : (V1, m1, c1, false) = q := h5
      subst h6
      exact ⟨h1, h2, fun _ => h3⟩
  · have hB : Runner_doLines_L3b to ru1 t1 (nI b) (nI k) = .inr (ru1, t1) := by
      unfold Runner_doLines_L3b
      rw [if_neg (by rw [h1.1]; decide)]
    refine ⟨(fun a' ha' => by rw [hB] at ha'; cases ha'), fun w hw => ?_⟩
    rw [hB] at hw
    cases hw
    dsimp only
    rw [h3]
    exact ⟨h1, h2, fun z => by cases z⟩
def lnInv_k (to : Ob) (b l n : Nat) (q : Hd × Me × Nat × Bool) (a : Int32 × Ob × Ob) : Prop := ∃ k, k ≤ l ∧ a.1 = nI k ∧ ((∃ V m c, tpAt a.2.2 true 0 0 m c n ∧ tpKept 2408 a.2.2 m ∧ vOk a.2.1 V ∧ m.2.length + (l - k) < 1000000 ∧ lnT to b (List.range' k (l - k)) V m c = q) ∨ (tpAt a.2.2 false 1 0 q.2.1 q.2.2.1 n ∧ tpKept 2408 a.2.2 q.2.1 ∧ q.2.2.2 = true))
theorem doLines_spec_k {to ru t : Ob} {b l n c : Nat} {V : Hd} {m : Me} (hb : b < 10) (hl : to.1 0 b = nI l) (hl8 : l ≤ 8) (hok : ∀ k, k < l → lineOk to b k) (ht : tpAt t true 0 0 m c n) (hK : tpKept 2408 t m) (hV : vOk ru V) (hm : m.2.length + l < 1000000) :
    (fun r : Ob × Ob => (fun q : Hd × Me × Nat × Bool => tpAt r.2 (!q.2.2.2) (if q.2.2.2 = true then 1 else 0) 0 q.2.1 q.2.2.1 n ∧ tpKept 2408 r.2 q.2.1 ∧ (q.2.2.2 = false → vOk r.1 q.1)) (lnT to b (tLn to b) V m c)) (Runner_doLines_k to ru t (nI b)) := by
  have htl : tLn to b = List.range' 0 (l - 0) := by
    unfold tLn
    rw [hl, tn_nI (by omega), List.range_eq_range']
    rfl
  rw [htl]
  generalize hq : lnT to b (List.range' 0 (l - 0)) V m c = q
  unfold Runner_doLines_k Runner_doLines_k_L3
  refine loopW_inv (fun a : Int32 × Ob × Ob => Runner_doLines_k_L3b to a.2.1 a.2.2 (nI b) a.1) (fun a => l + 1 - tn a.1) (lnInv_k to b l n q) (fun r => (fun q : Hd × Me × Nat × Bool => tpAt r.2 (!q.2.2.2) (if q.2.2.2 = true then 1 else 0) 0 q.2.1 q.2.2.1 n ∧ tpKept 2408 r.2 q.2.1 ∧ (q.2.2.2 = false → vOk r.1 q.1)) q) (fun a hI => ?_) (0, ru, t) ⟨0, Nat.zero_le _, rfl, Or.inl ⟨V, m, c, ht, hK, hV, by omega, hq⟩⟩
  obtain ⟨k, hkl, hak, hcase⟩ := hI
  obtain ⟨a1, ru1, t1⟩ := a
  dsimp only at hak hcase ⊢
  subst hak
  rcases hcase with ⟨V1, m1, c1, h1, h2, h3, h4, h5⟩ | ⟨h1, h2, h3⟩
  · rcases Nat.lt_or_ge k l with hlt | hge
    · obtain ⟨kk, g1, g2, g3, g4, g5⟩ := hok k hlt
      have hlist : List.range' k (l - k) = k :: List.range' (k + 1) (l - (k + 1)) := by
        rw [sub_s hlt, List.range'_succ]
      rw [hlist] at h5
      obtain ⟨s1, s2, s3⟩ := act_spec_k (p := opT V1 (to.1 3 (b * 8 + k))) (q := opT V1 (to.1 4 (b * 8 + k))) h1 h2 g1 (by omega)
      have hB : Runner_doLines_k_L3b to ru1 t1 (nI b) (nI k) = .inl (nI (k + 1), (if kk ≤ 6 then oput ru1 0 6 (to.1 2 (b * 8 + k)) (Tape_act_k t1 (nI kk) (opT V1 (to.1 3 (b * 8 + k))) (opT V1 (to.1 4 (b * 8 + k)))).1 else ru1), (Tape_act_k t1 (nI kk) (opT V1 (to.1 3 (b * 8 + k))) (opT V1 (to.1 4 (b * 8 + k)))).2) := by
        unfold Runner_doLines_k_L3b Runner_doLines_k_75 Runner_doLines_k_103
        rw [if_pos h1.1, oat_rs hb (by decide), hl, if_pos (show nI k < nI l from nI_lt hlt (by omega)), ix8, oat_rs (n := 80) (by omega) (by decide), oat_rs (n := 80) (by omega) (by decide), oat_rs (n := 80) (by omega) (by decide), oat_rs (n := 80) (by omega) (by decide), g2, read_eq h3 g4, read_eq h3 g5, sets_nI (by omega), nI_1]
        by_cases h6 : kk ≤ 6
        · rw [if_pos (decide_eq_true h6), if_pos h6]
        · rw [if_neg (fun z => h6 (of_decide_eq_true z)), if_neg h6]
      refine ⟨fun a' ha' => ?_, fun w hw => by rw [hB] at hw; cases hw⟩
      rw [hB] at ha'
      cases ha'
      have hmu : l + 1 - tn (nI (k + 1)) < l + 1 - tn (nI k) := by rw [tn_nI (by omega), tn_nI (by omega)]; omega
      refine ⟨⟨k + 1, by omega, rfl, ?_⟩, hmu⟩
      have htn : tn (to.1 1 (b * 8 + k)) = kk := by rw [g2, tn_nI (by omega)]
      have hlen : (actM kk (opT V1 (to.1 3 (b * 8 + k))) (opT V1 (to.1 4 (b * 8 + k))) m1).2.1.2.length ≤ m1.2.length + 1 := by
        unfold actM
        repeat' split
        all_goals first | exact Nat.le_succ _ | (simp; done) | (rw [List.length_append]; exact Nat.le_refl _)
      unfold lnT at h5
      rw [htn] at h5
      have hvar : vOk (if kk ≤ 6 then oput ru1 0 6 (to.1 2 (b * 8 + k)) (Tape_act_k t1 (nI kk) (opT V1 (to.1 3 (b * 8 + k))) (opT V1 (to.1 4 (b * 8 + k)))).1 else ru1) (if kk ≤ 6 then uH V1 (tn (to.1 2 (b * 8 + k))) (actM kk (opT V1 (to.1 3 (b * 8 + k))) (opT V1 (to.1 4 (b * 8 + k))) m1).1 else V1) := by
        by_cases h6 : kk ≤ 6
        · obtain ⟨d, hd, e⟩ := g3 h6
          rw [if_pos h6, if_pos h6, s1, e, tn_nI (by omega)]
          exact vOk.set h3 hd _
        · rw [if_neg h6, if_neg h6]; exact h3
      by_cases htr : (actM kk (opT V1 (to.1 3 (b * 8 + k))) (opT V1 (to.1 4 (b * 8 + k))) m1).2.2 = true
      · right
        rw [if_pos htr] at h5
        subst h5
        rw [htr] at s2
        exact ⟨s2, s3, rfl⟩
      · left
        rw [if_neg htr] at h5
        have hf : (actM kk (opT V1 (to.1 3 (b * 8 + k))) (opT V1 (to.1 4 (b * 8 + k))) m1).2.2 = false := by
          cases hz : (actM kk (opT V1 (to.1 3 (b * 8 + k))) (opT V1 (to.1 4 (b * 8 + k))) m1).2.2 with
          | false => rfl
          | true => exact absurd hz htr
        rw [hf] at s2
        exact ⟨_, _, _, s2, s3, hvar, len_step hlen h4 hlt, h5⟩
    · have hkl2 : k = l := by omega
      subst hkl2
      rw [Nat.sub_self] at h5
      have hB : Runner_doLines_k_L3b to ru1 t1 (nI b) (nI k) = .inr (ru1, t1) := by
        unfold Runner_doLines_k_L3b
        rw [if_pos h1.1, oat_rs hb (by decide), hl, if_neg (show ¬ nI k < nI k from nI_nlt (Nat.le_refl _) (by omega))]
      refine ⟨(fun a' ha' => by rw [hB] at ha'; cases ha'), fun w hw => ?_⟩
      rw [hB] at hw
      cases hw
      have h6 : (V1, m1, c1, false) = q := h5
      subst h6
      exact ⟨h1, h2, fun _ => h3⟩
  · have hB : Runner_doLines_k_L3b to ru1 t1 (nI b) (nI k) = .inr (ru1, t1) := by
      unfold Runner_doLines_k_L3b
      rw [if_neg (by rw [h1.1]; decide)]
    refine ⟨(fun a' ha' => by rw [hB] at ha'; cases ha'), fun w hw => ?_⟩
    rw [hB] at hw
    cases hw
    dsimp only
    rw [h3]
    exact ⟨h1, h2, fun z => by cases z⟩
/-- blocks as they may be told -/
def tOk (to : Ob) (nb : Nat) : Prop := 1 ≤ nb ∧ nb ≤ 10 ∧ ∀ b, b < nb → (∃ l, l ≤ 8 ∧ to.1 0 b = nI l ∧ ∀ k, k < l → lineOk to b k) ∧ (∃ e, e ≤ 2 ∧ to.1 5 b = nI e ∧ opOk (to.1 6 b) ∧ ∀ k, k < e → ∃ c, 1 ≤ c ∧ c < nb ∧ to.1 7 (b * 2 + k) = nI c)
def tpOc (K : Nat) (t : Ob) : Oc → Prop
  | none => ∃ m c, tpAt t false 2 0 m c 300 ∧ tpKept K t m
  | some (tr, ret, m, c, n) => tpAt t false (if tr = true then 1 else 0) ret m c n ∧ tpKept K t m
theorem kept_row {K : Nat} {t t' : Ob} {m : Me} (h : t'.1 = t.1) (hK : tpKept K t m) : tpKept K t' m := by
  unfold tpKept
  rw [h]
  exact hK
theorem lnT_len (to : Ob) (b : Nat) : ∀ (l : List Nat) (V : Hd) (m : Me) (c : Nat), (lnT to b l V m c).2.1.2.length ≤ m.2.length + l.length := by
  have hlen : ∀ (k : Nat) (p q : Int32) (m : Me), (actM k p q m).2.1.2.length ≤ m.2.length + 1 := by
    intro k p q m
    unfold actM
    repeat' split
    all_goals first | exact Nat.le_succ _ | (rw [List.length_append]; exact Nat.le_refl _)
  intro l
  induction l with
  | nil => intro V m c; exact Nat.le_refl _
  | cons k r ih =>
    intro V m c
    unfold lnT
    split
    · have := hlen (tn (to.1 1 (b * 8 + k))) (opT V (to.1 3 (b * 8 + k))) (opT V (to.1 4 (b * 8 + k))) m
      simp only [List.length_cons]
      omega
    · have h1 := hlen (tn (to.1 1 (b * 8 + k))) (opT V (to.1 3 (b * 8 + k))) (opT V (to.1 4 (b * 8 + k))) m
      have h2 := ih (if tn (to.1 1 (b * 8 + k)) ≤ 6 then uH V (tn (to.1 2 (b * 8 + k))) (actM (tn (to.1 1 (b * 8 + k))) (opT V (to.1 3 (b * 8 + k))) (opT V (to.1 4 (b * 8 + k))) m).1 else V) (actM (tn (to.1 1 (b * 8 + k))) (opT V (to.1 3 (b * 8 + k))) (opT V (to.1 4 (b * 8 + k))) m).2.1 (c + coN (tn (to.1 1 (b * 8 + k))))
      simp only [List.length_cons]
      omega
theorem leave_off {t : Ob} (h : t.2.2 0 = false) (k x : Int32) : Tape_leaveBy t k x = (0, t) := by
  unfold Tape_leaveBy
  rw [if_neg (by rw [h]; decide)]
def wbInv (to : Ob) (nb : Nat) (r : Oc) (a : Int32 × Int32 × Ob × Ob) : Prop := ∃ v, v ≤ 301 ∧ a.2.1 = nI v ∧ ((∃ d b V m c, d + v = 300 ∧ b < nb ∧ a.1 = nI b ∧ tpAt a.2.2.2 true 0 0 m c v ∧ tpKept 60 a.2.2.2 m ∧ vOk a.2.2.1 V ∧ m.2.length ≤ 8 * v ∧ ruT to d b V m c v = r) ∨ tpOc 60 a.2.2.2 r ∧ a.2.2.2.2.2 0 = false)
theorem walkBlocks_spec {to ru t : Ob} {nb : Nat} (hT : tOk to nb) (x y : Int32) : tpOc 60 (Runner_walkBlocks to ru t x y).2 (runT to x y) ∧ (Runner_walkBlocks to ru t x y).2.2.2 0 = false := by
  obtain ⟨hb1, hb10, hT⟩ := hT
  generalize hr : runT to x y = r
  unfold Runner_walkBlocks Runner_walkBlocks_L37
  refine loopW_inv (fun a : Int32 × Int32 × Ob × Ob => Runner_walkBlocks_L37b to a.2.2.1 a.2.2.2 a.1 a.2.1) (fun a => 302 - tn a.2.1) (wbInv to nb r) (fun w => tpOc 60 w.2 r ∧ w.2.2.2 0 = false) (fun a hI => ?_) _ ⟨0, by decide, rfl, Or.inl ⟨300, 0, H0 x y, m0, 0, rfl, by omega, rfl, (begin_spec t).1, (begin_spec t).2 60, ?_, Nat.zero_le _, hr⟩⟩
  · obtain ⟨v, hv, hav, hcase⟩ := hI
    obtain ⟨a1, a2, ru1, t1⟩ := a
    dsimp only at hav hcase ⊢
    subst hav
    rcases hcase with ⟨d, b, V, m, c, hd, hb, hab, h1, h2, h3, h4, h5⟩ | ⟨h1, h2⟩
    · subst hab
      obtain ⟨⟨l, hl8, hl, hlines⟩, e, he2, he, hop, hways⟩ := hT b hb
      have hb' : b < 10 := by omega
      obtain ⟨s1, s2, s3⟩ := doLines_spec (c := c) hb' hl hl8 hlines h1 h2 h3 (by omega)
      have hlen := lnT_len to b (tLn to b) V m c
      have hll : (tLn to b).length = l := by unfold tLn; rw [hl, tn_nI (by omega), List.length_range]
      have hek : tEk to b = e := by unfold tEk; rw [he, tn_nI (by omega)]
      have hB : Runner_walkBlocks_L37b to ru1 t1 (nI b) (nI v) = .inl (oat to 7 20 (nI b * 2 + (Tape_leaveBy (Runner_doLines to ru1 t1 (nI b)).2 (nI e) (Runner_read (Runner_doLines to ru1 t1 (nI b)).1 (to.1 6 b))).1), nI (v + 1), (Runner_doLines to ru1 t1 (nI b)).1, (Tape_leaveBy (Runner_doLines to ru1 t1 (nI b)).2 (nI e) (Runner_read (Runner_doLines to ru1 t1 (nI b)).1 (to.1 6 b))).2) := by
        unfold Runner_walkBlocks_L37b Runner_walkBlocks_62 Runner_walkBlocks_93
        rw [if_pos h1.1, if_neg (show ¬ (300 : Int32) < nI v from nI_nlt (a := 300) (b := v) (by omega) (by decide)), oat_rs hb' (by decide), oat_rs hb' (by decide), he, nI_1]
      refine ⟨fun a' ha' => ?_, fun w hw => by rw [hB] at hw; cases hw⟩
      rw [hB] at ha'
      cases ha'
      have hmu : 302 - tn (nI (v + 1)) < 302 - tn (nI v) := by rw [tn_nI (by omega), tn_nI (by omega)]; omega
      refine ⟨⟨v + 1, by omega, rfl, ?_⟩, hmu⟩
      generalize hq : lnT to b (tLn to b) V m c = q at s1 s2 s3 hlen
      generalize hdl : Runner_doLines to ru1 t1 (nI b) = dl at s1 s2 s3
      by_cases htr : q.2.2.2 = true
      · right
        rw [htr] at s1
        have hoff : dl.2.2.2 0 = false := s1.1
        rw [leave_off hoff]
        refine ⟨?_, hoff⟩
        have hr2 : r = some (true, 0, q.2.1, q.2.2.1, v) := by
          rw [← h5]
          cases d with
          | zero => unfold ruT; rw [hq, if_pos htr]
          | succ d => unfold ruT; rw [hq, if_pos htr]
        rw [hr2]
        exact ⟨s1, s2⟩
      · have hf : q.2.2.2 = false := by
          cases hz : q.2.2.2 with
          | false => rfl
          | true => exact absurd hz htr
        rw [hf] at s1
        have hrd : Runner_read dl.1 (to.1 6 b) = opT q.1 (to.1 6 b) := read_eq (s3 hf) hop
        rw [hrd]
        obtain ⟨k1, k2, k3, k4⟩ := leave_spec (x := opT q.1 (to.1 6 b)) s1 (show e < 3 by omega) (show v ≤ 300 by omega)
        cases d with
        | zero =>
          right
          have h300 : v = 300 := by omega
          have hr2 : r = none := by
            rw [← h5]
            unfold ruT
            rw [hq, if_neg htr]
          have hc := k2 h300
          rw [hr2]
          subst h300
          exact ⟨⟨_, _, hc, kept_row k1 s2⟩, hc.1⟩
        | succ d =>
          have hlt : v < 300 := by omega
          by_cases he0 : e = 0
          · right
            have hc := k3 hlt he0
            have hr2 : r = some (false, opT q.1 (to.1 6 b), q.2.1, q.2.2.1, v + 1) := by
              rw [← h5]
              unfold ruT
              rw [hq, if_neg htr, hek, if_pos he0]
            rw [hr2]
            exact ⟨⟨hc, kept_row k1 s2⟩, hc.1⟩
          · left
            obtain ⟨k5, k6⟩ := k4 hlt he0
            have hw : wyN e (opT q.1 (to.1 6 b)) < e := by
              unfold wyN
              split
              · rename_i hz; omega
              · omega
            obtain ⟨cc, hc1, hc2, hc3⟩ := hways _ hw
            have hw2 : wyN e (opT q.1 (to.1 6 b)) < 2 := by omega
            refine ⟨d, cc, q.1, q.2.1, _, by omega, hc2, ?_, k6, kept_row k1 s2, s3 hf, by omega, ?_⟩
            · show oat to 7 20 (nI b * 2 + _) = nI cc
              rw [k5, ix2, oat_rs (by omega) (by decide), hc3]
            · rw [← h5]
              conv => rhs; unfold ruT
              rw [hq, if_neg htr, hek, if_neg he0, hc3, tn_nI (by omega)]
    · have hB : Runner_walkBlocks_L37b to ru1 t1 a1 (nI v) = .inr (ru1, t1) := by
        unfold Runner_walkBlocks_L37b
        rw [if_neg (by rw [h2]; decide)]
      refine ⟨(fun a' ha' => by rw [hB] at ha'; cases ha'), fun w hw => ?_⟩
      rw [hB] at hw
      cases hw
      exact ⟨h1, h2⟩
  · intro i hi
    show (oput (oput (ofil ru 0 0) 0 6 (nI 0) x) 0 6 (nI 1) y).1 0 i = _
    rw [oput_rs (show 1 < 6 by decide) (by decide), oput_rs (show 0 < 6 by decide) (by decide), rs_i, rs_i]
    unfold H0 uH ofil
    rw [oR_1, if_pos rfl]
theorem leave_off_k {t : Ob} (h : t.2.2 0 = false) (k x : Int32) : Tape_leaveBy_k t k x = (0, t) := by
  unfold Tape_leaveBy_k
  rw [if_neg (by rw [h]; decide)]
def wbInv_k (to : Ob) (nb : Nat) (r : Oc) (a : Int32 × Int32 × Ob × Ob) : Prop := ∃ v, v ≤ 301 ∧ a.2.1 = nI v ∧ ((∃ d b V m c, d + v = 300 ∧ b < nb ∧ a.1 = nI b ∧ tpAt a.2.2.2 true 0 0 m c v ∧ tpKept 2408 a.2.2.2 m ∧ vOk a.2.2.1 V ∧ m.2.length ≤ 8 * v ∧ ruT to d b V m c v = r) ∨ tpOc 2408 a.2.2.2 r ∧ a.2.2.2.2.2 0 = false)
theorem walkBlocks_spec_k {to ru t : Ob} {nb : Nat} (hT : tOk to nb) (x y : Int32) : tpOc 2408 (Runner_walkBlocks_k to ru t x y).2 (runT to x y) ∧ (Runner_walkBlocks_k to ru t x y).2.2.2 0 = false := by
  obtain ⟨hb1, hb10, hT⟩ := hT
  generalize hr : runT to x y = r
  unfold Runner_walkBlocks_k Runner_walkBlocks_k_L37
  refine loopW_inv (fun a : Int32 × Int32 × Ob × Ob => Runner_walkBlocks_k_L37b to a.2.2.1 a.2.2.2 a.1 a.2.1) (fun a => 302 - tn a.2.1) (wbInv_k to nb r) (fun w => tpOc 2408 w.2 r ∧ w.2.2.2 0 = false) (fun a hI => ?_) _ ⟨0, by decide, rfl, Or.inl ⟨300, 0, H0 x y, m0, 0, rfl, by omega, rfl, (begin_spec_k t).1, (begin_spec_k t).2 2408, ?_, Nat.zero_le _, hr⟩⟩
  · obtain ⟨v, hv, hav, hcase⟩ := hI
    obtain ⟨a1, a2, ru1, t1⟩ := a
    dsimp only at hav hcase ⊢
    subst hav
    rcases hcase with ⟨d, b, V, m, c, hd, hb, hab, h1, h2, h3, h4, h5⟩ | ⟨h1, h2⟩
    · subst hab
      obtain ⟨⟨l, hl8, hl, hlines⟩, e, he2, he, hop, hways⟩ := hT b hb
      have hb' : b < 10 := by omega
      obtain ⟨s1, s2, s3⟩ := doLines_spec_k (c := c) hb' hl hl8 hlines h1 h2 h3 (by omega)
      have hlen := lnT_len to b (tLn to b) V m c
      have hll : (tLn to b).length = l := by unfold tLn; rw [hl, tn_nI (by omega), List.length_range]
      have hek : tEk to b = e := by unfold tEk; rw [he, tn_nI (by omega)]
      have hB : Runner_walkBlocks_k_L37b to ru1 t1 (nI b) (nI v) = .inl (oat to 7 20 (nI b * 2 + (Tape_leaveBy_k (Runner_doLines_k to ru1 t1 (nI b)).2 (nI e) (Runner_read (Runner_doLines_k to ru1 t1 (nI b)).1 (to.1 6 b))).1), nI (v + 1), (Runner_doLines_k to ru1 t1 (nI b)).1, (Tape_leaveBy_k (Runner_doLines_k to ru1 t1 (nI b)).2 (nI e) (Runner_read (Runner_doLines_k to ru1 t1 (nI b)).1 (to.1 6 b))).2) := by
        unfold Runner_walkBlocks_k_L37b Runner_walkBlocks_k_62 Runner_walkBlocks_k_93
        rw [if_pos h1.1, if_neg (show ¬ (300 : Int32) < nI v from nI_nlt (a := 300) (b := v) (by omega) (by decide)), oat_rs hb' (by decide), oat_rs hb' (by decide), he, nI_1]
      refine ⟨fun a' ha' => ?_, fun w hw => by rw [hB] at hw; cases hw⟩
      rw [hB] at ha'
      cases ha'
      have hmu : 302 - tn (nI (v + 1)) < 302 - tn (nI v) := by rw [tn_nI (by omega), tn_nI (by omega)]; omega
      refine ⟨⟨v + 1, by omega, rfl, ?_⟩, hmu⟩
      generalize hq : lnT to b (tLn to b) V m c = q at s1 s2 s3 hlen
      generalize hdl : Runner_doLines_k to ru1 t1 (nI b) = dl at s1 s2 s3
      by_cases htr : q.2.2.2 = true
      · right
        rw [htr] at s1
        have hoff : dl.2.2.2 0 = false := s1.1
        rw [leave_off_k hoff]
        refine ⟨?_, hoff⟩
        have hr2 : r = some (true, 0, q.2.1, q.2.2.1, v) := by
          rw [← h5]
          cases d with
          | zero => unfold ruT; rw [hq, if_pos htr]
          | succ d => unfold ruT; rw [hq, if_pos htr]
        rw [hr2]
        exact ⟨s1, s2⟩
      · have hf : q.2.2.2 = false := by
          cases hz : q.2.2.2 with
          | false => rfl
          | true => exact absurd hz htr
        rw [hf] at s1
        have hrd : Runner_read dl.1 (to.1 6 b) = opT q.1 (to.1 6 b) := read_eq (s3 hf) hop
        rw [hrd]
        obtain ⟨k1, k2, k3, k4⟩ := leave_spec_k (x := opT q.1 (to.1 6 b)) s1 (show e < 3 by omega) (show v ≤ 300 by omega)
        cases d with
        | zero =>
          right
          have h300 : v = 300 := by omega
          have hr2 : r = none := by
            rw [← h5]
            unfold ruT
            rw [hq, if_neg htr]
          have hc := k2 h300
          rw [hr2]
          subst h300
          exact ⟨⟨_, _, hc, kept_row k1 s2⟩, hc.1⟩
        | succ d =>
          have hlt : v < 300 := by omega
          by_cases he0 : e = 0
          · right
            have hc := k3 hlt he0
            have hr2 : r = some (false, opT q.1 (to.1 6 b), q.2.1, q.2.2.1, v + 1) := by
              rw [← h5]
              unfold ruT
              rw [hq, if_neg htr, hek, if_pos he0]
            rw [hr2]
            exact ⟨⟨hc, kept_row k1 s2⟩, hc.1⟩
          · left
            obtain ⟨k5, k6⟩ := k4 hlt he0
            have hw : wyN e (opT q.1 (to.1 6 b)) < e := by
              unfold wyN
              split
              · rename_i hz; omega
              · omega
            obtain ⟨cc, hc1, hc2, hc3⟩ := hways _ hw
            have hw2 : wyN e (opT q.1 (to.1 6 b)) < 2 := by omega
            refine ⟨d, cc, q.1, q.2.1, _, by omega, hc2, ?_, k6, kept_row k1 s2, s3 hf, by omega, ?_⟩
            · show oat to 7 20 (nI b * 2 + _) = nI cc
              rw [k5, ix2, oat_rs (by omega) (by decide), hc3]
            · rw [← h5]
              conv => rhs; unfold ruT
              rw [hq, if_neg htr, hek, if_neg he0, hc3, tn_nI (by omega)]
    · have hB : Runner_walkBlocks_k_L37b to ru1 t1 a1 (nI v) = .inr (ru1, t1) := by
        unfold Runner_walkBlocks_k_L37b
        rw [if_neg (by rw [h2]; decide)]
      refine ⟨(fun a' ha' => by rw [hB] at ha'; cases ha'), fun w hw => ?_⟩
      rw [hB] at hw
      cases hw
      exact ⟨h1, h2⟩
  · intro i hi
    show (oput (oput (ofil ru 0 0) 0 6 (nI 0) x) 0 6 (nI 1) y).1 0 i = _
    rw [oput_rs (show 1 < 6 by decide) (by decide), oput_rs (show 0 < 6 by decide) (by decide), rs_i, rs_i]
    unfold H0 uH ofil
    rw [oR_1, if_pos rfl]
