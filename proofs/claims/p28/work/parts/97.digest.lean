/-! THE DIGEST does not depend on what lay about -/
section DIGEST
variable {f g to fl ma la ph : Ob}
theorem behind_4 : ∀ k, k < 41 → (Ph_passBehind (nI k) = 1 ∨ Ph_passBehind (nI k) = 2 ∨ Ph_passBehind (nI k) = 3 ∨ Ph_passBehind (nI k) = 4) := by
  unfold Ph_passBehind
  decide +kernel
theorem cost_ind (h : feq f g) (ru t ru' t' : Ob) (x y : Int32) : (Runner_walkForm_k f ru t x y).2.2.1 3 = (Runner_walkForm_k g ru' t' x y).2.2.1 3 := by
  rw [(walk_par (f := f) ru t ru' t' x y).2.2.1 3 (by decide)]
  have a := e_Runner_walkForm_k_114_34_131 (sc := (0, [])) (rest := []) (to := f) (fl := f) (ma := f) (tr := f) (mk := f) (cn := f) (nu := f) (de := f) (ru := ru') (la := f) (tb := f) (tf := t') (ph := f) (cs := 0) (v2 := x) (v3 := y)
  have b := e_Runner_walkForm_k_114_34_131 (sc := (0, [])) (rest := []) (to := f) (fl := f) (ma := g) (tr := f) (mk := f) (cn := f) (nu := f) (de := f) (ru := ru') (la := f) (tb := f) (tf := t') (ph := f) (cs := 0) (v2 := x) (v3 := y)
  rw [← mh_feq h] at b
  have e := congrArg (fun l : List mmC => l[131]?) (congrArg Prod.snd (ev_det a b))
  have o := congrArg Prod.snd (Option.some.inj ((ob_131 _ _ _ _ _ _ _ _ _ _ _ _ _ _ _ _).symm.trans (e.trans (ob_131 _ _ _ _ _ _ _ _ _ _ _ _ _ _ _ _))))
  exact Value.int.inj (Option.some.inj (congrArg (fun l : List Value => l[6]?) o))
theorem obn_par {α β : Type} {P : β → β → Prop} {d : β} {o o' : Option α} {k k' : α → β} (R : α → α → Prop) (h : (o = none ∧ o' = none) ∨ ∃ r r', o = some r ∧ o' = some r' ∧ R r r') (hd : P d d) (hk : ∀ r r', R r r' → P (k r) (k' r')) : P (obn d o k) (obn d o' k') := by
  rcases h with ⟨e, e'⟩ | ⟨r, r', e, e', hr⟩
  · rw [e, e']; exact hd
  · rw [e, e']; exact hk r r' hr
def mR {α : Type} (o o' : Option (Int32 × α)) : Prop := (o = none ∧ o' = none) ∨ ∃ r r', o = some r ∧ o' = some r' ∧ r.1 = r'.1
theorem mR.rf {α : Type} (o : Option (Int32 × α)) : mR o o := by
  cases o with
  | none => exact Or.inl ⟨rfl, rfl⟩
  | some r => exact Or.inr ⟨r, r, rfl, rfl, rfl⟩
theorem wouldCost_ind {w : Nat} (hw : w ≤ 5) (tr cn nu de ru tf tr' cn' nu' de' ru' tf' : Ob) (x y : Int32) : mR (Ph_wouldCost ma tr cn nu de ru tf ph (nI w) x y) (Ph_wouldCost ma tr' cn' nu' de' ru' tf' ph (nI w) x y) := by
  have hlim : nI w * 4 = nI (w * 4) := by
    have : w = 0 ∨ w = 1 ∨ w = 2 ∨ w = 3 ∨ w = 4 ∨ w = 5 := by omega
    rcases this with rfl | rfl | rfl | rfl | rfl | rfl <;> decide
  unfold Ph_wouldCost Ph_wouldCost_9
  split
  · exact mR.rf _
  · split
    · exact mR.rf _
    · split
      · unfold Ph_wouldCost_L51
        refine loopW_par (fun a : Int32 × Ob × Ob × Ob × Ob => Ph_wouldCost_L51b ma a.2.1 a.2.2.1 a.2.2.2.1 a.2.2.2.2 ru tf ph (nI w) x y a.1) (fun a : Int32 × Ob × Ob × Ob × Ob => Ph_wouldCost_L51b ma a.2.1 a.2.2.1 a.2.2.2.1 a.2.2.2.2 ru' tf' ph (nI w) x y a.1) (fun a b => a.1 = b.1 ∧ feq a.2.1 b.2.1 ∧ ∃ k, k ≤ 20 ∧ a.1 = nI k) mR mR.rf ?_ ⟨rfl, (take_alike ma tr).trans ?_, 0, by decide, rfl⟩
        · rintro ⟨v, t, c, n, d⟩ ⟨v', t', c', n', d'⟩ ⟨q1, q2, k, q3, q4⟩
          have q1' : v = v' := q1
          have q2' : feq t t' := q2
          have q4' : v = nI k := q4
          subst q1'
          subst q4'
          show SR _ _ (Ph_wouldCost_L51b ma t c n d ru tf ph (nI w) x y (nI k)) (Ph_wouldCost_L51b ma t' c' n' d' ru' tf' ph (nI w) x y (nI k))
          unfold Ph_wouldCost_L51b Ph_wouldCost_72 Ph_wouldCost_96
          rw [hlim]
          by_cases z : k < w * 4
          · rw [if_pos (nI_lt z (by omega)), if_pos (nI_lt z (by omega)), nI_1]
            exact SR.l ⟨rfl, (passOver_ind q2' (behind_4 k (by omega)) c n d c' n' d').2, k + 1, by omega, rfl⟩
          · rw [if_neg (nI_nlt (by omega) (by omega)), if_neg (nI_nlt (by omega) (by omega))]
            exact SR.r (Or.inr ⟨_, _, rfl, rfl, cost_ind q2' ru tf ru' tf' x y⟩)
        · obtain ⟨⟨a0, a1, a2, a3, a4, a5⟩, b0, b1, b2, b3, b4, b5, b6, b7, b8, b9, b10, b11, b12⟩ := take_alike ma tr'
          exact ⟨⟨a0.symm, a1.symm, a2.symm, a3.symm, a4.symm, a5.symm⟩, b0.symm, b1.symm, b2.symm, b3.symm, b4.symm, b5.symm, b6.symm, b7.symm, b8.symm, b9.symm, b10.symm, b11.symm, b12.symm⟩
      · exact mR.rf _
theorem feq.symm (h : feq f g) : feq g f := by
  obtain ⟨⟨a0, a1, a2, a3, a4, a5⟩, b0, b1, b2, b3, b4, b5, b6, b7, b8, b9, b10, b11, b12⟩ := h
  exact ⟨⟨a0.symm, a1.symm, a2.symm, a3.symm, a4.symm, a5.symm⟩, b0.symm, b1.symm, b2.symm, b3.symm, b4.symm, b5.symm, b6.symm, b7.symm, b8.symm, b9.symm, b10.symm, b11.symm, b12.symm⟩
theorem wouldGo_ind {p : Int32} (hp : p = 1 ∨ p = 2 ∨ p = 3 ∨ p = 4) (tr cn nu de tr' cn' nu' de' : Ob) : mR (Ph_wouldGo ma tr cn nu de ph p) (Ph_wouldGo ma tr' cn' nu' de' ph p) := by
  unfold Ph_wouldGo
  split
  · split
    · exact Or.inr ⟨_, _, rfl, rfl, (passOver_ind ((take_alike ma tr).trans (take_alike ma tr').symm) hp cn nu de cn' nu' de').1⟩
    · exact mR.rf _
  · exact mR.rf _
def PM (o o' : Option (Int64 × Ob × Ob × Ob × Ob × Ob × Ob)) : Prop := (o = none ∧ o' = none) ∨ ∃ r r', o = some r ∧ o' = some r' ∧ r.1 = r'.1
theorem PM.rf (o : Option (Int64 × Ob × Ob × Ob × Ob × Ob × Ob)) : PM o o := by
  cases o with
  | none => exact Or.inl ⟨rfl, rfl⟩
  | some r => exact Or.inr ⟨r, r, rfl, rfl, rfl⟩
theorem dig104_ind (tr cn nu de ru tf tr' cn' nu' de' ru' tf' : Ob) (v : Int64) : PM (Ph_digest_L104 to fl ma tr cn nu de ru la tf ph v 1) (Ph_digest_L104 to fl ma tr' cn' nu' de' ru' la tf' ph v 1) := by
  unfold Ph_digest_L104
  refine loopW_par (fun a : Int64 × Int32 × Ob × Ob × Ob × Ob => Ph_digest_L104b to fl ma a.2.2.1 a.2.2.2.1 a.2.2.2.2.1 a.2.2.2.2.2 ru la tf ph a.1 a.2.1) (fun a : Int64 × Int32 × Ob × Ob × Ob × Ob => Ph_digest_L104b to fl ma a.2.2.1 a.2.2.2.1 a.2.2.2.2.1 a.2.2.2.2.2 ru' la tf' ph a.1 a.2.1) (fun a b => a.1 = b.1 ∧ a.2.1 = b.2.1 ∧ ∃ k, 1 ≤ k ∧ k ≤ 5 ∧ a.2.1 = nI k) PM PM.rf ?_ ⟨rfl, rfl, 1, by decide, by decide, rfl⟩
  rintro ⟨v, u, t, c, n, d⟩ ⟨v', u', t', c', n', d'⟩ ⟨q1, q2, k, q3, q4, q5⟩
  have q1' : v = v' := q1
  have q2' : u = u' := q2
  have q5' : u = nI k := q5
  subst q1'
  subst q2'
  subst q5'
  show SR _ _ (Ph_digest_L104b to fl ma t c n d ru la tf ph v (nI k)) (Ph_digest_L104b to fl ma t' c' n' d' ru' la tf' ph v (nI k))
  unfold Ph_digest_L104b Ph_digest_115 Ph_digest_135 Ph_digest_149
  by_cases z : k = 5
  · subst z
    rw [if_pos (by decide), if_pos (by decide)]
    refine SR.r ?_
    refine obn_par (P := PM) (fun r r' => r.1 = r'.1) (wouldCost_ind (w := 0) (by decide) t c n d ru tf t' c' n' d' ru' tf' 3 (-2)) (PM.rf _) fun r r' hr => ?_
    refine obn_par (P := PM) (fun r r' => r.1 = r'.1) (wouldCost_ind (w := 2) (by decide) _ _ _ _ _ _ _ _ _ _ _ _ 3 (-2)) (PM.rf _) fun s s' hs => ?_
    exact Or.inr ⟨_, _, rfl, rfl, by show Ph_mixed (Ph_mixed v r.1.toInt64) s.1.toInt64 = Ph_mixed (Ph_mixed v r'.1.toInt64) s'.1.toInt64; rw [hr, hs]⟩
  · have hk : ¬ (4 : Int32) < nI k := nI_nlt (a := 4) (b := k) (by omega) (by decide)
    rw [if_neg hk, if_neg hk]
    refine obn_par (P := SR _ PM) (fun r r' => r.1 = r'.1) (wouldGo_ind (p := nI k) ?_ t c n d t' c' n' d') (SR.r (PM.rf _)) fun r r' hr => ?_
    · have : k = 1 ∨ k = 2 ∨ k = 3 ∨ k = 4 := by omega
      rcases this with rfl | rfl | rfl | rfl
      · exact Or.inl rfl
      · exact Or.inr (Or.inl rfl)
      · exact Or.inr (Or.inr (Or.inl rfl))
      · exact Or.inr (Or.inr (Or.inr rfl))
    · refine SR.l ⟨?_, rfl, k + 1, by omega, by omega, ?_⟩
      · show Ph_mixed v r.1.toInt64 = Ph_mixed v r'.1.toInt64
        rw [hr]
      · exact nI_1 k
theorem digest_ind (tr cn nu de ru tf tr' cn' nu' de' ru' tf' : Ob) : PM (Ph_digest to fl ma tr cn nu de ru la tf ph) (Ph_digest to fl ma tr' cn' nu' de' ru' la tf' ph) := by
  have d78 : ∀ v, PM (Ph_digest_L78 to fl ma tr cn nu de ru la tf ph v 0) (Ph_digest_L78 to fl ma tr' cn' nu' de' ru' la tf' ph v 0) := fun v => by
    unfold Ph_digest_L78
    refine loopW_par (fun a : Int64 × Int32 => Ph_digest_L78b to fl ma tr cn nu de ru la tf ph a.1 a.2) (fun a : Int64 × Int32 => Ph_digest_L78b to fl ma tr' cn' nu' de' ru' la tf' ph a.1 a.2) Eq PM PM.rf ?_ rfl
    rintro ⟨u, k⟩ _ rfl
    show SR _ _ (Ph_digest_L78b to fl ma tr cn nu de ru la tf ph u k) (Ph_digest_L78b to fl ma tr' cn' nu' de' ru' la tf' ph u k)
    unfold Ph_digest_L78b
    split
    · exact SR.rf (S := Eq) (P := PM) (fun _ => rfl) PM.rf _
    · exact SR.r (dig104_ind _ _ _ _ _ _ _ _ _ _ _ _ u)
  have d52 : ∀ v, PM (Ph_digest_L52 to fl ma tr cn nu de ru la tf ph v 0) (Ph_digest_L52 to fl ma tr' cn' nu' de' ru' la tf' ph v 0) := fun v => by
    unfold Ph_digest_L52
    refine loopW_par (fun a : Int64 × Int32 => Ph_digest_L52b to fl ma tr cn nu de ru la tf ph a.1 a.2) (fun a : Int64 × Int32 => Ph_digest_L52b to fl ma tr' cn' nu' de' ru' la tf' ph a.1 a.2) Eq PM PM.rf ?_ rfl
    rintro ⟨u, k⟩ _ rfl
    show SR _ _ (Ph_digest_L52b to fl ma tr cn nu de ru la tf ph u k) (Ph_digest_L52b to fl ma tr' cn' nu' de' ru' la tf' ph u k)
    unfold Ph_digest_L52b
    split
    · exact SR.rf (S := Eq) (P := PM) (fun _ => rfl) PM.rf _
    · exact SR.r (d78 u)
  unfold Ph_digest Ph_digest_L6
  refine loopW_par (fun a : Int64 × Int32 => Ph_digest_L6b to fl ma tr cn nu de ru la tf ph a.1 a.2) (fun a : Int64 × Int32 => Ph_digest_L6b to fl ma tr' cn' nu' de' ru' la tf' ph a.1 a.2) Eq PM PM.rf ?_ rfl
  rintro ⟨u, k⟩ _ rfl
  show SR _ _ (Ph_digest_L6b to fl ma tr cn nu de ru la tf ph u k) (Ph_digest_L6b to fl ma tr' cn' nu' de' ru' la tf' ph u k)
  unfold Ph_digest_L6b
  split
  · refine SR.r ?_
    cases Ph_mixedWithBlocks to fl u with
    | none => exact PM.rf none
    | some r =>
      show PM (obn none (Ph_mixedWithRun la ph r) _) (obn none (Ph_mixedWithRun la ph r) _)
      cases Ph_mixedWithRun la ph r with
      | none => exact PM.rf none
      | some s =>
        show PM (if ph.2.2 0 = true then _ else _) (if ph.2.2 0 = true then _ else _)
        split
        · exact d52 s
        · exact Or.inr ⟨_, _, rfl, rfl, rfl⟩
  · exact SR.rf (S := Eq) (P := PM) (fun _ => rfl) PM.rf _
end DIGEST
