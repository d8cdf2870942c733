section JOIN2
variable {A B : AF} {pl : Pl} {C : Nat → Prop}
theorem vaA_cons (A : AF) (v : Nat) (r : List Nat) (H : Hd) (m : Me) (c : Nat) : vaA A (v :: r) H m c = if aKd A v = 9 then vaA A r H m c else if (actM (aKd A v) (evK A H v 0) (evK A H v 1) m).2.2 = true then (uH H v (actM (aKd A v) (evK A H v 0) (evK A H v 1) m).1, (actM (aKd A v) (evK A H v 0) (evK A H v 1) m).2.1, c + coN (aKd A v), true) else vaA A r (uH H v (actM (aKd A v) (evK A H v 0) (evK A H v 1) m).1) (actM (aKd A v) (evK A H v 0) (evK A H v 1) m).2.1 (c + coN (aKd A v)) := by
  conv => lhs; unfold vaA
theorem vaA_app (A : AF) : ∀ (l l' : List Nat) (H : Hd) (m : Me) (c : Nat), vaA A (l ++ l') H m c = if (vaA A l H m c).2.2.2 = true then vaA A l H m c else vaA A l' (vaA A l H m c).1 (vaA A l H m c).2.1 (vaA A l H m c).2.2.1 := by
  intro l
  induction l with
  | nil =>
    intro l' H m c
    show vaA A l' H m c = if (false = true) then _ else _
    rw [if_neg (by decide)]
    rfl
  | cons v r ih =>
    intro l' H m c
    show vaA A (v :: (r ++ l')) H m c = _
    rw [vaA_cons, vaA_cons A v r]
    by_cases h9 : aKd A v = 9
    · rw [if_pos h9, if_pos h9]
      exact ih l' H m c
    · rw [if_neg h9, if_neg h9]
      by_cases ht : (actM (aKd A v) (evK A H v 0) (evK A H v 1) m).2.2 = true
      · rw [if_pos ht, if_pos ht, if_pos rfl]
      · rw [if_neg ht, if_neg ht]
        exact ih l' _ _ _
theorem vaA_same {A B : AF} (hk : ∀ v, aKd B v = aKd A v) : ∀ (l : List Nat) (H : Hd) (m : Me) (c : Nat), (∀ v, v ∈ l → aAg B v = aAg A v) → vaA B l H m c = vaA A l H m c := by
  intro l
  induction l with
  | nil => intro H m c _; rfl
  | cons v r ih =>
    intro H m c h
    have h0 : ∀ k, evK B H v k = evK A H v k := fun k => by unfold evK; rw [h v List.mem_cons_self]
    have hr := fun z hz => h z (List.mem_cons_of_mem _ hz)
    unfold vaA
    rw [hk, h0, h0]
    rw [ih _ _ _ hr, ih _ _ _ hr]
theorem vaA_cost (A : AF) : ∀ (l : List Nat) (H : Hd) (m : Me) (c k : Nat), vaA A l H m (c + k) = ((vaA A l H m c).1, (vaA A l H m c).2.1, (vaA A l H m c).2.2.1 + k, (vaA A l H m c).2.2.2) := by
  intro l
  induction l with
  | nil => intro H m c k; rfl
  | cons v r ih =>
    intro H m c k
    unfold vaA
    by_cases h9 : aKd A v = 9
    · rw [if_pos h9, if_pos h9]
      exact ih H m c k
    · rw [if_neg h9, if_neg h9]
      by_cases ht : (actM (aKd A v) (evK A H v 0) (evK A H v 1) m).2.2 = true
      · rw [if_pos ht, if_pos ht]
        have e : c + k + coN (aKd A v) = c + coN (aKd A v) + k := by omega
        rw [e]
      · rw [if_neg ht, if_neg ht, show c + k + coN (aKd A v) = c + coN (aKd A v) + k by omega]
        exact ih _ _ _ k
theorem join_edI (hG : GG A pl C) {b n : Nat} (hj : joinP A C b n) {t w : Nat} (htn : t ≠ n) (hw : w ∈ aEd A t) : ∃ k, edI A t w = some k ∧ edI (aJoin A b n) t (rnJ b n w) = some k := by
  obtain ⟨f1, f2, f3, f4, f5, f6, f7, f8, f9, f10, f11, f12, f13, f14, f15, fW⟩ := join_facts hG hj
  obtain ⟨k, hk⟩ := edI_mem hw
  refine ⟨k, hk, edI_get (fW.2.1 t trivial) ?_⟩
  rw [f12 t k htn, edI_some hk]
  rfl
/-- what runs are -/
theorem ru_join (hG : GG A pl C) {b n : Nat} (hj : joinP A C b n) : ∀ (d d' c0 : Nat) (e e' : Option Nat) (H : Hd) (m : Me) (c c' k k' : Nat), d ≤ d' → C c0 → c0 ≠ n → phA (aJoin A b n) c0 e' H = phA A c0 e H → c' ≤ c → k' ≤ k → noWorse (ruA A d c0 e H m c k) (ruA (aJoin A b n) d' c0 e' H m c' k') := by
  obtain ⟨f1, f2, f3, f4, f5, f6, f7, f8, f9, f10, f11, f12, f13, f14, f15, fW⟩ := join_facts hG hj
  obtain ⟨hg, hW, hc, hC, hK⟩ := id hG
  obtain ⟨jb, j1, jt, jn, je, jp⟩ := id hj
  obtain ⟨e1, e2, e3, e4, e5, e6, e7⟩ := hg.2.1
  have hag : ∀ s v, v ∈ aLs A s → aAg (aJoin A b n) v = aAg A v := fun s v hv => f9 v (hW.1 s v hv).2
  have nophi : ∀ e H, phA A n e H = H := fun e H => by
    funext z
    exact phA_out fun q => jp z q
  -- the next block's PHIs
  have phis : ∀ t w H, C t → t ≠ n → w ∈ aEd A t → phA (aJoin A b n) t (edI (aJoin A b n) t (rnJ b n w)) H = phA A t (edI A t w) H := fun t w H ht htn hw => by
    obtain ⟨k, h1, h2⟩ := join_edI hG hj htn hw
    rw [h1, h2]
    funext z
    unfold phA
    rw [f3]
    have hiff : (z ∈ aLs (aJoin A b n) t ∧ aKd A z = 9) ↔ (z ∈ aLs A t ∧ aKd A z = 9) := by
      by_cases htb : t = b
      · rw [htb, f4]
        constructor
        · rintro ⟨q1, q2⟩
          exact ⟨(List.mem_append.mp q1).resolve_right fun q => jp z q q2, q2⟩
        · rintro ⟨q1, q2⟩
          exact ⟨List.mem_append_left _ q1, q2⟩
      · rw [f6 t htb htn]
    by_cases hq : z ∈ aLs A t ∧ aKd A z = 9
    · rw [if_pos hq, if_pos (hiff.mpr hq)]
      show evK (aJoin A b n) H z k = evK A H z k
      unfold evK
      rw [hag t z hq.1]
    · rw [if_neg hq, if_neg fun q => hq (hiff.mp q)]
  have ways : ∀ s i, C s → i < aEk A s → ∃ t, aTg A (s * 2 + i) = some t ∧ C t ∧ s * 2 + i ∈ aEd A t ∧ (s ≠ b → t ≠ n) := fun s i hs hi => by
    obtain ⟨t, q1, q2⟩ := hc s i hs hi
    have hm := e4 t s i q2 hs hi q1
    refine ⟨t, q1, q2, hm, fun hsb e => hsb ?_⟩
    rw [e, je, List.mem_singleton] at hm
    have := e7 s hs
    omega
  have wlt : ∀ s x, C s → aEk A s ≠ 0 → wyN (aEk A s) x < aEk A s := fun s x hs h0 => by
    unfold wyN
    split
    · rename_i h; omega
    · omega
  intro d
  induction d using Nat.strongRecOn with
  | _ d ih =>
    intro d' c0 e e' H m c c' k k' hd hc0 hcn hph hcc hkk
    by_cases hcb : c0 = b
    · subst hcb
      -- behind the values of b
      have hvB : vaA (aJoin A c0 n) (aLs (aJoin A c0 n) c0) (phA A c0 e H) m c' = vaA A (aLs A c0 ++ aLs A n) (phA A c0 e H) m c' := by
        rw [f4]
        exact vaA_same f3 _ _ _ _ fun v hv => f9 v (by
          rcases List.mem_append.mp hv with q | q
          · exact (hW.1 _ v q).2
          · exact (hW.1 _ v q).2)
      obtain ⟨kk, hkk2⟩ : ∃ q, c = c' + q := ⟨c - c', by omega⟩
      generalize hq1 : vaA A (aLs A c0) (phA A c0 e H) m c' = q1
      have hA1 : vaA A (aLs A c0) (phA A c0 e H) m c = (q1.1, q1.2.1, q1.2.2.1 + kk, q1.2.2.2) := by rw [hkk2, vaA_cost, hq1]
      have happ := vaA_app A (aLs A c0) (aLs A n) (phA A c0 e H) m c'
      rw [hq1] at happ
      rw [happ] at hvB
      by_cases ht : q1.2.2.2 = true
      · have hAr : ruA A d c0 e H m c k = some (true, 0, q1.2.1, q1.2.2.1 + kk, k) := by
          cases d <;> (unfold ruA; rw [hA1, if_pos ht])
        have hBr : ruA (aJoin A c0 n) d' c0 e' H m c' k' = some (true, 0, q1.2.1, q1.2.2.1, k') := by
          rw [if_pos ht] at hvB
          cases d' <;> (unfold ruA; rw [hph, hvB, if_pos ht])
        rw [hAr, hBr]
        exact ⟨_, _, by omega, hkk, rfl⟩
      · rw [if_neg ht] at hvB
        cases d with
        | zero =>
          have : ruA A 0 c0 e H m c k = none := by unfold ruA; rw [hA1, if_neg ht]
          rw [this]
          trivial
        | succ d1 =>
          have hA2 : ruA A (d1 + 1) c0 e H m c k = ruA A d1 n (edI A n (c0 * 2 + 0)) q1.1 q1.2.1 (q1.2.2.1 + kk + 1) (k + 1) := by
            conv => lhs; unfold ruA
            rw [hA1, if_neg ht, j1, if_neg (by decide), wyN_1, show c0 * 2 + 0 = c0 * 2 by omega, jt]
            dsimp only
            rw [if_neg (by decide)]
          rw [hA2]
          generalize hq2 : vaA A (aLs A n) q1.1 q1.2.1 q1.2.2.1 = q2
          have hA3 : vaA A (aLs A n) (phA A n (edI A n (c0 * 2 + 0)) q1.1) q1.2.1 (q1.2.2.1 + kk + 1) = (q2.1, q2.2.1, q2.2.2.1 + (kk + 1), q2.2.2.2) := by
            rw [nophi, show q1.2.2.1 + kk + 1 = q1.2.2.1 + (kk + 1) by omega, vaA_cost, hq2]
          rw [hq2] at hvB
          by_cases ht2 : q2.2.2.2 = true
          · have hAr : ruA A d1 n (edI A n (c0 * 2 + 0)) q1.1 q1.2.1 (q1.2.2.1 + kk + 1) (k + 1) = some (true, 0, q2.2.1, q2.2.2.1 + (kk + 1), k + 1) := by
              cases d1 <;> (unfold ruA; rw [hA3, if_pos ht2])
            have hBr : ruA (aJoin A c0 n) d' c0 e' H m c' k' = some (true, 0, q2.2.1, q2.2.2.1, k') := by
              cases d' <;> (unfold ruA; rw [hph, hvB, if_pos ht2])
            rw [hAr, hBr]
            exact ⟨_, _, by first | omega | (dsimp only; omega), by omega, rfl⟩
          · cases d1 with
            | zero =>
              have : ruA A 0 n (edI A n (c0 * 2 + 0)) q1.1 q1.2.1 (q1.2.2.1 + kk + 1) (k + 1) = none := by unfold ruA; rw [hA3, if_neg ht2]
              rw [this]
              trivial
            | succ d2 =>
              obtain ⟨d3, rfl⟩ : ∃ q, d' = q + 1 := ⟨d' - 1, by omega⟩
              have hev : evK (aJoin A c0 n) q2.1 (140 + c0) 0 = evK A q2.1 (140 + n) 0 := by unfold evK; rw [f10]
              unfold ruA
              rw [hA3, hph, hvB, if_neg ht2, if_neg ht2, f7, hev]
              by_cases h0 : aEk A n = 0
              · rw [if_pos h0, if_pos h0]
                exact ⟨_, _, by first | omega | (dsimp only; omega), by omega, rfl⟩
              · rw [if_neg h0, if_neg h0]
                have hlt := wlt n (evK A q2.1 (140 + n) 0) f1 h0
                have hk2 := e7 n f1
                obtain ⟨t, w1, w2, w3, w4⟩ := ways n _ f1 hlt
                have htn := w4 jn
                dsimp only
                rw [f13 _ (by omega), w1]
                dsimp only
                have hrn : rnJ c0 n (n * 2 + wyN (aEk A n) (evK A q2.1 (140 + n) 0)) = c0 * 2 + wyN (aEk A n) (evK A q2.1 (140 + n) 0) := by
                  unfold rnJ
                  rw [if_pos (by omega)]
                  omega
                have hp2 := phis t _ q2.1 w2 htn w3
                rw [hrn] at hp2
                exact ih d2 (by omega) d3 t _ _ _ _ _ _ _ _ (by omega) w2 htn hp2 (by omega) (by omega)
    · have hvB : ∀ c, vaA (aJoin A b n) (aLs (aJoin A b n) c0) (phA A c0 e H) m c = vaA A (aLs A c0) (phA A c0 e H) m c := fun c => by
        rw [f6 c0 hcb hcn]
        exact vaA_same f3 _ _ _ _ fun v hv => hag c0 v hv
      obtain ⟨kk, hkk2⟩ : ∃ q, c = c' + q := ⟨c - c', by omega⟩
      generalize hq1 : vaA A (aLs A c0) (phA A c0 e H) m c' = q1
      have hA1 : vaA A (aLs A c0) (phA A c0 e H) m c = (q1.1, q1.2.1, q1.2.2.1 + kk, q1.2.2.2) := by rw [hkk2, vaA_cost, hq1]
      have hB1 : vaA (aJoin A b n) (aLs (aJoin A b n) c0) (phA (aJoin A b n) c0 e' H) m c' = q1 := by rw [hph, hvB, hq1]
      by_cases ht : q1.2.2.2 = true
      · have hAr : ruA A d c0 e H m c k = some (true, 0, q1.2.1, q1.2.2.1 + kk, k) := by
          cases d <;> (unfold ruA; rw [hA1, if_pos ht])
        have hBr : ruA (aJoin A b n) d' c0 e' H m c' k' = some (true, 0, q1.2.1, q1.2.2.1, k') := by
          cases d' <;> (unfold ruA; rw [hB1, if_pos ht])
        rw [hAr, hBr]
        exact ⟨_, _, by omega, hkk, rfl⟩
      · cases d with
        | zero =>
          have : ruA A 0 c0 e H m c k = none := by unfold ruA; rw [hA1, if_neg ht]
          rw [this]
          trivial
        | succ d1 =>
          obtain ⟨d3, rfl⟩ : ∃ q, d' = q + 1 := ⟨d' - 1, by omega⟩
          have hev : evK (aJoin A b n) q1.1 (140 + c0) 0 = evK A q1.1 (140 + c0) 0 := by unfold evK; rw [f11 c0 hcb hcn]
          unfold ruA
          rw [hA1, hB1, if_neg ht, if_neg ht, f8 c0 hcb, hev]
          by_cases h0 : aEk A c0 = 0
          · rw [if_pos h0, if_pos h0]
            exact ⟨_, _, by first | omega | (dsimp only; omega), by omega, rfl⟩
          · rw [if_neg h0, if_neg h0]
            have hlt := wlt c0 (evK A q1.1 (140 + c0) 0) hc0 h0
            have hk2 := e7 c0 hc0
            obtain ⟨t, w1, w2, w3, w4⟩ := ways c0 _ hc0 hlt
            have htn := w4 hcb
            dsimp only
            rw [f14 _ (by omega) (by omega), w1]
            dsimp only
            have hrn : rnJ b n (c0 * 2 + wyN (aEk A c0) (evK A q1.1 (140 + c0) 0)) = c0 * 2 + wyN (aEk A c0) (evK A q1.1 (140 + c0) 0) := by
              unfold rnJ
              rw [if_neg (by omega)]
            have hp2 := phis t _ q1.1 w2 htn w3
            rw [hrn] at hp2
            exact ih d1 (by omega) d3 t _ _ _ _ _ _ _ _ (by omega) w2 htn hp2 (by omega) (by omega)
theorem app_split {l m l1 l2 : List Nat} {u : Nat} : l ++ m = l1 ++ u :: l2 → (∃ r, l = l1 ++ u :: r ∧ l2 = r ++ m) ∨ ∃ r, l1 = l ++ r ∧ m = r ++ u :: l2 := by
  induction l generalizing l1 with
  | nil => intro h; exact Or.inr ⟨l1, rfl, h⟩
  | cons x l ih =>
    intro h
    cases l1 with
    | nil =>
      rw [List.cons_append, List.nil_append] at h
      obtain ⟨q1, q2⟩ := List.cons.inj h
      exact Or.inl ⟨l, by rw [q1]; rfl, q2.symm⟩
    | cons y l1 =>
      rw [List.cons_append, List.cons_append] at h
      obtain ⟨q1, q2⟩ := List.cons.inj h
      rcases ih q2 with ⟨r, h1, h2⟩ | ⟨r, h1, h2⟩
      · exact Or.inl ⟨r, by rw [q1, h1]; rfl, h2⟩
      · exact Or.inr ⟨r, by rw [q1, h1]; rfl, h2⟩
theorem join_ok (hG : GG A pl C) {b n : Nat} (hj : joinP A C b n) : GG (aJoin A b n) (plJ pl b n) (fun c => C c ∧ c ≠ n) ∧ ∀ x y, noWorse (runA A x y) (runA (aJoin A b n) x y) := by
  obtain ⟨f1, f2, f3, f4, f5, f6, f7, f8, f9, f10, f11, f12, f13, f14, f15, fW⟩ := join_facts hG hj
  obtain ⟨hg, hW, hc, hC, hK⟩ := id hG
  obtain ⟨jb, j1, jt, jn, je, jp⟩ := id hj
  obtain ⟨e1, e2, e3, e4, e5, e6, e7⟩ := hg.2.1
  have hgL := hg.1
  have reach := fun {c : Nat} (h : C c) => gd.reach hg h
  have hag : ∀ s v, v ∈ aLs A s → aAg (aJoin A b n) v = aAg A v := fun s v hv => f9 v (hW.1 s v hv).2
  have plb : ∀ {v c}, c ≠ n → c ≠ b → (plJ pl b n v = some c ↔ pl v = some c) := fun {v c} h1 h2 => by
    unfold plJ
    by_cases h : pl v = some n
    · rw [if_pos h, h]
      exact ⟨fun q => absurd (Option.some.inj q).symm h2, fun q => absurd (Option.some.inj q).symm h1⟩
    · rw [if_neg h]
  have plk : ∀ {v p}, pl v = some p → plJ pl b n v = some (if p = n then b else p) := fun {v p} h => by
    unfold plJ
    by_cases hp : p = n
    · rw [if_pos (by rw [h, hp]), if_pos hp]
    · rw [if_neg (by rw [h]; exact fun q => hp (Option.some.inj q)), if_neg hp, h]
  -- ways into n come from b alone
  have into : ∀ a, aE A C a n → a = b := fun a ⟨q1, j, q2, q3⟩ => by
    have hm := e4 n a j f1 q1 q2 q3
    rw [je, List.mem_singleton] at hm
    have := e7 a q1
    omega
  have bn : aE A C b n := ⟨jb, 0, by omega, by rw [show b * 2 + 0 = b * 2 by omega]; exact jt⟩
  have outb : ∀ c, aE A C b c → c = n := fun c ⟨q1, j, q2, q3⟩ => by
    rw [show b * 2 + j = b * 2 by omega, jt] at q3
    exact (Option.some.inj q3).symm
  -- edges of the new form
  have edgeB : ∀ a c, a ≠ n → C a → (∃ j, j < aEk (aJoin A b n) a ∧ aTg (aJoin A b n) (a * 2 + j) = some c) → (a ≠ b ∧ aE A C a c ∧ c ≠ n) ∨ (a = b ∧ aE A C n c ∧ c ≠ n) := fun a c han ha ⟨j, q2, q3⟩ => by
    by_cases hab : a = b
    · rw [hab] at q2 q3
      rw [f7] at q2
      have := e7 n f1
      rw [f13 j (by omega)] at q3
      have hE : aE A C n c := ⟨f1, j, q2, q3⟩
      exact Or.inr ⟨hab, hE, fun e => jn (into n (by rw [e] at hE; exact hE))⟩
    · rw [f8 a hab] at q2
      have := e7 a ha
      rw [f14 _ (by omega) (by omega)] at q3
      have hE : aE A C a c := ⟨ha, j, q2, q3⟩
      exact Or.inl ⟨hab, hE, fun e => hab (into a (by rw [e] at hE; exact hE))⟩
  have edgeA : ∀ a c, aE A C a c → a ≠ b → c ≠ n → aE (aJoin A b n) (fun c => C c ∧ c ≠ n) (if a = n then b else a) c := fun a c ⟨q1, j, q2, q3⟩ hab hcn => by
    by_cases han : a = n
    · rw [if_pos han]
      rw [han] at q2 q3
      have := e7 n f1
      exact ⟨⟨jb, jn.symm⟩, j, by rw [f7]; exact q2, by rw [f13 j (by omega)]; exact q3⟩
    · rw [if_neg han]
      have := e7 a q1
      exact ⟨⟨q1, han⟩, j, by rw [f8 a hab]; exact q2, by rw [f14 _ (by omega) (by omega)]; exact q3⟩
  -- what is reached without p
  have back : ∀ p c, RW (aE (aJoin A b n) (fun c => C c ∧ c ≠ n)) (some (if p = n then b else p)) c → RW (aE A C) (some p) c := fun p c h => by
    refine RW_ind (E := aE (aJoin A b n) (fun c => C c ∧ c ≠ n)) (P := fun c => RW (aE A C) (some p) c) (fun h0 => RW_base fun e => h0 ?_) (fun a d hra ih he hd hrd => ?_) h
    · rw [Option.some.inj e, if_neg f2.symm]
    · obtain ⟨⟨qa, qan⟩, qj⟩ := he
      have hdp : ∀ {x}, x = d → d ≠ n → some p ≠ some x := fun hx hdn e => hd (by
        rw [← hx, ← Option.some.inj e]
        by_cases hpn : p = n
        · exact absurd (by rw [← hx, ← Option.some.inj e]; exact hpn) hdn
        · rw [if_neg hpn])
      rcases edgeB a d qan qa qj with ⟨z1, z2, z3⟩ | ⟨z1, z2, z3⟩
      · exact RW_step ih z2 (hdp rfl z3)
      · subst z1
        have hb := RW_ne hra
        have hpn : p ≠ n := fun e => hb (by rw [if_pos e])
        exact RW_step (RW_step ih bn fun e => hpn (Option.some.inj e)) z2 (hdp rfl z3)
  have nb : RW (aE A C) (some n) b := by
    refine Classical.byContradiction fun h => jn ?_
    refine dom_anti (reach jb) h ?_
    intro h2
    refine absurd h2 ?_
    intro h3
    obtain ⟨s, z1, -, z3⟩ := RW_last f2 h3
    rw [into s z3] at z1
    exact RW_ne z1 rfl
  -- what is there
  have avC : ∀ {c v : Nat} {l : List Nat}, c ≠ n → C c → avl A pl C c l v → avl (aJoin A b n) (plJ pl b n) (fun c => C c ∧ c ≠ n) c l v := fun {c v l} hcn hcC h => by
    rcases h with h | ⟨h1, h2⟩ | ⟨p, h1, h2, h3⟩
    · exact Or.inl h
    · refine Or.inr (Or.inl ⟨?_, by rw [f3]; exact h2⟩)
      rw [plk h1, if_neg hcn]
    · refine Or.inr (Or.inr ⟨_, plk h1, fun e => ?_, fun q => h3 (back p c q)⟩)
      by_cases hpn : p = n
      · rw [if_pos hpn] at e
        rw [← e, hpn] at h3
        exact h3 nb
      · rw [if_neg hpn] at e
        exact h2 e
  have avN : ∀ {v : Nat} {l : List Nat}, avl A pl C n l v → avl (aJoin A b n) (plJ pl b n) (fun c => C c ∧ c ≠ n) b (aLs A b ++ l) v := fun {v l} h => by
    rcases h with h | ⟨h1, h2⟩ | ⟨p, h1, h2, h3⟩
    · exact Or.inl h
    · refine Or.inr (Or.inl ⟨by rw [plk h1, if_pos rfl], Or.inr (List.mem_append_right _ ?_)⟩)
      rcases h2 with h2 | h2
      · exact absurd h2 (jp v ((hgL.1 n f1 v).mpr h1))
      · exact h2
    · by_cases hpb : p = b
      · refine Or.inr (Or.inl ⟨by rw [plk h1, if_neg h2, hpb], Or.inr (List.mem_append_left _ ?_)⟩)
        exact (hgL.1 b jb v).mpr (by rw [h1, hpb])
      · refine Or.inr (Or.inr ⟨_, plk h1, by rw [if_neg h2]; exact hpb, fun q => h3 ?_⟩)
        exact RW_step (back p b q) bn fun e => h2 (Option.some.inj e)
  have hU : ∀ {v : Nat}, usb A v → usb (aJoin A b n) v := fun h => by unfold usb; rw [f3]; exact h
  have clB : clo (aJoin A b n) (fun c => C c ∧ c ≠ n) := fun c j ⟨hcC, hcn⟩ hj' => by
    by_cases hcb : c = b
    · rw [hcb, f7] at hj'
      rw [hcb]
      obtain ⟨t, q1, q2⟩ := hc n j f1 hj'
      have := e7 n f1
      refine ⟨t, by rw [f13 j (by omega)]; exact q1, q2, fun e => jn (into n ⟨f1, j, hj', by rw [q1, e]⟩)⟩
    · rw [f8 c hcb] at hj'
      obtain ⟨t, q1, q2⟩ := hc c j hcC hj'
      have := e7 c hcC
      refine ⟨t, by rw [f14 _ (by omega) (by omega)]; exact q1, q2, fun e => hcb (into c ⟨hcC, j, hj', by rw [q1, e]⟩)⟩
  have edB : ∀ c w, c ≠ n → (w ∈ aEd (aJoin A b n) c ↔ ∃ y, y ∈ aEd A c ∧ w = rnJ b n y) := fun c w hcn => by
    rw [List.mem_iff_getElem?]
    constructor
    · rintro ⟨i, hi⟩
      rw [f12 c i hcn] at hi
      cases hy : (aEd A c)[i]? with
      | none => rw [hy] at hi; cases hi
      | some y =>
        rw [hy] at hi
        exact ⟨y, List.mem_of_getElem? hy, (Option.some.inj hi).symm⟩
    · rintro ⟨y, hy, rfl⟩
      obtain ⟨i, hi⟩ := List.getElem?_of_mem hy
      exact ⟨i, by rw [f12 c i hcn, hi]; rfl⟩
  have zipB : ∀ c u w a, c ≠ n → u < 140 → (w, a) ∈ (aEd (aJoin A b n) c).zip (aAg (aJoin A b n) u) → ∃ y, (y, a) ∈ (aEd A c).zip (aAg A u) ∧ w = rnJ b n y := fun c u w a hcn hu hz => by
    rw [f9 u hu] at hz
    obtain ⟨i, h1, h2⟩ := zip_idx _ _ _ _ hz
    rw [f12 c i hcn] at h1
    cases hy : (aEd A c)[i]? with
    | none => rw [hy] at h1; cases h1
    | some y =>
      rw [hy] at h1
      exact ⟨y, idx_zip _ _ _ _ _ hy h2, (Option.some.inj h1).symm⟩
  have rn2 : ∀ y, rnJ b n y / 2 = (if y / 2 = n then b else y / 2) ∧ rnJ b n y % 2 = y % 2 := fun y => by
    unfold rnJ
    by_cases h : y / 2 = n
    · rw [if_pos h, if_pos h]; omega
    · rw [if_neg h, if_neg h]; exact ⟨rfl, rfl⟩
  -- sources of edges into other blocks than n are not b
  have srcb : ∀ c y, c ≠ n → y ∈ aEd A c → y / 2 ≠ b := fun c y hcn hy e => by
    have hy' := hW.2.2.2 c y trivial hy
    have := hK y c (by rw [e]; exact jb) hy'
    rw [e, j1] at this
    rw [show y = b * 2 by omega, jt] at hy'
    exact hcn (Option.some.inj hy').symm
  have ls0 : ∀ v, v ∈ aLs (aJoin A b n) 0 → aKd A v ≠ 9 := fun v hv => by
    by_cases hb0 : 0 = b
    · rw [hb0, f4] at hv
      rcases List.mem_append.mp hv with q | q
      · exact hgL.2.2.2.1 v (by rw [hb0]; exact q)
      · exact jp v q
    · rw [f6 0 hb0 f2.symm] at hv
      exact hgL.2.2.2.1 v hv
  have hgd : gd (aJoin A b n) (plJ pl b n) (fun c => C c ∧ c ≠ n) := by
    refine ⟨⟨fun c hcc v => ?_, fun c hcc => ?_, fun v p hp => ?_, fun v hv => by rw [f3]; exact ls0 v hv, fun c l1 u l2 hcc hl h9 z hz => ?_⟩, ⟨⟨e1, f2.symm⟩, fun c hcc => ?_, fun c _ => fW.2.1 c trivial, fun c s j hcc hss hj' q => ?_, fun c w hcc hw hwC => ⟨?_, fW.2.2.2 c w trivial hw⟩, ?_, fun c hcc => ?_⟩, ⟨fun c u hcc hu => ?_, fun c hcc => ?_⟩, ⟨fun c l1 u l2 hcc hl h9 v hv => ?_, fun c v hcc hv => ?_, fun c u w v hcc hu h9 hz hwC => ?_⟩⟩
    · by_cases hcb : c = b
      · subst hcb
        rw [f4, List.mem_append, hgL.1 c jb v, hgL.1 n f1 v]
        unfold plJ
        by_cases h : pl v = some n
        · rw [if_pos h]; simp [h]
        · rw [if_neg h]; simp [h]
      · rw [f6 c hcb hcc.2, plb hcc.2 hcb]
        exact hgL.1 c hcc.1 v
    · by_cases hcb : c = b
      · rw [hcb, f4]
        refine List.nodup_append.mpr ⟨hgL.2.1 b jb, hgL.2.1 n f1, fun x hx y hy e => ?_⟩
        rw [← e] at hy
        exact jn (Option.some.inj ((hW.1 n x hy).1.symm.trans (hW.1 b x hx).1))
      · rw [f6 c hcb hcc.2]
        exact hgL.2.1 c hcc.1
    · rw [f3]
      unfold plJ at hp
      by_cases h : pl v = some n
      · exact hgL.2.2.1 v n h
      · rw [if_neg h] at hp
        exact hgL.2.2.1 v p hp
    · rw [f3] at h9 ⊢
      by_cases hcb : c = b
      · rw [hcb, f4] at hl
        rcases app_split hl with ⟨r, q1, q2⟩ | ⟨r, q1, q2⟩
        · exact hgL.2.2.2.2 b l1 u r jb q1 h9 z hz
        · exact absurd h9 (jp u (by rw [q2]; exact List.mem_append_right _ List.mem_cons_self))
      · rw [f6 c hcb hcc.2] at hl
        exact hgL.2.2.2.2 c l1 u l2 hcc.1 hl h9 z hz
    · have key : RW (fun a d => aE (aJoin A b n) (fun c => C c ∧ c ≠ n) a d ∧ C d ∧ d ≠ n) none (if c = n then b else c) := by
        refine RW_ind (E := fun a d => aE A C a d ∧ C d) (o := none) (P := fun c => RW (fun a d => aE (aJoin A b n) (fun c => C c ∧ c ≠ n) a d ∧ C d ∧ d ≠ n) none (if c = n then b else c)) (fun _ => ?_) (fun a d _ ih he _ _ => ?_) (e2 c hcc.1)
        · rw [if_neg f2.symm]
          exact RW_base (by simp)
        · by_cases hab : a = b
          · have hdn := outb d (by rw [← hab]; exact he.1)
            rw [if_pos hdn]
            rw [hab, if_neg jn.symm] at ih
            exact ih
          · have hdn : d ≠ n := fun e => hab (into a (by rw [← e]; exact he.1))
            rw [if_neg hdn]
            exact RW_step ih ⟨edgeA a d he.1 hab hdn, he.2, hdn⟩ (by simp)
      rw [if_neg hcc.2] at key
      exact key
    · by_cases hsb : s = b
      · rw [hsb] at hj' q ⊢
        rw [f7] at hj'
        have := e7 n f1
        rw [f13 j (by omega)] at q
        refine (edB c _ hcc.2).mpr ⟨n * 2 + j, e4 c n j hcc.1 f1 hj' q, ?_⟩
        unfold rnJ
        rw [if_pos (by omega)]
        omega
      · rw [f8 s hsb] at hj'
        have := e7 s hss.1
        have hsn := hss.2
        rw [f14 _ (by omega) (by omega)] at q
        refine (edB c _ hcc.2).mpr ⟨s * 2 + j, e4 c s j hcc.1 hss.1 hj' q, ?_⟩
        unfold rnJ
        rw [if_neg (by omega)]
    · obtain ⟨y, hy, e⟩ := (edB c w hcc.2).mp hw
      obtain ⟨r1, r2⟩ := rn2 y
      rw [e, r1, r2]
      have hyC := hC c y hcc.1 hy
      have := (e5 c y hcc.1 hy hyC).1
      by_cases hyn : y / 2 = n
      · rw [if_pos hyn, f7, ← hyn]
        exact this
      · rw [if_neg hyn, f8 _ (srcb c y hcc.2 hy)]
        exact this
    · refine List.eq_nil_iff_forall_not_mem.mpr fun w hw => ?_
      obtain ⟨y, hy, -⟩ := (edB 0 w f2.symm).mp hw
      rw [e6] at hy
      cases hy
    · by_cases hcb : c = b
      · rw [hcb, f7]; exact e7 n f1
      · rw [f8 c hcb]; exact e7 c hcc.1
    · have hpl : ∃ c', C c' ∧ u ∈ aLs A c' ∧ (aKd A u = 9 → c' = c) := by
        by_cases hcb : c = b
        · rw [hcb, f4] at hu
          rcases List.mem_append.mp hu with q | q
          · exact ⟨b, jb, q, fun _ => hcb.symm⟩
          · exact ⟨n, f1, q, fun h9 => absurd h9 (jp u q)⟩
        · rw [f6 c hcb hcc.2] at hu
          exact ⟨c, hcc.1, hu, fun _ => rfl⟩
      obtain ⟨c', h1, h2, h3⟩ := hpl
      have hnn := hg.2.2.1.1 c' u h1 h2
      rw [f3]
      refine ⟨fun h9 => fW.2.2.1 c u trivial hu (by rw [f3]; exact h9), ?_⟩
      rw [hag c' u h2]
      exact hnn.2
    · by_cases hcb : c = b
      · rw [hcb, f7, f10]
        exact hg.2.2.1.2 n f1
      · rw [f8 c hcb, f11 c hcb hcc.2]
        exact hg.2.2.1.2 c hcc.1
    · rw [f3] at h9
      by_cases hcb : c = b
      · subst hcb
        rw [f4] at hl
        rcases app_split hl with ⟨r, q1, q2⟩ | ⟨r, q1, q2⟩
        · rw [hag c u (by rw [q1]; exact List.mem_append_right _ List.mem_cons_self)] at hv
          obtain ⟨z1, z2⟩ := hg.2.2.2.1 c l1 u r jb q1 h9 v hv
          exact ⟨hU z1, avC hcc.2 jb z2⟩
        · rw [hag n u (by rw [q2]; exact List.mem_append_right _ List.mem_cons_self)] at hv
          obtain ⟨z1, z2⟩ := hg.2.2.2.1 n r u l2 f1 q2 h9 v hv
          rw [q1]
          exact ⟨hU z1, avN z2⟩
      · rw [f6 c hcb hcc.2] at hl
        rw [hag c u (by rw [hl]; exact List.mem_append_right _ List.mem_cons_self)] at hv
        obtain ⟨z1, z2⟩ := hg.2.2.2.1 c l1 u l2 hcc.1 hl h9 v hv
        exact ⟨hU z1, avC hcc.2 hcc.1 z2⟩
    · by_cases hcb : c = b
      · rw [hcb, f10] at hv
        obtain ⟨z1, z2⟩ := hg.2.2.2.2.1 n v f1 hv
        rw [hcb, f4]
        exact ⟨hU z1, avN z2⟩
      · rw [f11 c hcb hcc.2] at hv
        obtain ⟨z1, z2⟩ := hg.2.2.2.2.1 c v hcc.1 hv
        rw [f6 c hcb hcc.2]
        exact ⟨hU z1, avC hcc.2 hcc.1 z2⟩
    · rw [f3] at h9
      have hu' : u ∈ aLs A c := by
        by_cases hcb : c = b
        · rw [hcb, f4] at hu
          rw [hcb]
          exact (List.mem_append.mp hu).resolve_right fun q => jp u q h9
        · rw [f6 c hcb hcc.2] at hu
          exact hu
      obtain ⟨y, hy, e⟩ := zipB c u w _ hcc.2 (hW.1 c u hu').2 hz
      obtain ⟨r1, -⟩ := rn2 y
      have hye := (List.of_mem_zip hy).1
      have hyC := hC c y hcc.1 hye
      obtain ⟨z1, z2⟩ := hg.2.2.2.2.2 c u y v hcc.1 hu' h9 hy hyC
      rw [e, r1]
      by_cases hyn : y / 2 = n
      · rw [if_pos hyn, f4]
        rw [hyn] at z2
        exact ⟨hU z1, avN z2⟩
      · rw [if_neg hyn, f6 _ (srcb c y hcc.2 hye) hyn]
        exact ⟨hU z1, avC hyn hyC z2⟩
  refine ⟨⟨hgd, fW, clB, fun t w ht hw => ?_, fun w t hw ht => ?_⟩, fun x y => ru_join hG hj 300 300 0 none none _ _ _ _ _ _ (Nat.le_refl _) e1 f2.symm ?_ (Nat.le_refl _) (Nat.le_refl _)⟩
  · obtain ⟨y, hy, e⟩ := (edB t w ht.2).mp hw
    obtain ⟨r1, -⟩ := rn2 y
    have hyC := hC t y ht.1 hy
    rw [e, r1]
    by_cases hyn : y / 2 = n
    · rw [if_pos hyn]; exact ⟨jb, jn.symm⟩
    · rw [if_neg hyn]; exact ⟨hyC, hyn⟩
  · by_cases hwb : w / 2 = b
    · rw [show w = b * 2 + w % 2 by omega, f13 _ (by omega)] at ht
      have := hK _ t (by rw [show (n * 2 + w % 2) / 2 = n by omega]; exact f1) ht
      rw [hwb, f7]
      rw [show (n * 2 + w % 2) / 2 = n by omega, show (n * 2 + w % 2) % 2 = w % 2 by omega] at this
      exact this
    · rw [f14 w hwb hw.2] at ht
      rw [f8 _ hwb]
      exact hK w t hw.1 ht
  · funext z
    rw [phA_out fun q => by rw [f3]; exact ls0 z q, phA_out fun q => hgL.2.2.2.1 z q]
end JOIN2
