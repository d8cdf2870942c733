/-! TWO BLOCKS become one -/
section JOIN
variable {A B : AF} {pl : Pl} {C : Nat → Prop}
theorem chg_all {w w' : Nat} (hW : gW A pl allC) (hI : ∀ t, aTg A w = some t → w ∈ aEd A t) (hne : w ≠ w') (hw' : aTg A w' = none) :
    (∀ s i : Nat, (aEd (aChg A w w') s)[i]? = ((aEd A s)[i]?).map (chN w w')) ∧ (∀ x, aTg (aChg A w w') x = if x = w' then aTg A w else if x = w then none else aTg A x) ∧ gW (aChg A w w') pl allC := by
  cases h : aTg A w with
  | some t =>
    have hm := hI t h
    have hno : w ≠ w' → w' ∉ aEd A t := fun _ m => by
      have := hW.2.2.2 t w' trivial m
      rw [hw'] at this
      cases this
    exact ⟨fun s i => chg_get hW h hm trivial hno i, fun x => chg_tg h hm x, chg_W hW h hm fun _ => hw'⟩
  | none =>
    have e : aChg A w w' = A := by unfold aChg; rw [h]
    rw [e]
    refine ⟨fun s i => ?_, fun x => ?_, hW⟩
    · cases hx : (aEd A s)[i]? with
      | none => rfl
      | some x =>
        have hxw : ¬ x = w := fun q => by
          have := hW.2.2.2 s x trivial (List.mem_of_getElem? hx)
          rw [q, h] at this
          cases this
        show some x = some (if x = w then w' else x)
        rw [if_neg hxw]
    · by_cases h1 : x = w'
      · rw [if_pos h1, h1]; exact hw'
      · rw [if_neg h1]
        by_cases h2 : x = w
        · rw [if_pos h2, h2]; exact h
        · rw [if_neg h2]
/-- all that is in n comes behind what is in b -/
def aMv (A : AF) (b n : Nat) : AF := (aKd A, aAg A, fun c => if c = b then aLs A b ++ aLs A n else if c = n then [] else aLs A c, aEd A, aEk A, aTg A)
/-- b gets the end of n -/
def aTake (A : AF) (b n : Nat) : AF := (aKd A, fun u => if u = 140 + n then [] else if u = 140 + b then aAg A (140 + n) else aAg A u, aLs A, aEd A, fun c => if c = b then aEk A n else aEk A c, aTg A)
def aJoin (A : AF) (b n : Nat) : AF := aLose (aTake (aChg (aChg (aDrop (aMv A b n) (b * 2)) (n * 2) (b * 2)) (n * 2 + 1) (b * 2 + 1)) b n) n
def plJ (pl : Pl) (b n : Nat) : Pl := fun z => if pl z = some n then some b else pl z
def rnJ (b n w : Nat) : Nat := if w / 2 = n then b * 2 + w % 2 else w
/-- ways on are those that an end has -/
def eK (A : AF) (C : Nat → Prop) : Prop := ∀ w t, C (w / 2) → aTg A w = some t → w % 2 < aEk A (w / 2)
def eC (A : AF) (C : Nat → Prop) : Prop := ∀ t w, C t → w ∈ aEd A t → C (w / 2)
/-- a form as it stands between passes -/
def GG (A : AF) (pl : Pl) (C : Nat → Prop) : Prop := gd A pl C ∧ gW A pl allC ∧ clo A C ∧ eC A C ∧ eK A C
def joinP (A : AF) (C : Nat → Prop) (b n : Nat) : Prop := C b ∧ aEk A b = 1 ∧ aTg A (b * 2) = some n ∧ n ≠ b ∧ aEd A n = [b * 2] ∧ ∀ v, v ∈ aLs A n → aKd A v ≠ 9
theorem join_facts (hG : GG A pl C) {b n : Nat} (hj : joinP A C b n) :
    C n ∧ n ≠ 0 ∧ (∀ v, aKd (aJoin A b n) v = aKd A v) ∧ aLs (aJoin A b n) b = aLs A b ++ aLs A n ∧ aLs (aJoin A b n) n = [] ∧ (∀ c, c ≠ b → c ≠ n → aLs (aJoin A b n) c = aLs A c) ∧
    aEk (aJoin A b n) b = aEk A n ∧ (∀ c, c ≠ b → aEk (aJoin A b n) c = aEk A c) ∧ (∀ u, u < 140 → aAg (aJoin A b n) u = aAg A u) ∧ aAg (aJoin A b n) (140 + b) = aAg A (140 + n) ∧ (∀ c, c ≠ b → c ≠ n → aAg (aJoin A b n) (140 + c) = aAg A (140 + c)) ∧
    (∀ s i : Nat, s ≠ n → (aEd (aJoin A b n) s)[i]? = ((aEd A s)[i]?).map (rnJ b n)) ∧ (∀ j, j < 2 → aTg (aJoin A b n) (b * 2 + j) = aTg A (n * 2 + j)) ∧ (∀ w, w / 2 ≠ b → w / 2 ≠ n → aTg (aJoin A b n) w = aTg A w) ∧ (∀ w, w / 2 = n → aTg (aJoin A b n) w = none) ∧ gW (aJoin A b n) (plJ pl b n) allC := by
  obtain ⟨hg, hW, hc, hC, hK⟩ := hG
  obtain ⟨jb, j1, jt, jn, je, jp⟩ := hj
  obtain ⟨e1, e2, e3, e4, e5, e6, e7⟩ := hg.2.1
  have hCn : C n := by
    obtain ⟨t, q1, q2⟩ := hc b 0 jb (by omega)
    rw [show b * 2 + 0 = b * 2 by omega, jt] at q1
    cases q1
    exact q2
  have hn0 : n ≠ 0 := fun e => by rw [e, e6] at je; cases je
  have hdis : ∀ v, v ∈ aLs A b → v ∉ aLs A n := fun v h1 h2 => jn (Option.some.inj ((hW.1 n v h2).1.symm.trans (hW.1 b v h1).1))
  -- moved
  have W1 : gW (aMv A b n) (plJ pl b n) allC := by
    refine ⟨fun c v hv => ?_, hW.2.1, fun t u _ hu h9 => ?_, hW.2.2.2⟩
    · have hv' : v ∈ (if c = b then aLs A b ++ aLs A n else if c = n then [] else aLs A c) := hv
      unfold plJ
      by_cases hcb : c = b
      · rw [if_pos hcb] at hv'
        rcases List.mem_append.mp hv' with h | h
        · rw [(hW.1 b v h).1, if_neg (fun q => jn (Option.some.inj q).symm), hcb]
          exact ⟨rfl, (hW.1 b v h).2⟩
        · rw [(hW.1 n v h).1, if_pos rfl, hcb]
          exact ⟨rfl, (hW.1 n v h).2⟩
      · rw [if_neg hcb] at hv'
        by_cases hcn : c = n
        · rw [if_pos hcn] at hv'; cases hv'
        · rw [if_neg hcn] at hv'
          rw [(hW.1 c v hv').1, if_neg (fun q => hcn (Option.some.inj q))]
          exact ⟨rfl, (hW.1 c v hv').2⟩
    · have hu' : u ∈ (if t = b then aLs A b ++ aLs A n else if t = n then [] else aLs A t) := hu
      by_cases hcb : t = b
      · rw [if_pos hcb] at hu'
        rcases List.mem_append.mp hu' with h | h
        · rw [hcb]; exact hW.2.2.1 b u trivial h h9
        · exact absurd h9 (jp u h)
      · rw [if_neg hcb] at hu'
        by_cases hcn : t = n
        · rw [if_pos hcn] at hu'; cases hu'
        · rw [if_neg hcn] at hu'
          exact hW.2.2.1 t u trivial hu' h9
  have hlsn : aLs (aMv A b n) n = [] := by
    show (if n = b then aLs A b ++ aLs A n else if n = n then [] else aLs A n) = []
    rw [if_neg jn, if_pos rfl]
  have hedI : edI (aMv A b n) n (b * 2) = some 0 := by
    show edI A n (b * 2) = some 0
    unfold edI
    rw [je]
    simp
  have hD : aDrop (aMv A b n) (b * 2) = (aKd A, fun u => if u ∈ aLs (aMv A b n) n ∧ aKd A u = 9 then (aAg A u).eraseIdx 0 else aAg A u, aLs (aMv A b n), fun c => if c = n then (aEd A n).eraseIdx 0 else aEd A c, aEk A, fun x => if x = b * 2 then none else aTg A x) := by
    unfold aDrop
    rw [show aTg (aMv A b n) (b * 2) = some n from jt]
    dsimp only
    rw [hedI]
    rfl
  have W2 := drop_W W1 (b * 2)
  have ag2 : ∀ u, aAg (aDrop (aMv A b n) (b * 2)) u = aAg A u := fun u => by
    rw [hD]
    show (if u ∈ aLs (aMv A b n) n ∧ aKd A u = 9 then (aAg A u).eraseIdx 0 else aAg A u) = _
    rw [hlsn, if_neg (fun q => by cases q.1)]
  have tg2 : ∀ x, aTg (aDrop (aMv A b n) (b * 2)) x = if x = b * 2 then none else aTg A x := fun x => by rw [hD]; rfl
  have ed2 : ∀ c, c ≠ n → aEd (aDrop (aMv A b n) (b * 2)) c = aEd A c := fun c hc' => by
    rw [hD]
    exact if_neg hc'
  obtain ⟨d1, d2, d3⟩ := drop_same (aMv A b n) (b * 2)
  have tn : ∀ j t, j < 2 → aTg A (n * 2 + j) = some t → n * 2 + j ∈ aEd A t ∧ t ≠ n := fun j t hj ht => by
    have hjk := hK _ _ (by rw [show (n * 2 + j) / 2 = n by omega]; exact hCn) ht
    rw [show (n * 2 + j) / 2 = n by omega, show (n * 2 + j) % 2 = j by omega] at hjk
    obtain ⟨t', q1, q2⟩ := hc n j hCn hjk
    rw [ht] at q1
    cases q1
    have hm := e4 t n j q2 hCn hjk ht
    refine ⟨hm, fun e => ?_⟩
    rw [e, je, List.mem_singleton] at hm
    omega
  -- first way
  obtain ⟨c1, c2, c3, c4⟩ := chg_same (aDrop (aMv A b n) (b * 2)) (n * 2) (b * 2)
  obtain ⟨g1, g2, W3⟩ := chg_all (w := n * 2) (w' := b * 2) W2 (fun t ht => by
    rw [tg2, if_neg (by omega)] at ht
    obtain ⟨q1, q2⟩ := tn 0 t (by decide) ht
    rw [ed2 t q2]
    exact q1) (by omega) (by rw [tg2, if_pos rfl])
  obtain ⟨c5, c6, c7, c8⟩ := chg_same (aChg (aDrop (aMv A b n) (b * 2)) (n * 2) (b * 2)) (n * 2 + 1) (b * 2 + 1)
  have hb1 : aTg A (b * 2 + 1) = none := by
    cases q : aTg A (b * 2 + 1) with
    | none => rfl
    | some t =>
      have := hK _ t (by rw [show (b * 2 + 1) / 2 = b by omega]; exact jb) q
      rw [show (b * 2 + 1) / 2 = b by omega, j1] at this
      omega
  obtain ⟨g3, g4, W4⟩ := chg_all (w := n * 2 + 1) (w' := b * 2 + 1) W3 (fun t ht => by
    rw [g2, if_neg (by omega), if_neg (by omega), tg2, if_neg (by omega)] at ht
    obtain ⟨q1, q2⟩ := tn 1 t (by decide) ht
    obtain ⟨i, hi⟩ := List.getElem?_of_mem q1
    refine List.mem_of_getElem? (i := i) ?_
    rw [g1, ed2 t q2, hi]
    show some (if n * 2 + 1 = n * 2 then b * 2 else n * 2 + 1) = _
    rw [if_neg (by omega)]) (by omega) (by rw [g2, if_neg (by omega), if_neg (by omega), tg2, if_neg (by omega)]; exact hb1)
  have ls4 : ∀ c, aLs (aChg (aChg (aDrop (aMv A b n) (b * 2)) (n * 2) (b * 2)) (n * 2 + 1) (b * 2 + 1)) c = aLs (aMv A b n) c := fun c => by rw [c6, c2, d2]
  have ag4 : ∀ u, aAg (aChg (aChg (aDrop (aMv A b n) (b * 2)) (n * 2) (b * 2)) (n * 2 + 1) (b * 2 + 1)) u = aAg A u := fun u => by rw [c8, c4, ag2]
  have ek4 : ∀ c, aEk (aChg (aChg (aDrop (aMv A b n) (b * 2)) (n * 2) (b * 2)) (n * 2 + 1) (b * 2 + 1)) c = aEk A c := fun c => by rw [c7, c3, d3]; rfl
  have kd4 : ∀ c, aKd (aChg (aChg (aDrop (aMv A b n) (b * 2)) (n * 2) (b * 2)) (n * 2 + 1) (b * 2 + 1)) c = aKd A c := fun c => by rw [c5, c1, d1]; rfl
  have tg4 : ∀ w, aTg (aJoin A b n) w = if w = b * 2 + 1 then aTg A (n * 2 + 1) else if w = n * 2 + 1 then none else if w = b * 2 then aTg A (n * 2) else if w = n * 2 then none else aTg A w := fun w => by
    show aTg (aChg (aChg (aDrop (aMv A b n) (b * 2)) (n * 2) (b * 2)) (n * 2 + 1) (b * 2 + 1)) w = _
    rw [g4]
    by_cases h1 : w = b * 2 + 1
    · rw [if_pos h1, if_pos h1, g2, if_neg (by omega), if_neg (by omega), tg2, if_neg (by omega)]
    · rw [if_neg h1, if_neg h1]
      by_cases h2 : w = n * 2 + 1
      · rw [if_pos h2, if_pos h2]
      · rw [if_neg h2, if_neg h2, g2]
        by_cases h3 : w = b * 2
        · rw [if_pos h3, if_pos h3, tg2, if_neg (by omega)]
        · rw [if_neg h3, if_neg h3]
          by_cases h4 : w = n * 2
          · rw [if_pos h4, if_pos h4]
          · rw [if_neg h4, if_neg h4, tg2, if_neg h3]
  have lsn : ∀ u, u ∉ aLs (aTake (aChg (aChg (aDrop (aMv A b n) (b * 2)) (n * 2) (b * 2)) (n * 2 + 1) (b * 2 + 1)) b n) n := fun u q => by
    have q' : u ∈ aLs (aChg (aChg (aDrop (aMv A b n) (b * 2)) (n * 2) (b * 2)) (n * 2 + 1) (b * 2 + 1)) n := q
    rw [ls4, hlsn] at q'
    cases q'
  have agJ : ∀ u, u ≠ 140 + n → aAg (aJoin A b n) u = if u = 140 + b then aAg A (140 + n) else aAg A u := fun u hu => by
    show (if u ∈ _ ∨ u = 140 + n then [] else (if u = 140 + n then [] else if u = 140 + b then aAg (aChg (aChg (aDrop (aMv A b n) (b * 2)) (n * 2) (b * 2)) (n * 2 + 1) (b * 2 + 1)) (140 + n) else aAg (aChg (aChg (aDrop (aMv A b n) (b * 2)) (n * 2) (b * 2)) (n * 2 + 1) (b * 2 + 1)) u)) = _
    rw [if_neg (fun q => q.elim (lsn u) hu), if_neg hu, ag4, ag4]
  have lsJ : ∀ c, c ≠ n → aLs (aJoin A b n) c = aLs (aMv A b n) c := fun c hc' => by
    show (if c = n then [] else aLs (aChg (aChg (aDrop (aMv A b n) (b * 2)) (n * 2) (b * 2)) (n * 2 + 1) (b * 2 + 1)) c) = _
    rw [if_neg hc', ls4]
  have hls2 : ∀ c, c ≠ b → c ≠ n → aLs (aJoin A b n) c = aLs A c := fun c h1 h2 => by
    rw [lsJ c h2]
    show (if c = b then aLs A b ++ aLs A n else if c = n then [] else aLs A c) = _
    rw [if_neg h1, if_neg h2]
  have hlsb : aLs (aJoin A b n) b = aLs A b ++ aLs A n := by rw [lsJ b jn.symm]; exact if_pos rfl
  have hed : ∀ s, s ≠ n → aEd (aJoin A b n) s = aEd (aChg (aChg (aDrop (aMv A b n) (b * 2)) (n * 2) (b * 2)) (n * 2 + 1) (b * 2 + 1)) s := fun s hs => if_neg hs
  have u140 : ∀ c v, v ∈ aLs A c → v < 140 := fun c v hv => (hW.1 c v hv).2
  refine ⟨hCn, hn0, kd4, hlsb, if_pos rfl, hls2, ?_, fun c hc' => ?_, fun u hu => ?_, ?_, fun c h1 h2 => ?_, fun s i hs => ?_, fun j hj => ?_, fun w h1 h2 => ?_, fun w hw => ?_, ⟨fun c v hv => ?_, fun c _ => ?_, fun c u _ hu h9 => ?_, fun c w _ hw => ?_⟩⟩
  · show (if b = b then aEk (aChg (aChg (aDrop (aMv A b n) (b * 2)) (n * 2) (b * 2)) (n * 2 + 1) (b * 2 + 1)) n else _) = _
    rw [if_pos rfl, ek4]
  · show (if c = b then _ else aEk (aChg (aChg (aDrop (aMv A b n) (b * 2)) (n * 2) (b * 2)) (n * 2 + 1) (b * 2 + 1)) c) = _
    rw [if_neg hc', ek4]
  · rw [agJ u (by omega), if_neg (by omega)]
  · rw [agJ _ (by omega), if_pos rfl]
  · rw [agJ _ (by omega), if_neg (by omega)]
  · rw [hed s hs, g3, g1, ed2 s hs, Option.map_map]
    congr 1
    funext w
    show (if (if w = n * 2 then b * 2 else w) = n * 2 + 1 then b * 2 + 1 else (if w = n * 2 then b * 2 else w)) = if w / 2 = n then b * 2 + w % 2 else w
    by_cases h1 : w = n * 2
    · rw [if_pos h1, if_neg (by omega), if_pos (by omega)]
      omega
    · rw [if_neg h1]
      by_cases h2 : w = n * 2 + 1
      · rw [if_pos h2, if_pos (by omega)]
        omega
      · rw [if_neg h2, if_neg (by omega)]
  · rw [tg4]
    rcases show j = 0 ∨ j = 1 by omega with e | e
    · rw [if_neg (by omega), if_neg (by omega), if_pos (by omega), e]
      rfl
    · rw [if_pos (by omega), e]
  · rw [tg4, if_neg (by omega), if_neg (by omega), if_neg (by omega), if_neg (by omega)]
  · rw [tg4]
    rcases show w = n * 2 ∨ w = n * 2 + 1 by omega with e | e
    · rw [if_neg (by omega), if_neg (by omega), if_neg (by omega), if_pos e]
    · rw [if_neg (by omega), if_pos e]
  · by_cases hcn : c = n
    · rw [hcn] at hv
      have hv' : v ∈ (if n = n then [] else aLs (aChg (aChg (aDrop (aMv A b n) (b * 2)) (n * 2) (b * 2)) (n * 2 + 1) (b * 2 + 1)) n) := hv
      rw [if_pos rfl] at hv'
      cases hv'
    · rw [lsJ c hcn] at hv
      exact W1.1 c v hv
  · by_cases hcn : c = n
    · show (if c = n then [] else aEd (aChg (aChg (aDrop (aMv A b n) (b * 2)) (n * 2) (b * 2)) (n * 2 + 1) (b * 2 + 1)) c).Nodup
      rw [if_pos hcn]
      exact List.nodup_nil
    · rw [hed c hcn]
      exact W4.2.1 c trivial
  · by_cases hcn : c = n
    · rw [hcn] at hu
      have hu' : u ∈ (if n = n then [] else aLs (aChg (aChg (aDrop (aMv A b n) (b * 2)) (n * 2) (b * 2)) (n * 2 + 1) (b * 2 + 1)) n) := hu
      rw [if_pos rfl] at hu'
      cases hu'
    · rw [lsJ c hcn] at hu
      have hu140 := (W1.1 c u hu).2
      rw [hed c hcn, agJ u (by omega), if_neg (by omega), ← ag4 u]
      exact W4.2.2.1 c u trivial (by rw [ls4]; exact hu) (by rw [kd4]; rw [show aKd (aJoin A b n) u = aKd A u from kd4 u] at h9; exact h9)
  · by_cases hcn : c = n
    · rw [hcn] at hw
      have hw' : w ∈ (if n = n then [] else aEd (aChg (aChg (aDrop (aMv A b n) (b * 2)) (n * 2) (b * 2)) (n * 2 + 1) (b * 2 + 1)) n) := hw
      rw [if_pos rfl] at hw'
      cases hw'
    · rw [hed c hcn] at hw
      exact W4.2.2.2 c w trivial hw
end JOIN
