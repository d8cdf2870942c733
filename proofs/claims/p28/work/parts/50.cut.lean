/-! A WAY THAT IS NEVER TAKEN is cut; a block that is never reached is lost; a number that is known is put in -/
section CUT
variable {A B : AF} {pl : Pl} {C : Nat → Prop} {kn : Nat → Nat} {nu : Nat → Int32} {al : Nat → Prop}
theorem way_sim {P : Nat → List Nat → Hd → Prop} (hP : PInv A P) (hPC : ∀ b l H, P b l H → C b) (hkd : ∀ v, aKd B v = aKd A v) (hls : ∀ b, C b → aLs B b = aLs A b) (hag : ∀ b u, C b → u ∈ aLs A b → aKd A u ≠ 9 → aAg B u = aAg A u)
    (hret : ∀ b, C b → aEk A b = 0 → aEk B b = 0 ∧ aAg B (140 + b) = aAg A (140 + b))
    (hgo : ∀ b H t, P b (aLs A b) H → aEk A b ≠ 0 → aTg A (wyA A b H) = some t → aEk B b ≠ 0 ∧ (aEk B b = 2 → aEk A b = 2) ∧ aTg B (wyA B b H) = some t ∧ ∀ u, u ∈ aLs A t → aKd A u = 9 → evE B H u (edI B t (wyA B b H)) = evE A H u (edI A t (wyA A b H)))
    (x y : Int32) : noWorse (runA A x y) (runA B x y) := by
  refine msim (T := fun b l H H' => P b l H ∧ H' = H) (lost := fun _ => false) hkd (fun b H H' hT => ?_) (fun b l1 u l2 H H' m hl hT h9 _ => ?_) (fun b l1 u l2 H H' m hl hT h9 hlo => by cases hlo) (fun b l1 u l2 H H' hl hT h9 => ⟨hP.2.2.1 b l1 u l2 H hl hT.1 h9, hT.2⟩) (fun b H H' hT h0 => ?_) (fun b H H' t hT h0 ht => ?_) x y ⟨hP.1 x y, ?_⟩
  · rw [hls b (hPC _ _ _ hT.1)]
    exact (List.filter_eq_self.mpr fun _ _ => rfl).symm
  · obtain ⟨hp, e⟩ := hT
    subst e
    have ha := hag b u (hPC _ _ _ hp) (by rw [hl]; exact List.mem_append_right _ List.mem_cons_self) h9
    have hk : ∀ k, evK B H' u k = evK A H' u k := fun k => by unfold evK; rw [ha]
    exact ⟨hk 0, hk 1, fun hf => ⟨hP.2.1 b l1 u l2 H' m hl hp h9 hf, rfl⟩⟩
  · obtain ⟨hp, e⟩ := hT
    subst e
    obtain ⟨g1, g2⟩ := hret b (hPC _ _ _ hp) h0
    exact ⟨g1, by unfold evK; rw [g2]⟩
  · obtain ⟨hp, e⟩ := hT
    subst e
    obtain ⟨g1, g2, g3, g4⟩ := hgo b H' t hp h0 ht
    have hp2 := hP.2.2.2 b H' t hp h0 ht
    refine ⟨g1, g2, g3, hp2, ?_⟩
    funext z
    unfold phA
    rw [hls t (hPC _ _ _ hp2), hkd]
    by_cases hq : z ∈ aLs A t ∧ aKd A z = 9
    · rw [if_pos hq, if_pos hq]
      exact g4 z hq.1 hq.2
    · rw [if_neg hq, if_neg hq]
  · funext z
    unfold phA
    rw [hls 0 (hPC _ _ _ (hP.1 x y)), hkd]
    rfl
/-- what is there, is there too where less leads on -/
theorem avl_anti {pl' : Pl} (hk : ∀ v, aKd B v = aKd A v) (hE : ∀ a c, aE B C a c → aE A C a c) {b v : Nat} {l : List Nat} (hp : ∀ p, pl v = some p → (p = b ∨ ¬ RW (aE A C) (some p) b) → pl' v = some p) (h : avl A pl C b l v) : avl B pl' C b l v := by
  rcases h with h | ⟨h1, h2⟩ | ⟨p, h1, h2, h3⟩
  · exact Or.inl h
  · exact Or.inr (Or.inl ⟨hp b h1 (Or.inl rfl), by rw [hk]; exact h2⟩)
  · exact Or.inr (Or.inr ⟨p, hp p h1 (Or.inr h3), h2, fun q => h3 (RW_mono hE q)⟩)
/-- the end of a block becomes a JUMP -/
def aJmp (A : AF) (b : Nat) : AF := (aKd A, fun u => if u = 140 + b then [] else aAg A u, aLs A, aEd A, fun c => if c = b then 1 else aEk A c, aTg A)
def aCut (A : AF) (b j : Nat) : AF := aJmp (aChg (aDrop A (b * 2 + (1 - j))) (b * 2 + j) (b * 2)) b
def allC : Nat → Prop := fun _ => True
def eT (A : AF) (C : Nat → Prop) : Prop := ∀ w t, C (w / 2) → aTg A w = some t → w ∈ aEd A t
def cutG (A : AF) (pl : Pl) (C : Nat → Prop) (kn : Nat → Nat) (nu : Nat → Int32) (al : Nat → Prop) : Prop := gd A pl C ∧ gW A pl allC ∧ VS A C kn nu al ∧ eT A C
theorem drop_none (hT : eT A C) {w : Nat} (hw : C (w / 2)) : aTg (aDrop A w) w = none := by
  unfold aDrop
  cases h : aTg A w with
  | none => exact h
  | some t =>
    obtain ⟨k, hk⟩ := edI_mem (hT w t hw h)
    dsimp only
    rw [hk]
    exact if_pos rfl
theorem drop_eT (hW : gW A pl allC) (hT : eT A C) (w : Nat) : eT (aDrop A w) C := by
  intro x t hxC hx
  by_cases hxw : x = w
  · rw [hxw] at hx hxC
    rw [drop_none hT hxC] at hx
    cases hx
  · rw [drop_tg A w x hxw] at hx
    exact (drop_ed hW w trivial x).mpr ⟨hT x t hxC hx, hxw⟩
theorem chg_eT {w w' t : Nat} (hW : gW A pl allC) (hT : eT A C) (hwC : C (w / 2)) (h : aTg A w = some t) (hw' : w ≠ w' → aTg A w' = none) : eT (aChg A w w') C := by
  have hI := hT w t hwC h
  have hno : w ≠ w' → w' ∉ aEd A t := fun q m => by
    have := hW.2.2.2 t w' trivial m
    rw [hw' q] at this
    cases this
  intro x s hxC hx
  rw [chg_tg h hI] at hx
  rw [chg_ed hW h hI trivial hno]
  by_cases hxw' : x = w'
  · rw [if_pos hxw'] at hx
    cases hx
    exact ⟨w, hI, by unfold chN; rw [if_pos rfl, hxw']⟩
  · rw [if_neg hxw'] at hx
    by_cases hxw : x = w
    · rw [if_pos hxw] at hx
      cases hx
    · rw [if_neg hxw] at hx
      exact ⟨x, hT x s hxC hx, by unfold chN; rw [if_neg hxw]⟩
/-- what is left of the ways -/
theorem cut_facts (hG : cutG A pl C kn nu al) {b j : Nat} {x : Ag} (hb : C b) (h2 : aEk A b = 2) (hx : aAg A (140 + b) = [x]) (hk : (knA kn nu x).1 = 1) (hj : j = wyN 2 (knA kn nu x).2) :
    (∀ v, aKd (aCut A b j) v = aKd A v) ∧ (∀ c, aLs (aCut A b j) c = aLs A c) ∧ (∀ c, aEk (aCut A b j) c = if c = b then 1 else aEk A c) ∧ (∀ u, u ≠ 140 + b → (∀ t, u ∈ aLs A t → aKd A u ≠ 9) → aAg (aCut A b j) u = aAg A u) ∧ aAg (aCut A b j) (140 + b) = [] ∧
    (∃ t, C t ∧ aTg A (b * 2 + j) = some t ∧ aTg (aCut A b j) (b * 2) = some t) ∧ (∀ w, w / 2 ≠ b → aTg (aCut A b j) w = aTg A w) ∧
    (∀ t w, w ∈ aEd (aCut A b j) t ↔ ∃ y, y ∈ aEd A t ∧ y ≠ b * 2 + (1 - j) ∧ w = chN (b * 2 + j) (b * 2) y) ∧
    (∀ t u, u ∈ aLs A t → aKd A u = 9 → ∀ w a, (w, a) ∈ (aEd (aCut A b j) t).zip (aAg (aCut A b j) u) ↔ ∃ y, (y, a) ∈ (aEd A t).zip (aAg A u) ∧ y ≠ b * 2 + (1 - j) ∧ w = chN (b * 2 + j) (b * 2) y) ∧
    gW (aCut A b j) pl allC ∧ eT (aCut A b j) C := by
  obtain ⟨hg, hW, hv, hT⟩ := hG
  have hj2 : j < 2 := by rw [hj]; exact wyN_lt _
  obtain ⟨⟨hal, t, ht, htC⟩, -⟩ := ((hv.2.2.2.1 b hb).2 h2 x hx).2 hk
  rw [← hj] at ht
  have W1 := drop_W hW (b * 2 + (1 - j))
  have T1 := drop_eT hW hT (b * 2 + (1 - j))
  have hlC : C ((b * 2 + (1 - j)) / 2) := by rw [show (b * 2 + (1 - j)) / 2 = b by omega]; exact hb
  have htC' : C ((b * 2 + j) / 2) := by rw [show (b * 2 + j) / 2 = b by omega]; exact hb
  have n1 := drop_none hT hlC
  obtain ⟨d1, d2, d3⟩ := drop_same A (b * 2 + (1 - j))
  have ht1 : aTg (aDrop A (b * 2 + (1 - j))) (b * 2 + j) = some t := by rw [drop_tg _ _ _ (by omega)]; exact ht
  have hI1 := T1 _ _ htC' ht1
  have hw' : b * 2 + j ≠ b * 2 → aTg (aDrop A (b * 2 + (1 - j))) (b * 2) = none := fun q => by
    rw [show b * 2 + (1 - j) = b * 2 by omega] at n1 ⊢
    exact n1
  have hno : b * 2 + j ≠ b * 2 → b * 2 ∉ aEd (aDrop A (b * 2 + (1 - j))) t := fun q m => by
    have := W1.2.2.2 t _ trivial m
    rw [hw' q] at this
    cases this
  have W2 := chg_W W1 ht1 hI1 hw'
  have T2 := chg_eT W1 T1 htC' ht1 hw'
  obtain ⟨c1, c2, c3, c4⟩ := chg_same (aDrop A (b * 2 + (1 - j))) (b * 2 + j) (b * 2)
  have u140 : ∀ t u, u ∈ aLs A t → u ≠ 140 + b := fun t u hu => by have := (hW.1 t u hu).2; omega
  have hag : ∀ u, u ≠ 140 + b → aAg (aCut A b j) u = aAg (aDrop A (b * 2 + (1 - j))) u := fun u hu => by
    show (if u = 140 + b then [] else aAg (aChg (aDrop A (b * 2 + (1 - j))) (b * 2 + j) (b * 2)) u) = _
    rw [if_neg hu, c4]
  have hls : ∀ c, aLs (aCut A b j) c = aLs A c := fun c => by
    show aLs (aChg (aDrop A (b * 2 + (1 - j))) (b * 2 + j) (b * 2)) c = _
    rw [c2, d2]
  have hkd : ∀ v, aKd (aCut A b j) v = aKd A v := fun v => by
    show aKd (aChg (aDrop A (b * 2 + (1 - j))) (b * 2 + j) (b * 2)) v = _
    rw [c1, d1]
  have hed : ∀ s w, w ∈ aEd (aCut A b j) s ↔ ∃ y, y ∈ aEd A s ∧ y ≠ b * 2 + (1 - j) ∧ w = chN (b * 2 + j) (b * 2) y := fun s w => by
    show w ∈ aEd (aChg (aDrop A (b * 2 + (1 - j))) (b * 2 + j) (b * 2)) s ↔ _
    rw [chg_ed W1 ht1 hI1 trivial hno]
    constructor
    · rintro ⟨y, hy, e⟩
      obtain ⟨q1, q2⟩ := (drop_ed hW _ trivial y).mp hy
      exact ⟨y, q1, q2, e⟩
    · rintro ⟨y, q1, q2, e⟩
      exact ⟨y, (drop_ed hW _ trivial y).mpr ⟨q1, q2⟩, e⟩
  refine ⟨hkd, hls, fun c => ?_, fun u hu h9 => ?_, if_pos rfl, ⟨t, htC, ht, ?_⟩, fun w hw => ?_, hed, fun s u hu h9 w a => ?_, ⟨fun c v => by rw [hls c]; exact hW.1 c v, W2.2.1, fun s u hs hu h9 => ?_, W2.2.2.2⟩, T2⟩
  · show (if c = b then 1 else aEk (aChg (aDrop A (b * 2 + (1 - j))) (b * 2 + j) (b * 2)) c) = _
    rw [c3, d3]
  · rw [hag u hu]
    exact drop_ag A _ u h9
  · show aTg (aChg (aDrop A (b * 2 + (1 - j))) (b * 2 + j) (b * 2)) (b * 2) = some t
    rw [chg_tg ht1 hI1, if_pos rfl]
  · show aTg (aChg (aDrop A (b * 2 + (1 - j))) (b * 2 + j) (b * 2)) w = aTg A w
    rw [chg_tg ht1 hI1, if_neg (by omega), if_neg (by omega), drop_tg _ _ _ (by omega)]
  · show (w, a) ∈ (aEd (aChg (aDrop A (b * 2 + (1 - j))) (b * 2 + j) (b * 2)) s).zip (aAg (aCut A b j) u) ↔ _
    rw [hag u (u140 s u hu), ← c4, chg_zip W1 ht1 hI1 trivial hno]
    constructor
    · rintro ⟨y, hy, e⟩
      obtain ⟨q1, q2⟩ := (drop_zip hW _ trivial hu h9 y a).mp hy
      exact ⟨y, q1, q2, e⟩
    · rintro ⟨y, q1, q2, e⟩
      exact ⟨y, (drop_zip hW _ trivial hu h9 y a).mpr ⟨q1, q2⟩, e⟩
  · rw [hls] at hu
    rw [hkd] at h9
    rw [hag u (u140 s u hu), ← c4]
    exact W2.2.2.1 s u trivial (by rw [c2, d2]; exact hu) (by rw [c1, d1]; exact h9)
theorem cut_ok (hG : cutG A pl C kn nu al) {b j : Nat} {x : Ag} (hb : C b) (h2 : aEk A b = 2) (hx : aAg A (140 + b) = [x]) (hk : (knA kn nu x).1 = 1) (hj : j = wyN 2 (knA kn nu x).2) : cutG (aCut A b j) pl C kn nu (fun w => al w ∨ w = b * 2) ∧ ∀ a y, noWorse (runA A a y) (runA (aCut A b j) a y) := by
  obtain ⟨f1, f2, f3, f4, f5, ⟨t, htC, ht, ht'⟩, f7, f8, f9, fW, fT⟩ := cut_facts hG hb h2 hx hk hj
  obtain ⟨hg, hW, hv, hT⟩ := hG
  have hj2 : j < 2 := by rw [hj]; exact wyN_lt _
  obtain ⟨⟨hal, t', ht2, -⟩, hnal⟩ := ((hv.2.2.2.1 b hb).2 h2 x hx).2 hk
  rw [← hj] at hal ht2 hnal
  have hgL := hg.1
  obtain ⟨e1, e2, e3, e4, e5, e6, e7⟩ := hg.2.1
  -- names of ways
  have nm : ∀ y, y ≠ b * 2 + (1 - j) → chN (b * 2 + j) (b * 2) y / 2 = y / 2 ∧ (y / 2 = b → y = b * 2 + j ∧ chN (b * 2 + j) (b * 2) y = b * 2) ∧ (y / 2 ≠ b → chN (b * 2 + j) (b * 2) y = y) := fun y hy => by
    unfold chN
    by_cases h : y = b * 2 + j
    · rw [if_pos h]
      exact ⟨by omega, fun _ => ⟨h, rfl⟩, fun q => absurd (show y / 2 = b by omega) q⟩
    · rw [if_neg h]
      exact ⟨rfl, fun q => by omega, fun _ => rfl⟩
  have hagC : ∀ c u, u ∈ aLs A c → aKd A u ≠ 9 → aAg (aCut A b j) u = aAg A u := fun c u hu h9 => f4 u (by have := (hW.1 c u hu).2; omega) fun _ _ => h9
  have hagE : ∀ c, c ≠ b → aAg (aCut A b j) (140 + c) = aAg A (140 + c) := fun c hc => f4 _ (by omega) fun s hs => by have := (hW.1 s _ hs).2; omega
  have hE : ∀ a c, aE (aCut A b j) C a c → aE A C a c := fun a c ⟨q1, i, q2, q3⟩ => by
    by_cases hab : a = b
    · subst hab
      rw [f3, if_pos rfl] at q2
      rw [show i = 0 by omega, show a * 2 + 0 = a * 2 by omega, ht'] at q3
      exact ⟨q1, j, by omega, by rw [ht]; exact q3⟩
    · rw [f3, if_neg hab] at q2
      have := e7 a q1
      rw [f7 _ (by omega)] at q3
      exact ⟨q1, i, q2, q3⟩
  have hA : ∀ {c v : Nat} {l : List Nat}, avl A pl C c l v → avl (aCut A b j) pl C c l v := fun h => avl_anti f1 hE (fun p hp _ => hp) h
  have hU : ∀ {v : Nat}, usb A v → usb (aCut A b j) v := fun h => by unfold usb; rw [f1]; exact h
  have hV3 : VS3 (aCut A b j) C kn nu (fun w => al w ∨ w = b * 2) := fun c u w a hc hu h9 hz hwC hal' => by
    rw [f2] at hu
    rw [f1] at h9
    obtain ⟨y, hy, hne, e⟩ := (f9 c u hu h9 w a).mp hz
    obtain ⟨m1, m2, m3⟩ := nm y hne
    rw [← e] at m1
    refine hv.2.2.1 c u y a hc hu h9 hy (by rw [← m1]; exact hwC) ?_
    by_cases hyb : y / 2 = b
    · rw [(m2 hyb).1]; exact hal
    · rw [← m3 hyb, ← e]
      rcases hal' with q | q
      · exact q
      · omega
  have hV4 : VS4 (aCut A b j) C kn nu (fun w => al w ∨ w = b * 2) := fun c hc => by
    by_cases hcb : c = b
    · subst hcb
      refine ⟨fun _ => ⟨Or.inr rfl, t, ht', htC⟩, fun q => ?_⟩
      rw [f3, if_pos rfl] at q
      cases q
    · have wk : ∀ i, i < 2 → wayK A C al (c * 2 + i) → wayK (aCut A b j) C (fun w => al w ∨ w = b * 2) (c * 2 + i) := fun i hi q => ⟨Or.inl q.1, by rw [f7 _ (by omega)]; exact q.2⟩
      rw [f3, if_neg hcb, hagE c hcb]
      obtain ⟨g1, g2⟩ := hv.2.2.2.1 c hc
      refine ⟨fun q => wk 0 (by decide) (g1 q), fun q a ha => ?_⟩
      obtain ⟨g3, g4⟩ := g2 q a ha
      refine ⟨fun k => ⟨wk 0 (by decide) (g3 k).1, wk 1 (by decide) (g3 k).2⟩, fun k => ⟨wk _ (wyN_lt _) (g4 k).1, fun z => ?_⟩⟩
      rcases z with z | z
      · exact (g4 k).2 z
      · omega
  have hV5 : ∀ c, C c → RW (aL (aCut A b j) C (fun w => al w ∨ w = b * 2)) none c := fun c hc => by
    refine RW_mono (fun a d q => ?_) (hv.2.2.2.2 c hc)
    obtain ⟨qa, qd, i, q1, q2, q3⟩ := q
    have := e7 a qa
    by_cases hab : a = b
    · subst hab
      have hij : i = j := by
        refine Classical.byContradiction fun hne => hnal ?_
        rw [show 1 - j = i by omega]
        exact q2
      subst hij
      refine ⟨qa, qd, 0, by rw [f3, if_pos rfl]; decide, Or.inr rfl, ?_⟩
      show aTg (aCut A a i) (a * 2) = _
      rw [ht', ← ht, q3]
    · exact ⟨qa, qd, i, by rw [f3, if_neg hab]; exact q1, Or.inl q2, by rw [f7 _ (by omega)]; exact q3⟩
  have hgd : gd (aCut A b j) pl C := by
    refine ⟨⟨fun c hc v => by rw [f2]; exact hgL.1 c hc v, fun c hc => by rw [f2]; exact hgL.2.1 c hc, fun v p hp => by rw [f1]; exact hgL.2.2.1 v p hp, fun v => by rw [f2, f1]; exact hgL.2.2.2.1 v, fun c l1 u l2 hc => by rw [f2, f1]; intro q1 q2 z hz; rw [f1]; exact hgL.2.2.2.2 c l1 u l2 hc q1 q2 z hz⟩, ⟨e1, fun c hc => ?_, fun c hc => fW.2.1 c trivial, fun c s i hc hs hi q => fT _ _ (by
      have h7 := e7 s hs
      have hi2 : i < 2 := by
        rw [f3] at hi
        split at hi <;> omega
      rw [show (s * 2 + i) / 2 = s by omega]
      exact hs) q, fun c w hc hw hwC => ⟨?_, fW.2.2.2 c w trivial hw⟩, ?_, fun c hc => ?_⟩, ⟨fun c u hc hu => ?_, fun c hc => ?_⟩, ⟨fun c l1 u l2 hc hl h9 v hv' => ?_, fun c v hc hv' => ?_, fun c u w v hc hu h9 hz hwC => ?_⟩⟩
    · refine RW_mono (fun a d q => ?_) (hV5 c hc)
      obtain ⟨qa, qd, i, q1, q2, q3⟩ := q
      exact ⟨⟨qa, i, q1, q3⟩, qd⟩
    · obtain ⟨y, hy, hne, e⟩ := (f8 c w).mp hw
      obtain ⟨m1, m2, m3⟩ := nm y hne
      rw [← e] at m1
      by_cases hyb : y / 2 = b
      · rw [m1, hyb, f3, if_pos rfl, e, (m2 hyb).2]
        omega
      · rw [m1, f3, if_neg hyb, e, m3 hyb]
        exact (e5 c y hc hy (by rw [← m1]; exact hwC)).1
    · refine List.eq_nil_iff_forall_not_mem.mpr fun w hw => ?_
      obtain ⟨y, hy, -⟩ := (f8 0 w).mp hw
      rw [e6] at hy
      cases hy
    · rw [f3]
      split
      · decide
      · exact e7 c hc
    · rw [f2] at hu
      rw [f1]
      have hn := hg.2.2.1.1 c u hc hu
      refine ⟨fun h9 => fW.2.2.1 c u trivial (by rw [f2]; exact hu) (by rw [f1]; exact h9), fun q => ?_, fun q => ?_⟩
      · rw [hagC c u hu (by omega)]; exact hn.2.1 q
      · rw [hagC c u hu (by omega)]; exact hn.2.2 q
    · by_cases hcb : c = b
      · subst hcb
        exact ⟨fun _ => f5, fun q => absurd (by rw [f3, if_pos rfl]) q⟩
      · rw [f3, if_neg hcb, hagE c hcb]
        exact hg.2.2.1.2 c hc
    · rw [f2] at hl
      rw [f1] at h9
      rw [hagC c u (by rw [hl]; exact List.mem_append_right _ List.mem_cons_self) h9] at hv'
      obtain ⟨q1, q2⟩ := hg.2.2.2.1 c l1 u l2 hc hl h9 v hv'
      exact ⟨hU q1, hA q2⟩
    · by_cases hcb : c = b
      · subst hcb
        rw [f5] at hv'
        cases hv'
      · rw [hagE c hcb] at hv'
        obtain ⟨q1, q2⟩ := hg.2.2.2.2.1 c v hc hv'
        rw [f2]
        exact ⟨hU q1, hA q2⟩
    · rw [f2] at hu
      rw [f1] at h9
      obtain ⟨y, hy, hne, e⟩ := (f9 c u hu h9 w _).mp hz
      obtain ⟨m1, -, -⟩ := nm y hne
      rw [← e] at m1
      obtain ⟨q1, q2⟩ := hg.2.2.2.2.2 c u y v hc hu h9 hy (by rw [← m1]; exact hwC)
      rw [m1, f2]
      exact ⟨hU q1, hA q2⟩
  refine ⟨⟨hgd, fW, ⟨hv.1, fun c u hc hu => ?_, hV3, hV4, hV5⟩, fT⟩, fun a y => ?_⟩
  · rw [f2] at hu
    rw [f1]
    obtain ⟨q1, q2, q3⟩ := hv.2.1 c u hc hu
    refine ⟨q1, q2, fun hr => ?_⟩
    have hr' : rck A u := by unfold rck at hr ⊢; rw [f1] at hr; exact hr
    rw [hagC c u hu (by have := hr'.2; omega)]
    exact q3 hr'
  · refine way_sim (B := aCut A b j) (C := C) (VS_inv hg hv) (fun c l H h => h.1) f1 (fun c _ => f2 c) (fun c u _ hu h9 => hagC c u hu h9) (fun c hc h0 => ?_) (fun c H s hp h0 hs => ?_) a y
    · have hcb : c ≠ b := fun e => by rw [e, h2] at h0; cases h0
      exact ⟨by rw [f3, if_neg hcb]; exact h0, hagE c hcb⟩
    · have hc := hp.1
      obtain ⟨i, hi, ew⟩ := wyA_lt (H := H) (e7 c hc) h0
      have hi2 : i < 2 := by have := e7 c hc; omega
      have hsC : C s := by
        obtain ⟨-, s', q1, q2⟩ := VSP_way hg hv hp h0
        rw [q1] at hs
        cases hs
        exact q2
      have hmem : wyA A c H ∈ aEd A s := by rw [ew]; exact e4 s c i hsC hc hi (by rw [← ew]; exact hs)
      have phi : ∀ w', wyA A c H ≠ b * 2 + (1 - j) → w' = chN (b * 2 + j) (b * 2) (wyA A c H) → ∀ u, u ∈ aLs A s → aKd A u = 9 → evE (aCut A b j) H u (edI (aCut A b j) s w') = evE A H u (edI A s (wyA A c H)) := fun w' hne e u hu h9 => by
        obtain ⟨z, hz⟩ := way_zip hg hsC hu h9 hmem
        rw [evE_zip (e3 s hsC) hz, evE_zip (fW.2.1 s trivial) ((f9 s u hu h9 w' z).mpr ⟨_, hz, hne, e⟩)]
      by_cases hcb : c = b
      · subst hcb
        have hev : evK A H (140 + c) 0 = (knA kn nu x).2 := by
          rw [← VSP_ag hp (fun w hw => (hg.2.2.2.2.1 c w hc (by rw [hx, hw]; exact List.mem_cons_self)).2) hk]
          unfold evK
          rw [hx]
          rfl
        have hwy : wyA A c H = c * 2 + j := by unfold wyA; rw [h2, hev, ← hj]
        have hwB : wyA (aCut A c j) c H = c * 2 := by unfold wyA; rw [f3, if_pos rfl, wyN_1]; rfl
        rw [hwy] at hs
        rw [f3, if_pos rfl, hwB]
        refine ⟨by decide, (fun q => by cases q), by rw [ht', ← ht, hs], phi _ (by rw [hwy]; omega) ?_⟩
        unfold chN
        rw [hwy, if_pos rfl]
      · have hwB : wyA (aCut A b j) c H = wyA A c H := by
          unfold wyA evK
          rw [f3, if_neg hcb, hagE c hcb]
        rw [f3, if_neg hcb, hwB]
        refine ⟨h0, id, by rw [f7 _ (by omega)]; exact hs, phi _ (by omega) ?_⟩
        unfold chN
        rw [if_neg (by omega)]
end CUT
