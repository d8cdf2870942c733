/-! THE PASS 1, in rows: a visit of a block -/
def LBat (A : AF) (c : Ob) (b u : Nat) (n : Int32) : Prop := (aKd A u = 9 → ∃ w x, (w, x) ∈ (aEd A b).zip (aAg A u) ∧ cal c w ∧ ((kA c x).1 = 2 ∨ kA c x = (1, n))) ∧ (rck A u → ∃ x y, aAg A u = [x, y] ∧ (kA c x).1 ≠ 0 ∧ (kA c y).1 ≠ 0 ∧ (rkK (aKd A u) (kA c x) (kA c y) = (2, 0) ∨ rkK (aKd A u) (kA c x) (kA c y) = (1, n)))
def alK (A : AF) (c : Ob) : Prop := ∀ w, cal c w → cco c (w / 2) ∧ (∃ t, aTg A w = some t ∧ cco c t) ∧ w % 2 < aEk A (w / 2) ∧ (aEk A (w / 2) = 2 → ∀ x, aAg A (140 + w / 2) = [x] → (kA c x).1 = 2 ∨ ((kA c x).1 = 1 ∧ w % 2 = wyN 2 (kA c x).2))
def cVal (c : Ob) : Prop := ∀ v, v < 140 → c.1 0 v = nI (kc c v) ∧ kc c v ≤ 2
def SI (A : AF) (c : Ob) : Prop := cVal c ∧ ((∀ v, v < 2 → kc c v = 2) ∧ ∀ v, 2 ≤ v → v < 6 → kc c v = 1 ∧ nc c v = 0) ∧ (∀ b u, u ∈ aLs A b → kc c u ≠ 0 → aKd A u ≠ 7 ∧ aKd A u ≠ 8) ∧ (∀ b u, u ∈ aLs A b → kc c u = 1 → LBat A c b u (nc c u)) ∧ alK A c ∧ cco c 0 ∧ ∀ b, cco c b → RW (aL A (cco c) (cal c)) none b
def VC (A : AF) (c : Ob) (b u : Nat) : Prop := (aKd A u = 6 → kc c u = 2) ∧ (rck A u → ∀ x y, aAg A u = [x, y] → (kA c x).1 ≠ 0 → (kA c y).1 ≠ 0 → leK (rkK (aKd A u) (kA c x) (kA c y)) (kc c u, nc c u)) ∧ (aKd A u = 9 → ∀ w x, (w, x) ∈ (aEd A b).zip (aAg A u) → cal c w → leK (kA c x) (kc c u, nc c u))
section LATV
variable {f : Ob} {nb nv T : Nat} {c c' : Ob}
theorem kA_le (h : cVal c) (x : Ag) : (kA c x).1 ≤ 2 := by
  cases x with
  | inr n => exact Nat.le_succ 1
  | inl v =>
    show kc c v ≤ 2
    by_cases hv : v < 140
    · exact (h v hv).2
    · unfold kc
      rw [if_neg hv]
      exact Nat.zero_le _
theorem kA_same (h : cSm c c') (x : Ag) : kc c' = kc c ∧ ((∀ v, x = .inl v → v < 140) → kA c' x = kA c x) := by
  have hk : kc c' = kc c := by
    funext v
    by_cases hv : v < 140
    · exact (h.1 v hv).1
    · unfold kc
      rw [if_neg hv, if_neg hv]
  refine ⟨hk, fun hx => ?_⟩
  cases x with
  | inr n => rfl
  | inl v =>
    have := h.1 v (hx v rfl)
    show (kc c' v, nc c' v) = (kc c v, nc c v)
    rw [this.1, this.2]
theorem LBat.mono {A : AF} (hA : ∀ u v, Sum.inl v ∈ aAg A u → v < 140) (hv : cVal c') (h : cMo c c') {b u : Nat} {n : Int32} (hl : LBat A c b u n) : LBat A c' b u n := by
  refine ⟨fun h9 => ?_, fun hr => ?_⟩
  · obtain ⟨w, x, q1, q2, q3⟩ := hl.1 h9
    refine ⟨w, x, q1, h.2.1 w q2, ?_⟩
    have hx : ∀ v, x = .inl v → v < 140 := fun v e => hA u v (by rw [← e]; exact (List.of_mem_zip q1).2)
    have hle := kA_le hv x
    rcases kA_mono h x hx with e | e
    · rw [e]; exact q3
    · left
      rcases q3 with q3 | q3
      · omega
      · rw [q3] at e
        have : 1 < (kA c' x).1 := e
        omega
  · obtain ⟨x, y, q1, q2, q3, q4⟩ := hl.2 hr
    have hx : ∀ v, x = .inl v → v < 140 := fun v e => hA u v (by rw [← e, q1]; simp)
    have hy : ∀ v, y = .inl v → v < 140 := fun v e => hA u v (by rw [← e, q1]; simp)
    have mx := kA_mono h x hx
    have my := kA_mono h y hy
    refine ⟨x, y, q1, ?_, ?_, ?_⟩
    · have := mx.le; omega
    · have := my.le; omega
    · rcases rkK_mono (k := aKd A u) mx my q2 q3 (kA_le hv x) (kA_le hv y) with e | e
      · rw [← e]; exact q4
      · exact Or.inl e
theorem alK.mono {A : AF} (hA : ∀ u v, Sum.inl v ∈ aAg A u → v < 140) (hv : cVal c') (h : cMo c c') (hcal : ∀ w, cal c' w → cal c w) (ha : alK A c) : alK A c' := by
  intro w hw
  obtain ⟨q1, ⟨t, q2, q3⟩, q4, q5⟩ := ha w (hcal w hw)
  refine ⟨h.2.2 _ q1, ⟨t, q2, h.2.2 t q3⟩, q4, fun e2 x hx => ?_⟩
  have hxl : ∀ v, x = .inl v → v < 140 := fun v e => hA (140 + w / 2) v (by rw [← e, hx]; simp)
  have hle := kA_le hv x
  rcases kA_mono h x hxl with e | e
  · rw [e]; exact q5 e2 x hx
  · left
    rcases q5 e2 x hx with q | q <;> omega
theorem si_rise {A : AF} (hA : ∀ u v, Sum.inl v ∈ aAg A u → v < 140) (hA2 : ∀ b u, u ∈ aLs A b → 6 ≤ u ∧ u < 140) (hA3 : ∀ b b' u, u ∈ aLs A b → u ∈ aLs A b' → b = b') (hS : SI A c) {b u to : Nat} {n : Int32} (hu : u ∈ aLs A b) (hk : aKd A u ≠ 7 ∧ aKd A u ≠ 8) (hto : to ≤ 2) (hLB : to = 1 → LBat A c b u n) : SI A (Constants_rise c (nI u) (nI to) n) ∧ cR c (Constants_rise c (nI u) (nI to) n) ∧ ((to ≤ kc c u ∧ Constants_rise c (nI u) (nI to) n = c) ∨ ¬ cSm c (Constants_rise c (nI u) (nI to) n)) := by
  obtain ⟨s1, ⟨s2, s3⟩, s4, s5, s6, s7, s8⟩ := id hS
  obtain ⟨hu6, hu140⟩ := hA2 b u hu
  obtain ⟨r1, r2, r3, r4⟩ := rise_spec (to := to) (n := n) s1 hu140 hto
  rcases r4 with ⟨r4, r5⟩ | ⟨r4, r5, r6⟩
  · rw [r5]
    exact ⟨hS, cR.rf c, Or.inl ⟨r4, rfl⟩⟩
  · refine ⟨?_, r1, Or.inr r5⟩
    generalize Constants_rise c (nI u) (nI to) n = g at r1 r2 r3 r6
    have hcal : cal g = cal c := by unfold cal; rw [r3]
    have hcco : cco g = cco c := by unfold cco; rw [r3]
    have hk1 : ∀ v, v < 140 → v ≠ u → kc g v = kc c v ∧ nc g v = nc c v := fun v hv hvu => by
      have := r6 v hv
      rw [if_neg hvu] at this
      exact ⟨(Prod.mk.inj this).1, (Prod.mk.inj this).2⟩
    have hku : kc g u = to ∧ nc g u = n := by
      have := r6 u hu140
      rw [if_pos rfl] at this
      exact ⟨(Prod.mk.inj this).1, (Prod.mk.inj this).2⟩
    refine ⟨r2, ⟨fun v hv => by rw [(hk1 v (by omega) (by omega)).1]; exact s2 v hv, fun v h1 h2 => by rw [(hk1 v (by omega) (by omega)).1, (hk1 v (by omega) (by omega)).2]; exact s3 v h1 h2⟩, fun b' v hv hne => ?_, fun b' v hv h1 => ?_, alK.mono hA r2 r1.1 (fun w hw => by rw [hcal] at hw; exact hw) s6, by rw [hcco]; exact s7, by rw [hcco, hcal]; exact s8⟩
    · by_cases z : v = u
      · rw [z]; exact hk
      · rw [(hk1 v (hA2 b' v hv).2 z).1] at hne
        exact s4 b' v hv hne
    · by_cases z : v = u
      · rw [z] at hv h1 ⊢
        rw [hku.1] at h1
        rw [hku.2, hA3 b' b u hv hu]
        exact LBat.mono hA r2 r1.1 (hLB h1)
      · rw [(hk1 v (hA2 b' v hv).2 z).1] at h1
        rw [(hk1 v (hA2 b' v hv).2 z).2]
        exact LBat.mono hA r2 r1.1 (s5 b' v hv h1)
theorem known_at (hv : cVal c) {i : Nat} (hi : i < 290) (he : f.1 5 i = -1 ∨ ∃ v, v < 140 ∧ f.1 5 i = nI v) : Constants_knownAt f c (nI i) = nI (kA c (ag1 f i)).1 ∧ Constants_numberAt f c (nI i) = (kA c (ag1 f i)).2 := by
  unfold Constants_knownAt Constants_numberAt
  rw [oat_rs hi (by decide), oat_rs hi (by decide)]
  unfold ag1
  rcases he with e | ⟨v, hv', e⟩
  · rw [e, if_pos rfl, if_pos rfl, if_pos rfl]
    exact ⟨rfl, rfl⟩
  · rw [e, if_neg (nI_m1 (by omega)), if_neg (nI_m1 (by omega)), if_neg (nI_m1 (by omega)), tn_nI (by omega), oat_rs hv' (by decide), oat_rs hv' (by decide)]
    exact ⟨(hv v hv').1, rfl⟩
/-- what a PHI meets -/
theorem meet_spec (h : CI f nb nv) (hv : cVal c) {b u : Nat} (hb : b < 10) (hu : u < 140) (hlen : (fag f u).length = (fed f b).length) : ∃ met n, met ≤ 2 ∧ Constants_meet f c (nI b) (nI u) = Constants_rise c (nI u) (nI met) n ∧ (∀ w x, (w, x) ∈ (fed f b).zip (fag f u) → cal c w → leK (kA c x) (met, n)) ∧ (met = 1 → ∃ w x, (w, x) ∈ (fed f b).zip (fag f u) ∧ cal c w ∧ kA c x = (1, n)) := by
  obtain ⟨cc, a, e1, e2, e3, e4, e5, e6⟩ := h.2.1.1 u (by omega)
  have hnv := h.1.2.2.2.2.2
  obtain ⟨e, he1, he, hlist⟩ := h.2.2.2.2.1 b hb
  have hcc : cc = e := by
    unfold fag fed at hlen
    rw [List.length_map, List.length_map, List.length_range, List.length_range, e1, he, tn_nI (by omega), tn_nI (by omega)] at hlen
    exact hlen
  subst hcc
  have item : ∀ k, k < cc → ∃ w, w < 20 ∧ f.1 10 (b * 20 + k) = nI w ∧ (w, ag1 f (a + k)) ∈ (fed f b).zip (fag f u) := fun k hk => by
    obtain ⟨w, hw, ew⟩ := hlist k hk
    exact ⟨w, hw, ew, idx_zip _ _ k _ _ (by rw [fed_get2 he he1, if_pos hk, ew, tn_nI (by omega)]) (by rw [fag_get e1 e2 e3 e4, if_pos hk])⟩
  have back : ∀ w x, (w, x) ∈ (fed f b).zip (fag f u) → ∃ k, k < cc ∧ f.1 10 (b * 20 + k) = nI w ∧ x = ag1 f (a + k) := fun w x hz => by
    obtain ⟨k, z1, z2⟩ := zip_idx _ _ _ _ hz
    rw [fed_get2 he he1] at z1
    rw [fag_get e1 e2 e3 e4] at z2
    by_cases hk : k < cc
    · rw [if_pos hk] at z1 z2
      obtain ⟨w', hw', ew⟩ := hlist k hk
      rw [ew, tn_nI (by omega)] at z1
      exact ⟨k, hk, by rw [ew, Option.some.inj z1], (Option.some.inj z2).symm⟩
    · rw [if_neg hk] at z1; cases z1
  have key : (fun g => ∃ met n, met ≤ 2 ∧ g = Constants_rise c (nI u) (nI met) n ∧ (∀ k w, k < cc → f.1 10 (b * 20 + k) = nI w → cal c w → leK (kA c (ag1 f (a + k))) (met, n)) ∧ (met = 1 → ∃ k w, k < cc ∧ f.1 10 (b * 20 + k) = nI w ∧ cal c w ∧ kA c (ag1 f (a + k)) = (1, n))) (Constants_meet f c (nI b) (nI u)) := by
    unfold Constants_meet Constants_meet_L9
    refine loop_cnt (B := fun q : Int32 × Int32 × Int32 => Constants_meet_L9b f c (nI b) (nI u) q.1 q.2.1 q.2.2) (mk := fun i (s : Nat × Int32) => (nI s.1, s.2, nI i)) (n := cc)
      (I := fun i s => s.1 ≤ 2 ∧ (∀ k w, k < i → f.1 10 (b * 20 + k) = nI w → cal c w → leK (kA c (ag1 f (a + k))) s) ∧ (s.1 = 1 → ∃ k w, k < i ∧ f.1 10 (b * 20 + k) = nI w ∧ cal c w ∧ kA c (ag1 f (a + k)) = (1, s.2)))
      (P := fun g => ∃ met n, met ≤ 2 ∧ g = Constants_rise c (nI u) (nI met) n ∧ (∀ k w, k < cc → f.1 10 (b * 20 + k) = nI w → cal c w → leK (kA c (ag1 f (a + k))) (met, n)) ∧ (met = 1 → ∃ k w, k < cc ∧ f.1 10 (b * 20 + k) = nI w ∧ cal c w ∧ kA c (ag1 f (a + k)) = (1, n))) (fun i s hi hI => ?_) (fun s hI => ?_) cc 0 (0, 0) (by omega) ⟨Nat.zero_le _, fun k w hk => by omega, (fun q => by cases q)⟩
    · obtain ⟨i1, i2, i3⟩ := hI
      obtain ⟨m, n⟩ := s
      dsimp only at i1 i3
      obtain ⟨w, hw, ew, hz⟩ := item i hi
      have h290 : a + i < 290 := by have := e5 (by omega); omega
      obtain ⟨k1, k2⟩ := known_at hv h290 ((e6 i hi).imp id fun ⟨v, q1, q2⟩ => ⟨v, by omega, q2⟩)
      have hle := kA_le hv (ag1 f (a + i))
      generalize hp : kA c (ag1 f (a + i)) = p at k1 k2 hle
      obtain ⟨p1, p2⟩ := p
      dsimp only at k1 k2 hle
      have hm0 : (nI m = 0) ↔ m = 0 := ⟨fun q => nI_inj (a := m) (b := 0) (by omega) (by omega) q, fun q => by rw [q]; rfl⟩
      have hm1 : (nI m = 1) ↔ m = 1 := ⟨fun q => nI_inj (a := m) (b := 1) (by omega) (by omega) q, fun q => by rw [q]; rfl⟩
      have hp1 : (nI p1 = 1) ↔ p1 = 1 := ⟨fun q => nI_inj (a := p1) (b := 1) (by omega) (by omega) q, fun q => by rw [q]; rfl⟩
      have hp2 : (nI p1 = 2) ↔ p1 = 2 := ⟨fun q => nI_inj (a := p1) (b := 2) (by omega) (by omega) q, fun q => by rw [q]; rfl⟩
      -- what the body does, by what is known of the argument
      have body : ∀ of : Nat, of ≤ 2 → Constants_meet_63 f c (nI b) (nI u) (nI m) n (nI i) (nI (a + i)) (nI of) = if of = 0 then .inl (nI m, n, nI (i + 1)) else if of = 2 then .inl (2, n, nI (i + 1)) else if m = 0 then .inl (1, p2, nI (i + 1)) else if m = 1 ∧ p2 ≠ n then .inl (2, n, nI (i + 1)) else .inl (nI m, n, nI (i + 1)) := by
        intro of hof
        have ho1 : (nI of = 1) ↔ of = 1 := ⟨fun q => nI_inj (a := of) (b := 1) (by omega) (by omega) q, fun q => by rw [q]; rfl⟩
        have ho2 : (nI of = 2) ↔ of = 2 := ⟨fun q => nI_inj (a := of) (b := 2) (by omega) (by omega) q, fun q => by rw [q]; rfl⟩
        unfold Constants_meet_63 Constants_meet_93 Constants_meet_94 Constants_meet_122 Constants_meet_133 Constants_meet_136
        rw [k2, nI_1]
        rcases show of = 0 ∨ of = 1 ∨ of = 2 by omega with z | z | z
        · have n1 : ¬ nI of = 1 := fun q => by have := ho1.mp q; omega
          have n2 : ¬ nI of = 2 := fun q => by have := ho2.mp q; omega
          rw [if_neg n1, if_neg n1, if_neg n2, if_pos rfl, if_pos z]
        · have n1 : nI of = 1 := ho1.mpr z
          have n2 : ¬ nI of = 2 := fun q => by have := ho2.mp q; omega
          rw [if_pos n1, if_neg (show ¬ of = 0 by omega), if_neg (show ¬ of = 2 by omega)]
          rcases show m = 0 ∨ m = 1 ∨ m = 2 by omega with y | y | y
          · rw [if_neg (fun q => by have := hm1.mp q; omega), if_pos n1, if_pos (hm0.mpr y), if_pos y]
          · rw [if_pos (hm1.mpr y), if_neg (show ¬ m = 0 by omega)]
            by_cases x : p2 = n
            · rw [if_pos x, if_pos n1, if_neg (fun q => by have := hm0.mp q; omega), if_neg n2, if_pos rfl, if_neg (fun q => q.2 x)]
            · rw [if_neg x, if_pos n1, if_neg (fun q => by have := hm0.mp q; omega), if_neg n2, if_neg (by decide), if_pos ⟨y, x⟩]
          · rw [if_neg (fun q => by have := hm1.mp q; omega), if_pos n1, if_neg (fun q => by have := hm0.mp q; omega), if_neg n2, if_pos rfl, if_neg (show ¬ m = 0 by omega), if_neg (fun q => by have := q.1; omega)]
        · have n1 : ¬ nI of = 1 := fun q => by have := ho1.mp q; omega
          have n2 : nI of = 2 := ho2.mpr z
          rw [if_neg n1, if_neg n1, if_pos n2, if_neg (show ¬ of = 0 by omega), if_pos z]
      have hB : Constants_meet_L9b f c (nI b) (nI u) (nI m) n (nI i) = if bt (c.2.1 1) w = true then Constants_meet_63 f c (nI b) (nI u) (nI m) n (nI i) (nI (a + i)) (nI p1) else Constants_meet_63 f c (nI b) (nI u) (nI m) n (nI i) (nI (a + i)) (nI 0) := by
        unfold Constants_meet_L9b
        rw [oat_rs hb (by decide), he, if_pos (show nI i < nI cc from nI_lt hi (by omega)), wayTo_eq (by omega), ew, has_nI hw, oat_rs (show u < 150 by omega) (by decide), e3, nI_add, k1]
        rfl
      dsimp only
      rw [hB]
      have old : ∀ s' : Nat × Int32, (∀ q, leK q (m, n) → leK q s') → (cal c w → leK (p1, p2) s') → ∀ k w', k < i + 1 → f.1 10 (b * 20 + k) = nI w' → cal c w' → leK (kA c (ag1 f (a + k))) s' := fun s' q1 q2 k w' hk ek hcal => by
        by_cases z : k = i
        · rw [z] at ek ⊢
          rw [ew] at ek
          have hw' := hcal.1
          have : w = w' := nI_inj (by omega) (by omega) ek
          rw [hp]
          exact q2 (by rw [this]; exact hcal)
        · exact q1 _ (i2 k w' (by omega) ek hcal)
      have keep : m = 1 → ∃ k w', k < i + 1 ∧ f.1 10 (b * 20 + k) = nI w' ∧ cal c w' ∧ kA c (ag1 f (a + k)) = (1, n) := fun q => by
        obtain ⟨k, w', a1, a2, a3, a4⟩ := i3 q
        exact ⟨k, w', by omega, a2, a3, a4⟩
      have to2 : ∀ q : Nat × Int32, leK q (m, n) → leK q (2, n) := fun q _ => Or.inr (Or.inl rfl)
      by_cases hal : bt (c.2.1 1) w = true
      · rw [if_pos hal, body p1 hle]
        by_cases z0 : p1 = 0
        · rw [if_pos z0]
          exact ⟨(m, n), rfl, i1, old (m, n) (fun _ q => q) fun _ => Or.inl z0, keep⟩
        · rw [if_neg z0]
          by_cases z2 : p1 = 2
          · rw [if_pos z2]
            exact ⟨(2, n), rfl, Nat.le_refl _, old (2, n) to2 fun _ => Or.inr (Or.inl rfl), (fun q => by cases q)⟩
          · rw [if_neg z2]
            have z1 : p1 = 1 := by omega
            by_cases y0 : m = 0
            · rw [if_pos y0]
              refine ⟨(1, p2), rfl, Nat.le_succ 1, old (1, p2) (fun q hq => ?_) fun _ => Or.inr (Or.inr (by rw [z1])), fun _ => ⟨i, w, by omega, ew, ⟨hw, hal⟩, by rw [hp, z1]⟩⟩
              rcases hq with hq | hq | hq
              · exact Or.inl hq
              · have : m = 2 := hq
                omega
              · exact Or.inl (by rw [hq]; exact y0)
            · rw [if_neg y0]
              by_cases y1 : m = 1 ∧ p2 ≠ n
              · rw [if_pos y1]
                exact ⟨(2, n), rfl, Nat.le_refl _, old (2, n) to2 fun _ => Or.inr (Or.inl rfl), (fun q => by cases q)⟩
              · rw [if_neg y1]
                refine ⟨(m, n), rfl, i1, old (m, n) (fun _ q => q) fun _ => ?_, keep⟩
                by_cases ym : m = 2
                · exact Or.inr (Or.inl ym)
                · have ym1 : m = 1 := by omega
                  have : p2 = n := Classical.byContradiction fun q => y1 ⟨ym1, q⟩
                  exact Or.inr (Or.inr (by rw [z1, this, ym1]))
      · rw [if_neg hal, body 0 (by decide), if_pos rfl]
        exact ⟨(m, n), rfl, i1, old (m, n) (fun _ q => q) fun q => absurd q.2 hal, keep⟩
    · obtain ⟨m, n⟩ := s
      refine ⟨Constants_rise c (nI u) (nI m) n, ?_, m, n, hI.1, rfl, hI.2.1, hI.2.2⟩
      show Constants_meet_L9b f c (nI b) (nI u) (nI m) n (nI cc) = _
      unfold Constants_meet_L9b
      rw [oat_rs hb (by decide), he, if_neg (show ¬ nI cc < nI cc from nI_nlt (Nat.le_refl _) (by omega))]
  obtain ⟨met, n, m1, m2, m3, m4⟩ := key
  refine ⟨met, n, m1, m2, fun w x hz hcal => ?_, fun q => ?_⟩
  · obtain ⟨k, hk, ek, ex⟩ := back w x hz
    rw [ex]
    exact m3 k w hk ek hcal
  · obtain ⟨k, w, hk, ek, hcal, ex⟩ := m4 q
    obtain ⟨w', hw', ew', hz⟩ := item k hk
    have hwl := hcal.1
    have : w' = w := nI_inj (by omega) (by omega) (ew'.symm.trans ek)
    exact ⟨w, _, by rw [← this]; exact hz, hcal, ex⟩
end LATV
