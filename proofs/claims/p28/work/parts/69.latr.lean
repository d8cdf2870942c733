/-! THE PASS 1, in rows: the rounds -/
def EC (A : AF) (c : Ob) (b : Nat) : Prop := (aEk A b = 1 → ∀ t, aTg A (b * 2) = some t → cal c (b * 2)) ∧ (aEk A b = 2 → ∀ x, aAg A (140 + b) = [x] → ((kA c x).1 = 2 → ∀ j, j < 2 → ∀ t, aTg A (b * 2 + j) = some t → cal c (b * 2 + j)) ∧ ((kA c x).1 = 1 → ∀ t, aTg A (b * 2 + wyN 2 (kA c x).2) = some t → cal c (b * 2 + wyN 2 (kA c x).2)))
section LATR
variable {f : Ob} {nb nv T : Nat} {c c' : Ob}
theorem ag_140 (h : CI f nb nv) : ∀ u v, Sum.inl v ∈ aAg (fS f) u → v < 140 := fun _ _ hv => by
  have := ag_lt h hv
  have := h.1.2.2.2.2.2
  omega
theorem VC.congr (h : CI f nb nv) (hs : cSm c c') {b u : Nat} (hu : u < 140) (hv : VC (fS f) c' b u) : VC (fS f) c b u := by
  obtain ⟨v1, v2, v3⟩ := hv
  have eu := hs.1 u hu
  have ek : ∀ x, x ∈ aAg (fS f) u → kA c' x = kA c x := fun x hx => (kA_same hs x).2 fun v e => ag_140 h u v (by rw [← e]; exact hx)
  rw [eu.1, eu.2] at v2 v3
  rw [eu.1] at v1
  refine ⟨v1, fun hr x y hxy n1 n2 => ?_, fun h9 w x hz hc => ?_⟩
  · have := v2 hr x y hxy
    rw [ek x (by rw [hxy]; simp), ek y (by rw [hxy]; simp)] at this
    exact this n1 n2
  · have := v3 h9 w x hz ((hs.2.1 w).mpr hc)
    rw [ek x (List.of_mem_zip hz).2] at this
    exact this
theorem EC.congr (h : CI f nb nv) (hs : cSm c c') {b : Nat} (hv : EC (fS f) c' b) : EC (fS f) c b := by
  obtain ⟨v1, v2⟩ := hv
  refine ⟨fun e t ht => (hs.2.1 _).mp (v1 e t ht), fun e x hx => ?_⟩
  have ek : kA c' x = kA c x := (kA_same hs x).2 fun v e' => ag_140 h (140 + b) v (by rw [← e', hx]; simp)
  have := v2 e x hx
  rw [ek] at this
  exact ⟨fun q j hj t ht => (hs.2.1 _).mp (this.1 q j hj t ht), fun q t ht => (hs.2.1 _).mp (this.2 q t ht)⟩
theorem reckon_spec (h : CI f nb nv) (hv : cVal c) {u kk : Nat} {x y : Ag} (hu : u < 140) (hkk : kk ≤ 10) (hag : fag f u = [x, y]) : Constants_reckon f c (nI u) (nI kk) = if (kA c x).1 = 0 ∨ (kA c y).1 = 0 then c else Constants_rise c (nI u) (nI (rkK kk (kA c x) (kA c y)).1) (rkK kk (kA c x) (kA c y)).2 := by
  obtain ⟨cc, a, e1, e2, e3, e4, e5, e6⟩ := h.2.1.1 u (by omega)
  have hnv := h.1.2.2.2.2.2
  have hcc : cc = 2 := by
    have hl : (fag f u).length = 2 := by rw [hag]; rfl
    unfold fag at hl
    rw [List.length_map, List.length_range, e1, tn_nI (by omega)] at hl
    exact hl
  subst hcc
  have hb := e5 (by decide)
  have hx : x = ag1 f a := by
    have : (fag f u)[0]? = some x := by rw [hag]; rfl
    rw [fag_get e1 e2 e3 e4, if_pos (by decide)] at this
    exact (Option.some.inj this).symm
  have hy : y = ag1 f (a + 1) := by
    have : (fag f u)[1]? = some y := by rw [hag]; rfl
    rw [fag_get e1 e2 e3 e4, if_pos (by decide)] at this
    exact (Option.some.inj this).symm
  obtain ⟨k1, k2⟩ := known_at (f := f) hv (show a < 290 by omega) ((e6 0 (by decide)).imp id fun ⟨v, q1, q2⟩ => ⟨v, by omega, q2⟩)
  obtain ⟨k3, k4⟩ := known_at (f := f) hv (show a + 1 < 290 by omega) ((e6 1 (by decide)).imp id fun ⟨v, q1, q2⟩ => ⟨v, by omega, q2⟩)
  rw [← hx] at k1 k2
  rw [← hy] at k3 k4
  have lx := kA_le hv x
  have ly := kA_le hv y
  generalize kA c x = p at k1 k2 lx
  generalize kA c y = q at k3 k4 ly
  obtain ⟨p1, p2⟩ := p
  obtain ⟨q1, q2⟩ := q
  dsimp only at k1 k2 lx k3 k4 ly ⊢
  have z0 : ∀ n : Nat, n ≤ 10 → ((nI n = 0) ↔ n = 0) := fun n hn => ⟨fun q => nI_inj (a := n) (b := 0) (by omega) (by omega) q, fun q => by rw [q]; rfl⟩
  have z2 : ∀ n : Nat, n ≤ 10 → ((nI n = 2) ↔ n = 2) := fun n hn => ⟨fun q => nI_inj (a := n) (b := 2) (by omega) (by omega) q, fun q => by rw [q]; rfl⟩
  have z4 : ∀ n : Nat, n ≤ 10 → ((nI n = 4) ↔ n = 4) := fun n hn => ⟨fun q => nI_inj (a := n) (b := 4) (by omega) (by omega) q, fun q => by rw [q]; rfl⟩
  unfold Constants_reckon Constants_reckon_74 Constants_reckon_84 rkK
  rw [oat_rs (show u < 150 by omega) (by decide), e3, nI_1, k1, k3, k4, k2]
  dsimp only
  by_cases a0 : p1 = 0
  · rw [if_pos (show nI p1 = 0 from (z0 p1 (by omega)).mpr a0), if_pos (Or.inl a0)]
  · rw [if_neg (show ¬ nI p1 = 0 from fun z => a0 ((z0 p1 (by omega)).mp z))]
    by_cases b0 : q1 = 0
    · rw [if_pos (show nI q1 = 0 from (z0 q1 (by omega)).mpr b0), if_pos (Or.inr b0)]
    · rw [if_neg (show ¬ nI q1 = 0 from fun z => b0 ((z0 q1 (by omega)).mp z)), if_neg (show ¬ (p1 = 0 ∨ q1 = 0) from fun z => z.elim a0 b0)]
      by_cases a2 : p1 = 2
      · rw [if_pos (show nI p1 = 2 from (z2 p1 (by omega)).mpr a2), if_pos (show p1 = 2 ∨ q1 = 2 ∨ (kk = 4 ∧ q2 = 0) from Or.inl a2)]
        rfl
      · rw [if_neg (show ¬ nI p1 = 2 from fun z => a2 ((z2 p1 (by omega)).mp z))]
        by_cases b2 : q1 = 2
        · rw [if_pos (show nI q1 = 2 from (z2 q1 (by omega)).mpr b2), if_pos (show p1 = 2 ∨ q1 = 2 ∨ (kk = 4 ∧ q2 = 0) from Or.inr (Or.inl b2))]
          rfl
        · rw [if_neg (show ¬ nI q1 = 2 from fun z => b2 ((z2 q1 (by omega)).mp z))]
          by_cases k4' : kk = 4
          · rw [if_pos (show nI kk = 4 from (z4 kk (by omega)).mpr k4')]
            by_cases qz : q2 = 0
            · rw [if_pos qz, if_pos (show p1 = 2 ∨ q1 = 2 ∨ (kk = 4 ∧ q2 = 0) from Or.inr (Or.inr ⟨k4', qz⟩))]
              rfl
            · rw [if_neg qz, if_neg (show ¬ (p1 = 2 ∨ q1 = 2 ∨ (kk = 4 ∧ q2 = 0)) from fun z => by rcases z with z | z | z; exact a2 z; exact b2 z; exact qz z.2)]
              rfl
          · rw [if_neg (show ¬ nI kk = 4 from fun z => k4' ((z4 kk (by omega)).mp z)), if_neg (show ¬ (p1 = 2 ∨ q1 = 2 ∨ (kk = 4 ∧ q2 = 0)) from fun z => by rcases z with z | z | z; exact a2 z; exact b2 z; exact k4' z.1)]
            rfl
def aLow (A : AF) : Prop := (∀ b u, u ∈ aLs A b → 6 ≤ u ∧ u < 140) ∧ ∀ b b' u, u ∈ aLs A b → u ∈ aLs A b' → b = b'
theorem aLow_of (h : CI f nb nv) : aLow (fS f) := by
  have hnv := h.1.2.2.2.2.2
  refine ⟨fun b u hu => ?_, fun b b' u h1 h2 => ?_⟩
  · obtain ⟨h1, h2, h3⟩ := (fS_ls_mem h).mp hu
    refine ⟨Nat.le_of_not_lt fun q => ?_, by omega⟩
    have := ((h.2.2.1 u h2).2.2 q).1
    rw [h3] at this
    exact nI_m1 (a := b) (by omega) this
  · obtain ⟨q1, q2, q3⟩ := (fS_ls_mem h).mp h1
    obtain ⟨q4, q5, q6⟩ := (fS_ls_mem h).mp h2
    exact nI_inj (by omega) (by omega) (q3.symm.trans q6)
/-- a value of a block -/
noncomputable def vStep (f c : Ob) (b u : Nat) : Ob := if f.1 0 u = 9 then Constants_meet f c (nI b) (nI u) else if f.1 0 u = 6 then Constants_rise c (nI u) 2 0 else if Ph_isReckoning (f.1 0 u) = true then Constants_reckon f c (nI u) (f.1 0 u) else c
theorem val_step (hF : FG f nb nv T) (hS : SI (fS f) c) {b u : Nat} (hb : fC f b) (hu : u ∈ aLs (fS f) b) : SI (fS f) (vStep f c b u) ∧ cR c (vStep f c b u) ∧ (cSm c (vStep f c b u) → VC (fS f) c b u) := by
  obtain ⟨h1, h2, h3, h4⟩ := id hF
  have hA := ag_140 h1
  obtain ⟨hA2, hA3⟩ := aLow_of h1
  obtain ⟨hb10, hunv, hupl⟩ := (fS_ls_mem h1).mp hu
  obtain ⟨hu6, hu140⟩ := hA2 b u hu
  have hk := h2.1.1.2.2.1 u b ((fS_ls_P h1).mp hu)
  obtain ⟨kk, hkk, ekk⟩ := (h1.2.2.1 u hunv).1
  have hkd : aKd (fS f) u = kk := by show tn (f.1 0 u) = kk; rw [ekk, tn_nI (by omega)]
  have hfag : aAg (fS f) u = fag f u := if_pos (by omega)
  have hfed : aEd (fS f) b = fed f b := if_pos hb10
  have hle := (hS.1 u hu140).2
  have num : ∀ n : Nat, n ≤ 10 → ((f.1 0 u = nI n) ↔ kk = n) := fun n hn => by
    rw [ekk]
    exact ⟨fun q => nI_inj (by omega) (by omega) q, fun q => by rw [q]⟩
  unfold vStep
  by_cases h9 : kk = 9
  · rw [if_pos (show f.1 0 u = 9 from (num 9 (by decide)).mpr h9)]
    have hlen := (h2.1.2.2.1.1 b u hb hu).1 (hkd.trans h9)
    rw [hfag, hfed] at hlen
    obtain ⟨met, n, m1, m2, m3, m4⟩ := meet_spec h1 hS.1 hb10 hu140 hlen
    rw [m2]
    have nr : ¬ rck (fS f) u := fun q => by unfold rck at q; omega
    obtain ⟨r1, r2, r3⟩ := si_rise (n := n) hA hA2 hA3 hS hu ⟨by omega, by omega⟩ m1 fun e => ⟨fun _ => by
      obtain ⟨w, x, q1, q2, q3⟩ := m4 e
      exact ⟨w, x, by rw [hfag, hfed]; exact q1, q2, Or.inr q3⟩, fun q => absurd q nr⟩
    refine ⟨r1, r2, fun hsm => ?_⟩
    rcases r3 with ⟨r3, -⟩ | r3
    · refine ⟨fun q => by omega, fun q => absurd q nr, fun _ w x hz hcal => ?_⟩
      rw [hfag, hfed] at hz
      have lx := kA_le hS.1 x
      rcases m3 w x hz hcal with q | q | q
      · exact Or.inl q
      · have : met = 2 := q
        exact Or.inr (Or.inl (show kc c u = 2 by omega))
      · by_cases q0 : (kA c x).1 = 0
        · exact Or.inl q0
        · have hm : (kA c x).1 = met := by rw [q]
          by_cases k2 : kc c u = 2
          · exact Or.inr (Or.inl k2)
          · have k1 : kc c u = 1 := by omega
            have hm1 : met = 1 := by omega
            obtain ⟨w', x', z1, z2, z3⟩ := (hS.2.2.2.1 b u hu k1).1 (hkd.trans h9)
            rw [hfag, hfed] at z1
            have := m3 w' x' z1 z2
            rcases z3 with z3 | z3
            · rcases this with y | y | y
              · omega
              · have : met = 2 := y
                omega
              · rw [y] at z3
                have : met = 2 := z3
                omega
            · rcases this with y | y | y
              · rw [z3] at y; cases y
              · have : met = 2 := y
                omega
              · rw [z3] at y
                refine Or.inr (Or.inr ?_)
                rw [q, ← y, k1]
    · exact absurd hsm r3
  · rw [if_neg (show ¬ f.1 0 u = 9 from fun q => h9 ((num 9 (by decide)).mp q))]
    by_cases h6 : kk = 6
    · rw [if_pos (show f.1 0 u = 6 from (num 6 (by decide)).mpr h6)]
      have nr : ¬ rck (fS f) u := fun q => by unfold rck at q; omega
      obtain ⟨r1, r2, r3⟩ := si_rise (to := 2) (n := 0) hA hA2 hA3 hS hu ⟨by omega, by omega⟩ (Nat.le_refl _) fun e => by cases e
      refine ⟨r1, r2, fun hsm => ?_⟩
      rcases r3 with ⟨r3, -⟩ | r3
      · exact ⟨fun _ => by omega, fun q => absurd q nr, fun q => by omega⟩
      · exact absurd hsm r3
    · rw [if_neg (show ¬ f.1 0 u = 6 from fun q => h6 ((num 6 (by decide)).mp q))]
      by_cases hr : 1 ≤ kk ∧ kk ≤ 5
      · rw [ekk, if_pos ((isReck_iff hkk).mpr hr)]
        have hrv : rck (fS f) u := by unfold rck; rw [hkd]; exact hr
        obtain ⟨x, y, hxy⟩ := two_args ((h2.1.2.2.1.1 b u hb hu).2.1 (Or.inl hrv.2))
        rw [reckon_spec h1 hS.1 hu140 hkk (by rw [← hfag]; exact hxy)]
        by_cases hz : (kA c x).1 = 0 ∨ (kA c y).1 = 0
        · rw [if_pos hz]
          refine ⟨hS, cR.rf c, fun _ => ⟨fun q => by omega, fun _ x' y' hxy' n1 n2 => ?_, fun q => by omega⟩⟩
          rw [hxy] at hxy'
          have e1 := (List.cons.inj hxy').1
          have e2 := (List.cons.inj (List.cons.inj hxy').2).1
          subst e1
          subst e2
          exact absurd hz fun q => q.elim n1 n2
        · rw [if_neg hz]
          have rle : (rkK kk (kA c x) (kA c y)).1 ≤ 2 := by unfold rkK; split <;> simp
          obtain ⟨r1, r2, r3⟩ := si_rise (n := (rkK kk (kA c x) (kA c y)).2) hA hA2 hA3 hS hu ⟨by omega, by omega⟩ rle fun e => ⟨fun q => by omega, fun _ => ⟨x, y, hxy, fun q => hz (Or.inl q), fun q => hz (Or.inr q), Or.inr (by rw [hkd]; exact Prod.ext e rfl)⟩⟩
          refine ⟨r1, r2, fun hsm => ?_⟩
          rcases r3 with ⟨r3, -⟩ | r3
          · refine ⟨fun q => by omega, fun _ x' y' hxy' n1 n2 => ?_, fun q => by omega⟩
            rw [hxy] at hxy'
            have e1 := (List.cons.inj hxy').1
            have e2 := (List.cons.inj (List.cons.inj hxy').2).1
            subst e1
            subst e2
            rw [hkd]
            by_cases k2 : kc c u = 2
            · exact Or.inr (Or.inl k2)
            · have hne := rkK_1 kk (kA c x) (kA c y)
              have k1 : kc c u = 1 := by omega
              obtain ⟨x', y', z1, z2, z3, z4⟩ := (hS.2.2.2.1 b u hu k1).2 hrv
              rw [hxy] at z1
              have e1 := (List.cons.inj z1).1
              have e2 := (List.cons.inj (List.cons.inj z1).2).1
              subst e1
              subst e2
              rw [hkd] at z4
              rcases z4 with z4 | z4
              · rw [z4] at r3
                have : 2 ≤ kc c u := r3
                omega
              · exact Or.inr (Or.inr (by rw [z4, k1]))
          · exact absurd hsm r3
      · rw [ekk, if_neg (fun q => hr ((isReck_iff hkk).mp q))]
        exact ⟨hS, cR.rf c, fun _ => ⟨fun q => by omega, fun q => absurd (by unfold rck at q; rw [hkd] at q; exact q) hr, fun q => by omega⟩⟩
/-- a visit of a block -/
theorem cvisit_spec (hF : FG f nb nv T) (ht : tidy f) (hS : SI (fS f) c) {b : Nat} (hb : fC f b) : SI (fS f) (Constants_visit f c (nI b)) ∧ cR c (Constants_visit f c (nI b)) ∧ (cSm c (Constants_visit f c (nI b)) → ∀ u, u ∈ aLs (fS f) b → VC (fS f) c b u) := by
  have h1 := hF.1
  obtain ⟨n, hn, hn7, q1, q2, q3⟩ := h1.2.2.2.1 b hb.1
  have hnv := h1.1.2.2.2.2.2
  have hbn : b < nb := h1.2.2.2.2.2.2.2 b (by have := hb.1; omega) hb.2
  have key : (fun g => SI (fS f) g ∧ cR c g ∧ (cSm c g → ∀ k u, k < n → f.1 8 (b * 140 + k) = nI u → u < 140 → VC (fS f) c b u)) (Constants_visit f c (nI b)) := by
    unfold Constants_visit Constants_visit_L2
    refine loop_cnt (B := fun a : Int32 × Ob => Constants_visit_L2b f a.2 (nI b) a.1) (mk := fun i (x : Ob) => (nI i, x)) (n := n) (I := fun i x => SI (fS f) x ∧ cR c x ∧ (cSm c x → ∀ k u, k < i → f.1 8 (b * 140 + k) = nI u → u < 140 → VC (fS f) c b u))
      (P := fun g => SI (fS f) g ∧ cR c g ∧ (cSm c g → ∀ k u, k < n → f.1 8 (b * 140 + k) = nI u → u < 140 → VC (fS f) c b u)) (fun i x hi hI => ?_) (fun x hI => ⟨x, ?_, hI⟩) n 0 c (by omega) ⟨hS, cR.rf c, fun _ k u hk => by omega⟩
    · obtain ⟨i1, i2, i3⟩ := hI
      obtain ⟨v, hv, ev, -⟩ := q1 i hi
      have hpl := ht b n i (by rw [nbt h1]; exact hbn) hn7 hn hi
      rw [ev, tn_nI (by omega)] at hpl
      have hvm : v ∈ aLs (fS f) b := (fS_ls_mem h1).mpr ⟨hb.1, hv, hpl⟩
      obtain ⟨s1, s2, s3⟩ := val_step hF i1 hb hvm
      refine ⟨vStep f x b v, ?_, s1, i2.trans s2, fun hsm k u hk ek hu => ?_⟩
      · show Constants_visit_L2b f x (nI b) (nI i) = _
        unfold Constants_visit_L2b Constants_visit_86 vStep
        rw [oat_rs hb.1 (by decide), hn7, if_pos (show nI i < nI n from nI_lt hi (by omega)), valueIn_eq (by have := hb.1; omega), ev, oat_rs (show v < 140 by omega) (by decide), nI_1]
        by_cases y1 : f.1 0 v = 9
        · rw [if_pos y1, if_pos y1]
        · rw [if_neg y1, if_neg y1]
          by_cases y2 : f.1 0 v = 6
          · rw [if_pos y2, if_pos y2]
          · rw [if_neg y2, if_neg y2]
            by_cases y3 : Ph_isReckoning (f.1 0 v) = true
            · rw [if_pos y3, if_pos y3]
            · rw [if_neg y3, if_neg y3]
      · obtain ⟨t1, t2⟩ := i2.sand s2 hsm
        by_cases z : k = i
        · rw [z, ev] at ek
          have : v = u := nI_inj (by omega) (by omega) ek
          rw [← this]
          exact VC.congr h1 t1 (by omega) (s3 t2)
        · exact i3 t1 k u (by omega) ek hu
    · show Constants_visit_L2b f x (nI b) (nI n) = _
      unfold Constants_visit_L2b
      rw [oat_rs hb.1 (by decide), hn7, if_neg (show ¬ nI n < nI n from nI_nlt (Nat.le_refl _) (by omega))]
  refine ⟨key.1, key.2.1, fun hsm u hu => ?_⟩
  obtain ⟨-, hunv, hupl⟩ := (fS_ls_mem h1).mp hu
  obtain ⟨k, hk, ek⟩ := q3 u hunv hupl
  exact key.2.2 hsm k u hk ek (by omega)
end LATR
