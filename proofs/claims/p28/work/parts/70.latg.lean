/-! THE PASS 1, in rows: along the ways, round after round -/
section LATG
variable {f : Ob} {nb nv T : Nat} {c c' : Ob}
theorem along_spec (hF : FG f nb nv T) (hS : SI (fS f) c) {b j : Nat} (hb : fC f b) (hbc : cco c b) (hj : j < aEk (fS f) b) (hok : aEk (fS f) b = 2 → ∀ x, aAg (fS f) (140 + b) = [x] → (kA c x).1 = 2 ∨ ((kA c x).1 = 1 ∧ j = wyN 2 (kA c x).2)) : SI (fS f) (Constants_goAlong f c (nI (b * 2 + j))) ∧ cR c (Constants_goAlong f c (nI (b * 2 + j))) ∧ (Constants_goAlong f c (nI (b * 2 + j))).1 = c.1 ∧ cal (Constants_goAlong f c (nI (b * 2 + j))) (b * 2 + j) := by
  obtain ⟨h1, h2, h3, h4⟩ := id hF
  have hek := h2.1.2.1.2.2.2.2.2.2 b hb
  have hb10 := hb.1
  have hw : b * 2 + j < 20 := by omega
  obtain ⟨t, ht, htC⟩ := h2.2.2.1 b j hb hj
  have ht12 : f.1 12 (b * 2 + j) = nI t := by
    have q : (if b * 2 + j < 20 then ftg f (b * 2 + j) else none) = some t := ht
    rw [if_pos hw] at q
    unfold ftg at q
    have hnb := h1.1.2.2.1
    rcases h1.2.2.2.2.2.1 (b * 2 + j) hw with e | ⟨t', ht', e⟩
    · rw [e, if_pos rfl] at q; cases q
    · rw [e, if_neg (nI_m1 (by omega)), tn_nI (by omega)] at q
      rw [e, Option.some.inj q]
  have ht10 := htC.1
  unfold Constants_goAlong
  rw [has_nI hw, oat_rs hw (by decide), ht12]
  by_cases q : bt (c.2.1 1) (b * 2 + j) = true
  · rw [if_pos q]
    exact ⟨hS, cR.rf c, rfl, hw, q⟩
  · rw [if_neg q, if_neg (nI_m1 (by omega))]
    generalize hr : oB (oG (oG c 1 ((c.2.1 1) ||| (Ph_bit (nI (b * 2 + j))))) 0 ((c.2.1 0) ||| (Ph_bit (nI t)))) 0 true = r
    have r1 : r.1 = c.1 := by rw [← hr]; rfl
    have rb : r.2.2 0 = true := by rw [← hr, oB_b, if_pos rfl]
    have ri1 : r.2.1 1 = (c.2.1 1) ||| (Ph_bit (nI (b * 2 + j))) := by rw [← hr, oB_i, oG_i, if_neg (by decide), oG_i, if_pos rfl]
    have ri0 : r.2.1 0 = (c.2.1 0) ||| (Ph_bit (nI t)) := by rw [← hr, oB_i, oG_i, if_pos rfl]
    have hkc : kc r = kc c := by unfold kc; rw [r1]
    have hnc : nc r = nc c := by unfold nc; rw [r1]
    have hkA : kA r = kA c := by unfold kA; rw [hkc, hnc]
    have hcal : ∀ w, cal r w ↔ cal c w ∨ w = b * 2 + j := fun w => by
      unfold cal
      rw [ri1, b_or, Bool.or_eq_true]
      constructor
      · rintro ⟨a1, a2 | a2⟩
        · exact Or.inl ⟨a1, a2⟩
        · rw [bit_nI hw (by omega)] at a2
          exact Or.inr (of_decide_eq_true a2)
      · rintro (⟨a1, a2⟩ | a2)
        · exact ⟨a1, Or.inl a2⟩
        · rw [a2]
          exact ⟨hw, Or.inr (by rw [bit_nI hw (by omega)]; exact decide_eq_true rfl)⟩
    have hcco : ∀ x, cco r x ↔ cco c x ∨ x = t := fun x => by
      unfold cco
      rw [ri0, b_or, Bool.or_eq_true]
      constructor
      · rintro ⟨a1, a2 | a2⟩
        · exact Or.inl ⟨a1, a2⟩
        · rw [bit_nI (by omega) (by omega)] at a2
          exact Or.inr (of_decide_eq_true a2)
      · rintro (⟨a1, a2⟩ | a2)
        · exact ⟨a1, Or.inl a2⟩
        · rw [a2]
          exact ⟨ht10, Or.inr (by rw [bit_nI (by omega) (by omega)]; exact decide_eq_true rfl)⟩
    have hmo : cMo c r := ⟨fun v _ => by rw [hkc, hnc]; exact leP.rf _, fun w h => (hcal w).mpr (Or.inl h), fun x h => (hcco x).mpr (Or.inl h)⟩
    have hlt : muC c < muC r := by
      unfold muC
      rw [hkc]
      have e := len_filter_one (p := fun w => bt (r.2.1 1) w) (v := b * 2 + j) (List.range 20) List.nodup_range (List.mem_range.mpr hw) (((hcal _).mpr (Or.inr rfl)).2)
      have e2 : ((List.range 20).filter fun w => bt (r.2.1 1) w && !decide (w = b * 2 + j)) = (List.range 20).filter fun w => bt (c.2.1 1) w := by
        refine List.filter_congr fun w hw' => ?_
        have hw2 := List.mem_range.mp hw'
        rw [ri1, b_or, bit_nI hw (by omega)]
        by_cases z : w = b * 2 + j
        · rw [z]
          cases y : bt (c.2.1 1) (b * 2 + j) with
          | true => exact absurd y q
          | false => simp
        · simp [z]
      rw [e2] at e
      omega
    obtain ⟨s1, ⟨s2, s3⟩, s4, s5, s6, s7, s8⟩ := hS
    have hv : cVal r := fun v hv' => by rw [r1, hkc]; exact s1 v hv'
    have hRW : ∀ x, cco c x → RW (aL (fS f) (cco r) (cal r)) none x := fun x hx => RW_mono (fun a d ⟨y1, y2, i, y3, y4, y5⟩ => ⟨hmo.2.2 a y1, hmo.2.2 d y2, i, y3, hmo.2.1 _ y4, y5⟩) (s8 x hx)
    refine ⟨⟨hv, ⟨fun v h => by rw [hkc]; exact s2 v h, fun v h h' => by rw [hkc, hnc]; exact s3 v h h'⟩, fun b' u hu hne => by rw [hkc] at hne; exact s4 b' u hu hne, fun b' u hu hk => ?_, fun w hcw => ?_, hmo.2.2 0 s7, fun x hx => ?_⟩, ⟨hmo, Or.inr ⟨hlt, rb⟩⟩, r1, (hcal _).mpr (Or.inr rfl)⟩
    · rw [hkc] at hk
      rw [hnc]
      exact LBat.mono (ag_140 h1) hv hmo (s5 b' u hu hk)
    · rw [hkA]
      rcases (hcal w).mp hcw with z | z
      · obtain ⟨y1, ⟨t', y2, y3⟩, y4, y5⟩ := s6 w z
        exact ⟨hmo.2.2 _ y1, ⟨t', y2, hmo.2.2 _ y3⟩, y4, y5⟩
      · rw [z, show (b * 2 + j) / 2 = b by omega, show (b * 2 + j) % 2 = j by omega]
        exact ⟨hmo.2.2 b hbc, ⟨t, ht, (hcco t).mpr (Or.inr rfl)⟩, hj, hok⟩
    · rcases (hcco x).mp hx with z | z
      · exact hRW x z
      · rw [z]
        exact RW_step (hRW b hbc) ⟨hmo.2.2 b hbc, (hcco t).mpr (Or.inr rfl), j, hj, (hcal _).mpr (Or.inr rfl), ht⟩ (by simp)
theorem goOn_spec (hF : FG f nb nv T) (hS : SI (fS f) c) {b : Nat} (hb : fC f b) (hbc : cco c b) : SI (fS f) (Constants_goOn f c (nI b)) ∧ cR c (Constants_goOn f c (nI b)) ∧ (cSm c (Constants_goOn f c (nI b)) → EC (fS f) c b) := by
  obtain ⟨h1, h2, h3, h4⟩ := id hF
  have hb10 := hb.1
  have hek := h2.1.2.1.2.2.2.2.2.2 b hb
  obtain ⟨k, hk2, hk⟩ := h1.2.2.2.2.2.2.1 b hb10
  have ekk : aEk (fS f) b = k := by show tn (f.1 11 b) = k; rw [hk, tn_nI (by omega)]
  have w0 : nI b * 2 = nI (b * 2 + 0) := ix2_0 b
  have w1 : nI (b * 2 + 0) + 1 = nI (b * 2 + 1) := nI_1 (b * 2)
  unfold Constants_goOn Constants_goOn_26
  rw [oat_rs hb10 (by decide), hk, w0]
  rcases show k = 0 ∨ k = 1 ∨ k = 2 by omega with e | e | e
  · have n1 : ¬ nI k = 1 := fun q => by have := nI_inj (a := k) (b := 1) (by omega) (by omega) q; omega
    have n2 : ¬ nI k = 2 := fun q => by have := nI_inj (a := k) (b := 2) (by omega) (by omega) q; omega
    rw [if_neg n1, if_neg n2]
    exact ⟨hS, cR.rf c, fun _ => ⟨fun q => by omega, fun q => by omega⟩⟩
  · have n1 : nI k = 1 := by rw [e]; rfl
    have n2 : ¬ nI k = 2 := fun q => by have := nI_inj (a := k) (b := 2) (by omega) (by omega) q; omega
    rw [if_pos n1, if_neg n2]
    obtain ⟨g1, g2, g3, g4⟩ := along_spec hF hS hb hbc (j := 0) (by omega) fun q => by omega
    exact ⟨g1, g2, fun hs => ⟨fun _ t _ => (hs.2.1 _).mp g4, fun q => by omega⟩⟩
  · have n1 : ¬ nI k = 1 := fun q => by have := nI_inj (a := k) (b := 1) (by omega) (by omega) q; omega
    have n2 : nI k = 2 := by rw [e]; rfl
    rw [if_neg n1, if_pos n2]
    obtain ⟨x, hx⟩ := one_arg ((h2.1.2.2.1.2 b hb).2 (by omega))
    obtain ⟨cc, a, e1, e2, e3, e4, e5, e6⟩ := h1.2.1.1 (140 + b) (by omega)
    have hfag : aAg (fS f) (140 + b) = fag f (140 + b) := if_pos (by omega)
    rw [hfag] at hx
    have hcc : cc = 1 := by
      have hl : (fag f (140 + b)).length = 1 := by rw [hx]; rfl
      unfold fag at hl
      rw [List.length_map, List.length_range, e1, tn_nI (by omega)] at hl
      exact hl
    have hxa : x = ag1 f a := by
      have : (fag f (140 + b))[0]? = some x := by rw [hx]; rfl
      rw [fag_get e1 e2 e3 e4, if_pos (by omega)] at this
      exact (Option.some.inj this).symm
    have hnv := h1.1.2.2.2.2.2
    obtain ⟨k1, k2⟩ := known_at (f := f) hS.1 (show a < 290 by have := e5 (by omega); omega) ((e6 0 (by omega)).imp id fun ⟨v, q1, q2⟩ => ⟨v, by omega, q2⟩)
    rw [← hxa] at k1 k2
    have hle := kA_le hS.1 x
    have hx' : aAg (fS f) (140 + b) = [x] := by rw [hfag]; exact hx
    have uni : ∀ y, aAg (fS f) (140 + b) = [y] → y = x := fun y hy => by rw [hx'] at hy; exact ((List.cons.inj hy).1).symm
    rw [ix140u, oat_rs (show 140 + b < 150 by omega) (by decide), e3, k1, k2]
    have z1 : (nI (kA c x).1 = 1) ↔ (kA c x).1 = 1 := ⟨fun q => nI_inj (b := 1) (by omega) (by omega) q, fun q => by rw [q]; rfl⟩
    have z2 : (nI (kA c x).1 = 2) ↔ (kA c x).1 = 2 := ⟨fun q => nI_inj (b := 2) (by omega) (by omega) q, fun q => by rw [q]; rfl⟩
    unfold Constants_goOn_76 Constants_goOn_77 Constants_goOn_90 Constants_goOn_96 Constants_goOn_113
    rw [w1]
    have one : ∀ j, j < 2 → (kA c x).1 = 1 → j = wyN 2 (kA c x).2 → SI (fS f) (Constants_goAlong f c (nI (b * 2 + j))) ∧ cR c (Constants_goAlong f c (nI (b * 2 + j))) ∧ (cSm c (Constants_goAlong f c (nI (b * 2 + j))) → EC (fS f) c b) := fun j hj hk1 hjw => by
      obtain ⟨g1, g2, g3, g4⟩ := along_spec hF hS hb hbc (j := j) (by omega) fun _ y hy => by rw [uni y hy]; exact Or.inr ⟨hk1, hjw⟩
      refine ⟨g1, g2, fun hs => ⟨fun q => by omega, fun _ y hy => ?_⟩⟩
      rw [uni y hy]
      exact ⟨fun q => by omega, fun _ t _ => by rw [← hjw]; exact (hs.2.1 _).mp g4⟩
    rcases show (kA c x).1 = 0 ∨ (kA c x).1 = 1 ∨ (kA c x).1 = 2 by omega with y | y | y
    · have m1 : ¬ nI (kA c x).1 = 1 := fun q => by have := z1.mp q; omega
      have m2 : ¬ nI (kA c x).1 = 2 := fun q => by have := z2.mp q; omega
      rw [if_neg m1, if_neg m2, if_pos rfl, if_neg m2, if_neg m1]
      refine ⟨hS, cR.rf c, fun _ => ⟨fun q => by omega, fun _ z hz => ?_⟩⟩
      rw [uni z hz]
      exact ⟨fun q => by omega, fun q => by omega⟩
    · have m1 : nI (kA c x).1 = 1 := z1.mpr y
      have m2 : ¬ nI (kA c x).1 = 2 := fun q => by have := z2.mp q; omega
      rw [if_pos m1]
      by_cases hp : 0 < (kA c x).2
      · rw [if_pos hp, if_neg m2, if_neg (by decide), if_neg m2, if_pos m1, if_neg (by decide)]
        exact one 0 (by decide) y (by unfold wyN; rw [if_neg (fun q => q.2 hp)])
      · rw [if_neg hp, if_neg m2, if_pos rfl, if_neg m2, if_pos m1, if_pos rfl]
        exact one 1 (by decide) y (by unfold wyN; rw [if_pos ⟨rfl, hp⟩])
    · have m1 : ¬ nI (kA c x).1 = 1 := fun q => by have := z1.mp q; omega
      have m2 : nI (kA c x).1 = 2 := z2.mpr y
      rw [if_neg m1, if_pos m2, if_pos m2]
      obtain ⟨g1, g2, g3, g4⟩ := along_spec hF hS hb hbc (j := 0) (by omega) fun _ z hz => by rw [uni z hz]; exact Or.inl y
      have hkA : kA (Constants_goAlong f c (nI (b * 2 + 0))) x = kA c x := by unfold kA kc nc; rw [g3]
      obtain ⟨p1, p2, p3, p4⟩ := along_spec hF g1 hb (g2.1.2.2 b hbc) (j := 1) (by omega) fun _ z hz => by rw [uni z hz, hkA]; exact Or.inl y
      refine ⟨p1, g2.trans p2, fun hs => ⟨fun q => by omega, fun _ z hz => ?_⟩⟩
      rw [uni z hz]
      refine ⟨fun _ j hj t _ => ?_, fun q => by omega⟩
      obtain ⟨t1, t2⟩ := g2.sand p2 hs
      rcases show j = 0 ∨ j = 1 by omega with r | r
      · rw [r]; exact (t1.2.1 _).mp g4
      · rw [r]; exact (hs.2.1 _).mp p4
/-- blocks that are come to are there -/
theorem cco_there (hF : FG f nb nv T) (hS : SI (fS f) c) {b : Nat} (hb : cco c b) : fC f b := by
  refine RW_ind (E := aL (fS f) (cco c) (cal c)) (o := none) (P := fun b => fC f b) (fun _ => hF.2.1.1.2.1.1) (fun a d _ ih he _ _ => ?_) (hS.2.2.2.2.2.2 b hb)
  obtain ⟨-, -, j, q1, -, q3⟩ := he
  obtain ⟨t, y1, y2⟩ := hF.2.1.2.2.1 a j ih q1
  rw [q3] at y1
  cases y1
  exact y2
def conR (f : Ob) (r : Ob × Ob) : Prop := ∃ c, r = (Constants_replaceNumbers (Constants_loseBlocks (Constants_cutWays f c) c) c, c) ∧ SI (fS f) c ∧ ∀ b, cco c b → (∀ u, u ∈ aLs (fS f) b → VC (fS f) c b u) ∧ EC (fS f) c b
theorem con_rounds (hF : FG f nb nv T) (ht : tidy f) : ∀ c : Ob, SI (fS f) c → c.2.2 0 = true → conR f (Constants_goOver_L6 f c 0) := by
  intro c hS hfl
  have h1 := hF.1
  have hnb := h1.1.2.2.1
  unfold Constants_goOver_L6
  refine loop_brk (B := fun a : Int32 × Ob => Constants_goOver_L6b f a.2 a.1) (mk := fun i (s : Ob) => (nI i, s)) (n := 301) (I := fun k s => SI (fS f) s ∧ ((s.2.2 0 = true ∧ k ≤ muC s) ∨ (s.2.2 0 = false ∧ ∀ b, cco s b → (∀ u, u ∈ aLs (fS f) b → VC (fS f) s b u) ∧ EC (fS f) s b))) (P := conR f) (fun k s hk hI2 => ?_) (fun s hI2 => ?_) 301 0 c rfl ⟨hS, Or.inl ⟨hfl, Nat.zero_le _⟩⟩
  · obtain ⟨i1, i3⟩ := hI2
    rcases i3 with ⟨i3, i4⟩ | ⟨i3, i4⟩
    · left
      have hB : Constants_goOver_L6b f s (nI k) = Constants_goOver_L27 f (oB s 0 false) (nI k) 0 := by
        unfold Constants_goOver_L6b
        rw [if_pos i3, if_pos (show nI k < 301 from nI_lt (a := k) (b := 301) hk (by decide))]
      dsimp only
      rw [hB]
      have e1 : (oB s 0 false).1 = s.1 := rfl
      have e2 : (oB s 0 false).2.1 = s.2.1 := rfl
      have hf0 : (oB s 0 false).2.2 0 = false := by rw [oB_b, if_pos rfl]
      generalize oB s 0 false = d0 at e1 e2 hf0
      have hkc : kc d0 = kc s := by unfold kc; rw [e1]
      have hnc : nc d0 = nc s := by unfold nc; rw [e1]
      have hkA : kA d0 = kA s := by unfold kA; rw [hkc, hnc]
      have hcal : cal d0 = cal s := by unfold cal; rw [e2]
      have hcco : cco d0 = cco s := by unfold cco; rw [e2]
      have hmu : muC d0 = muC s := by unfold muC; rw [hkc, e2]
      have hS0 : SI (fS f) d0 := by
        obtain ⟨s1, s2, s4, s5, s6, s7, s8⟩ := i1
        refine ⟨fun v hv => by rw [e1, hkc]; exact s1 v hv, by rw [hkc, hnc]; exact s2, by rw [hkc]; exact s4, ?_, ?_, by rw [hcco]; exact s7, by rw [hcco, hcal]; exact s8⟩
        · intro b u hu hk1
          rw [hkc] at hk1
          rw [hnc]
          have := s5 b u hu hk1
          unfold LBat at this ⊢
          rw [hkA, hcal]
          exact this
        · unfold alK
          rw [hcal, hcco, hkA]
          exact s6
      unfold Constants_goOver_L27
      refine loop_cnt (B := fun a : Int32 × Ob => Constants_goOver_L27b f a.2 (nI k) a.1) (mk := fun i (s : Ob) => (nI i, s)) (n := nb) (I := fun i x => SI (fS f) x ∧ cR d0 x ∧ (cSm d0 x → ∀ b, b < i → cco d0 b → (∀ u, u ∈ aLs (fS f) b → VC (fS f) d0 b u) ∧ EC (fS f) d0 b))
        (P := fun r => ∃ s', r = .inl (nI (k + 1), s') ∧ SI (fS f) s' ∧ ((s'.2.2 0 = true ∧ k + 1 ≤ muC s') ∨ (s'.2.2 0 = false ∧ ∀ b, cco s' b → (∀ u, u ∈ aLs (fS f) b → VC (fS f) s' b u) ∧ EC (fS f) s' b))) (fun i x hi hx => ?_) (fun x hx => ?_) nb 0 d0 (by omega) ⟨hS0, cR.rf d0, fun _ b hb => by omega⟩
      · obtain ⟨x1, x2, x3⟩ := hx
        have hB2 : Constants_goOver_L27b f x (nI k) (nI i) = if bt (x.2.1 0) i = true then .inl (nI (i + 1), Constants_goOn f (Constants_visit f x (nI i)) (nI i)) else .inl (nI (i + 1), x) := by
          unfold Constants_goOver_L27b Constants_goOver_58
          rw [h1.1.1, if_pos (show nI i < nI nb from nI_lt hi (by omega)), has_nI (by omega), nI_1]
        dsimp only
        rw [hB2]
        by_cases q : bt (x.2.1 0) i = true
        · rw [if_pos q]
          have hcx : cco x i := ⟨by omega, q⟩
          have hCi := cco_there hF x1 hcx
          obtain ⟨v1, v2, v3⟩ := cvisit_spec hF ht x1 hCi
          obtain ⟨g1, g2, g3⟩ := goOn_spec hF v1 hCi (v2.1.2.2 i hcx)
          refine ⟨_, rfl, g1, (x2.trans v2).trans g2, fun hs b hb hcb => ?_⟩
          obtain ⟨t1, t2⟩ := (x2.trans v2).sand g2 hs
          obtain ⟨t3, t4⟩ := x2.sand v2 t1
          by_cases z : b = i
          · rw [z]
            refine ⟨fun u hu => VC.congr h1 t3 (by
              have := ((fS_ls_mem h1).mp hu).2.1
              have := h1.1.2.2.2.2.2
              omega) (v3 t4 u hu), EC.congr h1 t1 (g3 t2)⟩
          · exact x3 t3 b (by omega) hcb
        · rw [if_neg q]
          refine ⟨_, rfl, x1, x2, fun hs b hb hcb => ?_⟩
          by_cases z : b = i
          · rw [z] at hcb
            exact absurd ((hs.2.2 i).mpr hcb).2 q
          · exact x3 hs b (by omega) hcb
      · obtain ⟨x1, x2, x3⟩ := hx
        refine ⟨.inl (nI (k + 1), x), ?_, x, rfl, x1, ?_⟩
        · show Constants_goOver_L27b f x (nI k) (nI nb) = _
          unfold Constants_goOver_L27b
          rw [h1.1.1, if_neg (show ¬ nI nb < nI nb from nI_nlt (Nat.le_refl _) (by omega)), nI_1]
        · rcases x2.2 with ⟨y1, y2⟩ | ⟨y1, y2⟩
          · refine Or.inr ⟨y2.trans hf0, fun b hb => ?_⟩
            have hbd := (y1.2.2 b).mp hb
            have hbn : b < nb := by
              have := cco_there hF x1 hb
              exact h1.2.2.2.2.2.2.2 b (by have := this.1; omega) this.2
            obtain ⟨z1, z2⟩ := x3 y1 b hbn hbd
            refine ⟨fun u hu => VC.congr h1 y1.symm (by
              have := ((fS_ls_mem h1).mp hu).2.1
              have := h1.1.2.2.2.2.2
              omega) (z1 u hu), EC.congr h1 y1.symm z2⟩
          · exact Or.inl ⟨y2, by omega⟩
    · right
      refine ⟨Constants_goOver_70 f s, ?_, s, rfl, i1, i4⟩
      show Constants_goOver_L6b f s (nI k) = _
      unfold Constants_goOver_L6b
      rw [if_neg (by rw [i3]; decide)]
  · obtain ⟨i1, i3⟩ := hI2
    rcases i3 with ⟨i3, i4⟩ | ⟨i3, i4⟩
    · have := muC_le fun v hv => (i1.1 v hv).2
      omega
    · refine ⟨Constants_goOver_70 f s, ?_, s, rfl, i1, i4⟩
      show Constants_goOver_L6b f s (nI 301) = _
      unfold Constants_goOver_L6b
      rw [if_neg (by rw [i3]; decide)]
theorem begin_SI (hF : FG f nb nv T) (cn : Ob) : SI (fS f) (Constants_begin cn) ∧ (Constants_begin cn).2.2 0 = true := by
  have key : (fun g : Ob => (∀ v, v < 140 → g.1 0 v = if v < 2 then 2 else if v < 6 then 1 else 0) ∧ (∀ v, g.1 1 v = 0) ∧ g.2.1 0 = Ph_bit 0 ∧ g.2.1 1 = 0 ∧ g.2.2 0 = true) (Constants_begin cn) := by
    unfold Constants_begin Constants_begin_L18
    refine loop_cnt (B := fun a : Int32 × Ob => Constants_begin_L18b a.2 a.1) (mk := fun i (s : Ob) => (nI i, s)) (n := 6) (I := fun k s => (∀ v, v < 140 → s.1 0 v = if v < k then (if v < 2 then 2 else 1) else 0) ∧ ∀ v, s.1 1 v = 0)
      (P := fun g : Ob => (∀ v, v < 140 → g.1 0 v = if v < 2 then 2 else if v < 6 then 1 else 0) ∧ (∀ v, g.1 1 v = 0) ∧ g.2.1 0 = Ph_bit 0 ∧ g.2.1 1 = 0 ∧ g.2.2 0 = true) (fun k s hk hI => ?_) (fun s hI => ?_) 6 0 _ rfl ⟨fun v _ => ?_, fun v => ?_⟩
    · obtain ⟨i1, i2⟩ := hI
      refine ⟨rs s 0 k (if k < 2 then 2 else 1), ?_, fun v hv => ?_, fun v => by rw [rs_r _ _ _ _ (show 1 ≠ 0 by decide)]; exact i2 v⟩
      · show Constants_begin_L18b s (nI k) = _
        unfold Constants_begin_L18b Constants_begin_39
        rw [if_pos (show nI k < 6 from nI_lt (a := k) (b := 6) hk (by decide)), oput_rs (show k < 140 by omega) (by decide), oput_rs (show k < 140 by omega) (by decide), nI_1]
        by_cases q : k < 2
        · rw [if_pos (show nI k < 2 from nI_lt (a := k) (b := 2) q (by decide)), if_pos q]
        · rw [if_neg (show ¬ nI k < 2 from nI_nlt (a := k) (b := 2) (by omega) (by omega)), if_neg q]
      · rw [rs_i]
        by_cases z : v = k
        · rw [if_pos z, if_pos (show v < k + 1 by omega), z]
        · rw [if_neg z, i1 v hv]
          by_cases y : v < k
          · rw [if_pos y, if_pos (show v < k + 1 by omega)]
          · rw [if_neg y, if_neg (show ¬ v < k + 1 by omega)]
    · obtain ⟨i1, i2⟩ := hI
      refine ⟨oB (oG (oG s 0 (Ph_bit 0)) 1 0) 0 true, ?_, fun v hv => ?_, fun v => i2 v, ?_, ?_, ?_⟩
      · show Constants_begin_L18b s (nI 6) = _
        unfold Constants_begin_L18b
        rw [if_neg (by decide)]
      · show s.1 0 v = _
        rw [i1 v hv]
        by_cases y : v < 2
        · rw [if_pos (by omega), if_pos y, if_pos y]
        · rw [if_neg y, if_neg y]
      · rw [oB_i, oG_i, if_neg (by decide), oG_i, if_pos rfl]
      · rw [oB_i, oG_i, if_pos rfl]
      · rw [oB_b, if_pos rfl]
    · rw [if_neg (by omega)]
      unfold ofil
      rw [oR_1, if_neg (by decide), oR_1, if_pos rfl]
    · unfold ofil
      rw [oR_1, if_pos rfl]
  obtain ⟨g1, g2, g3, g4, g5⟩ := key
  generalize Constants_begin cn = g at g1 g2 g3 g4 g5
  have hk : ∀ v, v < 140 → kc g v = if v < 2 then 2 else if v < 6 then 1 else 0 := fun v hv => by
    unfold kc
    rw [if_pos hv, g1 v hv]
    split
    · rfl
    · split <;> rfl
  have hlow := aLow_of hF.1
  have hz : ∀ b u, u ∈ aLs (fS f) b → kc g u = 0 := fun b u hu => by
    obtain ⟨q1, q2⟩ := hlow.1 b u hu
    rw [hk u q2, if_neg (by omega), if_neg (by omega)]
  have hb0 : ∀ i, i < 32 → bt (Ph_bit 0) i = decide (i = 0) := fun i hi => bit_nI (k := 0) (by decide) hi
  have hcal : ∀ w, ¬ cal g w := fun w h => by
    have := h.2
    rw [g4, b_0] at this
    cases this
  have hcco : ∀ b, cco g b ↔ b = 0 := fun b => by
    unfold cco
    rw [g3]
    constructor
    · rintro ⟨q1, q2⟩
      rw [hb0 b (by omega)] at q2
      exact of_decide_eq_true q2
    · intro q
      rw [q]
      exact ⟨by decide, by rw [hb0 0 (by decide)]; rfl⟩
  refine ⟨⟨fun v hv => ?_, ⟨fun v hv => by rw [hk v (by omega), if_pos hv], fun v h1 h2 => ⟨by rw [hk v (by omega), if_neg (by omega), if_pos h2], g2 v⟩⟩, fun b u hu hne => absurd (hz b u hu) hne, fun b u hu h1 => ?_, fun w hw => absurd hw (hcal w), (hcco 0).mpr rfl, fun b hb => ?_⟩, g5⟩
  · rw [hk v hv, g1 v hv]
    split
    · exact ⟨rfl, Nat.le_refl _⟩
    · split
      · exact ⟨rfl, Nat.le_succ 1⟩
      · exact ⟨rfl, Nat.zero_le _⟩
  · rw [hz b u hu] at h1
    cases h1
  · rw [(hcco b).mp hb]
    exact RW_base (by simp)
/-- what the pass knows in the end -/
theorem con_known (hF : FG f nb nv T) (ht : tidy f) (cn : Ob) : ∃ c, Constants_goOver f cn = (Constants_replaceNumbers (Constants_loseBlocks (Constants_cutWays f c) c) c, c) ∧ cVal c ∧ (∀ b, cco c b → fC f b) ∧ cco c 0 ∧ VS (fS f) (cco c) (kc c) (nc c) (cal c) := by
  obtain ⟨b1, b2⟩ := begin_SI hF cn
  obtain ⟨c, e, hS, hfix⟩ := con_rounds hF ht _ b1 b2
  refine ⟨c, e, hS.1, fun b hb => cco_there hF hS hb, hS.2.2.2.2.2.1, ⟨fun v => ?_, hS.2.1.1, fun v h1 h2 => ?_⟩, fun b u hb hu => ?_, fun b u w x hb hu h9 hz _ hal => ?_, fun b hb => ⟨fun e1 => ?_, fun e2 x hx => ⟨fun k2 => ?_, fun k1 => ⟨?_, fun q => ?_⟩⟩⟩, hS.2.2.2.2.2.2⟩
  · by_cases hv : v < 140
    · exact (hS.1 v hv).2
    · unfold kc
      rw [if_neg hv]
      exact Nat.zero_le _
  · obtain ⟨q1, q2⟩ := hS.2.1.2 v h1 h2
    exact ⟨by omega, fun _ => q2⟩
  · obtain ⟨v1, v2, -⟩ := (hfix b hb).1 u hu
    exact ⟨v1, fun h78 h1 => by
      have := hS.2.2.1 b u hu (by omega)
      omega, v2⟩
  · exact ((hfix b hb).1 u hu).2.2 h9 w x hz hal
  · obtain ⟨t, y1, y2⟩ := hF.2.1.2.2.1 b 0 (cco_there hF hS hb) (by omega)
    have hal := (hfix b hb).2.1 e1 t y1
    exact ⟨hal, (hS.2.2.2.2.1 _ hal).2.1⟩
  · have go : ∀ j, j < 2 → wayK (fS f) (cco c) (cal c) (b * 2 + j) := fun j hj => by
      obtain ⟨t, y1, y2⟩ := hF.2.1.2.2.1 b j (cco_there hF hS hb) (by omega)
      have hal := ((hfix b hb).2.2 e2 x hx).1 k2 j hj t y1
      exact ⟨hal, (hS.2.2.2.2.1 _ hal).2.1⟩
    exact ⟨go 0 (by decide), go 1 (by decide)⟩
  · have hlt := wyN_lt (knA (kc c) (nc c) x).2
    obtain ⟨t, y1, y2⟩ := hF.2.1.2.2.1 b (wyN 2 (knA (kc c) (nc c) x).2) (cco_there hF hS hb) (by omega)
    have hal := ((hfix b hb).2.2 e2 x hx).2 k1 t y1
    exact ⟨hal, (hS.2.2.2.2.1 _ hal).2.1⟩
  · have hlt := wyN_lt (knA (kc c) (nc c) x).2
    obtain ⟨-, -, -, z⟩ := hS.2.2.2.2.1 _ q
    rw [show (b * 2 + (1 - wyN 2 (knA (kc c) (nc c) x).2)) / 2 = b by omega, show (b * 2 + (1 - wyN 2 (knA (kc c) (nc c) x).2)) % 2 = 1 - wyN 2 (knA (kc c) (nc c) x).2 by omega] at z
    have k1' : (kA c x).1 = 1 := k1
    rcases z e2 x hx with y | ⟨-, y⟩
    · omega
    · have y' : 1 - wyN 2 (knA (kc c) (nc c) x).2 = wyN 2 (knA (kc c) (nc c) x).2 := y
      omega
end LATG
