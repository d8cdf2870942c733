section CONP2
variable {f g : Ob} {nb nv T : Nat} {c : Ob}
/-- blocks are lost, as far as block i -/
def lsI (f c : Ob) (nb nv T i : Nat) (al : Nat → Prop) (g : Ob) : Prop := (CI g nb nv ∧ KT g nv T ∧ ist f g) ∧ nwF f g ∧ EA (fS g) (fC g) ∧ (∀ b, fC g b ↔ fC f b ∧ ¬ (b < i ∧ ¬ cco c b)) ∧ (∀ t w, w ∈ aEd (fS g) t → fC g (w / 2)) ∧ eK (fS g) (cco c) ∧ (gd (fS g) (fP g) (cco c) ∧ gW (fS g) (fP g) allC ∧ VS (fS g) (cco c) (kc c) (nc c) al) ∧ ∀ b x, cco c b → aEk (fS g) b = 2 → aAg (fS g) (140 + b) = [x] → (kA c x).1 ≠ 1
theorem lose_step {al : Nat → Prop} (hcf : ∀ b, cco c b → fC f b) {n : Nat} (hn : n < nb) (hfC : ∀ b, fC f b → b < nb) (h : lsI f c nb nv T n al g) : ∃ g', Constants_loseBlocks_L2b g c (nI n) = .inl (nI (n + 1), g') ∧ lsI f c nb nv T (n + 1) al g' := by
  obtain ⟨⟨h1, hK, h2⟩, hnw, hEA, hfc, hed, heK, ⟨hg, hW, hV⟩, hcut⟩ := id h
  have hnb := h1.1.2.2.1
  have hn10 : n < 10 := by omega
  have hB : Constants_loseBlocks_L2b g c (nI n) = if bt ((g.2.1 1) &&& ((c.2.1 0) ^^^ (-1))) n = true then .inl (nI (n + 1), Form_loseBlock (Form_dropEdge (Form_dropEdge g (nI (n * 2))) (nI (n * 2 + 1))) (nI n)) else .inl (nI (n + 1), g) := by
    unfold Constants_loseBlocks_L2b Constants_loseBlocks_49
    rw [h1.1.1, if_pos (show nI n < nI nb from nI_lt hn (by omega)), has_nI (by omega), ix2_0, nI_1, nI_1]
  rw [hB]
  by_cases q : bt ((g.2.1 1) &&& ((c.2.1 0) ^^^ (-1))) n = true
  · rw [if_pos q]
    have q' := q
    rw [b_and, bt_not (by omega), Bool.and_eq_true] at q'
    have hnC : ¬ cco c n := fun z => by
      rw [z.2] at q'
      exact absurd q'.2 (by decide)
    obtain ⟨c1, c2, c3, c4⟩ := dropEdge_CI h1 (show n * 2 < 20 by omega)
    generalize Form_dropEdge g (nI (n * 2)) = g2 at c1 c2 c3 c4
    obtain ⟨d1, d2, d3, d4⟩ := dropEdge_CI c1 (show n * 2 + 1 < 20 by omega)
    generalize Form_dropEdge g2 (nI (n * 2 + 1)) = g3 at d1 d2 d3 d4
    have i3 : g3.2 = g.2 := d4.trans c4
    have r3 : g3.1 1 = g.1 1 := by rw [d3 1 (by decide) (by decide) (by decide) (by decide) (by decide) (by decide), c3 1 (by decide) (by decide) (by decide) (by decide) (by decide) (by decide)]
    obtain ⟨z1, z2, z3, z4, z5, z6, z7, z8, z9, z10, z11⟩ := loseBlock_CI d1 hn10 (by rw [i3]; exact q'.1)
    generalize Form_loseBlock g3 (nI n) = g4 at z1 z2 z3 z4 z5 z6 z7 z8 z9 z10 z11
    have hS : fS g4 = aGone (fS g) n := by rw [z2, d2, c2]; rfl
    have hP : fP g4 = plL (fP g) n := by rw [z3, fP_congr (f := g) r3 (by rw [i3])]
    have hC : ∀ b, fC g4 b ↔ fC g b ∧ b ≠ n := fun b => by
      unfold fC
      constructor
      · rintro ⟨y1, y2⟩
        rw [z4 b (by omega), i3] at y2
        revert y2
        cases hq : bt (g.2.1 1) b
        · simp
        · intro y2
          exact ⟨⟨y1, rfl⟩, by simpa using y2⟩
      · rintro ⟨⟨y1, y2⟩, y3⟩
        refine ⟨y1, ?_⟩
        rw [z4 b (by omega), i3, y2]
        simp [y3]
    have hC' : fC g4 = fun b => fC g b ∧ b ≠ n := funext fun b => propext (hC b)
    obtain ⟨f1, f2, f3, f4, f5, f6, f7, f8, fW⟩ := gone_facts hW n
    obtain ⟨k1, k2, k3⟩ := gone_ok hg hW hV hnC
    have ne : ∀ {x}, cco c x → x ≠ n := fun hx e => hnC (by rw [← e]; exact hx)
    refine ⟨g4, rfl, ⟨z1, z11 T (KT_congr r3 (by rw [i3]) (by rw [i3]) hK), h2.trans ⟨fun i a b => by rw [z6 i a b, i3], by rw [z7, i3]⟩⟩, hnw.trans fun a y => by rw [hS]; exact k3 a y, ?_, fun b => ?_, fun t w hw => ?_, ?_, ⟨by rw [hS, hP]; exact k1, by rw [hS, hP]; exact fW, by rw [hS]; exact k2⟩, fun b x hb he hx => ?_⟩
    · rw [hS, hC']
      exact EA_lose (EA_drop (drop_W hW (n * 2)) (EA_drop hW hEA (n * 2)) (n * 2 + 1))
    · rw [hC b, hfc b]
      constructor
      · rintro ⟨⟨y1, y2⟩, y3⟩
        exact ⟨y1, fun z => y2 ⟨by omega, z.2⟩⟩
      · rintro ⟨y1, y2⟩
        exact ⟨⟨y1, fun z => y2 ⟨by omega, z.2⟩⟩, fun z => y2 ⟨by omega, by rw [z]; exact hnC⟩⟩
    · rw [hS] at hw
      by_cases htn : t = n
      · rw [htn] at hw
        have hw' : w ∈ (if n = n then [] else aEd (aDrop (aDrop (fS g) (n * 2)) (n * 2 + 1)) n) := hw
        rw [if_pos rfl] at hw'
        cases hw'
      · obtain ⟨y1, y2⟩ := (f7 t htn w).mp hw
        exact (hC _).mpr ⟨hed t w y1, y2⟩
    · rw [hS]
      intro w t hwC hw
      rw [f4 w (ne hwC)] at hw
      rw [f3]
      exact heK w t hwC hw
    · rw [hS, f3] at he
      rw [hS, f6 b (ne hb)] at hx
      exact hcut b x hb he hx
  · rw [if_neg q]
    refine ⟨g, rfl, ⟨h1, hK, h2⟩, hnw, hEA, fun b => ?_, hed, heK, ⟨hg, hW, hV⟩, hcut⟩
    rw [hfc b]
    constructor
    · rintro ⟨y1, y2⟩
      refine ⟨y1, fun z => y2 ⟨?_, z.2⟩⟩
      by_cases e : b = n
      · exfalso
        have hgn : fC g n := (hfc n).mpr ⟨by rw [← e]; exact y1, fun z' => by omega⟩
        apply q
        rw [b_and, bt_not (by omega), hgn.2]
        cases y : bt (c.2.1 0) n with
        | false => rfl
        | true => exact absurd (show cco c n from ⟨hn10, y⟩) (by rw [← e]; exact z.2)
      · have := z.1; omega
    · rintro ⟨y1, y2⟩
      exact ⟨y1, fun z => y2 ⟨by omega, z.2⟩⟩
theorem loseBlocks_spec (hcf : ∀ b, cco c b → fC f b) (hfC : ∀ b, fC f b → b < nb) (hnb : nb ≤ 10) (h : ctI f c nb nv T nb g) (hgf : fC g = fC f) : FG (Constants_loseBlocks g c) nb nv T ∧ nwF f (Constants_loseBlocks g c) ∧ ist f (Constants_loseBlocks g c) ∧ ∃ al, VS (fS (Constants_loseBlocks g c)) (fC (Constants_loseBlocks g c)) (kc c) (nc c) al := by
  obtain ⟨⟨h1, hK, h2, h21⟩, hn, hEA, heC, heK, ⟨al, hG⟩, hdone⟩ := id h
  have key : lsI f c nb nv T nb al (Constants_loseBlocks g c) := by
    unfold Constants_loseBlocks Constants_loseBlocks_L2
    refine loop_cnt (B := fun a : Int32 × Ob => Constants_loseBlocks_L2b a.2 c a.1) (mk := fun i (s : Ob) => (nI i, s)) (n := nb) (I := fun i s => lsI f c nb nv T i al s) (P := fun s => lsI f c nb nv T nb al s) (fun i s hi hI => lose_step hcf hi hfC hI) (fun s hI => ⟨s, ?_, hI⟩) nb 0 g (by omega) ⟨⟨h1, hK, ⟨fun i _ _ => by rw [h2], by rw [h2]⟩⟩, hn, by rw [hgf]; exact hEA, fun b => by rw [hgf]; exact ⟨fun q => ⟨q, fun z => by omega⟩, fun q => q.1⟩, fun t w hw => ?_, heK, ⟨hG.1, hG.2.1, hG.2.2.1⟩, fun b x hb => hdone b x (hfC b (hcf b hb)) hb⟩
    · show Constants_loseBlocks_L2b s c (nI nb) = _
      unfold Constants_loseBlocks_L2b
      rw [hI.1.1.1.1, if_neg (show ¬ nI nb < nI nb from nI_nlt (Nat.le_refl _) (by omega))]
    · rw [hgf]
      have ht : fC f t := Classical.byContradiction fun q => by
        rw [(hEA t q).2.1] at hw
        cases hw
      exact heC t w ht hw
  generalize Constants_loseBlocks g c = r at key
  obtain ⟨⟨k1, k2, k3⟩, k4, k5, k6, k7, k8, ⟨k9, k10, k11⟩, k12⟩ := key
  have hC : fC r = cco c := funext fun b => propext ⟨fun q => by
    obtain ⟨y1, y2⟩ := (k6 b).mp q
    exact Classical.byContradiction fun z => y2 ⟨hfC b y1, z⟩, fun q => (k6 b).mpr ⟨hcf b q, fun z => z.2 q⟩⟩
  rw [hC] at k5 k7 ⊢
  refine ⟨⟨k1, by rw [hC]; exact ⟨k9, k10, VS_clo k9 k11 k12, fun t w _ hw => k7 t w hw, k8⟩, by rw [hC]; exact k5, k2⟩, k4, k3, al, k11⟩
theorem replaceNumbers_spec {al : Nat → Prop} (hv : cVal c) (hlow : ∀ v, v < 6 → kc c v = 1 → nc c v = 0) (hF : FG g nb nv T) (hV : VS (fS g) (fC g) (kc c) (nc c) al) : FG (Constants_replaceNumbers g c) nb nv T ∧ nwF g (Constants_replaceNumbers g c) ∧ ist g (Constants_replaceNumbers g c) := by
  have hnv := hF.1.1.2.2.2.2.2
  have hn2 := hF.1.1.2.2.2.1
  have key : (fun s : Ob => (FG s nb nv T ∧ nwF g s ∧ stay g s)) (Constants_replaceNumbers g c) := by
    unfold Constants_replaceNumbers Constants_replaceNumbers_L2
    refine loop_cnt (B := fun a : Int32 × Ob => Constants_replaceNumbers_L2b a.2 c a.1) (mk := fun i (s : Ob) => (nI i, s)) (n := nv) (I := fun i s => (FG s nb nv T ∧ nwF g s ∧ stay g s) ∧ VS (fS s) (fC s) (kc c) (nc c) al) (P := fun s : Ob => FG s nb nv T ∧ nwF g s ∧ stay g s) (fun v s hvn hI => ?_) (fun s hI => ⟨s, ?_, hI.1⟩) nv 0 g (by omega) ⟨⟨hF, nwF.rf g, stay.rf g⟩, hV⟩
    · obtain ⟨⟨i1, i2, i3⟩, i4⟩ := hI
      obtain ⟨h1, h2, h3, h4⟩ := id i1
      have e2 : s.2.1 2 = nI nv := by rw [i3.2.1 2 (by decide)]; exact hn2
      have hv140 : v < 140 := by omega
      have hB : Constants_replaceNumbers_L2b s c (nI v) = if c.1 0 v = 1 then (if s.1 1 v = -1 then (if v < 6 then .inl (nI (v + 1), Form_redirect s (nI v) (-1) 0) else .inl (nI (v + 1), s)) else .inl (nI (v + 1), Form_replace s (nI v) (-1) (c.1 1 v))) else .inl (nI (v + 1), s) := by
        unfold Constants_replaceNumbers_L2b Constants_replaceNumbers_51 Constants_replaceNumbers_76
        rw [e2, if_pos (show nI v < nI nv from nI_lt hvn (by omega)), oat_rs hv140 (by decide), oat_rs hv140 (by decide), oat_rs hv140 (by decide), nI_1]
        by_cases q : c.1 0 v = 1
        · rw [if_pos q, if_pos q, if_pos q]
          by_cases q2 : s.1 1 v = -1
          · rw [if_pos q2, if_pos q2]
            by_cases q3 : v < 6
            · rw [if_pos (show nI v < 6 from nI_lt (a := v) (b := 6) q3 (by decide)), if_pos q3]
            · rw [if_neg (show ¬ nI v < 6 from nI_nlt (a := v) (b := 6) (by omega) (by omega)), if_neg q3]
          · rw [if_neg q2, if_neg q2]
        · rw [if_neg q, if_neg q, if_neg q]
      dsimp only
      rw [hB]
      by_cases q : c.1 0 v = 1
      · rw [if_pos q]
        have hk : kc c v = 1 := by
          have := (hv v hv140).1
          rw [q] at this
          exact (nI_inj (a := 1) (b := kc c v) (by omega) (by have := (hv v hv140).2; omega) this).symm
        have step : ∀ (s' : Ob), (v < 6 ∨ ∃ b, fC s b ∧ v ∈ aLs (fS s) b) → CI s' nb nv → fS s' = aRep (fS s) v (.inr (nc c v)) → fP s' = plR (fP s) v → stay s s' → KT s' nv T → (FG s' nb nv T ∧ nwF g s' ∧ stay g s') ∧ VS (fS s') (fC s') (kc c) (nc c) al := fun s' hpl c1 c2 c3 c4 c5 => by
          obtain ⟨n1, n2, n3⟩ := num_ok h2.1 i4 hv140 hk hpl
          have hCC : fC s' = fC s := fC_congr (c4.2.1 1 (by decide))
          exact ⟨⟨⟨c1, by rw [c2, c3, hCC]; exact rep_G h2 n1, by rw [c2, hCC]; exact EA_rep h3 hv140 _, c5⟩, i2.trans fun a b => by rw [c2]; exact n3 a b, i3.trans c4⟩, by rw [c2, hCC]; exact n2⟩
        by_cases q2 : s.1 1 v = -1
        · rw [if_pos q2]
          by_cases q3 : v < 6
          · rw [if_pos q3]
            obtain ⟨r1, r2, r3, r4, r5, r6⟩ := redirect_low (y := 0) h1 q3 (Or.inl rfl)
            have r2' : fS (Form_redirect s (nI v) (-1) 0) = aRep (fS s) v (.inr (nc c v)) := by
              rw [r2, hlow v q3 hk]
              rfl
            exact ⟨_, rfl, step _ (Or.inl q3) r1 r2' r3 r4 (r6 T h4)⟩
          · rw [if_neg q3]
            exact ⟨s, rfl, ⟨i1, i2, i3⟩, i4⟩
        · rw [if_neg q2]
          have hv6 : 6 ≤ v := Nat.le_of_not_lt fun z => q2 (((h1.2.2.1 v hvn).2.2) z).1
          obtain ⟨b, hb, eb⟩ := ((h1.2.2.1 v hvn).2.1).resolve_left q2
          have hnb := h1.1.2.2.1
          have hm : v ∈ aLs (fS s) b := (fS_ls_mem h1).mpr ⟨by omega, hvn, eb⟩
          have hbC : fC s b := Classical.byContradiction fun z => by
            rw [(h3 b z).1] at hm
            cases hm
          obtain ⟨r1, r2, r3, r4, r5, r6⟩ := replace_CI (x := -1) (y := c.1 1 v) h1 hvn hv6 q2 (Or.inl rfl)
          exact ⟨_, rfl, step _ (Or.inr ⟨b, hbC, hm⟩) r1 r2 r3 r4 (r6 T h4)⟩
      · rw [if_neg q]
        exact ⟨s, rfl, ⟨i1, i2, i3⟩, i4⟩
    · show Constants_replaceNumbers_L2b s c (nI nv) = _
      unfold Constants_replaceNumbers_L2b
      have e2 : s.2.1 2 = nI nv := by rw [hI.1.2.2.2.1 2 (by decide)]; exact hn2
      rw [e2, if_neg (show ¬ nI nv < nI nv from nI_nlt (Nat.le_refl _) (by omega))]
  exact ⟨key.1, key.2.1, key.2.2.ist⟩
theorem constants_spec (hF : FG f nb nv T) (ht : tidy f) (cn : Ob) : passP f (Constants_goOver f cn).1 nb nv T := by
  obtain ⟨c, e, hv, hcf, hc0, hV⟩ := con_known hF ht cn
  have hfC : ∀ b, fC f b → b < nb := fun b hb => hF.1.2.2.2.2.2.2.2 b (by have := hb.1; omega) hb.2
  have hct := cutWays_spec hF hv hcf hV hc0
  rw [e]
  generalize Constants_cutWays f c = g at hct
  obtain ⟨l1, l2, l3, al, l4⟩ := loseBlocks_spec hcf hfC hF.1.1.2.2.1 hct (fC_congr (by rw [hct.1.2.2.1]))
  obtain ⟨r1, r2, r3⟩ := replaceNumbers_spec hv (fun v hv6 hk => by
    by_cases h2 : v < 2
    · have := hV.1.2.1 v h2
      omega
    · exact (hV.1.2.2 v (by omega) hv6).2 hk) l1 l4
  exact ⟨r1, l2.trans r2, l3.trans r3⟩
end CONP2
