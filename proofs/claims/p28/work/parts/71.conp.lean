/-! THE PASS 1, in rows: what it does with what it knows -/
section CONP
variable {f g : Ob} {nb nv T : Nat} {c : Ob}
/-- what stands at an end's only argument -/
theorem end_known (h : CI g nb nv) (hv : cVal c) {b : Nat} {x : Ag} (hb : b < 10) (hx : aAg (fS g) (140 + b) = [x]) : Constants_knownAt g c (oat g 4 150 ((140 : Int32) + nI b)) = nI (kA c x).1 ∧ Constants_numberAt g c (oat g 4 150 ((140 : Int32) + nI b)) = (kA c x).2 := by
  obtain ⟨cc, a, e1, e2, e3, e4, e5, e6⟩ := h.2.1.1 (140 + b) (by omega)
  have hnv := h.1.2.2.2.2.2
  have hfag : aAg (fS g) (140 + b) = fag g (140 + b) := if_pos (by omega)
  rw [hfag] at hx
  have hcc : cc = 1 := by
    have hl : (fag g (140 + b)).length = 1 := by rw [hx]; rfl
    unfold fag at hl
    rw [List.length_map, List.length_range, e1, tn_nI (by omega)] at hl
    exact hl
  have hxa : x = ag1 g a := by
    have : (fag g (140 + b))[0]? = some x := by rw [hx]; rfl
    rw [fag_get e1 e2 e3 e4, if_pos (by omega)] at this
    exact (Option.some.inj this).symm
  rw [ix140u, oat_rs (show 140 + b < 150 by omega) (by decide), e3, hxa]
  exact known_at (f := g) hv (show a < 290 by have := e5 (by omega); omega) ((e6 0 (by omega)).imp id fun ⟨v, q1, q2⟩ => ⟨v, by omega, q2⟩)
/-- ways are cut, as far as block i -/
def ctI (f c : Ob) (nb nv T i : Nat) (g : Ob) : Prop := (CI g nb nv ∧ KT g nv T ∧ g.2 = f.2 ∧ g.1 1 = f.1 1) ∧ nwF f g ∧ EA (fS g) (fC f) ∧ eC (fS g) (fC f) ∧ eK (fS g) (cco c) ∧ (∃ al, cutG (fS g) (fP g) (cco c) (kc c) (nc c) al) ∧ ∀ b x, b < i → cco c b → aEk (fS g) b = 2 → aAg (fS g) (140 + b) = [x] → (kA c x).1 ≠ 1
theorem cutw_step (hv : cVal c) {b : Nat} (hb : b < nb) (h : ctI f c nb nv T b g) : ∃ g', Constants_cutWays_L2b g c (nI b) = .inl (nI (b + 1), g') ∧ ctI f c nb nv T (b + 1) g' := by
  obtain ⟨⟨h1, hK, h2, h21⟩, hn, hEA, heC, heK, ⟨al, hG⟩, hdone⟩ := id h
  have hnb := h1.1.2.2.1
  have hb10 : b < 10 := by omega
  have hB : Constants_cutWays_L2b g c (nI b) = if bt (c.2.1 0) b = true then (if g.1 11 b = 2 then (if (Constants_knownAt g c (oat g 4 150 ((140 : Int32) + nI b))) = 1 then (if 0 < (Constants_numberAt g c (oat g 4 150 ((140 : Int32) + nI b))) then (Constants_cutWays_78 g c (nI b) ((140 : Int32) + nI b) (oat g 4 150 ((140 : Int32) + nI b)) 0 (nI b * 2)) else (Constants_cutWays_78 g c (nI b) ((140 : Int32) + nI b) (oat g 4 150 ((140 : Int32) + nI b)) 1 (nI b * 2))) else .inl (nI (b + 1), g)) else .inl (nI (b + 1), g)) else .inl (nI (b + 1), g) := by
    unfold Constants_cutWays_L2b Constants_cutWays_135
    rw [h1.1.1, if_pos (show nI b < nI nb from nI_lt hb (by omega)), has_nI (by omega), oat_rs hb10 (by decide), nI_1]
  have skip : (∀ x, cco c b → aEk (fS g) b = 2 → aAg (fS g) (140 + b) = [x] → (kA c x).1 ≠ 1) → ctI f c nb nv T (b + 1) g := fun q => ⟨⟨h1, hK, h2, h21⟩, hn, hEA, heC, heK, ⟨al, hG⟩, fun b' x hb' => by
    by_cases z : b' = b
    · rw [z]; exact q x
    · exact hdone b' x (by omega)⟩
  rw [hB]
  by_cases q1 : bt (c.2.1 0) b = true
  · rw [if_pos q1]
    have hbC : cco c b := ⟨hb10, q1⟩
    by_cases q2 : g.1 11 b = 2
    · rw [if_pos q2]
      have hek : aEk (fS g) b = 2 := by show tn (g.1 11 b) = 2; rw [q2]; rfl
      obtain ⟨x, hx⟩ := one_arg ((hG.1.2.2.1.2 b hbC).2 (by omega))
      obtain ⟨k1, k2⟩ := end_known h1 hv hb10 hx
      rw [k1, k2]
      by_cases q3 : nI (kA c x).1 = 1
      · rw [if_pos q3]
        have hk1 : (kA c x).1 = 1 := nI_inj (b := 1) (by have := kA_le hv x; omega) (by omega) q3
        -- the way that is taken
        have main : ∀ j, j = wyN 2 (kA c x).2 → ∃ g', Constants_cutWays_99 g c (nI b) ((140 : Int32) + nI b) (nI (b * 2 + j)) (nI (1 - j)) (nI (b * 2)) = .inl (nI (b + 1), g') ∧ ctI f c nb nv T (b + 1) g' := fun j hj => by
          have hj2 : j < 2 := by rw [hj]; exact wyN_lt _
          unfold Constants_cutWays_99 Constants_cutWays_135
          rw [nI_add, nI_1, show nI b * 2 = nI (b * 2) from ix2_0 b, ix140u, oput_rs hb10 (by decide), oput_rs (show 140 + b < 150 by omega) (by decide)]
          obtain ⟨c1, c2, c3, c4⟩ := dropEdge_CI h1 (show b * 2 + (1 - j) < 20 by omega)
          generalize Form_dropEdge g (nI (b * 2 + (1 - j))) = g2 at c1 c2 c3 c4
          obtain ⟨d1, d2, d3, d4⟩ := changeWay_CI c1 (show b * 2 + j < 20 by omega) (show b * 2 < 20 by omega)
          generalize Form_changeWay g2 (nI (b * 2 + j)) (nI (b * 2)) = g3 at d1 d2 d3 d4
          obtain ⟨k1', k2'⟩ := jump_CI d1 hb10
          have e1 : (rs (rs g3 11 b 1) 3 (140 + b) 0).1 1 = g.1 1 := by
            rw [rs_r _ _ _ _ (show 1 ≠ 3 by decide), rs_r _ _ _ _ (show 1 ≠ 11 by decide), d4 1 (by decide) (by decide), c3 1 (by decide) (by decide) (by decide) (by decide) (by decide) (by decide)]
          have e2 : (rs (rs g3 11 b 1) 3 (140 + b) 0).2 = g.2 := d3.2.trans c4
          generalize rs (rs g3 11 b 1) 3 (140 + b) 0 = g4 at k1' k2' e1 e2
          have hS : fS g4 = aCut (fS g) b j := by rw [k2', d2, c2]; rfl
          have hP : fP g4 = fP g := fP_congr e1 (by rw [e2])
          obtain ⟨z1, z2⟩ := cut_ok hG hbC hek hx hk1 hj
          obtain ⟨f1, f2, f3, f4, f5, ⟨t, ht1, ht2, ht3⟩, f7, f8, f9, fW, fT⟩ := cut_facts hG hbC hek hx hk1 hj
          have f7' : aTg (aCut (fS g) b j) (b * 2 + 1) = none := by
            cases y : aTg (aCut (fS g) b j) (b * 2 + 1) with
            | none => rfl
            | some t' =>
              have hm := fT (b * 2 + 1) t' (by rw [show (b * 2 + 1) / 2 = b by omega]; exact hbC) y
              obtain ⟨w, w1, w2, w3⟩ := (f8 t' (b * 2 + 1)).mp hm
              unfold chN at w3
              by_cases y2 : w = b * 2 + j
              · rw [if_pos y2] at w3; omega
              · rw [if_neg y2] at w3; omega
          refine ⟨g4, rfl, ⟨k1', KT_congr e1 (by rw [e2]) (by rw [e2]) hK, e2.trans h2, e1.trans h21⟩, hn.trans fun a y => by rw [hS]; exact z2 a y, ?_, ?_, ?_, ⟨_, by rw [hS, hP]; exact z1⟩, fun b' x' hb' hc' he hx' => ?_⟩
          · rw [hS]
            intro d hd
            obtain ⟨y1, y2, y3⟩ := hEA d hd
            refine ⟨by rw [f2]; exact y1, List.eq_nil_iff_forall_not_mem.mpr fun w hw => ?_, ?_⟩
            · obtain ⟨y, hy, -⟩ := (f8 d w).mp hw
              rw [y2] at hy
              cases hy
            · by_cases y : d = b
              · rw [y]; exact f5
              · rw [f4 (140 + d) (by omega) fun s hs => by have := (hG.2.1.1 s _ hs).2; omega]
                exact y3
          · rw [hS]
            intro t' w ht' hw
            obtain ⟨y, hy, -, e⟩ := (f8 t' w).mp hw
            have := heC t' y ht' hy
            unfold chN at e
            by_cases y2 : y = b * 2 + j
            · rw [if_pos y2] at e
              rw [e, show b * 2 / 2 = y / 2 by omega]
              exact this
            · rw [if_neg y2] at e
              rw [e]
              exact this
          · rw [hS]
            intro w t' hwC hw
            by_cases y : w / 2 = b
            · rw [y, f3, if_pos rfl]
              rcases show w = b * 2 ∨ w = b * 2 + 1 by omega with y2 | y2
              · omega
              · rw [y2, f7'] at hw; cases hw
            · rw [f7 w y] at hw
              rw [f3, if_neg y]
              exact heK w t' hwC hw
          · rw [hS] at he hx'
            by_cases y : b' = b
            · rw [y, f3, if_pos rfl] at he; cases he
            · rw [f3, if_neg y] at he
              rw [f4 (140 + b') (by omega) fun s hs => by have := (hG.2.1.1 s _ hs).2; omega] at hx'
              exact hdone b' x' (by omega) hc' he hx'
        unfold Constants_cutWays_78
        rw [k2]
        have a0 : nI b * 2 + 0 = nI (b * 2 + 0) := ix2 b 0
        have a1 : nI b * 2 + 1 = nI (b * 2 + 1) := ix2 b 1
        by_cases q4 : 0 < (kA c x).2
        · rw [if_pos q4, if_pos q4, a0, show nI b * 2 = nI (b * 2) from ix2_0 b]
          exact main 0 (by unfold wyN; rw [if_neg fun z => z.2 q4])
        · rw [if_neg q4, if_neg q4, a1, show nI b * 2 = nI (b * 2) from ix2_0 b]
          exact main 1 (by unfold wyN; rw [if_pos ⟨rfl, q4⟩])
      · rw [if_neg q3]
        refine ⟨g, rfl, skip fun y _ _ hy => ?_⟩
        rw [hx] at hy
        rw [← (List.cons.inj hy).1]
        exact fun e => q3 (by rw [e]; rfl)
    · rw [if_neg q2]
      refine ⟨g, rfl, skip fun y _ he _ => absurd ?_ q2⟩
      have he' : tn (g.1 11 b) = 2 := he
      obtain ⟨k, hk2, hk⟩ := h1.2.2.2.2.2.2.1 b hb10
      rw [hk, tn_nI (by omega)] at he'
      rw [hk, he']
      rfl
  · rw [if_neg q1]
    exact ⟨g, rfl, skip fun y hc' => absurd hc'.2 q1⟩
theorem cutWays_spec (hF : FG f nb nv T) (hv : cVal c) (hcf : ∀ b, cco c b → fC f b) (hVS : VS (fS f) (cco c) (kc c) (nc c) (cal c)) (hc0 : cco c 0) : ctI f c nb nv T nb (Constants_cutWays f c) := by
  obtain ⟨h1, h2, h3, h4⟩ := id hF
  have hnb := h1.1.2.2.1
  obtain ⟨hgL, ⟨e1, e2, e3, e4, e5, e6, e7⟩, ⟨n1, n2⟩, ⟨d1, d2, d3⟩⟩ := h2.1
  -- relative to what is come to
  have hE : ∀ a b, aE (fS f) (cco c) a b → aE (fS f) (fC f) a b := fun a b ⟨q1, q2⟩ => ⟨hcf a q1, q2⟩
  have hA : ∀ {b v : Nat} {l : List Nat}, avl (fS f) (fP f) (fC f) b l v → avl (fS f) (fP f) (cco c) b l v := fun {b v l} h => by
    rcases h with h | h | ⟨p, q1, q2, q3⟩
    · exact Or.inl h
    · exact Or.inr (Or.inl h)
    · exact Or.inr (Or.inr ⟨p, q1, q2, fun z => q3 (RW_mono hE z)⟩)
  have hgd : gd (fS f) (fP f) (cco c) := by
    refine ⟨⟨fun b hb => hgL.1 b (hcf b hb), fun b hb => hgL.2.1 b (hcf b hb), hgL.2.2.1, hgL.2.2.2.1, fun b l1 u l2 hb => hgL.2.2.2.2 b l1 u l2 (hcf b hb)⟩, ⟨hc0, fun b hb => ?_, fun b hb => e3 b (hcf b hb), fun b s j hb hs => e4 b s j (hcf b hb) (hcf s hs), fun b w hb hw hwC => e5 b w (hcf b hb) hw (hcf _ hwC), e6, fun b hb => e7 b (hcf b hb)⟩, ⟨fun b u hb => n1 b u (hcf b hb), fun b hb => n2 b (hcf b hb)⟩, ⟨fun b l1 u l2 hb hl h9 v hv' => ?_, fun b v hb hv' => ?_, fun b u w v hb hu h9 hz hwC => ?_⟩⟩
    · exact RW_mono (fun a d ⟨q1, q2, j, q3, q4, q5⟩ => ⟨⟨q1, j, q3, q5⟩, q2⟩) (hVS.2.2.2.2 b hb)
    · obtain ⟨q1, q2⟩ := d1 b l1 u l2 (hcf b hb) hl h9 v hv'
      exact ⟨q1, hA q2⟩
    · obtain ⟨q1, q2⟩ := d2 b v (hcf b hb) hv'
      exact ⟨q1, hA q2⟩
    · obtain ⟨q1, q2⟩ := d3 b u w v (hcf b hb) hu h9 hz (hcf _ hwC)
      exact ⟨q1, hA q2⟩
  have heT : eT (fS f) (cco c) := fun w t hwC ht => by
    have hw := hcf _ hwC
    have hk := h2.2.2.2.2 w t hw ht
    obtain ⟨t', y1, y2⟩ := h2.2.2.1 (w / 2) (w % 2) hw hk
    rw [show w / 2 * 2 + w % 2 = w by omega, ht] at y1
    cases y1
    have := e4 t (w / 2) (w % 2) y2 hw hk (by rw [show w / 2 * 2 + w % 2 = w by omega]; exact ht)
    rw [show w / 2 * 2 + w % 2 = w by omega] at this
    exact this
  unfold Constants_cutWays Constants_cutWays_L2
  refine loop_cnt (B := fun a : Int32 × Ob => Constants_cutWays_L2b a.2 c a.1) (mk := fun i (s : Ob) => (nI i, s)) (n := nb) (I := fun i s => ctI f c nb nv T i s) (P := fun s => ctI f c nb nv T nb s) (fun i s hi hI => cutw_step hv hi hI) (fun s hI => ⟨s, ?_, hI⟩) nb 0 f (by omega) ⟨⟨h1, h4, rfl, rfl⟩, nwF.rf f, h3, h2.2.2.2.1, fun w t hw => h2.2.2.2.2 w t (hcf _ hw), ⟨cal c, hgd, h2.2.1, hVS, heT⟩, fun b x hb => by omega⟩
  show Constants_cutWays_L2b s c (nI nb) = _
  unfold Constants_cutWays_L2b
  rw [hI.1.1.1.1, if_neg (show ¬ nI nb < nI nb from nI_nlt (Nat.le_refl _) (by omega))]
end CONP
