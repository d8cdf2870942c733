section ORDERS
variable {to fl mk0 : Ob} {nb nv : Nat} {r4 : Nat → Int32}
theorem reach_bit (hR : fR fl) {b : Nat} (hb : b < 32) : bt (fl.2.1 0) b = true ↔ RW (fE fl) none b := hR.1.2.1 b hb
theorem reach_nb (hT : tGood to fl nb) {b : Nat} (hb : RW (fE fl) none b) : b < nb := RW_ind (E := fE fl) (o := none) (P := fun b => b < nb) (fun _ => by have := hT.1.2.1; omega) (fun a c _ _ he _ _ => tTg_lt hT.1.ways a ((hT.2.2.2.2 a c).mp he).1 c ((hT.2.2.2.2 a c).mp he).2) hb
theorem dnB_s {p b : Nat} : dnB fl (p + 1) b ↔ dnB fl p b ∨ fl.1 3 p = nI b := by
  unfold dnB
  constructor
  · rintro ⟨j, hj, e⟩
    by_cases q : j = p
    · rw [q] at e; exact Or.inr e
    · exact Or.inl ⟨j, by omega, e⟩
  · rintro (⟨j, hj, e⟩ | e)
    · exact ⟨j, by omega, e⟩
    · exact ⟨p, by omega, e⟩
theorem ord_step {p : Nat} {g0 ma mk : Ob} (hT : tGood to fl nb) (hok : tOk to nb) (h8 : ∀ b, nl to b ≤ 8) (hp0 : pX mk0 0 = []) (hbits : ∀ b i, b < 10 → 6 ≤ i → i < 32 → bt (mk0.1 2 b) i = false) (hnv : nv = bsM to fl mk0 nb) (hP : P1 to fl mk0 nb r4 nb g0) (hp : p < 10) (h : mkI to fl mk0 (idF fl) nv g0 p ma mk) : ∃ ma' mk', Maker_make_L63b to fl ma mk (nI p) = .inl (nI (p + 1), ma', mk') ∧ mkI to fl mk0 (idF fl) nv g0 (p + 1) ma' mk' := by
  obtain ⟨F, gv, h1, h2, h3, h4, h5, h6, h7⟩ := h
  have hR := hT.2.2.2.1
  have hnb := hT.1.2.2.1
  have hbs := bsM_le (fl := fl) h8 hp0 nb
  rw [if_neg (by have := hT.1.2.1; omega)] at hbs
  have hn6 : 6 ≤ bsM to fl mk0 nb := bsM_mono (to := to) (fl := fl) (mk := mk0) (Nat.zero_le nb)
  have hB : Maker_make_L63b to fl ma mk (nI p) = if fl.1 3 p = -1 then .inl (nI (p + 1), ma, mk) else .inl (nI (p + 1), (Maker_followLines to ma (Maker_holdAtBeginning fl ma mk (fl.1 3 p)) (fl.1 3 p)).1, (Maker_followLines to ma (Maker_holdAtBeginning fl ma mk (fl.1 3 p)) (fl.1 3 p)).2) := by
    unfold Maker_make_L63b Maker_make_104
    rw [if_pos (lt10 hp), oat_rs hp (by decide), nI_1]
  rw [hB]
  rcases hR.2.1.1 p hp with e | ⟨b, hb10, hbr, e, hdoms⟩
  · rw [if_pos e]
    have hs : ∀ b, b < 10 → (dnB fl (p + 1) b ↔ dnB fl p b) := fun b hb => by
      rw [dnB_s]
      exact ⟨fun q => q.elim id fun q => absurd (q.symm.trans e) (nI_m1 (by omega)), Or.inl⟩
    exact ⟨ma, mk, rfl, F, gv, h1, h2, by omega, h4, h5, fun b hb hd => h6 b hb ((hs b hb).mp hd), fun u hu q => h7 u hu fun b hb hd => q b hb ((hs b hb).mpr hd)⟩
  · rw [if_neg (by rw [e]; exact nI_m1 (by omega)), e]
    have hbn := reach_nb hT hbr
    have hbit : bt (fl.2.1 0) b = true := (reach_bit hR (by omega)).mpr hbr
    obtain ⟨⟨l, hl8, hl, hlo⟩, ek, he2, he, hope, -⟩ := hok.2.2 b hbn
    have hnl : nl to b = l := by unfold nl; rw [hl, tn_nI (by omega)]
    have hek : tEk to b = ek := by unfold tEk; rw [he, tn_nI (by omega)]
    have hdn : ¬ dnB fl p b := fun ⟨j, hj, ej⟩ => hR.2.1.2 j p b hj hp hb10 ej e
    have hVD : VD ma b (bsM to fl mk0 b) (dsc to mk0 b) := by
      have z := h1.1
      refine VD_congr (by rw [z 7 (by decide) (by decide) (by decide) (by decide)]) (fun i _ => by rw [z 8 (by decide) (by decide) (by decide) (by decide)]) (fun v _ _ => by rw [z 0 (by decide) (by decide) (by decide) (by decide), z 1 (by decide) (by decide) (by decide) (by decide), z 2 (by decide) (by decide) (by decide) (by decide)]; exact ⟨rfl, rfl, rfl⟩) (hP.2.2.1 b hbn hbit)
    have hbsb : bsM to fl mk0 b + (dsc to mk0 b).length ≤ nv := by
      have := bsM_mono (to := to) (fl := fl) (mk := mk0) (a := b + 1) (b := nb) hbn
      have e1 : bsM to fl mk0 (b + 1) = bsM to fl mk0 b + (dsc to mk0 b).length := by
        show bsM to fl mk0 b + _ = _
        rw [if_pos hbit]
      omega
    have hidm : b ≠ 0 → dnB fl p (idF fl b) ∧ idF fl b ≠ b ∧ idF fl b < 10 ∧ Flow_nearestDominator fl (nI b) = nI (idF fl b) := fun hb0 => by
      obtain ⟨o1, o2⟩ := idF_ok hR
      obtain ⟨q1, q2, -⟩ := o1 b hbr hb0
      obtain ⟨q3, q4⟩ := o2 b hbr hb0
      obtain ⟨i, hi, ei⟩ := hdoms _ q1 q2
      exact ⟨⟨i, hi, ei⟩, q2, q4, q3⟩
    have hlk : ∀ k, k < nl to b → lk to b k < 9 := fun k hk => by
      obtain ⟨kk, hkk, ekk, -⟩ := hlo k (by omega)
      unfold lk
      rw [ekk, tn_nI (by omega)]
      exact hkk
    obtain ⟨a1, a2, a3⟩ := holdAt_spec (fl := fl) (mk0 := mk0) (idm := idF fl) (nv := nv) hb10 h4 hVD hbsb (by omega) (by omega) hlk (by
      by_cases hb0 : b = 0
      · rw [if_pos hb0, hb0]; exact near_0 hR
      · rw [if_neg hb0]
        obtain ⟨q1, q2, q3, q4⟩ := hidm hb0
        exact ⟨q4, q3, q2, (h6 _ q3 q1).1⟩)
    generalize Maker_holdAtBeginning fl ma mk (nI b) = mkh at a1 a2 a3
    have hcong : ∀ (m m' : Ob), outB b m m' → b = 0 ∨ ∀ x, x < 6 → hdA m (idF fl b) x = hdA m' (idF fl b) x := fun m m' ho => by
      by_cases hb0 : b = 0
      · exact Or.inl hb0
      · exact Or.inr fun x hx => (ho.hd (hidm hb0).2.1 hx).symm
    have hops : ∀ k, k < nl to b → opOk (to.1 3 (b * 8 + k)) ∧ opOk (to.1 4 (b * 8 + k)) := fun k hk => by
      obtain ⟨kk, -, -, -, q1, q2⟩ := hlo k (by omega)
      exact ⟨q1, q2⟩
    have hnotdone : ∀ c, c < 10 → dnB fl p c → c ≠ b ∧ bt (fl.2.1 0) c = true := fun c hc hd => by
      refine ⟨fun q => hdn (by rw [← q]; exact hd), ?_⟩
      obtain ⟨j, hj, ej⟩ := hd
      rcases hR.2.1.1 j (by omega) with y | ⟨c', hc', hr', ec', -⟩
      · rw [ej] at y; exact absurd y (nI_m1 (by omega))
      · have : c = c' := nI_inj (by omega) (by omega) (ej.symm.trans ec')
        rw [this]
        exact (reach_bit hR (by omega)).mpr hr'
    have hFl : ∀ j, j < nl to b → lk to b j ≠ 0 → F (lnN to fl mk0 b j) = [] := fun j hj hj0 => by
      have hrg := ln_range (fl := fl) (mk0 := mk0) hj hj0
      refine h7 _ (by omega) fun c hc hd => ⟨by omega, fun i hi hi0 q => ?_⟩
      have hrc := ln_range (fl := fl) (mk0 := mk0) hi hi0
      rw [← q] at hrc
      exact range_ne (hnotdone c hc hd).1.symm hbit (hnotdone c hc hd).2 hrg hrc
    have hFe : F (140 + b) = [] := h7 _ (by omega) fun c hc hd => ⟨fun q => (hnotdone c hc hd).1 (by omega), fun i hi hi0 q => by
      have hrc := ln_range (fl := fl) (mk0 := mk0) hi hi0
      have hcn : c < nb := reach_nb hT ((reach_bit hR (by omega)).mp (hnotdone c hc hd).2)
      have := bsM_mono (to := to) (fl := fl) (mk := mk0) (a := c + 1) (b := nb) hcn
      have e1 : bsM to fl mk0 (c + 1) = bsM to fl mk0 c + (dsc to mk0 c).length := by
        show bsM to fl mk0 c + _ = _
        rw [if_pos (hnotdone c hc hd).2]
      omega⟩
    obtain ⟨F', gv', f1, f2, f3, f4, f5, f6, f7, f8, f9⟩ := follow_spec (to := to) (fl := fl) (mk0 := mk0) (ma := ma) (mk := mkh) (idm := idF fl) hb10 (by rw [hnl]; exact hl) (h8 b) (fun k hk => hlo k (by omega)) (by rw [hek]; exact he) (by omega) hope (by rw [a1.2.1]; exact h4) (fun i hi hi2 => hbits b i hb10 hi hi2) hVD hbsb (by omega) (by omega) h2 a2 hFl hFe (fun x hx => by
      rw [a3 x hx]
      exact hLf_congr (hcong mk mkh a1) (fun k hk => (hops k hk).1) 0 (Nat.zero_le _) x hx)
    generalize Maker_followLines to ma mkh (nI b) = r at f1 f2 f3 f4 f5 f6 f7 f8 f9
    obtain ⟨ma', mk'⟩ := r
    dsimp only at f1 f2 f3 f4 f5 f6 f7 f8 f9 ⊢
    have oo := a1.trans f4
    refine ⟨ma', mk', rfl, F', gv', h1.trans f1, f2, by omega, by rw [oo.2.1]; exact h4, by rw [oo.2.2]; exact h5, fun c hc hd => ?_, fun u hu hq => ?_⟩
    · by_cases hcb : c = b
      · rw [hcb]
        obtain ⟨y1, y2⟩ := argsL_congr (to := to) (fl := fl) (mk0 := mk0) (hcong mkh mk' f4) hops hope
        refine ⟨f5, fun x hx => ?_, fun j hj hj0 => ?_, ?_⟩
        · rw [f6 x hx]
          exact hLf_congr (hcong mkh mk' f4) (fun k hk => (hops k hk).1) _ (Nat.le_refl _) x hx
        · rw [f7 j hj hj0]; exact y1 j hj
        · rw [f8]; exact y2
      · have hdc : dnB fl p c := (dnB_s.mp hd).resolve_right fun q => hcb (nI_inj (by omega) (by omega) (q.symm.trans e))
        obtain ⟨q1, q2, q3, q4⟩ := h6 c hc hdc
        have hcr := (reach_bit hR (show c < 32 by omega)).mp (hnotdone c hc hdc).2
        have hcn := reach_nb hT hcr
        obtain ⟨⟨lc, hlc8, hlc, hloc⟩, ekc, hec2, hec, hopc, -⟩ := hok.2.2 c hcn
        have hnlc : nl to c = lc := by unfold nl; rw [hlc, tn_nI (by omega)]
        have hopsc : ∀ k, k < nl to c → opOk (to.1 3 (c * 8 + k)) ∧ opOk (to.1 4 (c * 8 + k)) := fun k hk => by
          obtain ⟨kk, -, -, -, y1, y2⟩ := hloc k (by omega)
          exact ⟨y1, y2⟩
        have hcc : c = 0 ∨ ∀ x, x < 6 → hdA mk (idF fl c) x = hdA mk' (idF fl c) x := by
          by_cases hc0 : c = 0
          · exact Or.inl hc0
          · obtain ⟨z1, z2, -⟩ := (idF_ok hR).1 c hcr hc0
            have hib : idF fl c ≠ b := fun q => by
              obtain ⟨j, hj, ej⟩ := hdc
              rcases hR.2.1.1 j (by omega) with y | ⟨c', hc', -, ec', hd'⟩
              · rw [ej] at y; exact nI_m1 (a := c) (by omega) y
              · have : c = c' := nI_inj (by omega) (by omega) (ej.symm.trans ec')
                subst this
                obtain ⟨i, hi, ei⟩ := hd' _ z1 z2
                exact hdn ⟨i, by omega, by rw [ei, q]⟩
            exact Or.inr fun x hx => (oo.hd hib hx).symm
        obtain ⟨y1, y2⟩ := argsL_congr (to := to) (fl := fl) (mk0 := mk0) (idm := idF fl) hcc hopsc hopc
        refine ⟨oo.ok hcb q1, fun x hx => ?_, fun j hj hj0 => ?_, ?_⟩
        · rw [oo.hd hcb hx, q2 x hx]
          exact hLf_congr hcc (fun k hk => (hopsc k hk).1) _ (Nat.le_refl _) x hx
        · have hrc := ln_range (fl := fl) (mk0 := mk0) hj hj0
          have hcs := bsM_mono (to := to) (fl := fl) (mk := mk0) (a := c + 1) (b := nb) hcn
          have e1 : bsM to fl mk0 (c + 1) = bsM to fl mk0 c + (dsc to mk0 c).length := by
            show bsM to fl mk0 c + _ = _
            rw [if_pos (hnotdone c hc hdc).2]
          rw [f9 _ (by omega) fun i hi hi0 q => ?_, q3 j hj hj0]
          · exact y1 j hj
          · have hrb := ln_range (fl := fl) (mk0 := mk0) hi hi0
            rw [← q] at hrb
            exact range_ne (fun z => hcb z.symm) hbit (hnotdone c hc hdc).2 hrb hrc
        · rw [f9 (140 + c) (by omega) fun i hi hi0 q => by
            have hrb := ln_range (fl := fl) (mk0 := mk0) hi hi0
            omega, q4]
          exact y2
    · rw [f9 u (hq b hb10 (dnB_s.mpr (Or.inr e))).1 (hq b hb10 (dnB_s.mpr (Or.inr e))).2]
      exact h7 u hu fun c hc hd => hq c hc (dnB_s.mpr (Or.inl hd))
theorem ord_all {g0 : Ob} (hT : tGood to fl nb) (hok : tOk to nb) (h8 : ∀ b, nl to b ≤ 8) (hp0 : pX mk0 0 = []) (hbits : ∀ b i, b < 10 → 6 ≤ i → i < 32 → bt (mk0.1 2 b) i = false) (hnv : nv = bsM to fl mk0 nb) (hP : P1 to fl mk0 nb r4 nb g0) (h4 : ∀ u, u < 150 → ∃ a, a < 291 ∧ r4 u = nI a) : ∃ ma mk, Maker_make_L63 to fl g0 mk0 0 = (Maker_givePhisTheirs ma mk, mk) ∧ mkI to fl mk0 (idF fl) nv g0 10 ma mk := by
  unfold Maker_make_L63
  refine loop_cnt (B := fun a : Int32 × Ob × Ob => Maker_make_L63b to fl a.2.1 a.2.2 a.1) (mk := fun i (s : Ob × Ob) => (nI i, s.1, s.2)) (n := 10) (I := fun p s => mkI to fl mk0 (idF fl) nv g0 p s.1 s.2) (P := fun r => ∃ ma mk, r = (Maker_givePhisTheirs ma mk, mk) ∧ mkI to fl mk0 (idF fl) nv g0 10 ma mk) (fun p s hp hI => ?_) (fun s hI => ⟨_, ?_, s.1, s.2, rfl, hI⟩) 10 0 (g0, mk0) rfl ⟨fun _ => [], 0, ast.rf g0, ⟨?_, fun u hu => ?_, fun u u' i hu hu' q1 q2 => ?_⟩, by omega, rfl, rfl, fun b hb ⟨j, hj, _⟩ => by omega, fun _ _ _ => rfl⟩
  · obtain ⟨ma', mk', e1, e2⟩ := ord_step hT hok h8 hp0 hbits hnv hP hp hI
    exact ⟨(ma', mk'), e1, e2⟩
  · show Maker_make_L63b to fl s.1 s.2 (nI 10) = _
    unfold Maker_make_L63b
    rw [if_neg nlt10]
  · rw [hP.1.2.2.2.1]; rfl
  · obtain ⟨a, ha, ea⟩ := h4 u hu
    exact ⟨a, ha, by rw [hP.2.1.2]; exact ea, by rw [hP.2.1.1]; rfl, (show (0 : Nat) < 291 by decide), fun q => absurd rfl q, fun i x hx => by cases hx⟩
  · unfold inSeg at q1
    rw [hP.2.1.1] at q1
    have : tn 0 = 0 := by decide
    omega
end ORDERS
