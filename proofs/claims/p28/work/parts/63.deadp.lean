/-! THE PASS 3, in rows -/
def dV (d : Ob) : Prop := ∀ v, v < 140 → d.1 0 v = 0 ∨ d.1 0 v = 1
def cD (d : Ob) : Nat := ((List.range 140).filter fun v => decide (d.1 0 v = 1)).length
def dR (d d' : Ob) : Prop := dV d' ∧ (∀ v, v < 140 → d.1 0 v = 1 → d'.1 0 v = 1) ∧ ((∀ v, v < 140 → d'.1 0 v = d.1 0 v) ∧ d'.2.2 0 = d.2.2 0 ∨ cD d < cD d' ∧ d'.2.2 0 = true)
theorem cD_congr {d d' : Ob} (h : ∀ v, v < 140 → d'.1 0 v = d.1 0 v) : cD d' = cD d := by
  unfold cD
  congr 1
  exact List.filter_congr fun v hv => by rw [h v (List.mem_range.mp hv)]
theorem cD_le (d : Ob) : cD d ≤ 140 := by
  unfold cD
  refine Nat.le_trans (List.length_filter_le _ _) ?_
  rw [List.length_range]
  exact Nat.le_refl _
theorem dR.rf {d : Ob} (h : dV d) : dR d d := ⟨h, fun _ _ q => q, Or.inl ⟨fun _ _ => rfl, rfl⟩⟩
theorem dR.trans {a b c : Ob} (h1 : dR a b) (h2 : dR b c) : dR a c := by
  refine ⟨h2.1, fun v hv q => h2.2.1 v hv (h1.2.1 v hv q), ?_⟩
  rcases h1.2.2 with ⟨a1, a2⟩ | ⟨a1, a2⟩
  · rcases h2.2.2 with ⟨b1, b2⟩ | ⟨b1, b2⟩
    · exact Or.inl ⟨fun v hv => (b1 v hv).trans (a1 v hv), b2.trans a2⟩
    · exact Or.inr ⟨by rw [← cD_congr a1]; exact b1, b2⟩
  · rcases h2.2.2 with ⟨b1, b2⟩ | ⟨b1, b2⟩
    · exact Or.inr ⟨by rw [cD_congr b1]; exact a1, b2.trans a2⟩
    · exact Or.inr ⟨Nat.lt_trans a1 b1, b2⟩
theorem cD_put {d : Ob} {w : Nat} (hw : w < 140) (h0 : d.1 0 w = 0) {d' : Ob} (h : ∀ v, d'.1 0 v = if v = w then 1 else d.1 0 v) : cD d < cD d' := by
  have h1 := len_filter_one (p := fun v => decide (d'.1 0 v = 1)) (v := w) (List.range 140) List.nodup_range (List.mem_range.mpr hw) (by
    show decide (d'.1 0 w = 1) = true
    rw [h, if_pos rfl]; rfl)
  have h2 : ((List.range 140).filter fun v => decide (d'.1 0 v = 1) && !decide (v = w)) = (List.range 140).filter fun v => decide (d.1 0 v = 1) := by
    refine List.filter_congr fun v _ => ?_
    rw [h]
    by_cases q : v = w
    · rw [if_pos q, q, h0]; simp
    · rw [if_neg q, decide_eq_false q]; simp
  rw [h2] at h1
  unfold cD
  omega
section DEADP
variable {f : Ob} {nb nv T : Nat}
theorem needArguments_spec (h : CI f nb nv) {u : Nat} (hu : u < 150) {d : Ob} (hd : dV d) : dR d (Dead_needArguments f d (nI u)) ∧ ∀ w, Sum.inl w ∈ aAg (fS f) u → (Dead_needArguments f d (nI u)).1 0 w = 1 := by
  obtain ⟨c, a, e1, e2, e3, e4, e5, e6⟩ := h.2.1.1 u hu
  have hnv := h.1.2.2.2.2.2
  have key : (fun g => dR d g ∧ ∀ j, j < c → ∀ w, w < nv → f.1 5 (a + j) = nI w → g.1 0 w = 1) (Dead_needArguments f d (nI u)) := by
    unfold Dead_needArguments Dead_needArguments_L2
    refine loop_cnt (B := fun q : Int32 × Ob => Dead_needArguments_L2b f q.2 (nI u) q.1) (mk := fun i (s : Ob) => (nI i, s)) (n := c) (I := fun k s => dR d s ∧ ∀ j, j < k → ∀ w, w < nv → f.1 5 (a + j) = nI w → s.1 0 w = 1)
      (P := fun g => dR d g ∧ ∀ j, j < c → ∀ w, w < nv → f.1 5 (a + j) = nI w → g.1 0 w = 1) (fun k s hk hI => ?_) (fun s hI => ⟨s, ?_, hI⟩) c 0 d (by omega) ⟨dR.rf hd, fun j hj => by omega⟩
    · obtain ⟨i1, i2⟩ := hI
      have hvo : Form_valueOf f (nI u) (nI k) = f.1 5 (a + k) := by
        rw [valueOf_eq hu (by omega) e1 e2 e3 (fun _ => by have := e5 (by omega); omega), if_pos hk]
      have hB : Dead_needArguments_L2b f s (nI u) (nI k) = if f.1 5 (a + k) = -1 then .inl (nI (k + 1), s) else if oat s 0 140 (f.1 5 (a + k)) = 0 then .inl (nI (k + 1), oB (oput s 0 140 (f.1 5 (a + k)) 1) 0 true) else .inl (nI (k + 1), s) := by
        unfold Dead_needArguments_L2b Dead_needArguments_55
        rw [oat_rs hu (by decide), e1, if_pos (show nI k < nI c from nI_lt hk (by omega)), hvo, nI_1]
      dsimp only
      rw [hB]
      have same : (∀ w, w < nv → f.1 5 (a + k) = nI w → s.1 0 w = 1) → ∀ j, j < k + 1 → ∀ w, w < nv → f.1 5 (a + j) = nI w → s.1 0 w = 1 := fun q j hj w hw e => by
        by_cases hjk : j = k
        · rw [hjk] at e; exact q w hw e
        · exact i2 j (by omega) w hw e
      rcases e6 k hk with e | ⟨v, hv, e⟩
      · rw [e, if_pos rfl]
        refine ⟨s, rfl, i1, same fun w hw e' => ?_⟩
        rw [e] at e'
        exact absurd e'.symm (nI_m1 (by omega))
      · rw [e, if_neg (nI_m1 (by omega)), oat_rs (show v < 140 by omega) (by decide), oput_rs (show v < 140 by omega) (by decide)]
        by_cases h0 : s.1 0 v = 0
        · rw [if_pos h0]
          have hr : ∀ x, (oB (rs s 0 v 1) 0 true).1 0 x = if x = v then 1 else s.1 0 x := fun x => by rw [oB_1, rs_i]
          refine ⟨_, rfl, i1.trans ⟨fun x hx => ?_, fun x hx q => ?_, Or.inr ⟨cD_put (by omega) h0 hr, ?_⟩⟩, fun j hj w hw e' => ?_⟩
          · rw [hr]
            by_cases q : x = v
            · rw [if_pos q]; exact Or.inr rfl
            · rw [if_neg q]; exact i1.1 x hx
          · rw [hr]
            by_cases z : x = v
            · rw [if_pos z]
            · rw [if_neg z]; exact q
          · rw [oB_b, if_pos rfl]
          · rw [hr]
            by_cases z : w = v
            · rw [if_pos z]
            · rw [if_neg z]
              by_cases hjk : j = k
              · rw [hjk, e] at e'
                exact absurd (nI_inj (by omega) (by omega) e').symm z
              · exact i2 j (by omega) w hw e'
        · rw [if_neg h0]
          refine ⟨s, rfl, i1, same fun w hw e' => ?_⟩
          have : v = w := nI_inj (by omega) (by omega) (e.symm.trans e')
          rw [← this]
          exact (i1.1 v (by omega)).resolve_left h0
    · show Dead_needArguments_L2b f s (nI u) (nI c) = _
      unfold Dead_needArguments_L2b
      rw [oat_rs hu (by decide), e1, if_neg (show ¬ nI c < nI c from nI_nlt (Nat.le_refl _) (by omega))]
  refine ⟨key.1, fun w hw => ?_⟩
  have hw' : Sum.inl w ∈ fag f u := by
    have : aAg (fS f) u = fag f u := if_pos hu
    rw [← this]; exact hw
  obtain ⟨j, hj⟩ := List.getElem?_of_mem hw'
  rw [fag_get e1 e2 e3 e4] at hj
  by_cases q : j < c
  · rw [if_pos q] at hj
    have hag := Option.some.inj hj
    unfold ag1 at hag
    rcases e6 j q with e | ⟨v, hv, e⟩
    · rw [e, if_pos rfl] at hag; cases hag
    · rw [e, if_neg (nI_m1 (by omega)), tn_nI (by omega)] at hag
      have := Sum.inl.inj hag
      subst this
      exact key.2 j q v hv e
  · rw [if_neg q] at hj; cases hj
def dB (f : Ob) (nb nv : Nat) (d : Ob) : Prop := (∀ v, 6 ≤ v → v < nv → f.1 1 v ≠ -1 → Dead_isNeededBySelf f (nI v) = true → d.1 0 v = 1) ∧ ∀ b, b < nb → ∀ w, Sum.inl w ∈ aAg (fS f) (140 + b) → d.1 0 w = 1
def dC (f : Ob) (nv : Nat) (d : Ob) : Prop := ∀ v, 6 ≤ v → v < nv → d.1 0 v = 1 → ∀ w, Sum.inl w ∈ aAg (fS f) v → d.1 0 w = 1
theorem ag_lt (h : CI f nb nv) {u w : Nat} (hw : Sum.inl w ∈ aAg (fS f) u) : w < nv := by
  by_cases hu : u < 150
  · obtain ⟨c, a, e1, e2, e3, e4, e5, e6⟩ := h.2.1.1 u hu
    have hnv := h.1.2.2.2.2.2
    have hw' : Sum.inl w ∈ fag f u := by
      have : aAg (fS f) u = fag f u := if_pos hu
      rw [← this]; exact hw
    obtain ⟨j, hj⟩ := List.getElem?_of_mem hw'
    rw [fag_get e1 e2 e3 e4] at hj
    by_cases q : j < c
    · rw [if_pos q] at hj
      have hag := Option.some.inj hj
      unfold ag1 at hag
      rcases e6 j q with e | ⟨v, hv, e⟩
      · rw [e, if_pos rfl] at hag; cases hag
      · rw [e, if_neg (nI_m1 (by omega)), tn_nI (by omega)] at hag
        rw [← Sum.inl.inj hag]
        exact hv
    · rw [if_neg q] at hj; cases hj
  · have : aAg (fS f) u = [] := if_neg hu
    rw [this] at hw
    cases hw
theorem dB.mono (h : CI f nb nv) {d d' : Ob} (hb : dB f nb nv d) (hr : ∀ v, v < 140 → d.1 0 v = 1 → d'.1 0 v = 1) : dB f nb nv d' := by
  have hnv := h.1.2.2.2.2.2
  exact ⟨fun v h6 hv hp hn => hr v (by omega) (hb.1 v h6 hv hp hn), fun b hb' w hw => hr w (by have := ag_lt h hw; omega) (hb.2 b hb' w hw)⟩
def deadR (f : Ob) (nb nv : Nat) (r : Ob × Ob) : Prop := ∃ d, r = (Dead_loseOthers f d, d) ∧ dV d ∧ dB f nb nv d ∧ dC f nv d
/-- the rounds -/
theorem dead_rounds (h : CI f nb nv) : ∀ d : Ob, dV d → dB f nb nv d → d.2.2 0 = true → deadR f nb nv (Dead_goOver_L87 f d 0) := by
  intro d hd hb hfl
  obtain ⟨hI, -⟩ := id h
  have hnv := hI.2.2.2.2.2
  unfold Dead_goOver_L87
  refine loop_brk (B := fun a : Int32 × Ob => Dead_goOver_L87b f a.2 a.1) (mk := fun i (s : Ob) => (nI i, s)) (n := 141) (I := fun k s => dV s ∧ dB f nb nv s ∧ ((s.2.2 0 = true ∧ k ≤ cD s) ∨ (s.2.2 0 = false ∧ dC f nv s))) (P := deadR f nb nv) (fun k s hk hI2 => ?_) (fun s hI2 => ?_) 141 0 d rfl ⟨hd, hb, Or.inl ⟨hfl, Nat.zero_le _⟩⟩
  · obtain ⟨i1, i2, i3⟩ := hI2
    rcases i3 with ⟨i3, i4⟩ | ⟨i3, i4⟩
    · left
      have hB : Dead_goOver_L87b f s (nI k) = Dead_goOver_L109 f (oB s 0 false) (nI k) 6 := by
        unfold Dead_goOver_L87b
        rw [if_pos i3, if_neg (show ¬ (140 : Int32) < nI k from nI_nlt (a := 140) (b := k) (by omega) (by decide))]
      dsimp only
      rw [hB]
      have hd0 : dV (oB s 0 false) := fun v hv => by rw [oB_1]; exact i1 v hv
      have hf0 : (oB s 0 false).2.2 0 = false := by rw [oB_b, if_pos rfl]
      generalize hz : oB s 0 false = d0 at hd0 hf0
      have hsd : ∀ v, d0.1 0 v = s.1 0 v := fun v => by rw [← hz, oB_1]
      unfold Dead_goOver_L109
      refine loop_cnt (B := fun a : Int32 × Ob => Dead_goOver_L109b f a.2 (nI k) a.1) (mk := fun i (s : Ob) => (nI (6 + i), s)) (n := nv - 6) (I := fun i x => dR d0 x ∧ ∀ v, 6 ≤ v → v < 6 + i → d0.1 0 v = 1 → ∀ w, Sum.inl w ∈ aAg (fS f) v → x.1 0 w = 1)
        (P := fun r => ∃ s', r = .inl (nI (k + 1), s') ∧ dV s' ∧ dB f nb nv s' ∧ ((s'.2.2 0 = true ∧ k + 1 ≤ cD s') ∨ (s'.2.2 0 = false ∧ dC f nv s'))) (fun i x hi hx => ?_) (fun x hx => ?_) (nv - 6) 0 d0 (by omega) ⟨dR.rf hd0, fun v h1 h2 => by omega⟩
      · obtain ⟨x1, x2⟩ := hx
        have hlt : 6 + i < nv := by omega
        have hB2 : Dead_goOver_L109b f x (nI k) (nI (6 + i)) = if x.1 0 (6 + i) = 1 then .inl (nI (6 + i + 1), Dead_needArguments f x (nI (6 + i))) else .inl (nI (6 + i + 1), x) := by
          unfold Dead_goOver_L109b Dead_goOver_135
          rw [hI.2.2.2.1, if_pos (show nI (6 + i) < nI nv from nI_lt hlt (by omega)), oat_rs (show 6 + i < 140 by omega) (by decide), nI_1]
        dsimp only
        rw [hB2]
        by_cases q : x.1 0 (6 + i) = 1
        · rw [if_pos q]
          obtain ⟨y1, y2⟩ := needArguments_spec h (show 6 + i < 150 by omega) x1.1
          refine ⟨_, rfl, x1.trans y1, fun v h1 h2 h3 w hw => ?_⟩
          by_cases z : v = 6 + i
          · rw [z] at hw; exact y2 w hw
          · exact y1.2.1 w (by have := ag_lt h hw; omega) (x2 v h1 (by omega) h3 w hw)
        · rw [if_neg q]
          refine ⟨_, rfl, x1, fun v h1 h2 h3 w hw => ?_⟩
          by_cases z : v = 6 + i
          · rw [z] at h3
            exact absurd (x1.2.1 _ (by omega) h3) q
          · exact x2 v h1 (by omega) h3 w hw
      · obtain ⟨x1, x2⟩ := hx
        refine ⟨.inl (nI (k + 1), x), ?_, x, rfl, x1.1, ?_, ?_⟩
        · show Dead_goOver_L109b f x (nI k) (nI (6 + (nv - 6))) = _
          unfold Dead_goOver_L109b
          rw [hI.2.2.2.1, if_neg (show ¬ nI (6 + (nv - 6)) < nI nv from nI_nlt (by omega) (by omega)), nI_1]
        · exact i2.mono h fun v hv q => x1.2.1 v hv (by rw [hsd]; exact q)
        · rcases x1.2.2 with ⟨y1, y2⟩ | ⟨y1, y2⟩
          · refine Or.inr ⟨y2.trans hf0, fun v h1 h2 h3 w hw => x2 v h1 (by omega) (by rw [← y1 v (by omega)]; exact h3) w hw⟩
          · refine Or.inl ⟨y2, ?_⟩
            have : cD d0 = cD s := cD_congr fun v _ => hsd v
            omega
    · right
      refine ⟨Dead_goOver_147 f s, ?_, s, rfl, i1, i2, i4⟩
      show Dead_goOver_L87b f s (nI k) = _
      unfold Dead_goOver_L87b
      rw [if_neg (by rw [i3]; decide)]
  · obtain ⟨i1, i2, i3⟩ := hI2
    rcases i3 with ⟨i3, i4⟩ | ⟨i3, i4⟩
    · have := cD_le s
      omega
    · refine ⟨Dead_goOver_147 f s, ?_, s, rfl, i1, i2, i4⟩
      show Dead_goOver_L87b f s (nI 141) = _
      unfold Dead_goOver_L87b
      rw [if_neg (by rw [i3]; decide)]
theorem selfN (h : CI f nb nv) {v : Nat} (hv : v < nv) (hn : Dead_isNeededBySelf f (nI v) = false) : f.1 0 v ≠ 7 ∧ f.1 0 v ≠ 8 ∧ (f.1 0 v = 4 → ∃ n : Int32, n ≠ 0 ∧ Form_valueOf f (nI v) 1 = -1 ∧ Form_numberOf f (nI v) 1 = n) := by
  have hnv := h.1.2.2.2.2.2
  have main : ∀ w0 : Int32, Dead_isNeededBySelf_38 f (f.1 0 v) w0 = false → f.1 0 v ≠ 7 ∧ f.1 0 v ≠ 8 ∧ w0 = 0 := fun w0 q => by
    unfold Dead_isNeededBySelf_38 Dead_isNeededBySelf_55 at q
    by_cases h7 : f.1 0 v = 7
    · rw [if_pos h7] at q; cases q
    · rw [if_neg h7] at q
      by_cases h8 : f.1 0 v = 8
      · rw [if_pos h8] at q; cases q
      · rw [if_neg h8] at q
        by_cases h0 : w0 = 0
        · exact ⟨h7, h8, h0⟩
        · rw [if_neg h0] at q; cases q
  unfold Dead_isNeededBySelf Dead_isNeededBySelf_33 Dead_isNeededBySelf_37 at hn
  rw [oat_rs (show v < 140 by omega) (by decide)] at hn
  by_cases h4 : f.1 0 v = 4
  · rw [if_pos h4] at hn
    by_cases hva : Form_valueOf f (nI v) 1 = -1
    · rw [if_pos hva] at hn
      by_cases hnu : Form_numberOf f (nI v) 1 = 0
      · rw [if_pos hnu] at hn
        have := (main 1 hn).2.2
        exact absurd this (by decide)
      · rw [if_neg hnu] at hn
        obtain ⟨q1, q2, -⟩ := main 0 hn
        exact ⟨q1, q2, fun _ => ⟨_, hnu, hva, rfl⟩⟩
    · rw [if_neg hva] at hn
      have := (main 1 hn).2.2
      exact absurd this (by decide)
  · rw [if_neg h4] at hn
    obtain ⟨q1, q2, -⟩ := main 0 hn
    exact ⟨q1, q2, fun q => absurd q h4⟩
theorem dead_needed (h : CI f nb nv) (de : Ob) : deadR f nb nv (Dead_goOver f de) := by
  obtain ⟨hI, -⟩ := id h
  have hnv := hI.2.2.2.2.2
  have hnb := hI.2.2.1
  have ends : ∀ d : Ob, dV d → (∀ v, 6 ≤ v → v < nv → f.1 1 v ≠ -1 → Dead_isNeededBySelf f (nI v) = true → d.1 0 v = 1) → deadR f nb nv (Dead_goOver_L56 f d 0) := by
    intro d hd hs
    unfold Dead_goOver_L56
    refine loop_cnt (B := fun a : Int32 × Ob => Dead_goOver_L56b f a.2 a.1) (mk := fun i (s : Ob) => (nI i, s)) (n := nb) (I := fun k s => dV s ∧ (∀ v, 6 ≤ v → v < nv → f.1 1 v ≠ -1 → Dead_isNeededBySelf f (nI v) = true → s.1 0 v = 1) ∧ ∀ b, b < k → ∀ w, Sum.inl w ∈ aAg (fS f) (140 + b) → s.1 0 w = 1) (P := deadR f nb nv) (fun k s hk hI2 => ?_) (fun s hI2 => ?_) nb 0 d (by omega) ⟨hd, hs, fun b hb => by omega⟩
    · obtain ⟨i1, i2, i3⟩ := hI2
      obtain ⟨y1, y2⟩ := needArguments_spec h (show 140 + k < 150 by omega) i1
      refine ⟨_, ?_, y1.1, fun v h6 hv hp hn => y1.2.1 v (by omega) (i2 v h6 hv hp hn), fun b hb w hw => ?_⟩
      · show Dead_goOver_L56b f s (nI k) = _
        unfold Dead_goOver_L56b
        rw [hI.1, if_pos (show nI k < nI nb from nI_lt hk (by omega)), ix140u, nI_1]
      · by_cases z : b = k
        · rw [z] at hw; exact y2 w hw
        · exact y1.2.1 w (by have := ag_lt h hw; omega) (i3 b (by omega) w hw)
    · obtain ⟨i1, i2, i3⟩ := hI2
      refine ⟨Dead_goOver_L87 f (oB s 0 true) 0, ?_, dead_rounds h _ (fun v hv => by rw [oB_1]; exact i1 v hv) ⟨fun v h6 hv hp hn => by rw [oB_1]; exact i2 v h6 hv hp hn, fun b hb w hw => by rw [oB_1]; exact i3 b hb w hw⟩ (by rw [oB_b, if_pos rfl])⟩
      show Dead_goOver_L56b f s (nI nb) = _
      unfold Dead_goOver_L56b
      rw [hI.1, if_neg (show ¬ nI nb < nI nb from nI_nlt (Nat.le_refl _) (by omega))]
  unfold Dead_goOver Dead_goOver_L11
  refine loop_cnt (B := fun a : Int32 × Ob => Dead_goOver_L11b f a.2 a.1) (mk := fun i (s : Ob) => (nI (6 + i), s)) (n := nv - 6) (I := fun k s => dV s ∧ ∀ v, 6 ≤ v → v < 6 + k → f.1 1 v ≠ -1 → Dead_isNeededBySelf f (nI v) = true → s.1 0 v = 1) (P := deadR f nb nv) (fun k s hk hI2 => ?_) (fun s hI2 => ?_) (nv - 6) 0 (ofil de 0 0) (by omega) ⟨fun v hv => Or.inl (by unfold ofil; rw [oR_1, if_pos rfl]), fun v h1 h2 => by omega⟩
  · obtain ⟨i1, i2⟩ := hI2
    have hlt : 6 + k < nv := by omega
    have hB : Dead_goOver_L11b f s (nI (6 + k)) = if f.1 1 (6 + k) = -1 then .inl (nI (6 + k + 1), s) else if Dead_isNeededBySelf f (nI (6 + k)) = true then .inl (nI (6 + k + 1), rs s 0 (6 + k) 1) else .inl (nI (6 + k + 1), s) := by
      unfold Dead_goOver_L11b Dead_goOver_48
      rw [hI.2.2.2.1, if_pos (show nI (6 + k) < nI nv from nI_lt hlt (by omega)), oat_rs (show 6 + k < 140 by omega) (by decide), oput_rs (show 6 + k < 140 by omega) (by decide), nI_1]
    dsimp only
    rw [hB]
    by_cases h1 : f.1 1 (6 + k) = -1
    · rw [if_pos h1]
      refine ⟨_, rfl, i1, fun v h6 hv hp hn => ?_⟩
      by_cases z : v = 6 + k
      · rw [z] at hp; exact absurd h1 hp
      · exact i2 v h6 (by omega) hp hn
    · rw [if_neg h1]
      by_cases h2 : Dead_isNeededBySelf f (nI (6 + k)) = true
      · rw [if_pos h2]
        refine ⟨_, rfl, fun v hv => ?_, fun v h6 hv hp hn => ?_⟩
        · rw [rs_i]
          by_cases z : v = 6 + k
          · rw [if_pos z]; exact Or.inr rfl
          · rw [if_neg z]; exact i1 v hv
        · rw [rs_i]
          by_cases z : v = 6 + k
          · rw [if_pos z]
          · rw [if_neg z]; exact i2 v h6 (by omega) hp hn
      · rw [if_neg h2]
        refine ⟨_, rfl, i1, fun v h6 hv hp hn => ?_⟩
        by_cases z : v = 6 + k
        · rw [z] at hn; exact absurd hn h2
        · exact i2 v h6 (by omega) hp hn
  · refine ⟨Dead_goOver_L56 f s 0, ?_, ends s hI2.1 fun v h6 hv hp hn => hI2.2 v h6 (by omega) hp hn⟩
    show Dead_goOver_L11b f s (nI (6 + (nv - 6))) = _
    unfold Dead_goOver_L11b
    rw [hI.2.2.2.1, if_neg (show ¬ nI (6 + (nv - 6)) < nI nv from nI_nlt (by omega) (by omega))]
/-- all others are lost -/
def offD (nv : Nat) (d : Ob) : Nat → Bool := fun v => decide (6 ≤ v) && decide (v < nv) && decide (d.1 0 v = 0)
theorem loseOthers_CI (h : CI f nb nv) (d : Ob) : CI (Dead_loseOthers f d) nb nv ∧ fS (Dead_loseOthers f d) = aDead (fS f) (offD nv d) ∧ fP (Dead_loseOthers f d) = plD (fP f) (offD nv d) ∧ stay f (Dead_loseOthers f d) ∧ ∀ T, KT f nv T → KT (Dead_loseOthers f d) nv T := by
  obtain ⟨hI, hA, hV, hL, hE⟩ := id h
  have hnv := hI.2.2.2.2.2
  unfold Dead_loseOthers Dead_loseOthers_L3
  refine loop_cnt (B := fun a : Int32 × Ob => Dead_loseOthers_L3b a.2 d a.1) (mk := fun i (s : Ob) => (nI (6 + i), s)) (n := nv - 6)
    (I := fun k s => CI s nb nv ∧ (∀ i, i ≠ 1 → i ≠ 3 → s.1 i = f.1 i) ∧ (∀ u, u < 140 → s.1 1 u = if (6 ≤ u ∧ u < 6 + k) ∧ d.1 0 u = 0 then -1 else f.1 1 u) ∧ (∀ u, u < 150 → s.1 3 u = if (6 ≤ u ∧ u < 6 + k) ∧ d.1 0 u = 0 then 0 else f.1 3 u) ∧ (∀ i, i ≠ 5 → s.2.1 i = f.2.1 i) ∧ s.2.2 = f.2.2 ∧ ∀ T, KT f nv T → KT s nv T)
    (P := fun g => CI g nb nv ∧ fS g = aDead (fS f) (offD nv d) ∧ fP g = plD (fP f) (offD nv d) ∧ stay f g ∧ ∀ T, KT f nv T → KT g nv T)
    (fun k s hk hI2 => ?_) (fun s hI2 => ⟨s, ?_, ?_⟩) (nv - 6) 0 f (by omega) ⟨h, fun _ _ _ => rfl, fun u _ => by rw [if_neg (by omega)], fun u _ => by rw [if_neg (by omega)], fun _ _ => rfl, rfl, fun _ q => q⟩
  · obtain ⟨i1, i2, i3, i4, i5, i6, i7⟩ := hI2
    have hlt : 6 + k < nv := by omega
    have hB : Dead_loseOthers_L3b s d (nI (6 + k)) = if d.1 0 (6 + k) = 0 then .inl (nI (6 + k + 1), Form_lose s (nI (6 + k))) else .inl (nI (6 + k + 1), s) := by
      unfold Dead_loseOthers_L3b Dead_loseOthers_27
      have e2 : s.2.1 2 = nI nv := by rw [i5 2 (by decide)]; exact hI.2.2.2.1
      rw [e2, if_pos (show nI (6 + k) < nI nv from nI_lt hlt (by omega)), oat_rs (show 6 + k < 140 by omega) (by decide), nI_1]
    dsimp only
    rw [hB]
    by_cases h0 : d.1 0 (6 + k) = 0
    · rw [if_pos h0]
      by_cases hp : s.1 1 (6 + k) = -1
      · have e : Form_lose s (nI (6 + k)) = s := by rw [lose_eq (show 6 + k < 140 by omega), if_pos hp]
        rw [e]
        have e3 := i1.2.1.2.2 (6 + k) (by omega) (Or.inr hp)
        refine ⟨s, rfl, i1, i2, fun u hu => ?_, fun u hu => ?_, i5, i6, i7⟩
        · by_cases z : u = 6 + k
          · rw [z, hp, if_pos ⟨by omega, h0⟩]
          · rw [i3 u hu]
            by_cases y : (6 ≤ u ∧ u < 6 + k) ∧ d.1 0 u = 0
            · rw [if_pos y, if_pos ⟨by omega, y.2⟩]
            · rw [if_neg y, if_neg fun q => y ⟨by omega, q.2⟩]
        · by_cases z : u = 6 + k
          · rw [z, e3, if_pos ⟨by omega, h0⟩]
          · rw [i4 u hu]
            by_cases y : (6 ≤ u ∧ u < 6 + k) ∧ d.1 0 u = 0
            · rw [if_pos y, if_pos ⟨by omega, y.2⟩]
            · rw [if_neg y, if_neg fun q => y ⟨by omega, q.2⟩]
      · obtain ⟨k1, k2, k3, k4, k5, k6, k7, k8, k9, k10⟩ := lose_CI i1 hlt (by omega) hp
        refine ⟨_, rfl, k1, fun i a b => (k4 i a b).trans (i2 i a b), fun u hu => ?_, fun u hu => ?_, fun i a => (k6 i a).trans (i5 i a), k8.trans i6, fun T hT => k10 T (i7 T hT)⟩
        · rw [k5]
          by_cases z : u = 6 + k
          · rw [if_pos z, if_pos ⟨by omega, by rw [z]; exact h0⟩]
          · rw [if_neg z, i3 u hu]
            by_cases y : (6 ≤ u ∧ u < 6 + k) ∧ d.1 0 u = 0
            · rw [if_pos y, if_pos ⟨by omega, y.2⟩]
            · rw [if_neg y, if_neg fun q => y ⟨by omega, q.2⟩]
        · rw [k9]
          by_cases z : u = 6 + k
          · rw [if_pos z, if_pos ⟨by omega, by rw [z]; exact h0⟩]
          · rw [if_neg z, i4 u hu]
            by_cases y : (6 ≤ u ∧ u < 6 + k) ∧ d.1 0 u = 0
            · rw [if_pos y, if_pos ⟨by omega, y.2⟩]
            · rw [if_neg y, if_neg fun q => y ⟨by omega, q.2⟩]
    · rw [if_neg h0]
      refine ⟨s, rfl, i1, i2, fun u hu => ?_, fun u hu => ?_, i5, i6, i7⟩
      · rw [i3 u hu]
        by_cases y : (6 ≤ u ∧ u < 6 + k) ∧ d.1 0 u = 0
        · rw [if_pos y, if_pos ⟨by omega, y.2⟩]
        · rw [if_neg y, if_neg]
          rintro ⟨q1, q2⟩
          by_cases z : u = 6 + k
          · rw [z] at q2; exact h0 q2
          · exact y ⟨by omega, q2⟩
      · rw [i4 u hu]
        by_cases y : (6 ≤ u ∧ u < 6 + k) ∧ d.1 0 u = 0
        · rw [if_pos y, if_pos ⟨by omega, y.2⟩]
        · rw [if_neg y, if_neg]
          rintro ⟨q1, q2⟩
          by_cases z : u = 6 + k
          · rw [z] at q2; exact h0 q2
          · exact y ⟨by omega, q2⟩
  · show Dead_loseOthers_L3b s d (nI (6 + (nv - 6))) = _
    unfold Dead_loseOthers_L3b
    have e2 : s.2.1 2 = nI nv := by rw [hI2.2.2.2.2.1 2 (by decide)]; exact hI.2.2.2.1
    rw [e2, if_neg (show ¬ nI (6 + (nv - 6)) < nI nv from nI_nlt (by omega) (by omega))]
  · obtain ⟨i1, i2, i3, i4, i5, i6, i7⟩ := hI2
    have hD : ∀ u, offD nv d u = true ↔ (6 ≤ u ∧ u < 6 + (nv - 6)) ∧ d.1 0 u = 0 := fun u => by
      unfold offD
      simp only [Bool.and_eq_true, decide_eq_true_eq]
      constructor
      · rintro ⟨⟨a, b⟩, c⟩; exact ⟨⟨a, by omega⟩, c⟩
      · rintro ⟨⟨a, b⟩, c⟩; exact ⟨⟨a, by omega⟩, c⟩
    have p1 : ∀ u, u < 140 → s.1 1 u = if offD nv d u = true then -1 else f.1 1 u := fun u hu => by
      rw [i3 u hu]
      by_cases y : (6 ≤ u ∧ u < 6 + (nv - 6)) ∧ d.1 0 u = 0
      · rw [if_pos y, if_pos ((hD u).mpr y)]
      · rw [if_neg y, if_neg fun q => y ((hD u).mp q)]
    refine ⟨i1, AF_ext (fun w => ?_) (fun u => ?_) (fun b => ?_) (fun b => ?_) (fun b => ?_) (fun w => ?_), ?_, ⟨fun i a b _ _ => i2 i a b, i5, i6⟩, i7⟩
    · show tn (s.1 0 w) = tn (f.1 0 w)
      rw [i2 0 (by decide) (by decide)]
    · show (if u < 150 then fag s u else []) = if u < 140 ∧ offD nv d u = true then [] else if u < 150 then fag f u else []
      by_cases q : u < 140 ∧ offD nv d u = true
      · rw [if_pos q, if_pos (by omega), fag_nil (by rw [i4 u (by omega), if_pos ((hD u).mp q.2)])]
      · rw [if_neg q]
        by_cases hu : u < 150
        · rw [if_pos hu, if_pos hu]
          refine fag_congr ?_ (by rw [i2 4 (by decide) (by decide)]) fun i _ => by rw [i2 5 (by decide) (by decide), i2 6 (by decide) (by decide)]; exact ⟨rfl, rfl⟩
          rw [i4 u hu, if_neg]
          exact fun z => q ⟨by omega, (hD u).mpr z⟩
        · rw [if_neg hu, if_neg hu]
    · show (if b < 10 then (frw s b).filter (fun z => decide (s.1 1 z = nI b)) else []) = (if b < 10 then (frw f b).filter (fun z => decide (f.1 1 z = nI b)) else []).filter fun z => !offD nv d z
      by_cases q : b < 10
      · rw [if_pos q, if_pos q, List.filter_filter, frw_congr (f := f) (by rw [i2 7 (by decide) (by decide)]) fun k _ => by rw [i2 8 (by decide) (by decide)]]
        obtain ⟨s', hs', hs7', y1, -, -⟩ := hL b q
        refine List.filter_congr fun z hz => ?_
        obtain ⟨k, hk, e⟩ := (frw_mem hs7' hs' z).mp hz
        obtain ⟨w, hw, ew, -⟩ := y1 k hk
        rw [ew, tn_nI (by omega)] at e
        subst e
        rw [p1 w (by omega)]
        by_cases zv : offD nv d w = true
        · have hm : ¬ (-1 : Int32) = nI b := fun e => nI_m1 (a := b) (by omega) e.symm
          rw [if_pos zv, decide_eq_false hm, zv]
          rfl
        · rw [if_neg zv]
          simp [zv]
      · rw [if_neg q, if_neg q]; rfl
    · show (if b < 10 then fed s b else []) = if b < 10 then fed f b else []
      rw [fed_congr (f := f) (by rw [i2 9 (by decide) (by decide)]) fun k _ => by rw [i2 10 (by decide) (by decide)]]
    · show tn (s.1 11 b) = tn (f.1 11 b)
      rw [i2 11 (by decide) (by decide)]
    · show (if w < 20 then ftg s w else none) = if w < 20 then ftg f w else none
      unfold ftg
      rw [i2 12 (by decide) (by decide)]
    · funext w
      unfold plD
      by_cases q : offD nv d w = true
      · rw [if_pos q]
        have hw := ((hD w).mp q).1
        exact (fP_none i1).mpr (Or.inr (by rw [p1 w (by omega), if_pos q]))
      · rw [if_neg q]
        by_cases hw : w < nv
        · unfold fP
          rw [i5 2 (by decide), p1 w (by omega), if_neg q]
        · rw [(fP_none i1).mpr (Or.inl (by omega)), (fP_none h).mpr (Or.inl (by omega))]
theorem stay.ist {f g : Ob} (h : stay f g) : ist f g := ⟨fun i _ b => h.2.1 i b, h.2.2⟩
theorem dead_spec (hF : FG f nb nv T) (de : Ob) : passP f (Dead_goOver f de).1 nb nv T := by
  obtain ⟨h1, h2, h3, h4⟩ := id hF
  obtain ⟨d, e, hd, hb, hc⟩ := dead_needed h1 de
  have hnv := h1.1.2.2.2.2.2
  have hnb := h1.1.2.2.1
  rw [e]
  obtain ⟨l1, l2, l3, l4, l5⟩ := loseOthers_CI h1 d
  have hC : fC (Dead_loseOthers f d) = fC f := fC_congr (l4.2.1 1 (by decide))
  have off0 : ∀ w, w < nv → d.1 0 w = 1 → offD nv d w = false := fun w _ q => by
    unfold offD
    rw [q]
    simp
  have low : ∀ w, w < 6 → offD nv d w = false := fun w hw => by
    unfold offD
    rw [decide_eq_false (show ¬ 6 ≤ w by omega)]
    rfl
  have a1 : ∀ b v, v ∈ aLs (fS f) b → offD nv d v = true → harmless (fS f) v := fun b v hv hD => by
    obtain ⟨hb10, hvn, hpv⟩ := (fS_ls_mem h1).mp hv
    have hP := (fS_ls_P h1).mp hv
    have hk := h2.1.1.2.2.1 v b hP
    have h0 : d.1 0 v = 0 := by
      unfold offD at hD
      simp only [Bool.and_eq_true, decide_eq_true_eq] at hD
      exact hD.2
    have hnn : Dead_isNeededBySelf f (nI v) = false := by
      cases q : Dead_isNeededBySelf f (nI v) with
      | false => rfl
      | true =>
        have := hb.1 v hk.1 hvn (by rw [hpv]; exact nI_m1 (by omega)) q
        rw [h0] at this
        exact absurd this (by decide)
    obtain ⟨s1, s2, s3⟩ := selfN h1 hvn hnn
    have n7 : aKd (fS f) v ≠ 7 := fun q => s1 ((kd_nI h1 hvn (by decide)).mp q)
    have n8 : aKd (fS f) v ≠ 8 := fun q => s2 ((kd_nI h1 hvn (by decide)).mp q)
    unfold harmless
    by_cases h4 : aKd (fS f) v = 4
    · obtain ⟨n, hn, hva, hnu⟩ := s3 ((kd_nI h1 hvn (by decide)).mp h4)
      refine Or.inr (Or.inr (Or.inr (Or.inr (Or.inr (Or.inr ⟨h4, n, hn, ?_⟩)))))
      have hCb : fC f b := Classical.byContradiction fun q => by
        rw [(h3 b q).1] at hv
        cases hv
      obtain ⟨x, y, hxy⟩ := two_args ((h2.1.2.2.1.1 b v hCb hv).2.1 (Or.inl (by omega)))
      obtain ⟨q1, q2⟩ := arg_at (k := 1) h1 (show v < 150 by omega) (by decide) (by rw [hxy]; rfl)
      have q1' : agOf (Form_valueOf f (nI v) 1) (Form_numberOf f (nI v) 1) = y := q1
      rw [hva, hnu] at q1'
      rw [hxy, ← q1']
      rfl
    · omega
  have a2 : ∀ b v, v ∈ aLs (fS f) b → offD nv d v = false → ∀ w, Sum.inl w ∈ aAg (fS f) v → offD nv d w = false := fun b v hv hD w hw => by
    obtain ⟨hb10, hvn, hpv⟩ := (fS_ls_mem h1).mp hv
    have hP := (fS_ls_P h1).mp hv
    have hk := h2.1.1.2.2.1 v b hP
    have h1' : d.1 0 v = 1 := by
      rcases hd v (by omega) with q | q
      · exfalso
        unfold offD at hD
        rw [q, decide_eq_true hk.1, decide_eq_true hvn] at hD
        exact absurd hD (by decide)
      · exact q
    exact off0 w (ag_lt h1 hw) (hc v hk.1 hvn h1' w hw)
  have a3 : ∀ b w, Sum.inl w ∈ aAg (fS f) (140 + b) → offD nv d w = false := fun b w hw => by
    by_cases hbn : b < nb
    · exact off0 w (ag_lt h1 hw) (hb.2 b hbn w hw)
    · have hbC : ¬ fC f b := fun q => hbn (h1.2.2.2.2.2.2.2 b (by have := q.1; omega) q.2)
      rw [(h3 b hbC).2.2] at hw
      cases hw
  obtain ⟨g1, g2⟩ := dead_ok h2 (D := offD nv d) low a1 a2 a3
  exact ⟨⟨l1, by rw [l2, l3, hC]; exact g1, by rw [l2, hC]; exact EA_dead h3 _, l5 T h4⟩, fun x y => by rw [l2]; exact g2 x y, l4.ist⟩
end DEADP
