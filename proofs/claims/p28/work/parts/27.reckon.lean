/-! THE FLOW RECKONED: dominators and the order -/
theorem fE_congr {f g : Ob} (h : f.1 0 = g.1 0) : fE f = fE g := by
  funext a b
  unfold fE
  rw [h]
theorem fN_congr {f g : Ob} (h : f.1 0 = g.1 0) (hg : fN g) : fN f := by
  unfold fN
  rw [h]
  exact hg
theorem cnt_all {S : Nat → Bool} {n : Nat} (h : n ≤ cnt S n) {i : Nat} (hi : i < n) : S i = true := by
  cases hs : S i with
  | true => rfl
  | false =>
    have h1 := cnt_lt (S := S) (T := fun _ => true) n (fun _ _ _ => rfl) ⟨i, hi, hs, rfl⟩
    have h2 := cnt_le (fun _ => true) n
    omega
theorem cnt_ins {S : Nat → Bool} {b : Nat} : ∀ n, b < n → S b = false → cnt (fun i => S i || decide (i = b)) n = cnt S n + 1 := by
  intro n
  induction n with
  | zero => intro h; omega
  | succ n ih =>
    intro hb hs
    unfold cnt
    by_cases h : b = n
    · subst h
      rw [cnt_ext (S := fun i => S i || decide (i = b)) (T := S) b (fun i hi => by simp [Nat.ne_of_lt hi])]
      simp [hs]
    · rw [ih (by omega) hs]
      simp only [show (n = b) = False from by simp [Ne.symm h], decide_false, Bool.or_false]
      omega
theorem add_dom (fl : Ob) (below : Int32) {d : Nat} : (∀ j, j ≠ 2 → (Flow_addDominator fl below (nI d)).1 j = fl.1 j) ∧ (Flow_addDominator fl below (nI d)).2 = fl.2 ∧ ∀ c, c < 10 → (Flow_addDominator fl below (nI d)).1 2 c = if bt below c = true then fl.1 2 c ||| Ph_bit (nI d) else fl.1 2 c := by
  unfold Flow_addDominator
  refine loop_cnt (B := fun a : Int32 × Ob => Flow_addDominator_L2b a.2 below (nI d) a.1) (mk := fun i s => (nI i, s)) (n := 10)
    (I := fun k s => (∀ j, j ≠ 2 → s.1 j = fl.1 j) ∧ s.2 = fl.2 ∧ ∀ c, s.1 2 c = if c < k ∧ bt below c = true then fl.1 2 c ||| Ph_bit (nI d) else fl.1 2 c)
    (P := fun f => (∀ j, j ≠ 2 → f.1 j = fl.1 j) ∧ f.2 = fl.2 ∧ ∀ c, c < 10 → f.1 2 c = if bt below c = true then fl.1 2 c ||| Ph_bit (nI d) else fl.1 2 c) (fun i s hi hI => ?_) (fun s hI => ?_) 10 0 fl rfl ⟨fun _ _ => rfl, rfl, fun c => by simp⟩
  · obtain ⟨h1, h2, h3⟩ := hI
    by_cases h : bt below i = true
    · refine ⟨oput s 2 10 (nI i) ((oat s 2 10 (nI i)) ||| (Ph_bit (nI d))), ?_, fun j hj => ?_, ?_, fun c => ?_⟩
      · show Flow_addDominator_L2b s below (nI d) (nI i) = _
        unfold Flow_addDominator_L2b Flow_addDominator_37
        rw [if_pos (lt10 hi), has_nI (by omega), if_pos h, nI_1]
      · rw [oput_nI hi (by decide), oR_1, if_neg hj]
        exact h1 j hj
      · rw [oput_nI hi (by decide), oR_2]
        exact h2
      · rw [oput_nI hi (by decide), oR_1, if_pos rfl, ru_at, oat_nI hi (by decide)]
        by_cases hc : c = i
        · subst hc
          rw [if_pos rfl, if_pos ⟨by omega, h⟩, h3 c, if_neg (by omega)]
        · rw [if_neg hc, h3 c]
          by_cases hc2 : c < i
          · have : c < i + 1 := by omega
            simp [hc2, this]
          · have : ¬ c < i + 1 := by omega
            simp [hc2, this]
    · refine ⟨s, ?_, h1, h2, fun c => ?_⟩
      · show Flow_addDominator_L2b s below (nI d) (nI i) = _
        unfold Flow_addDominator_L2b Flow_addDominator_37
        rw [if_pos (lt10 hi), has_nI (by omega), if_neg h, nI_1]
      · rw [h3 c]
        by_cases hc : c = i
        · subst hc
          simp [h]
        · by_cases hc2 : c < i
          · have : c < i + 1 := by omega
            simp [hc2, this]
          · have : ¬ c < i + 1 := by omega
            simp [hc2, this]
  · refine ⟨s, ?_, hI.1, hI.2.1, fun c hc => ?_⟩
    · show Flow_addDominator_L2b s below (nI d) (nI 10) = _
      unfold Flow_addDominator_L2b
      rw [if_neg nlt10]
    · rw [hI.2.2 c]
      simp [hc]
/-- what holds of a flow that is reckoned, but for its order -/
def fD (fl : Ob) : Prop := fN fl ∧ (∀ c, c < 32 → (bt (fl.2.1 0) c = true ↔ RW (fE fl) none c)) ∧ (∀ b, b < 10 → ∀ c, c < 32 → (bt (fl.1 1 b) c = true ↔ Dm (fE fl) b c)) ∧ (∀ c, c < 10 → ∀ b, b < 32 → (bt (fl.1 2 c) b = true ↔ b < 10 ∧ Dm (fE fl) b c))
def fReady (fl : Ob) (done : Int32) (b : Nat) : Prop := b < 10 ∧ RW (fE fl) none b ∧ bt done b = false ∧ ∀ a, a < 10 → Dm (fE fl) a b → a ≠ b → bt done a = true
theorem RW_lt10 {fl : Ob} {o : Option Nat} {v : Nat} (h : RW (fE fl) o v) : v < 10 := RW_ind (P := fun v => v < 10) (fun _ => by decide) (fun _ _ _ _ he _ _ => he.2.1) h
theorem ready_iff {fl : Ob} (hD : fD fl) (done : Int32) {b : Nat} (hb : b < 10) : (Ph_has ((fl.2.1 0) &&& (done ^^^ (-1))) (nI b) = true ∧ (oat fl 2 10 (nI b)) &&& (done ^^^ (-1)) = Ph_bit (nI b)) ↔ fReady fl done b := by
  obtain ⟨-, h1, -, h3⟩ := hD
  rw [has_nI (by omega), b_and, bt_not (by omega), oat_nI hb (by decide), Bool.and_eq_true, Bool.not_eq_true']
  constructor
  · rintro ⟨⟨g1, g2⟩, g3⟩
    refine ⟨hb, (h1 b (by omega)).mp g1, g2, fun a ha hab hne => ?_⟩
    have h4 : bt (fl.1 2 b) a = true := (h3 b hb a (by omega)).mpr ⟨ha, hab⟩
    have h5 := congrArg (fun x => bt x a) g3
    simp only [b_and, bt_not (show a < 32 by omega), bit_nI (show b < 20 by omega) (show a < 32 by omega), h4, Bool.true_and, hne, decide_false] at h5
    simpa using h5
  · rintro ⟨-, g1, g2, g3⟩
    refine ⟨⟨(h1 b (by omega)).mpr g1, g2⟩, b_ext fun i hi => ?_⟩
    rw [b_and, bt_not hi, bit_nI (by omega) hi]
    by_cases hib : i = b
    · subst hib
      have h4 : bt (fl.1 2 i) i = true := (h3 i hb i (by omega)).mpr ⟨hb, Dm_refl g1⟩
      simp [h4, g2]
    · cases h4 : bt (fl.1 2 b) i with
      | false => simp [hib]
      | true =>
        obtain ⟨h5, h6⟩ := (h3 b hb i hi).mp h4
        simp [g3 i h5 h6 hib, hib]
theorem first_ready {fl : Ob} (hD : fD fl) (done : Int32) : (∃ b, fReady fl done b ∧ Flow_firstReady fl done = nI b) ∨ (Flow_firstReady fl done = -1 ∧ ∀ b, ¬ fReady fl done b) := by
  unfold Flow_firstReady
  refine loop_brk (B := fun a : Int32 => Flow_firstReady_L2b fl done a) (mk := fun i (_ : Unit) => nI i) (n := 10) (I := fun k _ => ∀ b, b < k → ¬ fReady fl done b) (P := fun r => (∃ b, fReady fl done b ∧ r = nI b) ∨ (r = -1 ∧ ∀ b, ¬ fReady fl done b)) (fun i s hi hI => ?_) (fun s hI => ?_) 10 0 () rfl (fun b hb => by omega)
  · have hr := ready_iff hD done hi
    have hB : Flow_firstReady_L2b fl done (nI i) = if Ph_has ((fl.2.1 0) &&& (done ^^^ (-1))) (nI i) = true ∧ (oat fl 2 10 (nI i)) &&& (done ^^^ (-1)) = Ph_bit (nI i) then .inr (nI i) else .inl (nI (i + 1)) := by
      unfold Flow_firstReady_L2b Flow_firstReady_44
      rw [if_pos (lt10 hi), nI_1]
      by_cases c1 : Ph_has ((fl.2.1 0) &&& (done ^^^ (-1))) (nI i) = true
      · by_cases c2 : (oat fl 2 10 (nI i)) &&& (done ^^^ (-1)) = Ph_bit (nI i)
        · rw [if_pos c1, if_pos c2, if_pos ⟨c1, c2⟩]
        · rw [if_pos c1, if_neg c2, if_neg (fun h => c2 h.2)]
      · rw [if_neg c1, if_neg (fun h => c1 h.1)]
    by_cases hready : fReady fl done i
    · right
      exact ⟨nI i, by show Flow_firstReady_L2b fl done (nI i) = _; rw [hB, if_pos (hr.mpr hready)], Or.inl ⟨i, hready, rfl⟩⟩
    · left
      refine ⟨(), by show Flow_firstReady_L2b fl done (nI i) = _; rw [hB, if_neg (fun h => hready (hr.mp h))], fun b hb => ?_⟩
      by_cases h : b = i
      · subst h; exact hready
      · exact hI b (by omega)
  · refine ⟨-1, ?_, Or.inr ⟨rfl, fun b hb => hI b hb.1 hb⟩⟩
    show Flow_firstReady_L2b fl done (nI 10) = _
    unfold Flow_firstReady_L2b
    rw [if_neg nlt10]
theorem ready_ex {fl : Ob} (hD : fD fl) (done : Int32) : ∀ (n c : Nat), cnt (fun a => bt (fl.1 2 c) a) 10 ≤ n → RW (fE fl) none c → bt done c = false → ∃ b, fReady fl done b := by
  obtain ⟨-, -, -, h3⟩ := hD
  intro n
  induction n with
  | zero =>
    intro c hn hc _
    have hc10 := RW_lt10 hc
    have := cnt_lt (S := fun _ => false) (T := fun a => bt (fl.1 2 c) a) 10 (fun _ _ e => by cases e) ⟨c, hc10, rfl, (h3 c hc10 c (by omega)).mpr ⟨hc10, Dm_refl hc⟩⟩
    omega
  | succ n ih =>
    intro c hn hc hd
    have hc10 := RW_lt10 hc
    by_cases h : ∃ a, a < 10 ∧ Dm (fE fl) a c ∧ a ≠ c ∧ bt done a = false
    · obtain ⟨a, ha, hac, hne, hda⟩ := h
      refine ih a ?_ (Dm_left hac) hda
      have := cnt_lt (S := fun z => bt (fl.1 2 a) z) (T := fun z => bt (fl.1 2 c) z) 10 (fun z hz hza => (h3 c hc10 z (by omega)).mpr ⟨hz, Dm_trans ((h3 a ha z (by omega)).mp hza).2 hac⟩) ⟨c, hc10, ?_, (h3 c hc10 c (by omega)).mpr ⟨hc10, Dm_refl hc⟩⟩
      · omega
      · cases hq : bt (fl.1 2 a) c with
        | false => rfl
        | true => exact absurd (Dm_anti hac ((h3 a ha c (by omega)).mp hq).2) hne
    · refine ⟨c, hc10, hc, hd, fun a ha hac hne => ?_⟩
      cases hq : bt done a with
      | true => rfl
      | false => exact absurd ⟨a, ha, hac, hne, hq⟩ h
/-- the order -/
def fO (fl : Ob) (n : Nat) : Prop := (∀ j, j < n → fl.1 3 j = -1 ∨ ∃ b, b < 10 ∧ RW (fE fl) none b ∧ fl.1 3 j = nI b ∧ ∀ a, Dm (fE fl) a b → a ≠ b → ∃ i, i < j ∧ fl.1 3 i = nI a) ∧ (∀ i j b, i < j → j < n → b < 10 → fl.1 3 i = nI b → fl.1 3 j ≠ nI b)
def fR (fl : Ob) : Prop := fD fl ∧ fO fl 10 ∧ ∀ c, RW (fE fl) none c → ∃ j, j < 10 ∧ fl.1 3 j = nI c
theorem nI_inj {a b : Nat} (ha : a < 2 ^ 31) (hb : b < 2 ^ 31) (h : nI a = nI b) : a = b := (nI_eq ha hb).mp h
theorem nI_m1 {a : Nat} (ha : a < 2 ^ 31) : nI a ≠ -1 := by
  intro h
  have h1 : ¬ nI a < 0 := nI_pos ha
  rw [h] at h1
  exact h1 (by decide)
theorem fD_congr {f g : Ob} (h0 : f.1 0 = g.1 0) (h1 : f.1 1 = g.1 1) (h2 : f.1 2 = g.1 2) (hr : f.2.1 0 = g.2.1 0) (hg : fD g) : fD f := by
  unfold fD
  rw [fE_congr h0, h1, h2, hr]
  exact ⟨fN_congr h0 hg.1, hg.2⟩
/-- what the loop of the order keeps: the blocks that are done are those that were put -/
def oInv (fl : Ob) (n : Nat) (q : Int32 × Ob) : Prop := q.2.2 = fl.2 ∧ (∀ j, j ≠ 3 → q.2.1 j = fl.1 j) ∧ fO q.2 n ∧ (∀ c, c < 32 → (bt q.1 c = true ↔ c < 10 ∧ ∃ j, j < n ∧ q.2.1 3 j = nI c)) ∧ ((∃ j, j < n ∧ q.2.1 3 j = -1) → ∀ c, RW (fE fl) none c → bt q.1 c = true) ∧ ((∀ j, j < n → q.2.1 3 j ≠ -1) → cnt (bt q.1) 10 = n)
theorem order_step {fl : Ob} (hD : fD fl) {n : Nat} (hn : n < 10) {q : Int32 × Ob} (hI : oInv fl n q) : oInv fl (n + 1) (q.1 ||| Ph_bit (Flow_firstReady q.2 q.1), oput q.2 3 10 (nI n) (Flow_firstReady q.2 q.1)) := by
  obtain ⟨h1, h2, h3, h4, h5, h6⟩ := hI
  have hDq : fD q.2 := fD_congr (h2 0 (by decide)) (h2 1 (by decide)) (h2 2 (by decide)) (by rw [h1]) hD
  have hE : fE q.2 = fE fl := fE_congr (h2 0 (by decide))
  have hrow : ∀ j, (oput q.2 3 10 (nI n) (Flow_firstReady q.2 q.1)).1 3 j = if j = n then Flow_firstReady q.2 q.1 else q.2.1 3 j := fun j => by
    rw [oput_nI hn (by decide), oR_1, if_pos rfl, ru_at]
  have hoth : ∀ j, j ≠ 3 → (oput q.2 3 10 (nI n) (Flow_firstReady q.2 q.1)).1 j = fl.1 j := fun j hj => by
    rw [oput_nI hn (by decide), oR_1, if_neg hj]
    exact h2 j hj
  have h2' : (oput q.2 3 10 (nI n) (Flow_firstReady q.2 q.1)).2 = fl.2 := by
    rw [oput_nI hn (by decide), oR_2]
    exact h1
  have hE' : fE (oput q.2 3 10 (nI n) (Flow_firstReady q.2 q.1)) = fE fl := fE_congr (hoth 0 (by decide))
  have hEq : fE (oput q.2 3 10 (nI n) (Flow_firstReady q.2 q.1)) = fE q.2 := hE'.trans hE.symm
  rcases first_ready hDq q.1 with ⟨b, ⟨hb, hrb, hdb, hab⟩, hf⟩ | ⟨hf, hno⟩
  · -- a block is put
    rw [hf] at hrow h2' hoth hE' hEq ⊢
    have hnb : ∀ j, j < n → q.2.1 3 j ≠ nI b := fun j hj e => by
      have := (h4 b (by omega)).mpr ⟨hb, j, hj, e⟩
      rw [hdb] at this
      cases this
    have hbits : ∀ c, c < 32 → bt (q.1 ||| Ph_bit (nI b)) c = (bt q.1 c || decide (c = b)) := fun c hc => by rw [b_or, bit_nI (by omega) hc]
    refine ⟨h2', hoth, ⟨fun j hj => ?_, fun i j b' hij hj hb' hi => ?_⟩, fun c hc => ?_, ?_, ?_⟩
    · rw [hrow, hEq]
      by_cases hjn : j = n
      · rw [if_pos hjn]
        refine Or.inr ⟨b, hb, hrb, rfl, fun a ha hne => ?_⟩
        have ha10 := RW_lt10 (Dm_left ha)
        obtain ⟨-, i, hi, e⟩ := (h4 a (by omega)).mp (hab a ha10 ha hne)
        exact ⟨i, by omega, by rw [hrow, if_neg (by omega)]; exact e⟩
      · rw [if_neg hjn]
        rcases h3.1 j (by omega) with e | ⟨b', g1, g2, g3, g4⟩
        · exact Or.inl e
        · refine Or.inr ⟨b', g1, g2, g3, fun a ha hne => ?_⟩
          obtain ⟨i, hi, e⟩ := g4 a ha hne
          exact ⟨i, hi, by rw [hrow, if_neg (by omega)]; exact e⟩
    · rw [hrow] at hi ⊢
      rw [if_neg (by omega)] at hi
      by_cases hjn : j = n
      · rw [if_pos hjn]
        intro e
        have := nI_inj (by omega) (by omega) e
        subst this
        exact hnb i (by omega) hi
      · rw [if_neg hjn]
        exact h3.2 i j b' hij (by omega) hb' hi
    · rw [hbits c hc, Bool.or_eq_true, decide_eq_true_eq, h4 c hc]
      constructor
      · rintro (⟨g1, j, g2, g3⟩ | rfl)
        · exact ⟨g1, j, by omega, by rw [hrow, if_neg (by omega)]; exact g3⟩
        · exact ⟨hb, n, by omega, by rw [hrow, if_pos rfl]⟩
      · rintro ⟨g1, j, g2, g3⟩
        rw [hrow] at g3
        by_cases hjn : j = n
        · rw [if_pos hjn] at g3
          exact Or.inr (nI_inj (by omega) (by omega) g3).symm
        · rw [if_neg hjn] at g3
          exact Or.inl ⟨g1, j, by omega, g3⟩
    · rintro ⟨j, hj, e⟩ c hc
      have hc10 := RW_lt10 hc
      rw [hrow] at e
      by_cases hjn : j = n
      · rw [if_pos hjn] at e
        exact absurd e (nI_m1 (by omega))
      · rw [if_neg hjn] at e
        rw [hbits c (by omega), h5 ⟨j, by omega, e⟩ c hc, Bool.true_or]
    · intro hall
      have g := h6 fun j hj => by
        have := hall j (by omega)
        rw [hrow, if_neg (by omega)] at this
        exact this
      show cnt (bt (q.1 ||| Ph_bit (nI b))) 10 = n + 1
      rw [cnt_ext (T := fun i => bt q.1 i || decide (i = b)) 10 (fun i hi => hbits i (by omega)), cnt_ins 10 hb hdb, g]
  · -- none is left
    rw [hf] at hrow h2' hoth hE' hEq ⊢
    have hdone : ∀ c, RW (fE fl) none c → bt q.1 c = true := fun c hc => by
      cases hq : bt q.1 c with
      | true => rfl
      | false =>
        obtain ⟨b, hb⟩ := ready_ex hDq q.1 _ c (Nat.le_refl _) (by rw [hE]; exact hc) hq
        exact absurd hb (hno b)
    have hbits : ∀ c, bt (q.1 ||| Ph_bit (-1)) c = bt q.1 c := fun c => by rw [b_or, bit_m1, b_0, Bool.or_false]
    refine ⟨h2', hoth, ⟨fun j hj => ?_, fun i j b' hij hj hb' hi => ?_⟩, fun c hc => ?_, fun _ c hc => by rw [hbits]; exact hdone c hc, fun hall => ?_⟩
    · rw [hrow, hEq]
      by_cases hjn : j = n
      · rw [if_pos hjn]
        exact Or.inl rfl
      · rw [if_neg hjn]
        rcases h3.1 j (by omega) with e | ⟨b', g1, g2, g3, g4⟩
        · exact Or.inl e
        · refine Or.inr ⟨b', g1, g2, g3, fun a ha hne => ?_⟩
          obtain ⟨i, hi, e⟩ := g4 a ha hne
          exact ⟨i, hi, by rw [hrow, if_neg (by omega)]; exact e⟩
    · rw [hrow] at hi ⊢
      rw [if_neg (by omega)] at hi
      by_cases hjn : j = n
      · rw [if_pos hjn]
        exact fun e => nI_m1 (by omega) e.symm
      · rw [if_neg hjn]
        exact h3.2 i j b' hij (by omega) hb' hi
    · rw [hbits, h4 c hc]
      constructor
      · rintro ⟨g1, j, g2, g3⟩
        exact ⟨g1, j, by omega, by rw [hrow, if_neg (by omega)]; exact g3⟩
      · rintro ⟨g1, j, g2, g3⟩
        rw [hrow] at g3
        by_cases hjn : j = n
        · rw [if_pos hjn] at g3
          exact absurd g3.symm (nI_m1 (by omega))
        · rw [if_neg hjn] at g3
          exact ⟨g1, j, by omega, g3⟩
    · exfalso
      have := hall n (by omega)
      rw [hrow, if_pos rfl] at this
      exact this rfl
theorem order_spec {fl : Ob} (hD : fD fl) : fR (Flow_reckon_L78 fl 0 0) ∧ (Flow_reckon_L78 fl 0 0).2 = fl.2 ∧ ∀ j, j ≠ 3 → (Flow_reckon_L78 fl 0 0).1 j = fl.1 j := by
  unfold Flow_reckon_L78
  refine loop_cnt (B := fun a : Int32 × Int32 × Ob => Flow_reckon_L78b a.2.2 a.1 a.2.1) (mk := fun i (q : Int32 × Ob) => (q.1, nI i, q.2)) (n := 10) (I := oInv fl) (P := fun f => fR f ∧ f.2 = fl.2 ∧ ∀ j, j ≠ 3 → f.1 j = fl.1 j) (fun i q hi hI => ?_) (fun q hI => ?_) 10 0 (0, fl) rfl ⟨rfl, fun _ _ => rfl, ⟨fun j hj => by omega, fun i j b hij hj => by omega⟩, fun c hc => ?_, ?_, fun _ => ?_⟩
  · refine ⟨(q.1 ||| Ph_bit (Flow_firstReady q.2 q.1), oput q.2 3 10 (nI i) (Flow_firstReady q.2 q.1)), ?_, order_step hD hi hI⟩
    show Flow_reckon_L78b q.2 q.1 (nI i) = _
    unfold Flow_reckon_L78b
    rw [if_pos (lt10 hi), nI_1]
  · refine ⟨q.2, ?_, ?_, hI.1, hI.2.1⟩
    · show Flow_reckon_L78b q.2 q.1 (nI 10) = _
      unfold Flow_reckon_L78b
      rw [if_neg nlt10]
    · obtain ⟨h1, h2, h3, h4, h5, h6⟩ := hI
      have hE : fE q.2 = fE fl := fE_congr (h2 0 (by decide))
      refine ⟨fD_congr (h2 0 (by decide)) (h2 1 (by decide)) (h2 2 (by decide)) (by rw [h1]) hD, h3, fun c hc => ?_⟩
      rw [hE] at hc
      have hc10 := RW_lt10 hc
      have hbit : bt q.1 c = true := by
        by_cases h : ∃ j, j < 10 ∧ q.2.1 3 j = -1
        · exact h5 h c hc
        · exact cnt_all (n := 10) (Nat.le_of_eq (h6 fun j hj e => h ⟨j, hj, e⟩).symm) hc10
      exact ((h4 c (by omega)).mp hbit).2
  · constructor
    · intro h
      rw [show ((0 : Int32), fl).1 = 0 from rfl, b_0] at h
      cases h
    · rintro ⟨-, j, hj, -⟩
      omega
  · rintro ⟨j, hj, -⟩
    omega
  · show cnt (bt 0) 10 = 0
    rw [cnt_ext (T := fun _ => false) 10 (fun i _ => b_0 i)]
    decide
/-- what the loop of the dominators keeps -/
def dInv (fl : Ob) (n : Nat) (f : Ob) : Prop := f.1 0 = fl.1 0 ∧ (∀ c, c < 32 → (bt (f.2.1 0) c = true ↔ RW (fE fl) none c)) ∧ (∀ b, b < n → ∀ c, c < 32 → (bt (f.1 1 b) c = true ↔ Dm (fE fl) b c)) ∧ (∀ c, c < 10 → ∀ b, b < 32 → (bt (f.1 2 c) b = true ↔ b < n ∧ Dm (fE fl) b c))
theorem flow_reckon {fl : Ob} (hN : fN fl) : fR (Flow_reckon fl) ∧ (Flow_reckon fl).1 0 = fl.1 0 := by
  unfold Flow_reckon Flow_reckon_L19
  refine loop_cnt (B := fun a : Int32 × Ob => Flow_reckon_L19b a.2 a.1) (mk := fun i (f : Ob) => (nI i, f)) (n := 10) (I := dInv fl) (P := fun f => fR f ∧ f.1 0 = fl.1 0) (fun i f hi hI => ?_) (fun f hI => ?_) 10 0 _ rfl ⟨rfl, fun c hc => ?_, fun b hb => by omega, fun c hc b hb => ?_⟩
  · obtain ⟨h1, h2, h3, h4⟩ := hI
    have hE : fE f = fE fl := fE_congr h1
    have hNf : fN f := fN_congr h1 hN
    have hw : ∃ w : Int32, (∀ c, c < 32 → (bt w c = true ↔ Dm (fE fl) i c)) ∧ Flow_reckon_L19b f (nI i) = Flow_reckon_52 f (nI i) w := by
      unfold Flow_reckon_L19b
      rw [if_pos (lt10 hi), has_nI (by omega)]
      by_cases hr : bt (f.2.1 0) i = true
      · rw [if_pos hr]
        refine ⟨_, fun c hc => ?_, rfl⟩
        have h5 := reached_spec f hNf (o := some i) (fun k e => by cases e; exact hi) hc
        rw [show oI (some i) = nI i from rfl, hE] at h5
        rw [b_and, bt_not hc, Bool.and_eq_true, Bool.not_eq_true', h2 c hc]
        constructor
        · rintro ⟨g1, g2⟩
          exact ⟨g1, fun q => by rw [h5.mpr q] at g2; cases g2⟩
        · rintro ⟨g1, g2⟩
          refine ⟨g1, ?_⟩
          cases hq : bt (Flow_reachedWithout f (nI i)) c with
          | false => rfl
          | true => exact absurd (h5.mp hq) g2
      · rw [if_neg hr]
        refine ⟨0, fun c hc => ?_, rfl⟩
        rw [b_0]
        constructor
        · intro h; cases h
        · intro h
          exact absurd ((h2 i (by omega)).mpr (Dm_left h)) hr
    obtain ⟨w, hw1, hw2⟩ := hw
    obtain ⟨a1, a2, a3⟩ := add_dom (oput f 1 10 (nI i) w) w (d := i)
    refine ⟨Flow_addDominator (oput f 1 10 (nI i) w) w (nI i), ?_, ?_, fun c hc => ?_, fun b hb c hc => ?_, fun c hc b hb => ?_⟩
    · show Flow_reckon_L19b f (nI i) = _
      rw [hw2]
      unfold Flow_reckon_52
      rw [nI_1]
    · rw [a1 0 (by decide), oput_nI hi (by decide), oR_1, if_neg (by decide)]
      exact h1
    · rw [a2, oput_nI hi (by decide), oR_2]
      exact h2 c hc
    · rw [a1 1 (by decide), oput_nI hi (by decide), oR_1, if_pos rfl, ru_at]
      by_cases hbi : b = i
      · subst hbi
        rw [if_pos rfl]
        exact hw1 c hc
      · rw [if_neg hbi]
        exact h3 b (by omega) c hc
    · rw [a3 c hc, oput_nI hi (by decide), oR_1, if_neg (show ¬ (2 : Nat) = 1 by decide)]
      have h6 := hw1 c (by omega)
      by_cases hwc : bt w c = true
      · rw [if_pos hwc, b_or, bit_nI (by omega) hb, Bool.or_eq_true, decide_eq_true_eq, h4 c hc b hb]
        constructor
        · rintro (⟨g1, g2⟩ | rfl)
          · exact ⟨by omega, g2⟩
          · exact ⟨by omega, h6.mp hwc⟩
        · rintro ⟨g1, g2⟩
          by_cases hbi : b = i
          · exact Or.inr hbi
          · exact Or.inl ⟨by omega, g2⟩
      · rw [if_neg hwc, h4 c hc b hb]
        constructor
        · rintro ⟨g1, g2⟩
          exact ⟨by omega, g2⟩
        · rintro ⟨g1, g2⟩
          refine ⟨?_, g2⟩
          have : b ≠ i := fun e => by
            subst e
            exact hwc (h6.mpr g2)
          omega
  · obtain ⟨h1, h2, h3, h4⟩ := hI
    have hE : fE f = fE fl := fE_congr h1
    have hD : fD f := ⟨fN_congr h1 hN, by rw [hE]; exact h2, by rw [hE]; exact h3, by rw [hE]; exact h4⟩
    obtain ⟨o1, -, o3⟩ := order_spec hD
    refine ⟨Flow_reckon_L78 f 0 0, ?_, o1, ?_⟩
    · show Flow_reckon_L19b f (nI 10) = _
      unfold Flow_reckon_L19b
      rw [if_neg nlt10]
    · rw [o3 0 (by decide)]
      exact h1
  · exact reached_spec fl hN (o := none) (fun k e => by cases e) hc
  · show bt 0 b = true ↔ _
    rw [b_0]
    constructor
    · intro h; cases h
    · rintro ⟨h, -⟩; omega
