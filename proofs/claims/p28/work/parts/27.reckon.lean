/-! THE FLOW RECKONED: dominators and the order -/
theorem fE_congr {f g : Ob} (h : f.1 0 = g.1 0) : fE f = fE g := by
  funext a b
  unfold fE
  rw [h]
theorem fN_congr {f g : Ob} (h : f.1 0 = g.1 0) (hg : fN g) : fN f := by
  unfold fN
  rw [h]
  exact hg
theorem cnt_all {S : Nat → Bool} {n : Nat} (h : n ≤ cnt S n) {i : Nat} (hi : i < n) : S i = true := by
  cases hs : S i with
  | true => rfl
  | false =>
    have h1 := cnt_lt (S := S) (T := fun _ => true) n (fun _ _ _ => rfl) ⟨i, hi, hs, rfl⟩
    have h2 := cnt_le (fun _ => true) n
    omega
theorem cnt_ins {S : Nat → Bool} {b : Nat} : ∀ n, b < n → S b = false → cnt (fun i => S i || decide (i = b)) n = cnt S n + 1 := by
  intro n
  induction n with
  | zero => intro h; omega
  | succ n ih =>
    intro hb hs
    unfold cnt
    by_cases h : b = n
    · subst h
      rw [cnt_ext (S := fun i => S i || decide (i = b)) (T := S) b (fun i hi => by simp [Nat.ne_of_lt hi])]
      simp [hs]
    · rw [ih (by omega) hs]
      simp only [show (n = b) = False from by simp [Ne.symm h], decide_false, Bool.or_false]
      omega
theorem add_dom (fl : Ob) (below : Int32) {d : Nat} : (∀ j, j ≠ 2 → (Flow_addDominator fl below (nI d)).1 j = fl.1 j) ∧ (Flow_addDominator fl below (nI d)).2 = fl.2 ∧ ∀ c, c < 10 → (Flow_addDominator fl below (nI d)).1 2 c = if bt below c = true then fl.1 2 c ||| Ph_bit (nI d) else fl.1 2 c := by
  unfold Flow_addDominator
  refine loop_cnt (B := fun a : Int32 × Ob => Flow_addDominator_L2b a.2 below (nI d) a.1) (mk := fun i s => (nI i, s)) (n := 10)
    (I := fun k s => (∀ j, j ≠ 2 → s.1 j = fl.1 j) ∧ s.2 = fl.2 ∧ ∀ c, s.1 2 c = if c < k ∧ bt below c = true then fl.1 2 c ||| Ph_bit (nI d) else fl.1 2 c)
    (P := fun f => (∀ j, j ≠ 2 → f.1 j = fl.1 j) ∧ f.2 = fl.2 ∧ ∀ c, c < 10 → f.1 2 c = if bt below c = true then fl.1 2 c ||| Ph_bit (nI d) else fl.1 2 c) (fun i s hi hI => ?_) (fun s hI => ?_) 10 0 fl rfl ⟨fun _ _ => rfl, rfl, fun c => by simp⟩
  · obtain ⟨h1, h2, h3⟩ := hI
    by_cases h : bt below i = true
    · refine ⟨oput s 2 10 (nI i) ((oat s 2 10 (nI i)) ||| (Ph_bit (nI d))), ?_, fun j hj => ?_, ?_, fun c => ?_⟩
      · show Flow_addDominator_L2b s below (nI d) (nI i) = _
        unfold Flow_addDominator_L2b Flow_addDominator_37
        rw [if_pos (lt10 hi), has_nI (by omega), if_pos h, nI_1]
      · rw [oput_nI hi (by decide), oR_1, if_neg hj]
        exact h1 j hj
      · rw [oput_nI hi (by decide), oR_2]
        exact h2
      · rw [oput_nI hi (by decide), oR_1, if_pos rfl, ru_at, oat_nI hi (by decide)]
        by_cases hc : c = i
        · subst hc
          rw [if_pos rfl, if_pos ⟨by omega, h⟩, h3 c, if_neg (by omega)]
        · rw [if_neg hc, h3 c]
          by_cases hc2 : c < i
          · have : c < i + 1 := by omega
            simp [hc2, this]
          · have : ¬ c < i + 1 := by omega
            simp [hc2, this]
    · refine ⟨s, ?_, h1, h2, fun c => ?_⟩
      · show Flow_addDominator_L2b s below (nI d) (nI i) = _
        unfold Flow_addDominator_L2b Flow_addDominator_37
        rw [if_pos (lt10 hi), has_nI (by omega), if_neg h, nI_1]
      · rw [h3 c]
        by_cases hc : c = i
        · subst hc
          simp [h]
        · by_cases hc2 : c < i
          · have : c < i + 1 := by omega
            simp [hc2, this]
          · have : ¬ c < i + 1 := by omega
            simp [hc2, this]
  · refine ⟨s, ?_, hI.1, hI.2.1, fun c hc => ?_⟩
    · show Flow_addDominator_L2b s below (nI d) (nI 10) = _
      unfold Flow_addDominator_L2b
      rw [if_neg nlt10]
    · rw [hI.2.2 c]
      simp [hc]
/-- what holds of a flow that is reckoned, but for its order -/
def fD (fl : Ob) : Prop := fN fl ∧ (∀ c, c < 32 → (bt (fl.2.1 0) c = true ↔ RW (fE fl) none c)) ∧ (∀ b, b < 10 → ∀ c, c < 32 → (bt (fl.1 1 b) c = true ↔ Dm (fE fl) b c)) ∧ (∀ c, c < 10 → ∀ b, b < 32 → (bt (fl.1 2 c) b = true ↔ b < 10 ∧ Dm (fE fl) b c))
def fReady (fl : Ob) (done : Int32) (b : Nat) : Prop := b < 10 ∧ RW (fE fl) none b ∧ bt done b = false ∧ ∀ a, a < 10 → Dm (fE fl) a b → a ≠ b → bt done a = true
theorem RW_lt10 {fl : Ob} {o : Option Nat} {v : Nat} (h : RW (fE fl) o v) : v < 10 := RW_ind (P := fun v => v < 10) (fun _ => by decide) (fun _ _ _ _ he _ _ => he.2.1) h
theorem ready_iff {fl : Ob} (hD : fD fl) (done : Int32) {b : Nat} (hb : b < 10) : (Ph_has ((fl.2.1 0) &&& (done ^^^ (-1))) (nI b) = true ∧ (oat fl 2 10 (nI b)) &&& (done ^^^ (-1)) = Ph_bit (nI b)) ↔ fReady fl done b := by
  obtain ⟨-, h1, -, h3⟩ := hD
  rw [has_nI (by omega), b_and, bt_not (by omega), oat_nI hb (by decide), Bool.and_eq_true, Bool.not_eq_true']
  constructor
  · rintro ⟨⟨g1, g2⟩, g3⟩
    refine ⟨hb, (h1 b (by omega)).mp g1, g2, fun a ha hab hne => ?_⟩
    have h4 : bt (fl.1 2 b) a = true := (h3 b hb a (by omega)).mpr ⟨ha, hab⟩
    have h5 := congrArg (fun x => bt x a) g3
    simp only [b_and, bt_not (show a < 32 by omega), bit_nI (show b < 20 by omega) (show a < 32 by omega), h4, Bool.true_and, hne, decide_false] at h5
    simpa using h5
  · rintro ⟨-, g1, g2, g3⟩
    refine ⟨⟨(h1 b (by omega)).mpr g1, g2⟩, b_ext fun i hi => ?_⟩
    rw [b_and, bt_not hi, bit_nI (by omega) hi]
    by_cases hib : i = b
    · subst hib
      have h4 : bt (fl.1 2 i) i = true := (h3 i hb i (by omega)).mpr ⟨hb, Dm_refl g1⟩
      simp [h4, g2]
    · cases h4 : bt (fl.1 2 b) i with
      | false => simp [hib]
      | true =>
        obtain ⟨h5, h6⟩ := (h3 b hb i hi).mp h4
        simp [g3 i h5 h6 hib, hib]
theorem first_ready {fl : Ob} (hD : fD fl) (done : Int32) : (∃ b, fReady fl done b ∧ Flow_firstReady fl done = nI b) ∨ (Flow_firstReady fl done = -1 ∧ ∀ b, ¬ fReady fl done b) := by
  unfold Flow_firstReady
  refine loop_brk (B := fun a : Int32 => Flow_firstReady_L2b fl done a) (mk := fun i (_ : Unit) => nI i) (n := 10) (I := fun k _ => ∀ b, b < k → ¬ fReady fl done b) (P := fun r => (∃ b, fReady fl done b ∧ r = nI b) ∨ (r = -1 ∧ ∀ b, ¬ fReady fl done b)) (fun i s hi hI => ?_) (fun s hI => ?_) 10 0 () rfl (fun b hb => by omega)
  · have hr := ready_iff hD done hi
    have hB : Flow_firstReady_L2b fl done (nI i) = if Ph_has ((fl.2.1 0) &&& (done ^^^ (-1))) (nI i) = true ∧ (oat fl 2 10 (nI i)) &&& (done ^^^ (-1)) = Ph_bit (nI i) then .inr (nI i) else .inl (nI (i + 1)) := by
      unfold Flow_firstReady_L2b Flow_firstReady_44
      rw [if_pos (lt10 hi), nI_1]
      by_cases c1 : Ph_has ((fl.2.1 0) &&& (done ^^^ (-1))) (nI i) = true
      · by_cases c2 : (oat fl 2 10 (nI i)) &&& (done ^^^ (-1)) = Ph_bit (nI i)
        · rw [if_pos c1, if_pos c2, if_pos ⟨c1, c2⟩]
        · rw [if_pos c1, if_neg c2, if_neg (fun h => c2 h.2)]
      · rw [if_neg c1, if_neg (fun h => c1 h.1)]
    by_cases hready : fReady fl done i
    · right
      exact ⟨nI i, by show Flow_firstReady_L2b fl done (nI i) = _; rw [hB, if_pos (hr.mpr hready)], Or.inl ⟨i, hready, rfl⟩⟩
    · left
      refine ⟨(), by show Flow_firstReady_L2b fl done (nI i) = _; rw [hB, if_neg (fun h => hready (hr.mp h))], fun b hb => ?_⟩
      by_cases h : b = i
      · subst h; exact hready
      · exact hI b (by omega)
  · refine ⟨-1, ?_, Or.inr ⟨rfl, fun b hb => hI b hb.1 hb⟩⟩
    show Flow_firstReady_L2b fl done (nI 10) = _
    unfold Flow_firstReady_L2b
    rw [if_neg nlt10]
theorem ready_ex {fl : Ob} (hD : fD fl) (done : Int32) : ∀ (n c : Nat), cnt (fun a => bt (fl.1 2 c) a) 10 ≤ n → RW (fE fl) none c → bt done c = false → ∃ b, fReady fl done b := by
  obtain ⟨-, -, -, h3⟩ := hD
  intro n
  induction n with
  | zero =>
    intro c hn hc _
    have hc10 := RW_lt10 hc
    have := cnt_lt (S := fun _ => false) (T := fun a => bt (fl.1 2 c) a) 10 (fun _ _ e => by cases e) ⟨c, hc10, rfl, (h3 c hc10 c (by omega)).mpr ⟨hc10, Dm_refl hc⟩⟩
    omega
  | succ n ih =>
    intro c hn hc hd
    have hc10 := RW_lt10 hc
    by_cases h : ∃ a, a < 10 ∧ Dm (fE fl) a c ∧ a ≠ c ∧ bt done a = false
    · obtain ⟨a, ha, hac, hne, hda⟩ := h
      refine ih a ?_ (Dm_left hac) hda
      have := cnt_lt (S := fun z => bt (fl.1 2 a) z) (T := fun z => bt (fl.1 2 c) z) 10 (fun z hz hza => (h3 c hc10 z (by omega)).mpr ⟨hz, Dm_trans ((h3 a ha z (by omega)).mp hza).2 hac⟩) ⟨c, hc10, ?_, (h3 c hc10 c (by omega)).mpr ⟨hc10, Dm_refl hc⟩⟩
      · omega
      · cases hq : bt (fl.1 2 a) c with
        | false => rfl
        | true => exact absurd (Dm_anti hac ((h3 a ha c (by omega)).mp hq).2) hne
    · refine ⟨c, hc10, hc, hd, fun a ha hac hne => ?_⟩
      cases hq : bt done a with
      | true => rfl
      | false => exact absurd ⟨a, ha, hac, hne, hq⟩ h
/-- the order -/
def fO (fl : Ob) (n : Nat) : Prop := (∀ j, j < n → fl.1 3 j = -1 ∨ ∃ b, b < 10 ∧ RW (fE fl) none b ∧ fl.1 3 j = nI b ∧ ∀ a, Dm (fE fl) a b → a ≠ b → ∃ i, i < j ∧ fl.1 3 i = nI a) ∧ (∀ i j b, i < j → j < n → b < 10 → fl.1 3 i = nI b → fl.1 3 j ≠ nI b)
def fR (fl : Ob) : Prop := fD fl ∧ fO fl 10 ∧ ∀ c, RW (fE fl) none c → ∃ j, j < 10 ∧ fl.1 3 j = nI c
theorem nI_inj {a b : Nat} (ha : a < 2 ^ 31) (hb : b < 2 ^ 31) (h : nI a = nI b) : a = b := (nI_eq ha hb).mp h
theorem nI_m1 {a : Nat} (ha : a < 2 ^ 31) : nI a ≠ -1 := by
  intro h
  have h1 : ¬ nI a < 0 := nI_pos ha
  rw [h] at h1
  exact h1 (by decide)
