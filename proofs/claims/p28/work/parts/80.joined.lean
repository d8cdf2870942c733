/-! WHERE WAYS JOIN, in rows -/
section JOINED
variable {to fl : Ob} {nb : Nat}
noncomputable def jnS (fl : Ob) (S : Int32) (b : Nat) (J : Int32) : Int32 := if bt (S ||| J) b = true then J ||| Flow_frontier fl (nI b) else J
noncomputable def jnR (fl : Ob) (nb : Nat) (S J : Int32) : Int32 := itr (jnS fl S) 0 nb J
noncomputable def jnAll (fl : Ob) (nb : Nat) (S : Int32) (k : Nat) : Int32 := itr (fun _ => jnR fl nb S) 0 k 0
theorem jn_rounds (hnb : to.2.1 0 = nI nb) (hnb1 : nb ≤ 10) (S : Int32) : Maker_whereJoined_L53 to fl S 0 0 = jnAll fl nb S 10 := by
  unfold Maker_whereJoined_L53
  refine (loop_itr (fun a : Int32 × Int32 => Maker_whereJoined_L53b to fl S a.1 a.2) (fun i (s : Int32) => (s, nI i)) (fun _ => jnR fl nb S) (fun s => s) (fun _ _ => True) 10 (fun i s hi _ => ⟨?_, trivial⟩) (fun s _ => ?_) 10 0 0 rfl trivial).1
  · show Maker_whereJoined_L53b to fl S s (nI i) = _
    unfold Maker_whereJoined_L53b
    rw [if_pos (lt10 hi)]
    unfold Maker_whereJoined_L63
    refine (loop_itr (fun a : Int32 × Int32 => Maker_whereJoined_L63b to fl S a.1 (nI i) a.2) (fun j (s : Int32) => (s, nI j)) (jnS fl S) (fun s => .inl (s, nI (i + 1))) (fun _ _ => True) nb (fun j s hj _ => ⟨?_, trivial⟩) (fun s _ => ?_) nb 0 s (by omega) trivial).1
    · show Maker_whereJoined_L63b to fl S s (nI i) (nI j) = _
      unfold Maker_whereJoined_L63b Maker_whereJoined_98 jnS
      rw [hnb, if_pos (show nI j < nI nb from nI_lt hj (by omega)), has_nI (by omega), nI_1]
      by_cases q : bt (S ||| s) j = true
      · rw [if_pos q, if_pos q]
      · rw [if_neg q, if_neg q]
    · show Maker_whereJoined_L63b to fl S s (nI i) (nI nb) = _
      unfold Maker_whereJoined_L63b
      rw [hnb, if_neg (show ¬ nI nb < nI nb from nI_nlt (Nat.le_refl _) (by omega)), nI_1]
  · show Maker_whereJoined_L53b to fl S s (nI 10) = _
    unfold Maker_whereJoined_L53b
    rw [if_neg nlt10]
/-- sources and where they join, as one set -/
noncomputable def jgS (fl : Ob) (b : Nat) (U : Nat → Bool) : Nat → Bool := fun c => U c || (U b && bt (Flow_frontier fl (nI b)) c)
noncomputable def jgR (fl : Ob) (nb : Nat) (U : Nat → Bool) : Nat → Bool := itr (jgS fl) 0 nb U
theorem jgS_eq (S J : Int32) (b : Nat) : (fun c => bt (S ||| jnS fl S b J) c) = jgS fl b (fun c => bt (S ||| J) c) := by
  funext c
  unfold jnS jgS
  by_cases q : bt (S ||| J) b = true
  · rw [if_pos q]
    show _ = (bt (S ||| J) c || (bt (S ||| J) b && bt (Flow_frontier fl (nI b)) c))
    rw [q, b_or, b_or, b_or, Bool.true_and, Bool.or_assoc]
  · rw [if_neg q]
    show _ = (bt (S ||| J) c || (bt (S ||| J) b && bt (Flow_frontier fl (nI b)) c))
    rw [bool_f q, Bool.false_and, Bool.or_false]
theorem jgR_eq (S : Int32) : ∀ (d i : Nat) (J : Int32), (fun c => bt (S ||| itr (jnS fl S) i d J) c) = itr (jgS fl) i d (fun c => bt (S ||| J) c) := by
  intro d
  induction d with
  | zero => intro i J; rfl
  | succ d ih =>
    intro i J
    show (fun c => bt (S ||| itr (jnS fl S) (i + 1) d (jnS fl S i J)) c) = itr (jgS fl) (i + 1) d (jgS fl i (fun c => bt (S ||| J) c))
    rw [ih, jgS_eq]
theorem jgAll_eq (S : Int32) : ∀ (k : Nat), (fun c => bt (S ||| jnAll fl nb S k) c) = itr (fun _ => jgR fl nb) 0 k (fun c => bt (S ||| 0) c) := by
  intro k
  induction k with
  | zero => rfl
  | succ k ih =>
    have e1 : jnAll fl nb S (k + 1) = jnR fl nb S (jnAll fl nb S k) := itr_last _ k 0 0
    have e2 : itr (fun _ => jgR fl nb) 0 (k + 1) (fun c => bt (S ||| 0) c) = jgR fl nb (itr (fun _ => jgR fl nb) 0 k (fun c => bt (S ||| 0) c)) := itr_last _ k 0 _
    rw [e1, e2, ← ih]
    exact jgR_eq S nb 0 _
theorem itr_mono {g : Nat → (Nat → Bool) → Nat → Bool} (hg : ∀ b U c, U c = true → g b U c = true) : ∀ (d i : Nat) (U : Nat → Bool) (c : Nat), U c = true → itr g i d U c = true := by
  intro d
  induction d with
  | zero => intro i U c h; exact h
  | succ d ih => intro i U c h; exact ih (i + 1) (g i U) c (hg i U c h)
theorem jgS_mono (b : Nat) (U : Nat → Bool) (c : Nat) (h : U c = true) : jgS fl b U c = true := by
  unfold jgS
  rw [h]
  rfl
theorem itr_ext {g : Nat → (Nat → Bool) → Nat → Bool} (hg : ∀ b, b < 10 → ∀ U V, (∀ i, i < 10 → U i = V i) → ∀ i, i < 10 → g b U i = g b V i) : ∀ (d i : Nat) (U V : Nat → Bool), i + d ≤ 10 → (∀ j, j < 10 → U j = V j) → ∀ j, j < 10 → itr g i d U j = itr g i d V j := by
  intro d
  induction d with
  | zero => intro i U V _ h; exact h
  | succ d ih => intro i U V hid h; exact ih (i + 1) _ _ (by omega) (hg i (by omega) U V h)
theorem jn_still (hnb1 : nb ≤ 10) (S : Int32) {b : Nat} (hb : b < nb) (h : bt (S ||| jnAll fl nb S 10) b = true) : bt (S ||| jnAll fl nb S 9) b = true := by
  have hst := grow_still (n := 10) (jgR fl nb) (fun U i _ hu => itr_mono jgS_mono nb 0 U i hu) (fun U V huv => itr_ext (fun b hb U V h i hi => by unfold jgS; rw [h i hi, h b hb]) nb 0 U V (by omega) huv) (fun U hu i hi => by
    have : ∀ d j, j + d ≤ 10 → ∀ U : Nat → Bool, (∀ i, i < 10 → U i = false) → ∀ i, i < 10 → itr (jgS fl) j d U i = false := by
      intro d
      induction d with
      | zero => intro j _ U h; exact h
      | succ d ih => intro j hj U h; exact ih (j + 1) (by omega) _ fun i hi => by unfold jgS; rw [h i hi, h j (by omega)]; rfl
    exact this nb 0 (by omega) U hu i hi) (fun c => bt (S ||| 0) c) 9
  have e10 : bt (S ||| jnAll fl nb S 10) b = itr (fun _ => jgR fl nb) 0 10 (fun c => bt (S ||| 0) c) b := congrFun (jgAll_eq S 10) b
  have e9 : bt (S ||| jnAll fl nb S 9) b = itr (fun _ => jgR fl nb) 0 9 (fun c => bt (S ||| 0) c) b := congrFun (jgAll_eq S 9) b
  rcases hst with q | q
  · rw [e9, ← q b (by omega), ← e10]
    exact h
  · rw [e9]
    exact cnt_all q (by omega)
/-- in a round each block that is there brings its frontier -/
theorem jn_in (S : Int32) {b c : Nat} : ∀ (d i : Nat) (J : Int32), i ≤ b → b < i + d → bt (S ||| J) b = true → bt (Flow_frontier fl (nI b)) c = true → bt (itr (jnS fl S) i d J) c = true := by
  have mono : ∀ (d i : Nat) (J : Int32) (x : Nat), bt J x = true → bt (itr (jnS fl S) i d J) x = true := by
    intro d
    induction d with
    | zero => intro i J x h; exact h
    | succ d ih =>
      intro i J x h
      refine ih (i + 1) _ x ?_
      unfold jnS
      by_cases q : bt (S ||| J) i = true
      · rw [if_pos q, b_or, h]; rfl
      · rw [if_neg q]; exact h
  intro d
  induction d with
  | zero => intro i J h1 h2; omega
  | succ d ih =>
    intro i J h1 h2 h3 h4
    by_cases hib : i = b
    · refine mono d (i + 1) _ c ?_
      unfold jnS
      rw [hib, if_pos h3, b_or, h4, Bool.or_true]
    · refine ih (i + 1) _ (by omega) (by omega) ?_ h4
      unfold jnS
      by_cases q : bt (S ||| J) i = true
      · rw [if_pos q, ← Int32.or_assoc, b_or, h3]; rfl
      · rw [if_neg q]; exact h3
theorem jn_clo (hnb1 : nb ≤ 10) (S : Int32) {b c : Nat} (hb : b < nb) (h : bt (S ||| jnAll fl nb S 10) b = true) (hf : bt (Flow_frontier fl (nI b)) c = true) : bt (jnAll fl nb S 10) c = true := by
  have h9 := jn_still hnb1 S hb h
  have e1 : jnAll fl nb S 10 = jnR fl nb S (jnAll fl nb S 9) := itr_last _ 9 0 0
  rw [e1]
  exact jn_in S nb 0 _ (Nat.zero_le _) (by omega) h9 hf
/-- only where something leads -/
theorem jn_from (S : Int32) {c : Nat} (h : bt (jnAll fl nb S 10) c = true) : ∃ b, bt (Flow_frontier fl (nI b)) c = true ∧ b < nb := by
  have one : ∀ (d i : Nat) (J : Int32), bt (itr (jnS fl S) i d J) c = true → bt J c = true ∨ ∃ b, bt (Flow_frontier fl (nI b)) c = true ∧ b < i + d := by
    intro d
    induction d with
    | zero => intro i J h; exact Or.inl h
    | succ d ih =>
      intro i J h
      rcases ih (i + 1) _ h with q | ⟨b, q1, q2⟩
      · unfold jnS at q
        by_cases z : bt (S ||| J) i = true
        · rw [if_pos z, b_or, Bool.or_eq_true] at q
          exact q.imp id fun y => ⟨i, y, by omega⟩
        · rw [if_neg z] at q; exact Or.inl q
      · exact Or.inr ⟨b, q1, by omega⟩
  have all : ∀ k, bt (jnAll fl nb S k) c = true → ∃ b, bt (Flow_frontier fl (nI b)) c = true ∧ b < nb := by
    intro k
    induction k with
    | zero => intro h; exact absurd h (by show ¬ bt 0 c = true; rw [b_0]; decide)
    | succ k ih =>
      intro h
      have e1 : jnAll fl nb S (k + 1) = jnR fl nb S (jnAll fl nb S k) := itr_last _ k 0 0
      rw [e1] at h
      rcases one nb 0 _ h with q | ⟨b, q1, q2⟩
      · exact ih q
      · exact ⟨b, q1, by omega⟩
  exact all 10 h
/-- where a variable is set -/
theorem sources_spec (hnb : to.2.1 0 = nI nb) (hnb1 : nb ≤ 10) {x : Nat} (hx : x < 20) : ∃ S : Int32, Maker_whereJoined to fl (nI x) = jnAll fl nb S 10 ∧ ∀ b, b < 32 → (bt S b = true ↔ b = 0 ∨ (b < nb ∧ bt (to.1 9 b) x = true)) := by
  unfold Maker_whereJoined Maker_whereJoined_L8
  refine loop_cnt (B := fun a : Int32 × Int32 => Maker_whereJoined_L8b to fl (nI x) a.1 a.2) (mk := fun i (s : Int32) => (s, nI i)) (n := nb) (I := fun n S => ∀ b, b < 32 → (bt S b = true ↔ b = 0 ∨ (b < n ∧ bt (to.1 9 b) x = true)))
    (P := fun r => ∃ S : Int32, r = jnAll fl nb S 10 ∧ ∀ b, b < 32 → (bt S b = true ↔ b = 0 ∨ (b < nb ∧ bt (to.1 9 b) x = true))) (fun n S hn hI => ?_) (fun S hI => ⟨_, ?_, S, jn_rounds hnb hnb1 S, hI⟩) nb 0 (Ph_bit 0) (by omega) (fun b hb => ?_)
  · have hB : Maker_whereJoined_L8b to fl (nI x) S (nI n) = if bt (to.1 9 n) x = true then .inl (S ||| Ph_bit (nI n), nI (n + 1)) else .inl (S, nI (n + 1)) := by
      unfold Maker_whereJoined_L8b Maker_whereJoined_41
      rw [hnb, if_pos (show nI n < nI nb from nI_lt hn (by omega)), oat_rs (show n < 10 by omega) (by decide), has_nI hx, nI_1]
    dsimp only
    rw [hB]
    by_cases q : bt (to.1 9 n) x = true
    · rw [if_pos q]
      refine ⟨_, rfl, fun b hb => ?_⟩
      rw [b_or, Bool.or_eq_true, hI b hb, bit_nI (by omega) hb, decide_eq_true_eq]
      constructor
      · rintro ((h | ⟨h1, h2⟩) | h)
        · exact Or.inl h
        · exact Or.inr ⟨by omega, h2⟩
        · rw [h]; exact Or.inr ⟨by omega, q⟩
      · rintro (h | ⟨h1, h2⟩)
        · exact Or.inl (Or.inl h)
        · by_cases z : b = n
          · exact Or.inr z
          · exact Or.inl (Or.inr ⟨by omega, h2⟩)
    · rw [if_neg q]
      refine ⟨S, rfl, fun b hb => ?_⟩
      rw [hI b hb]
      constructor
      · rintro (h | ⟨h1, h2⟩)
        · exact Or.inl h
        · exact Or.inr ⟨by omega, h2⟩
      · rintro (h | ⟨h1, h2⟩)
        · exact Or.inl h
        · have : b ≠ n := fun z => q (by rw [← z]; exact h2)
          exact Or.inr ⟨by omega, h2⟩
  · show Maker_whereJoined_L8b to fl (nI x) S (nI nb) = _
    unfold Maker_whereJoined_L8b
    rw [hnb, if_neg (show ¬ nI nb < nI nb from nI_nlt (Nat.le_refl _) (by omega))]
  · rw [show Ph_bit 0 = Ph_bit (nI 0) from rfl, bit_nI (by decide) hb, decide_eq_true_eq]
    exact ⟨Or.inl, fun q => q.elim id fun z => by omega⟩
end JOINED
