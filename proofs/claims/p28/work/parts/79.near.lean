/-! NEAREST DOMINATORS AND FRONTIERS, in rows -/
section NEAR
variable {fl : Ob}
theorem near_spec (hR : fR fl) {b : Nat} (hb : RW (fE fl) none b) : (Flow_nearestDominator fl (nI b) = -1 ∧ ∀ d, Dm (fE fl) d b → d = b) ∨ ∃ d p, p < 10 ∧ Flow_nearestDominator fl (nI b) = nI d ∧ fl.1 3 p = nI d ∧ d < 10 ∧ Dm (fE fl) d b ∧ d ≠ b ∧ ∀ p' e, p < p' → p' < 10 → fl.1 3 p' = nI e → e < 10 → e ≠ b → ¬ Dm (fE fl) e b := by
  have hb10 := RW_lt10 hb
  have hdom : ∀ e, e < 10 → (Ph_has (oat fl 2 10 (nI b)) (nI e) = true ↔ Dm (fE fl) e b) := fun e he => by
    rw [oat_rs hb10 (by decide), has_nI (by omega)]
    rw [hR.1.2.2.2 b hb10 e (by omega)]
    exact ⟨fun q => q.2, fun q => ⟨he, q⟩⟩
  have key : (fun r : Int32 => (r = -1 ∧ ∀ p e, p < 10 → fl.1 3 p = nI e → e < 10 → e ≠ b → ¬ Dm (fE fl) e b) ∨ ∃ d p, p < 10 ∧ r = nI d ∧ fl.1 3 p = nI d ∧ d < 10 ∧ Dm (fE fl) d b ∧ d ≠ b ∧ ∀ p' e, p < p' → p' < 10 → fl.1 3 p' = nI e → e < 10 → e ≠ b → ¬ Dm (fE fl) e b) (Flow_nearestDominator fl (nI b)) := by
    unfold Flow_nearestDominator Flow_nearestDominator_L4
    refine loop_cnt (B := fun a : Int32 × Int32 => Flow_nearestDominator_L4b fl (nI b) a.1 a.2) (mk := fun i (s : Int32) => (s, nI i)) (n := 10) (I := fun n r => (r = -1 ∧ ∀ p e, p < n → fl.1 3 p = nI e → e < 10 → e ≠ b → ¬ Dm (fE fl) e b) ∨ ∃ d p, p < n ∧ r = nI d ∧ fl.1 3 p = nI d ∧ d < 10 ∧ Dm (fE fl) d b ∧ d ≠ b ∧ ∀ p' e, p < p' → p' < n → fl.1 3 p' = nI e → e < 10 → e ≠ b → ¬ Dm (fE fl) e b)
      (P := fun r : Int32 => (r = -1 ∧ ∀ p e, p < 10 → fl.1 3 p = nI e → e < 10 → e ≠ b → ¬ Dm (fE fl) e b) ∨ ∃ d p, p < 10 ∧ r = nI d ∧ fl.1 3 p = nI d ∧ d < 10 ∧ Dm (fE fl) d b ∧ d ≠ b ∧ ∀ p' e, p < p' → p' < 10 → fl.1 3 p' = nI e → e < 10 → e ≠ b → ¬ Dm (fE fl) e b) (fun n r hn hI => ?_) (fun r hI => ⟨r, ?_, hI⟩) 10 0 (-1) rfl (Or.inl ⟨rfl, fun p e hp => by omega⟩)
    · have hB : Flow_nearestDominator_L4b fl (nI b) r (nI n) = if fl.1 3 n = nI b then .inl (r, nI (n + 1)) else if Ph_has (oat fl 2 10 (nI b)) (fl.1 3 n) = true then .inl (fl.1 3 n, nI (n + 1)) else .inl (r, nI (n + 1)) := by
        unfold Flow_nearestDominator_L4b Flow_nearestDominator_45
        rw [if_pos (lt10 hn), oat_rs hn (by decide), nI_1]
      dsimp only
      rw [hB]
      have keep : (∀ e, fl.1 3 n = nI e → e < 10 → e ≠ b → ¬ Dm (fE fl) e b) → (r = -1 ∧ ∀ p e, p < n + 1 → fl.1 3 p = nI e → e < 10 → e ≠ b → ¬ Dm (fE fl) e b) ∨ ∃ d p, p < n + 1 ∧ r = nI d ∧ fl.1 3 p = nI d ∧ d < 10 ∧ Dm (fE fl) d b ∧ d ≠ b ∧ ∀ p' e, p < p' → p' < n + 1 → fl.1 3 p' = nI e → e < 10 → e ≠ b → ¬ Dm (fE fl) e b := fun q => by
        rcases hI with ⟨h1, h2⟩ | ⟨d, p, h1, h2, h3, h4, h5, h6, h7⟩
        · refine Or.inl ⟨h1, fun p e hp => ?_⟩
          by_cases z : p = n
          · rw [z]; exact q e
          · exact h2 p e (by omega)
        · refine Or.inr ⟨d, p, by omega, h2, h3, h4, h5, h6, fun p' e hp hp' => ?_⟩
          by_cases z : p' = n
          · rw [z]; exact q e
          · exact h7 p' e hp (by omega)
      by_cases q1 : fl.1 3 n = nI b
      · rw [if_pos q1]
        exact ⟨r, rfl, keep fun e he he10 heb => absurd (nI_inj (by omega) (by omega) (he.symm.trans q1)) heb⟩
      · rw [if_neg q1]
        rcases hR.2.1.1 n hn with e | ⟨d, hd, hdr, e, -⟩
        · rw [e, has_m1, if_neg (by decide)]
          exact ⟨r, rfl, keep fun e' he' he10 => by rw [e] at he'; exact absurd he'.symm (nI_m1 (by omega))⟩
        · rw [e]
          by_cases q2 : Ph_has (oat fl 2 10 (nI b)) (nI d) = true
          · rw [if_pos q2]
            exact ⟨nI d, rfl, Or.inr ⟨d, n, by omega, rfl, e, hd, (hdom d hd).mp q2, fun z => q1 (by rw [e, z]), fun p' e' hp hp' => by omega⟩⟩
          · rw [if_neg q2]
            refine ⟨r, rfl, keep fun e' he' he10 heb hdm => q2 ((hdom d hd).mpr ?_)⟩
            have : d = e' := nI_inj (by omega) (by omega) (e.symm.trans he')
            rw [this]; exact hdm
    · show Flow_nearestDominator_L4b fl (nI b) r (nI 10) = _
      unfold Flow_nearestDominator_L4b
      rw [if_neg nlt10]
  rcases key with ⟨h1, h2⟩ | h
  · refine Or.inl ⟨h1, fun d hd => Classical.byContradiction fun q => ?_⟩
    have hdr := Dm_left hd
    obtain ⟨p, hp, ep⟩ := hR.2.2 d hdr
    exact h2 p d hp ep (RW_lt10 hdr) q hd
  · exact Or.inr h
/-- of a block that is reached and not the first one -/
noncomputable def idF (fl : Ob) (b : Nat) : Nat := tn (Flow_nearestDominator fl (nI b))
theorem near_0 (hR : fR fl) : Flow_nearestDominator fl (nI 0) = -1 := by
  have h0 : RW (fE fl) none 0 := RW_base (by simp)
  rcases near_spec hR h0 with ⟨h, -⟩ | ⟨d, p, -, -, -, -, h, hne, -⟩
  · exact h
  · exact absurd (Classical.byContradiction fun q => h.2 (RW_base fun e => q (Option.some.inj e))) hne
theorem idF_ok (hR : fR fl) : idmOk (fE fl) (idF fl) ∧ ∀ b, RW (fE fl) none b → b ≠ 0 → Flow_nearestDominator fl (nI b) = nI (idF fl b) ∧ idF fl b < 10 := by
  have main : ∀ b, RW (fE fl) none b → b ≠ 0 → (Dm (fE fl) (idF fl b) b ∧ idF fl b ≠ b ∧ ∀ d, Dm (fE fl) d b → d ≠ b → Dm (fE fl) d (idF fl b)) ∧ Flow_nearestDominator fl (nI b) = nI (idF fl b) ∧ idF fl b < 10 := fun b hb hb0 => by
    rcases near_spec hR hb with ⟨-, h⟩ | ⟨d, p, hp, h1, h2, h3, h4, h5, h6⟩
    · exact absurd (h 0 (Dm_root hb)).symm hb0
    · have e : idF fl b = d := by unfold idF; rw [h1, tn_nI (by omega)]
      rw [e]
      refine ⟨⟨h4, h5, fun x hx hxb => ?_⟩, h1, h3⟩
      rcases Dm_total hx h4 with q | q
      · exact q
      · by_cases hxd : x = d
        · rw [hxd]; exact Dm_refl (Dm_left h4)
        · exfalso
          have hxr := Dm_left hx
          obtain ⟨px, hpx, epx⟩ := hR.2.2 x hxr
          have hle : px ≤ p := Nat.le_of_not_lt fun z => h6 px x z hpx epx (RW_lt10 hxr) hxb hx
          rcases hR.2.1.1 px hpx with e' | ⟨y, hy, hyr, ey, hdoms⟩
          · rw [epx] at e'
            exact nI_m1 (by have := RW_lt10 hxr; omega) e'
          · have : x = y := nI_inj (by have := RW_lt10 hxr; omega) (by omega) (epx.symm.trans ey)
            subst this
            obtain ⟨i, hi, ei⟩ := hdoms d q fun z => hxd z.symm
            rcases Nat.lt_or_ge i p with z | z
            · exact hR.2.1.2 i p d z hp h3 ei h2
            · omega
  exact ⟨fun b hb hb0 => (main b hb hb0).1, fun b hb hb0 => (main b hb hb0).2⟩
/-- frontiers -/
theorem front_spec (hR : fR fl) {b c : Nat} (hb : b < 10) (hc : c < 32) : bt (Flow_frontier fl (nI b)) c = true ↔ (∃ o, Dm (fE fl) b o ∧ fE fl o c) ∧ ¬ (Dm (fE fl) b c ∧ b ≠ c) := by
  have hdm : ∀ o, o < 32 → (bt (fl.1 1 b) o = true ↔ Dm (fE fl) b o) := fun o ho => hR.1.2.2.1 b hb o ho
  have key : (fun r : Int32 => bt r c = true ↔ (∃ o, Dm (fE fl) b o ∧ fE fl o c) ∧ ¬ (Dm (fE fl) b c ∧ b ≠ c)) (Flow_frontier fl (nI b)) := by
    unfold Flow_frontier Flow_frontier_L14
    rw [oat_rs hb (by decide)]
    refine loop_cnt (B := fun a : Int32 × Int32 => Flow_frontier_L14b fl (nI b) (fl.1 1 b) a.1 a.2) (mk := fun i (s : Int32) => (s, nI i)) (n := 10) (I := fun n r => bt r c = true ↔ ∃ o, o < n ∧ Dm (fE fl) b o ∧ bt (fl.1 0 o) c = true)
      (P := fun r : Int32 => bt r c = true ↔ (∃ o, Dm (fE fl) b o ∧ fE fl o c) ∧ ¬ (Dm (fE fl) b c ∧ b ≠ c)) (fun n r hn hI => ?_) (fun r hI => ?_) 10 0 0 rfl (by rw [b_0]; exact ⟨(fun q => by cases q), fun ⟨o, ho, _⟩ => by omega⟩)
    · have hB : Flow_frontier_L14b fl (nI b) (fl.1 1 b) r (nI n) = if bt (fl.1 1 b) n = true then .inl (r ||| fl.1 0 n, nI (n + 1)) else .inl (r, nI (n + 1)) := by
        unfold Flow_frontier_L14b Flow_frontier_42
        rw [if_pos (lt10 hn), has_nI (by omega), oat_rs hn (by decide), nI_1]
      dsimp only
      rw [hB]
      by_cases q : bt (fl.1 1 b) n = true
      · rw [if_pos q]
        refine ⟨r ||| fl.1 0 n, rfl, ?_⟩
        rw [b_or, Bool.or_eq_true, hI]
        constructor
        · rintro (⟨o, h1, h2, h3⟩ | h)
          · exact ⟨o, by omega, h2, h3⟩
          · exact ⟨n, by omega, (hdm n (by omega)).mp q, h⟩
        · rintro ⟨o, h1, h2, h3⟩
          by_cases z : o = n
          · rw [z] at h3; exact Or.inr h3
          · exact Or.inl ⟨o, by omega, h2, h3⟩
      · rw [if_neg q]
        refine ⟨r, rfl, ?_⟩
        rw [hI]
        constructor
        · rintro ⟨o, h1, h2, h3⟩
          exact ⟨o, by omega, h2, h3⟩
        · rintro ⟨o, h1, h2, h3⟩
          have : o ≠ n := fun z => q ((hdm n (by omega)).mpr (by rw [← z]; exact h2))
          exact ⟨o, by omega, h2, h3⟩
    · refine ⟨_, by show Flow_frontier_L14b fl (nI b) (fl.1 1 b) r (nI 10) = _; unfold Flow_frontier_L14b; rw [if_neg nlt10], ?_⟩
      rw [b_and, bt_not hc, b_and, bt_not hc, bit_nI (by omega) hc, Bool.and_eq_true, hI]
      have h2 : ((!(bt (fl.1 1 b) c && !decide (c = b))) = true) ↔ ¬ (Dm (fE fl) b c ∧ b ≠ c) := by
        rw [← hdm c hc]
        cases q : bt (fl.1 1 b) c with
        | false => simp
        | true =>
          by_cases z : c = b
          · simp [z]
          · simp [z, Ne.symm z]
      rw [h2]
      constructor
      · rintro ⟨⟨o, h1, h3, h4⟩, h5⟩
        have ho : c < 10 := Nat.lt_of_not_le fun z => by
          rw [hR.1.1 o h1 c z hc] at h4
          cases h4
        exact ⟨⟨o, h3, h1, ho, h4⟩, h5⟩
      · rintro ⟨⟨o, h3, h4⟩, h5⟩
        exact ⟨⟨o, h4.1, h3, h4.2.2⟩, h5⟩
  exact key
end NEAR
