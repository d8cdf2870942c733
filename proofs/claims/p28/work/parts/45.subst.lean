/-! arguments may become others that are held to be the same; values that nobody uses then may be left out -/
section SUBST
variable {A B : AF} {pl : Pl} {C : Nat → Prop}
def nlo (lost : Nat → Bool) (a : Ag) : Prop := ∀ z, a = .inl z → lost z = false
theorem evA_nl {lost : Nat → Bool} {H H' : Hd} (h : agD lost H H') {a : Ag} (ha : nlo lost a) : evA H' a = evA H a := evA_ag h ha
theorem evK_map {lost : Nat → Bool} {σ : Ag → Ag} {H H' : Hd} {u k : Nat} (h : agD lost H H') (hu : aAg B u = (aAg A u).map σ) (ha : ∀ a, a ∈ aAg A u → evA H (σ a) = evA H a ∧ nlo lost (σ a)) : evK B H' u k = evK A H u k := by
  unfold evK
  rw [hu, List.getElem?_map]
  cases hg : (aAg A u)[k]? with
  | none => rfl
  | some a =>
    obtain ⟨h1, h2⟩ := ha a (List.mem_of_getElem? hg)
    show evA H' (σ a) = evA H a
    rw [evA_nl h h2, h1]
theorem agD.set {lost : Nat → Bool} {H H' : Hd} (h : agD lost H H') (u : Nat) (x : Int32) : agD lost (uH H u x) (uH H' u x) := by
  intro z hz
  unfold uH
  by_cases hzu : z = u
  · rw [if_pos hzu, if_pos hzu]
  · rw [if_neg hzu, if_neg hzu]
    exact h z hz
theorem agD.lost {lost : Nat → Bool} {H H' : Hd} (h : agD lost H H') {u : Nat} (hu : lost u = true) (x : Int32) : agD lost (uH H u x) H' := by
  intro z hz
  unfold uH
  rw [if_neg (fun q => by rw [q, hu] at hz; cases hz)]
  exact h z hz
theorem subst_sim {P : Nat → List Nat → Hd → Prop} {σ : Ag → Ag} {lost : Nat → Bool} (hP : PInv A P) (hPC : ∀ b l H, P b l H → C b)
    (hkd : ∀ v, aKd B v = aKd A v) (hls : ∀ b, C b → aLs B b = (aLs A b).filter fun v => !lost v) (hed : ∀ b, C b → aEd B b = aEd A b) (hek : ∀ b, C b → aEk B b = aEk A b) (htg : ∀ w, aTg B w = aTg A w)
    (hag : ∀ u, u < 140 → lost u = false → aAg B u = (aAg A u).map σ) (hagE : ∀ b, C b → aAg B (140 + b) = (aAg A (140 + b)).map σ)
    (h140 : ∀ b v, C b → v ∈ aLs A b → v < 140)
    (use1 : ∀ b l1 u l2 H, aLs A b = l1 ++ u :: l2 → P b l1 H → aKd A u ≠ 9 → lost u = false → ∀ a, a ∈ aAg A u → evA H (σ a) = evA H a ∧ nlo lost (σ a))
    (use2 : ∀ b H, P b (aLs A b) H → ∀ a, a ∈ aAg A (140 + b) → evA H (σ a) = evA H a ∧ nlo lost (σ a))
    (use3 : ∀ b H t u k a, P b (aLs A b) H → aEk A b ≠ 0 → aTg A (wyA A b H) = some t → u ∈ aLs A t → aKd A u = 9 → lost u = false → edI A t (wyA A b H) = some k → (aAg A u)[k]? = some a → evA H (σ a) = evA H a ∧ nlo lost (σ a))
    (la : ∀ b l1 u l2 H m, aLs A b = l1 ++ u :: l2 → P b l1 H → aKd A u ≠ 9 → lost u = true → (actM (aKd A u) (evK A H u 0) (evK A H u 1) m).2 = (m, false))
    (x y : Int32) : noWorse (runA A x y) (runA B x y) := by
  have hmem : ∀ b, C b → ∀ v, lost v = false → (v ∈ aLs B b ↔ v ∈ aLs A b) := fun b hb v hv => by
    rw [hls b hb, List.mem_filter]
    simp [hv]
  have h0m : aLs A 0 = aLs A 0 := rfl
  refine msim (T := fun b l H H' => P b l H ∧ agD lost H H') (lost := lost) hkd (fun b H H' hT => hls b (hPC _ _ _ hT.1)) (fun b l1 u l2 H H' m hl hT h9 hlo => ?_) (fun b l1 u l2 H H' m hl hT h9 hlo => ?_) (fun b l1 u l2 H H' hl hT h9 => ?_) (fun b H H' hT h0 => ?_) (fun b H H' t hT h0 ht => ?_) x y ⟨hP.1 x y, fun z hz => ?_⟩
  · obtain ⟨hp, hd⟩ := hT
    have hu := use1 b l1 u l2 H hl hp h9 hlo
    have hu140 : u < 140 := h140 b u (hPC _ _ _ hp) (by rw [hl]; exact List.mem_append_right _ List.mem_cons_self)
    exact ⟨evK_map hd (hag u hu140 hlo) hu, evK_map hd (hag u hu140 hlo) hu, fun hf => ⟨hP.2.1 b l1 u l2 H m hl hp h9 hf, hd.set u _⟩⟩
  · obtain ⟨hp, hd⟩ := hT
    have hla := la b l1 u l2 H m hl hp h9 hlo
    exact ⟨hla, hP.2.1 b l1 u l2 H m hl hp h9 (by rw [hla]), hd.lost hlo _⟩
  · exact ⟨hP.2.2.1 b l1 u l2 H hl hT.1 h9, hT.2⟩
  · have hb := hPC _ _ _ hT.1
    exact ⟨by rw [hek b hb]; exact h0, evK_map hT.2 (hagE b hb) (use2 b H hT.1)⟩
  · obtain ⟨hp, hd⟩ := hT
    have hb := hPC _ _ _ hp
    have hev : evK B H' (140 + b) 0 = evK A H (140 + b) 0 := evK_map hd (hagE b hb) (use2 b H hp)
    have hw : wyA B b H' = wyA A b H := by
      unfold wyA
      rw [hek b hb, hev]
    have hp2 := hP.2.2.2 b H t hp h0 ht
    have htC : C t := hPC _ _ _ hp2
    rw [hw, hek b hb, htg]
    have hI : edI B t (wyA A b H) = edI A t (wyA A b H) := by
      unfold edI
      rw [hed t htC]
    rw [hI]
    refine ⟨h0, id, ht, hp2, fun z hz => ?_⟩
    unfold phA
    by_cases hq : z ∈ aLs A t ∧ aKd A z = 9
    · rw [if_pos hq, if_pos ⟨(hmem t htC z hz).mpr hq.1, by rw [hkd]; exact hq.2⟩]
      cases he : edI A t (wyA A b H) with
      | none => rfl
      | some k =>
        show evK B H' z k = evK A H z k
        unfold evK
        rw [hag z (h140 t z htC hq.1) hz, List.getElem?_map]
        cases hg : (aAg A z)[k]? with
        | none => rfl
        | some a =>
          obtain ⟨h1, h2⟩ := use3 b H t z k a hp h0 ht hq.1 hq.2 hz he hg
          show evA H' (σ a) = evA H a
          rw [evA_nl hd h2, h1]
    · rw [if_neg hq, if_neg (fun q => hq ⟨(hmem t htC z hz).mp q.1, by rw [← hkd]; exact q.2⟩)]
      exact hd z hz
  · unfold phA
    have hC0 := hPC _ _ _ (hP.1 x y)
    by_cases hq : z ∈ aLs A 0 ∧ aKd A z = 9
    · rw [if_pos hq, if_pos ⟨(hmem 0 hC0 z hz).mpr hq.1, by rw [hkd]; exact hq.2⟩]
      rfl
    · rw [if_neg hq, if_neg (fun q => hq ⟨(hmem 0 hC0 z hz).mp q.1, by rw [← hkd]; exact q.2⟩)]
end SUBST
/-! what holds of values that are there -/
section HOLDS
variable {A : AF} {pl : Pl} {C : Nat → Prop}
/-- reckoned -/
def rck (A : AF) (v : Nat) : Prop := 1 ≤ aKd A v ∧ aKd A v ≤ 5
def isEq (A : AF) (H : Hd) (v : Nat) : Prop := H v = Ph_reckoned (nI (aKd A v)) (evK A H v 0) (evK A H v 1)
theorem evA_uH {H : Hd} {u : Nat} {x : Int32} {a : Ag} (h : a ≠ .inl u) : evA (uH H u x) a = evA H a := by
  cases a with
  | inr n => rfl
  | inl v =>
    show uH H u x v = H v
    unfold uH
    rw [if_neg (fun e => h (by rw [e]))]
theorem evK_ext {H H' : Hd} {u k : Nat} (h : ∀ a, a ∈ aAg A u → evA H' a = evA H a) : evK A H' u k = evK A H u k := by
  unfold evK
  cases hg : (aAg A u)[k]? with
  | none => rfl
  | some a => exact h a (List.mem_of_getElem? hg)
theorem act_rck {k : Nat} {p q : Int32} {m : Me} (h1 : 1 ≤ k) (h2 : k ≤ 5) : (actM k p q m).1 = Ph_reckoned (nI k) p q := by
  unfold actM
  rw [if_neg (by omega), if_neg (by omega), if_neg (by omega), if_neg (by omega)]
theorem act_rck2 {k : Nat} {p q : Int32} {m : Me} (h1 : 1 ≤ k) (h2 : k ≤ 5) : (actM k p q m).2 = (m, decide (k = 4 ∧ q = 0)) := by
  unfold actM
  rw [if_neg (by omega), if_neg (by omega), if_neg (by omega), if_neg (by omega)]
/-- each reckoned value that is there is what its arguments give, and trapped none -/
theorem PInv_eq (hg : gd A pl C) (hc : clo A C) : PInv A (fun b l H => C b ∧ ∀ v, rck A v → 6 ≤ v → avl A pl C b l v → isEq A H v ∧ (aKd A v = 4 → evK A H v 1 ≠ 0)) := by
  have hC := PInv_C hg hc
  refine ⟨fun x y => ⟨hg.2.1.1, fun v hv h6 ha => ?_⟩, fun b l1 u l2 H m hl hp h9 hf => ⟨hp.1, fun v hv h6 ha => ?_⟩, fun b l1 u l2 H hl hp h9 => ⟨hp.1, fun v hv h6 ha => hp.2 v hv h6 ?_⟩, fun b H t hp h0 ht => ⟨hC.2.2.2 b H t hp.1 h0 ht, fun v hv h6 ha => ?_⟩⟩
  · rcases ha with ha | ⟨-, ha⟩ | ⟨p, h1, h2, h3⟩
    · omega
    · rcases ha with ha | ha
      · have := hv.2
        omega
      · cases ha
    · exact absurd (RW_base fun e => h2 (Option.some.inj e)) h3
  · have hb := hp.1
    have hu : u ∈ aLs A b := by rw [hl]; exact List.mem_append_right _ List.mem_cons_self
    have hpu := (hg.1.1 b hb u).mp hu
    have key : ∀ w p, (v = u ∨ avl A pl C b l1 v) → rck A v → pl v = some p → Sum.inl w ∈ aAg A v → C p → w ≠ u := by
      intro w p hvu hv hp' hw hCp e
      subst e
      have hv9 : aKd A v ≠ 9 := by have := hv.2; omega
      have hprc := prc_arg hg hCp hp' hv9 hw
      rcases hvu with hvu | hvu
      · subst hvu
        have h1 := (hg.2.2.2.1 b l1 v l2 hb hl hv9 v hw).2
        exact prc.keep hg hb hl h9 hprc h1
      · exact prc.keep hg hb hl h9 hprc hvu
    obtain ⟨pv, hpv, hCpv⟩ : ∃ p, pl v = some p ∧ C p := by
      rcases avl.app ha with e | ha'
      · subst e; exact ⟨b, hpu, hb⟩
      · exact avl.place hg hb ha' h6
    have hk : ∀ k, evK A (acH A u H m) v k = evK A H v k := fun k => evK_ext fun a ha' => evA_uH fun e => by
      rw [e] at ha'
      exact key u pv (avl.app ha) hv hpv ha' hCpv rfl
    unfold isEq
    rw [hk 0, hk 1]
    unfold acH
    by_cases hvu : v = u
    · subst hvu
      have h2 := act_rck2 (p := evK A H v 0) (q := evK A H v 1) (m := m) hv.1 hv.2
      refine ⟨?_, fun h4 h0 => ?_⟩
      · show uH H v _ v = _
        unfold uH
        rw [if_pos rfl, act_rck hv.1 hv.2]
      · rw [h2] at hf
        simp [h4, h0] at hf
    · have ha' := (avl.app ha).resolve_left hvu
      show uH H u _ v = _ ∧ _
      unfold uH
      rw [if_neg hvu]
      exact hp.2 v hv h6 ha'
  · rcases avl.app ha with e | ha'
    · subst e
      have := hv.2
      omega
    · exact ha'
  · have he := wyA_edge hg hp.1 h0 ht
    have htC : C t := hC.2.2.2 b H t hp.1 h0 ht
    have hv9 : aKd A v ≠ 9 := by have := hv.2; omega
    rcases avl.edge hg he ha with ⟨-, h⟩ | ⟨h1, h2⟩
    · exact absurd h hv9
    · have := hp.2 v hv h6 h2
      unfold isEq at this ⊢
      have hvt : phA A t (edI A t (wyA A b H)) H v = H v := phA_out fun q => absurd ((hg.1.1 t htC v).mp q) h1
      obtain ⟨pv, hpv, hCpv⟩ := avl.place hg hp.1 h2 h6
      have hk : ∀ k, evK A (phA A t (edI A t (wyA A b H)) H) v k = evK A H v k := fun k => evK_ext fun a ha' => by
        cases a with
        | inr n => rfl
        | inl w =>
          show phA A t (edI A t (wyA A b H)) H w = H w
          refine phA_out fun q _ => ?_
          have hw := (hg.1.1 t htC w).mp q
          exact prc.keep9 hg htC hw h1 (prc_arg hg hCpv hpv hv9 ha') ha
      rw [hk 0, hk 1, hvt]
      exact this
end HOLDS
