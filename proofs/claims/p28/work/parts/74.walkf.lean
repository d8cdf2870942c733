/-! A RUN OF A FORM is that of what the form is told of -/
theorem ru_eq {A B : AF} {C : Nat → Prop} (hkd : ∀ v, aKd B v = aKd A v) (hls : ∀ b, C b → aLs B b = aLs A b) (hag : ∀ b u, C b → u ∈ aLs A b → aAg B u = aAg A u) (hagE : ∀ b, C b → aAg B (140 + b) = aAg A (140 + b)) (hed : ∀ b, C b → aEd B b = aEd A b) (hek : ∀ b, C b → aEk B b = aEk A b) (htg : ∀ b j, C b → j < aEk A b → aTg B (b * 2 + j) = aTg A (b * 2 + j)) (hc : clo A C) : ∀ (d b : Nat) (e : Option Nat) (H : Hd) (m : Me) (c n : Nat), C b → ruA B d b e H m c n = ruA A d b e H m c n := by
  have hph : ∀ b e H, C b → phA B b e H = phA A b e H := fun b e H hb => by
    funext z
    unfold phA
    rw [hls b hb, hkd]
    by_cases hq : z ∈ aLs A b ∧ aKd A z = 9
    · rw [if_pos hq, if_pos hq]
      cases e with
      | none => rfl
      | some k =>
        show evK B H z k = evK A H z k
        unfold evK
        rw [hag b z hb hq.1]
    · rw [if_neg hq, if_neg hq]
  have hva : ∀ b e H m c, C b → vaA B (aLs B b) (phA B b e H) m c = vaA A (aLs A b) (phA A b e H) m c := fun b e H m c hb => by
    rw [hph b e H hb, hls b hb]
    exact vaA_same hkd _ _ _ _ fun v hv => hag b v hb hv
  intro d
  induction d with
  | zero =>
    intro b e H m c n hb
    unfold ruA
    rw [hva b e H m c hb]
  | succ d ih =>
    intro b e H m c n hb
    have hev : ∀ H, evK B H (140 + b) 0 = evK A H (140 + b) 0 := fun H => by unfold evK; rw [hagE b hb]
    unfold ruA
    rw [hva b e H m c hb, hev, hek b hb]
    by_cases ht : (vaA A (aLs A b) (phA A b e H) m c).2.2.2 = true
    · rw [if_pos ht, if_pos ht]
    · rw [if_neg ht, if_neg ht]
      by_cases h0 : aEk A b = 0
      · rw [if_pos h0, if_pos h0]
      · rw [if_neg h0, if_neg h0]
        have hw : wyN (aEk A b) (evK A (vaA A (aLs A b) (phA A b e H) m c).1 (140 + b) 0) < aEk A b := by
          unfold wyN
          split
          · rename_i z; omega
          · omega
        obtain ⟨t, h1, h2⟩ := hc b _ hb hw
        rw [htg b _ hb hw, h1]
        dsimp only
        have hI : ∀ w, edI B t w = edI A t w := fun w => by unfold edI; rw [hed t h2]
        rw [hI]
        exact ih t _ _ _ _ _ h2
section WALKF
variable {f : Ob} {nb nv T : Nat}
theorem runS_eq (hF : FG f nb nv T) (ht : tidy f) (x y : Int32) : runA (fA f) x y = runA (fS f) x y := by
  have hnb := hF.1.1.2.2.1
  have hbn : ∀ b, fC f b → b < nb := fun b hb => hF.1.2.2.2.2.2.2.2 b (by have := hb.1; omega) hb.2
  refine ru_eq (A := fS f) (B := fA f) (C := fC f) (fun v => rfl) (fun b hb => ?_) (fun b u hb hu => ?_) (fun b hb => ?_) (fun b hb => ?_) (fun b hb => rfl) (fun b j hb hj => ?_) hF.2.1.2.2.1 300 0 none _ _ _ _ hF.2.1.1.2.1.1
  · exact (tidy_ls hF.1 ht (hbn b hb)).symm
  · have := (aLow_of hF.1).1 b u hu
    exact (if_pos (by omega)).symm
  · have := hb.1
    exact (if_pos (by omega)).symm
  · exact (if_pos hb.1).symm
  · have := hF.2.1.1.2.1.2.2.2.2.2.2 b hb
    have := hb.1
    exact (if_pos (by omega)).symm
theorem rGood_of (hF : FG f nb nv T) (ht : tidy f) : rGood f (fC f) := by
  obtain ⟨h1, h2, h3, h4⟩ := id hF
  have hnb := h1.1.2.2.1
  have hnv := h1.1.2.2.2.2.2
  refine ⟨cA.uOk h1.2.1 hnv, h2.1.2.1.1, fun b hb => ?_⟩
  have hbn : b < nb := h1.2.2.2.2.2.2.2 b (by have := hb.1; omega) hb.2
  obtain ⟨s, hs, hs7, q1, -, -⟩ := h1.2.2.2.1 b hb.1
  obtain ⟨k, hk2, hk⟩ := h1.2.2.2.2.2.2.1 b hb.1
  refine ⟨hb.1, ⟨s, hs, hs7, fun i hi => ?_⟩, h1.2.2.2.2.1 b hb.1, k, hk2, hk, fun j hj => ?_⟩
  · obtain ⟨v, hv, ev, -⟩ := q1 i hi
    have hp := ht b s i (by rw [nbt h1]; exact hbn) hs7 hs hi
    rw [ev, tn_nI (by omega)] at hp
    have hm : v ∈ aLs (fS f) b := (fS_ls_mem h1).mpr ⟨hb.1, hv, hp⟩
    have hkd := h2.1.1.2.2.1 v b ((fS_ls_P h1).mp hm)
    obtain ⟨kk, hkk, ekk⟩ := (h1.2.2.1 v hv).1
    have : aKd (fS f) v = kk := by show tn (f.1 0 v) = kk; rw [ekk, tn_nI (by omega)]
    exact ⟨v, kk, by omega, ev, ekk, by omega⟩
  · have hek : aEk (fS f) b = k := by show tn (f.1 11 b) = k; rw [hk, tn_nI (by omega)]
    obtain ⟨t, y1, y2⟩ := h2.2.2.1 b j hb (by omega)
    refine ⟨t, y2, ?_⟩
    have hb10 := hb.1
    have y1' : (if b * 2 + j < 20 then ftg f (b * 2 + j) else none) = some t := y1
    rw [if_pos (by omega)] at y1'
    unfold ftg at y1'
    rcases h1.2.2.2.2.2.1 (b * 2 + j) (by omega) with e | ⟨t', ht', e⟩
    · rw [e, if_pos rfl] at y1'; cases y1'
    · rw [e, if_neg (nI_m1 (by omega)), tn_nI (by omega)] at y1'
      rw [e, Option.some.inj y1']
/-- the runner over a form -/
theorem walk_spec (hF : FG f nb nv T) (ht : tidy f) (ru t : Ob) (x y : Int32) : tpOc 60 (Runner_walkForm f ru t x y).2 (runA (fS f) x y) ∧ (Runner_walkForm f ru t x y).2.2.2 0 = false := by
  rw [← runS_eq hF ht]
  exact walkForm_spec (rGood_of hF ht) x y
theorem walk_spec_k (hF : FG f nb nv T) (ht : tidy f) (ru t : Ob) (x y : Int32) : tpOc 2408 (Runner_walkForm_k f ru t x y).2 (runA (fS f) x y) ∧ (Runner_walkForm_k f ru t x y).2.2.2 0 = false := by
  rw [← runS_eq hF ht]
  exact walkForm_spec_k (rGood_of hF ht) x y
end WALKF
