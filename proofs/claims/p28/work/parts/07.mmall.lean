/-! THE MINI MACHINE, part 6: the theorem: any number of steps -/
section MMZ
variable {l : Launch} {D : va_G} {cA : (Nat → ClassId) × Cell} {r : Nat → Nat} {PT : List mmM}
set_option maxHeartbeats 4000000 in
theorem mx_sound (hPT : mmOkT PT) : ∀ n, mmRun l D cA r PT n := by
  intro n
  induction n with
  | zero =>
    intro p e R s m args below meth c Q M h0 hE v hM C hRf hRl hcE hsE hb0 hEnd pc lv st h ls H locs hm
    unfold mx at hm
    cases hm
  | succ n ih =>
    intro p e R s m args below meth c Q M h0 hE v hM C hRf hRl hcE hsE hb0 hEnd pc lv st h ls H locs hm hlen hL hW hS hle hsl
    have hx := C.1
    have hb := C.2.1
    have hown := C.2.2.2.2.2.1
    have hts := C.2.2.2.2.2.2.1
    unfold mx at hm
    split at hm
    · cases hm
    rename_i ins len ax hf
    obtain ⟨hdg, hsw, hok⟩ := hM.2 pc ins len ax hf
    have go : ∀ {pc' : Nat} {st' : List Value}, mx PT n M.2.2.2.2.2.2 pc' lv st' h = some (v, hE) → W p l e R s m args below meth c H locs (h.length - h0.length) (mmSl h - mmSl h0) Q (F0 m pc' ls (st'.map (mmv r))) := fun hh => ih hM C hRf hRl hcE hsE hb0 hEnd hh hlen hL hW hS hle hsl
    have call : ∀ {i kd y k ci : Nat} {t : List Nat} {ins : Instr} {M' : mmM} {as rr : List Value}, (ins = .invokevirtual i ∧ (kd = 0 ∨ kd = 1) ∨ ins = .invokestatic i ∧ (kd = 2 ∨ kd = 3) ∨ ins = .invokespecial i ∧ (kd = 4 ∨ kd = 5)) → (∀ M', PT[y]? = some M' → mmOkC M i kd k ci M') → decode M.2.1 pc = .ok (ins, 3) → mmCall PT (kd :: y :: k :: ci :: t) st h = some (M', as, rr) →
        (match mx PT n M'.2.2.2.2.2.2 0 (mmEntry M'.2.2.1 as) [] h with
          | none => none
          | some (v, h') => mx PT n M.2.2.2.2.2.2 (pc + 3) lv (v.toList ++ rr) h') = some (v, hE) → W p l e R s m args below meth c H locs (h.length - h0.length) (mmSl h - mmSl h0) Q (F0 m pc ls (st.map (mmv r))) := by
      intro i kd y k ci t ins M' as rr hk hokc hd hc hh
      split at hh
      · cases hh
      · rename_i v1 h1 hr
        have m1 := mx_mono PT n hr
        have m2 := mx_mono PT n hh
        exact mm_call ih hPT C hRf hRl hk hokc hd hc hr hlen hL hW hS hb0 hle hsl (Nat.le_trans (Nat.sub_le_sub_right m2.1 _) hcE) (Nat.le_trans (Nat.sub_le_sub_right m2.2 _) hsE) (fun H' locs' w1 w2 => ih hM C hRf hRl hcE hsE hb0 hEnd hh hlen hL w1 w2 (Nat.le_trans hle m1.1) (Nat.le_trans hsl m1.2))
    split at hm
    · -- if
      rename_i cd off
      have hd : decode M.2.1 pc = .ok (.ifCond cd off, 3) := hsw.elim (fun z => by cases z) (fun z => by rw [z] at hdg; exact hdg)
      split at hm
      · rename_i x rr tg t
        have ht := hok _ _ rfl
        cases cd with
        | eq => exact lv_if_eq hx hb hd ht (fun z => go (by rw [if_pos (by simpa [mmIf] using z)] at hm; exact hm)) (fun z => go (by rw [if_neg (by simpa [mmIf] using z)] at hm; exact hm))
        | ne => exact lv_if_ne hx hb hd ht (fun z => go (by rw [if_pos (by simpa [mmIf] using z)] at hm; exact hm)) (fun z => go (by rw [if_neg (by simpa [mmIf] using z)] at hm; exact hm))
        | lt => exact lv_if_lt hx hb hd ht (fun z => go (by rw [if_pos (by simpa [mmIf] using z)] at hm; exact hm)) (fun z => go (by rw [if_neg (by simpa [mmIf] using z)] at hm; exact hm))
        | ge => exact lv_if_ge hx hb hd ht (fun z => go (by rw [if_pos (by simpa [mmIf] using z)] at hm; exact hm)) (fun z => go (by rw [if_neg (by simpa [mmIf] using z)] at hm; exact hm))
        | gt => exact lv_if_gt hx hb hd ht (fun z => go (by rw [if_pos (by simpa [mmIf] using z)] at hm; exact hm)) (fun z => go (by rw [if_neg (by simpa [mmIf] using z)] at hm; exact hm))
        | le => exact lv_if_le hx hb hd ht (fun z => go (by rw [if_pos (by simpa [mmIf] using z)] at hm; exact hm)) (fun z => go (by rw [if_neg (by simpa [mmIf] using z)] at hm; exact hm))
      · cases hm
    · -- if_icmp
      rename_i cd off
      have hd : decode M.2.1 pc = .ok (.if_icmp cd off, 3) := hsw.elim (fun z => by cases z) (fun z => by rw [z] at hdg; exact hdg)
      split at hm
      · rename_i y x rr tg t
        have ht := hok _ _ rfl
        cases cd with
        | eq => exact lv_icmp_eq hx hb hd ht (fun z => go (by rw [if_pos (by simpa [mmIc] using z)] at hm; exact hm)) (fun z => go (by rw [if_neg (by simpa [mmIc] using z)] at hm; exact hm))
        | ne => exact lv_icmp_ne hx hb hd ht (fun z => go (by rw [if_pos (by simpa [mmIc] using z)] at hm; exact hm)) (fun z => go (by rw [if_neg (by simpa [mmIc] using z)] at hm; exact hm))
        | lt => exact lv_icmp_lt hx hb hd ht (fun z => go (by rw [if_pos (by simpa [mmIc] using z)] at hm; exact hm)) (fun z => go (by rw [if_neg (by simpa [mmIc] using z)] at hm; exact hm))
        | ge => exact lv_icmp_ge hx hb hd ht (fun z => go (by rw [if_pos (by simpa [mmIc] using z)] at hm; exact hm)) (fun z => go (by rw [if_neg (by simpa [mmIc] using z)] at hm; exact hm))
        | gt => exact lv_icmp_gt hx hb hd ht (fun z => go (by rw [if_pos (by simpa [mmIc] using z)] at hm; exact hm)) (fun z => go (by rw [if_neg (by simpa [mmIc] using z)] at hm; exact hm))
        | le => exact lv_icmp_le hx hb hd ht (fun z => go (by rw [if_pos (by simpa [mmIc] using z)] at hm; exact hm)) (fun z => go (by rw [if_neg (by simpa [mmIc] using z)] at hm; exact hm))
      · cases hm
    · -- goto
      rename_i off
      have hd : decode M.2.1 pc = .ok (.goto off, 3) := hsw.elim (fun z => by cases z) (fun z => by rw [z] at hdg; exact hdg)
      split at hm
      · exact lv_goto hx hb hd (hok _ _ rfl) (go hm)
      · cases hm
    · -- tableswitch
      rename_i dflt lo hi offs
      split at hm
      · rename_i x rr df tgs
        obtain ⟨hdf, htg⟩ := hok _ _ rfl
        split at hm
        · rename_i hout
          exact lv_tableOut hx hb hdg hout hdf (go hm)
        · rename_i hin
          split at hm
          · rename_i tg htgs
            obtain ⟨off, ho1, ho2⟩ := htg _ _ htgs
            exact lv_tableIn hx hb hdg (fun z => hin (Or.inl z)) (fun z => hin (Or.inr z)) ho1 ho2 (go hm)
          · cases hm
      · cases hm
    · -- ireturn
      have hd : decode M.2.1 pc = .ok (.ireturn, 1) := hsw.elim (fun z => by cases z) (fun z => by rw [z] at hdg; exact hdg)
      split at hm
      · rename_i x
        cases hm
        exact hEnd pc ls H locs hd (Or.inl ⟨x, rfl, Or.inl (hok.1 rfl)⟩) hW hS
      · rename_i x a
        split at hm
        · rename_i hx01
          cases hm
          exact hEnd pc ls H locs hd (Or.inl ⟨x, rfl, Or.inr ⟨hok.2 (by simp), hx01⟩⟩) hW hS
        · cases hm
      · cases hm
    · -- lreturn
      have hd : decode M.2.1 pc = .ok (.lreturn, 1) := hsw.elim (fun z => by cases z) (fun z => by rw [z] at hdg; exact hdg)
      split at hm
      · rename_i x
        cases hm
        exact hEnd pc ls H locs hd (Or.inr (Or.inl ⟨x, rfl, hok⟩)) hW hS
      · cases hm
    · -- return
      have hd : decode M.2.1 pc = .ok (.return_, 1) := hsw.elim (fun z => by cases z) (fun z => by rw [z] at hdg; exact hdg)
      split at hm
      · cases hm
        exact hEnd pc ls H locs hd (Or.inr (Or.inr ⟨rfl, hok⟩)) hW hS
      · cases hm
    · -- invokevirtual
      rename_i i
      have hd : decode M.2.1 pc = .ok (.invokevirtual i, 3) := hsw.elim (fun z => by cases z) (fun z => by rw [z] at hdg; exact hdg)
      split at hm
      · cases hm
      · rename_i M' as rr hc
        match ax, hok, hc with
        | kd :: y :: k :: ci :: t, hok, hc =>
          obtain ⟨hkd, hokc⟩ := hok _ _ _ _ _ rfl
          exact call (Or.inl ⟨rfl, hkd⟩) hokc hd hc hm
        | [], hok, hc => cases hc
        | [_], hok, hc => cases hc
        | [_, _], hok, hc => cases hc
        | [_, _, _], hok, hc => cases hc
    · -- invokestatic
      rename_i i
      have hd : decode M.2.1 pc = .ok (.invokestatic i, 3) := hsw.elim (fun z => by cases z) (fun z => by rw [z] at hdg; exact hdg)
      split at hm
      · rename_i a b
        split at hm
        · rename_i rr h' hcp
          obtain ⟨z1, z2, z3, z4, z5, z6⟩ := hok.1 _ _ rfl
          have e1 := mmCopy_mono hcp
          refine mm_copy C (hL.2.1.trans hlen) (Nat.le_trans z1 hRf) (Nat.le_trans z2 hRl) z3 z4 z5 z6 hd hW hS hb0 hcp (fun H' locs' w1 w2 => ?_)
          have := ih hM C hRf hRl hcE hsE hb0 hEnd hm hlen hL w1 w2 (by rw [e1.1]; exact hle) (by rw [e1.2]; exact hsl)
          rw [e1.1, e1.2] at this
          exact this
        · cases hm
      · split at hm
        · cases hm
        · rename_i M' as rr hc
          match ax, hok, hc with
          | kd :: y :: k :: ci :: t, hok, hc =>
            obtain ⟨hkd, hokc⟩ := hok.2 _ _ _ _ _ rfl
            exact call (Or.inr (Or.inl ⟨rfl, hkd⟩)) hokc hd hc hm
          | [], hok, hc => cases hc
          | [_], hok, hc => cases hc
          | [_, _], hok, hc => cases hc
          | [_, _, _], hok, hc => cases hc
    · -- invokespecial
      rename_i i
      have hd : decode M.2.1 pc = .ok (.invokespecial i, 3) := hsw.elim (fun z => by cases z) (fun z => by rw [z] at hdg; exact hdg)
      split at hm
      · rename_i a b
        split at hm
        · rename_i q rr
          split at hm
          · rename_i hwd
            obtain ⟨z1, z2, z3, z4, z5⟩ := hok.1 _ _ rfl
            refine W.objInit hx hb hown (hts _ z3) (hts _ z4) (hts _ z5) rfl (by rw [C.2.2.1]; exact hL.2.1.trans hlen) rfl hd (Nat.le_trans z1 hRf) ?_ (go hm)
            rw [mm_wds]
            show 2 * 0 + _ + 12 ≤ _
            omega
          · cases hm
        · cases hm
      · split at hm
        · cases hm
        · rename_i M' as rr hc
          match ax, hok, hc with
          | kd :: y :: k :: ci :: t, hok, hc =>
            obtain ⟨hkd, hokc⟩ := hok.2 _ _ _ _ _ rfl
            exact call (Or.inr (Or.inr ⟨rfl, hkd⟩)) hokc hd hc hm
          | [], hok, hc => cases hc
          | [_], hok, hc => cases hc
          | [_, _], hok, hc => cases hc
          | [_, _, _], hok, hc => cases hc
    · -- a simple one
      split at hm
      · rename_i pc' lv' st' h' hs
        have m1 := mmS_mono hs
        have m2 := mx_mono PT n hm
        have hd : decode M.2.1 pc = .ok (ins, mmLen ins) := by
          rcases hsw with h | h
          · cases ins <;> first | (cases h; done) | (unfold mmS at hs; cases hs)
          · rw [h] at hdg; exact hdg
        have hoks : mmOkS M ins ax := by
          cases ins <;> first | exact hok | trivial
        exact mmS_sound C hoks hd hs hL hW hS hb0 hle hsl (Nat.le_trans (Nat.sub_le_sub_right m2.1 _) hcE) (Nat.le_trans (Nat.sub_le_sub_right m2.2 _) hsE) (fun ls' H' locs' w1 w2 w3 w4 w5 => ih hM C hRf hRl hcE hsE hb0 hEnd hm (m1.2.2.trans hlen) w1 w2 w3 (Nat.le_trans hle w4) (Nat.le_trans hsl w5))
      · cases hm
end MMZ
