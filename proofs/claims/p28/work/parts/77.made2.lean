section MADE2
variable {A : AF} {pl : Pl} {C : Nat → Prop} {to : Ob} {idm : Nat → Nat} {PH : Nat → Nat → Bool} {ph ln : Nat → Nat → Nat} {hL : Nat → Nat → Nat → Ag} {wn jn : Nat → Nat → Prop}
theorem mem_ls (hl : MKl A pl to PH ph ln C) {b v : Nat} (hb : C b) (hv : v ∈ aLs A b) : (∃ x, x < 6 ∧ PH b x = true ∧ v = ph b x) ∨ ∃ k, k < nl to b ∧ lk to b k ≠ 0 ∧ v = ln b k := by
  rw [hl.1 b hb] at hv
  rcases List.mem_append.mp hv with h | h
  · obtain ⟨x, hx, e⟩ := List.mem_map.mp h
    have := List.mem_filter.mp hx
    exact Or.inl ⟨x, List.mem_range.mp this.1, this.2, e.symm⟩
  · obtain ⟨k, hk, e⟩ := List.mem_map.mp h
    have := List.mem_filter.mp hk
    exact Or.inr ⟨k, List.mem_range.mp this.1, by simpa using this.2, e.symm⟩
theorem mkA_av (hh : MKh to idm PH ph ln hL C) (hl : MKl A pl to PH ph ln C) (he : MKe A to C) (hi : idmOk (aE A C) idm) (hw : MKw A to PH C wn jn) {b k v : Nat} {o : Int32} (hb : C b) (hk : k ≤ nl to b) (ho : opOk o) (hv : mkA (hL b k) o = .inl v) : usb A v ∧ avl A pl C b (preM to PH ph ln b k) v := by
  unfold mkA at hv
  by_cases hop : o < 100
  · rw [if_pos hop] at hv; cases hv
  · rw [if_neg hop] at hv
    obtain ⟨j, hj, ej⟩ := ho hop
    rw [ej, tn_nI (by omega)] at hv
    exact held_av hh hl he hi hw hb k hk j hj v hv
theorem made_GG (hh : MKh to idm PH ph ln hL C) (hl : MKl A pl to PH ph ln C) (ha : MKa A to PH ph ln hL C) (he : MKe A to C) (hi : idmOk (aE A C) idm) (hw : MKw A to PH C wn jn) (hEA : EA A C) : GG A pl C := by
  obtain ⟨e1, e2, e3, e4, e5, e6, e7⟩ := id he
  obtain ⟨l1, l2, l3, l4, l5, l6, l7⟩ := id hl
  obtain ⟨a1, a2, a3⟩ := ha
  have hC0 : C 0 := (e7 0).mpr (RW_base (by simp))
  have clo' : clo A C := fun b j hb hj => by
    rw [(e1 b hb).1] at hj
    have ht := e2 b j hb hj
    exact ⟨_, ht, (e7 _).mpr (RW_step ((e7 b).mp hb) ⟨hb, j, by rw [(e1 b hb).1]; exact hj, ht⟩ (by simp))⟩
  have lnk : ∀ b v, C b → v ∈ aLs A b → aKd A v ≠ 9 → ∃ k, k < nl to b ∧ lk to b k ≠ 0 ∧ v = ln b k := fun b v hb hv h9 => by
    rcases mem_ls hl hb hv with ⟨x, hx, hp, e⟩ | h
    · rw [e] at h9
      exact absurd (l5 b x hb hx hp) h9
    · exact h
  have phk : ∀ b v, C b → v ∈ aLs A b → aKd A v = 9 → ∃ x, x < 6 ∧ PH b x = true ∧ v = ph b x := fun b v hb hv h9 => by
    rcases mem_ls hl hb hv with h | ⟨k, hk, h0, e⟩
    · exact h
    · rw [e] at h9
      have := l6 b k hb hk h0
      omega
  have agl : ∀ b k v, C b → k < nl to b → lk to b k ≠ 0 → Sum.inl v ∈ aAg A (ln b k) → usb A v ∧ avl A pl C b (preM to PH ph ln b k) v := fun b k v hb hk h0 hv => by
    obtain ⟨-, o1, o2⟩ := hw.1 b k hb hk
    rw [a1 b k hb hk h0] at hv
    by_cases q : lk to b k ≤ 5 ∨ lk to b k = 7
    · rw [if_pos q] at hv
      rcases List.mem_cons.mp hv with e | e
      · exact mkA_av hh hl he hi hw hb (Nat.le_of_lt hk) o1 e.symm
      · rw [List.mem_singleton] at e
        exact mkA_av hh hl he hi hw hb (Nat.le_of_lt hk) o2 e.symm
    · rw [if_neg q, List.mem_singleton] at hv
      exact mkA_av hh hl he hi hw hb (Nat.le_of_lt hk) o1 hv.symm
  refine ⟨⟨⟨fun b hb v => l3 b v hb, l2, fun v p hp => ?_, fun v hv => ?_, fun b m1 u m2 hb hm h9 z hz => ?_⟩, ⟨hC0, fun b hb => ?_, fun b _ => e5 b, fun b s j hb hs hj q => (e4 _ b).mpr q, fun b w hb hw' hwC => ⟨(e3 w b ((e4 w b).mp hw')).2, (e4 w b).mp hw'⟩, e6, fun b hb => by rw [(e1 b hb).1]; exact (e1 b hb).2⟩, ⟨fun b u hb hu => ⟨fun h9 => ?_, fun q => ?_, fun q => ?_⟩, fun b hb => ⟨fun q => ?_, fun q => ?_⟩⟩, ⟨fun b m1 u m2 hb hm h9 v hv => ?_, fun b v hb hv => ?_, fun b u w v hb hu h9 hz hwC => ?_⟩⟩, ⟨fun b v hv => ?_, fun t _ => e5 t, fun t u _ hu h9 => ?_, fun t w _ hw' => (e4 w t).mp hw'⟩, clo', fun t w _ hw' => (e3 w t ((e4 w t).mp hw')).1, fun w t _ ht => (e3 w t ht).2⟩
  · obtain ⟨q1, q2, q3⟩ := l4 v p hp
    refine ⟨q1, q2, ?_⟩
    rcases mem_ls hl q3 ((l3 p v q3).mpr hp) with ⟨x, hx, hph, e⟩ | ⟨k, hk, h0, e⟩
    · rw [e, l5 p x q3 hx hph]; omega
    · have := l6 p k q3 hk h0
      rw [e]; omega
  · rcases mem_ls hl hC0 hv with ⟨x, hx, hph, e⟩ | ⟨k, hk, h0, e⟩
    · rw [l7 x] at hph; cases hph
    · have := l6 0 k hC0 hk h0
      rw [e]; omega
  · rw [l1 b hb] at hm
    rcases app_split hm with ⟨r, q1, q2⟩ | ⟨r, q1, q2⟩
    · have hzm : z ∈ phF PH ph b := by rw [q1]; exact List.mem_append_left _ hz
      obtain ⟨x, hx, e⟩ := List.mem_map.mp hzm
      have := List.mem_filter.mp hx
      rw [← e]
      exact l5 b x hb (List.mem_range.mp this.1) this.2
    · have hum : u ∈ lnF to b ln (List.range (nl to b)) := by rw [q2]; exact List.mem_append_right _ List.mem_cons_self
      obtain ⟨k, hk, e⟩ := List.mem_map.mp hum
      have hk2 := List.mem_filter.mp hk
      have := l6 b k hb (List.mem_range.mp hk2.1) (by simpa using hk2.2)
      rw [← e] at h9
      omega
  · exact RW_ind (E := aE A C) (o := none) (P := fun b => RW (fun a c => aE A C a c ∧ C c) none b) (fun _ => RW_base (by simp)) (fun a c _ ih he' _ hc => RW_step ih ⟨he', (e7 c).mpr hc⟩ (by simp)) ((e7 b).mp hb)
  · obtain ⟨x, hx, hp, e⟩ := phk b u hb hu h9
    rw [e, a3 b x hb hx hp, List.length_map]
  · obtain ⟨k, hk, h0, e⟩ := lnk b u hb hu (by omega)
    obtain ⟨k1, k2⟩ := l6 b k hb hk h0
    rw [e] at q
    rw [e, a1 b k hb hk h0, if_pos (by omega)]
    rfl
  · obtain ⟨k, hk, h0, e⟩ := lnk b u hb hu (by omega)
    obtain ⟨k1, k2⟩ := l6 b k hb hk h0
    rw [e] at q
    rw [e, a1 b k hb hk h0, if_neg (by omega)]
    rfl
  · rw [a2 b hb, if_pos (by rw [← (e1 b hb).1]; exact q)]
  · rw [a2 b hb, if_neg (by rw [← (e1 b hb).1]; exact q)]
    rfl
  · obtain ⟨k, hk, h0, e⟩ := lnk b u hb (by rw [hm]; exact List.mem_append_right _ List.mem_cons_self) h9
    obtain ⟨m2', e'⟩ := ls_at hl hb hk h0
    have hn := l2 b hb
    rw [e] at hv hm
    rw [hm] at hn e'
    rw [nodup_split hn e']
    exact agl b k v hb hk h0 hv
  · rw [a2 b hb] at hv
    by_cases q : tEk to b = 1
    · rw [if_pos q] at hv; cases hv
    · rw [if_neg q, List.mem_singleton] at hv
      have := mkA_av hh hl he hi hw hb (Nat.le_refl _) (hw.2.1 b hb) hv.symm
      rw [l1 b hb]
      exact this
  · obtain ⟨x, hx, hp, e⟩ := phk b u hb hu h9
    rw [e, a3 b x hb hx hp] at hz
    obtain ⟨w', hz1, hz2⟩ := zip_map _ _ _ _ _ hz
    have hww : w' = w := by
      obtain ⟨i, i1, i2⟩ := zip_idx _ _ _ _ hz1
      rw [i1] at i2
      exact (Option.some.inj i2).symm
    rw [hww] at hz2
    have := held_av hh hl he hi hw hwC (nl to (w / 2)) (Nat.le_refl _) x hx v hz2
    rw [l1 _ hwC]
    exact this
  · have hb : C b := Classical.byContradiction fun q => by
      rw [(hEA b q).1] at hv
      cases hv
    have := (l3 b v hb).mp hv
    exact ⟨this, (l4 v b this).2.1⟩
  · have hb : C t := Classical.byContradiction fun q => by
      rw [(hEA t q).1] at hu
      cases hu
    obtain ⟨x, hx, hp, e⟩ := phk t u hb hu h9
    rw [e, a3 t x hb hx hp, List.length_map]
/-! it runs as the blocks do -/
def VR (to : Ob) (hL : Nat → Nat → Nat → Ag) (wn : Nat → Nat → Prop) (b k : Nat) (V H : Hd) : Prop := ∀ x, x < 6 → (wn b x ∨ ∃ j, j < k ∧ setsL to b j x) → V x = evA H (hL b k x)
theorem actM_1 {k : Nat} {p q q' : Int32} {m : Me} (h : k = 6 ∨ k = 8) : actM k p q m = actM k p q' m := by
  unfold actM
  rcases h with h | h
  · rw [h, if_neg (by decide), if_pos rfl, if_neg (by decide), if_pos rfl]
  · rw [h, if_neg (by decide), if_neg (by decide), if_neg (by decide), if_pos rfl, if_neg (by decide), if_neg (by decide), if_neg (by decide), if_pos rfl]
theorem coN_0 : coN 0 = 0 := by
  unfold coN Ph_costOf
  decide
theorem va_phis (A : AF) : ∀ (P L : List Nat) (H : Hd) (m : Me) (c : Nat), (∀ v, v ∈ P → aKd A v = 9) → vaA A (P ++ L) H m c = vaA A L H m c := by
  intro P
  induction P with
  | nil => intro L H m c _; rfl
  | cons v r ih =>
    intro L H m c h
    rw [List.cons_append, vaA_cons, if_pos (h v List.mem_cons_self)]
    exact ih L H m c fun z hz => h z (List.mem_cons_of_mem _ hz)
theorem op_VR {b k : Nat} {V H : Hd} {o : Int32} (hV : VR to hL wn b k V H) (ho : opOk o) (hr : ∀ x, x < 6 → o - 100 = nI x → ¬ o < 100 → (∃ j, j < k ∧ setsL to b j x) ∨ wn b x) : opT V o = evA H (mkA (hL b k) o) := by
  unfold opT mkA
  by_cases h : o < 100
  · rw [if_pos h, if_pos h]; rfl
  · rw [if_neg h, if_neg h]
    obtain ⟨j, hj, ej⟩ := ho h
    rw [ej, tn_nI (by omega)]
    exact hV j hj (hr j hj ej h).symm
theorem va_lines (hh : MKh to idm PH ph ln hL C) (hl : MKl A pl to PH ph ln C) (ha : MKa A to PH ph ln hL C) (he : MKe A to C) (hi : idmOk (aE A C) idm) (hw : MKw A to PH C wn jn) {b : Nat} (hb : C b) : ∀ (r k : Nat) (V H : Hd) (m : Me) (c : Nat), k + r = nl to b → VR to hL wn b k V H → (vaA A (lnF to b ln (List.range' k r)) H m c).2 = (lnT to b (List.range' k r) V m c).2 ∧ ((lnT to b (List.range' k r) V m c).2.2.2 = false → VR to hL wn b (nl to b) (lnT to b (List.range' k r) V m c).1 (vaA A (lnF to b ln (List.range' k r)) H m c).1) := by
  intro r
  induction r with
  | zero =>
    intro k V H m c hk hV
    refine ⟨rfl, fun _ => ?_⟩
    rw [← hk]
    exact hV
  | succ r ih =>
    intro k V H m c hk hV
    have hkl : k < nl to b := by omega
    obtain ⟨w1, w2, w3⟩ := hw.1 b k hb hkl
    have p0 := op_VR hV w2 fun x hx e h => hw.2.2.1 b k x hb hkl hx (Or.inl ⟨e, h⟩)
    have p1 := op_VR hV w3 fun x hx e h => hw.2.2.1 b k x hb hkl hx (Or.inr ⟨e, h⟩)
    rw [List.range'_succ]
    have hlt : lnT to b (k :: List.range' (k + 1) r) V m c = if (actM (lk to b k) (opT V (to.1 3 (b * 8 + k))) (opT V (to.1 4 (b * 8 + k))) m).2.2 = true then (V, (actM (lk to b k) (opT V (to.1 3 (b * 8 + k))) (opT V (to.1 4 (b * 8 + k))) m).2.1, c + coN (lk to b k), true) else lnT to b (List.range' (k + 1) r) (if lk to b k ≤ 6 then uH V (ld to b k) (actM (lk to b k) (opT V (to.1 3 (b * 8 + k))) (opT V (to.1 4 (b * 8 + k))) m).1 else V) (actM (lk to b k) (opT V (to.1 3 (b * 8 + k))) (opT V (to.1 4 (b * 8 + k))) m).2.1 (c + coN (lk to b k)) := by
      conv => lhs; unfold lnT
      rfl
    rw [hlt]
    by_cases h0 : lk to b k = 0
    · have hF : lnF to b ln (k :: List.range' (k + 1) r) = lnF to b ln (List.range' (k + 1) r) := by
        unfold lnF
        rw [List.filter_cons_of_neg (by simp [h0])]
      have hact : actM (lk to b k) (opT V (to.1 3 (b * 8 + k))) (opT V (to.1 4 (b * 8 + k))) m = (opT V (to.1 3 (b * 8 + k)), m, false) := by
        rw [h0]
        unfold actM
        rw [if_pos rfl]
      rw [hF, hact, if_neg (show ¬ (opT V (to.1 3 (b * 8 + k)), m, false).2.2 = true from Bool.false_ne_true), if_pos (by omega), h0, coN_0]
      refine ih (k + 1) _ H m c (by omega) fun x hx hq => ?_
      show uH V (ld to b k) _ x = _
      rw [hh.2 b k x hb hkl hx, if_pos h0]
      unfold uH
      by_cases hxd : x = ld to b k
      · rw [if_pos hxd, if_pos hxd]
        exact p0
      · rw [if_neg hxd, if_neg hxd]
        refine hV x hx (hq.imp id fun ⟨j, hj, hs⟩ => ⟨j, ?_, hs⟩)
        have : j ≠ k := fun e => hxd (by rw [← hs.2, e])
        omega
    · have hF : lnF to b ln (k :: List.range' (k + 1) r) = ln b k :: lnF to b ln (List.range' (k + 1) r) := by
        unfold lnF
        rw [List.filter_cons_of_pos (by simp [h0]), List.map_cons]
      obtain ⟨k1, k2⟩ := hl.2.2.2.2.2.1 b k hb hkl h0
      have hag := ha.1 b k hb hkl h0
      have e0 : evK A H (ln b k) 0 = opT V (to.1 3 (b * 8 + k)) := by
        rw [p0]
        unfold evK
        rw [hag]
        by_cases q : lk to b k ≤ 5 ∨ lk to b k = 7
        · rw [if_pos q]; rfl
        · rw [if_neg q]; rfl
      have hact : actM (aKd A (ln b k)) (evK A H (ln b k) 0) (evK A H (ln b k) 1) m = actM (lk to b k) (opT V (to.1 3 (b * 8 + k))) (opT V (to.1 4 (b * 8 + k))) m := by
        rw [k1, e0]
        by_cases q : lk to b k ≤ 5 ∨ lk to b k = 7
        · have e1 : evK A H (ln b k) 1 = opT V (to.1 4 (b * 8 + k)) := by
            rw [p1]
            unfold evK
            rw [hag, if_pos q]
            rfl
          rw [e1]
        · exact actM_1 (by omega)
      rw [hF, vaA_cons, if_neg (by omega), hact, k1]
      by_cases ht : (actM (lk to b k) (opT V (to.1 3 (b * 8 + k))) (opT V (to.1 4 (b * 8 + k))) m).2.2 = true
      · rw [if_pos ht, if_pos ht]
        exact ⟨rfl, fun q => by cases q⟩
      · rw [if_neg ht, if_neg ht]
        refine ih (k + 1) _ _ _ _ (by omega) fun x hx hq => ?_
        generalize (actM (lk to b k) (opT V (to.1 3 (b * 8 + k))) (opT V (to.1 4 (b * 8 + k))) m).1 = rv
        rw [hh.2 b k x hb hkl hx, if_neg h0]
        have hne : ∀ y, y < 6 → hL b k y ≠ .inl (ln b k) := fun y hy e => by
          obtain ⟨-, q2⟩ := held_av hh hl he hi hw hb k (Nat.le_of_lt hkl) y hy _ e
          obtain ⟨n1, n2⟩ := ln_not hl hb hkl h0
          rcases q2 with z | ⟨-, z⟩ | ⟨p, z1, z2, -⟩
          · have := (hl.2.2.2.1 _ _ n1).1
            omega
          · rcases z with z | z
            · omega
            · exact n2 z
          · exact z2 (Option.some.inj (z1.symm.trans n1))
        by_cases hs : lk to b k ≤ 6 ∧ x = ld to b k
        · rw [if_pos hs, if_pos hs.1]
          show uH V (ld to b k) rv x = uH H (ln b k) rv (ln b k)
          unfold uH
          rw [if_pos hs.2, if_pos rfl]
        · rw [if_neg hs, evA_uH (hne x hx)]
          have hold : V x = evA H (hL b k x) := hV x hx (hq.imp id fun ⟨j, hj, hsj⟩ => ⟨j, by
            have : j ≠ k := fun e => hs ⟨by rw [← e]; exact hsj.1, by rw [← e]; exact hsj.2.symm⟩
            omega, hsj⟩)
          by_cases h6 : lk to b k ≤ 6
          · rw [if_pos h6]
            unfold uH
            rw [if_neg fun e => hs ⟨h6, e⟩]
            exact hold
          · rw [if_neg h6]
            exact hold
end MADE2
