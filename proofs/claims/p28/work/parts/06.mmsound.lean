/-! THE MINI MACHINE, part 5: every run of it is the machine's -/
section MMY
variable {l : Launch} {D : va_G} {cA : (Nat → ClassId) × Cell} {r : Nat → Nat} {PT : List mmM}
variable {p : Program} {e : Env} {R : Room} {s : State} {m : MethodId} {args : Array Value} {below : List Frame} {meth : Method} {c : Code} {Q : State → Prop} {M : mmM} {h0 : List mmC}
theorem mm_after {h h1 : List mmC} {v : Option Value} {pc mc ms cells slots : Nat} {ls : Array Slot} {st0 rest : List Value} {H : Heap} {locs : List Loc} {a : Array Value} (hW : mmW D cA r h H) (hS : va_S (mmA r h0) s.heap H locs) (hb0 : ∀ j : Nat, h0.length ≤ j → r j + h0.length = s.heap.size + j)
    (hr : va_Run p l e R s m args below meth c H locs cells slots mc ms (F0 m pc ls st0) rest (mmQc D cA r h v h1 a) (mmA r h))
    (kk : ∀ (H' : Heap) (locs' : List Loc), mmW D cA r h1 H' → va_S (mmA r h0) s.heap H' locs' → W p l e R s m args below meth c H' locs' (cells + mc) (slots + ms) Q (F0 m (pc + 3) ls ((v.map (mmv r)).toList ++ rest))) : W p l e R s m args below meth c H locs cells slots Q (F0 m pc ls st0) := by
  intro T hT X
  obtain ⟨v', st₀, t, T', L, e0, X', hL, e1, e2, ⟨hv, hw, hz, hk⟩, st⟩ := hr T hT X
  cases hv
  rw [e0] at hz hk
  have hA : ∀ q, mmA r h q → mmA r h0 q := by
    intro q hq
    rcases hq with ⟨i, ho, hi, rfl⟩ | hq
    · exact mmA.of hb0 ho
    · have h2 := hb0 h0.length (Nat.le_refl _)
      rw [hW.base] at hq
      exact Or.inr (Nat.le_trans (by have := hS.1; omega) hq)
  have hS' : va_S (mmA r h0) s.heap T'.heap (locs ++ L) := ⟨Nat.le_trans hS.1 (by rw [e1]; exact hz), fun q h1 h2 => by rw [e1, hk q (Nat.lt_of_lt_of_le h1 hS.1) (fun z => h2 (hA q z))]; exact hS.2.1 q h1 h2, fun q hq => by
    rcases List.mem_append.mp hq with h | h
    · exact hS.2.2 q h
    · exact hA _ (hL q h)⟩
  obtain ⟨t2, a1, b1⟩ := kk T'.heap (locs ++ L) (by rw [e1]; exact hw) hS' T' rfl X'
  exact ⟨t2, st t2 a1, b1⟩
theorem mm_stk (r : Nat → Nat) (st : List Value) (k : Nat) : st.map (mmv r) = ((st.take k).reverse.map (mmv r)).reverse ++ (st.drop k).map (mmv r) := by
  rw [← List.map_reverse, List.reverse_reverse, ← List.map_append, List.take_append_drop]
theorem mm_wds (r : Nat → Nat) (st : List Value) : (List.map (fun v => v.category) (st.map (mmv r))).sum = mmWords st := by
  unfold mmWords
  rw [List.map_map]
  refine congrArg List.sum (List.map_congr_left fun v _ => ?_)
  exact mmv_cat r v
theorem mm_pay (C : mmCtx D cA p s m args meth c M) {M' : mmM} (hc : Cond.code M'.1 M'.2.1 M'.2.2.1 M'.2.2.2.1 ∈ mmGood) : ∀ w ∈ mmWs M', ∀ (a' : Array Value) (U : State), s.WarmedH U.vm → w.before a' U = true := by
  refine pay_in (big := mmGood) C.2.2.2.2.2.2.1 fun w hw => ?_
  have hg : w ∈ mmGood := by
    rcases List.mem_cons.mp hw with h | h
    · rw [h]; exact hc
    · exact h
  exact ⟨hg, good_of_word (List.mem_filter.mp hg).2⟩
theorem mmCall_spec {kd y k ci : Nat} {t : List Nat} {st as rr : List Value} {h : List mmC} {M' : mmM} (hc : mmCall PT (kd :: y :: k :: ci :: t) st h = some (M', as, rr)) : PT[y]? = some M' ∧ as = (st.take k).reverse ∧ rr = st.drop k ∧ (st.take k).length = k ∧ mmWords rr ≤ 8 ∧ (mmSlots as).length ≤ M'.2.2.1 ∧ (¬ (kd = 2 ∨ kd = 3) → ∃ (a : Nat) (as0 : List Value) (co : mmC), as = .ref a :: as0 ∧ h[a]? = some co ∧ co.1 = ci ∧ ci < 1000) := by
  unfold mmCall at hc
  dsimp only at hc
  split at hc
  · cases hc
  · rename_i Mx hy
    split at hc
    · rename_i hcc
      split at hc
      · rename_i hkd
        cases hc
        exact ⟨hy, rfl, rfl, hcc.1, hcc.2.1, hcc.2.2, fun z => absurd hkd z⟩
      · split at hc
        · rename_i a0 as0 has
          split at hc
          · rename_i co hco
            split at hc
            · rename_i hci
              cases hc
              exact ⟨hy, rfl, rfl, hcc.1, hcc.2.1, hcc.2.2, fun _ => ⟨a0, as0, co, has, hco, hci.1, hci.2⟩⟩
            · cases hc
          · cases hc
        · cases hc
    · cases hc
theorem mm_addsub {a b c : Nat} (h1 : a ≤ b) (h2 : b ≤ c) : b - a + (c - b) = c - a := by omega
/-- a call -/
theorem mm_call {n : Nat} (ih : mmRun l D cA r PT n) {i kd y k ci pc : Nat} {t : List Nat} {ins : Instr} {M' : mmM} {as rr st : List Value} {h h1 : List mmC} {v : Option Value} {lv : List (Option Value)} {ls : Array Slot} {H : Heap} {locs : List Loc} (hPT : mmOkT PT) (C : mmCtx D cA p s m args meth c M) (hRf : M.2.2.2.2.1 ≤ R.frames) (hRl : M.2.2.2.2.2.1 ≤ R.locals)
    (hk : ins = .invokevirtual i ∧ (kd = 0 ∨ kd = 1) ∨ ins = .invokestatic i ∧ (kd = 2 ∨ kd = 3) ∨ ins = .invokespecial i ∧ (kd = 4 ∨ kd = 5)) (hok : ∀ M', PT[y]? = some M' → mmOkC M i kd k ci M') (hdg : decode M.2.1 pc = .ok (ins, 3))
    (hc : mmCall PT (kd :: y :: k :: ci :: t) st h = some (M', as, rr)) (hr : mx PT n M'.2.2.2.2.2.2 0 (mmEntry M'.2.2.1 as) [] h = some (v, h1)) (hlen : lv.length = M.2.2.1) (hL : mmLs r ls lv) (hW : mmW D cA r h H) (hS : va_S (mmA r h0) s.heap H locs) (hb0 : ∀ j : Nat, h0.length ≤ j → r j + h0.length = s.heap.size + j) (hle : h0.length ≤ h.length) (hsl : mmSl h0 ≤ mmSl h)
    (hcells : h1.length - h0.length ≤ R.cells) (hslots : mmSl h1 - mmSl h0 ≤ R.slots)
    (kk : ∀ (H' : Heap) (locs' : List Loc), mmW D cA r h1 H' → va_S (mmA r h0) s.heap H' locs' → W p l e R s m args below meth c H' locs' (h1.length - h0.length) (mmSl h1 - mmSl h0) Q (F0 m (pc + 3) ls ((v.toList ++ rr).map (mmv r)))) :
    W p l e R s m args below meth c H locs (h.length - h0.length) (mmSl h - mmSl h0) Q (F0 m pc ls (st.map (mmv r))) := by
  have hmono := mx_mono PT n hr
  obtain ⟨hy, has, hrr, hck, hcw, hcl, hrecv⟩ := mmCall_spec hc
  have hret : ∀ (H' : Heap) (locs' : List Loc), mmW D cA r h1 H' → va_S (mmA r h0) s.heap H' locs' → W p l e R s m args below meth c H' locs' (h.length - h0.length + (h1.length - h.length)) (mmSl h - mmSl h0 + (mmSl h1 - mmSl h)) Q (F0 m (pc + 3) ls ((v.map (mmv r)).toList ++ rr.map (mmv r))) := by
    intro H' locs' w1 w2
    have e1 : h.length - h0.length + (h1.length - h.length) = h1.length - h0.length := mm_addsub hle hmono.1
    have e2 : mmSl h - mmSl h0 + (mmSl h1 - mmSl h) = mmSl h1 - mmSl h0 := mm_addsub hsl hmono.2
    have e3 : (v.map (mmv r)).toList ++ rr.map (mmv r) = (v.toList ++ rr).map (mmv r) := by cases v <;> simp
    rw [e1, e2, e3]
    exact kk H' locs' w1 w2
  have hf : (h.length - h0.length) + (h1.length - h.length) ≤ R.cells ∧ (mmSl h - mmSl h0) + (mmSl h1 - mmSl h) ≤ R.slots := ⟨by rw [mm_addsub hle hmono.1]; exact hcells, by rw [mm_addsub hsl hmono.2]; exact hslots⟩
  have hsz : ls.size = M.2.2.1 := hL.2.1.trans hlen
  have hM' := hPT y M' hy
  obtain ⟨g1, g2, g3, g4, g5, g6, g7⟩ := hok M' hy
  have hts := C.2.2.2.2.2.2.1
  have hK := C.2.2.2.2.2.2.2.1
  have S : CallFix p m c M.2.1 M.2.2.1 s args mmGood M.1.cls := ⟨C.1, C.2.1, C.2.2.1, C.2.2.2.2.2.1, hts⟩
  have hlw : ∀ g : JFrame, g.monitorRoom = 0 → 2 * g.monitorRoom + ((rr.map (mmv r)).map fun v => v.category).sum ≤ 8 := by
    intro g hg
    rw [mm_wds, hg]
    omega
  have hMet := mmMet ih hM' hr hcl
  have hst : st.map (mmv r) = (as.map (mmv r)).reverse ++ rr.map (mmv r) := by rw [has, hrr]; exact mm_stk r st k
  have hal : as.length = k := by rw [has]; simpa using hck
  have hfr : (mmRm M' h h1).frames + 1 ≤ R.frames := Nat.le_trans g2 hRf
  have hlo : 8 + (M'.2.2.1 + 11) + (mmRm M' h h1).locals ≤ R.locals := Nat.le_trans g3 hRl
  have hpay := mm_pay C g4
  have hb2 : va_S (mmA r h0) s.heap H locs := hS
  rcases hk with ⟨rfl, hkd⟩ | ⟨rfl, hkd⟩ | ⟨rfl, hkd⟩
  · -- a method of the object's class
    rcases g6 with ⟨-, gd, gi, gs, q, gq, gc⟩ | ⟨gk, -⟩ | ⟨gk, -⟩
    · obtain ⟨a, as0, co, rfl, hco, rfl, hci⟩ := hrecv (by omega)
      have hn : ∀ sig, parseMethodDescriptor M'.1.desc = some sig → as0.length = sig.parameters.length := by
        intro sig hs
        rw [hs] at gd
        simp at gd hal
        omega
      obtain ⟨q', f1, f2, cell, q1, q2, q3, q4⟩ := (hW.1 a co hco).1 hci
      have hp : PreV s H M'.1.cls (r a) (mmPc D cA r h (.ref a :: as0)) (as0.map (mmv r)) := ⟨mmPc_blind _ _ _ _ _, ⟨cell, q1, by rw [q3]; rfl, by rw [← gc, q2]; exact (hK.1 _ _ gq).2.1⟩, fun U hU hWm => ⟨rfl, by rw [hU]; exact hW, hK.warm hWm⟩⟩
      have hstk : (F0 m pc ls (st.map (mmv r))).stack = (as0.map (mmv r)).reverse ++ .ref (r a) :: rr.map (mmv r) := by
        show st.map (mmv r) = _
        rw [hst]
        simp [mmv]
      rcases g7 with ⟨-, gl⟩ | ⟨-, host, gl⟩
      · exact mm_after hW hS hb0 (va_runV (n := as0.length) S hMet ⟨⟨rfl, rfl, hfr, hlo, hpay, List.mem_cons_self, hts _ g4, hts _ g5, g1, hn, hts _ gl⟩, hts _ gi, hts _ gs⟩ hp rfl (by simp) hsz hstk (hlw _ rfl) hdg hf) hret
      · exact mm_after hW hS hb0 (va_runVN (n := as0.length) S hMet ⟨⟨⟨rfl, rfl, hfr, hlo, hpay, List.mem_cons_self⟩, hts _ g4, hts _ g5, g1, hn, va_Nw.use rfl (hK.2.2.1 _ gl)⟩, hts _ gi, hts _ gs⟩ hp rfl (by simp) hsz hstk (hlw _ rfl) hdg hf) hret
    · omega
    · omega
  · -- a static one
    rcases g6 with ⟨gk, -⟩ | ⟨-, gd, gs⟩ | ⟨gk, -⟩
    · omega
    · have hn : ∀ sig, parseMethodDescriptor M'.1.desc = some sig → as.length = sig.parameters.length := by
        intro sig hs
        rw [hs] at gd
        simp at gd
        omega
      have hp : PreS s H (mmPc D cA r h as) (as.map (mmv r)) := ⟨mmPc_blind _ _ _ _ _, fun U hU hWm => ⟨rfl, by rw [hU]; exact hW, hK.warm hWm⟩⟩
      rcases g7 with ⟨-, gl⟩ | ⟨-, host, gl⟩
      · exact mm_after hW hS hb0 (va_runS (n := as.length) S hMet ⟨⟨rfl, rfl, hfr, hlo, hpay, List.mem_cons_self, hts _ g4, hts _ g5, g1, hn, hts _ gl⟩, hts _ gs⟩ hp rfl (by simp) hsz hst (hlw _ rfl) hdg hf) hret
      · exact mm_after hW hS hb0 (va_runSN (n := as.length) S hMet ⟨⟨⟨rfl, rfl, hfr, hlo, hpay, List.mem_cons_self⟩, hts _ g4, hts _ g5, g1, hn, va_Nw.use rfl (hK.2.2.1 _ gl)⟩, hts _ gs, trivial⟩ hp rfl (by simp) hsz hst (hlw _ rfl) hdg hf) hret
    · omega
  · -- a constructor
    rcases g6 with ⟨gk, -⟩ | ⟨gk, -⟩ | ⟨-, gd, gi, gm, gr⟩
    · omega
    · omega
    · obtain ⟨a, as0, co, rfl, hco, rfl, hci⟩ := hrecv (by omega)
      have hn : ∀ sig, parseMethodDescriptor M'.1.desc = some sig → as0.length = sig.parameters.length := by
        intro sig hs
        rw [hs] at gd
        simp at gd hal
        omega
      have hp : PreS s H (mmPc D cA r h (.ref a :: as0)) (.ref (r a) :: as0.map (mmv r)) := ⟨mmPc_blind _ _ _ _ _, fun U hU hWm => ⟨rfl, by rw [hU]; exact hW, hK.warm hWm⟩⟩
      have hstk : (F0 m pc ls (st.map (mmv r))).stack = (as0.map (mmv r)).reverse ++ .ref (r a) :: rr.map (mmv r) := by
        show st.map (mmv r) = _
        rw [hst]
        simp [mmv]
      have hcd : Cond.code M'.1 M'.2.1 M'.2.2.1 none ∈ mmWs M' := by rw [← gr]; exact List.mem_cons_self
      have hcd2 : (Cond.code M'.1 M'.2.1 M'.2.2.1 none).before args s = true := by rw [← gr]; exact hts _ g4
      rcases g7 with ⟨-, gl⟩ | ⟨-, host, gl⟩
      · exact mm_after hW hS hb0 (va_runI (n := as0.length) S hMet ⟨⟨rfl, rfl, hfr, hlo, hpay, hcd, hcd2, hts _ g5, g1, hn, hts _ gl⟩, gm, hts _ gi⟩ hp rfl (by simp) hsz hstk (hlw _ rfl) hdg hf) hret
      · exact mm_after hW hS hb0 (va_runIN (n := as0.length) S hMet ⟨⟨⟨rfl, rfl, hfr, hlo, hpay, hcd⟩, hcd2, hts _ g5, g1, hn, va_Nw.use rfl (hK.2.2.1 _ gl)⟩, gm, hts _ gi⟩ hp rfl (by simp) hsz hstk (hlw _ rfl) hdg hf) hret
/-- what a copy leaves -/
theorem mmV_cpy {xs ys : List Value} {sp dp n : Nat} (h1 : sp + n ≤ xs.length) (h2 : dp + n ≤ ys.length) (k : Nat) (hk : k < ys.length) : va_cpy (mmV r xs) (mmV r ys) sp dp n k = mmV r (mmCpy xs ys sp dp n) k := by
  unfold va_cpy mmCpy mmV
  have ht : (ys.take dp).length = dp := by rw [List.length_take]; omega
  by_cases hd : k < dp
  · rw [if_neg (by omega)]
    rw [List.getD_eq_getElem?_getD, List.getD_eq_getElem?_getD, List.getElem?_append_left (by omega), List.getElem?_take, if_pos hd]
  · have hm : ((xs.drop sp).take n).length = n := by rw [List.length_take, List.length_drop]; omega
    by_cases hn : k < dp + n
    · rw [if_pos ⟨by omega, hn⟩]
      rw [List.getD_eq_getElem?_getD, List.getD_eq_getElem?_getD, List.getElem?_append_right (by omega), ht, List.getElem?_append_left (by omega), List.getElem?_take, if_pos (by omega), List.getElem?_drop]
    · rw [if_neg (by omega)]
      rw [List.getD_eq_getElem?_getD, List.getD_eq_getElem?_getD, List.getElem?_append_right (by omega), ht, List.getElem?_append_right (by omega), hm, List.getElem?_drop, show dp + n + (k - dp - n) = k by omega]
theorem mm_nn (z : Int32) (hz : ¬ z < 0) : z.toInt = (z.toNatClampNeg : Int) := by
  have hz0 : (0 : Int) ≤ z.toInt := by
    have := Int32.not_lt.mp hz
    simpa using Int32.le_iff_toInt_le.mp this
  show z.toInt = ((z.toInt.toNat : Nat) : Int)
  omega
theorem mm_copy {i pc : Nat} {st rr : List Value} {h h' : List mmC} {ls : Array Slot} {H : Heap} {locs : List Loc} {cells slots : Nat} (C : mmCtx D cA p s m args meth c M) (hml : ls.size = M.2.2.1) (z1 : 1 ≤ R.frames) (z2 : 8 + (nativeFrameWords "java/lang/System" "arraycopy" 5 + 11) ≤ R.locals) (z3 : Cond.methodLink M.1.cls i arraycopyName ∈ mmGood) (z4 : Cond.native arraycopyName ∈ mmGood) (z5 : Cond.static arraycopyName ∈ mmGood) (z6 : Cond.initialized "java/lang/System" ∈ mmGood) (hdg : decode M.2.1 pc = .ok (.invokestatic i, 3)) (hW : mmW D cA r h H) (hS : va_S (mmA r h0) s.heap H locs) (hb0 : ∀ j : Nat, h0.length ≤ j → r j + h0.length = s.heap.size + j)
    (hc : mmCopy st h = some (rr, h')) (kk : ∀ (H' : Heap) (locs' : List Loc), mmW D cA r h' H' → va_S (mmA r h0) s.heap H' locs' → W p l e R s m args below meth c H' locs' cells slots Q (F0 m (pc + 3) ls (rr.map (mmv r)))) : W p l e R s m args below meth c H locs cells slots Q (F0 m pc ls (st.map (mmv r))) := by
  obtain ⟨n, dp, sp, a, b, ca, cb, rfl, ha, hb', t1, t2, g1, g2, g3, g4, g5, g6, g7, g8, rfl⟩ := mmCopy_spec hc
  have hts := C.2.2.2.2.2.2.1
  have hK := C.2.2.2.2.2.2.2.1
  have hca := (hW.1 a ca ha).2.1 (by rw [t1]; decide) (by rw [t1]; decide)
  have hcb := (hW.1 b cb hb').2.1 (by rw [t2]; decide) (by rw [t2]; decide)
  rw [t1] at hca
  rw [t2] at hcb
  have hai := mm_int hK
  intro T hT X
  obtain ⟨-, k0, hk0, cm0, hkk0⟩ := hai.1 ca.2.length (mmV r ca.2)
  obtain ⟨-, k1, hk1, cm1, hkk1⟩ := hai.1 cb.2.length (mmV r cb.2)
  obtain ⟨vm', X', step⟩ := X.arraycopy C.1 C.2.2.2.2.2.1 (hts _ z3) (hts _ z4) (hts _ z5) (hts _ z6) (src := r a) (dst := r b) (cs := arrV (cA.1 1000) ca.2.length (mmV r ca.2)) (cd := arrV (cA.1 1000) cb.2.length (mmV r cb.2)) (srcPos := sp) (destPos := dp) (n := n) (by rw [hT]; exact hca) (by rw [hT]; exact hcb)
    (fun _ h => by cases h) (fun _ h => by cases h) (fun h => by cases h) (fun h => by cases h) hk0 hk1 hkk0 hkk1 (by simp [refKind]) g1 g2 g3
    (by rw [mm_nn sp g1, mm_nn n g3, arrV_size]; omega)
    (by rw [mm_nn dp g2, mm_nn n g3, arrV_size]; omega)
    (fun vm₁ _ i hi => by
      have e : (arrV (cA.1 1000) ca.2.length (mmV r ca.2)).slots.getD (sp.toNatClampNeg + i) .null = mmV r ca.2 (sp.toNatClampNeg + i) := by
        rw [Array.getD_eq_getD_getElem?, arrV_read _ _ (by omega)]
        rfl
      obtain ⟨x, hx⟩ : ∃ x, mmV r ca.2 (sp.toNatClampNeg + i) = .int x := by
        have hlt : sp.toNatClampNeg + i < ca.2.length := by omega
        have hm := List.all_eq_true.mp g6 _ (List.getElem_mem hlt)
        unfold mmV
        rw [List.getD_eq_getElem?_getD, List.getElem?_eq_getElem hlt]
        generalize ca.2[sp.toNatClampNeg + i] = w at hm ⊢
        cases w <;> first | exact ⟨_, rfl⟩ | cases hm
      refine ⟨?_, ?_⟩
      · rw [e, hx]
        rfl
      · rw [e, hx]
        exact trivial)
    (g := F0 m pc ls (.int n :: .int dp :: .ref (r b) :: .int sp :: .ref (r a) :: rr.map (mmv r))) rfl (by rw [C.2.2.1]; exact hml) (rest := rr.map (mmv r)) rfl (by rw [C.2.1]; exact hdg) z1 (by rw [mm_wds]; show 2 * 0 + _ + _ ≤ _; omega)
  have e1 : copied (arrV (cA.1 1000) ca.2.length (mmV r ca.2)) (arrV (cA.1 1000) cb.2.length (mmV r cb.2)) sp dp n = arrV (cA.1 1000) cb.2.length (va_cpy (mmV r ca.2) (mmV r cb.2) sp.toNatClampNeg dp.toNatClampNeg n.toNatClampNeg) := va_copied (fun z => z) (cA.1 1000) (cA.1 1000) (mmV r ca.2) (mmV r cb.2) g4
  rw [e1] at X' step
  have hl : r b < H.size := (Array.getElem?_eq_some_iff.mp hcb).1
  have hbl : b < h.length := (List.getElem?_eq_some_iff.mp hb').1
  generalize hcell : arrV (cA.1 1000) cb.2.length (va_cpy (mmV r ca.2) (mmV r cb.2) sp.toNatClampNeg dp.toNatClampNeg n.toNatClampNeg) = cell at X' step
  have hheap : ((T.setVm vm').setCell (r b) cell).heap = H.setIfInBounds (r b) cell := by rw [← hT]; rfl
  have oq : ∀ q : Nat, q ≠ r b → (H.setIfInBounds (r b) cell)[q]? = H[q]? := fun q hq => by simp [Array.getElem?_setIfInBounds, Ne.symm hq]
  have hz : (H.setIfInBounds (r b) cell).size = H.size := by simp
  have hself : (H.setIfInBounds (r b) cell)[r b]? = some cell := by simp [Array.getElem?_setIfInBounds, hl]
  have hW' : mmW D cA r (h.set b (1000, mmCpy ca.2 cb.2 sp.toNatClampNeg dp.toNatClampNeg n.toNatClampNeg)) (H.setIfInBounds (r b) cell) := by
    refine hW.set hbl hz oq ⟨fun hh => absurd hh (Nat.lt_irrefl 1000), fun _ _ => ?_, fun hh => absurd hh (by show ¬ (1000 : Nat) = 1999; decide)⟩
    rw [hself, ← hcell]
    refine congrArg some ?_
    show arrV _ _ _ = arrV (cA.1 1000) (mmCpy ca.2 cb.2 sp.toNatClampNeg dp.toNatClampNeg n.toNatClampNeg).length _
    rw [mmCpy_len g4 g5]
    exact mm_arrV fun k hk => mmV_cpy g4 g5 k hk
  obtain ⟨t, a1, b1⟩ := kk _ _ hW' ⟨by rw [hz]; exact hS.1, fun q g1 g2 => by rw [oq q (fun e => g2 (by rw [e]; exact mmA.of hb0 g8))]; exact hS.2.1 q g1 g2, fun q hq => by
      rcases List.mem_append.mp hq with h | h
      · exact hS.2.2 q h
      · obtain ⟨z, -, hz⟩ := List.mem_map.mp h
        rw [← hz]
        exact mmA.of hb0 g8⟩ _ hheap X'
  exact ⟨t, step t a1, b1⟩
end MMY
