/-! THE MINI MACHINE, part 4: branches, calls, returns: a run of it is a contract of the machine -/
theorem mmS_mono {ins : Instr} {ax : List Nat} {pc pc' : Nat} {lv lv' : List (Option Value)} {st st' : List Value} {h h' : List mmC} (hs : mmS ins ax pc lv st h = some (pc', lv', st', h')) : h.length ≤ h'.length ∧ mmSl h ≤ mmSl h' ∧ lv'.length = lv.length := by
  have a1 : ∀ {i : Nat} {v : Value} {w : List (Option Value)}, mmSet1 lv i v = some w → w.length = lv.length := fun {i v w} hh => by
    unfold mmSet1 at hh
    split at hh
    · cases hh; rw [List.length_set]
    · cases hh
  have a2 : ∀ {i : Nat} {v : Value} {w : List (Option Value)}, mmSet2 lv i v = some w → w.length = lv.length := fun {i v w} hh => by
    unfold mmSet2 at hh
    split at hh
    · cases hh; rw [List.length_set, List.length_set]
    · cases hh
  unfold mmS at hs
  split at hs <;> (try split at hs) <;> (try split at hs) <;> (try split at hs) <;> (try split at hs) <;> first
    | (cases hs; done)
    | (cases hs; exact ⟨Nat.le_refl _, Nat.le_refl _, rfl⟩)
    | (obtain ⟨w, hv, he⟩ := Option.map_eq_some_iff.mp hs; cases he; exact ⟨Nat.le_refl _, Nat.le_refl _, a1 hv⟩)
    | (obtain ⟨w, hv, he⟩ := Option.map_eq_some_iff.mp hs; cases he; exact ⟨Nat.le_refl _, Nat.le_refl _, a2 hv⟩)
    | (obtain ⟨w, hv, he⟩ := Option.map_eq_some_iff.mp hs; cases he; exact ⟨Nat.le_refl _, Nat.le_refl _, rfl⟩)
    | (rename_i ha _; cases hs; exact ⟨by rw [List.length_set]; exact Nat.le_refl _, by rw [mmSl_set ha (by rw [List.length_set])]; exact Nat.le_refl _, rfl⟩)
    | (rename_i ha _ _; cases hs; exact ⟨by rw [List.length_set]; exact Nat.le_refl _, by rw [mmSl_set ha (by rw [List.length_set])]; exact Nat.le_refl _, rfl⟩)
    | (cases hs; exact ⟨by simp, by rw [mmSl_push]; exact Nat.le_add_right _ _, rfl⟩)
    | (cases hs; exact ⟨by simp, by rw [mmSl_app]; exact Nat.le_add_right _ _, rfl⟩)
theorem mmCpy_len {xs ys : List Value} {sp dp n : Nat} (h1 : sp + n ≤ xs.length) (h2 : dp + n ≤ ys.length) : (mmCpy xs ys sp dp n).length = ys.length := by
  unfold mmCpy
  simp only [List.length_append, List.length_take, List.length_drop]
  omega
theorem mmCopy_spec {st rr : List Value} {h h' : List mmC} (hc : mmCopy st h = some (rr, h')) : ∃ (n dp sp : Int32) (a b : Nat) (ca cb : mmC), st = .int n :: .int dp :: .ref b :: .int sp :: .ref a :: rr ∧ h[a]? = some ca ∧ h[b]? = some cb ∧ ca.1 = 1000 ∧ cb.1 = 1000 ∧ ¬ sp < 0 ∧ ¬ dp < 0 ∧ ¬ n < 0 ∧ sp.toNatClampNeg + n.toNatClampNeg ≤ ca.2.length ∧ dp.toNatClampNeg + n.toNatClampNeg ≤ cb.2.length ∧ ca.2.all mmIsI = true ∧ mmWords rr ≤ 8 ∧ mmRo ≤ b ∧ h' = h.set b (1000, mmCpy ca.2 cb.2 sp.toNatClampNeg dp.toNatClampNeg n.toNatClampNeg) := by
  unfold mmCopy at hc
  split at hc
  · split at hc
    · rename_i ca cb h1 h2
      split at hc
      · rename_i hcc
        cases hc
        exact ⟨_, _, _, _, _, ca, cb, rfl, h1, h2, hcc.1, hcc.2.1, hcc.2.2.1, hcc.2.2.2.1, hcc.2.2.2.2.1, hcc.2.2.2.2.2.1, hcc.2.2.2.2.2.2.1, hcc.2.2.2.2.2.2.2.1, hcc.2.2.2.2.2.2.2.2.1, hcc.2.2.2.2.2.2.2.2.2, rfl⟩
      · cases hc
    · cases hc
  · cases hc
theorem mmCopy_mono {st rr : List Value} {h h' : List mmC} (hc : mmCopy st h = some (rr, h')) : h'.length = h.length ∧ mmSl h' = mmSl h := by
  obtain ⟨n, dp, sp, a, b, ca, cb, -, h1, h2, -, -, -, -, -, h3, h4, -, -, -, rfl⟩ := mmCopy_spec hc
  exact ⟨List.length_set, mmSl_set h2 (mmCpy_len h3 h4)⟩
theorem mx_mono (PT : List mmM) : ∀ (n : Nat) {t : List mmI} {pc : Nat} {lv : List (Option Value)} {st : List Value} {h hE : List mmC} {v : Option Value}, mx PT n t pc lv st h = some (v, hE) → h.length ≤ hE.length ∧ mmSl h ≤ mmSl hE := by
  intro n
  induction n with
  | zero => intro t pc lv st h hE v hm; unfold mx at hm; cases hm
  | succ n ih =>
    intro t pc lv st h hE v hm
    have call : ∀ {M : mmM} {as rr : List Value} {pc' : Nat}, (match mx PT n M.2.2.2.2.2.2 0 (mmEntry M.2.2.1 as) [] h with
          | none => none
          | some (v, h') => mx PT n t pc' lv (v.toList ++ rr) h') = some (v, hE) → h.length ≤ hE.length ∧ mmSl h ≤ mmSl hE := by
      intro M as rr pc' hh
      split at hh
      · cases hh
      · rename_i h1
        have e1 := ih h1
        have e2 := ih hh
        exact ⟨Nat.le_trans e1.1 e2.1, Nat.le_trans e1.2 e2.2⟩
    unfold mx at hm
    split at hm
    · cases hm
    split at hm
    · split at hm
      · split at hm <;> exact ih hm
      · cases hm
    · split at hm
      · split at hm <;> exact ih hm
      · cases hm
    · split at hm
      · exact ih hm
      · cases hm
    · split at hm
      · split at hm
        · exact ih hm
        · split at hm
          · exact ih hm
          · cases hm
      · cases hm
    · split at hm
      · cases hm; exact ⟨Nat.le_refl _, Nat.le_refl _⟩
      · split at hm <;> cases hm
        exact ⟨Nat.le_refl _, Nat.le_refl _⟩
      · cases hm
    · split at hm <;> cases hm
      exact ⟨Nat.le_refl _, Nat.le_refl _⟩
    · split at hm <;> cases hm
      exact ⟨Nat.le_refl _, Nat.le_refl _⟩
    · split at hm
      · cases hm
      · exact call hm
    · split at hm
      · split at hm
        · rename_i hcp
          have e1 := mmCopy_mono hcp
          have e2 := ih hm
          exact ⟨by rw [← e1.1]; exact e2.1, by rw [← e1.2]; exact e2.2⟩
        · cases hm
      · split at hm
        · cases hm
        · exact call hm
    · split at hm
      · split at hm
        · split at hm
          · exact ih hm
          · cases hm
        · cases hm
      · split at hm
        · cases hm
        · exact call hm
    · split at hm
      · rename_i hs
        have e1 := mmS_mono hs
        have e2 := ih hm
        exact ⟨Nat.le_trans e1.1 e2.1, Nat.le_trans e1.2.1 e2.2⟩
      · cases hm
/-- what a call's words are -/
def mmOkC (M : mmM) (i kd k ci : Nat) (M' : mmM) : Prop :=
  (M'.1.cls ≠ "java/lang/invoke/MethodHandle" ∧ M'.1.cls ≠ "java/lang/invoke/VarHandle") ∧
  M'.2.2.2.2.1 + 1 ≤ M.2.2.2.2.1 ∧ 8 + (M'.2.2.1 + 11) + M'.2.2.2.2.2.1 ≤ M.2.2.2.2.2.1 ∧
  Cond.code M'.1 M'.2.1 M'.2.2.1 M'.2.2.2.1 ∈ mmGood ∧ Cond.initialized M'.1.cls ∈ mmGood ∧
  ((kd = 0 ∨ kd = 1) ∧ (parseMethodDescriptor M'.1.desc).map (fun d => d.parameters.length + 1) = some k ∧ Cond.instanceMethod M'.1 ∈ mmGood ∧ Cond.selects M'.1.cls M'.1 M'.1 ∈ mmGood ∧ (∃ q, vwCl[ci]? = some q ∧ q.1 = M'.1.cls) ∨
   (kd = 2 ∨ kd = 3) ∧ (parseMethodDescriptor M'.1.desc).map (fun d => d.parameters.length) = some k ∧ Cond.static M'.1 ∈ mmGood ∨
   (kd = 4 ∨ kd = 5) ∧ (parseMethodDescriptor M'.1.desc).map (fun d => d.parameters.length + 1) = some k ∧ Cond.instanceMethod M'.1 ∈ mmGood ∧ M'.1.name = "<init>" ∧ M'.2.2.2.1 = none) ∧
  ((kd = 0 ∨ kd = 2 ∨ kd = 4) ∧ Cond.methodLink M.1.cls i M'.1 ∈ mmGood ∨ (kd = 1 ∨ kd = 3 ∨ kd = 5) ∧ ∃ host, Cond.methodLinkNest M.1.cls i M'.1 host ∈ mmNest)
def mmOkI (PT : List mmM) (M : mmM) (pc : Nat) (ins : Instr) (ax : List Nat) : Prop := match ins with
  | .ifCond _ off => ∀ tg t, ax = tg :: t → (pc : Int) + off = (tg : Int)
  | .if_icmp _ off => ∀ tg t, ax = tg :: t → (pc : Int) + off = (tg : Int)
  | .goto off => ∀ tg t, ax = tg :: t → (pc : Int) + off = (tg : Int)
  | .tableswitch dflt _ _ offs => ∀ df tgs, ax = df :: tgs → (pc : Int) + dflt = (df : Int) ∧ ∀ (j tg : Nat), tgs[j]? = some tg → ∃ off, offs[j]? = some off ∧ (pc : Int) + off = (tg : Int)
  | .ireturn => (ax = [] → M.2.2.2.1 = some .int) ∧ (ax ≠ [] → M.2.2.2.1 = some .boolean)
  | .lreturn => M.2.2.2.1 = some .long
  | .return_ => M.2.2.2.1 = none
  | .invokevirtual i => ∀ kd y k ci t, ax = kd :: y :: k :: ci :: t → (kd = 0 ∨ kd = 1) ∧ ∀ M', PT[y]? = some M' → mmOkC M i kd k ci M'
  | .invokestatic i => (∀ a b, ax = [8, a, b] → 1 ≤ M.2.2.2.2.1 ∧ 8 + (nativeFrameWords "java/lang/System" "arraycopy" 5 + 11) ≤ M.2.2.2.2.2.1 ∧ Cond.methodLink M.1.cls i arraycopyName ∈ mmGood ∧ Cond.native arraycopyName ∈ mmGood ∧ Cond.static arraycopyName ∈ mmGood ∧ Cond.initialized "java/lang/System" ∈ mmGood) ∧
      ∀ kd y k ci t, ax = kd :: y :: k :: ci :: t → (kd = 2 ∨ kd = 3) ∧ ∀ M', PT[y]? = some M' → mmOkC M i kd k ci M'
  | .invokespecial i => (∀ a b, ax = [9, a, b] → 1 ≤ M.2.2.2.2.1 ∧ 20 ≤ M.2.2.2.2.2.1 ∧ Cond.methodLink M.1.cls i objectInit ∈ mmGood ∧ Cond.instanceMethod objectInit ∈ mmGood ∧ Cond.code objectInit ⟨#[0xb1]⟩ 1 none ∈ mmGood) ∧
      ∀ kd y k ci t, ax = kd :: y :: k :: ci :: t → (kd = 4 ∨ kd = 5) ∧ ∀ M', PT[y]? = some M' → mmOkC M i kd k ci M'
  | _ => mmOkS M ins ax
def mmIsSw : Instr → Bool
  | .tableswitch _ _ _ _ => true
  | _ => false
def mmOkM (PT : List mmM) (M : mmM) : Prop := plainFor M.1 = true ∧ ∀ (pc : Nat) (ins : Instr) (len : Nat) (ax : List Nat), mmFetch M.2.2.2.2.2.2 pc = some (ins, len, ax) → decode M.2.1 pc = .ok (ins, len) ∧ (mmIsSw ins = true ∨ len = mmLen ins) ∧ mmOkI PT M pc ins ax
def mmOkT (PT : List mmM) : Prop := ∀ (y : Nat) (M : mmM), PT[y]? = some M → mmOkM PT M
def mmPc (D : va_G) (cA : (Nat → ClassId) × Cell) (r : Nat → Nat) (h : List mmC) (as : List Value) : Array Value → State → Prop := fun v U => v = (as.map (mmv r)).toArray ∧ mmW D cA r h U.heap ∧ mmK D cA U
def mmQc (D : va_G) (cA : (Nat → ClassId) × Cell) (r : Nat → Nat) (h : List mmC) (v : Option Value) (h' : List mmC) : Array Value → State → Outcome → State → Prop := fun _ st o t => o = .returned (v.map (mmv r)) ∧ mmW D cA r h' t.heap ∧ va_F (mmA r h) st t
def mmRm (M : mmM) (h h' : List mmC) : Room := { frames := M.2.2.2.2.1, cells := h'.length - h.length, slots := mmSl h' - mmSl h, locals := M.2.2.2.2.2.1 }
def mmWs (M : mmM) : List Jvm.Cond := Cond.code M.1 M.2.1 M.2.2.1 M.2.2.2.1 :: mmGood
theorem mmPc_blind (D : va_G) (cA : (Nat → ClassId) × Cell) (r : Nat → Nat) (h : List mmC) (as : List Value) : FrameBlind (mmPc D cA r h as) := fun a U g mk q => ⟨q.1, q.2.1, mmK.same (u := U) (U := U.calling g mk a) rfl q.2.2⟩
def mmRetOk (ret : Option FieldType) (v : Option Value) : Prop :=
  (∃ x : Int32, v = some (.int x) ∧ (ret = some .int ∨ ret = some .boolean ∧ (x = 0 ∨ x = 1))) ∨ (∃ x : Int64, v = some (.long x) ∧ ret = some .long) ∨ v = none ∧ ret = none
def mmRet : Option Value → Instr
  | none => .return_
  | some (.long _) => .lreturn
  | _ => .ireturn
/-- a contract out of a walk, of a method that no native row replaces -/
theorem mmOfW {l : Launch} {y : MethodName} {ws ws' : List Cond} {rm : Room} {Pc : Array Value → State → Prop} {Qc : Array Value → State → Outcome → State → Prop} {mc ms : Nat} {free : Addr → Prop} {cc : ByteArray} {maxL : Nat} {ret : Option FieldType}
    (hy : plainFor y = true) (hw : ws = Cond.code y cc maxL ret :: ws')
    (body : ∀ p e s m args below meth c s₁, BodyLoose p l y (headSpec ws rm) cc maxL ret e s m args below meth c s₁ → c.maxLocals = maxL → Pc args s →
      W p l e (headSpec ws rm).room s m args below meth c s.heap [] 0 0 (MQ below Qc args s mc ms free) (entryFrame m args maxL)) : Met l y ws rm Pc Qc mc ms free := by
  refine MetFree.of_bodySF (code := cc) (maxLocals := maxL) (ret := ret) hy ?_ ?_
  · intro args s m h hn
    obtain ⟨meth, c, h1, h2, h3, h4, h5, h6, -, -⟩ := Cond.code_spec hn (atoms_spec (ws := ws) h _ (by rw [hw]; exact List.mem_cons_self))
    exact ⟨meth, c, h1, h2, h3, h4, h5, h6⟩
  · intro p e s m args below meth c s₁ B hml hP _
    have hh0 : s₁.heap = s.heap := by rw [B.state]; rfl
    obtain ⟨t, a1, o, b1, b2, b3⟩ := body p e s m args below meth c s₁ B hml hP s₁ hh0 (Stand.of_body B)
    exact ⟨t, o, a1, b1, b2, ⟨b3.1, b3.2⟩⟩
section MMX
variable {l : Launch} {D : va_G} {cA : (Nat → ClassId) × Cell} {r : Nat → Nat} {PT : List mmM}
/-- a run of the mini machine gives the machine's, from any point of a method on -/
def mmRun (l : Launch) (D : va_G) (cA : (Nat → ClassId) × Cell) (r : Nat → Nat) (PT : List mmM) (n : Nat) : Prop :=
  ∀ {p : Program} {e : Env} {R : Room} {s : State} {m : MethodId} {args : Array Value} {below : List Frame} {meth : Method} {c : Code} {Q : State → Prop} {M : mmM} {h0 hE : List mmC} {v : Option Value},
    mmOkM PT M → mmCtx D cA p s m args meth c M → M.2.2.2.2.1 ≤ R.frames → M.2.2.2.2.2.1 ≤ R.locals → hE.length - h0.length ≤ R.cells → mmSl hE - mmSl h0 ≤ R.slots → (∀ j : Nat, h0.length ≤ j → r j + h0.length = s.heap.size + j) →
    (∀ (pc : Nat) (ls : Array Slot) (H : Heap) (locs : List Loc), decode M.2.1 pc = .ok (mmRet v, 1) → mmRetOk M.2.2.2.1 v → mmW D cA r hE H → va_S (mmA r h0) s.heap H locs → W p l e R s m args below meth c H locs (hE.length - h0.length) (mmSl hE - mmSl h0) Q (F0 m pc ls (v.toList.map (mmv r)))) →
    ∀ {pc : Nat} {lv : List (Option Value)} {st : List Value} {h : List mmC} {ls : Array Slot} {H : Heap} {locs : List Loc}, mx PT n M.2.2.2.2.2.2 pc lv st h = some (v, hE) → lv.length = M.2.2.1 → mmLs r ls lv → mmW D cA r h H → va_S (mmA r h0) s.heap H locs → h0.length ≤ h.length → mmSl h0 ≤ mmSl h →
      W p l e R s m args below meth c H locs (h.length - h0.length) (mmSl h - mmSl h0) Q (F0 m pc ls (st.map (mmv r)))
/-- a method's contract out of a run -/
theorem mmMet {n : Nat} (ih : mmRun l D cA r PT n) {M : mmM} (hM : mmOkM PT M) {as : List Value} {h hE : List mmC} {v : Option Value} (hr : mx PT n M.2.2.2.2.2.2 0 (mmEntry M.2.2.1 as) [] h = some (v, hE)) (hl : (mmSlots as).length ≤ M.2.2.1) :
    Met l M.1 (mmWs M) (mmRm M h hE) (mmPc D cA r h as) (mmQc D cA r h v hE) (hE.length - h.length) (mmSl hE - mmSl h) (mmA r h) := by
  refine mmOfW (cc := M.2.1) (maxL := M.2.2.1) (ret := M.2.2.2.1) hM.1 rfl ?_
  intro p e s m args below meth c s₁ B hml hv
  obtain ⟨rfl, hW, hK⟩ := hv
  have hts : ∀ w ∈ mmWs M, w.before (as.map (mmv r)).toArray s = true := atoms_spec (ws := mmWs M) B.pre
  have hlocks : meth.locks = false := B.notSynchronized
  have C : mmCtx D cA p s m (as.map (mmv r)).toArray meth c M := ⟨B.exec, B.bytes, hml, B.returns, hlocks, findClass_of_methodNamed B.named, fun w hw => hts w (List.mem_cons_of_mem _ hw), hK, fun hh => (name_of_methodNamed B.named B.method).1.trans hh⟩
  rw [lg_entry_eq]
  have hK0 := ih (R := (headSpec (mmWs M) (mmRm M h hE)).room) (e := e) (below := below) (Q := MQ below (mmQc D cA r h v hE) (as.map (mmv r)).toArray s (hE.length - h.length) (mmSl hE - mmSl h) (mmA r h)) (h0 := h) hM C (Nat.le_refl _) (Nat.le_refl _) (Nat.le_refl _) (Nat.le_refl _) hW.2.2 (fun pc ls H locs hdg hok hWE hS => ?_) hr (by simp [mmEntry]; omega) (mmEntry_ls r hl) hW va_S.rf (Nat.le_refl _) (Nat.le_refl _)
  · rw [Nat.sub_self, Nat.sub_self] at hK0
    exact hK0
  · have hq : ∀ t : State, t.heap = H → s.WarmedH t.vm → mmQc D cA r h v hE (as.map (mmv r)).toArray s (.returned (v.map (mmv r))) t := fun t ht _ => ⟨rfl, by rw [ht]; exact hWE, hS.F ht⟩
    rcases hok with ⟨x, rfl, h1 | ⟨h1, h2⟩⟩ | ⟨x, rfl, h1⟩ | ⟨rfl, h1⟩
    · exact W.iret (v := x) B.exec B.bytes (B.returns.trans h1) hq hS.2.2 hdg hlocks
    · refine W.zret (v := x) B.exec B.bytes (B.returns.trans h1) ?_ hq hS.2.2 hdg hlocks
      rcases h2 with rfl | rfl <;> decide
    · exact W.lret (v := x) B.exec B.bytes (B.returns.trans h1) hq hS.2.2 hdg hlocks
    · exact W.vret B.exec B.bytes (B.returns.trans h1) hq hS.2.2 hdg hlocks
end MMX
